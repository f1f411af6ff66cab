/-! K AGAINST Z: the ends of statements -/
theorem Wr_L27 (s : T) : Wr (.mulL 27 s) 0 = 160 :: (Wr s 37 ++ [163]) := rfl
theorem Wr_L27' (s : T) : Wr (.mulL 27 s) 6 = 173 :: Wr s 37 := rfl
theorem Wr_37 (a l r : T) : Wr (.add a (.add l r)) 37 = Wr a 0 ++ (161 :: (Wr l 5 ++ Wr r 6)) := rfl
theorem W_mkIf : ∀ (r : List T) (s : T), wfI r = true → Wr (mkIf r (.mulL 27 s)) 0 = wX 173 r ++ (Wr s 37 ++ [163])
  | [], s, _ => rfl
  | [_], s, h => by simp [wfI] at h
  | l :: x :: r, s, h => by
    simp [wfI] at h
    show Wr (mkIf r (.mulL 27 (.add x (.add l (.mulL 27 s))))) 0 = _
    rw [W_mkIf r _ h.2, Wr_37, Wr_L27']
    simp [wX, List.append_assoc]
theorem Wr_l6 {l : T} (h : sh l 2 = true) : Wr l 6 = 162 :: Wr l 5 := by
  cases l with
  | add a b => rfl
  | var x =>
    simp [sh] at h
    simp [Wr, h]
  | num k => simp [sh] at h
  | mulL k a => simp [sh] at h
  | mulR a k => simp [sh] at h
theorem hasC_mkIf {q c : Nat} : ∀ (r : List T) (e : T), wfI r = true → (hasC (mkIf r e) q c ↔ hasT r q c ∨ hasC e q c)
  | [], e, _ => by
    show hasC e q c ↔ _
    constructor
    · exact Or.inr
    · rintro (z | z)
      · exact absurd z (hasT_nil q c)
      · exact z
  | [_], e, h => by simp [wfI] at h
  | l :: x :: r, e, h => by
    simp [wfI] at h
    show hasC (mkIf r (.mulL 27 (.add x (.add l e)))) q c ↔ _
    rw [hasC_mkIf r _ h.2, hasT_cons, hasT_cons]
    show (hasT r q c ∨ (hasC x q c ∨ (hasC l q c ∨ hasC e q c))) ↔ _
    constructor
    · rintro (z | z | z | z)
      · exact Or.inl (Or.inr (Or.inr z))
      · exact Or.inl (Or.inr (Or.inl z))
      · exact Or.inl (Or.inl z)
      · exact Or.inr z
    · rintro ((z | z | z) | z)
      · exact Or.inr (Or.inr (Or.inl z))
      · exact Or.inr (Or.inl z)
      · exact Or.inl z
      · exact Or.inr (Or.inr (Or.inr z))
theorem Cm_20 {op od : Nat → Int32} {own : Nat → Bool} {t : T} {lo hi : Nat} (hs : sh t 1 = true) (h : Cm op od own t 2 lo hi) : Cm op od own t 0 lo hi := by
  cases t with
  | mulL k s =>
    simp only [Cm] at h ⊢
    by_cases c : k = 27
    · rw [if_pos c] at h ⊢
      exact ⟨Or.inl trivial, h.2⟩
    · rw [if_neg c] at h
      omega
  | num k => simp [sh] at hs
  | var x => simp [sh] at hs
  | add a b => simp [sh] at hs
  | mulR s q => simp [sh] at hs
theorem Cm_27 {op od : Nat → Int32} {own : Nat → Bool} {x l e : T} {a b h hi : Nat} (h1 : Cm op od own x 0 a b) (h2 : op b = 21) (h3 : Cm op od own l 1 (b + 1) h) (h4 : (e = .var 98 ∧ hi = h ∧ od b = nI hi) ∨ (op h = 20 ∧ od h = nI hi ∧ od b = nI (h + 1) ∧ h < hi ∧ Cm op od own e 2 (h + 1) hi)) : Cm op od own (.mulL 27 (.add x (.add l e))) 2 a hi := by
  have l3 := Cm_le h3
  have lt : b < hi := by
    rcases h4 with h4 | h4 <;> omega
  simp [Cm]
  exact ⟨b, h1, h2, lt, h, h3, h4⟩
theorem Cm_L {op od : Nat → Int32} {own : Nat → Bool} {s : T} {k lo hi : Nat} (h27 : k ≠ 27) (h1 : lo ≤ hi) (h2 : Cm op od own s (cFmd k) lo hi) (h3 : op hi = cFop own k) (h4 : k = 25 ∨ k = 26 → od hi = nI lo) (h5 : 200 ≤ k → od hi = nI (k - 200)) : Cm op od own (.mulL k s) 0 lo (hi + 1) := by
  simp only [Cm]
  rw [if_neg h27]
  exact ⟨trivial, by omega, h2, h3, h4, h5⟩
theorem Cm_25 {op od : Nat → Int32} {own : Nat → Bool} {a b : T} {lo m hi : Nat} (h1 : Cm op od own a 0 lo m) (h2 : op m = 21) (h3 : od m = nI (hi + 1)) (h4 : op (m + 1) = 24) (h5 : Cm op od own b 1 (m + 2) hi) : Cm op od own (.add a b) 25 lo hi := by
  have := Cm_le h5
  simp only [Cm]
  rw [if_neg (by omega), if_neg (by omega), if_neg (by omega), if_pos trivial]
  exact ⟨m, h1, h2, h3, h4, by omega, h5⟩
theorem Cm_26 {op od : Nat → Int32} {own : Nat → Bool} {a b : T} {lo m hi : Nat} (h1 : op lo = 24) (h2 : Cm op od own a 1 (lo + 1) m) (h3 : Cm op od own b 0 m hi) : Cm op od own (.add a b) 26 lo hi := by
  simp only [Cm]
  rw [if_neg (by omega), if_neg (by omega), if_neg (by omega), if_neg (by omega), if_pos trivial]
  exact ⟨m, h1, h2, h3⟩
theorem Cm_5 {op od : Nat → Int32} {own : Nat → Bool} {a b : T} {lo m hi : Nat} (h1 : Cm op od own a 0 lo m) (h2 : Cm op od own b 0 m hi) : Cm op od own (.add a b) 5 lo hi := by
  simp only [Cm]
  rw [if_neg (by omega), if_pos trivial]
  exact ⟨m, h1, h2⟩
/-- the chain of jumps leads here -/
theorem chain_z {own : Nat → Bool} : ∀ (r : List T) (f : Int32) (lo m n : Nat) (c : zC) (e : T), wfI r = true → r.length ≤ 2 * n → m ≤ c.1 → c.1 ≤ 300 → Ch c own r f lo m → Cm c.2.1 c.2.2 own e 2 m c.1 →
    (kChain n f c).1 = c.1 ∧ (kChain n f c).2.1 = c.2.1 ∧ (∀ i, i < lo ∨ m ≤ i → (kChain n f c).2.2 i = c.2.2 i) ∧ Cm (kChain n f c).2.1 (kChain n f c).2.2 own (mkIf r e) 2 lo c.1
  | [], f, lo, m, n, c, e, _, _, _, _, h, g => by
    obtain ⟨rfl, rfl⟩ := h
    have : kChain n (-1) c = c := by
      cases n with
      | zero => rfl
      | succ n => rw [kChain, if_pos (Or.inl (by decide))]
    rw [this]
    exact ⟨rfl, rfl, fun _ _ => rfl, g⟩
  | [_], f, lo, m, n, c, e, h, _, _, _, _, _ => by simp [wfI] at h
  | l :: x :: r, f, lo, m, n, c, e, hw, hn, hm, hc, h, g => by
    simp [wfI] at hw
    obtain ⟨n, rfl⟩ : ∃ n', n = n' + 1 := ⟨n - 1, by simp at hn; omega⟩
    obtain ⟨g0, a, b, h', h1, h2, h3, h4, h5, h6, h7, rfl, rfl⟩ := h
    have l1 := Ch_le h1; have l2 := Cm_le h2; have l3 := Cm_le h5
    have p0 : ¬ nI h' < 0 := nI_pos (by omega)
    have p1 : ¬ (300 : Int32) ≤ nI h' := nI_ge (b := 300) (by omega) (by omega)
    have e1 : kChain (n + 1) (nI h') c = kChain n g0 (c.1, c.2.1, upd c.2.2 h' (nI c.1)) := by
      rw [kChain, if_neg (fun z => Or.elim z p0 p1), nI_clamp (by omega), h7]
    have o2 : ∀ i, i ≠ h' → upd c.2.2 h' (nI c.1) i = c.2.2 i := fun i q => pk_un q
    have ih := chain_z (own := own) r g0 lo a n (c.1, c.2.1, upd c.2.2 h' (nI c.1)) (.mulL 27 (.add x (.add l e))) hw.2 (by simp at hn; omega) (by show a ≤ c.1; omega) hc (Ch_same (c := c) (fun i q1 q2 => ⟨rfl, o2 i (by omega)⟩) h1) (Cm_27 (h := h') (Cm_same (op := c.2.1) (od := c.2.2) (fun i q1 q2 => ⟨rfl, o2 i (by omega)⟩) (by omega) h2) h3 (Cm_same (op := c.2.1) (od := c.2.2) (fun i q1 q2 => ⟨rfl, o2 i (by omega)⟩) (by omega) h5) (Or.inr ⟨h6, pk_us, (o2 b (by omega)).trans h4, by omega, Cm_same (op := c.2.1) (od := c.2.2) (fun i q1 q2 => ⟨rfl, o2 i (by omega)⟩) (by omega) g⟩))
    rw [e1]
    refine ⟨ih.1, ih.2.1, fun i hi => ?_, ih.2.2.2⟩
    rw [ih.2.2.1 i (by omega)]
    exact o2 i (by omega)
theorem kLead_lt {c : zC} {j : Nat} (h : j < c.1) (hc : c.1 ≤ 300) : kLead (nI j) c = (c.1, c.2.1, upd c.2.2 j (nI c.1)) := by
  unfold kLead
  have p0 : ¬ nI j < 0 := nI_pos (by omega)
  have p1 : ¬ nI c.1 ≤ nI j := nI_ge h (by omega)
  rw [if_neg (fun z => Or.elim z p0 p1), nI_clamp (by omega)]
section KT
variable {own : Nat → Bool} {tx : Nat → Nat} {e0 b0 pl t : Nat} {D0 : zD} {fs r : List zF} {pd pr : List zPd} {c c' : zC} {os : List zOs} {fl : Nat → Int32} {cl : (Nat → Int32) × (Nat → Int32)} {ow : Int32} {J : zJ} {B : Nat → T}
/-- a finished statement -/
theorem RK_add {s : T} {lo a : Nat} (hw : wfz r false) (hs : sh s 1 = true) (hx : CX own (pl + 1) r (pr, c, os, fl, cl, ow)) (hL : Ly c fl cl own tx e0 b0 D0 false r pr os lo a (lp r)) (h1 : Cm c.2.1 c.2.2 own s 0 lo c.1) (h2 : Fo tx fl a (pl + 1) (lp r) (pre (lp r) ++ Wr s 0) 1) (h3 : CaH cl.1 cl.2 (hasC s) a (pl + 1)) : RK own tx e0 b0 D0 (pl + 1) 10 [] (addSt r s) (pr, c, os, fl, cl, ow) := by
  have hpS : pS (addSt r s) = pS r := by
    cases r with
    | nil => rfl
    | cons f r =>
      obtain ⟨k, n, tr⟩ := f
      cases tr <;> rfl
  refine ⟨⟨hx.1, by rw [hpS]; exact hx.2.1, hx.2.2⟩, ?_⟩
  rw [if_neg (by omega), if_neg (by omega), if_pos rfl]
  refine ⟨Ly_add hw hs hL h1 h2 h3, ?_⟩
  obtain ⟨k, n, l, tr, r', rfl, e2, -, -⟩ := addSt_ok hw hs
  rw [e2]
  have hk : k = 9 ∨ k = 10 ∨ k = 12 ∨ k = 13 ∨ k = 14 ∨ k = 15 := by
    have := hw.2
    omega
  simp only [lp]
  rw [if_pos hk]
  show (if isNil (snoc l s) = true then 0 else 2) = 2
  rw [isNil_snoc]
  rfl
/-- the last frame becomes another -/
theorem RK_rep {nx k n p' lo a : Nat} {tr : List T} {f s : Int32} {pt : Bool} (hn : nx ≠ 23 ∧ nx ≠ 10) (hx : CX own (pl + 1) ((k, n, tr) :: r) ((k, f, s) :: pr, c, os, fl, cl, ow)) (hL : Ly c fl cl own tx e0 b0 D0 false r pr os lo a (lp r)) (ho : k ≠ 1) (hS : Sg c own k n tr f s lo c.1) (hT : TS tx fl pt k n tr a (pl + 1) (lp r) p') (hC : CT cl k n tr a (pl + 1)) (hpt : pt = ptn nx) (hp : p' = if nx = 9 then lp ((k, n, tr) :: r) else 1) : RK own tx e0 b0 D0 (pl + 1) nx [] ((k, n, tr) :: r) ((k, f, s) :: pr, c, os, fl, cl, ow) := by
  refine ⟨hx, ?_⟩
  have hL' : Ly c fl cl own tx e0 b0 D0 pt ((k, n, tr) :: r) ((k, f, s) :: pr) os c.1 (pl + 1) p' := ⟨f, s, pr, os, lo, a, rfl, hL, by unfold osE; rw [if_neg (fun z => ho z.1)], hS, hT, hC⟩
  rw [if_neg hn.1]
  by_cases n9 : nx = 9
  · rw [if_pos n9]
    rw [if_pos n9] at hp
    subst hp hpt n9
    exact hL'
  · rw [if_neg n9, if_neg hn.2]
    rw [if_neg n9] at hp
    subst hp hpt
    exact hL'
theorem KZ_no {q : Nat × zKK} (h : q.1 = 99) : KZ own tx e0 b0 D0 pl J B none q := h
theorem zStE_9 {n : Nat} {tr : List T} : zStEnd t ((9, n, tr) :: r) J B = if t = 121 then some (9, [], (9, n, tr) :: r, J, B) else if t = 163 then some (10, [], addSt r (.mulL 25 (.add ((tr.drop 1).headD (.var 99)) (tr.headD (.var 99)))), ndn J 1, B) else none := rfl
theorem zStE_10 {n : Nat} {tr : List T} : zStEnd t ((10, n, tr) :: r) J B = if t = 121 then some (9, [], (10, n, tr) :: r, J, B) else if t = 167 then some (21, [], (7, 26000, tr) :: r, J, B) else none := rfl
theorem zStE_12 {n : Nat} {tr : List T} : zStEnd t ((12, n, tr) :: r) J B = if t = 121 then some (9, [], (12, n, tr) :: r, J, B) else if t = 163 then some (10, [], addSt r (mkIf tr (.var 98)), ndn J (tr.length / 2), B) else if t = 173 then some (21, [], (11, 0, tr) :: r, J, B) else if t = 162 then some (9, [], (13, 0, .var 99 :: tr) :: r, ndn J 1, B) else none := rfl
theorem zStE_13 {n : Nat} {tr : List T} : zStEnd t ((13, n, tr) :: r) J B = if t = 121 then some (9, [], (13, n, tr) :: r, J, B) else if t = 163 then some (10, [], addSt r (mkIf (tr.drop 1) (tr.headD (.var 99))), ndn J (tr.length / 2), B) else none := rfl
theorem zStE_14 {n : Nat} {tr : List T} : zStEnd t ((14, n, tr) :: r) J B = if t = 121 then some (9, [], (14, n, tr) :: r, J, B) else if t = 163 then some (0, [], [], (sFin 3000 tr J B).2.1, (sFin 3000 tr J B).2.2) else none := rfl
theorem zStE_15 {n : Nat} {tr : List T} : zStEnd t ((15, n, tr) :: r) J B = if t = 121 then some (9, [], (15, n, tr) :: r, J, B) else if t = 163 then some (24, [], [], (sFin 2000 tr J B).2.1, (sFin 2000 tr J B).2.2) else none := rfl
theorem kStE_9 {f s : Int32} : kStE t ((9, f, s) :: pr, c, os, fl, cl, ow) = if t = 121 then (9, (9, f, s) :: pr, c, os, fl, cl, ow) else if t = 163 then (10, pr, kLead s (kEmit 20 f c), os, fl, cl, ow) else (99, (9, f, s) :: pr, c, os, fl, cl, ow) := rfl
theorem kStE_10 {f s : Int32} : kStE t ((10, f, s) :: pr, c, os, fl, cl, ow) = if t = 121 then (9, (10, f, s) :: pr, c, os, fl, cl, ow) else if t = 167 then (21, kPush 7 21 f pr, c, os, fl, cl, ow) else (99, (10, f, s) :: pr, c, os, fl, cl, ow) := rfl
theorem kStE_12 {f s : Int32} : kStE t ((12, f, s) :: pr, c, os, fl, cl, ow) = if t = 121 then (9, (12, f, s) :: pr, c, os, fl, cl, ow) else if t = 163 then (10, pr, kChain 300 f (kLead s c), os, fl, cl, ow) else if t = 173 then (21, kPush 11 (kAd c) 0 pr, kLead s (kEmit 20 f c), os, fl, cl, ow) else if t = 162 then (9, kPush 13 (kAd c) 0 pr, kLead s (kEmit 20 f c), os, fl, cl, ow) else (99, (12, f, s) :: pr, c, os, fl, cl, ow) := rfl
theorem kStE_13 {f s : Int32} : kStE t ((13, f, s) :: pr, c, os, fl, cl, ow) = if t = 121 then (9, (13, f, s) :: pr, c, os, fl, cl, ow) else if t = 163 then (10, pr, kChain 300 f c, os, fl, cl, ow) else (99, (13, f, s) :: pr, c, os, fl, cl, ow) := rfl
theorem kStE_14 {f s : Int32} : kStE t ((14, f, s) :: pr, c, os, fl, cl, ow) = if t = 121 then (9, (14, f, s) :: pr, c, os, fl, cl, ow) else if t = 163 then (0, pr, kEmit 26 0 (kEmit 1 0 c), os, fl, cl, ow) else (99, (14, f, s) :: pr, c, os, fl, cl, ow) := rfl
theorem kStE_15 {f s : Int32} : kStE t ((15, f, s) :: pr, c, os, fl, cl, ow) = if t = 121 then (9, (15, f, s) :: pr, c, os, fl, cl, ow) else if t = 163 then (24, pr, kEmit 26 0 (kEmit 1 0 c), os, fl, cl, ow) else (99, (15, f, s) :: pr, c, os, fl, cl, ow) := rfl
theorem KZ_stE {p : Nat} (hw : wfz fs false) (hpl : pl < 150) (ht : tx pl = t) (hl : fs.length ≤ pl) (hfl : (flat fs).length ≤ pl) (hx : CX own pl fs (pd, c, os, fl, cl, ow)) (hL : Ly c fl cl own tx e0 b0 D0 false fs pd os c.1 pl p) (hp : p = lp fs ∨ (p = 1 ∧ lp fs = 2)) : KZ own tx e0 b0 D0 pl J B (zStEnd t fs J B) (kStE t (pd, c, os, fl, cl, ow)) := by
  obtain ⟨x1, x2, x3⟩ := id hx
  have x2 : c.1 + pS fs ≤ 2 * pl := x2
  have x3 : ∀ i, pl ≤ i → i < 150 → fl i = 0 ∧ cl.1 i = -1 := x3
  obtain ⟨f0, ca0⟩ := x3 pl (Nat.le_refl _) hpl
  have hc : c.1 < 299 := by omega
  have x3' : ∀ i, pl + 1 ≤ i → i < 150 → fl i = 0 ∧ cl.1 i = -1 := fun i a b => x3 i (by omega) b
  cases fs with
  | nil => exact hw.elim
  | cons fr r =>
    obtain ⟨k, n, tr⟩ := fr
    have hk : k = 9 ∨ k = 10 ∨ k = 12 ∨ k = 13 ∨ k = 14 ∨ k = 15 := by
      have := hw.2
      omega
    obtain ⟨w1, w2⟩ := hw
    obtain ⟨f, s, pr, os', lo, a, rfl, g2, g3, g4, g5, g6⟩ := hL
    have oe : os = os' := by
      unfold osE at g3
      rw [if_neg (by omega)] at g3
      exact g3
    subst oe
    have gT : Fo tx fl a pl (lp r) (pre (lp r) ++ wd false k n tr) p := by
      unfold TS at g5
      rw [if_neg (by omega)] at g5
      exact g5
    have gC : CaH cl.1 cl.2 (hasT tr) a pl := by
      unfold CT at g6
      rw [if_neg (by omega)] at g6
      exact g6
    have lsg := Sg_le g4
    have lprb := (Ly_len g2).1
    simp only [List.length_cons] at hl
    have hpr : pr.length < 150 := by omega
    have hp2 : pi1 k + pS r + c.1 ≤ 2 * pl := by
      have : pS ((k, n, tr) :: r) = pi1 k + pS r := rfl
      omega
    -- the token that ends statements
    have en : isEn t = true → Fo tx fl a (pl + 1) (lp r) (pre (lp r) ++ (wd false k n tr ++ [t])) (if isOp t = true then 0 else 1) := by
      intro q
      have := Fo_cat gT (Fo_en ht f0 q)
      rw [List.append_assoc] at this
      exact this
    have semi : t = 121 → KZ own tx e0 b0 D0 pl J B (some (9, [], (k, n, tr) :: r, J, B)) (9, (k, f, s) :: pr, c, os, fl, cl, ow) := by
      intro q
      refine KZ_r0 (by omega) (by omega) ⟨⟨x1, ?_, x3'⟩, ?_⟩
      · show c.1 + pS ((k, n, tr) :: r) ≤ 2 * (pl + 1)
        omega
      · rw [if_neg (by omega), if_pos rfl]
        refine ⟨f, s, pr, os, lo, a, rfl, g2, g3, g4, ?_, ?_⟩
        · unfold TS
          rw [if_neg (by omega)]
          have := Fo_cat gT (Fo_semi (p := p) (ht.trans q) f0)
          rw [List.append_nil] at this
          have e : (if p = 0 then 0 else 2) = lp ((k, n, tr) :: r) := by
            have hl2 : lp ((k, n, tr) :: r) = 0 ∨ lp ((k, n, tr) :: r) = 2 := by
              simp only [lp]
              rw [if_pos hk]
              split
              · exact Or.inl rfl
              · exact Or.inr rfl
            rcases hp with hp | ⟨hp, hp'⟩
            · rw [← hp] at hl2
              rw [← hp]
              rcases hl2 with z | z <;> rw [z] <;> rfl
            · rw [hp, hp']; rfl
          rw [e] at this
          exact this
        · unfold CT
          rw [if_neg (by omega)]
          exact CaH_ext gC ca0
    by_cases k12 : k = 12
    · subst k12
      have hr : wfz r false := by rcases w2 with w2 | w2; exact w2.2; omega
      simp [wfF] at w1
      obtain ⟨h0, l, x, r', rfl, a1, a2, a3⟩ := w1
      subst h0
      have hI : wfI (l :: x :: r') = true := by simp [wfI, a1, a2, a3]
      unfold Sg at g4
      rw [if_neg (by omega), if_neg (by omega), if_neg (by omega), if_neg (by omega), if_neg (by omega), if_neg (by omega), if_neg (by omega), if_neg (by omega), if_neg (by omega), if_pos rfl] at g4
      obtain ⟨l', x', r'', m, m2, hh, d1, d2, d3, d4, d5⟩ := g4
      cases hh
      subst d5
      have ld1 := Ch_le d1; have ld2 := Cm_le d2; have ld4 := Cm_le d4
      have hp2 : pS r + c.1 ≤ 2 * pl := by have : pi1 12 = 0 := rfl; omega
      have wE : wd false 12 0 (l :: x :: r') = wX 173 r' ++ (Wr x 0 ++ (161 :: Wr l 5)) := rfl
      rw [zStE_12, kStE_12]
      refine KZ_if semi fun q0 => KZ_if (fun q => ?_) fun q1 => KZ_if (fun q => ?_) fun q2 => KZ_if (fun q => ?_) fun q3 => KZ_no rfl
      · -- end
        rw [kLead_lt (by omega) (by omega)]
        have o2 : ∀ i, i ≠ m2 → upd c.2.2 m2 (nI c.1) i = c.2.2 i := fun i q => pk_un q
        have hb := chain_z (own := own) r' f lo m 300 (c.1, c.2.1, upd c.2.2 m2 (nI c.1)) (.mulL 27 (.add x (.add l (.var 98)))) a3 (by simp [flat] at hfl; omega) (by show m ≤ c.1; omega) (by show c.1 ≤ 300; omega) (Ch_same (c := c) (fun i q1 q2 => ⟨rfl, o2 i (by omega)⟩) d1) (Cm_27 (h := c.1) (Cm_same (op := c.2.1) (od := c.2.2) (fun i q1 q2 => ⟨rfl, o2 i (by omega)⟩) (by omega) d2) d3 (Cm_same (op := c.2.1) (od := c.2.2) (fun i q1 q2 => ⟨rfl, o2 i (by omega)⟩) (by omega) d4) (Or.inl ⟨rfl, rfl, pk_us⟩))
        generalize hcc : kChain 300 f (c.1, c.2.1, upd c.2.2 m2 (nI c.1)) = c2 at hb
        obtain ⟨b1, b2, b3, b4⟩ := hb
        have b1 : c2.1 = c.1 := b1
        have b2 : c2.2.1 = c.2.1 := b2
        have hs := (sh_mkIf hI (by simp [sh] : sh (.var 98 : T) 3 = true)).2 (by simp)
        refine KZ_r (by omega) (by omega) (RK_add hr hs ⟨x1, ?_, x3'⟩ (Ly_same (fun i q => ⟨by rw [b2], by rw [b3 i (Or.inl q)]; exact o2 i (by omega)⟩) (fun i _ => ⟨rfl, rfl, rfl⟩) g2) ?_ ?_ ?_)
        · show c2.1 + pS r ≤ 2 * (pl + 1)
          omega
        · rw [b1]; exact Cm_20 hs b4
        · have := en (by rw [q]; rfl)
          rw [q] at this
          rw [show mkIf (l :: x :: r') (.var 98) = mkIf r' (.mulL 27 (.add x (.add l (.var 98)))) from rfl, W_mkIf r' _ a3, Wr_37]
          have e : wX 173 r' ++ (Wr x 0 ++ (161 :: (Wr l 5 ++ Wr (.var 98 : T) 6)) ++ [163]) = wd false 12 0 (l :: x :: r') ++ [163] := by
            rw [wE]
            simp [Wr, List.append_assoc]
          rw [e]
          exact this
        · exact CaH_iff (CaH_ext gC ca0) (fun q y => by rw [hasC_mkIf _ _ hI]; simp [hasC])
      · -- elsif
        rw [kPush_lt hpr, kEmit_lt (by omega), kLead_lt (by show m2 < c.1 + 1; omega) (by show c.1 + 1 ≤ 300; omega)]
        have hkA : kAd c = nI c.1 := if_pos (by omega)
        rw [hkA]
        have o1 : ∀ i, i < c.1 → upd c.2.1 c.1 (20 : Int32) i = c.2.1 i := fun i q => upd_lt q
        have o2 : ∀ i, i < c.1 → i ≠ m2 → upd (upd c.2.2 c.1 f) m2 (nI (c.1 + 1)) i = c.2.2 i := fun i q1 q2 => by rw [pk_un q2, upd_lt q1]
        refine KZ_r0 (by omega) (by omega) (RK_rep (pt := false) (p' := 1) (lo := lo) (a := a) (by omega) ⟨x1, ?_, x3'⟩ (Ly_same (fun i q => ⟨o1 i (by omega), o2 i (by omega) (by omega)⟩) (fun i _ => ⟨rfl, rfl, rfl⟩) g2) (by omega) ?_ ?_ ?_ rfl rfl)
        · show c.1 + 1 + (0 + pS r) ≤ 2 * (pl + 1)
          omega
        · unfold Sg
          rw [if_neg (by omega), if_neg (by omega), if_neg (by omega), if_neg (by omega), if_neg (by omega), if_neg (by omega), if_neg (by omega), if_neg (by omega), if_pos rfl]
          refine ⟨f, m, m2, c.1, Ch_same (fun i q1 q2 => ⟨o1 i (by omega), o2 i (by omega) (by omega)⟩) d1, Cm_same (fun i q1 q2 => ⟨o1 i (by omega), o2 i (by omega) (by omega)⟩) (by omega) d2, (o1 m2 (by omega)).trans d3, pk_us, Cm_same (fun i q1 q2 => ⟨o1 i (by omega), o2 i (by omega) (by omega)⟩) (by omega) d4, pk_us, ?_, rfl, rfl⟩
          show upd (upd c.2.2 c.1 f) m2 (nI (c.1 + 1)) c.1 = f
          rw [pk_un (by omega), pk_us]
        · unfold TS
          rw [if_neg (by omega)]
          have := en (by rw [q]; rfl)
          rw [q] at this
          have e : wd false 11 0 (l :: x :: r') = wd false 12 0 (l :: x :: r') ++ [173] := by
            rw [wE]
            simp [wd, wX, List.append_assoc]
          rw [e]
          exact this
        · unfold CT
          rw [if_neg (by omega)]
          exact CaH_ext gC ca0
      · -- else
        rw [kPush_lt hpr, kEmit_lt (by omega), kLead_lt (by show m2 < c.1 + 1; omega) (by show c.1 + 1 ≤ 300; omega)]
        have hkA : kAd c = nI c.1 := if_pos (by omega)
        rw [hkA]
        have o1 : ∀ i, i < c.1 → upd c.2.1 c.1 (20 : Int32) i = c.2.1 i := fun i q => upd_lt q
        have o2 : ∀ i, i < c.1 → i ≠ m2 → upd (upd c.2.2 c.1 f) m2 (nI (c.1 + 1)) i = c.2.2 i := fun i q1 q2 => by rw [pk_un q2, upd_lt q1]
        refine KZ_r (by omega) (by omega) (RK_rep (pt := false) (p' := 0) (lo := lo) (a := a) (by omega) ⟨x1, ?_, x3'⟩ (Ly_same (fun i q => ⟨o1 i (by omega), o2 i (by omega) (by omega)⟩) (fun i _ => ⟨rfl, rfl, rfl⟩) g2) (by omega) ?_ ?_ ?_ rfl rfl)
        · show c.1 + 1 + (0 + pS r) ≤ 2 * (pl + 1)
          omega
        · unfold Sg
          rw [if_neg (by omega), if_neg (by omega), if_neg (by omega), if_neg (by omega), if_neg (by omega), if_neg (by omega), if_neg (by omega), if_neg (by omega), if_neg (by omega), if_neg (by omega), if_pos rfl]
          refine ⟨.var 99, l :: x :: r', c.1 + 1, rfl, ⟨f, m, m2, c.1, Ch_same (fun i q1 q2 => ⟨o1 i (by omega), o2 i (by omega) (by omega)⟩) d1, Cm_same (fun i q1 q2 => ⟨o1 i (by omega), o2 i (by omega) (by omega)⟩) (by omega) d2, (o1 m2 (by omega)).trans d3, pk_us, Cm_same (fun i q1 q2 => ⟨o1 i (by omega), o2 i (by omega) (by omega)⟩) (by omega) d4, pk_us, ?_, rfl, rfl⟩, by simp [Cm]⟩
          show upd (upd c.2.2 c.1 f) m2 (nI (c.1 + 1)) c.1 = f
          rw [pk_un (by omega), pk_us]
        · unfold TS
          rw [if_neg (by omega)]
          have := en (by rw [q]; rfl)
          rw [q] at this
          have e : wd false 13 0 ((.var 99 : T) :: l :: x :: r') = wd false 12 0 (l :: x :: r') ++ [162] := by
            rw [wE]
            simp [wd, wX, Wr, List.append_assoc]
          rw [e]
          exact this
        · unfold CT
          rw [if_neg (by omega)]
          exact CaH_iff (CaH_ext gC ca0) (fun q y => by rw [hasT_cons]; simp [hasC])
    · by_cases k13 : k = 13
      · subst k13
        have hr : wfz r false := by rcases w2 with w2 | w2; exact w2.2; omega
        simp [wfF] at w1
        obtain ⟨h0, l, r', rfl, a1, a2, a3⟩ := w1
        subst h0
        have a4 : sh l 3 = true := by
          cases l with
          | var x => simp [sh] at a1 ⊢; exact Or.inl a1
          | add a b => simp [sh] at a1 ⊢; exact a1
          | num k => simp [sh] at a1
          | mulL k a => simp [sh] at a1
          | mulR a k => simp [sh] at a1
        unfold Sg at g4
        rw [if_neg (by omega), if_neg (by omega), if_neg (by omega), if_neg (by omega), if_neg (by omega), if_neg (by omega), if_neg (by omega), if_neg (by omega), if_neg (by omega), if_neg (by omega), if_pos rfl] at g4
        obtain ⟨l', r'', m, hh, d1, d2⟩ := g4
        cases hh
        have ld1 := Ch_le d1; have ld2 := Cm_le d2
        have hp2 : pS r + c.1 ≤ 2 * pl := by have : pi1 13 = 0 := rfl; omega
        rw [zStE_13, kStE_13]
        refine KZ_if semi fun q0 => KZ_if (fun q => ?_) fun q1 => KZ_no rfl
        have hb := chain_z (own := own) r' f lo m 300 c l a2 (by simp [flat] at hfl; omega) (by omega) (by omega) d1 (Cm_12 a1 d2)
        generalize hcc : kChain 300 f c = c2 at hb
        obtain ⟨b1, b2, b3, b4⟩ := hb
        have hs := (sh_mkIf (ts := r') (e := l) a2 a4).2 a3
        have hll : (l :: r').length / 2 = r'.length / 2 := by have := wfI_even a2; simp; omega
        refine KZ_r (by omega) (by omega) (RK_add hr hs ⟨x1, ?_, x3'⟩ (Ly_same (fun i q => ⟨by rw [b2], by rw [b3 i (Or.inl q)]⟩) (fun i _ => ⟨rfl, rfl, rfl⟩) g2) ?_ ?_ ?_)
        · show c2.1 + pS r ≤ 2 * (pl + 1)
          omega
        · rw [b1]; exact Cm_20 hs b4
        · have := en (by rw [q]; rfl)
          rw [q] at this
          obtain ⟨l1, x1', r2, rfl⟩ : ∃ l1 x1 r2, r' = l1 :: x1 :: r2 := by
            match r', a2, a3 with
            | [], _, h => exact absurd rfl h
            | [_], h, _ => simp [wfI] at h
            | l1 :: x1 :: r2, _, _ => exact ⟨l1, x1, r2, rfl⟩
          simp [wfI] at a2
          show Fo tx fl a (pl + 1) (lp r) (pre (lp r) ++ Wr (mkIf (l1 :: x1' :: r2) l) 0) 1
          rw [show mkIf (l1 :: x1' :: r2) l = mkIf r2 (.mulL 27 (.add x1' (.add l1 l))) from rfl, W_mkIf r2 _ a2.2, Wr_37, Wr_l6 a1]
          have e : wX 173 r2 ++ (Wr x1' 0 ++ (161 :: (Wr l1 5 ++ (162 :: Wr l 5))) ++ [163]) = wd false 13 0 (l :: l1 :: x1' :: r2) ++ [163] := by
            simp [wd, wX, List.append_assoc]
          rw [e]
          exact this
        · exact CaH_iff (CaH_ext gC ca0) (fun q y => by
            show hasC (mkIf r' l) q y ↔ _
            rw [hasC_mkIf _ _ a2, hasT_cons]
            exact Or.comm)
      · by_cases k9 : k = 9
        · subst k9
          have hr : wfz r false := by rcases w2 with w2 | w2; exact w2.2; omega
          simp [wfF] at w1
          obtain ⟨h0, l, x, rfl, a1, a2⟩ := w1
          subst h0
          unfold Sg at g4
          rw [if_neg (by omega), if_neg (by omega), if_neg (by omega), if_neg (by omega), if_neg (by omega), if_neg (by omega), if_pos rfl] at g4
          obtain ⟨l', x', m, hh, d1, d2, d3, d4, d5, d6⟩ := g4
          cases hh
          subst d5 d6
          have ld1 := Cm_le d1; have ld4 := Cm_le d4
          have hp2 : 1 + pS r + c.1 ≤ 2 * pl := by have : pi1 9 = 1 := rfl; omega
          rw [zStE_9, kStE_9]
          refine KZ_if semi fun q0 => KZ_if (fun q => ?_) fun q1 => KZ_no rfl
          rw [kEmit_lt (by omega), kLead_lt (by show m < c.1 + 1; omega) (by show c.1 + 1 ≤ 300; omega)]
          have o1 : ∀ i, i < c.1 → upd c.2.1 c.1 (20 : Int32) i = c.2.1 i := fun i q => upd_lt q
          have o2 : ∀ i, i < c.1 → i ≠ m → upd (upd c.2.2 c.1 (nI lo)) m (nI (c.1 + 1)) i = c.2.2 i := fun i q1 q2 => by rw [pk_un q2, upd_lt q1]
          refine KZ_r (by omega) (by omega) (RK_add (lo := lo) hr (by simp [sh, a1, a2]) ⟨x1, ?_, x3'⟩ (Ly_same (fun i q => ⟨o1 i (by omega), o2 i (by omega) (by omega)⟩) (fun i _ => ⟨rfl, rfl, rfl⟩) g2) ?_ ?_ ?_)
          · show c.1 + 1 + pS r ≤ 2 * (pl + 1)
            omega
          · refine Cm_L (by omega) (by omega) (Cm_25 (m := m) (Cm_same (op := c.2.1) (od := c.2.2) (fun i q1 q2 => ⟨o1 i (by omega), o2 i (by omega) (by omega)⟩) (by omega) d1) ((o1 m (by omega)).trans d2) pk_us ((o1 (m + 1) (by omega)).trans d3) (Cm_same (op := c.2.1) (od := c.2.2) (fun i q1 q2 => ⟨o1 i (by omega), o2 i (by omega) (by omega)⟩) (by omega) d4)) pk_us (fun _ => ?_) (fun q => by omega)
            show upd (upd c.2.2 c.1 (nI lo)) m (nI (c.1 + 1)) c.1 = nI lo
            rw [pk_un (by omega), pk_us]
          · have := en (by rw [q]; rfl)
            rw [q] at this
            have e : Wr (.mulL 25 (.add x l)) 0 = wd false 9 0 [l, x] ++ [163] := by
              simp [wd, Wr, List.append_assoc]
            show Fo tx fl a (pl + 1) (lp r) (pre (lp r) ++ Wr (.mulL 25 (.add x l)) 0) 1
            rw [e]
            exact this
          · exact CaH_iff (CaH_ext gC ca0) (fun q y => by
              show (hasC x q y ∨ hasC l q y) ↔ _
              rw [hasT_cons, hasT_cons]
              constructor
              · rintro (z | z)
                · exact Or.inr (Or.inl z)
                · exact Or.inl z
              · rintro (z | z | z)
                · exact Or.inr z
                · exact Or.inl z
                · exact absurd z (hasT_nil q y))
        · by_cases k10 : k = 10
          · subst k10
            have hr : wfz r false := by rcases w2 with w2 | w2; exact w2.2; omega
            simp [wfF] at w1
            obtain ⟨h0, l, rfl, a1⟩ := w1
            subst h0
            unfold Sg at g4
            rw [if_neg (by omega), if_neg (by omega), if_neg (by omega), if_neg (by omega), if_neg (by omega), if_neg (by omega), if_neg (by omega), if_pos rfl] at g4
            obtain ⟨l', hh, d1, d2, d3⟩ := g4
            cases hh
            subst d3
            rw [zStE_10, kStE_10]
            refine KZ_if semi fun q0 => KZ_if (fun q => ?_) fun q1 => KZ_no rfl
            rw [kPush_lt hpr]
            refine KZ_r0 (by omega) (by omega) (RK_rep (pt := false) (p' := 1) (lo := lo) (a := a) (by omega) ⟨x1, ?_, x3'⟩ g2 (by omega) ?_ ?_ ?_ rfl rfl)
            · have : pi1 10 = 1 := rfl
              show c.1 + (1 + pS r) ≤ 2 * (pl + 1)
              omega
            · unfold Sg
              rw [if_neg (by omega), if_neg (by omega), if_neg (by omega), if_neg (by omega), if_pos rfl, if_neg (by omega), if_pos rfl]
              exact ⟨l, rfl, d1, d2, rfl, rfl⟩
            · unfold TS
              rw [if_neg (by omega)]
              have := en (by rw [q]; rfl)
              rw [q] at this
              exact this
            · unfold CT
              rw [if_neg (by omega)]
              exact CaH_ext gC ca0
          · have hr : (k = 14 ∨ k = 15) ∧ r = [] := by rcases w2 with w2 | w2; omega; exact w2
            obtain ⟨hk2, rfl⟩ := hr
            obtain ⟨rfl, rfl, rfl, rfl, -, hbs⟩ := g2
            have w1' : n = 0 ∧ ∃ l, tr = [l] ∧ sh l 2 = true := by
              rcases hk2 with rfl | rfl
              · simpa [wfF] using w1
              · simpa [wfF] using w1
            obtain ⟨h0, l, rfl, a1⟩ := w1'
            subst h0
            have d1 : Cm c.2.1 c.2.2 own l 1 lo c.1 := by
              unfold Sg at g4
              rw [if_neg (by omega), if_neg (by omega), if_neg (by omega), if_neg (by omega), if_neg (by omega), if_neg (by omega), if_neg (by omega), if_neg (by omega), if_neg (by omega), if_neg (by omega), if_neg (by omega)] at g4
              obtain ⟨l', hh, d1⟩ := g4
              cases hh
              exact d1
            have hp2 : 2 + c.1 ≤ 2 * pl := by
              have : pi1 k = 2 := by rcases hk2 with rfl | rfl <;> rfl
              omega
            have o1 : ∀ i, i < c.1 → upd (upd c.2.1 c.1 (1 : Int32)) (c.1 + 1) 26 i = c.2.1 i := fun i q => by rw [upd_lt (by omega), upd_lt q]
            have o2 : ∀ i, i < c.1 → upd (upd c.2.2 c.1 (0 : Int32)) (c.1 + 1) 0 i = c.2.2 i := fun i q => by rw [upd_lt (by omega), upd_lt q]
            have ec : kEmit 26 0 (kEmit 1 0 c) = (c.1 + 2, upd (upd c.2.1 c.1 1) (c.1 + 1) 26, upd (upd c.2.2 c.1 0) (c.1 + 1) 0) := by
              rw [kEmit_lt (c := c) (by omega), kEmit_lt (by show c.1 + 1 < 300; omega)]
            have bd : t = 163 → Bd own tx lo a D0 (pl + 1) l ([], kEmit 26 0 (kEmit 1 0 c), [], fl, cl, ow) := by
              intro q
              rw [ec]
              refine ⟨⟨x1, ?_, x3'⟩, rfl, rfl, ⟨fun i q => ⟨(o1 i (by omega)).trans (hbs.1 i q).1, (o2 i (by omega)).trans (hbs.1 i q).2⟩, hbs.2⟩, ⟨c.1, rfl, Cm_same (op := c.2.1) (od := c.2.2) (fun i q1 q2 => ⟨o1 i q2, o2 i q2⟩) (by omega) d1, ?_, ?_, pk_us⟩, ?_, ?_⟩
              · show c.1 + 2 + 0 ≤ 2 * (pl + 1)
                omega
              · show upd (upd c.2.1 c.1 1) (c.1 + 1) 26 c.1 = 1
                rw [upd_lt (by omega), pk_us]
              · show upd (upd c.2.2 c.1 0) (c.1 + 1) 0 c.1 = 0
                rw [upd_lt (by omega), pk_us]
              · have := en (by rw [q]; rfl)
                rw [q] at this
                have e : pre (lp []) ++ (wd false k 0 [l] ++ [163]) = 171 :: (Wr l 5 ++ [163]) := by rcases hk2 with rfl | rfl <;> rfl
                rw [e] at this
                exact this
              · exact CaH_iff (CaH_ext gC ca0) (fun q y => by rw [hasT_cons]; simp [hasT_0])
            rcases hk2 with rfl | rfl
            · rw [zStE_14, kStE_14]
              refine KZ_if semi fun q0 => KZ_if (fun q => ?_) fun q1 => KZ_no rfl
              refine ⟨rfl, ?_⟩
              rw [if_pos (Or.inl rfl)]
              exact ⟨l, 0, bd q, a1, by rw [ndn_0]; rfl⟩
            · rw [zStE_15, kStE_15]
              refine KZ_if semi fun q0 => KZ_if (fun q => ?_) fun q1 => KZ_no rfl
              refine ⟨rfl, ?_⟩
              rw [if_pos (Or.inr rfl)]
              exact ⟨l, 0, bd q, a1, by rw [ndn_0]; rfl⟩
end KT
