/-! K AGAINST Z: the ends of expressions, calls, operators, begins of statements -/
section KU
variable {own : Nat → Bool} {tx : Nat → Nat} {e0 b0 pl t : Nat} {D0 : zD} {fs r : List zF} {pd pr : List zPd} {c c' : zC} {os : List zOs} {fl : Nat → Int32} {cl : (Nat → Int32) × (Nat → Int32)} {ow : Int32} {J : zJ} {B : Nat → T} {f s l0 o0 x0 x : Int32}
theorem CaH_call {ca ac : Nat → Int32} {y : T} {q n b : Nat} (h1 : ca n = nI (q % 4)) (h2 : ac n = nI (tlen y)) (h3 : q / 4 = n) (h4 : CaH ca ac (hasC y) (n + 1) b) : CaH ca ac (hasC (.mulR y q)) n b := by
  refine CaH_cat (H1 := fun q' c' => q' = q ∧ c' = tlen y) (m := n + 1) ⟨by omega, fun q' c' h => ?_, fun i a1 a2 => Or.inr ⟨q, tlen y, ⟨rfl, rfl⟩, by omega⟩⟩ h4 (fun q' c' => Iff.rfl)
  obtain ⟨rfl, rfl⟩ := h
  rw [h3]
  exact ⟨by omega, by omega, h1, h2⟩
theorem KZ_nd {n : Nat} {o : Option zZ} {q : Nat × zKK} (h : KZ own tx e0 b0 D0 pl (ndn J n) B o q) : KZ own tx e0 b0 D0 pl J B o q := by
  cases o with
  | none => exact h
  | some z =>
    obtain ⟨nx, cs, fs, J', B'⟩ := z
    obtain ⟨h1, h2⟩ := h
    refine ⟨h1, ?_⟩
    by_cases c : nx = 0 ∨ nx = 24
    · rw [if_pos c] at h2 ⊢
      obtain ⟨l, m, a1, a2, a3⟩ := h2
      exact ⟨l, n + m, a1, a2, by rw [ndn_ndn] at a3; exact a3⟩
    · rw [if_neg c] at h2 ⊢
      obtain ⟨a1, a2, m, a3⟩ := h2
      exact ⟨a1, a2, n + m, by rw [ndn_ndn] at a3; exact a3⟩
theorem KZ_call {k n lo q : Nat} {y : T} (hk : (k = 4 ∧ wfz r true) ∨ (k = 5 ∧ wfz r false)) (hpl : pl < 150) (hn : n < pl) (ht : tx pl = 123) (hl : r.length < pl) (hsy : sh y 4 = true) (hx : CX own pl ((k, n, [.mulR y q]) :: r) ((k, nI n, s) :: pr, c, os, fl, cl, ow)) (g2 : Ly c fl cl own tx e0 b0 D0 false r pr os lo n (lp r)) (hC : Cm c.2.1 c.2.2 own y 1 lo c.1) (hF : Fo tx fl n pl (lp r) (pre (lp r) ++ ([110 + q % 4, 122] ++ Wr y 4)) 1) (h1 : cl.1 n = nI (q % 4)) (h2 : cl.2 n = nI (tlen y)) (h3 : q / 4 = n) (h4 : CaH cl.1 cl.2 (hasC y) (n + 1) pl) : KZ own tx e0 b0 D0 pl J B (zCall ((k, n, [.mulR y q]) :: r) J B) (kEndCall ((k, nI n, s) :: pr, c, os, fl, cl, ow)) := by
  obtain ⟨x1, x2, x3⟩ := id hx
  have x2 : c.1 + (pi1 k + pS r) ≤ 2 * pl := x2
  have x3 : ∀ i, pl ≤ i → i < 150 → fl i = 0 ∧ cl.1 i = -1 := x3
  obtain ⟨f0, ca0⟩ := x3 pl (Nat.le_refl _) hpl
  have x3' : ∀ i, pl + 1 ≤ i → i < 150 → fl i = 0 ∧ cl.1 i = -1 := fun i a b => x3 i (by omega) b
  have ec : kCallee (nI n) cl = nI (q % 4) := by
    unfold kCallee
    rw [if_neg (ix150 (by omega)), nI_clamp (by omega)]
    exact h1
  have hF2 := Fo_cat hF (Fo_plain (p := 1) ht f0 (by omega) rfl (by omega))
  have lC := Cm_le hC
  have o1 : ∀ i, i < c.1 → upd c.2.1 c.1 (25 : Int32) i = c.2.1 i := fun i q => upd_lt q
  have o2 : ∀ i, i < c.1 → upd c.2.2 c.1 (nI (q % 4)) i = c.2.2 i := fun i q => upd_lt q
  have hCall : ∀ {op od : Nat → Int32}, (∀ i, i < c.1 → op i = c.2.1 i ∧ od i = c.2.2 i) → op c.1 = 25 → od c.1 = nI (q % 4) → Cm op od own (.mulR y q) 0 lo (c.1 + 1) := fun h a b => ⟨rfl, by omega, Cm_same (op := c.2.1) (od := c.2.2) (fun i q1 q2 => h i q2) (by omega) hC, a, b⟩
  have hA := CaH_call h1 h2 h3 (CaH_ext h4 ca0)
  rcases hk with ⟨rfl, hr⟩ | ⟨rfl, hr⟩
  · have e1 : pi1 4 = 1 := rfl
    show KZ own tx e0 b0 D0 pl J B (some (23, [.mulR y q], r, J, B)) (23, pr, kEmit 25 (kCallee (nI n) cl) c, kPushF os, fl, cl, ow)
    rw [ec, kEmit_lt (by omega)]
    rw [lp_wf hr] at g2 hF2
    refine KZ_r0 (by omega) (by omega) (RK_val (lo := lo) (a := n) ⟨x1, ?_, x3'⟩ (Ly_same (fun i q => ⟨o1 i (by have := Cm_le hC; omega), o2 i (by have := Cm_le hC; omega)⟩) (fun i _ => ⟨rfl, rfl, rfl⟩) g2) (by omega) (hCall (fun i q => ⟨o1 i q, o2 i q⟩) pk_us pk_us) hA ?_ rfl)
    · show c.1 + 1 + pS r ≤ 2 * (pl + 1)
      omega
    · have ew : pre 1 ++ ([110 + q % 4, 122] ++ Wr y 4) ++ [123] = Wr (.mulR y q) 0 := by simp [pre, Wr]
      rw [ew] at hF2
      exact hF2
  · have e1 : pi1 5 = 2 := rfl
    show KZ own tx e0 b0 D0 pl J B (some (10, [], addSt r (.mulL 22 (.mulR y q)), ndn J 1, B)) (10, pr, kEmit 11 0 (kEmit 25 (kCallee (nI n) cl) c), os, fl, cl, ow)
    rw [ec, kEmit_lt (c := c) (by omega), kEmit_lt (by show c.1 + 1 < 300; omega)]
    have o3 : ∀ i, i < c.1 → upd (upd c.2.1 c.1 (25 : Int32)) (c.1 + 1) 11 i = c.2.1 i := fun i q => by rw [upd_lt (by omega), o1 i q]
    have o4 : ∀ i, i < c.1 → upd (upd c.2.2 c.1 (nI (q % 4))) (c.1 + 1) 0 i = c.2.2 i := fun i q => by rw [upd_lt (by omega), o2 i q]
    refine KZ_r (by omega) (by omega) (RK_add (lo := lo) (a := n) hr (by simp [sh, hsy, isCall]) ⟨x1, ?_, x3'⟩ (Ly_same (fun i q => ⟨o3 i (by omega), o4 i (by omega)⟩) (fun i _ => ⟨rfl, rfl, rfl⟩) g2) ?_ ?_ hA)
    · show c.1 + 1 + 1 + pS r ≤ 2 * (pl + 1)
      omega
    · refine Cm_L (by omega) (by omega) (hCall (fun i q => ⟨o3 i q, o4 i q⟩) ?_ ?_) pk_us (fun q => by omega) (fun q => by omega)
      · show upd (upd c.2.1 c.1 25) (c.1 + 1) 11 c.1 = 25
        rw [upd_lt (by omega), pk_us]
      · show upd (upd c.2.2 c.1 (nI (q % 4))) (c.1 + 1) 0 c.1 = _
        rw [upd_lt (by omega), pk_us]
    · have ew : pre (lp r) ++ ([110 + q % 4, 122] ++ Wr y 4) ++ [123] = pre (lp r) ++ Wr (.mulL 22 (.mulR y q)) 0 := by simp [Wr]
      rw [ew] at hF2
      exact hF2
theorem kA_2 : kAcc (kEnd2 ((2, f, s) :: pr, c, (l0, o0, x0) :: os, fl, cl, ow)).1 t x (kEnd2 ((2, f, s) :: pr, c, (l0, o0, x0) :: os, fl, cl, ow)).2 = if t = 123 then (23, pr, c, (l0, f, x) :: os, kJf 0 fl ((l0, o0, x0) :: os), cl, ow) else (99, (2, f, s) :: pr, c, (l0, -1, x0) :: os, kJf 0 fl ((l0, o0, x0) :: os), cl, ow) := rfl
theorem kA_3 : kAcc (kEnd2 ((3, f, s) :: pr, c, (l0, o0, x0) :: os, fl, cl, ow)).1 t x (kEnd2 ((3, f, s) :: pr, c, (l0, o0, x0) :: os, fl, cl, ow)).2 = if t = 126 then (23, pr, kEmit 4 0 c, kPushF os, kJf 0 fl ((l0, o0, x0) :: os), cl, ow) else (99, (3, f, s) :: pr, c, os, kJf 0 fl ((l0, o0, x0) :: os), cl, ow) := rfl
theorem kA_4 : kAcc (kEnd2 ((4, f, s) :: pr, c, (l0, o0, x0) :: os, fl, cl, ow)).1 t x (kEnd2 ((4, f, s) :: pr, c, (l0, o0, x0) :: os, fl, cl, ow)).2 = if t = 124 then (21, (4, f, s) :: pr, c, os, kJf 0 fl ((l0, o0, x0) :: os), kArg f cl, ow) else if t = 123 then kEndCall ((4, f, s) :: pr, c, os, kJf 0 fl ((l0, o0, x0) :: os), kArg f cl, ow) else (99, (4, f, s) :: pr, c, os, kJf 0 fl ((l0, o0, x0) :: os), kArg f cl, ow) := rfl
theorem kA_5 : kAcc (kEnd2 ((5, f, s) :: pr, c, (l0, o0, x0) :: os, fl, cl, ow)).1 t x (kEnd2 ((5, f, s) :: pr, c, (l0, o0, x0) :: os, fl, cl, ow)).2 = if t = 124 then (21, (5, f, s) :: pr, c, os, kJf 0 fl ((l0, o0, x0) :: os), kArg f cl, ow) else if t = 123 then kEndCall ((5, f, s) :: pr, c, os, kJf 0 fl ((l0, o0, x0) :: os), kArg f cl, ow) else (99, (5, f, s) :: pr, c, os, kJf 0 fl ((l0, o0, x0) :: os), kArg f cl, ow) := rfl
theorem kA_6 : kAcc (kEnd2 ((6, f, s) :: pr, c, (l0, o0, x0) :: os, fl, cl, ow)).1 t x (kEnd2 ((6, f, s) :: pr, c, (l0, o0, x0) :: os, fl, cl, ow)).2 = if t = 126 then (11, kPush 7 7 0 pr, c, os, kJf 0 fl ((l0, o0, x0) :: os), cl, ow) else (99, (6, f, s) :: pr, c, os, kJf 0 fl ((l0, o0, x0) :: os), cl, ow) := rfl
theorem kA_7 : kAcc (kEnd2 ((7, f, s) :: pr, c, (l0, o0, x0) :: os, fl, cl, ow)).1 t x (kEnd2 ((7, f, s) :: pr, c, (l0, o0, x0) :: os, fl, cl, ow)).2 = kStE t (pr, kEmit f s c, os, kJf 0 fl ((l0, o0, x0) :: os), cl, ow) := rfl
theorem kA_8 : kAcc (kEnd2 ((8, f, s) :: pr, c, (l0, o0, x0) :: os, fl, cl, ow)).1 t x (kEnd2 ((8, f, s) :: pr, c, (l0, o0, x0) :: os, fl, cl, ow)).2 = if t = 165 then (9, kPush 9 f (kAd c) pr, kEmit 24 0 (kEmit 21 0 c), os, kJf 0 fl ((l0, o0, x0) :: os), cl, ow) else (99, (8, f, s) :: pr, c, os, kJf 0 fl ((l0, o0, x0) :: os), cl, ow) := rfl
theorem kA_11 : kAcc (kEnd2 ((11, f, s) :: pr, c, (l0, o0, x0) :: os, fl, cl, ow)).1 t x (kEnd2 ((11, f, s) :: pr, c, (l0, o0, x0) :: os, fl, cl, ow)).2 = if t = 161 then (9, kPush 12 f (kAd c) pr, kEmit 21 0 c, os, kJf 0 fl ((l0, o0, x0) :: os), cl, ow) else (99, (11, f, s) :: pr, c, os, kJf 0 fl ((l0, o0, x0) :: os), cl, ow) := rfl
theorem zA_2 {n : Nat} {tr : List T} {e : T} : zAfter t e ((2, n, tr) :: r) J B = if t = 123 then some (23, [e], r, J, B) else none := rfl
theorem zA_3 {n : Nat} {tr : List T} {e : T} : zAfter t e ((3, n, tr) :: r) J B = if t = 126 then some (23, [.mulL 2 e], r, ndn J 1, B) else none := rfl
theorem zA_4 {n : Nat} {tr : List T} {e : T} : zAfter t e ((4, n, tr) :: r) J B = if t = 124 then some (21, [], (4, n, [grow (tr.headD (.var 99)) e]) :: r, J, B) else if t = 123 then zCall ((4, n, [grow (tr.headD (.var 99)) e]) :: r) J B else none := rfl
theorem zA_5 {n : Nat} {tr : List T} {e : T} : zAfter t e ((5, n, tr) :: r) J B = if t = 124 then some (21, [], (5, n, [grow (tr.headD (.var 99)) e]) :: r, J, B) else if t = 123 then zCall ((5, n, [grow (tr.headD (.var 99)) e]) :: r) J B else none := rfl
theorem zA_6 {n : Nat} {tr : List T} {e : T} : zAfter t e ((6, n, tr) :: r) J B = if t = 126 then some (11, [], (7, 21000, [e]) :: r, J, B) else none := rfl
theorem zA_7 {n : Nat} {tr : List T} {e : T} : zAfter t e ((7, n, tr) :: r) J B = zStEnd t (addSt r (zLast n tr e)) (ndn J 1) B := rfl
theorem zA_8 {n : Nat} {tr : List T} {e : T} : zAfter t e ((8, n, tr) :: r) J B = if t = 165 then some (9, [], (9, 0, [.var 99, e]) :: r, ndn J 1, B) else none := rfl
theorem zA_11 {n : Nat} {tr : List T} {e : T} : zAfter t e ((11, n, tr) :: r) J B = if t = 161 then some (9, [], (12, 0, .var 99 :: e :: tr) :: r, ndn J 1, B) else none := rfl
theorem Wr_nil4 {y : T} (h : isNil y = true) : Wr y 4 = [] := by
  cases y with
  | var x => simp [isNil] at h; simp [Wr]
  | _ => simp [isNil] at h
theorem cFop_200 {v : Nat} : cFop own (200 + v) = if own v = true then 6 else 5 := by
  unfold cFop
  rw [if_neg (by omega), if_neg (by omega), if_neg (by omega), if_neg (by omega), if_neg (by omega), if_neg (by omega), if_neg (by omega), if_neg (by omega), if_neg (by omega), if_neg (by omega), if_pos (by omega), Nat.add_sub_cancel_left]
theorem KZ_after {e : T} {K : zKK} (hw : wfz fs true) (ht0 : tl fs = 0) (he : sh e 0 = true) (hpl : pl < 150) (ht : tx pl = t) (hl : fs.length ≤ pl) (hfl : (flat fs).length ≤ pl) (hx : CX own pl fs K) (hX : XE own tx e0 b0 D0 fs e 0 pl K) : KZ own tx e0 b0 D0 pl J B (zAfter t e fs J B) (kAcc (kEnd2 K).1 t (nI pl) (kEnd2 K).2) := by
  obtain ⟨pd, c, en, os, fl, cl, ow, lo, a, rfl, hL, hC, hA, hO⟩ := hX
  obtain ⟨l0, o0, x0⟩ := en
  obtain ⟨x1, x2, x3⟩ := id hx
  have x2 : c.1 + pS fs ≤ 2 * pl := x2
  have x3 : ∀ i, pl ≤ i → i < 150 → fl i = 0 ∧ cl.1 i = -1 := x3
  obtain ⟨f0, ca0⟩ := x3 pl (Nat.le_refl _) hpl
  obtain ⟨jf, js⟩ := OpT_judge (m' := 0) (os := os) he hO (by omega) (Or.inr (Nat.le_refl _))
  have la : a ≤ pl := hA.1
  have e00 : (nI 0 : Int32) = 0 := rfl
  rw [e00] at jf js
  have hO1 : l0 = nI (tlev e) := hO.1
  generalize hfl' : kJf 0 fl ((l0, o0, x0) :: os) = fl' at jf js
  have f0' : fl' pl = 0 := by rw [js pl (Or.inr (Nat.le_refl _))]; exact f0
  have x3' : ∀ i, pl + 1 ≤ i → i < 150 → fl' i = 0 ∧ cl.1 i = -1 := fun i a b => ⟨by rw [js i (Or.inr (by omega))]; exact (x3 i (by omega) b).1, (x3 i (by omega) b).2⟩
  have tokp : ∀ {n : Nat}, t = n → ¬ n = 121 → isOp n = false → Fo tx fl' pl (pl + 1) 1 [n] 1 := fun q a b => Fo_plain (p := 1) (ht.trans q) f0' a b (by omega)
  have tokq : ∀ {n : Nat}, t = n → ¬ n = 121 → Fo tx fl' pl (pl + 1) 1 [n] (if isOp n = true then 0 else 1) := fun q a => Fo_tok (p := 1) (ht.trans q) f0' a (by omega)
  cases fs with
  | nil => exact hw.elim
  | cons fr r =>
    obtain ⟨k, n, tr⟩ := fr
    have k1 : k ≠ 1 := by
      intro q
      simp [tl, q] at ht0
    have hw0 := hw
    obtain ⟨w1, w2⟩ := hw
    obtain ⟨f, s, pr, os', lo', a', rfl, g2, g3, g4, g5, g6⟩ := hL
    have oe : os = os' := by
      unfold osE at g3
      rw [if_neg (fun z => k1 z.1)] at g3
      exact g3
    subst oe
    have lT := TS_le g5
    have lS := Sg_le g4
    have lC := Cm_le hC
    have hpr : pr.length < 150 := by have := (Ly_len g2).1; simp at hl; omega
    have hc : c.1 + (pi1 k + pS r) ≤ 2 * pl := x2
    -- below, with the new flags
    have g2' : Ly c fl' cl own tx e0 b0 D0 false r pr os lo' a' (lp r) := Ly_same (fun i q => ⟨rfl, rfl⟩) (fun i q => ⟨js i (Or.inl (by omega)), rfl, rfl⟩) g2
    have g5' : k ≠ 2 → Fo tx fl' a' pl (lp r) (pre (lp r) ++ (wd false k n tr ++ Wr e 0)) 1 := by
      intro k2
      unfold TS at g5
      rw [if_neg k2] at g5
      have := Fo_cat (Fo_same (fl' := fl') (fun i q1 q2 => js i (Or.inl q2)) g5) jf
      rw [List.append_assoc] at this
      exact this
    have g6' : ¬ (k = 4 ∨ k = 5) → CaH cl.1 cl.2 (fun q y => hasT tr q y ∨ hasC e q y) a' (pl + 1) := by
      intro k4
      unfold CT at g6
      rw [if_neg k4] at g6
      exact CaH_ext (CaH_cat g6 hA (fun q y => Iff.rfl)) ca0
    by_cases k2 : k = 2
    · subst k2
      have hr : wfz r true := by
        rcases w2 with w2 | w2 | w2
        · omega
        · exact w2.2
        · omega
      simp [wfF] at w1
      subst w1
      rw [zA_2, kA_2, hfl']
      refine KZ_if (fun q => ?_) fun q => KZ_no rfl
      unfold Sg at g4
      rw [if_neg (by omega), if_pos rfl] at g4
      obtain ⟨rfl, rfl⟩ := g4
      unfold TS at g5
      rw [if_pos rfl] at g5
      obtain ⟨rfl, d2, d3, d4, d5, d6, -⟩ := g5
      rw [d6] at g2'
      refine KZ_r0 (by omega) (by omega) ⟨⟨x1, ?_, x3'⟩, ?_⟩
      · have : pi1 2 = 0 := rfl
        show c.1 + pS r ≤ 2 * (pl + 1)
        omega
      · rw [if_pos rfl]
        have l5 := d5.1
        refine ⟨e, rfl, pr, c, (l0, nI a', nI pl), os, fl', cl, ow, lo', a', rfl, g2', hC, CaH_iff (g6' (by omega)) (fun q y => by simp [hasT_0]), hO1, Or.inr ⟨rfl, rfl, by omega, by omega, d3, by rw [js a' (Or.inl (by omega))]; exact d4, by rw [Nat.add_sub_cancel]; exact ht.trans q, by rw [Nat.add_sub_cancel]; exact f0', ?_⟩⟩
        rw [Nat.add_sub_cancel]
        have := Fo_cat (Fo_same (fl' := fl') (fun i q1 q2 => js i (Or.inl q2)) d5) jf
        exact this
    · have g5' := g5' k2
      by_cases k3 : k = 3
      · subst k3
        have hr : wfz r true := by
          rcases w2 with w2 | w2 | w2
          · omega
          · exact w2.2
          · omega
        simp [wfF] at w1
        obtain ⟨rfl, -⟩ := w1
        rw [zA_3, kA_3, hfl']
        refine KZ_if (fun q => ?_) fun q => KZ_no rfl
        have : pi1 3 = 1 := rfl
        rw [kEmit_lt (by omega)]
        unfold Sg at g4
        rw [if_neg (by omega), if_neg (by omega), if_pos (by omega)] at g4
        subst g4
        rw [lp_wf hr] at g2' g5'
        have o1 : ∀ i, i < c.1 → upd c.2.1 c.1 (4 : Int32) i = c.2.1 i := fun i q => upd_lt q
        have o2 : ∀ i, i < c.1 → upd c.2.2 c.1 (0 : Int32) i = c.2.2 i := fun i q => upd_lt q
        refine KZ_r (by omega) (by omega) (RK_val (lo := lo') (a := a') ⟨x1, ?_, x3'⟩ (Ly_same (fun i q => ⟨o1 i (by omega), o2 i (by omega)⟩) (fun i _ => ⟨rfl, rfl, rfl⟩) g2') (by simp at hl; omega) ?_ (CaH_iff (g6' (by omega)) (fun q y => by simp [hasT_0, hasC])) ?_ rfl)
        · show c.1 + 1 + pS r ≤ 2 * (pl + 1)
          omega
        · exact Cm_L (by omega) (by omega) (Cm_same (op := c.2.1) (od := c.2.2) (fun i q1 q2 => ⟨o1 i q2, o2 i q2⟩) (fun q => by simp [cFmd] at q) hC) pk_us (fun q => by omega) (fun q => by omega)
        · have := Fo_cat g5' (tokp q (by omega) rfl)
          have e : pre 1 ++ (wd false 3 n [] ++ Wr e 0) ++ [126] = Wr (.mulL 2 e) 0 := by simp [pre, wd, Wr]
          rw [e] at this
          exact this
      · by_cases k45 : k = 4 ∨ k = 5
        · have h1' : n < 150 ∧ ∃ y q, tr = [(.mulR y q : T)] ∧ sh y 4 = true ∧ q / 4 = n := by
            rcases k45 with rfl | rfl
            · simpa [wfF] using w1
            · simpa [wfF] using w1
          obtain ⟨n150, y, q, rfl, a1, a2⟩ := h1'
          unfold Sg at g4
          rw [if_neg k1, if_neg k2, if_neg (by omega), if_pos k45] at g4
          obtain ⟨y', q', hh, d1, rfl⟩ := g4
          cases hh
          unfold CT at g6
          rw [if_pos k45] at g6
          obtain ⟨y', q', hh, rfl, d3, d4, d5, d6⟩ := g6
          cases hh
          have eA : kArg (nI a') cl = (cl.1, upd cl.2 a' (cl.2 a' + 1)) := by
            unfold kArg
            rw [if_neg (ix150 n150), nI_clamp (by omega)]
          have hcnt : upd cl.2 a' (cl.2 a' + 1) a' = nI (tlen (snoc y e)) := by rw [pk_us, d5, nI_1, tlen_snoc]
          have oc : ∀ i, i ≠ a' → upd cl.2 a' (cl.2 a' + 1) i = cl.2 i := fun i q => pk_un q
          have ld6 := d6.1
          have g2'' : Ly c fl' (cl.1, upd cl.2 a' (cl.2 a' + 1)) own tx e0 b0 D0 false r pr os lo' a' (lp r) := Ly_same (c := c) (fl := fl') (cl := cl) (fun i q => ⟨rfl, rfl⟩) (fun i q => ⟨rfl, rfl, oc i (by omega)⟩) g2'
          have hsn := sh_snoc4 a1 he
          have hCs := Cm_snoc d1 hC
          have hcal : CaH cl.1 (upd cl.2 a' (cl.2 a' + 1)) (hasC (snoc y e)) (a' + 1) pl := CaH_cat (CaH_same (ca := cl.1) (ac := cl.2) (fun i q1 q2 => ⟨rfl, oc i (by omega)⟩) d6) (CaH_same (ca := cl.1) (ac := cl.2) (fun i q1 q2 => ⟨rfl, oc i (by omega)⟩) hA) (fun q' c' => hasC_snoc (m := 4) (Or.inr rfl) a1)
          have hFw : Fo tx fl' a' pl (lp r) (pre (lp r) ++ ([110 + q % 4, 122] ++ Wr (snoc y e) 4)) 1 := by
            have ew : wd false k a' [(.mulR y q : T)] ++ Wr e 0 = [110 + q % 4, 122] ++ Wr (snoc y e) 4 := by
              have : wd false k a' [(.mulR y q : T)] = [110 + q % 4, 122] ++ (if isNil y = true then [] else Wr y 4 ++ [124]) := by
                rcases k45 with rfl | rfl <;> rfl
              rw [this, W_snoc4 a1]
              cases hn : isNil y with
              | true => simp [Wr_nil4 hn]
              | false => simp
            rw [ew] at g5'
            exact g5'
          have x3'' : ∀ i, pl ≤ i → i < 150 → fl' i = 0 ∧ cl.1 i = -1 := fun i a b => ⟨by rw [js i (Or.inr a)]; exact (x3 i a b).1, (x3 i a b).2⟩
          have hz : KZ own tx e0 b0 D0 pl J B (if t = 124 then some (21, [], (k, a', [grow (.mulR y q : T) e]) :: r, J, B) else if t = 123 then zCall ((k, a', [grow (.mulR y q : T) e]) :: r) J B else none) (if t = 124 then (21, (k, nI a', s) :: pr, c, os, fl', (cl.1, upd cl.2 a' (cl.2 a' + 1)), ow) else if t = 123 then kEndCall ((k, nI a', s) :: pr, c, os, fl', (cl.1, upd cl.2 a' (cl.2 a' + 1)), ow) else (99, (k, nI a', s) :: pr, c, os, fl', (cl.1, upd cl.2 a' (cl.2 a' + 1)), ow)) := by
            refine KZ_if (fun q1 => ?_) fun q1 => KZ_if (fun q2 => ?_) fun q2 => KZ_no rfl
            · refine KZ_r0 (by omega) (by omega) (RK_rep (pt := false) (p' := 1) (lo := lo') (a := a') (by omega) ⟨x1, ?_, x3'⟩ g2'' k1 ?_ ?_ ?_ rfl rfl)
              · show c.1 + (pi1 k + pS r) ≤ 2 * (pl + 1)
                omega
              · unfold Sg
                rw [if_neg k1, if_neg k2, if_neg (by omega), if_pos k45]
                exact ⟨snoc y e, q, rfl, hCs, rfl⟩
              · unfold TS
                rw [if_neg k2]
                have := Fo_cat hFw (tokp q1 (by omega) rfl)
                have ew : pre (lp r) ++ ([110 + q % 4, 122] ++ Wr (snoc y e) 4) ++ [124] = pre (lp r) ++ wd false k a' [grow (.mulR y q : T) e] := by
                  have : wd false k a' [grow (.mulR y q : T) e] = [110 + q % 4, 122] ++ (if isNil (snoc y e) = true then [] else Wr (snoc y e) 4 ++ [124]) := by
                    rcases k45 with rfl | rfl <;> rfl
                  rw [this, isNil_snoc]
                  simp
                rw [ew] at this
                exact this
              · unfold CT
                rw [if_pos k45]
                exact ⟨snoc y e, q, rfl, rfl, a2, d4, hcnt, CaH_ext hcal ca0⟩
            · have hkw : (k = 4 ∧ wfz r true) ∨ (k = 5 ∧ wfz r false) := by
                rcases w2 with w2 | w2 | w2
                · omega
                · exact Or.inl ⟨by omega, w2.2⟩
                · exact Or.inr ⟨by omega, w2.2⟩
              exact KZ_call (lo := lo') hkw hpl (by omega) (ht.trans q2) (by simp at hl; omega) hsn ⟨x1, by show c.1 + (pi1 k + pS r) ≤ 2 * pl; omega, x3''⟩ g2'' hCs hFw d4 hcnt a2 hcal
          rcases k45 with rfl | rfl
          · rw [zA_4, kA_4, hfl', eA]
            exact hz
          · rw [zA_5, kA_5, hfl', eA]
            exact hz
        · have hr : wfz r false := by
            rcases w2 with w2 | w2 | w2
            · omega
            · omega
            · exact w2.2
          have g7 := g6' k45
          by_cases k6 : k = 6
          · subst k6
            simp [wfF] at w1
            obtain ⟨rfl, -⟩ := w1
            rw [zA_6, kA_6, hfl']
            refine KZ_if (fun q => ?_) fun q => KZ_no rfl
            rw [kPush_lt hpr]
            unfold Sg at g4
            rw [if_neg (by omega), if_neg (by omega), if_pos (by omega)] at g4
            subst g4
            have : pi1 6 = 1 := rfl
            refine KZ_r0 (by omega) (by omega) (RK_rep (pt := true) (p' := 1) (lo := lo') (a := a') (by omega) ⟨x1, ?_, x3'⟩ g2' (by omega) ?_ ?_ ?_ rfl rfl)
            · show c.1 + (1 + pS r) ≤ 2 * (pl + 1)
              omega
            · unfold Sg
              rw [if_neg (by omega), if_neg (by omega), if_neg (by omega), if_neg (by omega), if_pos rfl, if_pos rfl]
              exact ⟨e, rfl, hC, rfl, rfl⟩
            · unfold TS
              rw [if_neg (by omega)]
              have := Fo_cat g5' (tokp q (by omega) rfl)
              have ew : pre (lp r) ++ (wd false 6 n [] ++ Wr e 0) ++ [126] = pre (lp r) ++ wd true 7 21000 [e] := by simp [wd]
              rw [ew] at this
              exact this
            · unfold CT
              rw [if_neg (by omega)]
              exact CaH_iff g7 (fun q y => by rw [hasT_cons]; simp [hasT_0])
          · by_cases k8 : k = 8
            · subst k8
              simp [wfF] at w1
              obtain ⟨rfl, -⟩ := w1
              rw [zA_8, kA_8, hfl']
              refine KZ_if (fun q => ?_) fun q => KZ_no rfl
              have : pi1 8 = 1 := rfl
              unfold Sg at g4
              rw [if_neg (by omega), if_neg (by omega), if_neg (by omega), if_neg (by omega), if_neg (by omega), if_pos rfl] at g4
              obtain ⟨rfl, rfl⟩ := g4
              have hkA : kAd c = nI c.1 := if_pos (by omega)
              rw [kPush_lt hpr, hkA, kEmit_lt (c := c) (by omega), kEmit_lt (by show c.1 + 1 < 300; omega)]
              have o1 : ∀ i, i < c.1 → upd (upd c.2.1 c.1 (21 : Int32)) (c.1 + 1) 24 i = c.2.1 i := fun i q => by rw [upd_lt (by omega), upd_lt q]
              have o2 : ∀ i, i < c.1 → upd (upd c.2.2 c.1 (0 : Int32)) (c.1 + 1) 0 i = c.2.2 i := fun i q => by rw [upd_lt (by omega), upd_lt q]
              refine KZ_r (by omega) (by omega) (RK_rep (pt := false) (p' := 0) (lo := lo') (a := a') (by omega) ⟨x1, ?_, x3'⟩ (Ly_same (fun i q => ⟨o1 i (by omega), o2 i (by omega)⟩) (fun i _ => ⟨rfl, rfl, rfl⟩) g2') (by omega) ?_ ?_ ?_ rfl rfl)
              · show c.1 + 1 + 1 + (1 + pS r) ≤ 2 * (pl + 1)
                omega
              · unfold Sg
                rw [if_neg (by omega), if_neg (by omega), if_neg (by omega), if_neg (by omega), if_neg (by omega), if_neg (by omega), if_pos rfl]
                refine ⟨.var 99, e, c.1, rfl, Cm_same (op := c.2.1) (od := c.2.2) (fun i q1 q2 => ⟨o1 i q2, o2 i q2⟩) (by omega) hC, ?_, pk_us, by simp [Cm], rfl, rfl⟩
                show upd (upd c.2.1 c.1 21) (c.1 + 1) 24 c.1 = 21
                rw [upd_lt (by omega), pk_us]
              · unfold TS
                rw [if_neg (by omega)]
                have := Fo_cat g5' (tokq q (by omega))
                have ew : pre (lp r) ++ (wd false 8 n [] ++ Wr e 0) ++ [165] = pre (lp r) ++ wd false 9 0 [.var 99, e] := by simp [wd, Wr]
                rw [ew] at this
                exact this
              · unfold CT
                rw [if_neg (by omega)]
                exact CaH_iff g7 (fun q y => by rw [hasT_cons, hasT_cons]; simp [hasT_0, hasC])
            · by_cases k11 : k = 11
              · subst k11
                simp [wfF] at w1
                rw [zA_11, kA_11, hfl']
                refine KZ_if (fun q => ?_) fun q => KZ_no rfl
                have : pi1 11 = 0 := rfl
                unfold Sg at g4
                rw [if_neg (by omega), if_neg (by omega), if_neg (by omega), if_neg (by omega), if_neg (by omega), if_neg (by omega), if_neg (by omega), if_neg (by omega), if_pos rfl] at g4
                have hkA : kAd c = nI c.1 := if_pos (by omega)
                rw [kPush_lt hpr, hkA, kEmit_lt (c := c) (by omega)]
                have o1 : ∀ i, i < c.1 → upd c.2.1 c.1 (21 : Int32) i = c.2.1 i := fun i q => upd_lt q
                have o2 : ∀ i, i < c.1 → upd c.2.2 c.1 (0 : Int32) i = c.2.2 i := fun i q => upd_lt q
                refine KZ_r (by omega) (by omega) (RK_rep (pt := false) (p' := 0) (lo := lo') (a := a') (by omega) ⟨x1, ?_, x3'⟩ (Ly_same (fun i q => ⟨o1 i (by omega), o2 i (by omega)⟩) (fun i _ => ⟨rfl, rfl, rfl⟩) g2') (by omega) ?_ ?_ ?_ rfl rfl)
                · show c.1 + 1 + (0 + pS r) ≤ 2 * (pl + 1)
                  omega
                · unfold Sg
                  rw [if_neg (by omega), if_neg (by omega), if_neg (by omega), if_neg (by omega), if_neg (by omega), if_neg (by omega), if_neg (by omega), if_neg (by omega), if_neg (by omega), if_pos rfl]
                  exact ⟨.var 99, e, tr, lo, c.1, rfl, Ch_same (c := c) (fun i q1 q2 => ⟨o1 i (by omega), o2 i (by omega)⟩) g4, Cm_same (op := c.2.1) (od := c.2.2) (fun i q1 q2 => ⟨o1 i q2, o2 i q2⟩) (by omega) hC, pk_us, by simp [Cm], rfl⟩
                · unfold TS
                  rw [if_neg (by omega)]
                  have := Fo_cat g5' (tokq q (by omega))
                  have ew : pre (lp r) ++ (wd false 11 n tr ++ Wr e 0) ++ [161] = pre (lp r) ++ wd false 12 0 (.var 99 :: e :: tr) := by simp [wd, Wr]
                  rw [ew] at this
                  exact this
                · unfold CT
                  rw [if_neg (by omega)]
                  exact CaH_iff g7 (fun q y => by
                    rw [hasT_cons, hasT_cons]
                    simp only [hasC, false_or]
                    exact Or.comm)
              · have k7 : k = 7 := by omega
                subst k7
                have hs := zLast_ok w1 he
                rw [zA_7, kA_7, hfl']
                have : pi1 7 = 1 := rfl
                rw [kEmit_lt (by omega)]
                have o1 : ∀ i, i < c.1 → upd c.2.1 c.1 f i = c.2.1 i := fun i q => upd_lt q
                have o2 : ∀ i, i < c.1 → upd c.2.2 c.1 s i = c.2.2 i := fun i q => upd_lt q
                have hCe : Cm (upd c.2.1 c.1 f) (upd c.2.2 c.1 s) own e 0 lo c.1 := Cm_same (op := c.2.1) (od := c.2.2) (fun i q1 q2 => ⟨o1 i q2, o2 i q2⟩) (by omega) hC
                have cm : ∀ {y : T} {md p q : Nat}, md ≠ 28 → q ≤ c.1 → Cm c.2.1 c.2.2 own y md p q → Cm (upd c.2.1 c.1 f) (upd c.2.2 c.1 s) own y md p q := fun h28 hq h => Cm_same (fun i q1 q2 => ⟨o1 i (by omega), o2 i (by omega)⟩) (fun z => absurd z h28) h
                -- the statement's code, word and calls
                have key : Cm (upd c.2.1 c.1 f) (upd c.2.2 c.1 s) own (zLast n tr e) 0 lo' (c.1 + 1) ∧ Wr (zLast n tr e) 0 = wd false 7 n tr ++ Wr e 0 ∧ ∀ q y, hasC (zLast n tr e) q y ↔ hasT tr q y ∨ hasC e q y := by
                  unfold Sg at g4
                  rw [if_neg (by omega), if_neg (by omega), if_neg (by omega), if_neg (by omega), if_pos rfl] at g4
                  simp [wfF] at w1
                  rcases w1 with ⟨w1, rfl⟩ | ⟨rfl, y, rfl, hy⟩ | ⟨rfl, y, rfl, hy⟩
                  · rcases w1 with w1 | rfl | rfl
                    · have e1 : ¬ n = 21000 := by omega
                      have e2 : ¬ n = 26000 := by omega
                      have e3 : ¬ n = 23000 := by omega
                      have e4 : ¬ n = 24000 := by omega
                      rw [if_neg e1, if_neg e2, if_neg e3, if_neg e4] at g4
                      obtain ⟨v, hv⟩ : ∃ v, n - 20000 = v := ⟨_, rfl⟩
                      rw [hv] at g4
                      obtain ⟨rfl, rfl, rfl⟩ := g4
                      have el : zLast n [] e = .mulL (200 + v) e := by simp [zLast, e1, e2, e3, e4, hv]
                      rw [el]
                      have h27 : 200 + v ≠ 27 := by omega
                      refine ⟨Cm_L h27 (by omega) ?_ ?_ (fun q => by omega) (fun _ => ?_), ?_, fun q y => ?_⟩
                      · have : cFmd (200 + v) = 0 := by unfold cFmd; rw [if_neg (by omega), if_neg (by omega)]
                        rw [this]; exact hCe
                      · rw [pk_us, cFop_200]
                      · rw [pk_us, Nat.add_sub_cancel_left]
                      · have : wd false 7 n [] = [100 + v, 120] := by simp [wd, e1, e2, e3, e4, hv]
                        rw [this]
                        simp only [Wr]
                        rw [if_neg (by omega), if_neg (by omega), if_neg (by omega), if_pos (by omega), Nat.add_sub_cancel_left]
                      · simp [hasC, hasT_0]
                    · rw [if_neg (by omega), if_neg (by omega), if_pos rfl] at g4
                      obtain ⟨rfl, rfl, rfl⟩ := g4
                      exact ⟨Cm_L (k := 23) (by omega) (by omega) hCe pk_us (fun q => by omega) (fun q => by omega), rfl, fun q y => by simp [zLast, hasC, hasT_0]⟩
                    · rw [if_neg (by omega), if_neg (by omega), if_neg (by omega), if_pos rfl] at g4
                      obtain ⟨rfl, rfl, rfl⟩ := g4
                      exact ⟨Cm_L (k := 24) (by omega) (by omega) hCe pk_us (fun q => by omega) (fun q => by omega), rfl, fun q y => by simp [zLast, hasC, hasT_0]⟩
                  · rw [if_pos rfl] at g4
                    obtain ⟨y', hh, d1, rfl, rfl⟩ := g4
                    cases hh
                    refine ⟨Cm_L (k := 21) (by omega) (by omega) (Cm_5 (cm (by omega) (by omega) d1) hCe) pk_us (fun q => by omega) (fun q => by omega), ?_, fun q z => ?_⟩
                    · simp [zLast, Wr, wd]
                    · simp [zLast, hasC, hasT_cons, hasT_0]
                  · rw [if_neg (by omega), if_pos rfl] at g4
                    obtain ⟨y', hh, d0, d1, rfl, rfl⟩ := g4
                    cases hh
                    have ld := Cm_le d1
                    refine ⟨Cm_L (k := 26) (by omega) (by omega) (Cm_26 ((o1 lo' (by omega)).trans d0) (cm (by omega) (by omega) d1) hCe) pk_us (fun _ => pk_us) (fun q => by omega), ?_, fun q z => ?_⟩
                    · simp [zLast, Wr, wd]
                    · simp [zLast, hasC, hasT_cons, hasT_0]
                obtain ⟨q1, q2, q3⟩ := key
                obtain ⟨-, -, -, -, -, -, -, -, hw2⟩ := addSt_ok hr hs
                obtain ⟨n1, n2, n3, n4⟩ := addSt_num (fs := r) (s := zLast n tr e)
                have hpS : pS (addSt r (zLast n tr e)) = pS r := by
                  cases r with
                  | nil => rfl
                  | cons f r =>
                    obtain ⟨k, n, tr⟩ := f
                    cases tr <;> rfl
                have hLa : Ly (c.1 + 1, upd c.2.1 c.1 f, upd c.2.2 c.1 s) fl' cl own tx e0 b0 D0 false (addSt r (zLast n tr e)) pr os (c.1 + 1) pl 1 := by
                  refine Ly_add (lo := lo') (a := a') hr hs (Ly_same (fun i q => ⟨o1 i (by omega), o2 i (by omega)⟩) (fun i _ => ⟨rfl, rfl, rfl⟩) g2') q1 ?_ ?_
                  · rw [q2]; exact g5'
                  · refine CaH_iff (H1 := fun q y => hasT tr q y ∨ hasC e q y) ?_ q3
                    unfold CT at g6
                    rw [if_neg k45] at g6
                    exact CaH_cat g6 hA (fun q y => Iff.rfl)
                have hlp2 : lp (addSt r (zLast n tr e)) = 2 := by
                  obtain ⟨k', n', l', tr', r', rfl, e2, -, -⟩ := addSt_ok hr hs
                  rw [e2]
                  have hk : k' = 9 ∨ k' = 10 ∨ k' = 12 ∨ k' = 13 ∨ k' = 14 ∨ k' = 15 := by
                    have := hr.2
                    omega
                  simp only [lp]
                  rw [if_pos hk]
                  show (if isNil (snoc l' (zLast n tr e)) = true then 0 else 2) = 2
                  rw [isNil_snoc]
                  rfl
                refine KZ_nd (n := 1) (KZ_stE hw2 hpl ht (by rw [n1]; simp at hl; omega) (by rw [n2]; simp [flat] at hfl; omega) ⟨x1, ?_, ?_⟩ hLa (Or.inr ⟨rfl, hlp2⟩))
                · show c.1 + 1 + pS (addSt r (zLast n tr e)) ≤ 2 * pl
                  rw [hpS]; omega
                · intro i a b
                  exact ⟨by show fl' i = 0; rw [js i (Or.inr a)]; exact (x3 i a b).1, (x3 i a b).2⟩
end KU
