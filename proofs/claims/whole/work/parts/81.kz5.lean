/-! K AGAINST Z: operators, begins of statements, a token of a body -/
section KV
variable {own : Nat → Bool} {tx : Nat → Nat} {e0 b0 pl t : Nat} {D0 : zD} {fs r : List zF} {pd pr : List zPd} {c c' : zC} {os : List zOs} {fl : Nat → Int32} {cl : (Nat → Int32) × (Nat → Int32)} {ow : Int32} {J : zJ} {B : Nat → T}
theorem XE_le {e : T} {m : Nat} {K : zKK} (hm : m ≤ 3) (h : XE own tx e0 b0 D0 fs e 3 pl K) : XE own tx e0 b0 D0 fs e m pl K := by
  obtain ⟨pd, c, en, os, fl, cl, ow, lo, a, h1, h2, h3, h4, h5, h6⟩ := h
  refine ⟨pd, c, en, os, fl, cl, ow, lo, a, h1, h2, h3, h4, h5, ?_⟩
  rcases h6 with ⟨q1, q2, q3, q4⟩ | q
  · exact Or.inl ⟨q1, q2, q3, by omega⟩
  · exact Or.inr q
theorem lev_bin (h : isBin t = true) : (if isTerm t = true then 2 else 1) = lmin t ∧ (if isRel t = true then zLev t = 0 else ¬ zLev t = 0) ∧ lmin t ≤ 2 ∧ 1 ≤ lmin t := by
  obtain ⟨h1, h2⟩ := isBin_n h
  unfold lmin zLev
  rw [if_neg (show ¬ t = 9 by omega), if_neg (show ¬ t = 8 by omega)]
  by_cases r : isRel t = true
  · have r' := r
    simp [isRel] at r'
    have it : isTerm t = false := by simp [isTerm]; omega
    simp [r, it]
  · simp only [r]
    by_cases q : t = 130 ∨ t = 131 ∨ t = 151
    · have it : isTerm t = false := by simp [isTerm]; omega
      simp [q, it]
    · have it : isTerm t = true := by
        simp only [isBin, Bool.or_eq_true] at h
        rcases h with (h | h) | h
        · exact absurd h r
        · simp [isSimp] at h; omega
        · exact h
      simp [q, it]
theorem KZ_oper {e : T} {K : zKK} (hw : wfz fs true) (he : sh e 0 = true) (hpl : pl < 150) (ht : tx pl = t) (hb : isBin t = true) (hl : fs.length ≤ pl) (hx : CX own pl fs K) (hX : XE own tx e0 b0 D0 fs e 3 pl K) : KZ own tx e0 b0 D0 pl J B (zOper t e fs J B) (kOper t K) := by
  obtain ⟨t1, t2⟩ := isBin_n hb
  obtain ⟨v1, v2, v3, v4⟩ := lev_bin hb
  have hop : kOfOp (nI t) = nI (zLev t) := by rw [kOfOp_z t (by omega), if_pos hb]
  have z3 := zLev_le t
  have hm : (if kOfOp (nI t) < 1 then 1 else kOfOp (nI t)) = nI (lmin t) := by
    rw [hop]
    unfold lmin
    by_cases q : zLev t = 0
    · rw [if_pos q, q]; rfl
    · rw [if_neg q, if_neg (show ¬ nI (zLev t) < (1 : Int32) from nI_nlt (b := 1) (by omega) (by omega))]
  have hk := kOps_z (own := own) (tx := tx) (e0 := e0) (b0 := b0) (b := pl) (m := lmin t) 150 (by omega) hw he (by omega) (XE_le (m := lmin t) (by omega) hX) (by have := hx.2.1; omega)
  obtain ⟨hX2, hn, hf, hcl⟩ := hk
  have hx2 : CX own pl (zOps (lmin t) fs e).1 (kOps 150 (nI (lmin t)) K) := by
    refine ⟨fun x => by rw [hcl]; exact hx.1 x, by rw [hn]; exact hx.2.1, fun i a b => ?_⟩
    rw [hcl, hf i a]
    exact hx.2.2 i a b
  obtain ⟨w1, w2, w3, w4, w5⟩ := zOps_ok (lmin t) hw he
  have w6 := zOps_tl (lmin t) fs e
  have w7 := zOps_len (lmin t) fs e
  unfold kOper
  rw [hm, hop]
  have eZ : zOper t e fs J B = (if isRel t = true then (if tl (zOps (lmin t) fs e).1 = 0 then some (21, [], (1, t, [(zOps (lmin t) fs e).2]) :: (zOps (lmin t) fs e).1, ndn J (fs.length - (zOps (lmin t) fs e).1.length), B) else none) else some (22, [], (1, t, [(zOps (lmin t) fs e).2]) :: (zOps (lmin t) fs e).1, ndn J (fs.length - (zOps (lmin t) fs e).1.length), B)) := by
    unfold zOper
    rw [v1]
  rw [eZ]
  generalize zOps (lmin t) fs e = qq at hX2 hx2 hn w1 w2 w3 w4 w5 w6 w7
  generalize kOps 150 (nI (lmin t)) K = KK at hX2 hx2 hn hf hcl
  obtain ⟨fs2, e2⟩ := qq
  obtain ⟨pd, c, en, os, fl, cl, ow, lo, a, rfl, hL, hC, hA, hO⟩ := hX2
  obtain ⟨l0, o0, x0⟩ := en
  obtain ⟨x1, x2, x3⟩ := hx2
  have x2 : c.1 + pS fs2 ≤ 2 * pl := x2
  have x3 : ∀ i, pl ≤ i → i < 150 → fl i = 0 ∧ cl.1 i = -1 := x3
  obtain ⟨f0, ca0⟩ := x3 pl (Nat.le_refl _) hpl
  obtain ⟨jf, js⟩ := OpT_judge (m' := lmin t) (os := os) w2 hO (by omega) (Or.inr (Nat.le_refl _))
  have la : a ≤ pl := hA.1
  have lC := Cm_le hC
  have lpd := (Ly_len hL).1
  have w7 : fs2.length ≤ fs.length := w7
  have hpd : pd.length < 150 := by omega
  have htl : tl fs2 = 0 ↔ ¬ (kHd pd).1 = 1 := by
    cases fs2 with
    | nil => exact w1.elim
    | cons fr r2 =>
      obtain ⟨k, n, tr⟩ := fr
      obtain ⟨f, s, pr, os', lo', a', rfl, -⟩ := hL
      show (if k = 1 then zLev n + 1 else 0) = 0 ↔ ¬ k = 1
      split <;> simp_all
  have fin : ∀ nx, nx = 21 ∨ nx = 22 → KZ own tx e0 b0 D0 pl J B (some (nx, [], (1, t, [e2]) :: fs2, ndn J (fs.length - fs2.length), B)) (nx, kPush 1 (nI t) (if t = 150 ∨ t = 151 then kAd c else -1) pd, (if t = 150 then kEmit 22 0 c else if t = 151 then kEmit 23 0 c else c), os, kJf (nI (lmin t)) fl ((l0, o0, x0) :: os), cl, ow) := by
    intro nx hnx
    rw [kPush_lt hpd]
    generalize kJf (nI (lmin t)) fl ((l0, o0, x0) :: os) = fl' at jf js
    have f0' : fl' pl = 0 := by rw [js pl (Or.inr (Nat.le_refl _))]; exact f0
    have hkA : kAd c = nI c.1 := if_pos (by omega)
    -- the code
    obtain ⟨c2, s2, ec2, es2, b1, b2, b3⟩ : ∃ c2 s2, (if t = 150 then kEmit 22 0 c else if t = 151 then kEmit 23 0 c else c) = c2 ∧ (if t = 150 ∨ t = 151 then kAd c else -1) = s2 ∧ Sg c2 own 1 t [e2] (nI t) s2 lo c2.1 ∧ c2.1 ≤ c.1 + 1 ∧ ∀ i, i < lo → c2.2.1 i = c.2.1 i ∧ c2.2.2 i = c.2.2 i := by
      by_cases q : t = 150 ∨ t = 151
      · obtain ⟨w, hw'⟩ : ∃ w : Int32, w = (if t = 150 then 22 else 23) := ⟨_, rfl⟩
        have ee : (if t = 150 then kEmit 22 0 c else if t = 151 then kEmit 23 0 c else c) = kEmit w 0 c := by
          rw [hw']
          by_cases q1 : t = 150
          · rw [if_pos q1, if_pos q1]
          · rw [if_neg q1, if_neg q1, if_pos (by omega)]
        refine ⟨_, _, rfl, rfl, ?_⟩
        rw [ee, if_pos q, hkA, kEmit_lt (by omega)]
        refine ⟨?_, Nat.le_refl _, fun i q => ⟨upd_lt (by omega), upd_lt (by omega)⟩⟩
        unfold Sg
        rw [if_pos rfl, if_neg (by omega)]
        refine ⟨e2, rfl, rfl, ?_⟩
        rw [if_pos q]
        exact ⟨c.1, rfl, Cm_same (op := c.2.1) (od := c.2.2) (fun i q1 q2 => ⟨upd_lt q2, upd_lt q2⟩) (by omega) hC, pk_us.trans hw', rfl⟩
      · refine ⟨c, -1, by rw [if_neg (by omega), if_neg (by omega)], if_neg q, ?_, by omega, fun i _ => ⟨rfl, rfl⟩⟩
        unfold Sg
        rw [if_pos rfl, if_neg (by omega)]
        refine ⟨e2, rfl, rfl, ?_⟩
        rw [if_neg q]
        exact ⟨hC, rfl⟩
    rw [ec2, es2]
    refine KZ_r (by omega) (by omega) ⟨⟨x1, ?_, ?_⟩, ?_⟩
    · show c2.1 + (1 + pS fs2) ≤ 2 * (pl + 1)
      omega
    · intro i a b
      exact ⟨by show fl' i = 0; rw [js i (Or.inr (by omega))]; exact (x3 i (by omega) b).1, (x3 i (by omega) b).2⟩
    · have hpt : ptn nx = false := by rcases hnx with rfl | rfl <;> rfl
      rw [if_neg (by omega), if_neg (by omega), if_neg (by omega), hpt]
      have hlp := lp_wf w1
      refine ⟨nI t, s2, pd, os, lo, a, rfl, ?_, ?_, b1, ?_, ?_⟩
      · rw [hlp]
        exact Ly_same (fun i q => b3 i q) (fun i q => ⟨js i (Or.inl q), rfl, rfl⟩) hL
      · unfold osE
        rw [if_pos ⟨rfl, by omega, by omega⟩]
      · unfold TS
        rw [if_neg (by omega), hlp]
        have io : isOp t = false := by simp [isOp]; omega
        have := Fo_cat jf (Fo_plain (p := 1) ht f0' (by omega) io (by omega))
        have ew : pre 1 ++ wd false 1 t [e2] = Wr e2 (lmin t) ++ [t] := by
          have n9 : ¬ t = 9 := by omega
          have n8 : ¬ t = 8 := by omega
          simp [pre, wd, n9, n8]
        rw [ew]
        exact this
      · unfold CT
        rw [if_neg (by omega)]
        exact CaH_iff (CaH_ext hA ca0) (fun q y => by rw [hasT_cons]; simp [hasT_0])
  show KZ own tx e0 b0 D0 pl J B (if isRel t = true then (if tl fs2 = 0 then some (21, [], (1, t, [e2]) :: fs2, ndn J (fs.length - fs2.length), B) else none) else some (22, [], (1, t, [e2]) :: fs2, ndn J (fs.length - fs2.length), B)) (if nI (zLev t) = 0 ∧ (kHd pd).1 = 1 then (99, pd, c, (l0, o0, x0) :: os, fl, cl, ow) else (if nI (zLev t) = 0 then 21 else 22, kPush 1 (nI t) (if t = 150 ∨ t = 151 then kAd c else -1) pd, (if t = 150 then kEmit 22 0 c else if t = 151 then kEmit 23 0 c else c), os, kJf (nI (lmin t)) fl ((l0, o0, x0) :: os), cl, ow))
  by_cases r : isRel t = true
  · rw [if_pos r] at v2
    have z0 : nI (zLev t) = 0 := by rw [v2]; rfl
    rw [if_pos r]
    by_cases q : tl fs2 = 0
    · rw [if_pos q, if_neg (fun z => (htl.mp q) z.2), if_pos z0]
      exact fin 21 (Or.inl rfl)
    · rw [if_neg q, if_pos ⟨z0, Decidable.byContradiction fun z => q (htl.mpr z)⟩]
      exact KZ_no rfl
  · rw [if_neg r] at v2
    have z0 : ¬ nI (zLev t) = 0 := nI_ne0 (by omega) (by omega)
    rw [if_neg r, if_neg (fun z => z0 z.1), if_neg z0]
    exact fin 22 (Or.inr rfl)
theorem kStB_eq {x : Int32} : kStB t x (pd, c, os, fl, cl, ow) = if isName t = true then (11, kPush 7 (if kOwn ow (t - 100) = true then 6 else 5) (nI (t - 100)) pd, c, os, fl, cl, ow)
    else if isProcName t = true then (17, kPush 5 x 0 pd, c, os, fl, kBegC (nI (t - 110)) x cl, ow)
    else if t = 108 then (15, kPush 6 0 0 pd, c, os, fl, cl, ow)
    else if t = 160 then (21, kPush 11 (-1) 0 pd, c, os, fl, cl, ow)
    else if t = 164 then (21, kPush 8 (nI c.1) 0 pd, c, os, fl, cl, ow)
    else if t = 166 then (9, kPush 10 (nI c.1) 0 pd, kEmit 24 0 c, os, fl, cl, ow)
    else if t = 168 then (21, kPush 7 26 0 pd, c, os, fl, cl, ow)
    else if t = 169 then (21, kPush 7 12 0 pd, c, os, fl, cl, ow)
    else (99, pd, c, os, fl, cl, ow) := rfl
theorem KZ_stB (hw : wfz fs false) (hpl : pl < 150) (ht : tx pl = t) (ht2 : t < 174) (hs : begStmt t = true) (hl : fs.length ≤ pl) (hx : CX own pl fs (pd, c, os, fl, cl, ow)) (hL : Ly c fl cl own tx e0 b0 D0 false fs pd os c.1 pl (lp fs)) : KZ own tx e0 b0 D0 pl J B (zStBegin t pl fs J B) (kStB t (nI pl) (pd, c, os, fl, cl, ow)) := by
  obtain ⟨x1, x2, x3⟩ := hx
  have x2 : c.1 + pS fs ≤ 2 * pl := x2
  have x3 : ∀ i, pl ≤ i → i < 150 → fl i = 0 ∧ cl.1 i = -1 := x3
  obtain ⟨f0, ca0⟩ := x3 pl (Nat.le_refl _) hpl
  have hpd : pd.length < 150 := by rw [(Ly_len hL).1]; omega
  have x3' : ∀ i, pl + 1 ≤ i → i < 150 → fl i = 0 ∧ cl.1 i = -1 := fun i a b => x3 i (by omega) b
  have first : ∀ {n : Nat}, t = n → ¬ n = 121 → isEn n = false → Fo tx fl pl (pl + 1) (lp fs) (pre (lp fs) ++ [n]) (if isOp n = true then 0 else 1) := fun q a b => Fo_first (ht.trans q) f0 a b
  -- a frame that needs no code
  have easy : ∀ {nx k n p' : Nat} {f s : Int32}, nx ≠ 0 → nx ≠ 24 → nx ≠ 23 ∧ nx ≠ 10 → nx ≠ 9 → pi1 k ≤ 2 → k ≠ 1 → k ≠ 2 → ¬ (k = 4 ∨ k = 5) → Sg c own k n [] f s c.1 c.1 → Fo tx fl pl (pl + 1) (lp fs) (pre (lp fs) ++ wd (ptn nx) k n []) 1 → KZ own tx e0 b0 D0 pl J B (some (nx, [], (k, n, []) :: fs, J, B)) (nx, (k, f, s) :: pd, c, os, fl, cl, ow) := by
    intro nx k n p' f s a1 a2 a3 a4 a5 a6 a7 a8 a9 a10
    refine KZ_r0 a1 a2 (RK_new (pt := ptn nx) (p' := 1) (c' := c) a3 ⟨x1, ?_, x3'⟩ hL (fun i q => ⟨rfl, rfl⟩) (fun i q => ⟨rfl, rfl⟩) (fun q => absurd q a6) a9 ?_ (CT_nil a8 ca0) rfl (by rw [if_neg a4]))
    · show c.1 + (pi1 k + pS fs) ≤ 2 * (pl + 1)
      omega
    · unfold TS
      rw [if_neg a7]
      exact a10
  have ne : t = 108 ∨ isName t = true ∨ isProcName t = true ∨ t = 160 ∨ t = 164 ∨ t = 166 ∨ t = 168 ∨ t = 169 := by
    simp [begStmt] at hs
    simp [isName, isProcName]
    omega
  unfold zStBegin
  rw [kStB_eq]
  by_cases qn : isName t = true
  · rw [if_pos qn, if_pos qn, kPush_lt hpd]
    have qn' := qn
    simp only [isName, Bool.and_eq_true, decide_eq_true_eq] at qn'
    obtain ⟨v, hv⟩ : ∃ v, v = t - 100 := ⟨_, rfl⟩
    rw [← hv]
    obtain ⟨m, hm⟩ : ∃ m, m = 20000 + v := ⟨_, rfl⟩
    have hm2 : m - 20000 = v := by omega
    rw [← hm]
    have m1 : ¬ m = 21000 := by omega
    have m2 : ¬ m = 26000 := by omega
    have m3 : ¬ m = 23000 := by omega
    have m4 : ¬ m = 24000 := by omega
    refine easy (p' := 1) (by omega) (by omega) (by omega) (by omega) (by decide) (by omega) (by omega) (by omega) ?_ ?_
    · unfold Sg
      rw [if_neg (by omega), if_neg (by omega), if_neg (by omega), if_neg (by omega), if_pos rfl, if_neg m1, if_neg m2, if_neg m3, if_neg m4, hm2]
      exact ⟨rfl, by rw [x1 v], rfl⟩
    · have := first rfl (by omega) (show isEn t = false by simp [isEn]; omega)
      have io : isOp t = false := by simp [isOp]; omega
      rw [io] at this
      have ew : wd (ptn 11) 7 m [] = [t] := by
        have et : 100 + v = t := by omega
        simp [wd, m1, m2, m3, m4, ptn, hm2, et]
      rw [ew]
      exact this
  rw [if_neg qn, if_neg qn]
  by_cases q108 : t = 108
  · have np : ¬ isProcName t = true := by simp [isProcName]; omega
    rw [if_pos q108, if_neg np, if_pos q108, kPush_lt hpd]
    exact easy (p' := 1) (by omega) (by omega) (by omega) (by omega) (by decide) (by omega) (by omega) (by omega) (by unfold Sg; rw [if_neg (by omega), if_neg (by omega), if_pos (by omega)]) (first q108 (by omega) rfl)
  rw [if_neg q108]
  by_cases qp : isProcName t = true
  · have qp' := qp
    simp only [isProcName, Bool.and_eq_true, decide_eq_true_eq] at qp'
    rw [if_pos qp, if_pos qp, kPush_lt hpd]
    refine KZ_r (by omega) (by omega) ?_
    have e1 : kBegC (nI (t - 110)) (nI pl) cl = (upd cl.1 pl (nI (t - 110)), upd cl.2 pl 0) := by
      unfold kBegC
      rw [if_neg (ix150 hpl), nI_clamp (by omega)]
    have hq4 : (t - 110 + 4 * pl) / 4 = pl := by omega
    have hqm : (t - 110 + 4 * pl) % 4 = t - 110 := by omega
    rw [e1]
    refine RK_new (nx := 17) (pt := true) (p' := 1) (c' := c) (by omega) ⟨x1, ?_, ?_⟩ hL (fun i q => ⟨rfl, rfl⟩) (fun i q => ⟨upd_lt q, upd_lt q⟩) (fun q => by omega) ?_ ?_ ?_ rfl rfl
    · show c.1 + (2 + pS fs) ≤ 2 * (pl + 1)
      omega
    · intro i a b
      obtain ⟨g1, g2⟩ := x3' i a b
      refine ⟨g1, ?_⟩
      show upd cl.1 pl (nI (t - 110)) i = -1
      rw [pk_un (by omega)]
      exact g2
    · unfold Sg
      rw [if_neg (by omega), if_neg (by omega), if_neg (by omega), if_pos (by omega)]
      exact ⟨_, _, rfl, by simp [Cm], rfl⟩
    · unfold TS
      rw [if_neg (by omega)]
      have := first rfl (by omega) (show isEn t = false by simp [isEn]; omega)
      have io : isOp t = false := by simp [isOp]; omega
      rw [io] at this
      have ew : wd true 5 pl [(.mulR (.var 99) (t - 110 + 4 * pl) : T)] = [t] := by
        simp [wd, hqm]
        omega
      rw [ew]
      exact this
    · unfold CT
      rw [if_pos (by omega)]
      refine ⟨_, _, rfl, rfl, hq4, ?_, ?_, ?_⟩
      · show upd cl.1 pl (nI (t - 110)) pl = _
        rw [pk_us, hqm]
      · show upd cl.2 pl 0 pl = _
        rw [pk_us]; rfl
      · exact CaH_iff CaH_nil (fun q c => by simp [hasC])
  rw [if_neg qp, if_neg qp, if_neg q108]
  have sg7 : ∀ {n : Nat} {f s : Int32}, (n = 23000 ∧ f = 12 ∧ s = 0) ∨ (n = 24000 ∧ f = 26 ∧ s = 0) → Sg c own 7 n [] f s c.1 c.1 := by
    rintro n f s (⟨rfl, rfl, rfl⟩ | ⟨rfl, rfl, rfl⟩)
    · unfold Sg
      rw [if_neg (by omega), if_neg (by omega), if_neg (by omega), if_neg (by omega), if_pos rfl, if_neg (by omega), if_neg (by omega), if_pos rfl]
      exact ⟨rfl, rfl, rfl⟩
    · unfold Sg
      rw [if_neg (by omega), if_neg (by omega), if_neg (by omega), if_neg (by omega), if_pos rfl, if_neg (by omega), if_neg (by omega), if_neg (by omega), if_pos rfl]
      exact ⟨rfl, rfl, rfl⟩
  by_cases q169 : t = 169
  · rw [if_pos q169, if_neg (by omega), if_neg (by omega), if_neg (by omega), if_neg (by omega), if_pos q169, kPush_lt hpd]
    exact easy (p' := 1) (by omega) (by omega) (by omega) (by omega) (by decide) (by omega) (by omega) (by omega) (sg7 (Or.inl ⟨rfl, rfl, rfl⟩)) (first q169 (by omega) rfl)
  by_cases q168 : t = 168
  · rw [if_neg q169, if_pos q168, if_neg (by omega), if_neg (by omega), if_neg (by omega), if_pos q168, kPush_lt hpd]
    exact easy (p' := 1) (by omega) (by omega) (by omega) (by omega) (by decide) (by omega) (by omega) (by omega) (sg7 (Or.inr ⟨rfl, rfl, rfl⟩)) (first q168 (by omega) rfl)
  by_cases q164 : t = 164
  · rw [if_neg q169, if_neg q168, if_pos q164, if_neg (by omega), if_pos q164, kPush_lt hpd]
    refine easy (p' := 1) (by omega) (by omega) (by omega) (by omega) (by decide) (by omega) (by omega) (by omega) ?_ (first q164 (by omega) rfl)
    unfold Sg
    rw [if_neg (by omega), if_neg (by omega), if_neg (by omega), if_neg (by omega), if_neg (by omega), if_pos rfl]
    exact ⟨rfl, rfl⟩
  by_cases q166 : t = 166
  · rw [if_neg q169, if_neg q168, if_neg q164, if_pos q166, if_neg (by omega), if_neg q164, if_pos q166, kPush_lt hpd, kEmit_lt (by omega)]
    refine KZ_r (by omega) (by omega) (RK_new (nx := 9) (pt := false) (p' := 0) (by omega) ⟨x1, ?_, x3'⟩ hL (fun i q => ⟨upd_lt q, upd_lt q⟩) (fun i q => ⟨rfl, rfl⟩) (fun q => by omega) ?_ ?_ ?_ rfl rfl)
    · show c.1 + 1 + (1 + pS fs) ≤ 2 * (pl + 1)
      omega
    · unfold Sg
      rw [if_neg (by omega), if_neg (by omega), if_neg (by omega), if_neg (by omega), if_neg (by omega), if_neg (by omega), if_neg (by omega), if_pos rfl]
      exact ⟨_, rfl, pk_us, by simp [Cm], rfl⟩
    · unfold TS
      rw [if_neg (by omega)]
      exact first q166 (by omega) rfl
    · unfold CT
      rw [if_neg (by omega)]
      exact CaH_iff (CaH_one ca0) (fun q y => by rw [hasT_cons]; simp [hasT_0, hasC])
  · have q160 : t = 160 := by
      rcases ne with z | z | z | z | z | z | z | z
      · exact absurd z q108
      · exact absurd z qn
      · exact absurd z qp
      · exact z
      · exact absurd z q164
      · exact absurd z q166
      · exact absurd z q168
      · exact absurd z q169
    rw [if_neg q169, if_neg q168, if_neg q164, if_neg q166, if_pos q160, kPush_lt hpd]
    refine easy (p' := 1) (by omega) (by omega) (by omega) (by omega) (by decide) (by omega) (by omega) (by omega) ?_ (first q160 (by omega) rfl)
    unfold Sg
    rw [if_neg (by omega), if_neg (by omega), if_neg (by omega), if_neg (by omega), if_neg (by omega), if_neg (by omega), if_neg (by omega), if_neg (by omega), if_pos rfl]
    exact ⟨rfl, rfl⟩
end KV
