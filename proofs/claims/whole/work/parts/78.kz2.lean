/-! K AGAINST Z: the relation at a token; factors -/
def CX (own : Nat → Bool) (pl : Nat) (fs : List zF) (K : zKK) : Prop :=
  (∀ x, own x = kOwn K.2.2.2.2.2 x) ∧ K.2.1.1 + pS fs ≤ 2 * pl ∧ ∀ i, pl ≤ i → i < 150 → K.2.2.2.1 i = 0 ∧ K.2.2.2.2.1.1 i = -1
def ptn (nx : Nat) : Bool := nx == 11 || nx == 15 || nx == 17
def RK (own : Nat → Bool) (tx : Nat → Nat) (e0 b0 : Nat) (D0 : zD) (pl nx : Nat) (cs : List T) (fs : List zF) (K : zKK) : Prop :=
  CX own pl fs K ∧
  (if nx = 23 then ∃ e, cs = [e] ∧ XE own tx e0 b0 D0 fs e 3 pl K
   else if nx = 9 then Ly K.2.1 K.2.2.2.1 K.2.2.2.2.1 own tx e0 b0 D0 false fs K.1 K.2.2.1 K.2.1.1 pl (lp fs)
   else if nx = 10 then Ly K.2.1 K.2.2.2.1 K.2.2.2.2.1 own tx e0 b0 D0 false fs K.1 K.2.2.1 K.2.1.1 pl 1 ∧ lp fs = 2
   else Ly K.2.1 K.2.2.2.1 K.2.2.2.2.1 own tx e0 b0 D0 (ptn nx) fs K.1 K.2.2.1 K.2.1.1 pl 1)
/-- a body has been read: its list l -/
def Bd (own : Nat → Bool) (tx : Nat → Nat) (e0 b0 : Nat) (D0 : zD) (pl : Nat) (l : T) (K : zKK) : Prop :=
  CX own pl [] K ∧ K.1 = [] ∧ K.2.2.1 = [] ∧ bse D0 e0 b0 K.2.1 K.2.2.2.1 K.2.2.2.2.1 ∧ (∃ h, K.2.1.1 = h + 2 ∧ Cm K.2.1.2.1 K.2.1.2.2 own l 1 e0 h ∧ K.2.1.2.1 h = 1 ∧ K.2.1.2.2 h = 0 ∧ K.2.1.2.1 (h + 1) = 26) ∧ Fo tx K.2.2.2.1 b0 pl 1 (171 :: (Wr l 5 ++ [163])) 1 ∧ CaH K.2.2.2.2.1.1 K.2.2.2.2.1.2 (hasC l) b0 pl
def KZ (own : Nat → Bool) (tx : Nat → Nat) (e0 b0 : Nat) (D0 : zD) (pl : Nat) (J : zJ) (B : Nat → T) : Option zZ → Nat × zKK → Prop
  | none, q => q.1 = 99
  | some (nx, cs, fs, J', B'), q => q.1 = nx ∧ if nx = 0 ∨ nx = 24 then ∃ l n, Bd own tx e0 b0 D0 (pl + 1) l q.2 ∧ sh l 2 = true ∧ (J', B') = (sFin (if nx = 0 then 3000 else 2000) [l] (ndn J n) B).2 else RK own tx e0 b0 D0 (pl + 1) nx cs fs q.2 ∧ B' = B ∧ ∃ n, J' = ndn J n
theorem rq_le (fs : List zF) : rq fs ≤ 3 := by
  cases fs with
  | nil => simp [rq]
  | cons f r =>
    obtain ⟨k, n, t⟩ := f
    simp only [rq]
    by_cases k1 : k = 1
    · rw [if_pos k1]
      split
      · omega
      · rename_i q
        have h1 := zLev_le n
        have : zLev n ≠ 3 := by
          unfold zLev
          rw [if_neg q]
          repeat' split
          all_goals omega
        omega
    · rw [if_neg k1]; omega
theorem kPush_lt {k : Nat} {x y : Int32} {pd : List zPd} (h : pd.length < 150) : kPush k x y pd = (k, x, y) :: pd := if_pos h
theorem ix150 {j : Nat} (h : j < 150) : ¬ (nI j < 0 ∨ (150 : Int32) ≤ nI j) := fun z => Or.elim z (nI_pos (by omega)) (nI_ge (b := 150) h (by omega))
section KF
variable {own : Nat → Bool} {tx : Nat → Nat} {e0 b0 pl t : Nat} {D0 : zD} {fs : List zF} {pd : List zPd} {c : zC} {os : List zOs} {fl : Nat → Int32} {cl : (Nat → Int32) × (Nat → Int32)} {ow : Int32} {J : zJ} {B : Nat → T}
theorem KZ_if {g : Prop} [Decidable g] {o1 o2 : Option zZ} {q1 q2 : Nat × zKK} (h1 : g → KZ own tx e0 b0 D0 pl J B o1 q1) (h2 : ¬ g → KZ own tx e0 b0 D0 pl J B o2 q2) : KZ own tx e0 b0 D0 pl J B (if g then o1 else o2) (if g then q1 else q2) := by
  by_cases h : g
  · rw [if_pos h, if_pos h]; exact h1 h
  · rw [if_neg h, if_neg h]; exact h2 h
theorem KZ_r {nx n : Nat} {cs : List T} {fs' : List zF} {K : zKK} (h0 : nx ≠ 0) (h24 : nx ≠ 24) (h : RK own tx e0 b0 D0 (pl + 1) nx cs fs' K) : KZ own tx e0 b0 D0 pl J B (some (nx, cs, fs', ndn J n, B)) (nx, K) := ⟨rfl, by rw [if_neg (by omega)]; exact ⟨h, rfl, n, rfl⟩⟩
theorem KZ_r0 {nx : Nat} {cs : List T} {fs' : List zF} {K : zKK} (h0 : nx ≠ 0) (h24 : nx ≠ 24) (h : RK own tx e0 b0 D0 (pl + 1) nx cs fs' K) : KZ own tx e0 b0 D0 pl J B (some (nx, cs, fs', J, B)) (nx, K) := by
  have := KZ_r (J := J) (B := B) (n := 0) h0 h24 h
  rw [ndn_0] at this
  exact this
/-- a value that is a factor -/
theorem RK_val {e : T} {lo a : Nat} (hx : CX own (pl + 1) fs (pd, c, os, fl, cl, ow)) (hL : Ly c fl cl own tx e0 b0 D0 false fs pd os lo a 1) (hl : fs.length < 150) (hC : Cm c.2.1 c.2.2 own e 0 lo c.1) (hA : CaH cl.1 cl.2 (hasC e) a (pl + 1)) (hF : Fo tx fl a (pl + 1) 1 (Wr e 0) 1) (he : tlev e = 3) : RK own tx e0 b0 D0 (pl + 1) 23 [e] fs (pd, c, kPushF os, fl, cl, ow) := by
  have ho : os.length < 150 := by have := (Ly_len hL).2; omega
  have ek : kPushF os = (3, -1, -1) :: os := by rw [Ly_os hL]; rfl
  rw [ek]
  refine ⟨hx, ?_⟩
  rw [if_pos rfl]
  exact ⟨e, rfl, pd, c, _, os, fl, cl, ow, lo, a, rfl, hL, hC, hA, by rw [he]; rfl, Or.inl ⟨rfl, hF, by rw [he]; exact rq_le fs, by omega⟩⟩
/-- a new frame of one token -/
theorem RK_new {nx k n p' : Nat} {tr : List T} {f s : Int32} {cl' : (Nat → Int32) × (Nat → Int32)} {c' : zC} {pt : Bool} (hn : nx ≠ 23 ∧ nx ≠ 10) (hx : CX own (pl + 1) ((k, n, tr) :: fs) ((k, f, s) :: pd, c', os, fl, cl', ow)) (hL : Ly c fl cl own tx e0 b0 D0 false fs pd os c.1 pl (lp fs)) (hc : ∀ i, i < c.1 → c'.2.1 i = c.2.1 i ∧ c'.2.2 i = c.2.2 i) (hcl : ∀ i, i < pl → cl'.1 i = cl.1 i ∧ cl'.2 i = cl.2 i) (ho : k = 1 → n = 8 ∨ n = 9) (hS : Sg c' own k n tr f s c.1 c'.1) (hT : TS tx fl pt k n tr pl (pl + 1) (lp fs) p') (hC : CT cl' k n tr pl (pl + 1)) (hpt : pt = ptn nx) (hp : p' = if nx = 9 then lp ((k, n, tr) :: fs) else 1) : RK own tx e0 b0 D0 (pl + 1) nx [] ((k, n, tr) :: fs) ((k, f, s) :: pd, c', os, fl, cl', ow) := by
  refine ⟨hx, ?_⟩
  have hL' : Ly c' fl cl' own tx e0 b0 D0 pt ((k, n, tr) :: fs) ((k, f, s) :: pd) os c'.1 (pl + 1) p' := ⟨f, s, pd, os, c.1, pl, rfl, Ly_same hc (fun i q => ⟨rfl, hcl i q⟩) hL, by unfold osE; rw [if_neg (fun z => by have := ho z.1; omega)], hS, hT, hC⟩
  rw [if_neg hn.1]
  by_cases n9 : nx = 9
  · rw [if_pos n9]
    rw [if_pos n9] at hp
    subst hp hpt n9
    exact hL'
  · rw [if_neg n9, if_neg hn.2]
    rw [if_neg n9] at hp
    subst hp hpt
    exact hL'
theorem hasT_0 : ∀ q c, hasT [] q c ↔ False := fun q c => ⟨fun h => hasT_nil q c h, fun h => h.elim⟩
theorem CT_nil {k n : Nat} (hk : ¬ (k = 4 ∨ k = 5)) (h : cl.1 pl = -1) : CT cl k n [] pl (pl + 1) := by
  unfold CT
  rw [if_neg hk]
  exact CaH_iff (CaH_one h) hasT_0
theorem KZ_fac (hw : wfz fs true) (hpl : pl < 150) (ht : tx pl = t) (ht2 : t < 174) (hl : fs.length ≤ pl) (hx : CX own pl fs (pd, c, os, fl, cl, ow)) (hL : Ly c fl cl own tx e0 b0 D0 false fs pd os c.1 pl 1) : KZ own tx e0 b0 D0 pl J B (zFactor t pl fs J B) (kFac t (nI pl) (pd, c, os, fl, cl, ow)) := by
  obtain ⟨x1, x2, x3⟩ := hx
  have x2 : c.1 + pS fs ≤ 2 * pl := x2
  have x3 : ∀ i, pl ≤ i → i < 150 → fl i = 0 ∧ cl.1 i = -1 := x3
  obtain ⟨f0, ca0⟩ := x3 pl (Nat.le_refl _) hpl
  have hlp := lp_wf hw
  have hpd : pd.length < 150 := by rw [(Ly_len hL).1]; omega
  have hc : c.1 < 300 := by omega
  have x3' : ∀ i, pl + 1 ≤ i → i < 150 → fl i = 0 ∧ cl.1 i = -1 := fun i a b => x3 i (by omega) b
  have hL1 : Ly c fl cl own tx e0 b0 D0 false fs pd os c.1 pl (lp fs) := by rw [hlp]; exact hL
  have val : ∀ {e : T} {x y : Int32}, Cm (upd c.2.1 c.1 x) (upd c.2.2 c.1 y) own e 0 c.1 (c.1 + 1) → (∀ q c, ¬ hasC e q c) → Wr e 0 = [t] → tlev e = 3 → ¬ t = 121 → isOp t = false → RK own tx e0 b0 D0 (pl + 1) 23 [e] fs (pd, kEmit x y c, kPushF os, fl, cl, ow) := by
    intro e x y h1 h2 h3 h4 h5 h6
    rw [kEmit_lt hc]
    refine RK_val (lo := c.1) (a := pl) ⟨x1, ?_, x3'⟩ (Ly_same (fun i q => ⟨upd_lt q, upd_lt q⟩) (fun i q => ⟨rfl, rfl, rfl⟩) hL) (by omega) h1 (CaH_iff (CaH_one ca0) (fun q c => ⟨fun z => h2 q c z, fun z => z.elim⟩)) (by rw [h3]; exact Fo_plain ht f0 h5 h6 (by omega)) h4
    show c.1 + 1 + pS fs ≤ 2 * (pl + 1)
    omega
  unfold zFactor kFac
  refine KZ_if (fun q => ?_) fun q1 => ?_
  · refine KZ_r (by omega) (by omega) (val ⟨rfl, rfl, pk_us, pk_us⟩ (fun _ _ z => z) rfl rfl (by omega) ?_)
    simp [isOp]; omega
  by_cases q2 : t ≤ 107
  · rw [if_pos q2, if_pos (by simp [isName]; omega)]
    refine KZ_r (by omega) (by omega) (val ?_ (fun _ _ z => z) ?_ rfl (by omega) ?_)
    · have n99 : ¬ (t - 100 = 99) := by omega
      show (if (t - 100 : Nat) = 99 then _ else _)
      rw [if_neg n99]
      refine ⟨rfl, show (t - 100 : Nat) < 8 by omega, rfl, ?_, pk_us⟩
      rw [pk_us, x1 (t - 100)]
    · show (if 0 ≤ 3 then [100 + (t - 100)] else _) = [t]
      rw [if_pos (by omega), show 100 + (t - 100) = t by omega]
    · simp [isOp]; omega
  rw [if_neg q2]
  have nn : isName t = false := by simp [isName]; omega
  rw [if_neg (show ¬ isName t = true by rw [nn]; decide)]
  by_cases qp : isProcName t = true
  · have qp' := qp
    simp only [isProcName, Bool.and_eq_true, decide_eq_true_eq] at qp'
    rw [if_neg (by omega), if_pos qp, if_pos qp, kPush_lt hpd]
    refine KZ_r (by omega) (by omega) ?_
    have e1 : kBegC (nI (t - 110)) (nI pl) cl = (upd cl.1 pl (nI (t - 110)), upd cl.2 pl 0) := by
      unfold kBegC
      rw [if_neg (ix150 hpl), nI_clamp (by omega)]
    have hq4 : (t - 110 + 4 * pl) / 4 = pl := by omega
    have hqm : (t - 110 + 4 * pl) % 4 = t - 110 := by omega
    rw [e1]
    refine RK_new (nx := 17) (pt := true) (p' := 1) (c' := c) (by omega) ⟨x1, ?_, ?_⟩ hL1 (fun i q => ⟨rfl, rfl⟩) (fun i q => ⟨upd_lt q, upd_lt q⟩) (fun q => by omega) ?_ ?_ ?_ rfl rfl
    · show c.1 + (1 + pS fs) ≤ 2 * (pl + 1)
      omega
    · intro i a b
      obtain ⟨g1, g2⟩ := x3' i a b
      refine ⟨g1, ?_⟩
      show upd cl.1 pl (nI (t - 110)) i = -1
      rw [pk_un (by omega)]
      exact g2
    · unfold Sg
      rw [if_neg (by omega), if_neg (by omega), if_neg (by omega), if_pos (by omega)]
      exact ⟨_, _, rfl, by simp [Cm], rfl⟩
    · unfold TS
      rw [if_neg (by omega), hlp]
      have := Fo_plain (p := 1) ht f0 (by omega) (show isOp t = false by simp [isOp]; omega) (by omega)
      have ew : pre 1 ++ wd true 4 pl [(.mulR (.var 99) (t - 110 + 4 * pl) : T)] = [t] := by
        simp [pre, wd, hqm]
        omega
      rw [ew]
      exact this
    · unfold CT
      rw [if_pos (by omega)]
      refine ⟨_, _, rfl, rfl, hq4, ?_, ?_, ?_⟩
      · show upd cl.1 pl (nI (t - 110)) pl = _
        rw [pk_us, hqm]
      · show upd cl.2 pl 0 pl = _
        rw [pk_us]; rfl
      · exact CaH_iff CaH_nil (fun q c => by simp [hasC])
  · rw [if_neg qp, if_neg qp]
    refine KZ_if (fun q => ?_) fun q3 => ?_
    · rw [kPush_lt hpd]
      refine KZ_r0 (by omega) (by omega) (RK_new (nx := 15) (pt := true) (p' := 1) (c' := c) (by omega) ⟨x1, ?_, x3'⟩ hL1 (fun i q => ⟨rfl, rfl⟩) (fun i q => ⟨rfl, rfl⟩) (fun q => by omega) (by simp [Sg]) ?_ (CT_nil (by omega) ca0) rfl rfl)
      · show c.1 + (1 + pS fs) ≤ 2 * (pl + 1)
        omega
      · unfold TS
        rw [if_neg (by omega), hlp]
        exact Fo_plain (p := 1) (ht.trans q) f0 (by omega) rfl (by omega)
    refine KZ_if (fun q => ?_) fun q4 => ?_
    · rw [kPush_lt hpd]
      refine KZ_r0 (by omega) (by omega) (RK_new (nx := 21) (pt := false) (p' := 1) (c' := c) (by omega) ⟨x1, ?_, x3'⟩ hL1 (fun i q => ⟨rfl, rfl⟩) (fun i q => ⟨rfl, rfl⟩) (fun q => by omega) (by simp [Sg]) ?_ (CT_nil (by omega) ca0) rfl rfl)
      · show c.1 + (0 + pS fs) ≤ 2 * (pl + 1)
        omega
      · unfold TS
        rw [if_pos rfl, hlp]
        exact ⟨rfl, hpl, ht.trans q, f0, Fo_nil, rfl, rfl⟩
    refine KZ_if (fun q => ?_) fun q5 => ?_
    · rw [kPush_lt hpd]
      refine KZ_r0 (by omega) (by omega) (RK_new (nx := 22) (pt := false) (p' := 1) (c' := c) (by omega) ⟨x1, ?_, x3'⟩ hL1 (fun i q => ⟨rfl, rfl⟩) (fun i q => ⟨rfl, rfl⟩) (fun q => by omega) (by unfold Sg; rw [if_pos rfl, if_pos (by omega)]; exact ⟨rfl, rfl, rfl⟩) ?_ (CT_nil (by omega) ca0) rfl rfl)
      · show c.1 + (1 + pS fs) ≤ 2 * (pl + 1)
        omega
      · unfold TS
        rw [if_neg (by omega), hlp]
        exact Fo_plain (p := 1) (ht.trans q) f0 (by omega) rfl (by omega)
    · rfl
theorem KZ_exp (hw : wfz fs true) (hpl : pl < 150) (ht : tx pl = t) (ht2 : t < 174) (hl : fs.length ≤ pl) (hx : CX own pl fs (pd, c, os, fl, cl, ow)) (hL : Ly c fl cl own tx e0 b0 D0 false fs pd os c.1 pl 1) : KZ own tx e0 b0 D0 pl J B (zExpr t pl fs J B) (kExp t (nI pl) (pd, c, os, fl, cl, ow)) := by
  obtain ⟨x1, x2, x3⟩ := id hx
  have x2 : c.1 + pS fs ≤ 2 * pl := x2
  have x3 : ∀ i, pl ≤ i → i < 150 → fl i = 0 ∧ cl.1 i = -1 := x3
  obtain ⟨f0, ca0⟩ := x3 pl (Nat.le_refl _) hpl
  have hlp := lp_wf hw
  have hpd : pd.length < 150 := by rw [(Ly_len hL).1]; omega
  have x3' : ∀ i, pl + 1 ≤ i → i < 150 → fl i = 0 ∧ cl.1 i = -1 := fun i a b => x3 i (by omega) b
  have hL1 : Ly c fl cl own tx e0 b0 D0 false fs pd os c.1 pl (lp fs) := by rw [hlp]; exact hL
  unfold zExpr kExp
  refine KZ_if (fun q => ?_) fun q1 => KZ_if (fun q => ?_) fun q2 => KZ_fac hw hpl ht ht2 hl hx hL
  · have e1 : kOut (nI pl) fl = upd fl pl 1 := by
      unfold kOut
      rw [if_neg (ix150 hpl), nI_clamp (by omega)]
    rw [e1]
    refine KZ_r0 (by omega) (by omega) ⟨⟨x1, ?_, ?_⟩, ?_⟩
    · show c.1 + pS fs ≤ 2 * (pl + 1)
      omega
    · intro i a b
      obtain ⟨g1, g2⟩ := x3' i a b
      refine ⟨?_, g2⟩
      show upd fl pl 1 i = 0
      rw [pk_un (by omega)]
      exact g1
    · rw [if_neg (by omega), if_neg (by omega), if_neg (by omega)]
      refine Ly_ext hw (Ly_same (fun i q => ⟨rfl, rfl⟩) (fun i q => ⟨upd_lt q, rfl, rfl⟩) hL) ?_ ca0
      exact Fo_out (p := 1) rfl (show ¬ upd fl pl 1 pl = 0 by rw [pk_us]; decide) (by omega)
  · rw [kPush_lt hpd]
    refine KZ_r0 (by omega) (by omega) (RK_new (nx := 22) (pt := false) (p' := 1) (c' := c) (by omega) ⟨x1, ?_, x3'⟩ hL1 (fun i q => ⟨rfl, rfl⟩) (fun i q => ⟨rfl, rfl⟩) (fun q => by omega) (by unfold Sg; rw [if_pos rfl, if_pos (by omega)]; exact ⟨rfl, rfl, rfl⟩) ?_ (CT_nil (by omega) ca0) rfl rfl)
    · show c.1 + (1 + pS fs) ≤ 2 * (pl + 1)
      omega
    · unfold TS
      rw [if_neg (by omega), hlp]
      exact Fo_plain (p := 1) (ht.trans q) f0 (by omega) rfl (by omega)
end KF
