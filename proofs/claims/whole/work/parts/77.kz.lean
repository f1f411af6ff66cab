/-! K AGAINST Z: an expression's operand, pending operators -/
def rq : List zF → Nat
  | (k, n, _) :: _ => if k = 1 then (if n = 9 then 3 else zLev n + 1) else 0
  | [] => 0
/-- the operand e in the tokens a .. b - 1, with or without brackets that are not judged yet -/
def OpT (tx : Nat → Nat) (fl : Nat → Int32) (fs : List zF) (m : Nat) (e : T) (en : zOs) (a b : Nat) : Prop :=
  en.1 = nI (tlev e) ∧ ((en.2.1 = -1 ∧ Fo tx fl a b 1 (Wr e 0) 1 ∧ rq fs ≤ tlev e ∧ m ≤ tlev e) ∨
    (en.2.1 = nI a ∧ en.2.2 = nI (b - 1) ∧ a + 1 < b ∧ b ≤ 150 ∧ tx a = 122 ∧ fl a = 0 ∧ tx (b - 1) = 123 ∧ fl (b - 1) = 0 ∧ Fo tx fl (a + 1) (b - 1) 1 (Wr e 0) 1))
def XE (own : Nat → Bool) (tx : Nat → Nat) (e0 b0 : Nat) (D0 : zD) (fs : List zF) (e : T) (m b : Nat) (K : zKK) : Prop :=
  ∃ pd c en os fl cl ow lo a, K = (pd, c, en :: os, fl, cl, ow) ∧ Ly c fl cl own tx e0 b0 D0 false fs pd os lo a 1 ∧ Cm c.2.1 c.2.2 own e 0 lo c.1 ∧ CaH cl.1 cl.2 (hasC e) a b ∧ OpT tx fl fs m e en a b
def pi1 (k : Nat) : Nat := if k = 5 ∨ k = 14 ∨ k = 15 then 2 else if k = 2 ∨ k = 11 ∨ k = 12 ∨ k = 13 then 0 else 1
def pS : List zF → Nat
  | [] => 0
  | (k, _, _) :: r => pi1 k + pS r
theorem tlev_le (e : T) : tlev e ≤ 3 := by
  cases e with
  | mulL k s =>
    rw [tlev_L]
    repeat' split
    all_goals omega
  | _ => exact Nat.le_refl _
theorem zLev_le (n : Nat) : zLev n ≤ 3 := by
  unfold zLev
  repeat' split
  all_goals omega
theorem kOfOp_z : ∀ n, n < 174 → kOfOp (nI n) = if isBin n = true then nI (zLev n) else -1 := by decide +kernel
theorem kLv_z {n : Nat} (h : n = 8 ∨ n = 9 ∨ isBin n = true) : kLv (nI n) = nI (zLev n) := by
  rcases h with rfl | rfl | h
  · decide
  · decide
  · obtain ⟨h1, h2⟩ := isBin_n h
    unfold kLv
    rw [if_neg (show ¬ nI n = (9 : Int32) from nIne (c := 9) (by omega) (by omega) (by omega)), if_neg (show ¬ nI n = (8 : Int32) from nIne (c := 8) (by omega) (by omega) (by omega)), kOfOp_z n (by omega), if_pos h]
section KZ
variable {own : Nat → Bool} {tx : Nat → Nat} {e0 b0 : Nat} {D0 : zD} {fl : Nat → Int32} {fs : List zF} {e : T} {en : zOs} {a b m : Nat}
/-- brackets are judged -/
theorem OpT_judge {m' : Nat} {os : List zOs} (he : sh e 0 = true) (h : OpT tx fl fs m e en a b) (h3 : m' ≤ 3) (hm : m' ≤ rq fs ∨ m' ≤ m) : Fo tx (kJf (nI m') fl (en :: os)) a b 1 (Wr e m') 1 ∧ ∀ i, i < a ∨ b ≤ i → kJf (nI m') fl (en :: os) i = fl i := by
  obtain ⟨l, o, c⟩ := en
  obtain ⟨h1, h2⟩ := h
  have h1 : l = nI (tlev e) := h1
  subst h1
  have t3 := tlev_le e
  rw [W_lev he h3]
  show Fo tx (if nI (tlev e) < nI m' ∨ o < 0 ∨ 150 ≤ o ∨ c < 0 ∨ 150 ≤ c then fl else upd (upd fl o.toNatClampNeg 1) c.toNatClampNeg 1) a b 1 _ 1 ∧ ∀ i, i < a ∨ b ≤ i → (if nI (tlev e) < nI m' ∨ o < 0 ∨ 150 ≤ o ∨ c < 0 ∨ 150 ≤ c then fl else upd (upd fl o.toNatClampNeg 1) c.toNatClampNeg 1) i = fl i
  rcases h2 with ⟨q1, q2, q3, q4⟩ | ⟨q1, q2, q3, q4, q5, q6, q7, q8, q9⟩
  · have q1 : o = -1 := q1
    subst q1
    rw [if_pos (Or.inr (Or.inl (by decide)))]
    refine ⟨?_, fun _ _ => rfl⟩
    unfold brk
    rw [if_neg (by omega)]
    exact q2
  · have q1 : o = nI a := q1
    have q2 : c = nI (b - 1) := q2
    subst q1 q2
    unfold brk
    by_cases lt : tlev e < m'
    · rw [if_pos (Or.inl (nI_lt lt (by omega))), if_pos lt]
      refine ⟨?_, fun _ _ => rfl⟩
      have f1 := Fo_plain (tx := tx) (fl := fl) (p := 1) q5 q6 (by omega) (by decide) (by omega)
      have f2 := Fo_plain (tx := tx) (fl := fl) (p := 1) q7 q8 (by omega) (by decide) (by omega)
      rw [show b - 1 + 1 = b by omega] at f2
      have := Fo_cat f1 (Fo_cat q9 f2)
      exact this
    · have n1 : ¬ nI (tlev e) < nI m' := nI_nlt (by omega) (by omega)
      have n2 : ¬ nI a < 0 := nI_pos (by omega)
      have n3 : ¬ (150 : Int32) ≤ nI a := nI_ge (b := 150) (by omega) (by omega)
      have n4 : ¬ nI (b - 1) < 0 := nI_pos (by omega)
      have n5 : ¬ (150 : Int32) ≤ nI (b - 1) := nI_ge (b := 150) (by omega) (by omega)
      rw [if_neg (fun z => z.elim n1 fun z => z.elim n2 fun z => z.elim n3 fun z => z.elim n4 n5), if_neg lt, nI_clamp (by omega), nI_clamp (by omega)]
      have hx : ∀ i, upd (upd fl a 1) (b - 1) 1 i = if i = b - 1 then 1 else if i = a then 1 else fl i := fun i => rfl
      refine ⟨?_, fun i hi => by rw [hx, if_neg (by omega), if_neg (by omega)]⟩
      have f1 := Fo_out (tx := tx) (fl := upd (upd fl a 1) (b - 1) 1) (a := a) (p := 1) rfl (by rw [hx, if_neg (by omega), if_pos rfl]; decide) (by omega)
      have f2 := Fo_out (tx := tx) (fl := upd (upd fl a 1) (b - 1) 1) (a := b - 1) (p := 1) rfl (by rw [hx, if_pos rfl]; decide) (by omega)
      rw [show b - 1 + 1 = b by omega] at f2
      have f3 := Fo_same (fl' := upd (upd fl a 1) (b - 1) 1) (fun i h1 h2 => by rw [hx, if_neg (by omega), if_neg (by omega)]) q9
      have := Fo_cat f1 (Fo_cat f3 f2)
      rw [List.append_nil, List.nil_append] at this
      exact this
theorem kEmit_lt {c : zC} {x y : Int32} (h : c.1 < 300) : kEmit x y c = (c.1 + 1, upd c.2.1 c.1 x, upd c.2.2 c.1 y) := if_pos h
theorem upd_lt {f : Nat → Int32} {n i : Nat} {v : Int32} (h : i < n) : upd f n v i = f i := pk_un (by omega)
/-- an operator ends -/
theorem kEndOp_z {n : Nat} {tr : List T} {r : List zF} {pd : List zPd} {c : zC} {os : List zOs} {cl : (Nat → Int32) × (Nat → Int32)} {ow : Int32} {lo : Nat} (hw : wfz ((1, n, tr) :: r) true) (he : sh e 0 = true) (hm : m ≤ zLev n) (hL : Ly c fl cl own tx e0 b0 D0 false ((1, n, tr) :: r) pd os lo a 1) (hC : Cm c.2.1 c.2.2 own e 0 lo c.1) (hA : CaH cl.1 cl.2 (hasC e) a b) (hO : OpT tx fl ((1, n, tr) :: r) m e en a b) (hc : c.1 < 300) :
    ∃ f s pr, pd = (1, f, s) :: pr ∧ kLv f = nI (zLev n) ∧ XE own tx e0 b0 D0 r (zOpF n tr e) m b (pr, kEO3 f s c, kEO1 f (kLv f) (en :: os), kEO2 f (kLv f) fl (en :: os), cl, ow) ∧ (kEO3 f s c).1 = c.1 + 1 ∧ ∀ i, b ≤ i → kEO2 f (kLv f) fl (en :: os) i = fl i := by
  obtain ⟨w1, w2, w3⟩ := wf1 hw
  obtain ⟨f, s, pr, os', lo', a', g1, g2, g3, g4, g5, g6⟩ := hL
  rw [lp_wf w2] at g2 g5
  have la := TS_le g5
  have lb : a ≤ b := hA.1
  have lcm := Cm_le hC
  have lsg := Sg_le g4
  simp only [TS] at g5
  rw [if_neg (by omega)] at g5
  simp only [CT] at g6
  rw [if_neg (by omega)] at g6
  simp only [Sg, if_true] at g4
  have hrq : rq r ≤ zLev n := by
    have : rq r ≤ tl r ∧ rq r ≤ 3 ∨ (rq r ≤ tl r) := by
      cases r with
      | nil => exact Or.inl ⟨Nat.le_refl _, by simp [rq]⟩
      | cons f0 r0 =>
        obtain ⟨k0, n0, t0⟩ := f0
        right
        simp only [rq, tl]
        by_cases k1 : k0 = 1
        · rw [if_pos k1, if_pos k1]
          split
          · rename_i q; subst q; simp [zLev]
          · omega
        · rw [if_neg k1, if_neg k1]; omega
    rcases w3 with w3 | ⟨w3, w4⟩
    · rcases this with z | z <;> omega
    · subst w3
      have : rq r ≤ 3 := by
        cases r with
        | nil => simp [rq]
        | cons f0 r0 =>
          obtain ⟨k0, n0, t0⟩ := f0
          simp only [rq]
          by_cases k1 : k0 = 1
          · rw [if_pos k1]
            split
            · omega
            · rename_i q
              have := zLev_le n0
              have : zLev n0 ≠ 3 := by
                unfold zLev
                rw [if_neg q]
                repeat' split
                all_goals omega
              omega
          · rw [if_neg k1]; omega
      have e9 : zLev 9 = 3 := rfl
      omega
  have z3 := zLev_le n
  refine ⟨f, s, pr, g1, ?_⟩
  rcases w1 with ⟨hn, rfl⟩ | ⟨hn, x, rfl, hx⟩
  · -- not, minus
    rw [if_pos (by omega)] at g4
    obtain ⟨d1, d2, d3⟩ := g4
    subst d1 d2 d3
    have hkl : kLv (nI n) = nI (zLev n) := kLv_z (by omega)
    rw [hkl]
    refine ⟨rfl, ?_⟩
    have e3 : kEO3 (nI n) (-1) c = (c.1 + 1, upd c.2.1 c.1 (nI n), upd c.2.2 c.1 0) := by
      unfold kEO3
      rw [if_pos rfl, kEmit_lt hc]
    have osn : os = os' := by
      unfold osE at g3
      rw [if_neg (by omega)] at g3
      exact g3
    subst osn
    obtain ⟨l0, o0, c0⟩ := en
    have e1 : kEO1 (nI n) (nI (zLev n)) ((l0, o0, c0) :: os) = (nI (zLev n), -1, c0) :: os := rfl
    have e2 : ∃ m', m' ≤ 3 ∧ m' ≤ rq ((1, n, []) :: r) ∧ kEO2 (nI n) (nI (zLev n)) fl ((l0, o0, c0) :: os) = kJf (nI m') fl ((l0, o0, c0) :: os) ∧ wd false 1 n [] ++ Wr e m' = Wr (zOpF n [] e) 0 := by
      unfold kEO2
      rcases hn with rfl | rfl
      · exact ⟨2, by omega, by simp [rq, zLev], by rw [if_neg (by decide)]; rfl, by simp [wd, zOpF, Wr, brk]⟩
      · exact ⟨3, by omega, by simp [rq], by rw [if_pos (show nI 9 = (9 : Int32) from rfl)]; rfl, by simp [wd, zOpF, Wr]⟩
    obtain ⟨m', j1, j2, j3, j4⟩ := e2
    obtain ⟨jf, js⟩ := OpT_judge (os := os) he hO j1 (Or.inl j2)
    rw [e3, e1, j3]
    refine ⟨⟨pr, _, _, os, _, cl, ow, lo', a', rfl, ?_, ?_, ?_, ?_, ?_⟩, rfl, fun i hi => js i (Or.inr hi)⟩
    · exact Ly_same (fun i q => ⟨upd_lt (by omega), upd_lt (by omega)⟩) (fun i q => ⟨js i (Or.inl (by omega)), rfl, rfl⟩) g2
    · have hC' : Cm (upd c.2.1 c.1 (nI n)) (upd c.2.2 c.1 0) own e 0 lo' c.1 := Cm_same (fun i q1 q2 => ⟨upd_lt q2, upd_lt q2⟩) (by omega) hC
      rcases hn with rfl | rfl
      · show Cm _ _ own (.mulL 6 e) 0 lo' (c.1 + 1)
        simp only [Cm]
        rw [if_neg (by omega)]
        exact ⟨trivial, by omega, hC', pk_us, fun q => by omega, fun q => by omega⟩
      · show Cm _ _ own (.mulL 5 e) 0 lo' (c.1 + 1)
        simp only [Cm]
        rw [if_neg (by omega)]
        exact ⟨trivial, by omega, hC', pk_us, fun q => by omega, fun q => by omega⟩
    · refine CaH_cat g6 hA fun q x => ?_
      have hx : hasC (zOpF n [] e) q x ↔ hasC e q x := by rcases hn with rfl | rfl <;> simp [zOpF, hasC]
      rw [hx]
      constructor
      · exact Or.inr
      · rintro (z | z)
        · exact absurd z (hasT_nil q x)
        · exact z
    · have tl' : tlev (zOpF n [] e) = zLev n := by rcases hn with rfl | rfl <;> simp [zOpF, tlev, isRel, zLev]
      exact tl' ▸ rfl
    · have tl' : tlev (zOpF n [] e) = zLev n := by rcases hn with rfl | rfl <;> simp [zOpF, tlev, isRel, zLev]
      refine Or.inl ⟨rfl, ?_, by rw [tl']; exact hrq, by rw [tl']; exact hm⟩
      have f1 := Fo_same (fl' := kJf (nI m') fl ((l0, o0, c0) :: os)) (fun i q1 q2 => js i (Or.inl q2)) g5
      have := Fo_cat f1 jf
      rw [← j4]
      exact this
  · -- two operands
    obtain ⟨m1, m2⟩ := isBin_n hn
    have n9 : ¬ n = 9 := by omega
    have n8 : ¬ n = 8 := by omega
    have eo : zOpF n [x] e = .mulL n (.add x e) := by simp [zOpF, n9, n8]
    have tl' : tlev (.mulL n (.add x e)) = zLev n := tlev_bin hn
    rw [if_neg (by omega)] at g4
    obtain ⟨x', hx', d2, d3⟩ := g4
    simp only [List.cons.injEq, and_true] at hx'
    subst hx' d2
    have hkl : kLv (nI n) = nI (zLev n) := kLv_z (Or.inr (Or.inr hn))
    rw [hkl, eo]
    refine ⟨rfl, ?_⟩
    unfold osE at g3
    rw [if_pos ⟨rfl, n8, n9⟩] at g3
    subst g3
    obtain ⟨l0, o0, c0⟩ := en
    have i9 : ¬ nI n = (9 : Int32) := nIne (c := 9) (by omega) (by omega) n9
    have i8 : ¬ nI n = (8 : Int32) := nIne (c := 8) (by omega) (by omega) n8
    have e1 : kEO1 (nI n) (nI (zLev n)) ((l0, o0, c0) :: os) = (nI (zLev n), -1, c0) :: os := rfl
    have zl2 : zLev n ≤ 2 := by
      unfold zLev
      rw [if_neg n9, if_neg n8]
      repeat' split
      all_goals omega
    have e2 : kEO2 (nI n) (nI (zLev n)) fl ((l0, o0, c0) :: os) = kJf (nI (zLev n + 1)) fl ((l0, o0, c0) :: os) := by
      unfold kEO2
      rw [if_neg i9, nI_1]
    obtain ⟨jf, js⟩ := OpT_judge (m' := zLev n + 1) (os := os) he hO (by omega) (Or.inl (by simp [rq, n9]))
    -- the code
    have code : (kEO3 (nI n) s c).1 = c.1 + 1 ∧ Cm (kEO3 (nI n) s c).2.1 (kEO3 (nI n) s c).2.2 own (.mulL n (.add x e)) 0 lo' (c.1 + 1) ∧ ∀ i, i < lo' → (kEO3 (nI n) s c).2.1 i = c.2.1 i ∧ (kEO3 (nI n) s c).2.2 i = c.2.2 i := by
      by_cases c15 : n = 150 ∨ n = 151
      · rw [if_pos c15] at d3
        obtain ⟨h, y1, y2, y3, y4⟩ := d3
        subst y1 y4
        have lh := Cm_le y2
        have e3 : kEO3 (nI n) (nI h) c = (c.1 + 1, upd c.2.1 c.1 10, upd (upd c.2.2 c.1 0) h (nI (c.1 + 1))) := by
          unfold kEO3
          have ne : ¬ nI h = (-1 : Int32) := by
            intro z
            have := congrArg Int32.toInt z
            rw [nI_toInt (by omega)] at this
            have : (-1 : Int32).toInt = -1 := by decide
            omega
          rw [if_neg ne, kEmit_lt hc]
          unfold kLead
          have p0 : ¬ nI h < 0 := nI_pos (by omega)
          have p1 : ¬ nI (c.1 + 1) ≤ nI h := nI_ge (by omega) (by omega)
          show (if nI h < 0 ∨ nI (c.1 + 1) ≤ nI h then _ else _) = _
          rw [if_neg (fun z => Or.elim z p0 p1), nI_clamp (by omega)]
        rw [e3]
        have o1 : ∀ i, i < c.1 → upd c.2.1 c.1 (10 : Int32) i = c.2.1 i := fun i q => upd_lt q
        have o2 : ∀ i, i < c.1 → i ≠ h → upd (upd c.2.2 c.1 0) h (nI (c.1 + 1)) i = c.2.2 i := fun i q1 q2 => by rw [pk_un q2, upd_lt q1]
        refine ⟨rfl, ?_, fun i q => ⟨o1 i (by omega), o2 i (by omega) (by omega)⟩⟩
        show Cm (upd c.2.1 c.1 10) (upd (upd c.2.2 c.1 0) h (nI (c.1 + 1))) own (.mulL n (.add x e)) 0 lo' (c.1 + 1)
        have hfm : cFmd n = n := by unfold cFmd; rw [if_pos (by omega)]
        have hfo : cFop own n = 10 := by
          unfold cFop
          rw [if_neg (by omega), if_neg (by omega), if_neg (by omega), if_pos c15]
        have n27 : ¬ n = 27 := by omega
        simp only [Cm]
        rw [if_neg n27]
        refine ⟨trivial, by omega, ?_, by rw [Nat.add_sub_cancel, pk_us, hfo], fun q => by omega, fun q => by omega⟩
        rw [Nat.add_sub_cancel, hfm, if_neg (by omega), if_neg (by omega), if_pos c15]
        refine ⟨h, Cm_same (fun i q1 q2 => ⟨o1 i (by omega), o2 i (by omega) (by omega)⟩) (by omega) y2, (o1 h (by omega)).trans y3, pk_us, by omega, Cm_same (fun i q1 q2 => ⟨o1 i (by omega), o2 i (by omega) (by omega)⟩) (by omega) hC⟩
      · rw [if_neg c15] at d3
        obtain ⟨y2, y4⟩ := d3
        subst y4
        have e3 : kEO3 (nI n) (-1) c = (c.1 + 1, upd c.2.1 c.1 (nI n), upd c.2.2 c.1 0) := by
          unfold kEO3
          rw [if_pos rfl, kEmit_lt hc]
        rw [e3]
        have lh := Cm_le y2
        have o1 : ∀ i, i < c.1 → upd c.2.1 c.1 (nI n) i = c.2.1 i := fun i q => upd_lt q
        have o2 : ∀ i, i < c.1 → upd c.2.2 c.1 0 i = c.2.2 i := fun i q => upd_lt q
        refine ⟨rfl, ?_, fun i q => ⟨o1 i (by omega), o2 i (by omega)⟩⟩
        show Cm (upd c.2.1 c.1 (nI n)) (upd c.2.2 c.1 0) own (.mulL n (.add x e)) 0 lo' (c.1 + 1)
        have hfm : cFmd n = 5 := by unfold cFmd; rw [if_neg (by omega), if_pos (by omega)]
        have hfo : cFop own n = nI n := by
          unfold cFop
          rw [if_neg (by omega), if_neg (by omega), if_neg (by omega), if_neg c15, if_neg (by omega), if_neg (by omega), if_neg (by omega), if_neg (by omega), if_neg (by omega), if_neg (by omega), if_neg (by omega)]
        have n27 : ¬ n = 27 := by omega
        simp only [Cm]
        rw [if_neg n27]
        refine ⟨trivial, by omega, ?_, by rw [Nat.add_sub_cancel, pk_us, hfo], fun q => by omega, fun q => by omega⟩
        rw [Nat.add_sub_cancel, hfm, if_neg (by omega), if_pos rfl]
        exact ⟨lo, Cm_same (fun i q1 q2 => ⟨o1 i (by omega), o2 i (by omega)⟩) (by omega) y2, Cm_same (fun i q1 q2 => ⟨o1 i (by omega), o2 i (by omega)⟩) (by omega) hC⟩
    obtain ⟨k1, k2, k3⟩ := code
    rw [e1, e2]
    refine ⟨⟨pr, _, _, os, _, cl, ow, lo', a', rfl, ?_, ?_, ?_, ?_, ?_⟩, k1, fun i hi => js i (Or.inr hi)⟩
    · exact Ly_same (fun i q => k3 i q) (fun i q => ⟨js i (Or.inl (by omega)), rfl, rfl⟩) g2
    · rw [k1]; exact k2
    · refine CaH_cat g6 hA fun q y => ?_
      simp only [hasC]
      constructor
      · rintro (z | z)
        · exact Or.inl (hasT_cons.mpr (Or.inl z))
        · exact Or.inr z
      · rintro (z | z)
        · rcases hasT_cons.mp z with z | z
          · exact Or.inl z
          · exact absurd z (hasT_nil q y)
        · exact Or.inr z
    · exact tl' ▸ rfl
    · refine Or.inl ⟨rfl, ?_, by rw [tl']; exact hrq, by rw [tl']; exact hm⟩
      have f1 := Fo_same (fl' := kJf (nI (zLev n + 1)) fl ((l0, o0, c0) :: os)) (fun i q1 q2 => js i (Or.inl q2)) g5
      have := Fo_cat f1 jf
      have ew : Wr (.mulL n (.add x e)) 0 = Wr x (lmin n) ++ (n :: Wr e (zLev n + 1)) := by
        rw [Wr_bin hn, Wr_pair hn]
        simp [brk]
      rw [ew]
      have e4 : pre 1 ++ wd false 1 n [x] ++ Wr e (zLev n + 1) = Wr x (lmin n) ++ (n :: Wr e (zLev n + 1)) := by simp [pre, wd, n9, n8]
      rw [← e4]
      exact this
/-- pending operators end -/
theorem kOps_z : ∀ {fs : List zF} {e : T} {K : zKK} (n : Nat), fs.length ≤ n → wfz fs true → sh e 0 = true → m ≤ 3 → XE own tx e0 b0 D0 fs e m b K → K.2.1.1 + pS fs ≤ 300 →
    XE own tx e0 b0 D0 (zOps m fs e).1 (zOps m fs e).2 m b (kOps n (nI m) K) ∧ (kOps n (nI m) K).2.1.1 + pS (zOps m fs e).1 = K.2.1.1 + pS fs ∧ (∀ i, b ≤ i → (kOps n (nI m) K).2.2.2.1 i = K.2.2.2.1 i) ∧ (kOps n (nI m) K).2.2.2.2 = K.2.2.2.2
  | [], e, K, n, hn, hw, _, _, _, _ => hw.elim
  | (k, o, tr) :: r, e, K, n, hn, hw, he, h3, hX, hc => by
    obtain ⟨n, rfl⟩ : ∃ n', n = n' + 1 := ⟨n - 1, by simp at hn; omega⟩
    obtain ⟨pd, c, en, os, fl, cl, ow, lo, a, rfl, hL, hC, hA, hO⟩ := id hX
    have hpd : ∃ f s pr, pd = (k, f, s) :: pr := by
      obtain ⟨f, s, pr, os', lo', a', g1, -⟩ := hL
      exact ⟨f, s, pr, g1⟩
    by_cases q : k = 1 ∧ m ≤ zLev o
    · obtain ⟨rfl, q2⟩ := q
      have hc : c.1 + (1 + pS r) ≤ 300 := hc
      obtain ⟨f, s, pr, rfl, kl, x1, x2, x3⟩ := kEndOp_z (ow := ow) hw he q2 hL hC hA hO (by omega)
      have e1 : zOps m ((1, o, tr) :: r) e = zOps m r (zOpF o tr e) := by simp only [zOps]; rw [if_pos ⟨trivial, q2⟩]
      have e2 : kOps (n + 1) (nI m) ((1, f, s) :: pr, c, en :: os, fl, cl, ow) = kOps n (nI m) (pr, kEO3 f s c, kEO1 f (kLv f) (en :: os), kEO2 f (kLv f) fl (en :: os), cl, ow) := by
        simp only [kOps]
        rw [if_pos ⟨trivial, by rw [kl]; exact nI_le q2 (by have := zLev_le o; omega)⟩]
      rw [e1, e2]
      have ih := kOps_z (K := (pr, kEO3 f s c, kEO1 f (kLv f) (en :: os), kEO2 f (kLv f) fl (en :: os), cl, ow)) n (by simp at hn; omega) (wf1 hw).2.1 (sh_OpF hw.1 he) h3 x1 (by show (kEO3 f s c).1 + pS r ≤ 300; omega)
      refine ⟨ih.1, ?_, fun i hi => (ih.2.2.1 i hi).trans (x3 i hi), ih.2.2.2⟩
      rw [ih.2.1]
      show (kEO3 f s c).1 + pS r = c.1 + (1 + pS r)
      omega
    · obtain ⟨f, s, pr, rfl⟩ := hpd
      have e1 : zOps m ((k, o, tr) :: r) e = ((k, o, tr) :: r, e) := by simp only [zOps]; rw [if_neg q]
      have e2 : kOps (n + 1) (nI m) ((k, f, s) :: pr, c, en :: os, fl, cl, ow) = ((k, f, s) :: pr, c, en :: os, fl, cl, ow) := by
        simp only [kOps]
        rw [if_neg]
        rintro ⟨rfl, z⟩
        have : kLv f = nI (zLev o) := by
          obtain ⟨f', s', pr', os', lo', a', g1, g2, g3, g4, -⟩ := hL
          cases g1
          simp only [Sg, if_true] at g4
          obtain ⟨w1, -, -⟩ := wf1 hw
          by_cases c8 : o = 8 ∨ o = 9
          · rw [if_pos c8] at g4
            rw [g4.2.1]
            exact kLv_z (by omega)
          · rw [if_neg c8] at g4
            obtain ⟨x, -, g5, -⟩ := g4
            rw [g5]
            refine kLv_z (Or.inr (Or.inr ?_))
            rcases w1 with ⟨w1, -⟩ | ⟨w1, -⟩
            · omega
            · exact w1
        rw [this] at z
        exact q ⟨rfl, (nI_leI (by omega) (by have := zLev_le o; omega)).mp z⟩
      rw [e1, e2]
      exact ⟨hX, rfl, fun _ _ => rfl, rfl⟩
end KZ
