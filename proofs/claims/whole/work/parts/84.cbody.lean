/-! THE CLASS READS A TEXT AS Z DOES: a token of a body -/
def zb (k : Nat) (o : Option zZ) : Prop := ∀ z', o = some z' → (z'.1 = 0 → k = 14) ∧ (z'.1 = 24 → k = 15) ∧ (z'.1 ≠ 0 → z'.1 ≠ 24 → bot z'.2.2.1 = k)
section ZB
variable {t pl k0 : Nat} {fs : List zF} {J : zJ} {B : Nat → T}
theorem zb_n : zb k0 none := fun _ h => nomatch h
theorem zb_s {nx : Nat} {cs : List T} {fs : List zF} {J : zJ} {B : Nat → T} (h0 : nx ≠ 0) (h24 : nx ≠ 24) (h : bot fs = k0) : zb k0 (some (nx, cs, fs, J, B)) := fun _ e => by cases e; exact ⟨fun q => absurd q h0, fun q => absurd q h24, fun _ _ => h⟩
theorem zb_if {c : Prop} [Decidable c] {a b : Option zZ} (h1 : zb k0 a) (h2 : zb k0 b) : zb k0 (if c then a else b) := by
  by_cases h : c
  · rw [if_pos h]; exact h1
  · rw [if_neg h]; exact h2
theorem zb_ic {c : Prop} [Decidable c] {a b : Option zZ} (h1 : c → zb k0 a) (h2 : ¬ c → zb k0 b) : zb k0 (if c then a else b) := by
  by_cases h : c
  · rw [if_pos h]; exact h1 h
  · rw [if_neg h]; exact h2 h
theorem zb_0 {cs : List T} {fs : List zF} {J : zJ} {B : Nat → T} (h : k0 = 14) : zb k0 (some (0, cs, fs, J, B)) := fun _ e => by cases e; exact ⟨fun _ => h, fun q => absurd q (show ¬ (0 : Nat) = 24 by decide), fun q => absurd rfl q⟩
theorem zb_24 {cs : List T} {fs : List zF} {J : zJ} {B : Nat → T} (h : k0 = 15) : zb k0 (some (24, cs, fs, J, B)) := fun _ e => by cases e; exact ⟨fun q => absurd q (show ¬ (24 : Nat) = 0 by decide), fun _ => h, fun _ q => absurd rfl q⟩
theorem zFactorB (hw : wfz fs true) (h : bot fs = k0) : zb k0 (zFactor t pl fs J B) := by
  have p : ∀ {k n : Nat} {tr : List T}, bot ((k, n, tr) :: fs) = k0 := fun {k n tr} => (bot_cons hw).trans h
  unfold zFactor
  exact zb_if (zb_s (by decide) (by decide) h) (zb_if (zb_s (by decide) (by decide) h) (zb_if (zb_s (by decide) (by decide) p) (zb_if (zb_s (by decide) (by decide) p) (zb_if (zb_s (by decide) (by decide) p) (zb_if (zb_s (by decide) (by decide) p) zb_n)))))
theorem zExprB (hw : wfz fs true) (h : bot fs = k0) : zb k0 (zExpr t pl fs J B) := by
  have p : ∀ {k n : Nat} {tr : List T}, bot ((k, n, tr) :: fs) = k0 := fun {k n tr} => (bot_cons hw).trans h
  unfold zExpr
  exact zb_if (zb_s (by decide) (by decide) h) (zb_if (zb_s (by decide) (by decide) p) (zFactorB hw h))
theorem zStBeginB (hw : wfz fs false) (h : bot fs = k0) : zb k0 (zStBegin t pl fs J B) := by
  have p : ∀ {nx k n : Nat} {tr : List T} {J : zJ}, nx ≠ 0 → nx ≠ 24 → zb k0 (some (nx, [], (k, n, tr) :: fs, J, B)) := fun a b => zb_s a b ((bot_cons hw).trans h)
  unfold zStBegin
  exact zb_if (p (by decide) (by decide)) (zb_if (p (by decide) (by decide)) (zb_if (p (by decide) (by decide)) (zb_if (p (by decide) (by decide)) (zb_if (p (by decide) (by decide)) (zb_if (p (by decide) (by decide)) (zb_if (p (by decide) (by decide)) (p (by decide) (by decide))))))))
theorem zStEndB (hw : wfz fs false) (h : bot fs = k0) : zb k0 (zStEnd t fs J B) := by
  unfold zStEnd
  refine zb_if (zb_s (by decide) (by decide) h) ?_
  cases fs with
  | nil => exact zb_n
  | cons f r =>
    obtain ⟨k, n, tr⟩ := f
    by_cases hr : wfz r false
    · have hb : bot r = k0 := (bot_cons hr).symm.trans h
      have p : ∀ {nx k n : Nat} {tr : List T} {J : zJ}, nx ≠ 0 → nx ≠ 24 → zb k0 (some (nx, [], (k, n, tr) :: r, J, B)) := fun a b => zb_s a b ((bot_cons hr).trans hb)
      have ad : ∀ {s : T} {J : zJ}, zb k0 (some (10, [], addSt r s, J, B)) := fun {s J} => zb_s (by decide) (by decide) (addSt_num.2.2.2.trans hb)
      have hk : k = 9 ∨ k = 10 ∨ k = 12 ∨ k = 13 := by
        rcases hw.2 with q | q
        · exact q.1
        · rw [q.2] at hr; exact hr.elim
      have n14 : ¬ k = 14 := by omega
      show zb k0 (if k = 12 then _ else _)
      exact zb_ic (fun _ => zb_if ad (zb_if (p (by decide) (by decide)) (zb_if (p (by decide) (by decide)) zb_n))) fun q0 => zb_ic (fun _ => zb_if ad zb_n) fun q1 => zb_ic (fun _ => zb_if ad zb_n) fun q2 => zb_ic (fun _ => zb_if (p (by decide) (by decide)) zb_n) fun q3 => zb_ic (fun q => absurd q n14) fun _ => by omega
    · have hr2 : (k = 14 ∨ k = 15) ∧ r = [] := by
        rcases hw.2 with q | q
        · exact absurd q.2 hr
        · exact q
      obtain ⟨hk, rfl⟩ := hr2
      have hk0 : k = k0 := by simpa [bot] using h
      show zb k0 (if k = 12 then _ else _)
      exact zb_ic (fun q => by omega) fun _ => zb_ic (fun q => by omega) fun _ => zb_ic (fun q => by omega) fun _ => zb_ic (fun q => by omega) fun _ => zb_ic (fun q => zb_if (zb_0 (by omega)) zb_n) fun _ => zb_if (zb_24 (by omega)) zb_n
theorem zCallB {k n : Nat} {tr : List T} {r : List zF} {b : Bool} (hr : wfz r b) (h : bot r = k0) : zb k0 (zCall ((k, n, tr) :: r) J B) := zb_if (zb_s (by decide) (by decide) h) (zb_s (by decide) (by decide) (addSt_num.2.2.2.trans h))
theorem zAfterB {e : T} (hw : wfz fs true) (he : sh e 0 = true) (ht : tl fs = 0) (h : bot fs = k0) : zb k0 (zAfter t e fs J B) := by
  cases fs with
  | nil => exact zb_n
  | cons f r =>
    obtain ⟨k, n, tr⟩ := f
    have k1 : k ≠ 1 := by
      intro q
      simp [tl, q] at ht
    obtain ⟨b, hr⟩ : ∃ b, wfz r b := by
      rcases hw.2 with q | q | q
      · exact ⟨true, q.2.1⟩
      · exact ⟨true, q.2⟩
      · exact ⟨false, q.2⟩
    have hb : bot r = k0 := (bot_cons hr).symm.trans h
    have p : ∀ {nx k n : Nat} {tr : List T} {J : zJ}, nx ≠ 0 → nx ≠ 24 → zb k0 (some (nx, [], (k, n, tr) :: r, J, B)) := fun a c => zb_s a c ((bot_cons hr).trans hb)
    show zb k0 (if k = 2 then _ else _)
    refine zb_ic (fun _ => zb_if (zb_s (by decide) (by decide) hb) zb_n) fun q2 => zb_ic (fun _ => zb_if (zb_s (by decide) (by decide) hb) zb_n) fun q3 => zb_ic (fun _ => zb_if (p (by decide) (by decide)) (zb_if (zCallB hr hb) zb_n)) fun q4 => zb_ic (fun _ => zb_if (p (by decide) (by decide)) zb_n) fun q6 => zb_ic (fun _ => zb_if (p (by decide) (by decide)) zb_n) fun q8 => zb_ic (fun _ => zb_if (p (by decide) (by decide)) zb_n) fun q11 => ?_
    have k7 : k = 7 := by
      have := hw.2
      omega
    subst k7
    have hr : wfz r false := by
      rcases hw.2 with q | q | q
      · omega
      · omega
      · exact q.2
    have hs := zLast_ok hw.1 he
    obtain ⟨-, -, -, -, -, -, -, -, hw2⟩ := addSt_ok hr hs
    exact zStEndB hw2 (addSt_num.2.2.2.trans hb)
theorem zStepB {nx : Nat} {cs : List T} (hn : 9 ≤ nx) (hg : zGd (nx, cs, fs, J, B)) (h : bot fs = k0) : zb k0 (zStep t pl (nx, cs, fs, J, B)) := by
  simp only [zGd] at hg
  by_cases h24 : nx = 24
  · subst h24; exact zb_n
  rw [if_neg (by omega)] at hg
  by_cases c9 : nx = 9 ∨ nx = 10
  · rw [if_pos c9] at hg
    rcases c9 with rfl | rfl
    · exact zb_if (zStBeginB hg.2 h) (zStEndB hg.2 h)
    · exact zStEndB hg.2 h
  · rw [if_neg c9] at hg
    by_cases c23 : nx = 23
    · rw [if_pos c23] at hg
      subst c23
      obtain ⟨hw, e, rfl, he⟩ := hg
      have op : ∀ m, zb k0 (if isRel t = true then (if tl (zOps m fs e).1 = 0 then some (21, [], (1, t, [(zOps m fs e).2]) :: (zOps m fs e).1, ndn J (fs.length - (zOps m fs e).1.length), B) else none) else some (22, [], (1, t, [(zOps m fs e).2]) :: (zOps m fs e).1, ndn J (fs.length - (zOps m fs e).1.length), B)) := by
        intro m
        obtain ⟨w1, w2, w3, w4, w5⟩ := zOps_ok m hw he
        have hb : ∀ {n : Nat} {tr : List T}, bot ((1, n, tr) :: (zOps m fs e).1) = k0 := fun {n tr} => (bot_cons w1).trans (w3.trans h)
        exact zb_if (zb_if (zb_s (by decide) (by decide) hb) zb_n) (zb_s (by decide) (by decide) hb)
      obtain ⟨w1, w2, w3, w4, w5⟩ := zOps_ok 0 hw he
      have w6 := zOps_tl 0 fs e
      exact zb_if (op _) (zAfterB w1 w2 (show tl (zOps 0 fs e).1 = 0 by omega) (w3.trans h))
    · rw [if_neg c23] at hg
      obtain ⟨rfl, hw, hx⟩ := hg
      rcases hx with ⟨rfl, hx⟩ | ⟨rfl, hx⟩ | ⟨rfl | rfl, hx⟩ | ⟨rfl, hx⟩ | rfl
      · exact zb_if (zb_s (by decide) (by decide) h) zb_n
      · exact zb_if (zb_s (by decide) (by decide) h) zb_n
      · exact zb_if (zb_s (by decide) (by decide) h) zb_n
      · refine zb_if ?_ (zExprB hw h)
        cases fs with
        | nil => exact zb_n
        | cons f r =>
          obtain ⟨k, n, tr⟩ := f
          obtain ⟨b, hr⟩ : ∃ b, wfz r b := by
            rcases hw.2 with q | q | q
            · exact ⟨true, q.2.1⟩
            · exact ⟨true, q.2⟩
            · exact ⟨false, q.2⟩
          exact zCallB hr ((bot_cons hr).symm.trans h)
      · exact zExprB hw h
      · exact zFactorB hw h
end ZB

theorem zGd_nx {z : zZ} (h : zGd z) : z.1 ≤ 24 := by
  obtain ⟨nx, cs, fs, J, B⟩ := z
  show nx ≤ 24
  simp only [zGd] at h
  split at h
  · omega
  · split at h
    · omega
    · split at h
      · omega
      · omega
/-- what a reading never touches -/
def kR (M M' : zMem) : Prop := (∀ a, a ≤ 3 ∨ 25 ≤ a → M' a = M a) ∧ M' 14 3 = M 14 3 ∧ M' 14 2 = M 14 2
theorem kR.trans {M M1 M2 : zMem} (h : kR M M1) (g : kR M1 M2) : kR M M2 := ⟨fun a q => (g.1 a q).trans (h.1 a q), g.2.1.trans h.2.1, g.2.2.trans h.2.2⟩
theorem kR_of {M M' : zMem} (h : cKeep M M') : kR M M' := by
  have q : ∀ a, a ≤ 3 ∨ 25 ≤ a ∨ a = 14 → M' a = M a := fun a q => h.1 a (by omega) (by omega) (by omega) (by omega) (by omega) (by omega) (by omega) (by omega) (by omega) (by omega) (by omega) (by omega) (by omega) (by omega)
  exact ⟨fun a z => q a (by omega), by rw [q 14 (by omega)], by rw [q 14 (by omega)]⟩
theorem Dn_J {tx : Nat → Nat} {c : zC} {fl : Nat → Int32} {cl : (Nat → Int32) × (Nat → Int32)} {en : Nat → Int32} {J J' : zJ} {B : Nat → T} {e a : Nat} (h : Dn tx c fl cl en J B e a) (h6 : ∀ p, J' 6 p = J 6 p ∧ J' 3 p = J 3 p ∧ (J 0 p = 1 → J' 0 p = 1)) (h43 : J' 4 3 = J 4 3) (h5 : ∀ d, d < J 4 3 → J' 5 d = J 5 d) : Dn tx c fl cl en J' B e a := by
  obtain ⟨h1, h2, h3, h4⟩ := h
  refine ⟨fun p hp q => ?_, ?_, by rw [h43]; exact h3, by rw [h43]; exact h4⟩
  · rw [(h6 p).1] at q
    rw [(h6 p).2.1]
    obtain ⟨a1, a2⟩ := h1 p hp q
    exact ⟨(h6 p).2.2 a1, a2⟩
  · rw [h43, pw_congr (J := J) (B := B) (J 4 3) (fun i q => ⟨h5 i q, rfl⟩)]
    exact h2
