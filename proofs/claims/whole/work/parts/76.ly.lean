/-! FRAMES: what the class holds of things that have begun: code (Sg), text (TS), calls (CT); all of them one upon the other (Ly) -/
/-- the finished parts of an if, with the chain of jumps f -/
def Ch (c : zC) (own : Nat → Bool) : List T → Int32 → Nat → Nat → Prop
  | [], f, lo, hi => lo = hi ∧ f = -1
  | [_], _, _, _ => False
  | l :: x :: r, f, lo, hi => ∃ g a b h, Ch c own r g lo a ∧ Cm c.2.1 c.2.2 own x 0 a b ∧ c.2.1 b = 21 ∧ c.2.2 b = nI (h + 1) ∧ Cm c.2.1 c.2.2 own l 1 (b + 1) h ∧ c.2.1 h = 20 ∧ c.2.2 h = g ∧ hi = h + 1 ∧ f = nI h
def Sg (c : zC) (own : Nat → Bool) (k n : Nat) (tr : List T) (f s : Int32) (lo hi : Nat) : Prop :=
  if k = 1 then (if n = 8 ∨ n = 9 then lo = hi ∧ f = nI n ∧ s = -1
    else ∃ x, tr = [x] ∧ f = nI n ∧ (if n = 150 ∨ n = 151 then ∃ h, hi = h + 1 ∧ Cm c.2.1 c.2.2 own x 0 lo h ∧ c.2.1 h = (if n = 150 then 22 else 23) ∧ s = nI h else Cm c.2.1 c.2.2 own x 0 lo hi ∧ s = -1))
  else if k = 2 then lo = hi ∧ f = nI n
  else if k = 3 ∨ k = 6 then lo = hi
  else if k = 4 ∨ k = 5 then ∃ y q, tr = [.mulR y q] ∧ Cm c.2.1 c.2.2 own y 1 lo hi ∧ f = nI n
  else if k = 7 then (if n = 21000 then ∃ x, tr = [x] ∧ Cm c.2.1 c.2.2 own x 0 lo hi ∧ f = 7 ∧ s = 0
    else if n = 26000 then ∃ l, tr = [l] ∧ c.2.1 lo = 24 ∧ Cm c.2.1 c.2.2 own l 1 (lo + 1) hi ∧ f = 21 ∧ s = nI lo
    else lo = hi ∧ (if n = 23000 then f = 12 ∧ s = 0 else if n = 24000 then f = 26 ∧ s = 0 else f = (if own (n - 20000) = true then 6 else 5) ∧ s = nI (n - 20000)))
  else if k = 8 then lo = hi ∧ f = nI lo
  else if k = 9 then ∃ l x m, tr = [l, x] ∧ Cm c.2.1 c.2.2 own x 0 lo m ∧ c.2.1 m = 21 ∧ c.2.1 (m + 1) = 24 ∧ Cm c.2.1 c.2.2 own l 1 (m + 2) hi ∧ f = nI lo ∧ s = nI m
  else if k = 10 then ∃ l, tr = [l] ∧ c.2.1 lo = 24 ∧ Cm c.2.1 c.2.2 own l 1 (lo + 1) hi ∧ f = nI lo
  else if k = 11 then Ch c own tr f lo hi
  else if k = 12 then ∃ l x r m m2, tr = l :: x :: r ∧ Ch c own r f lo m ∧ Cm c.2.1 c.2.2 own x 0 m m2 ∧ c.2.1 m2 = 21 ∧ Cm c.2.1 c.2.2 own l 1 (m2 + 1) hi ∧ s = nI m2
  else if k = 13 then ∃ l r m, tr = l :: r ∧ Ch c own r f lo m ∧ Cm c.2.1 c.2.2 own l 1 m hi
  else ∃ l, tr = [l] ∧ Cm c.2.1 c.2.2 own l 1 lo hi
section SG
variable {c c' : zC} {own : Nat → Bool}
theorem Ch_le : ∀ {tr : List T} {f : Int32} {lo hi : Nat}, Ch c own tr f lo hi → lo ≤ hi
  | [], f, lo, hi, h => Nat.le_of_eq h.1
  | [_], f, lo, hi, h => h.elim
  | l :: x :: r, f, lo, hi, h => by
    obtain ⟨g, a, b, h', h1, h2, -, -, h5, -, -, h8, -⟩ := h
    have := Ch_le h1; have := Cm_le h2; have := Cm_le h5; omega
theorem Ch_same : ∀ {tr : List T} {f : Int32} {lo hi : Nat}, (∀ i, lo ≤ i → i < hi → c'.2.1 i = c.2.1 i ∧ c'.2.2 i = c.2.2 i) → Ch c own tr f lo hi → Ch c' own tr f lo hi
  | [], f, lo, hi, _, h => h
  | [_], f, lo, hi, _, h => h.elim
  | l :: x :: r, f, lo, hi, hs, h => by
    obtain ⟨g, a, b, h', h1, h2, h3, h4, h5, h6, h7, h8, h9⟩ := h
    have l1 := Ch_le h1; have l2 := Cm_le h2; have l3 := Cm_le h5
    obtain ⟨e1, e2⟩ := hs b (by omega) (by omega)
    obtain ⟨e3, e4⟩ := hs h' (by omega) (by omega)
    exact ⟨g, a, b, h', Ch_same (fun i b1 b2 => hs i (by omega) (by omega)) h1, Cm_same (fun i b1 b2 => hs i (by omega) (by omega)) (by omega) h2, e1.trans h3, e2.trans h4, Cm_same (fun i b1 b2 => hs i (by omega) (by omega)) (by omega) h5, e3.trans h6, e4.trans h7, h8, h9⟩
theorem Sg_le {k n : Nat} {tr : List T} {f s : Int32} {lo hi : Nat} (h : Sg c own k n tr f s lo hi) : lo ≤ hi := by
  unfold Sg at h
  by_cases k1 : k = 1
  · rw [if_pos k1] at h
    by_cases c1 : n = 8 ∨ n = 9
    · rw [if_pos c1] at h; omega
    · rw [if_neg c1] at h
      obtain ⟨x, -, -, h⟩ := h
      by_cases c2 : n = 150 ∨ n = 151
      · rw [if_pos c2] at h
        obtain ⟨h', h1, h2, -⟩ := h
        have := Cm_le h2; omega
      · rw [if_neg c2] at h
        exact Cm_le h.1
  rw [if_neg k1] at h
  by_cases k2 : k = 2
  · rw [if_pos k2] at h; omega
  rw [if_neg k2] at h
  by_cases k3 : k = 3 ∨ k = 6
  · rw [if_pos k3] at h; omega
  rw [if_neg k3] at h
  by_cases k4 : k = 4 ∨ k = 5
  · rw [if_pos k4] at h
    obtain ⟨y, q, -, h, -⟩ := h
    exact Cm_le h
  rw [if_neg k4] at h
  by_cases k7 : k = 7
  · rw [if_pos k7] at h
    by_cases c1 : n = 21000
    · rw [if_pos c1] at h
      obtain ⟨x, -, h, -⟩ := h
      exact Cm_le h
    rw [if_neg c1] at h
    by_cases c2 : n = 26000
    · rw [if_pos c2] at h
      obtain ⟨x, -, -, h, -⟩ := h
      have := Cm_le h; omega
    rw [if_neg c2] at h
    omega
  rw [if_neg k7] at h
  by_cases k8 : k = 8
  · rw [if_pos k8] at h; omega
  rw [if_neg k8] at h
  by_cases k9 : k = 9
  · rw [if_pos k9] at h
    obtain ⟨l, x, m, -, h1, -, -, h2, -⟩ := h
    have := Cm_le h1; have := Cm_le h2; omega
  rw [if_neg k9] at h
  by_cases k10 : k = 10
  · rw [if_pos k10] at h
    obtain ⟨l, -, -, h2, -⟩ := h
    have := Cm_le h2; omega
  rw [if_neg k10] at h
  by_cases k11 : k = 11
  · rw [if_pos k11] at h; exact Ch_le h
  rw [if_neg k11] at h
  by_cases k12 : k = 12
  · rw [if_pos k12] at h
    obtain ⟨l, x, r, m, m2, -, h1, h2, -, h3, -⟩ := h
    have := Ch_le h1; have := Cm_le h2; have := Cm_le h3; omega
  rw [if_neg k12] at h
  by_cases k13 : k = 13
  · rw [if_pos k13] at h
    obtain ⟨l, r, m, -, h1, h2⟩ := h
    have := Ch_le h1; have := Cm_le h2; omega
  rw [if_neg k13] at h
  obtain ⟨l, -, h⟩ := h
  exact Cm_le h
theorem Sg_same {k n : Nat} {tr : List T} {f s : Int32} {lo hi : Nat} (hs : ∀ i, lo ≤ i → i < hi → c'.2.1 i = c.2.1 i ∧ c'.2.2 i = c.2.2 i) (h : Sg c own k n tr f s lo hi) : Sg c' own k n tr f s lo hi := by
  have cm : ∀ {t : T} {md a b : Nat}, md ≠ 28 → lo ≤ a → b ≤ hi → Cm c.2.1 c.2.2 own t md a b → Cm c'.2.1 c'.2.2 own t md a b := fun h28 h1 h2 h => Cm_same (fun i b1 b2 => hs i (by omega) (by omega)) (fun q => absurd q h28) h
  unfold Sg at h ⊢
  by_cases k1 : k = 1
  · rw [if_pos k1] at h ⊢
    by_cases c1 : n = 8 ∨ n = 9
    · rw [if_pos c1] at h ⊢; exact h
    · rw [if_neg c1] at h ⊢
      obtain ⟨x, h1, h2, h⟩ := h
      refine ⟨x, h1, h2, ?_⟩
      by_cases c2 : n = 150 ∨ n = 151
      · rw [if_pos c2] at h ⊢
        obtain ⟨h', h3, h4, h5, h6⟩ := h
        have := Cm_le h4
        exact ⟨h', h3, cm (by omega) (by omega) (by omega) h4, (hs h' (by omega) (by omega)).1.trans h5, h6⟩
      · rw [if_neg c2] at h ⊢
        exact ⟨cm (by omega) (by omega) (by omega) h.1, h.2⟩
  rw [if_neg k1] at h ⊢
  by_cases k2 : k = 2
  · rw [if_pos k2] at h ⊢; exact h
  rw [if_neg k2] at h ⊢
  by_cases k3 : k = 3 ∨ k = 6
  · rw [if_pos k3] at h ⊢; exact h
  rw [if_neg k3] at h ⊢
  by_cases k4 : k = 4 ∨ k = 5
  · rw [if_pos k4] at h ⊢
    obtain ⟨y, q, h1, h2, h3⟩ := h
    exact ⟨y, q, h1, cm (by omega) (by omega) (by omega) h2, h3⟩
  rw [if_neg k4] at h ⊢
  by_cases k7 : k = 7
  · rw [if_pos k7] at h ⊢
    by_cases c1 : n = 21000
    · rw [if_pos c1] at h ⊢
      obtain ⟨x, h1, h2, h3⟩ := h
      exact ⟨x, h1, cm (by omega) (by omega) (by omega) h2, h3⟩
    rw [if_neg c1] at h ⊢
    by_cases c2 : n = 26000
    · rw [if_pos c2] at h ⊢
      obtain ⟨x, h1, h2, h3, h4⟩ := h
      have := Cm_le h3
      exact ⟨x, h1, (hs lo (by omega) (by omega)).1.trans h2, cm (by omega) (by omega) (by omega) h3, h4⟩
    rw [if_neg c2] at h ⊢
    exact h
  rw [if_neg k7] at h ⊢
  by_cases k8 : k = 8
  · rw [if_pos k8] at h ⊢; exact h
  rw [if_neg k8] at h ⊢
  by_cases k9 : k = 9
  · rw [if_pos k9] at h ⊢
    obtain ⟨l, x, m, h1, h2, h3, h4, h5, h6⟩ := h
    have := Cm_le h2; have := Cm_le h5
    exact ⟨l, x, m, h1, cm (by omega) (by omega) (by omega) h2, (hs m (by omega) (by omega)).1.trans h3, (hs (m + 1) (by omega) (by omega)).1.trans h4, cm (by omega) (by omega) (by omega) h5, h6⟩
  rw [if_neg k9] at h ⊢
  by_cases k10 : k = 10
  · rw [if_pos k10] at h ⊢
    obtain ⟨l, h1, h2, h3, h4⟩ := h
    have := Cm_le h3
    exact ⟨l, h1, (hs lo (by omega) (by omega)).1.trans h2, cm (by omega) (by omega) (by omega) h3, h4⟩
  rw [if_neg k10] at h ⊢
  by_cases k11 : k = 11
  · rw [if_pos k11] at h ⊢; exact Ch_same hs h
  rw [if_neg k11] at h ⊢
  by_cases k12 : k = 12
  · rw [if_pos k12] at h ⊢
    obtain ⟨l, x, r, m, m2, h1, h2, h3, h4, h5, h6⟩ := h
    have := Ch_le h2; have := Cm_le h3; have := Cm_le h5
    exact ⟨l, x, r, m, m2, h1, Ch_same (fun i b1 b2 => hs i (by omega) (by omega)) h2, cm (by omega) (by omega) (by omega) h3, (hs m2 (by omega) (by omega)).1.trans h4, cm (by omega) (by omega) (by omega) h5, h6⟩
  rw [if_neg k12] at h ⊢
  by_cases k13 : k = 13
  · rw [if_pos k13] at h ⊢
    obtain ⟨l, r, m, h1, h2, h3⟩ := h
    have := Ch_le h2; have := Cm_le h3
    exact ⟨l, r, m, h1, Ch_same (fun i b1 b2 => hs i (by omega) (by omega)) h2, cm (by omega) (by omega) (by omega) h3⟩
  rw [if_neg k13] at h ⊢
  obtain ⟨l, h1, h2⟩ := h
  exact ⟨l, h1, cm (by omega) (by omega) (by omega) h2⟩
end SG
/-- the written parts of an if, up to the token e behind the last of them -/
def wX : Nat → List T → List Nat
  | e, l :: x :: r => wX 173 r ++ (Wr x 0 ++ (161 :: (Wr l 5 ++ [e])))
  | _, _ => [160]
/-- a frame's words; pt: its second token is not there yet -/
def wd (pt : Bool) (k n : Nat) (tr : List T) : List Nat :=
  if k = 1 then (if n = 9 then [152] else if n = 8 then [131] else Wr (tr.headD (.var 99)) (lmin n) ++ [n])
  else if k = 3 ∨ k = 6 then (if pt = true then [108] else [108, 125])
  else if k = 4 ∨ k = 5 then (match tr with
    | (.mulR y q) :: _ => if pt = true then [110 + q % 4] else [110 + q % 4, 122] ++ (if isNil y = true then [] else Wr y 4 ++ [124])
    | _ => [])
  else if k = 7 then (if n = 21000 then [108, 125] ++ (Wr (tr.headD (.var 99)) 0 ++ (126 :: (if pt = true then [] else [120])))
    else if n = 26000 then 166 :: (Wr (tr.headD (.var 99)) 5 ++ [167])
    else if n = 23000 then [169] else if n = 24000 then [168] else if pt = true then [100 + (n - 20000)] else [100 + (n - 20000), 120])
  else if k = 8 then [164]
  else if k = 9 then 164 :: (Wr ((tr.drop 1).headD (.var 99)) 0 ++ (165 :: Wr (tr.headD (.var 99)) 5))
  else if k = 10 then 166 :: Wr (tr.headD (.var 99)) 5
  else if k = 11 then wX 173 tr
  else if k = 12 then wX 173 (tr.drop 2) ++ (Wr ((tr.drop 1).headD (.var 99)) 0 ++ (161 :: Wr (tr.headD (.var 99)) 5))
  else if k = 13 then wX 162 (tr.drop 1) ++ Wr (tr.headD (.var 99)) 5
  else 171 :: Wr (tr.headD (.var 99)) 5
def TS (tx : Nat → Nat) (fl : Nat → Int32) (pt : Bool) (k n : Nat) (tr : List T) (a b p p' : Nat) : Prop :=
  if k = 2 then a = n ∧ n < 150 ∧ tx n = 122 ∧ fl n = 0 ∧ Fo tx fl (n + 1) b 1 [] 1 ∧ p = 1 ∧ p' = 1 else Fo tx fl a b p (pre p ++ wd pt k n tr) p'
def CT (cl : (Nat → Int32) × (Nat → Int32)) (k n : Nat) (tr : List T) (a b : Nat) : Prop :=
  if k = 4 ∨ k = 5 then ∃ y q, tr = [.mulR y q] ∧ a = n ∧ q / 4 = n ∧ cl.1 n = nI (q % 4) ∧ cl.2 n = nI (tlen y) ∧ CaH cl.1 cl.2 (hasC y) (n + 1) b else CaH cl.1 cl.2 (hasT tr) a b
def osE (k n : Nat) (os os' : List zOs) : Prop := if k = 1 ∧ n ≠ 8 ∧ n ≠ 9 then os = os' else os = os'
/-- the text's state behind the frames, when something else begins there -/
def lp : List zF → Nat
  | (k, _, tr) :: _ => if k = 9 ∨ k = 10 ∨ k = 12 ∨ k = 13 ∨ k = 14 ∨ k = 15 then (if isNil (tr.headD (.var 99)) = true then 0 else 2) else 1
  | [] => 1
/-- what stands below a body is as it was -/
abbrev zD : Type := zC × (Nat → Int32) × ((Nat → Int32) × (Nat → Int32))
def bse (D0 : zD) (e0 b0 : Nat) (c : zC) (fl : Nat → Int32) (cl : (Nat → Int32) × (Nat → Int32)) : Prop := (∀ i, i < e0 → c.2.1 i = D0.1.2.1 i ∧ c.2.2 i = D0.1.2.2 i) ∧ ∀ i, i < b0 → fl i = D0.2.1 i ∧ cl.1 i = D0.2.2.1 i ∧ cl.2 i = D0.2.2.2 i
def Ly (c : zC) (fl : Nat → Int32) (cl : (Nat → Int32) × (Nat → Int32)) (own : Nat → Bool) (tx : Nat → Nat) (e0 b0 : Nat) (D0 : zD) : Bool → List zF → List zPd → List zOs → Nat → Nat → Nat → Prop
  | _, [], pd, os, hi, b, p => pd = [] ∧ os = [] ∧ hi = e0 ∧ b = b0 ∧ p = 1 ∧ bse D0 e0 b0 c fl cl
  | pt, (k, n, tr) :: r, pd, os, hi, b, p => ∃ f s pr os' lo a, pd = (k, f, s) :: pr ∧ Ly c fl cl own tx e0 b0 D0 false r pr os' lo a (lp r) ∧ osE k n os os' ∧ Sg c own k n tr f s lo hi ∧ TS tx fl pt k n tr a b (lp r) p ∧ CT cl k n tr a b
section LY
variable {c c' : zC} {fl fl' : Nat → Int32} {cl cl' : (Nat → Int32) × (Nat → Int32)} {own : Nat → Bool} {tx : Nat → Nat} {e0 b0 : Nat} {D0 : zD} {pt : Bool} {fs r : List zF} {pd pr : List zPd} {os os' : List zOs} {hi lo a b p : Nat}
theorem TS_le {k n : Nat} {tr : List T} {p' : Nat} (h : TS tx fl pt k n tr a b p p') : a ≤ b := by
  unfold TS at h
  by_cases k2 : k = 2
  · rw [if_pos k2] at h
    have := h.2.2.2.2.1.1
    omega
  · rw [if_neg k2] at h; exact h.1
theorem TS_same {k n : Nat} {tr : List T} {p' : Nat} (hs : ∀ i, a ≤ i → i < b → fl' i = fl i) (h : TS tx fl pt k n tr a b p p') : TS tx fl' pt k n tr a b p p' := by
  have := TS_le h
  unfold TS at h ⊢
  by_cases k2 : k = 2
  · rw [if_pos k2] at h ⊢
    obtain ⟨h1, h2, h3, h4, h5, h6⟩ := h
    have := h5.1
    exact ⟨h1, h2, h3, (hs n (by omega) (by omega)).trans h4, Fo_same (fun i b1 b2 => hs i (by omega) (by omega)) h5, h6⟩
  · rw [if_neg k2] at h ⊢; exact Fo_same hs h
theorem CT_same {k n : Nat} {tr : List T} (hs : ∀ i, a ≤ i → i < b → cl'.1 i = cl.1 i ∧ cl'.2 i = cl.2 i) (h : CT cl k n tr a b) : CT cl' k n tr a b := by
  unfold CT at h ⊢
  by_cases k4 : k = 4 ∨ k = 5
  · rw [if_pos k4] at h ⊢
    obtain ⟨y, q, h1, h2, h3, h4, h5, h6⟩ := h
    have := h6.1
    obtain ⟨e1, e2⟩ := hs n (by omega) (by omega)
    exact ⟨y, q, h1, h2, h3, e1.trans h4, e2.trans h5, CaH_same (fun i b1 b2 => hs i (by omega) (by omega)) h6⟩
  · rw [if_neg k4] at h ⊢; exact CaH_same hs h
theorem Ly_same : ∀ {fs : List zF} {pt : Bool} {pd : List zPd} {os : List zOs} {hi b p : Nat}, (∀ i, i < hi → c'.2.1 i = c.2.1 i ∧ c'.2.2 i = c.2.2 i) → (∀ i, i < b → fl' i = fl i ∧ cl'.1 i = cl.1 i ∧ cl'.2 i = cl.2 i) → Ly c fl cl own tx e0 b0 D0 pt fs pd os hi b p → Ly c' fl' cl' own tx e0 b0 D0 pt fs pd os hi b p
  | [], pt, pd, os, hi, b, p, h1, h2, h => by
    obtain ⟨rfl, rfl, rfl, rfl, rfl, q1, q2⟩ := h
    exact ⟨rfl, rfl, rfl, rfl, rfl, fun i hi => ⟨(h1 i hi).1.trans (q1 i hi).1, (h1 i hi).2.trans (q1 i hi).2⟩, fun i hi => ⟨(h2 i hi).1.trans (q2 i hi).1, (h2 i hi).2.1.trans (q2 i hi).2.1, (h2 i hi).2.2.trans (q2 i hi).2.2⟩⟩
  | (k, n, tr) :: r, pt, pd, os, hi, b, p, h1, h2, h => by
    obtain ⟨f, s, pr, os', lo, a, g1, g2, g3, g4, g5, g6⟩ := h
    have l1 := Sg_le g4
    have l2 := TS_le g5
    exact ⟨f, s, pr, os', lo, a, g1, Ly_same (fun i q => h1 i (by omega)) (fun i q => h2 i (by omega)) g2, g3, Sg_same (fun i _ q => h1 i q) g4, TS_same (fun i _ q => (h2 i q).1) g5, CT_same (fun i _ q => (h2 i q).2) g6⟩
theorem Ly_len : ∀ {fs : List zF} {pt : Bool} {pd : List zPd} {os : List zOs} {hi b p : Nat}, Ly c fl cl own tx e0 b0 D0 pt fs pd os hi b p → pd.length = fs.length ∧ os.length ≤ fs.length
  | [], pt, pd, os, hi, b, p, h => by obtain ⟨rfl, rfl, -⟩ := h; simp
  | (k, n, tr) :: r, pt, pd, os, hi, b, p, h => by
    obtain ⟨f, s, pr, os', lo, a, rfl, g2, g3, -⟩ := h
    obtain ⟨q1, q2⟩ := Ly_len g2
    refine ⟨by simp [q1], ?_⟩
    unfold osE at g3
    split at g3
    · subst g3
      simp; omega
    · subst g3
      simp; omega
theorem Ly_os : ∀ {fs : List zF} {pt : Bool} {pd : List zPd} {os : List zOs} {hi b p : Nat}, Ly c fl cl own tx e0 b0 D0 pt fs pd os hi b p → os = []
  | [], pt, pd, os, hi, b, p, h => h.2.1
  | (k, n, tr) :: r, pt, pd, os, hi, b, p, h => by
    obtain ⟨f, s, pr, os', lo, a, -, g2, g3, -⟩ := h
    unfold osE at g3
    split at g3
    · rw [g3]; exact Ly_os g2
    · rw [g3]; exact Ly_os g2
/-- a token that is left out comes to the last frame -/
theorem Ly_ext (hw : wfz fs true) (h : Ly c fl cl own tx e0 b0 D0 false fs pd os hi b 1) (hf : Fo tx fl b (b + 1) 1 [] 1) (hc : cl.1 b = -1) : Ly c fl cl own tx e0 b0 D0 false fs pd os hi (b + 1) 1 := by
  cases fs with
  | nil => exact hw.elim
  | cons f0 r =>
    obtain ⟨k, n, tr⟩ := f0
    obtain ⟨f, s, pr, os', lo, a, g1, g2, g3, g4, g5, g6⟩ := h
    refine ⟨f, s, pr, os', lo, a, g1, g2, g3, g4, ?_, ?_⟩
    · unfold TS at g5 ⊢
      by_cases k2 : k = 2
      · rw [if_pos k2] at g5 ⊢
        obtain ⟨h1, h2, h3, h4, h5, h6⟩ := g5
        exact ⟨h1, h2, h3, h4, Fo_cat h5 hf, h6⟩
      · rw [if_neg k2] at g5 ⊢
        have := Fo_cat g5 hf
        rw [List.append_nil] at this
        exact this
    · unfold CT at g6 ⊢
      by_cases k4 : k = 4 ∨ k = 5
      · rw [if_pos k4] at g6 ⊢
        obtain ⟨y, q, h1, h2, h3, h4, h5, h6⟩ := g6
        exact ⟨y, q, h1, h2, h3, h4, h5, CaH_ext h6 hc⟩
      · rw [if_neg k4] at g6 ⊢; exact CaH_ext g6 hc
theorem hasT_nil (q x : Nat) : ¬ hasT [] q x := fun ⟨_, h, _⟩ => nomatch h
theorem hasT_cons {t : T} {l : List T} {q x : Nat} : hasT (t :: l) q x ↔ hasC t q x ∨ hasT l q x := by
  constructor
  · rintro ⟨t', h1, h2⟩
    rcases List.mem_cons.mp h1 with rfl | h1
    · exact Or.inl h2
    · exact Or.inr ⟨t', h1, h2⟩
  · rintro (h | ⟨t', h1, h2⟩)
    · exact ⟨t, by simp, h⟩
    · exact ⟨t', by simp [h1], h2⟩
theorem lp_wf (hw : wfz fs true) : lp fs = 1 := by
  cases fs with
  | nil => rfl
  | cons f r =>
    obtain ⟨k, n, tr⟩ := f
    have : k = 1 ∨ (k = 2 ∨ k = 3 ∨ k = 4) ∨ (k = 5 ∨ k = 6 ∨ k = 7 ∨ k = 8 ∨ k = 11) := by
      rcases hw.2 with h | h | h
      · exact Or.inl h.1
      · exact Or.inr (Or.inl h.1)
      · exact Or.inr (Or.inr h.1)
    simp only [lp]
    rw [if_neg (by omega)]
/-- a finished statement comes to the list below -/
theorem Ly_add {s : T} (hw : wfz fs false) (hs : sh s 1 = true) (h : Ly c fl cl own tx e0 b0 D0 false fs pd os lo a (lp fs)) (h1 : Cm c.2.1 c.2.2 own s 0 lo hi) (h2 : Fo tx fl a b (lp fs) (pre (lp fs) ++ Wr s 0) 1) (h3 : CaH cl.1 cl.2 (hasC s) a b) : Ly c fl cl own tx e0 b0 D0 false (addSt fs s) pd os hi b 1 := by
  cases fs with
  | nil => exact hw.elim
  | cons f0 r =>
    obtain ⟨k, n, tr⟩ := f0
    obtain ⟨w1, w2⟩ := hw
    have hk : k = 9 ∨ k = 10 ∨ k = 12 ∨ k = 13 ∨ k = 14 ∨ k = 15 := by omega
    obtain ⟨f, s', pr, os', lo', a', g1, g2, g3, g4, g5, g6⟩ := h
    have key : ∃ l rest, tr = l :: rest ∧ sh l 2 = true ∧ Sg c own k n (snoc l s :: rest) f s' lo' hi ∧ wd false k n (snoc l s :: rest) = wd false k n (l :: rest) ++ ((if isNil l = true then [] else [121]) ++ Wr s 0) := by
      rcases hk with rfl | rfl | rfl | rfl | rfl | rfl
      · simp [wfF] at w1
        obtain ⟨h0, l, x, rfl, q1, q2⟩ := w1
        simp only [Sg] at g4 ⊢
        simp at g4 ⊢
        obtain ⟨m, e1, e2, e3, e4, e5, e6⟩ := g4
        exact ⟨q1, ⟨m, e1, e2, e3, Cm_snoc e4 h1, e5, e6⟩, by simp [wd, W_snoc5 q1]⟩
      · simp [wfF] at w1
        obtain ⟨h0, l, rfl, q1⟩ := w1
        simp [Sg] at g4 ⊢
        obtain ⟨e1, e2, e3⟩ := g4
        exact ⟨q1, ⟨e1, Cm_snoc e2 h1, e3⟩, by simp [wd, W_snoc5 q1]⟩
      · simp [wfF] at w1
        obtain ⟨h0, l, x, r', rfl, q1, q2, q3⟩ := w1
        simp [Sg] at g4 ⊢
        obtain ⟨m, e1, m2, e2, e3, e4, e5⟩ := g4
        exact ⟨q1, ⟨m, e1, m2, e2, e3, Cm_snoc e4 h1, e5⟩, by simp [wd, W_snoc5 q1]⟩
      · simp [wfF] at w1
        obtain ⟨h0, l, r', rfl, q1, q2, q3⟩ := w1
        simp [Sg] at g4 ⊢
        obtain ⟨m, e1, e2⟩ := g4
        exact ⟨q1, ⟨m, e1, Cm_snoc e2 h1⟩, by simp [wd, W_snoc5 q1]⟩
      · simp [wfF] at w1
        obtain ⟨h0, l, rfl, q1⟩ := w1
        simp [Sg] at g4 ⊢
        exact ⟨q1, Cm_snoc g4 h1, by simp [wd, W_snoc5 q1]⟩
      · simp [wfF] at w1
        obtain ⟨h0, l, rfl, q1⟩ := w1
        simp [Sg] at g4 ⊢
        exact ⟨q1, Cm_snoc g4 h1, by simp [wd, W_snoc5 q1]⟩
    obtain ⟨l, rest, rfl, q1, q2, q3⟩ := key
    refine ⟨f, s', pr, os', lo', a', g1, g2, g3, q2, ?_, ?_⟩
    · unfold TS at g5 ⊢
      rw [if_neg (by omega)] at g5 ⊢
      have := Fo_cat g5 h2
      have e : pre (lp ((k, n, l :: rest) :: r)) = (if isNil l = true then [] else [121]) := by
        simp only [lp]
        rw [if_pos hk]
        show pre (if isNil l = true then 0 else 2) = _
        cases isNil l <;> rfl
      rw [e, List.append_assoc, ← q3] at this
      exact this
    · unfold CT at g6 ⊢
      rw [if_neg (by omega)] at g6 ⊢
      refine CaH_cat g6 h3 fun q x => ?_
      rw [hasT_cons, hasT_cons, hasC_snoc (m := 2) (Or.inl rfl) q1]
      constructor
      · rintro ((z | z) | z)
        · exact Or.inl (Or.inl z)
        · exact Or.inr z
        · exact Or.inl (Or.inr z)
      · rintro ((z | z) | z)
        · exact Or.inl (Or.inl z)
        · exact Or.inr z
        · exact Or.inl (Or.inr z)
end LY
