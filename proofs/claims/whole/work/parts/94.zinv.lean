/-! WHAT Z KEEPS of procs: bodies, counts, names -/
def jA (J J' : zJ) : Prop := ∀ a i, ¬ (a = 4 ∧ i = 5) → J' a i = J a i
theorem jA.refl (J : zJ) : jA J J := fun _ _ _ => rfl
theorem jA.ndn {J J' : zJ} {n : Nat} (h : jA J J') : jA J (ndn J' n) := fun a i q => by
  show (if a = 4 ∧ i = 5 then _ else _) = _
  rw [if_neg q]
  exact h a i q
def zj (J : zJ) (B : Nat → T) (o : Option zZ) : Prop := ∀ z', o = some z' → ∃ J1, jA J J1 ∧ ((9 ≤ z'.1 ∧ z'.1 ≠ 24 ∧ z'.2.2.2 = (J1, B)) ∨ ∃ tr, (z'.1 = 0 ∧ z'.2.2.2 = (sFin 3000 tr J1 B).2) ∨ (z'.1 = 24 ∧ z'.2.2.2 = (sFin 2000 tr J1 B).2))
section ZJ
variable {t pl : Nat} {fs : List zF} {J0 J : zJ} {B : Nat → T}
theorem zj_n : zj J0 B none := fun _ h => nomatch h
theorem zj_s {nx : Nat} {cs : List T} {fs : List zF} {J : zJ} (h0 : 9 ≤ nx) (h24 : nx ≠ 24) (h : jA J0 J) : zj J0 B (some (nx, cs, fs, J, B)) := fun _ e => by cases e; exact ⟨J, h, Or.inl ⟨h0, h24, rfl⟩⟩
theorem zj_if {c : Prop} [Decidable c] {a b : Option zZ} (h1 : zj J0 B a) (h2 : zj J0 B b) : zj J0 B (if c then a else b) := by
  by_cases h : c
  · rw [if_pos h]; exact h1
  · rw [if_neg h]; exact h2
theorem zFactorJ (h : jA J0 J) : zj J0 B (zFactor t pl fs J B) := by
  unfold zFactor
  exact zj_if (zj_s (by decide) (by decide) h.ndn) (zj_if (zj_s (by decide) (by decide) h.ndn) (zj_if (zj_s (by decide) (by decide) h) (zj_if (zj_s (by decide) (by decide) h.ndn) (zj_if (zj_s (by decide) (by decide) h) (zj_if (zj_s (by decide) (by decide) h) zj_n)))))
theorem zExprJ (h : jA J0 J) : zj J0 B (zExpr t pl fs J B) := by
  unfold zExpr
  exact zj_if (zj_s (by decide) (by decide) h) (zj_if (zj_s (by decide) (by decide) h) (zFactorJ h))
theorem zStBeginJ (h : jA J0 J) : zj J0 B (zStBegin t pl fs J B) := by
  unfold zStBegin
  exact zj_if (zj_s (by decide) (by decide) h) (zj_if (zj_s (by decide) (by decide) h) (zj_if (zj_s (by decide) (by decide) h.ndn) (zj_if (zj_s (by decide) (by decide) h) (zj_if (zj_s (by decide) (by decide) h) (zj_if (zj_s (by decide) (by decide) h) (zj_if (zj_s (by decide) (by decide) h.ndn) (zj_s (by decide) (by decide) h)))))))
theorem zStEndJ (h : jA J0 J) : zj J0 B (zStEnd t fs J B) := by
  unfold zStEnd
  refine zj_if (zj_s (by decide) (by decide) h) ?_
  cases fs with
  | nil => exact zj_n
  | cons f r =>
    obtain ⟨k, n, tr⟩ := f
    show zj J0 B (if k = 12 then _ else _)
    have f0 : zj J0 B (some (0, [], [], (sFin 3000 tr J B).2.1, (sFin 3000 tr J B).2.2)) := fun _ e => by cases e; exact ⟨J, h, Or.inr ⟨tr, Or.inl ⟨rfl, rfl⟩⟩⟩
    have f1 : zj J0 B (some (24, [], [], (sFin 2000 tr J B).2.1, (sFin 2000 tr J B).2.2)) := fun _ e => by cases e; exact ⟨J, h, Or.inr ⟨tr, Or.inr ⟨rfl, rfl⟩⟩⟩
    exact zj_if (zj_if (zj_s (by decide) (by decide) h.ndn) (zj_if (zj_s (by decide) (by decide) h) (zj_if (zj_s (by decide) (by decide) h.ndn) zj_n))) (zj_if (zj_if (zj_s (by decide) (by decide) h.ndn) zj_n) (zj_if (zj_if (zj_s (by decide) (by decide) h.ndn) zj_n) (zj_if (zj_if (zj_s (by decide) (by decide) h) zj_n) (zj_if (zj_if f0 zj_n) (zj_if f1 zj_n)))))
theorem zCallJ (h : jA J0 J) : zj J0 B (zCall fs J B) := by
  cases fs with
  | nil => exact zj_n
  | cons f r =>
    obtain ⟨k, n, tr⟩ := f
    exact zj_if (zj_s (by decide) (by decide) h) (zj_s (by decide) (by decide) h.ndn)
theorem zAfterJ {e : T} (h : jA J0 J) : zj J0 B (zAfter t e fs J B) := by
  cases fs with
  | nil => exact zj_n
  | cons f r =>
    obtain ⟨k, n, tr⟩ := f
    show zj J0 B (if k = 2 then _ else _)
    exact zj_if (zj_if (zj_s (by decide) (by decide) h) zj_n) (zj_if (zj_if (zj_s (by decide) (by decide) h.ndn) zj_n) (zj_if (zj_if (zj_s (by decide) (by decide) h) (zj_if (zCallJ h) zj_n)) (zj_if (zj_if (zj_s (by decide) (by decide) h) zj_n) (zj_if (zj_if (zj_s (by decide) (by decide) h.ndn) zj_n) (zj_if (zj_if (zj_s (by decide) (by decide) h.ndn) zj_n) (zStEndJ h.ndn))))))
theorem zStepJ {nx : Nat} {cs : List T} (hn : 9 ≤ nx) : zj J B (zStep t pl (nx, cs, fs, J, B)) := by
  have h := jA.refl J
  unfold zStep
  simp only
  rw [if_neg (by omega), if_neg (by omega), if_neg (by omega), if_neg (by omega), if_neg (by omega), if_neg (by omega), if_neg (by omega), if_neg (by omega), if_neg (by omega)]
  refine zj_if (zj_if (zStBeginJ h) (zStEndJ h)) (zj_if (zStEndJ h) (zj_if (zj_if (zj_s (by decide) (by decide) h) zj_n) (zj_if (zj_if (zj_s (by decide) (by decide) h) zj_n) (zj_if (zj_if (zj_s (by decide) (by decide) h) zj_n) (zj_if (zj_if (zCallJ h) (zExprJ h)) (zj_if (zExprJ h) (zj_if (zFactorJ h) (zj_if (zj_if ?_ (zAfterJ h.ndn)) zj_n))))))))
  unfold zOper
  exact zj_if (zj_if (zj_s (by decide) (by decide) h.ndn) zj_n) (zj_s (by decide) (by decide) h.ndn)
end ZJ
def pc (m : Nat) : Nat := m % 2 + m / 2 % 2 + m / 4 % 2 + m / 8 % 2 + m / 16 % 2 + m / 32 % 2 + m / 64 % 2 + m / 128 % 2
theorem pc_le (m : Nat) : pc m ≤ 8 := by unfold pc; omega
theorem pc_new : ∀ m, m < 256 → ∀ b, b < 8 → (m ||| 2 ^ b) < 256 ∧ pc m ≤ pc (m ||| 2 ^ b) ∧ ((m / 2 ^ b % 2 == 1) = false → pc (m ||| 2 ^ b) = pc m + 1) := by decide +kernel
def zIJ (ip : Prop) (J : zJ) (B : Nat → T) : Prop :=
  (∀ p, J 0 p = 1 → J 6 p = 1 ∨ (ip ∧ p = J 4 0 ∧ J 4 2 = 0)) ∧ (∀ p, p < 4 → J 6 p = 1 → ∃ d, d < J 4 3 ∧ B p = B (10 + d)) ∧ (J 4 4 = 0 → ∀ p, J 1 p ≤ 8) ∧ (J 4 4 = 0 → ip → J 4 2 = 0 → J 1 (J 4 0) ≤ pc (J 4 1)) ∧ (ip → J 4 1 < 256 ∧ J 4 0 < 4) ∧ (∀ i, J 2 i < 8) ∧ (∀ p, J 0 p = 0 → J 1 p = 0) ∧ (∀ p, J 0 p ≤ 1) ∧ ∀ p, J 3 p < 256
def zIv (z : zZ) : Prop := (z.1 = 24 → z.2.2.2.1 7 0 = 1) ∧ zIJ (inP z.1 z.2.2.1) z.2.2.2.1 z.2.2.2.2
theorem zIJ_A {ip ip' : Prop} {J J' : zJ} {B : Nat → T} (h : zIJ ip J B) (hJ : jA J J') (hi : ip ↔ ip') : zIJ ip' J' B := by
  unfold zIJ at h ⊢
  have e : ∀ a i, ¬ (a = 4 ∧ i = 5) → J' a i = J a i := hJ
  rw [e 4 0 (by omega), e 4 1 (by omega), e 4 2 (by omega), e 4 3 (by omega), e 4 4 (by omega), e 1 (J 4 0) (by omega), ← hi]
  refine ⟨fun p => ?_, fun p => ?_, fun q p => ?_, h.2.2.2.1, h.2.2.2.2.1, fun i => ?_, fun p => ?_, fun p => ?_, fun p => ?_⟩
  · rw [e 0 p (by omega), e 6 p (by omega)]; exact h.1 p
  · rw [e 6 p (by omega)]; exact h.2.1 p
  · rw [e 1 p (by omega)]; exact h.2.2.1 q p
  · rw [e 2 i (by omega)]; exact h.2.2.2.2.2.1 i
  · rw [e 0 p (by omega), e 1 p (by omega)]; exact h.2.2.2.2.2.2.1 p
  · rw [e 0 p (by omega)]; exact h.2.2.2.2.2.2.2.1 p
  · rw [e 3 p (by omega)]; exact h.2.2.2.2.2.2.2.2 p
