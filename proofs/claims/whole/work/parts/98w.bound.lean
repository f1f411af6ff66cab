/-! HOW MUCH A RUN HOLDS AT ONCE, against the plain text -/
theorem brk_ln (c : Prop) [Decidable c] (w : List Nat) : w.length ≤ (brk c w).length := by
  unfold brk
  split
  · simp only [List.length_cons, List.length_append, List.length_nil]; omega
  · exact Nat.le_refl _
theorem zLev_2 (k : Nat) (h : isBin k = true) : zLev k ≤ 2 ∧ lmin k ≤ 3 := by
  obtain ⟨h1, h2⟩ := isBin_n h
  have : zLev k ≤ 2 := by
    unfold zLev
    rw [if_neg (show ¬ k = 9 by omega), if_neg (show ¬ k = 8 by omega)]
    repeat' split
    all_goals omega
  refine ⟨this, ?_⟩
  unfold lmin
  split <;> omega
def bd (t : T) (x y w l : Nat) (c : Nat) : Prop := 2 * td t x ≤ l + 1 ∧ tw t y + w ≤ l + c
/-- bounds, by the shape -/
def tAll (t : T) : Prop :=
  (sh t 0 = true → ∀ m, m ≤ 3 → 1 ≤ (Wr t m).length ∧ bd t 0 0 0 (Wr t m).length 0 ∧ (isCall t = true → tw t 0 + 1 ≤ (Wr t m).length)) ∧
  (sh t 1 = true → 1 ≤ (Wr t 0).length ∧ bd t 0 0 0 (Wr t 0).length 0) ∧ (sh t 2 = true → bd t 1 1 0 (Wr t 5).length 1) ∧ (sh t 3 = true → bd t 1 1 0 (Wr t 6).length 1) ∧ (sh t 4 = true → bd t 4 1 0 (Wr t 4).length 1) ∧
  (sh t 5 = true → ∀ k, isBin k = true ∨ k = 21 → bd t 5 5 1 (Wr t (10 + k)).length 0) ∧ (sh t 6 = true → bd t 0 6 1 (Wr t 35).length 0) ∧ (sh t 7 = true → bd t 0 7 1 (Wr t 36).length 0) ∧ (sh t 8 = true → bd t 0 8 0 (Wr t 37).length 0) ∧ (sh t 9 = true → bd t 1 9 0 (Wr t 7).length 1)
theorem nil_len {b : T} (h : isNil b = true) : td b 1 = 0 ∧ td b 4 = 0 ∧ tw b 1 = 1 := by
  cases b with
  | var x =>
    have hx : (x : Nat) = 99 := by simpa [isNil] using h
    refine ⟨?_, ?_, rfl⟩
    · simp only [td]; rw [if_pos (Or.inl hx)]
    · simp only [td]; rw [if_pos (Or.inl hx)]
  | num k => simp [isNil] at h
  | add a b => simp [isNil] at h
  | mulL k e => simp [isNil] at h
  | mulR e q => simp [isNil] at h
theorem tB : ∀ t : T, tAll t
  | .num k => ⟨fun _ m _ => ⟨by simp [Wr], ⟨by simp [Wr, td], by simp [Wr, tw]⟩, fun h => by simp [isCall] at h⟩, fun h => by simp [sh] at h, fun h => by simp [sh] at h, fun h => by simp [sh] at h, fun h => by simp [sh] at h, fun h => by simp [sh] at h, fun h => by simp [sh] at h, fun h => by simp [sh] at h, fun h => by simp [sh] at h, fun h => by simp [sh] at h⟩
  | .var x => by
    have t1 : ∀ m, td (.var x) m ≤ 1 := fun m => by simp only [td]; split <;> omega
    have t0 : ∀ m, @Eq Nat x 99 ∨ @Eq Nat x 98 → td (.var x) m = 0 := fun m h => by simp only [td]; rw [if_pos h]
    have w1 : ∀ m, tw (.var x) m = 1 := fun m => rfl
    refine ⟨fun h m hm => ?_, fun h => ?_, fun h => ?_, fun h => ?_, fun h => ?_, fun h => ?_, fun h => ?_, fun h => ?_, fun h => ?_, fun h => ?_⟩
    · have e : (Wr (.var x) m).length = 1 := by simp [Wr, hm]
      rw [e]
      have := t1 0
      exact ⟨by omega, ⟨by omega, by rw [w1]; omega⟩, fun h => by simp [isCall] at h⟩
    · have := sh_var (x := x) h; omega
    · have := sh_var (x := x) h
      exact ⟨by rw [t0 1 (by omega)]; omega, by rw [w1]; omega⟩
    · have := sh_var (x := x) h
      exact ⟨by rw [t0 1 (by omega)]; omega, by rw [w1]; omega⟩
    · have := sh_var (x := x) h
      exact ⟨by rw [t0 4 (by omega)]; omega, by rw [w1]; omega⟩
    · have := sh_var (x := x) h; omega
    · have := sh_var (x := x) h; omega
    · have := sh_var (x := x) h; omega
    · have := sh_var (x := x) h; omega
    · have := sh_var (x := x) h; omega
  | .add a b => by
    obtain ⟨a0, a1, a2, a3, a4, a5, a6, a7, a8, a9⟩ := tB a
    obtain ⟨b0, b1, b2, b3, b4, b5, b6, b7, b8, b9⟩ := tB b
    have ta := td_01 a
    have tb := td_01 b
    have tmx : ∀ m, ¬ m = 4 → ¬ m = 5 → td (.add a b) m = max (td a 0) (max (td b 0) (max (td a 1) (td b 1))) := fun m h4 h5 => by simp only [td]; rw [if_neg h4, if_neg h5]
    refine ⟨fun h m hm => ?_, fun h => ?_, fun h => ?_, fun h => ?_, fun h => ?_, fun h => ?_, fun h => ?_, fun h => ?_, fun h => ?_, fun h => ?_⟩
    · simp [sh] at h
    · simp [sh] at h
    · simp [sh] at h
      obtain ⟨x1, x2, x3⟩ := a1 h.1
      obtain ⟨y1, y2⟩ := b2 h.2
      have e : tw (.add a b) 1 = max (1 + tw a 0) (tw b 1) := rfl
      refine ⟨?_, ?_⟩
      · rw [tmx 1 (by omega) (by omega), Wr_add5, List.length_append]
        cases hb : isNil b with
        | true => have := nil_len hb; simp only [if_true]; omega
        | false => simp only [Bool.false_eq_true, if_false, List.length_cons]; omega
      · rw [e, Wr_add5, List.length_append]
        cases hb : isNil b with
        | true => have := nil_len hb; simp only [if_true]; omega
        | false => simp only [Bool.false_eq_true, if_false, List.length_cons]; omega
    · simp [sh] at h
      obtain ⟨x1, x2, x3⟩ := a1 h.1
      obtain ⟨y1, y2⟩ := b2 h.2
      have e : tw (.add a b) 1 = max (1 + tw a 0) (tw b 1) := rfl
      have ew : Wr (.add a b) 6 = 162 :: (Wr a 0 ++ (if isNil b = true then [] else 121 :: Wr b 5)) := rfl
      refine ⟨?_, ?_⟩
      · rw [tmx 1 (by omega) (by omega), ew, List.length_cons, List.length_append]
        cases hb : isNil b with
        | true => have := nil_len hb; simp only [if_true]; omega
        | false => simp only [Bool.false_eq_true, if_false, List.length_cons]; omega
      · rw [e, ew, List.length_cons, List.length_append]
        cases hb : isNil b with
        | true => have := nil_len hb; simp only [if_true]; omega
        | false => simp only [Bool.false_eq_true, if_false, List.length_cons]; omega
    · simp [sh] at h
      obtain ⟨x1, ⟨x2, x3⟩, -⟩ := a0 h.1 0 (by omega)
      obtain ⟨y1, y2⟩ := b4 h.2
      have e : tw (.add a b) 1 = max (1 + tw a 0) (tw b 1) := rfl
      have e2 : td (.add a b) 4 = max (td a 0) (1 + td b 4) := rfl
      refine ⟨?_, ?_⟩
      · rw [e2, Wr_add4, List.length_append]
        cases hb : isNil b with
        | true => have := nil_len hb; simp only [if_true]; omega
        | false => simp only [Bool.false_eq_true, if_false, List.length_cons]; omega
      · rw [e, Wr_add4, List.length_append]
        cases hb : isNil b with
        | true => have := nil_len hb; simp only [if_true]; omega
        | false => simp only [Bool.false_eq_true, if_false, List.length_cons]; omega
    · simp [sh] at h
      intro k hk
      have e : tw (.add a b) 5 = max (tw a 0) (tw b 0) := rfl
      have e2 : td (.add a b) 5 = max (td a 0) (1 + td b 0) := rfl
      rcases hk with hk | rfl
      · obtain ⟨z1, z2⟩ := zLev_2 k hk
        obtain ⟨x1, ⟨x2, x3⟩, -⟩ := a0 h.1 (lmin k) z2
        obtain ⟨y1, ⟨y2, y3⟩, -⟩ := b0 h.2 (zLev k + 1) (by omega)
        unfold bd
        rw [Wr_pair hk, e, e2, List.length_append, List.length_cons]
        omega
      · obtain ⟨x1, ⟨x2, x3⟩, -⟩ := a0 h.1 0 (by omega)
        obtain ⟨y1, ⟨y2, y3⟩, -⟩ := b0 h.2 0 (by omega)
        have ew : Wr (.add a b) (10 + 21) = [108, 125] ++ (Wr a 0 ++ ([126, 120] ++ Wr b 0)) := rfl
        unfold bd
        rw [ew, e, e2]
        simp only [List.length_append, List.length_cons, List.length_nil]
        omega
    · simp [sh] at h
      obtain ⟨x1, ⟨x2, x3⟩, -⟩ := a0 h.1 0 (by omega)
      obtain ⟨y1, y2⟩ := b2 h.2
      have e : tw (.add a b) 6 = max (tw a 0) (tw b 1) := rfl
      have ew : Wr (.add a b) 35 = 164 :: (Wr a 0 ++ (165 :: (Wr b 5 ++ [163]))) := rfl
      unfold bd
      rw [tmx 0 (by omega) (by omega), ew, e]
      simp only [List.length_append, List.length_cons, List.length_nil]
      omega
    · simp [sh] at h
      obtain ⟨x1, x2⟩ := a2 h.1
      obtain ⟨y1, ⟨y2, y3⟩, -⟩ := b0 h.2 0 (by omega)
      have e : tw (.add a b) 7 = max (1 + tw a 1) (tw b 0) := rfl
      have ew : Wr (.add a b) 36 = 166 :: (Wr a 5 ++ (167 :: Wr b 0)) := rfl
      unfold bd
      rw [tmx 0 (by omega) (by omega), ew, e]
      simp only [List.length_append, List.length_cons, List.length_nil]
      omega
    · simp [sh] at h
      obtain ⟨x1, ⟨x2, x3⟩, -⟩ := a0 h.1 0 (by omega)
      obtain ⟨y1, y2⟩ := b9 h.2
      have e : tw (.add a b) 8 = max (tw a 0) (tw b 9) := rfl
      have ew : Wr (.add a b) 37 = Wr a 0 ++ (161 :: Wr b 7) := rfl
      unfold bd
      rw [tmx 0 (by omega) (by omega), ew, e]
      simp only [List.length_append, List.length_cons, List.length_nil]
      omega
    · simp [sh] at h
      obtain ⟨x1, x2⟩ := a2 h.1
      obtain ⟨y1, y2⟩ := b3 h.2
      have e : tw (.add a b) 9 = max (tw a 1) (tw b 1) := rfl
      have ew : Wr (.add a b) 7 = Wr a 5 ++ Wr b 6 := rfl
      unfold bd
      rw [tmx 1 (by omega) (by omega), ew, e]
      simp only [List.length_append]
      omega
  | .mulL k e => by
    obtain ⟨e0, e1, e2, e3, e4, e5, e6, e7, e8, e9⟩ := tB e
    have tt : ∀ x, ¬ k = 21 → ¬ (130 ≤ k ∧ k < 152) → td (.mulL k e) x = td e 0 := fun x h1 h2 => by simp only [td]; rw [if_neg (by omega)]
    have t5 : ∀ x, k = 21 ∨ (130 ≤ k ∧ k < 152) → td (.mulL k e) x = td e 5 := fun x h => by simp only [td]; rw [if_pos h]
    have ww : ∀ x, tw (.mulL k e) x = 1 + tw e (rmode k) := fun x => rfl
    refine ⟨fun h m hm => ?_, fun h => ?_, fun h => by simp [sh] at h, fun h => ?_, fun h => by simp [sh] at h, fun h => by simp [sh] at h, fun h => by simp [sh] at h, fun h => by simp [sh] at h, fun h => by simp [sh] at h, fun h => by simp [sh] at h⟩
    · simp [sh] at h
      rcases h with ⟨hk, se⟩ | ⟨hk, se⟩
      · rcases hk with (rfl | rfl) | rfl
        · obtain ⟨x1, ⟨x2, x3⟩, -⟩ := e0 se 0 (by omega)
          have ew : Wr (.mulL 2 e) m = [108, 125] ++ (Wr e 0 ++ [126]) := rfl
          have er : rmode 2 = 0 := rfl
          unfold bd
          rw [ew, tt 0 (by omega) (by omega), ww, er]
          simp only [List.length_append, List.length_cons, List.length_nil]
          exact ⟨by omega, by omega, fun h => by simp [isCall] at h⟩
        · obtain ⟨x1, ⟨x2, x3⟩, -⟩ := e0 se 3 (by omega)
          have ew : Wr (.mulL 5 e) m = 152 :: Wr e 3 := rfl
          have er : rmode 5 = 0 := rfl
          unfold bd
          rw [ew, tt 0 (by omega) (by omega), ww, er]
          simp only [List.length_append, List.length_cons, List.length_nil]
          exact ⟨by omega, by omega, fun h => by simp [isCall] at h⟩
        · obtain ⟨x1, ⟨x2, x3⟩, -⟩ := e0 se 2 (by omega)
          have ew : Wr (.mulL 6 e) m = brk (1 < m) (131 :: Wr e 2) := rfl
          have er : rmode 6 = 0 := rfl
          have := brk_ln (1 < m) (131 :: Wr e 2)
          unfold bd
          rw [ew, tt 0 (by omega) (by omega), ww, er]
          simp only [List.length_cons] at this
          exact ⟨by omega, by omega, fun h => by simp [isCall] at h⟩
      · obtain ⟨k1, k2⟩ := isBin_n hk
        obtain ⟨x2, x3⟩ := e5 se k (Or.inl hk)
        have := brk_ln (zLev k < m) (Wr e (10 + k))
        have er : rmode k = 5 := by unfold rmode; rw [if_neg (by omega), if_neg (by omega), if_neg (by omega), if_pos (by omega)]
        unfold bd
        rw [Wr_bin hk, t5 0 (by omega), ww, er]
        exact ⟨by omega, by omega, fun h => by simp [isCall] at h⟩
    · simp [sh] at h
      rcases h with (((((h | h) | h) | h) | h) | h)
      · obtain ⟨hk, se⟩ := h
        obtain ⟨x1, ⟨x2, x3⟩, -⟩ := e0 se 0 (by omega)
        rcases hk with (hk | rfl) | rfl
        · have ew : Wr (.mulL k e) 0 = [100 + (k - 200), 120] ++ Wr e 0 := by
            simp only [Wr]
            rw [if_neg (by omega), if_neg (by omega), if_neg (by omega), if_pos hk.1]
          have er : rmode k = 0 := by unfold rmode; rw [if_neg (by omega), if_neg (by omega), if_neg (by omega), if_neg (by omega)]
          unfold bd
          rw [ew, tt 0 (by omega) (by omega), ww, er]
          simp only [List.length_append, List.length_cons, List.length_nil]
          omega
        · have ew : Wr (.mulL 23 e) 0 = 169 :: Wr e 0 := rfl
          have er : rmode 23 = 0 := rfl
          unfold bd
          rw [ew, tt 0 (by omega) (by omega), ww, er]
          simp only [List.length_cons]
          omega
        · have ew : Wr (.mulL 24 e) 0 = 168 :: Wr e 0 := rfl
          have er : rmode 24 = 0 := rfl
          unfold bd
          rw [ew, tt 0 (by omega) (by omega), ww, er]
          simp only [List.length_cons]
          omega
      · obtain ⟨⟨rfl, hc⟩, se⟩ := h
        obtain ⟨x1, ⟨x2, x3⟩, x4⟩ := e0 se 0 (by omega)
        have x4 := x4 hc
        have ew : Wr (.mulL 22 e) 0 = Wr e 0 := rfl
        have er : rmode 22 = 0 := rfl
        unfold bd
        rw [ew, tt 0 (by omega) (by omega), ww, er]
        omega
      · obtain ⟨rfl, se⟩ := h
        obtain ⟨x2, x3⟩ := e5 se 21 (Or.inr rfl)
        have ew : Wr (.mulL 21 e) 0 = Wr e (10 + 21) := rfl
        have er : rmode 21 = 5 := rfl
        unfold bd
        rw [ew, t5 0 (by omega), ww, er]
        omega
      · obtain ⟨rfl, se⟩ := h
        obtain ⟨x2, x3⟩ := e6 se
        have ew : Wr (.mulL 25 e) 0 = Wr e 35 := rfl
        have er : rmode 25 = 6 := rfl
        unfold bd
        rw [ew, tt 0 (by omega) (by omega), ww, er]
        omega
      · obtain ⟨rfl, se⟩ := h
        obtain ⟨x2, x3⟩ := e7 se
        have ew : Wr (.mulL 26 e) 0 = Wr e 36 := rfl
        have er : rmode 26 = 7 := rfl
        unfold bd
        rw [ew, tt 0 (by omega) (by omega), ww, er]
        omega
      · obtain ⟨rfl, se⟩ := h
        obtain ⟨x2, x3⟩ := e8 se
        have ew : Wr (.mulL 27 e) 0 = 160 :: (Wr e 37 ++ [163]) := rfl
        have er : rmode 27 = 8 := rfl
        unfold bd
        rw [ew, tt 0 (by omega) (by omega), ww, er]
        simp only [List.length_append, List.length_cons, List.length_nil]
        omega
    · have hk : k = 27 ∧ sh e 8 = true := by
        simp [sh] at h
        exact h
      obtain ⟨rfl, se⟩ := hk
      obtain ⟨x2, x3⟩ := e8 se
      have ew : Wr (.mulL 27 e) 6 = 173 :: Wr e 37 := rfl
      have er : rmode 27 = 8 := rfl
      unfold bd
      rw [ew, tt 1 (by omega) (by omega), ww, er]
      simp only [List.length_cons]
      omega
  | .mulR e q => by
    obtain ⟨e0, e1, e2, e3, e4, e5, e6, e7, e8, e9⟩ := tB e
    refine ⟨fun h m hm => ?_, fun h => by simp [sh] at h, fun h => by simp [sh] at h, fun h => by simp [sh] at h, fun h => by simp [sh] at h, fun h => by simp [sh] at h, fun h => by simp [sh] at h, fun h => by simp [sh] at h, fun h => by simp [sh] at h, fun h => by simp [sh] at h⟩
    have se : sh e 4 = true := by simpa [sh] using h
    obtain ⟨x2, x3⟩ := e4 se
    have ew : Wr (.mulR e q) m = [110 + q % 4, 122] ++ (Wr e 4 ++ [123]) := rfl
    have et : td (.mulR e q) 0 = max 1 (td e 4) := rfl
    have ez : tw (.mulR e q) 0 = 1 + tw e 1 := rfl
    unfold bd
    rw [ew, et, ez]
    simp only [List.length_append, List.length_cons, List.length_nil]
    exact ⟨by omega, by omega, fun _ => by omega⟩
/-- the lists of a program -/
theorem tB_main {tx : Nat → Nat} {J : zJ} {B : Nat → T} (h : (pfW tx J B).length ≤ 150) (hs : sh (B 4) 2 = true) : td (B 4) 1 ≤ 76 ∧ tw (B 4) 1 ≤ 150 := by
  obtain ⟨x1, x2⟩ := (tB (B 4)).2.2.1 hs
  unfold pfW at h
  simp only [List.length_append, List.length_cons, List.length_nil] at h
  omega
theorem tB_proc {tx : Nat → Nat} {J : zJ} {B : Nat → T} {d : Nat} (h : (pfW tx J B).length ≤ 150) (hd : d < J 4 3) (hs : sh (B (10 + d)) 2 = true) : td (B (10 + d)) 1 ≤ 76 ∧ tw (B (10 + d)) 1 ≤ 150 := by
  obtain ⟨x1, x2⟩ := (tB (B (10 + d))).2.2.1 hs
  have m1 := pw_mono (J := J) (B := B) tx (d + 1) (J 4 3 - (d + 1))
  rw [show d + 1 + (J 4 3 - (d + 1)) = J 4 3 by omega] at m1
  have m2 : (pw tx J B (d + 1)) = pw tx J B d ++ (hdW tx 150 (J 5 d) ++ (171 :: (Wr (B (10 + d)) 5 ++ [163]))) := rfl
  rw [m2] at m1
  unfold pfW at h
  simp only [List.length_append, List.length_cons, List.length_nil] at h m1
  omega
