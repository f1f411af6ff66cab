/-! THE CLASS RUNS A PROGRAM -/
theorem Cm_pos {op od : Nat → Int32} {own : Nat → Bool} : ∀ {t : T} {lo hi : Nat}, Cm op od own t 0 lo hi → lo < hi
  | .num k, lo, hi, h => by have := h.2.1; omega
  | .var x, lo, hi, h => by
    simp only [Cm] at h
    split at h <;> omega
  | .add a b, lo, hi, h => by simp [Cm] at h
  | .mulL k s, lo, hi, h => by
    simp only [Cm] at h
    split at h
    · obtain ⟨-, h⟩ := h
      cases s with
      | add a b =>
        simp [Cm] at h
        obtain ⟨m, h1, -, h2, -⟩ := h
        have := Cm_le h1
        omega
      | num k => simp [Cm] at h
      | var x => simp [Cm] at h
      | mulL k e => simp [Cm] at h
      | mulR e q => simp [Cm] at h
    · omega
  | .mulR s q, lo, hi, h => by have := h.2.1; omega
theorem Cm_tlen {op od : Nat → Int32} {own : Nat → Bool} : ∀ {t : T} {lo hi : Nat}, Cm op od own t 1 lo hi → tlen t ≤ hi - lo
  | .num k, lo, hi, h => Nat.zero_le _
  | .var x, lo, hi, h => Nat.zero_le _
  | .mulL k s, lo, hi, h => Nat.zero_le _
  | .mulR s q, lo, hi, h => Nat.zero_le _
  | .add a b, lo, hi, h => by
    simp only [Cm] at h
    rw [if_pos (Or.inl True.intro)] at h
    obtain ⟨m, h1, h2⟩ := h
    have l1 := Cm_pos h1
    have l2 := Cm_le h2
    have := Cm_tlen h2
    show tlen b + 1 ≤ hi - lo
    omega
theorem Cm_c {op od : Nat → Int32} {own : Nat → Bool} {q c : Nat} : ∀ {t : T} {md lo hi : Nat}, Cm op od own t md lo hi → hasC t q c → c ≤ hi - lo
  | .num k, md, lo, hi, h, g => g.elim
  | .var x, md, lo, hi, h, g => g.elim
  | .mulL k s, md, lo, hi, h, g => by
    simp only [Cm] at h
    split at h
    · exact Cm_c (t := s) h.2 g
    · have := Cm_c (t := s) h.2.2.1 g
      omega
  | .mulR s q', md, lo, hi, h, g => by
    obtain ⟨-, h1, h2, -⟩ := h
    rcases g with ⟨-, rfl⟩ | g
    · have := Cm_tlen h2
      omega
    · have := Cm_c h2 g
      omega
  | .add a b, md, lo, hi, h, g => by
    simp only [Cm] at h
    have fin : ∀ {x y u v mx my : Nat}, Cm op od own a mx x y → Cm op od own b my u v → lo ≤ x → y ≤ hi → lo ≤ u → v ≤ hi → c ≤ hi - lo := by
      intro x y u v mx my h1 h2 q1 q2 q3 q4
      rcases g with g | g
      · have := Cm_c h1 g; omega
      · have := Cm_c h2 g; omega
    repeat' split at h
    · obtain ⟨m, h1, h2⟩ := h
      have l1 := Cm_le h1; have l2 := Cm_le h2
      exact fin h1 h2 (by omega) (by omega) (by omega) (by omega)
    · obtain ⟨m, h1, h2⟩ := h
      have l1 := Cm_le h1; have l2 := Cm_le h2
      exact fin h1 h2 (by omega) (by omega) (by omega) (by omega)
    · obtain ⟨m, h1, -, -, h4, h2⟩ := h
      have l1 := Cm_le h1; have l2 := Cm_le h2
      exact fin h1 h2 (by omega) (by omega) (by omega) (by omega)
    · obtain ⟨m, h1, -, -, h4, h2⟩ := h
      have l1 := Cm_le h1; have l2 := Cm_le h2
      exact fin h1 h2 (by omega) (by omega) (by omega) (by omega)
    · obtain ⟨m, h1, -, -, -, h4, h2⟩ := h
      have l1 := Cm_le h1; have l2 := Cm_le h2
      exact fin h1 h2 (by omega) (by omega) (by omega) (by omega)
    · obtain ⟨m, -, h1, h2⟩ := h
      have l1 := Cm_le h1; have l2 := Cm_le h2
      exact fin h1 h2 (by omega) (by omega) (by omega) (by omega)
    · obtain ⟨m, h1, -, h4, h2⟩ := h
      have l1 := Cm_le h1; have l2 := Cm_le h2
      exact fin h1 h2 (by omega) (by omega) (by omega) (by omega)
    · obtain ⟨m, h1, h2⟩ := h
      have l1 := Cm_le h1
      rcases h2 with ⟨rfl, h2, -⟩ | ⟨-, -, -, h4, h2⟩
      · rcases g with g | g
        · have := Cm_c h1 g; omega
        · exact g.elim
      · have l2 := Cm_le h2
        exact fin h1 h2 (by omega) (by omega) (by omega) (by omega)
    · exact h.elim
/-- what a program without a fault is, in the class -/
def gPk (M : zMem) (J : zJ) (B : Nat → T) : Prop := (∃ c, cCD M c ∧ cHB M c J B ∧ ∃ s, M 7 6 = nI s ∧ Bo c 0 (B 4) s c.1) ∧ sh (B 4) 2 = true ∧ gT J (B 4) ∧ td (B 4) 1 ≤ 76 ∧ tw (B 4) 1 ≤ 150 ∧ ∀ p, p < 4 → J 6 p = 1 → tw (B p) 1 ≤ 150
theorem zGd_rd : ∀ (r : List Nat) (pl : Nat) (z z' : zZ), pl + r.length ≤ 150 → zGd z → zBd pl z → zRd r pl z = .inr z' → zGd z'
  | [], pl, z, z', _, h, _, e => by cases e; exact h
  | t :: r, pl, z, z', hl, hg, hb, e => by
    simp only [List.length_cons] at hl
    have e : (match zStep t pl z with | some z1 => zRd r (pl + 1) z1 | none => .inl pl) = .inr z' := e
    cases s : zStep t pl z with
    | none => rw [s] at e; cases e
    | some z1 =>
      rw [s] at e
      obtain ⟨k1, k2⟩ := zStep_ok (t := t) (by omega) hg hb z1 s
      exact zGd_rd r (pl + 1) z1 z' (by omega) k1 k2 e
theorem zRd_inl : ∀ (r : List Nat) (pl : Nat) (z : zZ) (q : Nat), zRd r pl z = .inl q → q < pl + r.length
  | [], pl, z, q, e => by cases e
  | t :: r, pl, z, q, e => by
    have e : (match zStep t pl z with | some z1 => zRd r (pl + 1) z1 | none => .inl pl) = .inl q := e
    cases s : zStep t pl z with
    | none => rw [s] at e; cases e; simp only [List.length_cons]; omega
    | some z1 =>
      rw [s] at e
      have := zRd_inl r (pl + 1) z1 q e
      simp only [List.length_cons]
      omega
theorem gPk_of {M : zMem} {ts : List Nat} {p o g : Nat} {B0 : Nat → T} {z : zZ} (hl : ts.length ≤ 150) (hz : zRd ts 0 (z0 p o g B0) = .inr z) (h24 : z.1 = 24) (hP : PRes M ts (.inr z)) (hf : M 14 2 = -4) : gPk M z.2.2.2.1 z.2.2.2.2 := by
  obtain ⟨h1, -, h3, ⟨c, c1, c2, c3, ⟨s, c4, c5⟩, c6⟩, h5, -⟩ := hP.2 z rfl h24
  have iv := zIv_rd ts 0 (z0 p o g B0) z (by omega) z0_ok.1 z0_ok.2 zIv_0 hz
  have hdist := zDist hl hz
  obtain ⟨nx, cs, fs, J, B⟩ := z
  have h24 : nx = 24 := h24
  subst h24
  have h1 : FS J (allC J B) (M 14 2) := h1
  have iv : zIJ (inP 24 fs) J B := iv.2
  have nip : ¬ inP 24 fs := fun q => by
    have gd := zGd_rd ts 0 _ _ (by omega) z0_ok.1 z0_ok.2 hz
    simp only [zGd] at gd
    rw [if_pos (Or.inr True.intro)] at gd
    have gd := gd.2
    subst gd
    have : bot [] = 0 := rfl
    unfold inP at q
    omega
  have h3 : (pfW (tok ts) J B).length ≤ 150 := h3
  have h5 : ∀ d, d < J 4 3 → sh (B (10 + d)) 2 = true := h5
  have c2 : ∀ p, p < 4 → J 6 p = 1 → J 0 p = 1 ∧ sh (B p) 2 = true ∧ ∃ s, M 9 p = nI s ∧ Bo c (J 3 p) (B p) s c.1 := c2
  have c3 : sh (B 4) 2 = true := c3
  have c5 : Bo c 0 (B 4) s c.1 := c5
  have c6 : ∀ p, p < 4 → J 0 p ≤ 1 ∧ (J 0 p = 1 → M 10 p = nI (J 1 p) ∧ ∀ i, i < 8 → i < J 1 p → J 1 p ≤ 8 → M 11 (8 * p + i) = nI (J 2 (8 * p + i))) := c6
  have hdist : J 4 4 = 0 → ∀ p i j, i < j → j < J 1 p → J 2 (8 * p + i) ≠ J 2 (8 * p + j) := hdist
  obtain ⟨i1, i2, i3, -, -, i6, -⟩ := iv
  have hfs : J 4 4 = 0 ∧ ∀ q c, allC J B q c → ¬ bdC J q c := by
    rcases h1 with ⟨-, x1, x2⟩ | ⟨m, x1, x2, -⟩
    · exact ⟨x1, x2⟩
    · rw [hf] at x1
      exact absurd (show nI m < 0 by rw [← x1]; decide) (nI_pos (n := m) (by omega))
  obtain ⟨f1, f2⟩ := hfs
  have i3 := i3 f1
  have c300 := c1.2.1
  have gg : ∀ q cc, allC J B q cc → cc ≤ 300 → J 6 (q % 4) = 1 ∧ J 1 (q % 4) = cc := by
    intro q cc h hc
    have := f2 q cc h
    unfold bdC at this
    have h8 := i3 (q % 4)
    by_cases w : J 0 (q % 4) = 1 ∧ nI (J 1 (q % 4)) = nI cc
    · refine ⟨?_, nI_inj (by omega) (by omega) w.2⟩
      rcases i1 _ w.1 with y | y
      · exact y
      · exact absurd y.1 nip
    · exact absurd w this
  have g4 : gT J (B 4) := fun q cc h => by
    obtain ⟨hh, b1, -, -, -, b5⟩ := c5
    have := Cm_c b1 h
    exact gg q cc (Or.inr h) (by omega)
  have gp : ∀ p, p < 4 → J 6 p = 1 → gT J (B p) := fun p hp h6 q cc h => by
    obtain ⟨-, -, s', -, hh, b1, -, -, -, b5⟩ := c2 p hp h6
    have := Cm_c b1 h
    obtain ⟨d, d1, d2⟩ := i2 p hp h6
    rw [d2] at h
    exact gg q cc (Or.inl ⟨d, d1, h⟩) (by omega)
  obtain ⟨t1, t2⟩ := tB_main h3 c3
  have tp : ∀ p, p < 4 → J 6 p = 1 → td (B p) 1 ≤ 76 ∧ tw (B p) 1 ≤ 150 := fun p hp h6 => by
    obtain ⟨d, d1, d2⟩ := i2 p hp h6
    rw [d2]
    exact tB_proc h3 d1 (h5 d d1)
  refine ⟨⟨c, c1, ⟨i6, fun p hp h6 => ?_⟩, s, c4, c5⟩, c3, g4, t1, t2, fun p hp h6 => (tp p hp h6).2⟩
  obtain ⟨y1, y2, y3⟩ := c2 p hp h6
  obtain ⟨y4, y5⟩ := (c6 p hp).2 y1
  have h8 := i3 p
  exact ⟨⟨y2, gp p hp h6⟩, (tp p hp h6).1, y3, y4, h8, fun i (hi : i < J 1 p) => y5 i (by omega) hi h8, fun i j q1 q2 => hdist f1 p i j q1 q2⟩

def zS0 (G C nm : Nat → Int32) : zE := ((fun a i => if a = 0 then G i else if a = 1 then C i else if a = 2 then nm i else 0), 0, 0, 0)
def zEnd (r : zR) : Nat := if r.1 ≤ 1 then 0 else r.1 - 2
def cRes (M : zMem) (r : zR) : Prop := cDt M r.2.2 ∧ M 27 6 = nI (zEnd r)
theorem cCp1 : ∀ (k i : Nat) (M : zMem), i + k = 8 → ∃ M', (∀ N n, k < n → F_Mach_execute_p9 N n M (nI i) = F_Mach_execute_p9 N (n - k) M' (nI 8)) ∧ (∀ a, a ≠ 28 → M' a = M a) ∧ (∀ j, j < i → M' 28 j = M 28 j) ∧ ∀ j, i ≤ j → j < 8 → M' 28 j = M 2 j
  | 0, i, M, h => by
    have hi : i = 8 := by omega
    subst hi
    exact ⟨M, fun N n _ => rfl, fun _ _ => rfl, fun _ _ => rfl, fun j h1 h2 => by omega⟩
  | k + 1, i, M, h => by
    obtain ⟨M', a1, a2, a3, a4⟩ := cCp1 k (i + 1) (zup M 28 i (M 2 i)) (by omega)
    refine ⟨M', fun N n hn => ?_, fun a q => by rw [a2 a q, zup_ne q], fun j hj => ?_, fun j h1 h2 => ?_⟩
    · obtain ⟨n, rfl⟩ : ∃ n', n = n' + 1 := ⟨n - 1, by omega⟩
      rw [F_Mach_execute_p9, if_neg (show ¬ (8 : Int32) ≤ nI i from nI_ge (b := 8) (by omega) (by omega)), if_neg (show ¬ (8 : Int32) ≤ nI i from nI_ge (b := 8) (by omega) (by omega)), zix_nI _ (by omega) (by omega), zix_nI _ (by omega) (by omega), nI_clamp (by omega), zset_eq, nI_1, a1 N n (by omega), show n + 1 - (k + 1) = n - k by omega]
    · rw [a3 j (by omega), zup_ap, if_pos rfl, if_neg (by omega)]
    · by_cases q : j = i
      · subst q
        rw [a3 j (by omega), zup_self, pk_us]
      · rw [a4 j (by omega) h2, zup_ne (by omega)]
theorem cCp2 : ∀ (k i : Nat) (M : zMem), i + k = 16 → ∃ M', (∀ N n, k < n → F_Mach_execute_p29 N n M (nI i) = F_Mach_execute_p29 N (n - k) M' (nI 16)) ∧ (∀ a, a ≠ 29 → M' a = M a) ∧ (∀ j, j < i → M' 29 j = M 29 j) ∧ ∀ j, i ≤ j → j < 16 → M' 29 j = M 3 j
  | 0, i, M, h => by
    have hi : i = 16 := by omega
    subst hi
    exact ⟨M, fun N n _ => rfl, fun _ _ => rfl, fun _ _ => rfl, fun j h1 h2 => by omega⟩
  | k + 1, i, M, h => by
    obtain ⟨M', a1, a2, a3, a4⟩ := cCp2 k (i + 1) (zup M 29 i (M 3 i)) (by omega)
    refine ⟨M', fun N n hn => ?_, fun a q => by rw [a2 a q, zup_ne q], fun j hj => ?_, fun j h1 h2 => ?_⟩
    · obtain ⟨n, rfl⟩ : ∃ n', n = n' + 1 := ⟨n - 1, by omega⟩
      rw [F_Mach_execute_p29, if_neg (show ¬ (16 : Int32) ≤ nI i from nI_ge (b := 16) (by omega) (by omega)), if_neg (show ¬ (16 : Int32) ≤ nI i from nI_ge (b := 16) (by omega) (by omega)), zix_nI _ (by omega) (by omega), zix_nI _ (by omega) (by omega), nI_clamp (by omega), zset_eq, nI_1, a1 N n (by omega), show n + 1 - (k + 1) = n - k by omega]
    · rw [a3 j (by omega), zup_ap, if_pos rfl, if_neg (by omega)]
    · by_cases q : j = i
      · subst q
        rw [a3 j (by omega), zup_self, pk_us]
      · rw [a4 j (by omega) h2, zup_ne (by omega)]
theorem cHB_M {M M' : zMem} {c : zC} {J : zJ} {B : Nat → T} (h : cHB M c J B) (hk : ∀ a, a = 9 ∨ a = 10 ∨ a = 11 → M' a = M a) : cHB M' c J B := by
  refine ⟨h.1, fun p hp h6 => ?_⟩
  obtain ⟨a1, a2, a3, a4, a5, a6, a7⟩ := h.2 p hp h6
  refine ⟨a1, a2, ?_, ?_, a5, fun i hi => ?_, a7⟩
  · rw [hk 9 (by omega)]; exact a3
  · rw [hk 10 (by omega)]; exact a4
  · rw [hk 11 (by omega)]; exact a6 i hi
theorem cExec {M : zMem} {J : zJ} {B : Nat → T} (h : gPk M J B) (h7 : ¬ M 27 7 = 0) : ∃ M', (∀ N, 1000010 ≤ N → F_Mach_execute N M = some M') ∧ (∀ a, a < 27 ∨ 33 < a → M' a = M a) ∧ M' 27 7 = 0 ∧ cRes M' (evN J B 301 0 0 (B 4) 1 (zS0 (M 2) (M 3) (M 32))) := by
  obtain ⟨⟨c, c1, c2, s, c3, hh, c4, c5, c6, c7, c8⟩, b1, b2, b3, -, -⟩ := h
  obtain ⟨Ma, x1, x2, -, x4⟩ := cCp1 8 0 (zup M 27 7 0) rfl
  obtain ⟨Mb, y1, y2, -, y4⟩ := cCp2 16 0 Ma rfl
  let Mc : zMem := zup (zup (zup (zup (zup (zup Mb 27 3 0) 27 4 0) 27 5 0) 27 6 0) 27 13 0) 27 14 0
  let MS : zMem := zup (zup Mc 27 15 (nI s)) 27 16 1
  have k27 : ∀ a, a ≠ 27 → a ≠ 28 → a ≠ 29 → MS a = M a := fun a q1 q2 q3 => by
    show zup (zup (zup (zup (zup (zup (zup (zup Mb 27 3 0) 27 4 0) 27 5 0) 27 6 0) 27 13 0) 27 14 0) 27 15 (nI s)) 27 16 1 a = _
    rw [zup_ne q1, zup_ne q1, zup_ne q1, zup_ne q1, zup_ne q1, zup_ne q1, zup_ne q1, zup_ne q1, y2 a q3, x2 a q2, zup_ne q1]
  have k28 : ∀ i, i < 8 → MS 28 i = M 2 i := fun i hi => by
    show zup (zup (zup (zup (zup (zup (zup (zup Mb 27 3 0) 27 4 0) 27 5 0) 27 6 0) 27 13 0) 27 14 0) 27 15 (nI s)) 27 16 1 28 i = _
    rw [zup_ne (by omega), zup_ne (by omega), zup_ne (by omega), zup_ne (by omega), zup_ne (by omega), zup_ne (by omega), zup_ne (by omega), zup_ne (by omega), y2 28 (by omega), x4 i (by omega) hi, zup_ne (by omega)]
  have k29 : ∀ i, i < 16 → MS 29 i = M 3 i := fun i hi => by
    show zup (zup (zup (zup (zup (zup (zup (zup Mb 27 3 0) 27 4 0) 27 5 0) 27 6 0) 27 13 0) 27 14 0) 27 15 (nI s)) 27 16 1 29 i = _
    rw [zup_ne (by omega), zup_ne (by omega), zup_ne (by omega), zup_ne (by omega), zup_ne (by omega), zup_ne (by omega), zup_ne (by omega), zup_ne (by omega), y4 i (by omega) hi, x2 3 (by omega), zup_ne (by omega)]
  have e7 : MS 27 7 = 0 := by
    show zup (zup (zup (zup (zup (zup (zup (zup Mb 27 3 0) 27 4 0) 27 5 0) 27 6 0) 27 13 0) 27 14 0) 27 15 (nI s)) 27 16 1 27 7 = _
    rw [z27 (by omega), z27 (by omega), z27 (by omega), z27 (by omega), z27 (by omega), z27 (by omega), z27 (by omega), z27 (by omega), y2 27 (by omega), x2 27 (by omega), zup_self, pk_us]
  have m0 : cM MS MS (fun _ => 0) (MS 33) (zS0 (M 2) (M 3) (M 32)) 0 s [] := by
    refine ⟨⟨k28, k29, fun i (hi : i < 0) => by omega, ?_, ?_, ?_, Nat.zero_le _, Nat.zero_le _, Nat.zero_le _⟩, ⟨?_, ?_, ?_⟩, ⟨?_, trivial⟩, fun i hi => ?_, fun i hi => by omega, fun i hi => rfl, fun a _ => rfl, rfl⟩
    · show zup (zup (zup (zup (zup (zup (zup (zup Mb 27 3 0) 27 4 0) 27 5 0) 27 6 0) 27 13 0) 27 14 0) 27 15 (nI s)) 27 16 1 27 3 = nI 0
      rw [z27 (by omega), z27 (by omega), z27 (by omega), z27 (by omega), z27 (by omega), z27 (by omega), z27 (by omega), zup_self, pk_us]; rfl
    · show zup (zup (zup (zup (zup (zup (zup (zup Mb 27 3 0) 27 4 0) 27 5 0) 27 6 0) 27 13 0) 27 14 0) 27 15 (nI s)) 27 16 1 27 4 = nI 0
      rw [z27 (by omega), z27 (by omega), z27 (by omega), z27 (by omega), z27 (by omega), z27 (by omega), zup_self, pk_us]; rfl
    · show zup (zup (zup (zup (zup (zup (zup (zup Mb 27 3 0) 27 4 0) 27 5 0) 27 6 0) 27 13 0) 27 14 0) 27 15 (nI s)) 27 16 1 27 5 = nI 0
      rw [z27 (by omega), z27 (by omega), z27 (by omega), z27 (by omega), z27 (by omega), zup_self, pk_us]; rfl
    · show zup (zup (zup (zup (zup (zup (zup (zup Mb 27 3 0) 27 4 0) 27 5 0) 27 6 0) 27 13 0) 27 14 0) 27 15 (nI s)) 27 16 1 27 14 = nI 0
      rw [z27 (by omega), z27 (by omega), zup_self, pk_us]; rfl
    · show zup (zup (zup (zup (zup (zup (zup (zup Mb 27 3 0) 27 4 0) 27 5 0) 27 6 0) 27 13 0) 27 14 0) 27 15 (nI s)) 27 16 1 27 15 = nI s
      rw [z27 (by omega), zup_self, pk_us]
    · show zup (zup (zup (zup (zup (zup (zup (zup Mb 27 3 0) 27 4 0) 27 5 0) 27 6 0) 27 13 0) 27 14 0) 27 15 (nI s)) 27 16 1 27 16 = 1
      rw [zup_self, pk_us]
    · show zup (zup (zup (zup (zup (zup (zup (zup Mb 27 3 0) 27 4 0) 27 5 0) 27 6 0) 27 13 0) 27 14 0) 27 15 (nI s)) 27 16 1 27 13 = nI 0
      rw [z27 (by omega), z27 (by omega), z27 (by omega), zup_self, pk_us]; rfl
    · rw [k27 32 (by omega) (by omega) (by omega)]
      show M 32 (8 * 0 + i) = M 32 i
      rw [Nat.mul_zero, Nat.zero_add]
  have hc : cCD MS c := by
    obtain ⟨q1, q2, q3, q4⟩ := c1
    exact ⟨by rw [k27 4 (by omega) (by omega) (by omega)]; exact q1, q2, by rw [k27 5 (by omega) (by omega) (by omega)]; exact q3, by rw [k27 6 (by omega) (by omega) (by omega)]; exact q4⟩
  have hB : cHB MS c J B := cHB_M c2 (fun a q => k27 a (by omega) (by omega) (by omega))
  have c300 := hc.2.1
  have l1 := Cm_le c4
  have run := cEvN hc hB 301 (B 4) 2 1 (by unfold er; omega) b1 b2 0 0 MS (fun _ => 0) (MS 33) (zS0 (M 2) (M 3) (M 32)) s hh s [] (by omega) (by omega) c4 (by omega) m0 (by show 0 + td (B 4) 1 ≤ 76 * 1; omega) (cPl_0 (by omega))
  have vr := evNV (fun p h1 h2 => (hB.2 p h1 h2).1) 301 (B 4) 2 1 0 0 (zS0 (M 2) (M 3) (M 32)) (by unfold er; omega) b1 b2
  generalize evN J B 301 0 0 (B 4) 1 (zS0 (M 2) (M 3) (M 32)) = r at *
  obtain ⟨i1, M4, k4, i2, i3, i4, i5, i6⟩ := run
  have i3 : k4 ≤ (hh - s) + 302 * (r.2.2.2.1 - 0) := i3
  have fin : ∃ M5 k5, cS MS M5 k5 ∧ k5 ≤ (hh - s) + 2 + 302 * (r.2.2.2.1 - 0) ∧ cX MS M5 r.2.2 (zEnd r) := by
    unfold zEnd
    by_cases q0 : r.1 = 0
    · have i4 := i4 q0
      rw [len0 (vr.2.1 q0)] at i4
      obtain ⟨M5, f5, f6⟩ := o1 (vs := []) (pc := hh) hc i4 (by omega) (by simp) c5
      obtain ⟨M6, f7, f8⟩ := (o26 hc f6 (by omega) c7 (by omega)).1 rfl
      refine ⟨M6, k4 + (1 + 1), cS_trans i2 (cS_trans f5 f7), by omega, ?_⟩
      rw [if_pos (by omega)]
      exact f8
    · by_cases q1 : r.1 = 1
      · refine ⟨M4, k4, i2, by omega, ?_⟩
        rw [if_pos (by omega)]
        exact (i5 q1).1 rfl
      · refine ⟨M4, k4, i2, by omega, ?_⟩
        rw [if_neg (by omega)]
        exact i6 (by omega)
  obtain ⟨M5, k5, z1, z2, z3, z4, z5, z6, z7⟩ := fin
  have t300 := z3.2.2.2.2.2.2.2.1
  refine ⟨M5, fun N hN => ?_, fun a ha => ?_, by rw [z7]; exact e7, z3, z4⟩
  · unfold F_Mach_execute
    rw [if_neg h7, zset_eq]
    show F_Mach_execute_p9 N N (zup M 27 7 0) (nI 0) = _
    rw [x1 N N (by omega)]
    obtain ⟨n, rfl⟩ : ∃ n, N = n + 20 := ⟨N - 20, by omega⟩
    rw [show n + 20 - 8 = (n + 11) + 1 by omega, F_Mach_execute_p9, if_pos (show (8 : Int32) ≤ nI 8 by decide)]
    show F_Mach_execute_p29 (n + 20) (n + 20) Ma (nI 0) = _
    rw [y1 (n + 20) (n + 20) (by omega), show n + 20 - 16 = (n + 3) + 1 by omega, F_Mach_execute_p29, if_pos (show (16 : Int32) ≤ nI 16 by decide)]
    unfold F_Mach_execute_p47
    rw [zset_eq, zset_eq, zset_eq, zset_eq, zset_eq, zset_eq]
    have em : F_Proc_mainEntry Mc = some (nI s, Mc) := by
      unfold F_Proc_mainEntry
      have : Mc 7 6 = nI s := by
        show zup (zup (zup (zup (zup (zup Mb 27 3 0) 27 4 0) 27 5 0) 27 6 0) 27 13 0) 27 14 0 7 6 = _
        rw [zup_ne (by omega), zup_ne (by omega), zup_ne (by omega), zup_ne (by omega), zup_ne (by omega), zup_ne (by omega), y2 7 (by omega), x2 7 (by omega), zup_ne (by omega)]
        exact c3
      rw [this]
    show zbi (F_Proc_mainEntry Mc) (fun r15 M13 => zset M13 27 15 r15 fun M16 => zset M16 27 16 ((1 : Int32)) fun M18 => F_Mach_execute_p75 (n + 20) (n + 20) M18 ((0 : Int32))) = _
    rw [em, zbi_some, zset_eq, zset_eq]
    show F_Mach_execute_p75 (n + 20) (n + 20) MS (nI 0) = _
    have := z1 (n + 20) (n + 20 - k5) 0 (by omega) (by omega)
    rw [show n + 20 - k5 + k5 = n + 20 by omega, Nat.zero_add] at this
    rw [this]
    obtain ⟨m, hm⟩ : ∃ m, n + 20 - k5 = m + 1 := ⟨n + 19 - k5, by omega⟩
    rw [hm, F_Mach_execute_p75, if_neg (show ¬ (1000000 : Int32) ≤ nI k5 from nI_ge (b := 1000000) (by omega) (by omega)), if_pos z5]
  · rw [z6 a ha]
    exact k27 a (by omega) (by omega) (by omega)
