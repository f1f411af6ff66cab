/-! THE CLASS READS A TEXT: its begin, its faults -/
theorem cRes12 (N : Nat) : ∀ (k i n : Nat) (M : zMem), i + k = 150 → k < n → ∃ M', F_Proc_restart_p16 N n M (nI i) = some M' ∧ (∀ j, i ≤ j → j < 150 → M' 12 j = -1) ∧ (∀ j, j < i → M' 12 j = M 12 j) ∧ (∀ a, a ≠ 12 → a ≠ 7 → M' a = M a) ∧ M' 7 7 = -1 ∧ M' 7 8 = 0 ∧ M' 7 9 = -4
  | 0, i, n, M, h, hn => by
    obtain ⟨n, rfl⟩ : ∃ n', n = n' + 1 := ⟨n - 1, by omega⟩
    rw [F_Proc_restart_p16, if_pos (show (150 : Int32) ≤ nI i from nI_le (a := 150) (by omega) (by omega))]
    simp only [zset_eq]
    refine ⟨_, rfl, fun j q1 q2 => by omega, fun j _ => by simp [zup_ap], fun a q1 q2 => ?_, by simp [zup_ap], by simp [zup_ap], by simp [zup_ap]⟩
    rw [zup_ne q2, zup_ne q2, zup_ne q2, zup_ne q2]
  | k + 1, i, n, M, h, hn => by
    obtain ⟨n, rfl⟩ : ∃ n', n = n' + 1 := ⟨n - 1, by omega⟩
    rw [F_Proc_restart_p16, if_neg (show ¬ (150 : Int32) ≤ nI i from nI_ge (b := 150) (by omega) (by omega)), zix_nI _ (by omega) (by omega), zset_eq, nI_clamp (by omega), nI_1]
    obtain ⟨M', e, a1, a2, a3, a4⟩ := cRes12 N k (i + 1) n (zup M 12 i (-1)) (by omega) (by omega)
    refine ⟨M', e, fun j q1 q2 => ?_, fun j q => ?_, fun a q1 q2 => by rw [a3 a q1 q2, zup_ne q1], a4⟩
    · by_cases z : j = i
      · subst z; rw [a2 j (by omega), zup_self, pk_us]
      · exact a1 j (by omega) q2
    · rw [a2 j (by omega), zup_self, pk_un (by omega)]
theorem cRes21 (N : Nat) : ∀ (k i n : Nat) (M : zMem), i + k = 150 → k < n → ∃ M', F_Plain_restart_p7 N n M (nI i) = some M' ∧ (∀ j, i ≤ j → j < 150 → M' 21 j = 0) ∧ (∀ j, j < i → M' 21 j = M 21 j) ∧ (∀ a, a ≠ 21 → M' a = M a)
  | 0, i, n, M, h, hn => by
    obtain ⟨n, rfl⟩ : ∃ n', n = n' + 1 := ⟨n - 1, by omega⟩
    rw [F_Plain_restart_p7, if_pos (show (150 : Int32) ≤ nI i from nI_le (a := 150) (by omega) (by omega))]
    exact ⟨M, rfl, fun j q1 q2 => by omega, fun _ _ => rfl, fun _ _ => rfl⟩
  | k + 1, i, n, M, h, hn => by
    obtain ⟨n, rfl⟩ : ∃ n', n = n' + 1 := ⟨n - 1, by omega⟩
    rw [F_Plain_restart_p7, if_neg (show ¬ (150 : Int32) ≤ nI i from nI_ge (b := 150) (by omega) (by omega)), zix_nI _ (by omega) (by omega), zset_eq, nI_clamp (by omega), nI_1]
    obtain ⟨M', e, a1, a2, a3⟩ := cRes21 N k (i + 1) n (zup M 21 i 0) (by omega) (by omega)
    refine ⟨M', e, fun j q1 q2 => ?_, fun j q => ?_, fun a q1 => by rw [a3 a q1, zup_ne q1]⟩
    · by_cases z : j = i
      · subst z; rw [a2 j (by omega), zup_self, pk_us]
      · exact a1 j (by omega) q2
    · rw [a2 j (by omega), zup_self, pk_un (by omega)]
theorem cRestart {N : Nat} (hN : 300 < N) (M : zMem) : ∃ M0, F_Pars_restart N M = some M0 ∧ (∀ i, i < 150 → M0 12 i = -1 ∧ M0 21 i = 0) ∧ (∀ p, p < 4 → M0 8 p = 0) ∧ (M0 4 2 = 0 ∧ M0 15 3 = 0 ∧ M0 19 5 = -1 ∧ M0 7 8 = 0 ∧ M0 7 9 = -4 ∧ M0 14 3 = 0 ∧ M0 14 2 = -4) ∧ ∀ a, a ≤ 3 ∨ 25 ≤ a → M0 a = M a := by
  obtain ⟨M1, h1⟩ : ∃ M1, M1 = zup M 4 2 0 := ⟨_, rfl⟩
  obtain ⟨M2, h2⟩ : ∃ M2, M2 = zup (zup (zup (zup M1 8 0 0) 8 1 0) 8 2 0) 8 3 0 := ⟨_, rfl⟩
  obtain ⟨M3, e3, a1, a2, a3, a4, a5, a6⟩ := cRes12 N 150 0 N M2 (by omega) (by omega)
  obtain ⟨M4, h4⟩ : ∃ M4, M4 = zup (zup (zup (zup (zup M3 15 3 0) 19 1 0) 19 3 3) 19 4 (-1)) 19 5 (-1) := ⟨_, rfl⟩
  obtain ⟨M5, e5, b1, b2, b3⟩ := cRes21 N 150 0 N M4 (by omega) (by omega)
  refine ⟨zup (zup M5 14 2 (-4)) 14 3 0, ?_, fun i hi => ⟨?_, ?_⟩, fun p hp => ?_, ⟨?_, ?_, ?_, ?_, ?_, ?_, ?_⟩, fun a ha => ?_⟩
  · obtain ⟨n, rfl⟩ : ∃ n, N = n + 5 := ⟨N - 5, by omega⟩
    have loop : ∀ k i (X : zMem), i < 4 → F_Proc_restart_p2 (n + 5) (k + 1) X (nI i) = F_Proc_restart_p2 (n + 5) k (zup X 8 i 0) (nI (i + 1)) := by
      intro k i X hi
      rw [F_Proc_restart_p2, if_neg (show ¬ (4 : Int32) ≤ nI i from nI_ge (b := 4) hi (by omega)), zix_nI _ hi (by omega), zset_eq, nI_clamp (by omega), nI_1]
    have er : F_Proc_restart (n + 5) M1 = some M3 := by
      unfold F_Proc_restart
      rw [show F_Proc_restart_p2 (n + 5) (n + 5) M1 0 = F_Proc_restart_p2 (n + 5) (n + 4 + 1) M1 (nI 0) from rfl, loop (n + 4) 0 M1 (by omega), loop (n + 3) 1 _ (by omega), loop (n + 2) 2 _ (by omega), loop (n + 1) 3 _ (by omega), ← h2, F_Proc_restart_p2, if_pos (by decide)]
      exact e3
    unfold F_Pars_restart F_Code_restart F_Pend_restart F_Plain_restart F_Plain_beginOperand
    simp only [zset_eq, zbv_some]
    rw [← h1, er, zbv_some, ← h4, show F_Plain_restart_p7 (n + 5) (n + 5) M4 0 = F_Plain_restart_p7 (n + 5) (n + 5) M4 (nI 0) from rfl, e5, zbv_some]
  · rw [zup_ne (by omega), zup_ne (by omega), b3 12 (by omega), h4, zup_ne (by omega), zup_ne (by omega), zup_ne (by omega), zup_ne (by omega), zup_ne (by omega)]
    exact a1 i (by omega) hi
  · rw [zup_ne (by omega), zup_ne (by omega)]; exact b1 i (by omega) hi
  · rw [zup_ne (by omega), zup_ne (by omega), b3 8 (by omega), h4, zup_ne (by omega), zup_ne (by omega), zup_ne (by omega), zup_ne (by omega), zup_ne (by omega), a3 8 (by omega) (by omega), h2]
    rcases (show p = 0 ∨ p = 1 ∨ p = 2 ∨ p = 3 by omega) with rfl | rfl | rfl | rfl <;> simp [zup_ap]
  · rw [zup_ne (by omega), zup_ne (by omega), b3 4 (by omega), h4, zup_ne (by omega), zup_ne (by omega), zup_ne (by omega), zup_ne (by omega), zup_ne (by omega), a3 4 (by omega) (by omega), h2, zup_ne (by omega), zup_ne (by omega), zup_ne (by omega), zup_ne (by omega), h1, zup_self, pk_us]
  · rw [zup_ne (by omega), zup_ne (by omega), b3 15 (by omega), h4, zup_ne (by omega), zup_ne (by omega), zup_ne (by omega), zup_ne (by omega), zup_self, pk_us]
  · rw [zup_ne (by omega), zup_ne (by omega), b3 19 (by omega), h4, zup_self, pk_us]
  · rw [zup_ne (by omega), zup_ne (by omega), b3 7 (by omega), h4, zup_ne (by omega), zup_ne (by omega), zup_ne (by omega), zup_ne (by omega), zup_ne (by omega)]; exact a5
  · rw [zup_ne (by omega), zup_ne (by omega), b3 7 (by omega), h4, zup_ne (by omega), zup_ne (by omega), zup_ne (by omega), zup_ne (by omega), zup_ne (by omega)]; exact a6
  · rw [zup_self, pk_us]
  · simp [zup_ap]
  · rw [zup_ne (by omega), zup_ne (by omega), b3 a (by omega), h4, zup_ne (by omega), zup_ne (by omega), zup_ne (by omega), zup_ne (by omega), zup_ne (by omega), a3 a (by omega) (by omega), h2, zup_ne (by omega), zup_ne (by omega), zup_ne (by omega), zup_ne (by omega), h1, zup_ne (by omega)]
theorem Cz_0 {M0 : zMem} {tx : Nat → Nat} {p o g : Nat} {B : Nat → T} (h1 : ∀ i, i < 150 → M0 12 i = -1 ∧ M0 21 i = 0) (h2 : ∀ p, p < 4 → M0 8 p = 0) (h3 : M0 4 2 = 0 ∧ M0 15 3 = 0 ∧ M0 19 5 = -1 ∧ M0 7 8 = 0 ∧ M0 7 9 = -4) : Cz M0 tx 0 (z0 p o g B) := by
  obtain ⟨a1, a2, a3, a4, a5⟩ := h3
  refine Cz_h (by show 0 ≤ 8; omega) (zNil_h (by show 0 ≤ 9; omega)) ⟨(0, M0 5, M0 6), M0 21, (M0 12, M0 13), M0 7 8, 0, ⟨⟨a2, by simp, trivial⟩, ⟨a1, by show 0 ≤ 300; omega, rfl, rfl⟩, trivial, rfl, ⟨rfl, rfl⟩, rfl⟩, by show 0 ≤ 0; omega, fun i _ q => ⟨(h1 i q).2, (h1 i q).1⟩, ⟨fun q hq => ?_, ?_, ?_⟩, ⟨fun q hq h6 => ?_, Fo_nil, ?_, fun d hd => ?_⟩, ⟨Nat.le_refl _, fun i q1 q2 => by omega⟩, fun _ => rfl, fun q => absurd q (show ¬ (0 : Nat) = 1 by decide), fun q => absurd q (show ¬ 2 ≤ 0 by omega)⟩
  · show (sJ0 p o g 0 q ≤ 1 ∧ (sJ0 p o g 0 q = 0 → sJ0 p o g 1 q = 0)) ∧ M0 8 q = nI (sJ0 p o g 0 q) ∧ (sJ0 p o g 0 q = 1 → _)
    have e0 : sJ0 p o g 0 q = 0 := by simp [sJ0]
    rw [e0]
    exact ⟨⟨by omega, fun _ => by simp [sJ0]⟩, h2 q hq, fun w => by omega⟩
  · show M0 7 9 = (if sJ0 p o g 4 4 = 0 then -4 else nI (sJ0 p o g 4 4 - 1))
    have e0 : sJ0 p o g 4 4 = 0 := by simp [sJ0]
    rw [e0, if_pos rfl]; exact a5
  · show sJ0 p o g 4 4 ≤ 0
    simp [sJ0]
  · have : sJ0 p o g 6 q = 1 := h6
    simp [sJ0] at this
  · refine CaH_iff CaH_nil (fun q x => ?_)
    constructor
    · rintro ⟨d, hd, -⟩
      have : d < sJ0 p o g 4 3 := hd
      simp [sJ0] at this
    · exact fun z => z.elim
  · have : d < sJ0 p o g 4 3 := hd
    simp [sJ0] at this
/-! faults -/
def bdC (J : zJ) (q c : Nat) : Prop := ¬ (J 0 (q % 4) = 1 ∧ nI (J 1 (q % 4)) = nI c)
/-- v is the first fault: of the heads, and of the calls H -/
def FS (J : zJ) (H : Nat → Nat → Prop) (v : Int32) : Prop :=
  (v = -4 ∧ J 4 4 = 0 ∧ ∀ q c, H q c → ¬ bdC J q c) ∨ ∃ m, v = nI m ∧ m < 1000 ∧ (m + 1 = J 4 4 ∨ ∃ q c, H q c ∧ bdC J q c ∧ q / 4 = m) ∧ (J 4 4 ≠ 0 → m + 1 ≤ J 4 4) ∧ ∀ q c, H q c → bdC J q c → m ≤ q / 4
theorem FS_uniq {J : zJ} {H : Nat → Nat → Prop} {v w : Int32} (h : FS J H v) (g : FS J H w) : v = w := by
  rcases h with ⟨a1, a2, a3⟩ | ⟨m, a1, a0, a2, a3, a4⟩
  · rcases g with ⟨b1, b2, b3⟩ | ⟨n, b1, b0, b2, b3, b4⟩
    · rw [a1, b1]
    · rcases b2 with b2 | ⟨q, c, b2, b5, -⟩
      · omega
      · exact absurd b5 (a3 q c b2)
  · rcases g with ⟨b1, b2, b3⟩ | ⟨n, b1, b0, b2, b3, b4⟩
    · rcases a2 with a2 | ⟨q, c, a2, a5, -⟩
      · omega
      · exact absurd a5 (b3 q c a2)
    · have : m = n := by
        have h1 : m ≤ n := by
          rcases b2 with b2 | ⟨q, c, b2, b5, b6⟩
          · have := a3 (by omega); omega
          · have := a4 q c b2 b5; omega
        have h2 : n ≤ m := by
          rcases a2 with a2 | ⟨q, c, a2, a5, a6⟩
          · have := b3 (by omega); omega
          · have := b4 q c a2 a5; omega
        omega
      rw [a1, b1, this]
theorem FS_iff {J : zJ} {H H' : Nat → Nat → Prop} {v : Int32} (hh : ∀ q c, bdC J q c → (H q c ↔ H' q c)) (h : FS J H v) : FS J H' v := by
  rcases h with ⟨a1, a2, a3⟩ | ⟨m, a1, a0, a2, a3, a4⟩
  · exact Or.inl ⟨a1, a2, fun q c h hb => a3 q c ((hh q c hb).mpr h) hb⟩
  · refine Or.inr ⟨m, a1, a0, ?_, a3, fun q c h hb => a4 q c ((hh q c hb).mpr h) hb⟩
    rcases a2 with a2 | ⟨q, c, a2, a5, a6⟩
    · exact Or.inl a2
    · exact Or.inr ⟨q, c, (hh q c a5).mp a2, a5, a6⟩
/-- one more bad call, at i -/
theorem FS_add {J : zJ} {H H' : Nat → Nat → Prop} {v : Int32} {i q0 c0 : Nat} (hi : i < 1000) (h : FS J H v) (h0 : bdC J q0 c0 ∧ q0 / 4 = i ∧ H' q0 c0) (hh : ∀ q c, bdC J q c → (H' q c ↔ H q c ∨ (H' q c ∧ q / 4 = i))) (hs : ∀ q c, H q c → H' q c) : FS J H' (if v = -4 ∨ nI i < v then nI i else v) := by
  rcases h with ⟨a1, a2, a3⟩ | ⟨m, a1, a0, a2, a3, a4⟩
  · rw [if_pos (Or.inl a1)]
    refine Or.inr ⟨i, rfl, hi, Or.inr ⟨q0, c0, h0.2.2, h0.1, h0.2.1⟩, fun z => absurd a2 z, fun q c h hb => ?_⟩
    rcases (hh q c hb).mp h with z | z
    · exact absurd hb (a3 q c z)
    · omega
  · have ne : ¬ v = -4 := by
      rw [a1]
      intro z
      have := congrArg Int32.toInt z
      rw [nI_toInt (by omega)] at this
      have : (-4 : Int32).toInt = -4 := by decide
      omega
    by_cases c : i < m
    · rw [if_pos (Or.inr (by rw [a1]; exact nI_lt c (by omega)))]
      refine Or.inr ⟨i, rfl, hi, Or.inr ⟨q0, c0, h0.2.2, h0.1, h0.2.1⟩, fun z => by have := a3 z; omega, fun q x h hb => ?_⟩
      rcases (hh q x hb).mp h with z | z
      · have := a4 q x z hb; omega
      · omega
    · rw [if_neg (fun z => z.elim ne (by rw [a1]; exact nI_nlt (by omega) (by omega)))]
      refine Or.inr ⟨m, a1, a0, ?_, a3, fun q x h hb => ?_⟩
      · rcases a2 with a2 | ⟨q, x, a2, a5, a6⟩
        · exact Or.inl a2
        · exact Or.inr ⟨q, x, hs q x a2, a5, a6⟩
      · rcases (hh q x hb).mp h with z | z
        · exact a4 q x z hb
        · omega
theorem cNoteF2 (M : zMem) (i : Nat) : F_Proc_noteFault M (nI i) = some (zup M 7 9 (if M 7 9 = -4 ∨ nI i < M 7 9 then nI i else M 7 9)) := by
  have hs : zup M 7 9 (M 7 9) = M := by
    funext a j
    rw [zup_ap]
    by_cases c : a = 7
    · rw [if_pos c, c]
      by_cases c2 : j = 9
      · rw [if_pos c2, c2]
      · rw [if_neg c2]
    · rw [if_neg c]
  unfold F_Proc_noteFault F_Proc_noteFault_p8
  by_cases c : M 7 9 = -4
  · rw [if_pos c, if_pos (Or.inl c), zset_eq]
  · rw [if_neg c]
    by_cases c2 : M 7 9 ≤ nI i
    · rw [if_pos c2, if_neg (fun z => z.elim c (fun y => i32_lt_nle y c2)), hs]
    · rw [if_neg c2, if_pos (Or.inr (i32_nle c2)), zset_eq]
section FF
variable {J : zJ} {H : Nat → Nat → Prop} {len : Nat}
theorem cFaults {N : Nat} (hl : len ≤ 150) (ca ac : Nat → Int32) (hH : CaH ca ac H 0 len) : ∀ (k i n : Nat) (M : zMem), i + k = len → k < n → M 12 = ca → M 13 = ac → (∀ p, p < 4 → J 0 p ≤ 1 ∧ M 8 p = nI (J 0 p) ∧ (J 0 p = 1 → M 10 p = nI (J 1 p))) → FS J (fun q c => H q c ∧ q / 4 < i) (M 7 9) → ∃ v, F_Proc_findFault_p2 N n M (nI len) (nI i) = some (v, zup M 7 9 v) ∧ FS J H v
  | 0, i, n, M, h, hn, h12, h13, h8, hF => by
    obtain ⟨n, rfl⟩ : ∃ n', n = n' + 1 := ⟨n - 1, by omega⟩
    have hi : i = len := by omega
    subst hi
    have hs : zup M 7 9 (M 7 9) = M := by
      funext a j
      rw [zup_ap]
      by_cases c : a = 7
      · rw [if_pos c, c]
        by_cases c2 : j = 9
        · rw [if_pos c2, c2]
        · rw [if_neg c2]
      · rw [if_neg c]
    refine ⟨M 7 9, ?_, FS_iff (fun q c _ => ⟨fun z => z.1, fun z => ⟨z, (hH.2.1 q c z).2.1⟩⟩) hF⟩
    rw [F_Proc_findFault_p2, if_pos (nI_le (Nat.le_refl _) (by omega)), hs]
    rfl
  | k + 1, i, n, M, h, hn, h12, h13, h8, hF => by
    obtain ⟨n, rfl⟩ : ∃ n', n = n' + 1 := ⟨n - 1, by omega⟩
    rw [F_Proc_findFault_p2, if_neg (nI_ge (by omega) (by omega)), if_neg (show ¬ (150 : Int32) ≤ nI i from nI_ge (b := 150) (by omega) (by omega)), zix_nI _ (by omega) (by omega), zix_nI _ (by omega) (by omega), zix_nI _ (by omega) (by omega), nI_clamp (by omega), h12, h13]
    unfold F_Proc_findFault_p28
    rw [nI_1]
    have step : ∀ {M' : zMem}, (∀ a j, ¬ (a = 7 ∧ j = 9) → M' a j = M a j) → FS J (fun q c => H q c ∧ q / 4 < i + 1) (M' 7 9) → ∃ v, F_Proc_findFault_p2 N n M' (nI len) (nI (i + 1)) = some (v, zup M 7 9 v) ∧ FS J H v := by
      intro M' hM' hF'
      have e : ∀ a, a ≠ 7 → M' a = M a := fun a q => by funext j; exact hM' a j (fun z => q z.1)
      obtain ⟨v, e1, e2⟩ := cFaults (N := N) hl ca ac hH k (i + 1) n M' (by omega) (by omega) ((e 12 (by omega)).trans h12) ((e 13 (by omega)).trans h13) (fun p hp => by rw [e 8 (by omega), e 10 (by omega)]; exact h8 p hp) hF'
      refine ⟨v, ?_, e2⟩
      rw [e1]
      congr 2
      funext a j
      simp only [zup_ap]
      by_cases c : a = 7
      · rw [if_pos c, if_pos c]
        by_cases c2 : j = 9
        · rw [if_pos c2, if_pos c2]
        · rw [if_neg c2, if_neg c2]; exact hM' a j (fun z => c2 z.2)
      · rw [if_neg c, if_neg c]; exact hM' a j (fun z => c z.1)
    by_cases c1 : ca i = -1
    · rw [if_pos c1]
      refine step (fun _ _ _ => rfl) (FS_iff (fun q c _ => ⟨fun z => ⟨z.1, by omega⟩, fun z => ⟨z.1, ?_⟩⟩) hF)
      by_cases y : q / 4 = i
      · have := (hH.2.1 q c z.1).2.2.1
        rw [y, c1] at this
        have hh := congrArg Int32.toInt this
        rw [nI_toInt (by omega)] at hh
        have : (-1 : Int32).toInt = -1 := by decide
        omega
      · omega
    · rw [if_neg c1]
      obtain ⟨q0, c0, hq0, hqi⟩ : ∃ q c, H q c ∧ q / 4 = i := by
        rcases hH.2.2 i (by omega) (by omega) with z | z
        · exact absurd z c1
        · exact z
      obtain ⟨-, -, e1, e2⟩ := hH.2.1 q0 c0 hq0
      rw [hqi] at e1 e2
      have same : ∀ q c, H q c → q / 4 = i → (bdC J q c ↔ bdC J q0 c0) := by
        intro q c hq hi
        obtain ⟨-, -, e3, e4⟩ := hH.2.1 q c hq
        rw [hi] at e3 e4
        have : q % 4 = q0 % 4 := nI_inj (by omega) (by omega) (e3.symm.trans e1)
        unfold bdC
        rw [this, e4.symm.trans e2]
      obtain ⟨f1, f2, f3⟩ := h8 (q0 % 4) (by omega)
      have hfit : F_Proc_fits M (ca i) (ac i) = some ((if J 0 (q0 % 4) = 1 ∧ nI (J 1 (q0 % 4)) = nI c0 then 1 else 0), M) := by
        unfold F_Proc_fits
        rw [e1, e2, if_neg (nI_pos (by omega)), if_neg (show ¬ (4 : Int32) ≤ nI (q0 % 4) from nI_ge (b := 4) (by omega) (by omega)), zix_nI _ (by omega) (by omega), zix_nI _ (by omega) (by omega), nI_clamp (by omega), f2]
        by_cases z : J 0 (q0 % 4) = 1
        · rw [z, if_neg (show ¬ nI 1 = 0 by decide), f3 z]
          by_cases z2 : nI (J 1 (q0 % 4)) = nI c0
          · rw [if_pos z2, if_pos ⟨rfl, z2⟩]
          · rw [if_neg z2, if_neg (fun y => z2 y.2)]
        · rw [if_pos (by rw [show J 0 (q0 % 4) = 0 by omega]; rfl), if_neg (fun y => z y.1)]
      rw [hfit, zbi_some]
      by_cases hb : bdC J q0 c0
      · rw [if_neg hb, if_pos rfl, cNoteF2, zbv_some]
        refine step (fun a j z => ?_) ?_
        · rw [zup_ap]
          by_cases c : a = 7
          · rw [if_pos c, if_neg (fun y => z ⟨c, y⟩)]
          · rw [if_neg c]
        · rw [zup_self, pk_us]
          refine FS_add (i := i) (q0 := q0) (c0 := c0) (by omega) hF ⟨hb, hqi, hq0, by omega⟩ (fun q c _ => ?_) (fun q c z => ⟨z.1, by omega⟩)
          constructor
          · rintro ⟨z1, z2⟩
            by_cases y : q / 4 = i
            · exact Or.inr ⟨⟨z1, z2⟩, y⟩
            · exact Or.inl ⟨z1, by omega⟩
          · rintro (⟨z1, z2⟩ | z)
            · exact ⟨z1, by omega⟩
            · exact z.1
      · have hb' : J 0 (q0 % 4) = 1 ∧ nI (J 1 (q0 % 4)) = nI c0 := Decidable.byContradiction fun z => hb z
        rw [if_pos hb', if_neg (by decide)]
        refine step (fun _ _ _ => rfl) (FS_iff (fun q c hbq => ⟨fun z => ⟨z.1, by omega⟩, fun z => ⟨z.1, ?_⟩⟩) hF)
        by_cases y : q / 4 = i
        · exact absurd ((same q c z.1 y).mp hbq) hb
        · omega
end FF
