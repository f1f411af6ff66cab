/-! THE REFERENCE READS A TEXT: its loop, its begin -/
/-- k steps of the list machine, each with what it needs -/
def sReach (ts : List Nat) : Nat → Nat → zS → Nat → zS → Prop
  | 0, pl, S, pl', S' => pl = pl' ∧ S = S'
  | k + 1, pl, S, pl', S' => ∃ x l P J B S1 a, S = (x :: l, P, J, B) ∧ l.length + 10 ≤ 1600 ∧ sPre (tok ts pl) pl x P J ∧ sStep (tok ts pl) pl S = some (S1, a) ∧ sReach ts k (if a then pl + 1 else pl) S1 pl' S'
theorem sReach_trans {ts : List Nat} : ∀ {k m pl pl1 pl2 : Nat} {S S1 S2 : zS}, sReach ts k pl S pl1 S1 → sReach ts m pl1 S1 pl2 S2 → sReach ts (k + m) pl S pl2 S2
  | 0, m, pl, pl1, pl2, S, S1, S2, h1, h2 => by
    obtain ⟨rfl, rfl⟩ := h1
    rw [Nat.zero_add]
    exact h2
  | k + 1, m, pl, pl1, pl2, S, S1, S2, h1, h2 => by
    obtain ⟨x, l, P, J, B, S3, a, e1, e2, e3, e4, h3⟩ := h1
    rw [show k + 1 + m = (k + m) + 1 by omega]
    exact ⟨x, l, P, J, B, S3, a, e1, e2, e3, e4, sReach_trans h3 h2⟩
theorem sReach_one {ts : List Nat} {pl x : Nat} {l : List Nat} {P : List T} {J : zJ} {B : Nat → T} {S1 : zS} {a : Bool} (h1 : l.length + 10 ≤ 1600) (h2 : sPre (tok ts pl) pl x P J) (h3 : sStep (tok ts pl) pl (x :: l, P, J, B) = some (S1, a)) : sReach ts 1 pl (x :: l, P, J, B) (if a then pl + 1 else pl) S1 := ⟨x, l, P, J, B, S1, a, rfl, h1, h2, h3, rfl, rfl⟩
theorem rReach {ts : List Nat} : ∀ {k pl pl' : Nat} {S S' : zS} {M : zMem} {base : Nat}, RP M ts pl S base → sReach ts k pl S pl' S' → ∃ M' base', RP M' ts pl' S' base' ∧ ∀ N n, F_R_readText_p41 N (n + k) M = F_R_readText_p41 N n M'
  | 0, pl, pl', S, S', M, base, h, hr => by
    obtain ⟨rfl, rfl⟩ := hr
    exact ⟨M, base, h, fun N n => rfl⟩
  | k + 1, pl, pl', S, S', M, base, h, hr => by
    obtain ⟨x, l, P, J, B, S1, a, e1, e2, e3, e4, h3⟩ := hr
    subst e1
    have hs := rStep h e2 e3
    rw [e4] at hs
    obtain ⟨M1, b1, q1, q2⟩ := hs
    obtain ⟨M', b', r1, r2⟩ := rReach q2 h3
    refine ⟨M', b', r1, fun N n => ?_⟩
    have h5 : M 34 5 = nI (l.length + 1) := h.2.2.2.2.1
    have h7 : M 34 7 = 0 := h.2.2.2.1
    rw [show n + (k + 1) = (n + k) + 1 by omega]
    rw [F_R_readText_p41]
    rw [h5, if_neg (show ¬ nI (l.length + 1) ≤ 0 from nI_nle (by omega) (by omega)), h7, if_pos rfl, q1, zbv_some]
    exact r2 N n
/-- how the reading ends -/
theorem rReadDone {ts : List Nat} {pl base : Nat} {P : List T} {J : zJ} {B : Nat → T} {M : zMem} (h : RP M ts pl ([], P, J, B) base) (N n : Nat) : F_R_readText_p41 N (n + 1) M = some (if pl < ts.length then nI pl else -4, M) := by
  have h5 : M 34 5 = nI 0 := h.2.2.2.2.1
  have h7 : M 34 7 = 0 := h.2.2.2.1
  have h6 : M 34 6 = nI pl := h.2.1
  have h1 := h.1.1
  have h15 := h.1.2.1
  have hle : pl ≤ ts.length := h.2.2.1
  rw [F_R_readText_p41, h5, if_pos (by decide)]
  unfold F_R_readText_p50 F_R_readText_p58
  rw [h7, if_pos rfl, h1, h6]
  by_cases c : pl < ts.length
  · rw [if_neg (nI_ge c (by omega)), if_pos c]
  · rw [if_pos (nI_le (by omega) (by omega)), if_neg c]
theorem rReadFail {ts : List Nat} {pl base x : Nat} {l : List Nat} {P : List T} {J : zJ} {B : Nat → T} {M : zMem} (h : RP M ts pl (x :: l, P, J, B) base) (hl : l.length + 10 ≤ 1600) (hp : sPre (tok ts pl) pl x P J) (hs : sStep (tok ts pl) pl (x :: l, P, J, B) = none) : ∃ M', rTx M' ts ∧ rG M' ∧ ∀ N n, F_R_readText_p41 N (n + 2) M = some (nI pl, M') := by
  have hd := rStep h hl hp
  rw [hs] at hd
  obtain ⟨M', q1, q2, q3, q4, q5⟩ := hd
  refine ⟨M', q4, q5, fun N n => ?_⟩
  have h5 : M 34 5 = nI (l.length + 1) := h.2.2.2.2.1
  have h7 : M 34 7 = 0 := h.2.2.2.1
  have p50 : F_R_readText_p50 N M' = some (nI pl, M') := by
    unfold F_R_readText_p50 F_R_readText_p58
    rw [q2, if_neg (by decide), q3]
  rw [F_R_readText_p41, h5, if_neg (show ¬ nI (l.length + 1) ≤ 0 from nI_nle (by omega) (by omega)), h7, if_pos rfl, q1, zbv_some, F_R_readText_p41, p50, q2, if_neg (show ¬ ((1 : Int32) = 0) by decide)]
  split <;> rfl
/-- the numbers at the begin of a reading: only what an earlier one left in proc, owned, again -/
def sJ0 (p o g : Nat) : zJ := fun a i => if a = 4 ∧ i = 0 then p else if a = 4 ∧ i = 1 then o else if a = 4 ∧ i = 2 then g else 0
theorem rReadInit {M : zMem} {ts : List Nat} (h : rTx M ts) {p o g : Nat} (hp : p < 4) (ho : o < 256) (hg : g ≤ 1) (h21 : M 34 21 = nI p) (h22 : M 34 22 = nI o) (h23 : M 34 23 = nI g) (B : Nat → T) : ∃ M', RP M' ts 0 ([200], [], sJ0 p o g, B) 0 ∧ ∀ N, 5 ≤ N → F_R_readText N M = F_R_readText_p41 N N M' := by
  obtain ⟨M0, hM0⟩ : ∃ M0, M0 = zup (zup (zup (zup (zup (zup M 34 6 0) 34 7 0) 34 14 0) 34 16 0) 34 28 (-4)) 34 27 0 := ⟨_, rfl⟩
  obtain ⟨M4, hM4⟩ : ∃ M4, M4 = zup (zup (zup (zup (zup (zup (zup (zup M0 46 0 (-2)) 47 0 0) 46 1 (-2)) 47 1 0) 46 2 (-2)) 47 2 0) 46 3 (-2)) 47 3 0 := ⟨_, rfl⟩
  have x5 : ∀ a j, M4 a j = if a = 34 ∧ (j = 6 ∨ j = 7 ∨ j = 14 ∨ j = 16 ∨ j = 27) then 0 else if a = 34 ∧ j = 28 then -4 else if a = 46 ∧ j < 4 then -2 else if a = 47 ∧ j < 4 then 0 else M a j := by
    intro a j
    rw [hM4, hM0]
    simp only [zup_ap]
    by_cases c34 : a = 34
    · subst c34
      by_cases e6 : j = 6
      · subst e6; simp
      · by_cases e7 : j = 7
        · subst e7; simp
        · by_cases e14 : j = 14
          · subst e14; simp
          · by_cases e16 : j = 16
            · subst e16; simp
            · by_cases e27 : j = 27
              · subst e27; simp
              · by_cases e28 : j = 28
                · subst e28; simp
                · simp [e6, e7, e14, e16, e27, e28]
    · by_cases c46 : a = 46
      · subst c46
        by_cases e : j < 4
        · rcases (show j = 0 ∨ j = 1 ∨ j = 2 ∨ j = 3 by omega) with rfl | rfl | rfl | rfl <;> simp
        · have e0 : ¬ j = 0 := by omega
          have e1 : ¬ j = 1 := by omega
          have e2 : ¬ j = 2 := by omega
          have e3 : ¬ j = 3 := by omega
          simp [e, e0, e1, e2, e3]
      · by_cases c47 : a = 47
        · subst c47
          by_cases e : j < 4
          · rcases (show j = 0 ∨ j = 1 ∨ j = 2 ∨ j = 3 by omega) with rfl | rfl | rfl | rfl <;> simp
          · have e0 : ¬ j = 0 := by omega
            have e1 : ¬ j = 1 := by omega
            have e2 : ¬ j = 2 := by omega
            have e3 : ¬ j = 3 := by omega
            simp [e, e0, e1, e2, e3]
        · simp [c34, c46, c47]
  have hfr : ∀ a, a ≠ 34 → a ≠ 46 → a ≠ 47 → M4 a = M a := fun a p1 p2 p3 => by funext j; rw [x5]; simp [p1, p2, p3]
  have h34 : ∀ j, j ≠ 6 → j ≠ 7 → j ≠ 14 → j ≠ 16 → j ≠ 27 → j ≠ 28 → M4 34 j = M 34 j := fun j p1 p2 p3 p4 p5 p6 => by rw [x5]; simp [p1, p2, p3, p4, p5, p6]
  obtain ⟨M5, hM5⟩ : ∃ M5, M5 = zup M4 34 5 0 := ⟨_, rfl⟩
  have z5 : M5 34 5 = nI ([] : List Nat).length := by rw [hM5]; simp [zup_ap]; rfl
  have zo : ∀ a j, ¬ (a = 34 ∧ j = 5) → M5 a j = M4 a j := fun a j q => by
    rw [hM5]
    simp only [zup_ap]
    by_cases c : a = 34
    · subst c
      rw [if_pos rfl, if_neg (fun e => q ⟨rfl, e⟩)]
    · rw [if_neg c]
  have hR0 : RP M5 ts 0 ([], [], sJ0 p o g, B) 0 := by
    have z : ∀ a j, ¬ (a = 34 ∧ j = 5) → M5 a j = M4 a j := zo
    refine ⟨rTx_keep (by funext i; rw [z 35 i (by omega), hfr 35 (by decide) (by decide) (by decide)]) (by rw [z 34 1 (by omega), h34 1 (by decide) (by decide) (by decide) (by decide) (by decide) (by decide)]) h, ?_, Nat.zero_le _, ?_, z5, trivial, ⟨?_, by simp, ?_, by simp [sJ0], by show 0 = sJ0 p o g 4 5; simp [sJ0]⟩, ⟨⟨?_, ?_, ?_, ?_, ?_, ?_, ?_⟩, ⟨?_, ?_, ?_⟩, fun q hq => ?_, fun d hd => ?_⟩, ⟨fun d hd => ?_, fun q hq h6 => ?_, fun h7 => ?_, fun i hi => absurd hi (Nat.not_lt_zero _)⟩⟩
    · rw [z 34 6 (by omega), x5]; simp; rfl
    · rw [z 34 7 (by omega), x5]; simp
    · rw [z 34 16 (by omega), x5]; simp; rfl
    · rw [z 34 14 (by omega), x5]; simp [sJ0]; rfl
    · rw [z 34 21 (by omega), h34 21 (by decide) (by decide) (by decide) (by decide) (by decide) (by decide)]; simp [sJ0]; exact h21
    · simp [sJ0]; exact hp
    · rw [z 34 22 (by omega), h34 22 (by decide) (by decide) (by decide) (by decide) (by decide) (by decide)]; simp [sJ0]; exact h22
    · simp [sJ0]; exact ho
    · rw [z 34 23 (by omega), h34 23 (by decide) (by decide) (by decide) (by decide) (by decide) (by decide)]; simp [sJ0]; exact h23
    · simp [sJ0]; exact hg
    · rw [z 34 27 (by omega), x5]; simp [sJ0]; rfl
    · rw [z 34 28 (by omega), x5]; simp [sJ0]
    · simp [sJ0]
    · simp [sJ0]
    · refine ⟨by simp [sJ0], fun _ => ?_, fun e => ?_, ?_, by simp [sJ0], fun e => ?_, fun i _ e => ?_, by simp [sJ0]⟩
      · rw [z 46 q (by omega), x5]; simp [hq]
      · simp [sJ0] at e
      · rw [z 47 q (by omega), x5]; simp [hq, sJ0]; rfl
      · simp [sJ0] at e
      · simp [sJ0] at e
    · simp [sJ0] at hd
    · simp [sJ0] at hd
    · simp [sJ0] at h6
    · simp [sJ0] at h7
  obtain ⟨M6, q1, q2⟩ := rTask 200 hR0.2.2.2.2.1 hR0.2.2.2.2.2.1 (by show 0 < 1600; omega)
  have q1 : F_R_task M5 200 = some M6 := q1
  refine ⟨M6, RP_push hR0 q2, fun N hN => ?_⟩
  obtain ⟨n, rfl⟩ : ∃ n, N = n + 5 := ⟨N - 5, by omega⟩
  generalize hNN : n + 5 = NN
  have loop : ∀ k i (X : zMem), i < 4 → F_R_readText_p20 NN (k + 1) X (nI i) = F_R_readText_p20 NN k (zup (zup X 46 i (-2)) 47 i 0) (nI (i + 1)) := by
    intro k i X hi
    rw [F_R_readText_p20, if_neg (show ¬ (4 : Int32) ≤ nI i from nI_ge (b := 4) hi (by omega)), zix_nI _ hi (by omega), zset_eq, zix_nI _ hi (by omega), zset_eq, nI_clamp (by omega), nI_1]
  have last : ∀ k (X : zMem), F_R_readText_p20 NN (k + 1) X (nI 4) = zbv (F_R_task (zup X 34 5 0) 200) fun M3 => F_R_readText_p41 NN NN M3 := by
    intro k X
    rw [F_R_readText_p20, if_pos (by decide), zset_eq]
  unfold F_R_readText
  simp only [zset_eq]
  rw [← hM0, show F_R_readText_p20 NN NN M0 0 = F_R_readText_p20 NN (n + 4 + 1) M0 (nI 0) from by rw [← hNN]; rfl]
  rw [loop (n + 4) 0 M0 (by omega), loop (n + 3) 1 _ (by omega), loop (n + 2) 2 _ (by omega), loop (n + 1) 3 _ (by omega), last n, ← hM4, ← hM5, q1, zbv_some]
