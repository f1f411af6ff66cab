/-! THE REFERENCE'S FAULTS: calls in its nodes -/
theorem sh_L {k m : Nat} {s : T} (h : sh (.mulL k s) m = true) : rk k ≠ 3 ∧ k ≠ 3 ∧ ∃ m', sh s m' = true := by
  simp only [sh, Bool.or_eq_true, Bool.and_eq_true, beq_iff_eq, decide_eq_true_eq] at h
  have hb : isBin k = true → 130 ≤ k := fun q => (isBin_n q).1
  refine ⟨?_, ?_, ?_⟩
  · unfold rk
    split
    · omega
    · rcases h with ((((((h | h) | h) | h) | h) | h) | h) | h
      · omega
      · have := hb h.1.2; omega
      · omega
      · omega
      · omega
      · omega
      · omega
      · omega
  · rcases h with ((((((h | h) | h) | h) | h) | h) | h) | h
    · omega
    · have := hb h.1.2; omega
    · omega
    · omega
    · omega
    · omega
    · omega
    · omega
  · rcases h with ((((((h | h) | h) | h) | h) | h) | h) | h
    · exact ⟨_, h.2⟩
    · exact ⟨_, h.2⟩
    · exact ⟨_, h.2⟩
    · exact ⟨_, h.2⟩
    · exact ⟨_, h.2⟩
    · exact ⟨_, h.2⟩
    · exact ⟨_, h.2⟩
    · exact ⟨_, h.2⟩
theorem sh_A {m : Nat} {a b : T} (h : sh (.add a b) m = true) : (∃ m', sh a m' = true) ∧ ∃ m', sh b m' = true := by
  simp only [sh, Bool.or_eq_true, Bool.and_eq_true] at h
  rcases h with (((((h | h) | h) | h) | h) | h) | h
  · exact ⟨⟨_, h.1.2⟩, ⟨_, h.2⟩⟩
  · exact ⟨⟨_, h.1.2⟩, ⟨_, h.2⟩⟩
  · exact ⟨⟨_, h.1.2⟩, ⟨_, h.2⟩⟩
  · exact ⟨⟨_, h.1.2⟩, ⟨_, h.2⟩⟩
  · exact ⟨⟨_, h.1.2⟩, ⟨_, h.2⟩⟩
  · exact ⟨⟨_, h.1.2⟩, ⟨_, h.2⟩⟩
  · exact ⟨⟨_, h.1.2⟩, ⟨_, h.2⟩⟩
def nodC (M : zMem) (i q c hi : Nat) : Prop := M 39 i = 3 ∧ M 40 i = nI (q % 4) ∧ M 43 i = nI (q / 4) ∧ ∃ s hi', c = tlen s ∧ Rep M s 1 (i + 1) hi' (M 41 i) ∧ hi' ≤ hi
/-- the calls of a tree are the call nodes of its range -/
def RC (M : zMem) (t : T) (lo hi : Nat) : Prop := (∀ i, lo ≤ i → i < hi → M 39 i = 3 → ∃ q c, hasC t q c ∧ nodC M i q c hi) ∧ ∀ q c, hasC t q c → ∃ i, lo ≤ i ∧ i < hi ∧ nodC M i q c hi
theorem nodC_le {M : zMem} {i q c hi hi' : Nat} (h : hi ≤ hi') (g : nodC M i q c hi) : nodC M i q c hi' := by
  obtain ⟨a1, a2, a3, s, h', a4, a5, a6⟩ := g
  exact ⟨a1, a2, a3, s, h', a4, a5, by omega⟩
theorem RC_cat {M : zMem} {a b : T} {lo m hi : Nat} (l1 : lo ≤ m) (l2 : m ≤ hi) (h1 : RC M a lo m) (h2 : RC M b m hi) : RC M (.add a b) lo hi := by
  refine ⟨fun i q1 q2 q3 => ?_, fun q c h => ?_⟩
  · by_cases z : i < m
    · obtain ⟨q, c, x1, x2⟩ := h1.1 i q1 z q3
      exact ⟨q, c, Or.inl x1, nodC_le l2 x2⟩
    · obtain ⟨q, c, x1, x2⟩ := h2.1 i (by omega) q2 q3
      exact ⟨q, c, Or.inr x1, x2⟩
  · rcases h with h | h
    · obtain ⟨i, x1, x2, x3⟩ := h1.2 q c h
      exact ⟨i, x1, by omega, nodC_le l2 x3⟩
    · obtain ⟨i, x1, x2, x3⟩ := h2.2 q c h
      exact ⟨i, by omega, x2, x3⟩
/-- one more node that is no call -/
theorem RC_lo {M : zMem} {t : T} {lo hi : Nat} (h : ¬ M 39 lo = 3) (g : RC M t (lo + 1) hi) : RC M t lo hi := by
  refine ⟨fun i q1 q2 q3 => ?_, fun q c z => ?_⟩
  · by_cases z : i = lo
    · subst z; exact absurd q3 h
    · exact g.1 i (by omega) q2 q3
  · obtain ⟨i, x1, x2, x3⟩ := g.2 q c z
    exact ⟨i, by omega, x2, x3⟩
theorem RC_hi {M : zMem} {t t' : T} {lo hi : Nat} (h : ¬ M 39 hi = 3) (ht : ∀ q c, hasC t' q c ↔ hasC t q c) (g : RC M t lo hi) : RC M t' lo (hi + 1) := by
  refine ⟨fun i q1 q2 q3 => ?_, fun q c z => ?_⟩
  · by_cases z : i = hi
    · subst z; exact absurd q3 h
    · obtain ⟨q, c, x1, x2⟩ := g.1 i q1 (by omega) q3
      exact ⟨q, c, (ht q c).mpr x1, nodC_le (by omega) x2⟩
  · obtain ⟨i, x1, x2, x3⟩ := g.2 q c ((ht q c).mp z)
    exact ⟨i, x1, by omega, nodC_le (by omega) x3⟩
theorem RC_none {M : zMem} {t : T} {lo : Nat} (h : ∀ q c, ¬ hasC t q c) : RC M t lo lo := ⟨fun i q1 q2 => by omega, fun q c z => absurd z (h q c)⟩
theorem RC_one {M : zMem} {t : T} {lo : Nat} (h : ∀ q c, ¬ hasC t q c) (g : ¬ M 39 lo = 3) : RC M t lo (lo + 1) := ⟨fun i q1 q2 q3 => by rw [show i = lo by omega] at q3; exact absurd q3 g, fun q c z => absurd z (h q c)⟩
theorem Rep_RC {M : zMem} : ∀ {t : T} {md lo hi : Nat} {n : Int32}, (∃ m, sh t m = true) → Rep M t md lo hi n → RC M t lo hi
  | .num k, md, lo, hi, n, _, h => by
    obtain ⟨-, rfl, -, h3, -⟩ := h
    exact RC_one (fun _ _ z => z) (by rw [h3]; decide)
  | .var x, md, lo, hi, n, _, h => by
    simp only [Rep] at h
    split at h
    · split at h
      · obtain ⟨rfl, -, h3, -⟩ := h
        exact RC_one (fun _ _ z => z) (by rw [h3]; decide)
      · obtain ⟨-, rfl, -⟩ := h
        exact RC_none (fun _ _ z => z)
    · split at h
      · obtain ⟨-, rfl, -⟩ := h
        exact RC_none (fun _ _ z => z)
      · obtain ⟨-, rfl, -, h3, -⟩ := h
        exact RC_one (fun _ _ z => z) (by rw [h3]; decide)
  | .add a b, md, lo, hi, n, ⟨m0, hs⟩, h => by
    obtain ⟨sa, sb⟩ := sh_A hs
    simp only [Rep] at h
    repeat' split at h
    · obtain ⟨m, k, h1, -, -, -, h5⟩ := h
      exact RC_cat (Rep_le h1) (Rep_le h5) (Rep_RC sa h1) (Rep_RC sb h5)
    · obtain ⟨-, g2, g3, m, k, h1, -, -, -, h5⟩ := h
      exact RC_lo (by rw [g3]; decide) (RC_cat (Rep_le h1) (Rep_le h5) (Rep_RC sa h1) (Rep_RC sb h5))
    · obtain ⟨m, h1, h5⟩ := h
      exact RC_cat (Rep_le h1) (Rep_le h5) (Rep_RC sa h1) (Rep_RC sb h5)
    · obtain ⟨m, h1, h5⟩ := h
      exact RC_cat (Rep_le h1) (Rep_le h5) (Rep_RC sa h1) (Rep_RC sb h5)
    · obtain ⟨m, h1, h5⟩ := h
      exact RC_cat (Rep_le h1) (Rep_le h5) (Rep_RC sa h1) (Rep_RC sb h5)
    · obtain ⟨m, h1, h5⟩ := h
      exact RC_cat (Rep_le h1) (Rep_le h5) (Rep_RC sa h1) (Rep_RC sb h5)
    · obtain ⟨m, h1, h5⟩ := h
      exact RC_cat (Rep_le h1) (Rep_le h5) (Rep_RC sa h1) (Rep_RC sb h5)
    · exact h.elim
  | .mulL k s, md, lo, hi, n, ⟨m0, hs⟩, h => by
    obtain ⟨r1, r2, r3⟩ := sh_L hs
    obtain ⟨h0, h1, h2, h3, h4, h5⟩ := h
    obtain ⟨hi', rfl⟩ : ∃ x, hi = x + 1 := ⟨hi - 1, by omega⟩
    rw [Nat.add_sub_cancel] at h3 h5
    have hk : rk k < 2000 := by
      have hb : isBin k = true → k < 152 := fun q => (isBin_n q).2
      simp only [sh, Bool.or_eq_true, Bool.and_eq_true, beq_iff_eq, decide_eq_true_eq] at hs
      unfold rk
      split
      · omega
      · omega
    exact RC_hi (t := s) (by rw [h3]; exact fun z => r1 (nI_inj (b := 3) (by omega) (by omega) z)) (fun _ _ => Iff.rfl) (Rep_RC r3 h5)
  | .mulR s q0, md, lo, hi, n, ⟨m0, hs⟩, h => by
    obtain ⟨h0, h1, h2, h3, h4, h5, h6⟩ := h
    have ss : ∃ m, sh s m = true := by
      simp only [sh, Bool.and_eq_true] at hs
      exact ⟨_, hs.2⟩
    have ih := Rep_RC ss h6
    have own : nodC M lo q0 (tlen s) hi := ⟨h3, h4, h5, s, hi, rfl, h6, Nat.le_refl _⟩
    refine ⟨fun i q1 q2 q3 => ?_, fun q c z => ?_⟩
    · by_cases z : i = lo
      · subst z; exact ⟨q0, tlen s, Or.inl ⟨rfl, rfl⟩, own⟩
      · obtain ⟨q, c, x1, x2⟩ := ih.1 i (by omega) q2 q3
        exact ⟨q, c, Or.inr x1, x2⟩
    · rcases z with ⟨rfl, rfl⟩ | z
      · exact ⟨lo, Nat.le_refl _, h1, own⟩
      · obtain ⟨i, x1, x2, x3⟩ := ih.2 q c z
        exact ⟨i, by omega, x2, x3⟩
theorem rArgs {N : Nat} {M : zMem} : ∀ {s : T} {lo hi : Nat} {n : Int32} (c f : Nat), hi ≤ 400 → Rep M s 1 lo hi n → tlen s < f → F_R_argumentsOf_p7 N f M (nI c) n = some (nI (c + tlen s), M)
  | .var x, lo, hi, n, c, f, h4, h, hf => by
    obtain ⟨f, rfl⟩ : ∃ f', f = f' + 1 := ⟨f - 1, by omega⟩
    simp only [Rep] at h
    have hn : n = -1 := by
      split at h
      · rw [if_neg (by omega)] at h
        exact h.2.2
      · split at h
        · omega
        · omega
    subst hn
    rw [F_R_argumentsOf_p7, if_pos (by decide)]
    rfl
  | .add a b, lo, hi, n, c, f, h4, h, hf => by
    obtain ⟨f, rfl⟩ : ∃ f', f = f' + 1 := ⟨f - 1, by omega⟩
    simp only [Rep, if_pos] at h
    obtain ⟨m, k, h1, rfl, h2, h3, h5⟩ := h
    have l2 := Rep_le h5
    rw [F_R_argumentsOf_p7, if_neg (nI_pos (by omega)), zix_nI _ (by omega) (by omega), nI_clamp (by omega), nI_1]
    simp only [tlen] at hf ⊢
    rw [rArgs (c + 1) f h4 h5 (by omega)]
    rw [show c + 1 + tlen b = c + (tlen b + 1) by omega]
  | .num k, lo, hi, n, c, f, h4, h, hf => by simp [Rep] at h
  | .mulL k a, lo, hi, n, c, f, h4, h, hf => by
    have := h.1
    omega
  | .mulR a k, lo, hi, n, c, f, h4, h, hf => by
    have := h.1
    omega
theorem tlen_le {M : zMem} : ∀ {s : T} {lo hi : Nat} {n : Int32}, Rep M s 1 lo hi n → tlen s ≤ hi - lo
  | .var x, lo, hi, n, h => Nat.zero_le _
  | .add a b, lo, hi, n, h => by
    simp only [Rep, if_pos] at h
    obtain ⟨m, k, h1, -, h2, h3, h5⟩ := h
    have := tlen_le h5
    have := Rep_le h5
    simp only [tlen]
    omega
  | .num k, lo, hi, n, h => Nat.zero_le _
  | .mulL k a, lo, hi, n, h => Nat.zero_le _
  | .mulR a k, lo, hi, n, h => Nat.zero_le _
section RFA
variable {ts : List Nat} {pl base : Nat} {J : zJ} {B : Nat → T}
theorem rFaults {N : Nat} (hN : 402 < N) {nd : Nat} (hnd : nd ≤ 400) {H : Nat → Nat → Prop} (M0 : zMem) (hH : (∀ i, i < nd → M0 39 i = 3 → ∃ q c, H q c ∧ nodC M0 i q c nd) ∧ ∀ q c, H q c → q / 4 < 150 ∧ ∃ i, i < nd ∧ nodC M0 i q c nd) (hp : ∀ p, p < 4 → J 0 p ≤ 1 ∧ (M0 46 p = -2 ↔ J 0 p = 0) ∧ M0 47 p = nI (J 1 p)) : ∀ (k i n : Nat) (M : zMem), i + k = nd → k < n → M 34 14 = nI nd → (∀ a, a ≠ 34 → M a = M0 a) → FS J (fun q c => H q c ∧ ∃ j, j < i ∧ nodC M0 j q c nd) (M 34 28) → ∃ v, F_R_findFault_p8 N n M (nI i) = some (v, zup M 34 28 v) ∧ FS J H v
  | 0, i, n, M, h, hn, h14, ho, hF => by
    obtain ⟨n, rfl⟩ : ∃ n', n = n' + 1 := ⟨n - 1, by omega⟩
    have hi : i = nd := by omega
    subst hi
    have hs : zup M 34 28 (M 34 28) = M := by
      funext a j
      rw [zup_ap]
      by_cases c : a = 34
      · rw [if_pos c, c]
        by_cases c2 : j = 28
        · rw [if_pos c2, c2]
        · rw [if_neg c2]
      · rw [if_neg c]
    refine ⟨M 34 28, ?_, FS_iff (fun q c _ => ⟨fun z => z.1, fun z => ⟨z, (hH.2 q c z).2⟩⟩) hF⟩
    rw [F_R_findFault_p8, h14, if_pos (nI_le (Nat.le_refl _) (by omega)), hs]
  | k + 1, i, n, M, h, hn, h14, ho, hF => by
    obtain ⟨n, rfl⟩ : ∃ n', n = n' + 1 := ⟨n - 1, by omega⟩
    rw [F_R_findFault_p8, h14, if_neg (nI_ge (by omega) (by omega)), zix_nI _ (by omega) (by omega), zix_nI _ (by omega) (by omega), nI_clamp (by omega)]
    have step : ∀ {M' : zMem}, (∀ a j, ¬ (a = 34 ∧ j = 28) → M' a j = M a j) → FS J (fun q c => H q c ∧ ∃ j, j < i + 1 ∧ nodC M0 j q c nd) (M' 34 28) → ∃ v, F_R_findFault_p8 N n M' (nI (i + 1)) = some (v, zup M 34 28 v) ∧ FS J H v := by
      intro M' hM' hF'
      obtain ⟨v, e1, e2⟩ := rFaults hN hnd M0 hH hp k (i + 1) n M' (by omega) (by omega) (by rw [hM' 34 14 (by omega)]; exact h14) (fun a z => by funext j; rw [hM' a j (by omega), ho a z]) hF'
      refine ⟨v, ?_, e2⟩
      rw [e1]
      congr 2
      funext a j
      simp only [zup_ap]
      by_cases c : a = 34
      · rw [if_pos c, if_pos c]
        by_cases c2 : j = 28
        · rw [if_pos c2, if_pos c2]
        · rw [if_neg c2, if_neg c2]; exact hM' a j (fun z => c2 z.2)
      · rw [if_neg c, if_neg c]; exact hM' a j (fun z => c z.1)
    have p59 : F_R_findFault_p39 N (F_R_findFault_p8 N n) M (nI i) = F_R_findFault_p8 N n (zup M 34 28 (M 34 28)) (nI (i + 1)) := by
      unfold F_R_findFault_p39 F_R_findFault_p40 F_R_findFault_p59 F_R_findFault_p61
      rw [if_pos rfl, zset_eq, nI_1]
    have same28 : ∀ a j, ¬ (a = 34 ∧ j = 28) → ∀ v, zup M 34 28 v a j = M a j := fun a j z v => by
      rw [zup_ap]
      by_cases c : a = 34
      · rw [if_pos c, if_neg (fun y => z ⟨c, y⟩)]
      · rw [if_neg c]
    have skip : FS J (fun q c => H q c ∧ ∃ j, j < i + 1 ∧ nodC M0 j q c nd) (M 34 28) → ∃ v, F_R_findFault_p39 N (F_R_findFault_p8 N n) M (nI i) = some (v, zup M 34 28 v) ∧ FS J H v := by
      intro hF'
      rw [p59]
      exact step (fun a j z => same28 a j z _) (by rw [zup_self, pk_us]; exact hF')
    have e39 : M 39 = M0 39 := ho 39 (by omega)
    by_cases c3 : M 39 i = 3
    · rw [if_pos c3]
      obtain ⟨q0, c0, hq0, hn0⟩ := hH.1 i (by omega) (by rw [← e39]; exact c3)
      obtain ⟨x1, x2, x3, s, hi', x4, x5, x6⟩ := id hn0
      have hq4 := (hH.2 q0 c0 hq0).1
      have e40 : M 40 i = nI (q0 % 4) := by rw [ho 40 (by omega)]; exact x2
      have e43 : M 43 i = nI (q0 / 4) := by rw [ho 43 (by omega)]; exact x3
      obtain ⟨f1, f2, f3⟩ := hp (q0 % 4) (by omega)
      -- all calls that this node may be
      have same : ∀ q c, H q c → nodC M0 i q c nd → q = q0 ∧ (bdC J q c ↔ bdC J q0 c0) := by
        intro q c hq hnq
        obtain ⟨y1, y2, y3, s', hi2, y4, y5, y6⟩ := hnq
        have w1 : q % 4 = q0 % 4 := nI_inj (by omega) (by omega) (y2.symm.trans x2)
        have w2 : q / 4 = q0 / 4 := nI_inj (by have := (hH.2 q c hq).1; omega) (by omega) (y3.symm.trans x3)
        have hqq : q = q0 := by omega
        refine ⟨hqq, ?_⟩
        have t1 := rArgs (N := N) 0 N (by omega) y5 (by have := tlen_le y5; omega)
        have t2 := rArgs (N := N) 0 N (by omega) x5 (by have := tlen_le x5; omega)
        rw [t1] at t2
        have : nI (0 + tlen s') = nI (0 + tlen s) := by
          have := Option.some.inj t2
          exact congrArg Prod.fst this
        rw [Nat.zero_add, Nat.zero_add] at this
        unfold bdC
        rw [hqq, y4, x4, this]
      rw [e40, zix_nI _ (by omega) (by omega), nI_clamp (by omega)]
      have Mkeep : ∀ p, M 46 p = M0 46 p ∧ M 47 p = M0 47 p := fun p => ⟨by rw [ho 46 (by omega)], by rw [ho 47 (by omega)]⟩
      have p37 : bdC J q0 c0 → ∃ v, F_R_findFault_p37 N (F_R_findFault_p8 N n) M (nI i) = some (v, zup M 34 28 v) ∧ FS J H v := by
        intro hb
        have hv : M 34 28 = -4 ∨ ∃ m, M 34 28 = nI m ∧ m < 1000 := by
          rcases hF with ⟨z, -⟩ | ⟨m, z1, z2, -⟩
          · exact Or.inl z
          · exact Or.inr ⟨m, z1, z2⟩
        have e : F_R_findFault_p37 N (F_R_findFault_p8 N n) M (nI i) = F_R_findFault_p8 N n (zup M 34 28 (if M 34 28 = -4 ∨ nI (q0 / 4) < M 34 28 then nI (q0 / 4) else M 34 28)) (nI (i + 1)) := by
          unfold F_R_findFault_p37 F_R_findFault_p40 F_R_findFault_p54 F_R_findFault_p59 F_R_findFault_p61
          rw [if_neg (by decide), zset_eq, zset_eq, zix_nI _ (by omega) (by omega), zix_nI _ (by omega) (by omega), nI_clamp (by omega), e43, nI_1]
          rcases hv with hv | ⟨m, hv, hm⟩
          · rw [hv, if_pos (by decide), if_pos (Or.inl rfl)]
          · have ne : ¬ nI m = (-4 : Int32) := by
              intro z
              have := congrArg Int32.toInt z
              rw [nI_toInt (by omega)] at this
              have : (-4 : Int32).toInt = -4 := by decide
              omega
            rw [hv, if_neg (nI_pos (by omega))]
            by_cases w : nI m ≤ nI (q0 / 4)
            · rw [if_pos w, if_neg (fun z => z.elim ne (fun y => i32_lt_nle y w))]
            · rw [if_neg w, if_pos (Or.inr (i32_nle w))]
        rw [e]
        refine step (fun a j z => same28 a j z _) ?_
        rw [zup_self, pk_us]
        refine FS_add (i := q0 / 4) (q0 := q0) (c0 := c0) (by omega) hF ⟨hb, rfl, hq0, i, by omega, hn0⟩ (fun q c _ => ?_) (fun q c z => ?_)
        · constructor
          · rintro ⟨z1, j, z2, z3⟩
            by_cases y : j = i
            · subst y
              exact Or.inr ⟨⟨z1, j, z2, z3⟩, by rw [(same q c z1 z3).1]⟩
            · exact Or.inl ⟨z1, j, by omega, z3⟩
          · rintro (⟨z1, j, z2, z3⟩ | z)
            · exact ⟨z1, j, by omega, z3⟩
            · exact z.1
        · obtain ⟨z1, j, z2, z3⟩ := z
          exact ⟨z1, j, by omega, z3⟩
      by_cases z : J 0 (q0 % 4) = 0
      · rw [(Mkeep _).1, if_pos (f2.mpr z)]
        exact p37 (fun y => by omega)
      · rw [(Mkeep _).1, if_neg (fun y => z (f2.mp y))]
        have ea : F_R_argumentsOf N M (nI i) = some (nI (tlen s), M) := by
          unfold F_R_argumentsOf
          rw [zix_nI _ (by omega) (by omega), nI_clamp (by omega)]
          have hRM : Rep M s 1 (i + 1) hi' (M 41 i) := by
            rw [ho 41 (by omega)]
            exact Rep_same (M := M0) (fun j _ _ => ⟨by rw [ho 39 (by omega)], by rw [ho 40 (by omega)], by rw [ho 41 (by omega)], by rw [ho 42 (by omega)], by rw [ho 43 (by omega)], by rw [ho 44 (by omega)]⟩) (by omega) x5
          have := rArgs (N := N) 0 N (by omega) hRM (by have := tlen_le hRM; omega)
          rw [Nat.zero_add] at this
          exact this
        rw [ea, zbi_some, zix_nI _ (by omega) (by omega), (Mkeep _).2, f3]
        by_cases y : nI (tlen s) = nI (J 1 (q0 % 4))
        · rw [if_pos y]
          have nb : ¬ bdC J q0 c0 := fun w => w ⟨by omega, by rw [x4]; exact y.symm⟩
          refine skip (FS_iff (fun q c hbq => ?_) hF)
          constructor
          · rintro ⟨z1, j, z2, z3⟩
            exact ⟨z1, j, by omega, z3⟩
          · rintro ⟨z1, j, z2, z3⟩
            by_cases y : j = i
            · subst y
              exact absurd ((same q c z1 z3).2.mp hbq) nb
            · exact ⟨z1, j, by omega, z3⟩
        · rw [if_neg y]
          exact p37 (fun w => y (by rw [← x4]; exact w.2.symm))
    · rw [if_neg c3]
      refine skip (FS_iff (fun q c hbq => ?_) hF)
      constructor
      · rintro ⟨z1, j, z2, z3⟩
        exact ⟨z1, j, by omega, z3⟩
      · rintro ⟨z1, j, z2, z3⟩
        by_cases y : j = i
        · subst y
          exact absurd (by rw [e39]; exact z3.1) c3
        · exact ⟨z1, j, by omega, z3⟩
end RFA
