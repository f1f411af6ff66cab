/-! Z keeps its shape and its bounds -/
theorem sh_snoc2 : ∀ {l s : T}, sh l 2 = true → sh s 1 = true → sh (snoc l s) 2 = true
  | .add a r, s, h, hs => by
    simp [sh] at h
    simp [snoc, sh, h.1, sh_snoc2 h.2 hs]
  | .var x, s, h, hs => by
    simp [sh, snoc, hs]
  | .num k, s, h, hs => by simp [sh] at h
  | .mulL k a, s, h, hs => by simp [sh] at h
  | .mulR a k, s, h, hs => by simp [sh] at h
theorem sh_snoc4 : ∀ {l s : T}, sh l 4 = true → sh s 0 = true → sh (snoc l s) 4 = true
  | .add a r, s, h, hs => by
    simp [sh] at h
    simp [snoc, sh, h.1, sh_snoc4 h.2 hs]
  | .var x, s, h, hs => by
    simp [sh, snoc, hs]
  | .num k, s, h, hs => by simp [sh] at h
  | .mulL k a, s, h, hs => by simp [sh] at h
  | .mulR a k, s, h, hs => by simp [sh] at h
theorem sh_isE {t : T} (h : sh t 0 = true) : isE t = true := by
  cases t with
  | var x =>
    simp [sh] at h
    have h : (x : Nat) < 8 := h
    show decide ((x : Nat) < 98) = true
    exact decide_eq_true (Nat.lt_of_lt_of_le h (by decide))
  | add a b => simp [sh] at h
  | _ => rfl
theorem sh1_isE {t : T} (h : sh t 1 = true) : isE t = true := by
  cases t with
  | var x => simp [sh] at h
  | add a b => simp [sh] at h
  | num k => simp [sh] at h
  | _ => rfl
theorem sh_isL {t : T} (h : sh t 2 = true) : isL t = true := by
  cases t with
  | var x =>
    simp [sh] at h
    simp [isL, h]
  | add a b => rfl
  | num k => simp [sh] at h
  | mulL k a => simp [sh] at h
  | mulR a k => simp [sh] at h
theorem sh_mkIf : ∀ {ts : List T} {e : T}, wfI ts = true → sh e 3 = true → sh (mkIf ts e) 3 = true ∧ (ts ≠ [] → sh (mkIf ts e) 1 = true)
  | [], e, _, h => ⟨h, fun q => absurd rfl q⟩
  | [x], e, h, _ => by simp [wfI] at h
  | l :: c :: r, e, h, he => by
    simp [wfI] at h
    have h3 : sh (.mulL 27 (.add c (.add l e))) 3 = true := by simp [sh, h.1, he]
    have h1 : sh (.mulL 27 (.add c (.add l e))) 1 = true := by simp [sh, h.1, he]
    have ih := sh_mkIf h.2 h3
    refine ⟨ih.1, fun _ => ?_⟩
    show sh (mkIf r _) 1 = true
    by_cases hr : r = []
    · subst hr
      exact h1
    · exact ih.2 hr
theorem sh_OpF {n : Nat} {ts : List T} {e : T} (h : wfF 1 n ts) (he : sh e 0 = true) : sh (zOpF n ts e) 0 = true := by
  simp [wfF] at h
  rcases h with ⟨h | h, rfl⟩ | ⟨h, x, rfl, hx⟩
  · subst h; simp [zOpF, sh, he]
  · subst h; simp [zOpF, sh, he]
  · have n9 : ¬ n = 9 := by intro q; subst q; simp [isBin, isRel, isSimp, isTerm] at h
    have n8 : ¬ n = 8 := by intro q; subst q; simp [isBin, isRel, isSimp, isTerm] at h
    simp [zOpF, n9, n8, sh, he, hx, h]
theorem wfz_ne {fs : List zF} {b : Bool} (h : wfz fs b) : fs ≠ [] := by
  intro q
  subst q
  cases b <;> exact h
theorem bot_cons {k n : Nat} {ts : List T} {r : List zF} {b : Bool} (h : wfz r b) : bot ((k, n, ts) :: r) = bot r := by
  simp [bot, wfz_ne h]
theorem ndn_0 (J : zJ) : ndn J 0 = J := nd_same
theorem ndn_ndn (J : zJ) (a b : Nat) : ndn (ndn J a) b = ndn J (a + b) := by
  funext x i
  simp only [ndn, jup]
  by_cases c : x = 4 ∧ i = 5
  · simp [c]; omega
  · simp [c]
theorem ndn_45 (J : zJ) (n : Nat) : ndn J n 4 5 = J 4 5 + n := by simp [ndn, jup]
theorem ndn_o (J : zJ) (n a i : Nat) (h : ¬ (a = 4 ∧ i = 5)) : ndn J n a i = J a i := by simp [ndn, jup, h]
theorem zOps_stop {m : Nat} : ∀ {fs : List zF} {e : T}, tl fs ≤ m → zOps m fs e = (fs, e)
  | [], e, _ => rfl
  | (k, n, ts) :: r, e, h => by
    simp only [tl] at h
    simp only [zOps]
    rw [if_neg]
    intro q
    rw [if_pos q.1] at h
    omega
theorem zOps_tl (m : Nat) : ∀ (fs : List zF) (e : T), tl (zOps m fs e).1 ≤ m
  | [], e => Nat.zero_le _
  | (k, n, ts) :: r, e => by
    simp only [zOps]
    by_cases c : k = 1 ∧ m ≤ zLev n
    · rw [if_pos c]; exact zOps_tl m r _
    · rw [if_neg c]
      simp only [tl]
      by_cases c1 : k = 1
      · rw [if_pos c1]
        have : ¬ m ≤ zLev n := fun q => c ⟨c1, q⟩
        omega
      · rw [if_neg c1]; omega
theorem zOps_len (m : Nat) : ∀ (fs : List zF) (e : T), (zOps m fs e).1.length ≤ fs.length
  | [], e => Nat.le_refl _
  | (k, n, ts) :: r, e => by
    simp only [zOps]
    have := zOps_len m r (zOpF n ts e)
    by_cases c : k = 1 ∧ m ≤ zLev n
    · rw [if_pos c]; simp only [List.length_cons]; omega
    · rw [if_neg c]; exact Nat.le_refl _
theorem zOps_zOps {m m' : Nat} (hm : m ≤ m') : ∀ (fs : List zF) (e : T), zOps m (zOps m' fs e).1 (zOps m' fs e).2 = zOps m fs e
  | [], e => rfl
  | (k, n, ts) :: r, e => by
    by_cases c : k = 1 ∧ m' ≤ zLev n
    · have e1 : zOps m' ((k, n, ts) :: r) e = zOps m' r (zOpF n ts e) := by simp only [zOps]; rw [if_pos c]
      have e2 : zOps m ((k, n, ts) :: r) e = zOps m r (zOpF n ts e) := by simp only [zOps]; rw [if_pos ⟨c.1, by omega⟩]
      rw [e1, e2]
      exact zOps_zOps hm r _
    · have e1 : zOps m' ((k, n, ts) :: r) e = ((k, n, ts) :: r, e) := by simp only [zOps]; rw [if_neg c]
      rw [e1]
theorem zOps_ok (m : Nat) : ∀ {fs : List zF} {e : T}, wfz fs true → sh e 0 = true → wfz (zOps m fs e).1 true ∧ sh (zOps m fs e).2 0 = true ∧ bot (zOps m fs e).1 = bot fs ∧ dF (zOps m fs e).1 + (fs.length - (zOps m fs e).1.length) ≤ dF fs ∧ (flat (zOps m fs e).1).length ≤ (flat fs).length
  | [], e, h, _ => h.elim
  | (k, n, ts) :: r, e, h, he => by
    by_cases c : k = 1 ∧ m ≤ zLev n
    · have e2 : zOps m ((k, n, ts) :: r) e = zOps m r (zOpF n ts e) := by simp only [zOps]; rw [if_pos c]
      obtain ⟨c1, -⟩ := c
      subst c1
      obtain ⟨h1, h2⟩ := h
      have h2 : wfz r true := by
        rcases h2 with h2 | h2 | h2
        · exact h2.2.1
        · omega
        · omega
      have ih := zOps_ok m (e := zOpF n ts e) h2 (sh_OpF h1 he)
      have l := zOps_len m r (zOpF n ts e)
      rw [e2]
      refine ⟨ih.1, ih.2.1, ih.2.2.1.trans (bot_cons h2).symm, ?_, ?_⟩
      · simp only [dF, List.length_cons]
        omega
      · simp only [flat, List.length_append]
        omega
    · have e1 : zOps m ((k, n, ts) :: r) e = ((k, n, ts) :: r, e) := by simp only [zOps]; rw [if_neg c]
      rw [e1]
      exact ⟨h, he, rfl, by simp, Nat.le_refl _⟩
/-- a statement comes to the list that is being made -/
theorem addSt_ok {fs : List zF} {s : T} (h : wfz fs false) (hs : sh s 1 = true) : ∃ k n l ts r, fs = (k, n, l :: ts) :: r ∧ addSt fs s = (k, n, snoc l s :: ts) :: r ∧ sh l 2 = true ∧ wfz (addSt fs s) false := by
  cases fs with
  | nil => exact h.elim
  | cons f r =>
    obtain ⟨k, n, ts⟩ := f
    obtain ⟨h1, h2⟩ := h
    have key : ∃ l ts', ts = l :: ts' ∧ sh l 2 = true ∧ wfF k n (snoc l s :: ts') := by
      rcases (show k = 9 ∨ k = 10 ∨ k = 12 ∨ k = 13 ∨ k = 14 ∨ k = 15 by omega) with rfl | rfl | rfl | rfl | rfl | rfl
      · simp [wfF] at h1
        obtain ⟨h0, l, c, rfl, h3, h4⟩ := h1
        exact ⟨l, [c], rfl, h3, by simp [wfF, sh_snoc2 h3 hs, h4, h0]⟩
      · simp [wfF] at h1
        obtain ⟨h0, l, rfl, h3⟩ := h1
        exact ⟨l, [], rfl, h3, by simp [wfF, sh_snoc2 h3 hs, h0]⟩
      · simp [wfF] at h1
        obtain ⟨h0, l, c, r', rfl, h3, h4, h5⟩ := h1
        exact ⟨l, c :: r', rfl, h3, by simp [wfF, sh_snoc2 h3 hs, h4, h5, h0]⟩
      · simp [wfF] at h1
        obtain ⟨h0, l, r', rfl, h3, h4, h5⟩ := h1
        exact ⟨l, r', rfl, h3, by simp [wfF, sh_snoc2 h3 hs, h4, h5, h0]⟩
      · simp [wfF] at h1
        obtain ⟨h0, l, rfl, h3⟩ := h1
        exact ⟨l, [], rfl, h3, by simp [wfF, sh_snoc2 h3 hs, h0]⟩
      · simp [wfF] at h1
        obtain ⟨h0, l, rfl, h3⟩ := h1
        exact ⟨l, [], rfl, h3, by simp [wfF, sh_snoc2 h3 hs, h0]⟩
    obtain ⟨l, ts', rfl, h3, h4⟩ := key
    exact ⟨k, n, l, ts', r, rfl, rfl, h3, h4, h2⟩
theorem addSt_num {fs : List zF} {s : T} : (addSt fs s).length = fs.length ∧ (flat (addSt fs s)).length = (flat fs).length ∧ dF (addSt fs s) = dF fs ∧ bot (addSt fs s) = bot fs := by
  cases fs with
  | nil => exact ⟨rfl, rfl, rfl, rfl⟩
  | cons f r =>
    obtain ⟨k, n, ts⟩ := f
    cases ts with
    | nil => exact ⟨rfl, rfl, rfl, rfl⟩
    | cons l ts => exact ⟨rfl, by simp [addSt, flat], by simp [addSt, dF], by simp [addSt, bot]⟩
theorem wfI_even : ∀ {ts : List T}, wfI ts = true → ts.length % 2 = 0
  | [], _ => rfl
  | [x], h => by simp [wfI] at h
  | l :: c :: r, h => by
    simp [wfI] at h
    have := wfI_even h.2
    simp only [List.length_cons]
    omega
/-- the numbers that the frames' bounds need -/
def zB (pl n : Nat) (fs : List zF) (J : zJ) : Prop := fs.length ≤ pl ∧ (flat fs).length + n ≤ pl ∧ J 4 5 + dF fs ≤ 2 * pl ∧ 6 * J 4 3 + (if bot fs = 14 then 5 else 0) ≤ pl ∧ (∀ p, J 1 p ≤ pl - 1) ∧ (bot fs = 14 → J 4 3 < J 9 0 ∧ J 0 (J 4 0) = 1)
theorem zBd_of {pl nx : Nat} {cs : List T} {fs : List zF} {J : zJ} {B : Nat → T} (hn : 9 ≤ nx) (h : zB pl cs.length fs J) : zBd pl (nx, cs, fs, J, B) := by
  obtain ⟨h1, h2, h3, h4, h5, h6⟩ := h
  refine ⟨h1, h2, h3, ?_, h5, ?_⟩
  · simp only [hd]
    rw [if_neg (by omega), if_neg (by omega), if_neg (by omega)]
    exact h4
  · rintro (q | q)
    · omega
    · exact h6 q.2
theorem zB_of {pl nx : Nat} {cs : List T} {fs : List zF} {J : zJ} {B : Nat → T} (hn : 9 ≤ nx) (h : zBd pl (nx, cs, fs, J, B)) : zB pl cs.length fs J := by
  obtain ⟨h1, h2, h3, h4, h5, h6⟩ := h
  refine ⟨h1, h2, h3, ?_, h5, fun q => h6 (Or.inr ⟨hn, q⟩)⟩
  simp only [hd] at h4
  rw [if_neg (by omega), if_neg (by omega), if_neg (by omega)] at h4
  exact h4
theorem zB_up {pl n n' a : Nat} {fs fs' : List zF} {J : zJ} (h : zB pl n fs J) (h1 : fs'.length ≤ fs.length + 1) (h2 : (flat fs').length + n' ≤ (flat fs).length + n + 1) (h3 : a + dF fs' ≤ dF fs + 2) (h4 : bot fs' = bot fs) : zB (pl + 1) n' fs' (ndn J a) := by
  obtain ⟨g1, g2, g3, g4, g5, g6⟩ := h
  refine ⟨by omega, by omega, by rw [ndn_45]; omega, ?_, fun p => ?_, fun q => ?_⟩
  · rw [h4, ndn_o _ _ _ _ (by omega)]; omega
  · rw [ndn_o _ _ _ _ (by omega)]; have := g5 p; omega
  · rw [h4] at q
    rw [ndn_o _ _ 4 3 (by omega), ndn_o _ _ 9 0 (by omega), ndn_o _ _ 4 0 (by omega), ndn_o _ _ 0 _ (by omega)]
    exact g6 q
theorem zB_upJ {pl n n' : Nat} {fs fs' : List zF} {J : zJ} (h : zB pl n fs J) (h1 : fs'.length ≤ fs.length + 1) (h2 : (flat fs').length + n' ≤ (flat fs).length + n + 1) (h3 : dF fs' ≤ dF fs + 2) (h4 : bot fs' = bot fs) : zB (pl + 1) n' fs' J := by
  have := zB_up (a := 0) h h1 h2 (by omega) h4
  rw [ndn_0] at this
  exact this
/-- within one token: pieces end -/
theorem zB_dn {pl n n' a : Nat} {fs fs' : List zF} {J : zJ} (h : zB pl n fs J) (h1 : fs'.length ≤ fs.length) (h2 : (flat fs').length + n' ≤ (flat fs).length + n) (h3 : a + dF fs' ≤ dF fs) (h4 : bot fs' = bot fs) : zB pl n' fs' (ndn J a) := by
  obtain ⟨g1, g2, g3, g4, g5, g6⟩ := h
  refine ⟨by omega, by omega, by rw [ndn_45]; omega, ?_, fun p => ?_, fun q => ?_⟩
  · rw [h4, ndn_o _ _ _ _ (by omega)]; omega
  · rw [ndn_o _ _ _ _ (by omega)]; have := g5 p; omega
  · rw [h4] at q
    rw [ndn_o _ _ 4 3 (by omega), ndn_o _ _ 9 0 (by omega), ndn_o _ _ 4 0 (by omega), ndn_o _ _ 0 _ (by omega)]
    exact g6 q
