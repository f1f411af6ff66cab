/-! all forms: the reference's run does evN -/
section RW
variable {M0 : zMem} {J : zJ} {B : Nat → T} {n : Nat}
theorem wA_0 {t : T} (hB : ∀ p, p < 4 → J 6 p = 1 → sh (B p) 2 = true ∧ gT J (B p)) (hs : sh t 0 = true) (hg : gT J t) : vA J B n t 0 True 1 := fun d ow s => by
  obtain ⟨z1, z2, z3⟩ := evV hB (evNV hB n) t 0 0 d ow s (by unfold em; omega) hs hg
  exact ⟨fun _ => z1 (Or.inl rfl), z2, z3⟩
theorem wA_4 {t : T} (hB : ∀ p, p < 4 → J 6 p = 1 → sh (B p) 2 = true ∧ gT J (B p)) (hs : sh t 4 = true) (hg : gT J t) : vA J B n t 1 True (tlen t) := fun d ow s => by
  obtain ⟨z1, z2, z3⟩ := evV hB (evNV hB n) t 4 1 d ow s (by unfold em; omega) hs hg
  exact ⟨fun _ => z1 (Or.inr (Or.inl rfl)), z2, z3⟩
theorem wA_1 {t : T} (hB : ∀ p, p < 4 → J 6 p = 1 → sh (B p) 2 = true ∧ gT J (B p)) (hs : sh t 1 = true) (hg : gT J t) : vA J B n t 0 False 0 := fun d ow s => by
  obtain ⟨z1, z2, z3⟩ := evV hB (evNV hB n) t 1 0 d ow s (by unfold em; omega) hs hg
  exact ⟨fun w => w.elim, z2, z3⟩
theorem wA_2 {t : T} (hB : ∀ p, p < 4 → J 6 p = 1 → sh (B p) 2 = true ∧ gT J (B p)) (hs : sh t 2 = true) (hg : gT J t) : vA J B n t 1 False 0 := fun d ow s => by
  obtain ⟨z1, z2, z3⟩ := evV hB (evNV hB n) t 2 1 d ow s (by unfold em; omega) hs hg
  exact ⟨fun w => w.elim, z2, z3⟩
/-- everything that is said of a tree, by its shape -/
def rAll (M0 : zMem) (J : zJ) (B : Nat → T) (n : Nat) (t : T) : Prop :=
  (sh t 0 = true ∨ sh t 1 = true → rE M0 (evN J B (n + 1)) (n + 1) t) ∧ (sh t 2 = true → rCh M0 (evN J B (n + 1)) (n + 1) t 7 1) ∧ (sh t 4 = true → rCh M0 (evN J B (n + 1)) (n + 1) t 6 4) ∧ (sh t 5 = true → ∀ k, isBin k = true ∨ k = 21 → rE M0 (evN J B (n + 1)) (n + 1) (.mulL k t)) ∧ (sh t 6 = true → rE M0 (evN J B (n + 1)) (n + 1) (.mulL 25 t)) ∧ (sh t 7 = true → rE M0 (evN J B (n + 1)) (n + 1) (.mulL 26 t)) ∧ (sh t 8 = true → rE M0 (evN J B (n + 1)) (n + 1) (.mulL 27 t)) ∧ (sh t 9 = true → rI M0 (evN J B (n + 1)) (n + 1) t)
theorem rEv (hB0 : rHB M0 J B) (hE : ∀ t, sh t 1 = true → gT J t → rE M0 (evN J B n) n t) (hC : ∀ t, sh t 2 = true → gT J t → rCh M0 (evN J B n) n t 7 1) : ∀ (t : T), gT J t → rAll M0 J B n t
  | .num k, hg => ⟨fun _ => r_num, fun h => by simp [sh] at h, fun h => by simp [sh] at h, fun h => by simp [sh] at h, fun h => by simp [sh] at h, fun h => by simp [sh] at h, fun h => by simp [sh] at h, fun h => by simp [sh] at h⟩
  | .var x, hg => by
    refine ⟨fun h => ?_, fun h => ?_, fun h => ?_, fun h => ?_, fun h => ?_, fun h => ?_, fun h => ?_, fun h => ?_⟩
    · rcases h with h | h
      · have := sh_var (x := x) h
        exact r_var (x := x) (by omega)
      · have := sh_var (x := x) h; omega
    · have := sh_var (x := x) h
      exact r_nil (x := x) (by omega) (by omega)
    · have := sh_var (x := x) h
      exact r_nil (x := x) (by omega) (by omega)
    · have := sh_var (x := x) h; omega
    · have := sh_var (x := x) h; omega
    · have := sh_var (x := x) h; omega
    · have := sh_var (x := x) h; omega
    · have := sh_var (x := x) h; omega
  | .add a b, hg => by
    have ga := gT_l hg
    have gb := gT_r hg
    have hS := fun p h1 h2 => (hB0.2 p h1 h2).1
    obtain ⟨a0, a2, a4, a5, a6, a7, a8, a9⟩ := rEv hB0 hE hC a ga
    obtain ⟨b0, b2, b4, b5, b6, b7, b8, b9⟩ := rEv hB0 hE hC b gb
    refine ⟨fun h => ?_, fun h => ?_, fun h => ?_, fun h => ?_, fun h => ?_, fun h => ?_, fun h => ?_, fun h => ?_⟩
    · simp [sh] at h
    · simp [sh] at h
      exact r_cons (Or.inl ⟨rfl, rfl⟩) (a0 (Or.inr h.1)) (b2 h.2) (Or.inl ⟨rfl, wA_1 hS h.1 ga⟩)
    · simp [sh] at h
      exact r_cons (Or.inr ⟨rfl, rfl⟩) (a0 (Or.inl h.1)) (b4 h.2) (Or.inr ⟨rfl, wA_0 hS h.1 ga⟩)
    · simp [sh] at h
      intro k hk
      have ea := a0 (Or.inl h.1)
      have eb := b0 (Or.inl h.2)
      have va : vA J B n a 0 True 1 := wA_0 hS h.1 ga
      have vb : vA J B n b 0 True 1 := wA_0 hS h.2 gb
      rcases hk with hk | hk
      · obtain ⟨k1, k2⟩ := isBin_n hk
        by_cases c : k < 150
        · refine r_pr (Or.inr ⟨k1, c⟩) (fun v w s => match eBin k v w with
            | some x => (0, [x], s)
            | none => (6, [], s)) (fun d ow s => ev_kb k1 c) ea eb va vb ?_
          intro d M L P s W vs Wb vb v w h kn hkn h39 hW hv hM
          obtain ⟨M4, f3, f4⟩ := hOp hkn h39 (by omega) (by omega) hM
          have := gOper (k := k) f3 (by omega) hk c
          cases hb : eBin k v w with
          | some x =>
            rw [hb] at this
            obtain ⟨M', e1, e2⟩ := this
            exact rRs_ok (f4 M' e1) (Nat.le_refl _) e2
          | none =>
            rw [hb] at this
            obtain ⟨M', e1, e2⟩ := this
            exact rRs_x (j := 4) (f4 M' e1) (Nat.le_refl _) e2
        · exact r_ao (by omega) ea eb va vb
      · subst hk
        refine r_pr (Or.inl rfl) (fun v w s => (0, [], vSet 1 (vIx v) w s)) (fun d ow s => rfl) ea eb va vb ?_
        intro d M L P s W vs Wb vb v w h kn hkn h39 hW hv hM
        exact h21 hkn h39 hW hv hM
    · have h0 := h
      simp [sh] at h
      exact r_while h.2 (a0 (Or.inl h.1)) (b2 h.2) (wA_0 hS h.1 ga) (wA_2 hS h.2 gb) (hE _ (by simp [sh, h.1, h.2]) (fun q c g => hg q c g))
    · have h0 := h
      simp [sh] at h
      exact r_rep h.1 (a2 h.1) (b0 (Or.inl h.2)) (wA_2 hS h.1 ga) (wA_0 hS h.2 gb) (hE _ (by simp [sh, h.1, h.2]) (fun q c g => hg q c g))
    · simp [sh] at h
      exact r_if (a0 (Or.inl h.1)) (wA_0 hS h.1 ga) (b9 h.2)
    · simp [sh] at h
      refine r_9 h.1 (a2 h.1) ?_
      have h3 := h.2
      cases b with
      | num k => simp [sh] at h3
      | var x =>
        have hx := sh_var (x := x) h3
        by_cases z : @Eq Nat x 98
        · exact Or.inl (by rw [show x = 98 from z])
        · have h2 : sh (.var x) 2 = true := by
            have z : @Eq Nat x 99 := by omega
            rw [show x = 99 from z]; rfl
          exact Or.inr (Or.inl ⟨h2, b2 h2⟩)
      | add u v =>
        have h2 : sh (.add u v) 2 = true := by
          simp [sh] at h3 ⊢
          exact h3
        exact Or.inr (Or.inl ⟨h2, b2 h2⟩)
      | mulL k e =>
        have hk : k = 27 := by
          simp [sh] at h3
          omega
        subst hk
        have h1 : sh (.mulL 27 e) 1 = true := by
          simp [sh] at h3 ⊢
          exact h3
        exact Or.inr (Or.inr ⟨⟨e, rfl⟩, b0 (Or.inr h1)⟩)
      | mulR e q => simp [sh] at h3
  | .mulL k e, hg => by
    have ge := gT_k hg
    have hS := fun p h1 h2 => (hB0.2 p h1 h2).1
    obtain ⟨e0, e2, e4, e5, e6, e7, e8, e9⟩ := rEv hB0 hE hC e ge
    refine ⟨fun h => ?_, fun h => by simp [sh] at h, fun h => by simp [sh] at h, fun h => by simp [sh] at h, fun h => by simp [sh] at h, fun h => by simp [sh] at h, fun h => by simp [sh] at h, fun h => by simp [sh] at h⟩
    rcases h with h | h
    · simp [sh] at h
      rcases h with ⟨hk, se⟩ | ⟨hk, se⟩
      · have ie := e0 (Or.inl se)
        have ve : vA J B n e 0 True 1 := wA_0 hS se ge
        rcases hk with (rfl | rfl) | rfl
        · refine r_un (fun _ _ v s => (0, [s.1 1 (vIx v)], s)) (fun d ow s => rfl) ie ve rfl (fun x => rfl) (by decide) ?_
          intro d ow M L P s W vs Wb vb v h kn hd hL hkn h39 h40 hW hv hB hM
          exact h2 hkn h39 hW hv hM
        · refine r_un (fun _ _ v s => (0, [if v = 0 then 1 else 0], s)) (fun d ow s => rfl) ie ve rfl (fun x => rfl) (by decide) ?_
          intro d ow M L P s W vs Wb vb v h kn hd hL hkn h39 h40 hW hv hB hM
          exact h5 hkn h39 hW hv hM
        · refine r_un (fun _ _ v s => (0, [0 - v], s)) (fun d ow s => rfl) ie ve rfl (fun x => rfl) (by decide) ?_
          intro d ow M L P s W vs Wb vb v h kn hd hL hkn h39 h40 hW hv hB hM
          exact h6 hkn h39 hW hv hM
      · exact e5 se k (Or.inl hk)
    · simp [sh] at h
      rcases h with (((((h | h) | h) | h) | h) | h)
      · obtain ⟨hk, se⟩ := h
        have ie := e0 (Or.inl se)
        have ve : vA J B n e 0 True 1 := wA_0 hS se ge
        rcases hk with (hk | rfl) | rfl
        · have hrk : rk k = 20 := if_pos hk.1
          refine r_un (fun _ ow v s => (0, [], vPut ow (k - 200) v s)) (fun d ow s => ev_k200 hk.1) ie ve ?_ (fun x => ?_) (by rw [hrk]; decide) ?_
          · unfold rmode
            rw [if_neg (by omega), if_neg (by omega), if_neg (by omega), if_neg (by omega)]
          · simp only [td]
            rw [if_neg (by omega)]
          · intro d ow M L P s W vs Wb vb v h kn hd hL hkn h39 h40 hW hv hB hM
            rw [hrk] at h39
            exact h20 hkn h39 (h40 hk.1) (by omega) hd hL hW hv hM
        · refine r_un (fun _ _ v s => if s.2.2.2 = 20 then (5, [], s) else (0, [], (zup s.1 4 s.2.2.2 v, s.2.1, s.2.2.1, s.2.2.2 + 1))) (fun d ow s => rfl) ie ve rfl (fun x => rfl) (by decide) ?_
          intro d ow M L P s W vs Wb vb v h kn hd hL hkn h39 h40 hW hv hB hM
          exact h23 hkn h39 hW hv hM
        · refine r_un (fun _ _ v s => (1, [v], s)) (fun d ow s => rfl) ie ve rfl (fun x => rfl) (by decide) ?_
          intro d ow M L P s W vs Wb vb v h kn hd hL hkn h39 h40 hW hv hB hM
          exact h24 hkn h39 hd hW hv hB hM
      · obtain ⟨⟨hk, -⟩, se⟩ := h
        subst hk
        refine r_un (fun _ _ v s => (0, [], s)) (fun d ow s => rfl) (e0 (Or.inl se)) (wA_0 hS se ge) rfl (fun x => rfl) (by decide) ?_
        intro d ow M L P s W vs Wb vb v h kn hd hL hkn h39 h40 hW hv hB hM
        exact h22 hkn h39 hW hv hM
      · obtain ⟨hk, se⟩ := h
        exact e5 se k (Or.inr hk)
      · obtain ⟨hk, se⟩ := h
        subst hk
        exact e6 se
      · obtain ⟨hk, se⟩ := h
        subst hk
        exact e7 se
      · obtain ⟨hk, se⟩ := h
        subst hk
        exact e8 se
  | .mulR e q, hg => by
    have ge := gT_c hg
    have hS := fun p h1 h2 => (hB0.2 p h1 h2).1
    obtain ⟨e0, e2, e4, e5, e6, e7, e8, e9⟩ := rEv hB0 hE hC e ge
    refine ⟨fun h => ?_, fun h => by simp [sh] at h, fun h => by simp [sh] at h, fun h => by simp [sh] at h, fun h => by simp [sh] at h, fun h => by simp [sh] at h, fun h => by simp [sh] at h, fun h => by simp [sh] at h⟩
    have se : sh e 4 = true := by
      rcases h with h | h
      · simpa [sh] using h
      · simp [sh] at h
    have hq := hg q _ (Or.inl ⟨rfl, rfl⟩)
    obtain ⟨b2, b3⟩ := hS (q % 4) (by omega) hq.1
    exact r_call hB0 hq (e4 se) (wA_4 hS se ge) (hC _ b2 b3) (fun d ow s => evNV hS n _ 2 1 d ow s (by unfold er; omega) b2 b3)
theorem rEvN (hB0 : rHB M0 J B) : ∀ (n : Nat), (∀ t, sh t 1 = true → gT J t → rE M0 (evN J B n) n t) ∧ ∀ t, sh t 2 = true → gT J t → rCh M0 (evN J B n) n t 7 1
  | 0 => by
    refine ⟨fun t h1 h2 => ?_, fun t h1 h2 => ?_⟩
    · intro d ow M L P s W vs Wb vb lo hi kn h hn hd hL hR hkn hh hM hW hv hB
      have := hM.1.2.2.2.2.2.2.2.1
      omega
    · intro d ow M L P s W vs Wb vb lo hi y c h hn hd hL hR hc hc4 hh hM hW hv hB
      have := hM.1.2.2.2.2.2.2.2.1
      omega
  | n + 1 => by
    obtain ⟨i1, i2⟩ := rEvN hB0 n
    exact ⟨fun t h1 h2 => (rEv hB0 i1 i2 t h2).1 (Or.inr h1), fun t h1 h2 => (rEv hB0 i1 i2 t h2).2.1 h1⟩
end RW
