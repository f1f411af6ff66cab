/-! all forms: the class's machine does evN -/
section CV
variable {M0 : zMem} {c : zC} {J : zJ} {B : Nat → T} {n : Nat}
theorem vA_of {t : T} {m md : Nat} (hB : cHB M0 c J B) (he : em m md) (hs : sh t m = true) (hg : gT J t) : vA J B n t md (vX m) (vLen m md t) := fun d ow s => evV (fun p h1 h2 => (hB.2 p h1 h2).1) (evNV (fun p h1 h2 => (hB.2 p h1 h2).1) n) t m md d ow s he hs hg
theorem vA_0 {t : T} (hB : cHB M0 c J B) (hs : sh t 0 = true) (hg : gT J t) : vA J B n t 0 True 1 := fun d ow s => by
  obtain ⟨z1, z2, z3⟩ := vA_of (n := n) (m := 0) (md := 0) hB (by unfold em; omega) hs hg d ow s
  exact ⟨fun _ => z1 (Or.inl rfl), z2, z3⟩
theorem vA_4 {t : T} (hB : cHB M0 c J B) (hs : sh t 4 = true) (hg : gT J t) : vA J B n t 1 True (tlen t) := fun d ow s => by
  obtain ⟨z1, z2, z3⟩ := vA_of (n := n) (m := 4) (md := 1) hB (by unfold em; omega) hs hg d ow s
  exact ⟨fun _ => z1 (Or.inr (Or.inl rfl)), z2, z3⟩
theorem vA_5 {t : T} (hB : cHB M0 c J B) (hs : sh t 5 = true) (hg : gT J t) : vA J B n t 5 True 2 := fun d ow s => by
  obtain ⟨z1, z2, z3⟩ := vA_of (n := n) (m := 5) (md := 5) hB (by unfold em; omega) hs hg d ow s
  exact ⟨fun _ => z1 (Or.inr (Or.inr rfl)), z2, z3⟩
theorem vA_1 {t : T} (hB : cHB M0 c J B) (hs : sh t 1 = true) (hg : gT J t) : vA J B n t 0 False 0 := fun d ow s => by
  obtain ⟨z1, z2, z3⟩ := vA_of (n := n) (m := 1) (md := 0) hB (by unfold em; omega) hs hg d ow s
  exact ⟨fun w => w.elim, z2, z3⟩
theorem vA_2 {t : T} (hB : cHB M0 c J B) (hs : sh t 2 = true) (hg : gT J t) : vA J B n t 1 False 0 := fun d ow s => by
  obtain ⟨z1, z2, z3⟩ := vA_of (n := n) (m := 2) (md := 1) hB (by unfold em; omega) hs hg d ow s
  exact ⟨fun w => w.elim, z2, z3⟩
theorem cEv (hc : cCD M0 c) (hB : cHB M0 c J B) (hr : ∀ t m md, er m md → sh t m = true → gT J t → cQ M0 c (evN J B n) n t m md) : ∀ (t : T) (m md : Nat), em m md → sh t m = true → gT J t → cQ M0 c (evN J B (n + 1)) (n + 1) t m md
  | .num k, m, md, he, hs, hg => by
    simp [sh] at hs
    have : md = 0 := by unfold em at he; omega
    subst this
    exact (cQ_pl (by omega)).mpr (q_num hc)
  | .var x, m, md, he, hs, hg => by
    have hx := sh_var (x := x) hs
    exact (cQ_pl (by unfold em at he; omega)).mpr (q_var (x := x) hc)
  | .add a b, m, md, he, hs, hg => by
    have ga := gT_l hg
    have gb := gT_r hg
    have hs0 := hs
    simp [sh] at hs
    rcases hs with ((((((hs | hs) | hs) | hs) | hs) | hs) | hs)
    · obtain ⟨⟨hm, sa⟩, sb⟩ := hs
      have hmd : md = 1 ∨ md = 2 := by unfold em at he; omega
      exact (cQ_pl (by omega)).mpr (q_list hm hmd ((cQ_pl (by omega)).mp (cEv hc hB hr a 1 0 (by unfold em; omega) sa ga)) ((cQ_pl (by omega)).mp (cEv hc hB hr b 2 1 (by unfold em; omega) sb gb)) (vA_1 hB sa ga))
    · obtain ⟨⟨hm, sa⟩, sb⟩ := hs
      have hmd : md = 1 := by unfold em at he; omega
      exact (cQ_pl (by omega)).mpr (q_two (mb := 4) (md' := 1) (Or.inl ⟨hm, hmd, rfl, rfl⟩) ((cQ_pl (by omega)).mp (cEv hc hB hr a 0 0 (by unfold em; omega) sa ga)) ((cQ_pl (by omega)).mp (cEv hc hB hr b 4 1 (by unfold em; omega) sb gb)) (vA_0 hB sa ga) ⟨_, vA_4 hB sb gb⟩)
    · obtain ⟨⟨hm, sa⟩, sb⟩ := hs
      have ia : cPq M0 c J B n a 0 0 := (cQ_pl (by omega)).mp (cEv hc hB hr a 0 0 (by unfold em; omega) sa ga)
      have ib : cPq M0 c J B n b 0 0 := (cQ_pl (by omega)).mp (cEv hc hB hr b 0 0 (by unfold em; omega) sb gb)
      have hmd : md = 5 ∨ (md = 150 ∨ md = 151) := by unfold em at he; omega
      rcases hmd with hmd | hmd
      · exact (cQ_pl (by omega)).mpr (q_two (mb := 0) (md' := 0) (Or.inr ⟨hm, hmd, rfl, rfl⟩) ia ib (vA_0 hB sa ga) ⟨_, vA_0 hB sb gb⟩)
      · subst hm
        exact q_ao hc hmd ia ib (vA_0 hB sa ga) (vA_0 hB sb gb)
    · obtain ⟨⟨hm, sa⟩, sb⟩ := hs
      subst hm
      have hmd : md = 25 := by unfold em at he; omega
      subst hmd
      exact q_25 hc ((cQ_pl (by omega)).mp (cEv hc hB hr a 0 0 (by unfold em; omega) sa ga)) ((cQ_pl (by omega)).mp (cEv hc hB hr b 2 1 (by unfold em; omega) sb gb)) (vA_0 hB sa ga) (vA_2 hB sb gb) (hr _ 6 25 (by unfold er; omega) hs0 hg)
    · obtain ⟨⟨hm, sa⟩, sb⟩ := hs
      subst hm
      have hmd : md = 26 := by unfold em at he; omega
      subst hmd
      exact q_26 hc ((cQ_pl (by omega)).mp (cEv hc hB hr a 2 1 (by unfold em; omega) sa ga)) ((cQ_pl (by omega)).mp (cEv hc hB hr b 0 0 (by unfold em; omega) sb gb)) (vA_2 hB sa ga) (vA_0 hB sb gb) (hr _ 7 26 (by unfold er; omega) hs0 hg)
    · obtain ⟨⟨hm, sa⟩, sb⟩ := hs
      subst hm
      have hmd : md = 27 := by unfold em at he; omega
      subst hmd
      exact (cQ_pl (by omega)).mpr (q_27 hc ((cQ_pl (by omega)).mp (cEv hc hB hr a 0 0 (by unfold em; omega) sa ga)) (vA_0 hB sa ga) (cEv hc hB hr b 9 280 (by unfold em; omega) sb gb) (cEv hc hB hr b 9 281 (by unfold em; omega) sb gb))
    · obtain ⟨⟨hm, sa⟩, sb⟩ := hs
      subst hm
      have hmd : md = 280 ∨ md = 281 := by unfold em at he; omega
      rcases hmd with rfl | rfl
      · exact q_280 hc ((cQ_pl (by omega)).mp (cEv hc hB hr b 3 2 (by unfold em; omega) sb gb))
      · exact q_281 hc ((cQ_pl (by omega)).mp (cEv hc hB hr a 2 1 (by unfold em; omega) sa ga))
  | .mulL k e, m, md, he, hs, hg => by
    have ge := gT_k hg
    have hs0 := hs
    simp [sh] at hs
    rcases hs with (((((((hs | hs) | hs) | hs) | hs) | hs) | hs) | hs)
    · obtain ⟨⟨hm, hk⟩, se⟩ := hs
      have hmd : md = 0 := by unfold em at he; omega
      subst hmd
      have ie : cPq M0 c J B n e 0 0 := (cQ_pl (by omega)).mp (cEv hc hB hr e 0 0 (by unfold em; omega) se ge)
      have ve := vA_0 (n := n) hB se ge
      refine (cQ_pl (by omega)).mpr ?_
      rcases hk with (rfl | rfl) | rfl
      · refine q_un (fun _ _ v s => (0, [s.1 1 (vIx v)], s)) (fun d ow s => rfl) ie ve (by omega) rfl (fun x => rfl) ?_
        intro d ow M L R s pc vs v hd hp ho _ hv hM
        obtain ⟨M', e1, e2⟩ := o4 hc hM hp (by omega) ho
        exact cRs_ok e1 (by omega) (Nat.le_refl _) e2
      · refine q_un (fun _ _ v s => (0, [if v = 0 then 1 else 0], s)) (fun d ow s => rfl) ie ve (by omega) rfl (fun x => rfl) ?_
        intro d ow M L R s pc vs v hd hp ho _ hv hM
        obtain ⟨M', e1, e2⟩ := o9 hc hM hp (by omega) ho
        exact cRs_ok e1 (by omega) (Nat.le_refl _) e2
      · refine q_un (fun _ _ v s => (0, [0 - v], s)) (fun d ow s => rfl) ie ve (by omega) rfl (fun x => rfl) ?_
        intro d ow M L R s pc vs v hd hp ho _ hv hM
        obtain ⟨M', e1, e2⟩ := o8 hc hM hp (by omega) ho
        exact cRs_ok e1 (by omega) (Nat.le_refl _) e2
    · obtain ⟨⟨hm, hk⟩, se⟩ := hs
      have hmd : md = 0 := by unfold em at he; omega
      subst hmd
      obtain ⟨k1, k2⟩ := isBin_n hk
      refine (cQ_pl (by omega)).mpr ?_
      by_cases c5 : k < 150
      · refine q_op (fun _ _ v w s => match eBin k v w with
          | some x => (0, [x], s)
          | none => (6, [], s)) (fun d ow s => ev_kb k1 c5) ((cQ_pl (by omega)).mp (cEv hc hB hr e 5 5 (by unfold em; omega) se ge)) (vA_5 hB se ge) (by omega) ?_ (fun x => ?_) ?_
        · unfold cFmd
          rw [if_neg (by omega), if_pos (by omega)]
        · simp only [td]
          rw [if_pos (by omega)]
        · intro d ow M L R s pc vs v w hd hp ho hv hM
          have ho : c.2.1 pc = nI k := by
            rw [ho]
            unfold cFop
            rw [if_neg (by omega), if_neg (by omega), if_neg (by omega), if_neg (by omega), if_neg (by omega), if_neg (by omega), if_neg (by omega), if_neg (by omega), if_neg (by omega), if_neg (by omega), if_neg (by omega)]
          have := oBin hc hM hp (by omega) hk c5 ho
          cases hb : eBin k v w with
          | some x =>
            rw [hb] at this
            obtain ⟨M', e1, e2⟩ := this
            exact cRs_ok e1 (by omega) (Nat.le_refl _) e2
          | none =>
            rw [hb] at this
            obtain ⟨M', e1, e2⟩ := this
            exact cRs_x (j := 4) e1 (by omega) (Nat.le_refl _) e2
      · have hk2 : k = 150 ∨ k = 151 := by omega
        refine q_pass (m' := 5) (by omega) (cEv hc hB hr e 5 k (by unfold em; omega) se ge)
    · obtain ⟨⟨hm, hk⟩, se⟩ := hs
      have hmd : md = 0 := by unfold em at he; omega
      subst hmd
      have ie : cPq M0 c J B n e 0 0 := (cQ_pl (by omega)).mp (cEv hc hB hr e 0 0 (by unfold em; omega) se ge)
      have ve := vA_0 (n := n) hB se ge
      refine (cQ_pl (by omega)).mpr ?_
      rcases hk with (hk | rfl) | rfl
      · refine q_un (fun _ ow v s => (0, [], vPut ow (k - 200) v s)) (fun d ow s => ev_k200 hk.1) ie ve (by omega) ?_ (fun x => ?_) ?_
        · unfold cFmd
          rw [if_neg (by omega), if_neg (by omega)]
        · simp only [td]
          rw [if_neg (by omega)]
        · intro d ow M L R s pc vs v hd hp ho hod hv hM
          have ho : c.2.1 pc = (if kOwn (nI ow) (k - 200) = true then 6 else 5) := by
            rw [ho]
            unfold cFop
            rw [if_neg (by omega), if_neg (by omega), if_neg (by omega), if_neg (by omega), if_neg (by omega), if_neg (by omega), if_neg (by omega), if_neg (by omega), if_neg (by omega), if_neg (by omega), if_pos hk.1]
          unfold vPut
          by_cases o : kOwn (nI ow) (k - 200) = true
          · rw [if_pos o] at ho ⊢
            obtain ⟨M', e1, e2⟩ := o6 hc hM hp (by omega) ho (by omega) hd (hod hk.1)
            exact cRs_ok e1 (by omega) (Nat.le_refl _) e2
          · rw [if_neg o] at ho ⊢
            obtain ⟨M', e1, e2⟩ := o5 hc hM hp (by omega) ho (by omega) (hod hk.1)
            exact cRs_ok e1 (by omega) (Nat.le_refl _) e2
      · refine q_un (fun _ _ v s => if s.2.2.2 = 20 then (5, [], s) else (0, [], (zup s.1 4 s.2.2.2 v, s.2.1, s.2.2.1, s.2.2.2 + 1))) (fun d ow s => rfl) ie ve (by omega) rfl (fun x => rfl) ?_
        intro d ow M L R s pc vs v hd hp ho _ hv hM
        obtain ⟨g1, g2⟩ := o12 hc hM hp (by omega) ho
        by_cases w : s.2.2.2 = 20
        · rw [if_pos w]
          obtain ⟨M', e1, e2⟩ := g1 w
          exact cRs_x (j := 3) e1 (by omega) (Nat.le_refl _) e2
        · rw [if_neg w]
          obtain ⟨M', e1, e2⟩ := g2 w
          exact cRs_ok e1 (by show 1 ≤ 1 + 302 * (s.2.1 - s.2.1); omega) (Nat.le_refl _) e2
      · refine q_un (fun _ _ v s => (1, [v], s)) (fun d ow s => rfl) ie ve (by omega) rfl (fun x => rfl) ?_
        intro d ow M L R s pc vs v hd hp ho _ hv hM
        obtain ⟨g1, g2⟩ := o26 hc hM hp ho hd
        cases d with
        | zero =>
          obtain ⟨M', e1, e2⟩ := g1 rfl
          exact ⟨Nat.le_refl _, M', 1, e1, by show 1 ≤ 1 + 302 * (s.2.1 - s.2.1); omega, fun w => by simp at w, fun _ => ⟨fun _ => e2, fun d' ra w => by omega⟩, fun w => by simp at w⟩
        | succ d0 =>
          by_cases hra : ∃ ra, R (d0 + 1) = nI ra
          · obtain ⟨ra, hra⟩ := hra
            obtain ⟨M', e1, e2⟩ := g2 d0 ra rfl hra
            refine ⟨Nat.le_refl _, M', 1, e1, by show 1 ≤ 1 + 302 * (s.2.1 - s.2.1); omega, fun w => by simp at w, fun _ => ⟨fun w => by omega, fun d' ra' w1 w2 => ?_⟩, fun w => by simp at w⟩
            have w1 : d' = d0 := by omega
            subst w1
            obtain ⟨b1, b2, b3⟩ := e2.2.1
            obtain ⟨M'', e3, e4⟩ := g2 d' ra' rfl w2
            have : (M' 27 15) = nI ra' := by rw [b2, ← hra, w2]
            exact ⟨e2.1, ⟨b1, this, b3⟩, e2.2.2⟩
          · refine ⟨Nat.le_refl _, M, 0, cS_refl _, by omega, fun w => by simp at w, fun _ => ⟨fun w => by omega, fun d' ra' w1 w2 => ?_⟩, fun w => by simp at w⟩
            have w1 : d' = d0 := by omega
            subst w1
            exact absurd ⟨ra', w2⟩ hra
    · obtain ⟨⟨⟨hm, hk⟩, -⟩, se⟩ := hs
      have hmd : md = 0 := by unfold em at he; omega
      subst hmd; subst hk
      refine (cQ_pl (by omega)).mpr (q_un (fun _ _ v s => (0, [], s)) (fun d ow s => rfl) ((cQ_pl (by omega)).mp (cEv hc hB hr e 0 0 (by unfold em; omega) se ge)) (vA_0 hB se ge) (by omega) rfl (fun x => rfl) ?_)
      intro d ow M L R s pc vs v hd hp ho _ hv hM
      obtain ⟨M', e1, e2⟩ := o11 hc hM hp (by omega) ho
      exact cRs_ok e1 (by omega) (Nat.le_refl _) e2
    · obtain ⟨⟨hm, hk⟩, se⟩ := hs
      have hmd : md = 0 := by unfold em at he; omega
      subst hmd; subst hk
      refine (cQ_pl (by omega)).mpr (q_op (fun _ _ v w s => (0, [], vSet 1 (vIx v) w s)) (fun d ow s => rfl) ((cQ_pl (by omega)).mp (cEv hc hB hr e 5 5 (by unfold em; omega) se ge)) (vA_5 hB se ge) (by omega) rfl (fun x => rfl) ?_)
      intro d ow M L R s pc vs v w hd hp ho hv hM
      obtain ⟨M', e1, e2⟩ := o7 hc hM hp (by omega) ho
      exact cRs_ok e1 (by omega) (Nat.le_refl _) e2
    · obtain ⟨⟨hm, hk⟩, se⟩ := hs
      have hmd : md = 0 := by unfold em at he; omega
      subst hmd; subst hk
      exact (cQ_pl (by omega)).mpr (q_pass (m' := 6) (by omega) (cEv hc hB hr e 6 25 (by unfold em; omega) se ge))
    · obtain ⟨⟨hm, hk⟩, se⟩ := hs
      have hmd : md = 0 := by unfold em at he; omega
      subst hmd; subst hk
      exact (cQ_pl (by omega)).mpr (q_pass (m' := 7) (by omega) (cEv hc hB hr e 7 26 (by unfold em; omega) se ge))
    · obtain ⟨⟨hm, hk⟩, se⟩ := hs
      subst hk
      have hmd : md = 0 ∨ md = 2 := by unfold em at he; omega
      exact (cQ_pl (by omega)).mpr (q_if hm hmd ((cQ_pl (by omega)).mp (cEv hc hB hr e 8 27 (by unfold em; omega) se ge)))
  | .mulR e q, m, md, he, hs, hg => by
    have ge := gT_c hg
    simp [sh] at hs
    obtain ⟨hm, se⟩ := hs
    have hmd : md = 0 := by unfold em at he; omega
    subst hmd
    have hq := hg q _ (Or.inl ⟨rfl, rfl⟩)
    obtain ⟨⟨b2, b3⟩, -⟩ := hB.2 (q % 4) (by omega) hq.1
    exact (cQ_pl (by omega)).mpr (q_call hc hB hq ((cQ_pl (by omega)).mp (cEv hc hB hr e 4 1 (by unfold em; omega) se ge)) (vA_4 hB se ge) (hr _ 2 1 (by unfold er; omega) b2 b3) (fun d ow s => evNV (fun p h1 h2 => (hB.2 p h1 h2).1) n _ 2 1 d ow s (by unfold er; omega) b2 b3))
theorem cEvN (hc : cCD M0 c) (hB : cHB M0 c J B) : ∀ (n : Nat) (t : T) (m md : Nat), er m md → sh t m = true → gT J t → cQ M0 c (evN J B n) n t m md
  | 0, t, m, md, he, hs, hg => by
    intro d ow M L R s lo hi p vs hn hd hC hh hM hv hp
    have := hM.1.2.2.2.2.2.2.2.1
    omega
  | n + 1, t, m, md, he, hs, hg => cEv hc hB (fun t m md h1 h2 h3 => cEvN hc hB n t m md h1 h2 h3) t m md (by unfold er at he; unfold em; omega) hs hg
end CV
