/-! THE RUN: run, outs, output, global, cellAfter, turns, deepest -/
theorem i32_sle {x : Int32} {n : Nat} (hn : n + 1 < 2 ^ 31) : nI (n + 1) ≤ x ↔ nI n < x := by
  rw [Int32.le_iff_toInt_le, Int32.lt_iff_toInt_lt, nI_toInt hn, nI_toInt (show n < 2 ^ 31 by omega)]
  omega
theorem PQ_z {Mh : zMem} {ts : List Nat} (hl : ts.length ≤ 150) (h : PQ Mh ts) (h1 : Mh 14 1 = -4) (p o g : Nat) (B : Nat → T) : ∃ z, zRd ts 0 (z0 p o g B) = .inr z ∧ z.1 = 24 := by
  rcases zAns_c (p := p) (o := o) (g := g) (B := B) hl with ⟨z, hz, h24, -⟩ | ⟨-, ha⟩
  · exact ⟨z, hz, h24⟩
  · exact absurd ((h p o g B).1.symm.trans h1) ha
/-- the class runs the program, or doesn't -/
theorem Iv_ex {M : zMem} {ts : List Nat} (h : Iv M ts) {N : Nat} (hN : 1000010 ≤ N) : ∃ Mf r, F_L_execute N M = some (r, Mf) ∧ Iv Mf ts ∧ PQ Mf ts ∧ ((r = 1 ∧ Mf 14 1 = -4 ∧ Mf 14 2 = -4 ∧ cRan Mf ts) ∨ (r = 0 ∧ ¬ (Mf 14 1 = -4 ∧ Mf 14 2 = -4))) := by
  obtain ⟨Mf, f1, f2, f3, f4, -⟩ := Iv_rd h (N := N) (by omega)
  have hl := (Iv_tok h).1
  by_cases c1 : Mf 14 1 = -4
  · by_cases c2 : Mf 14 2 = -4
    · have e0 : F_L_execute N M = zbv (F_Mach_execute N Mf) fun M6 => some ((1 : Int32), M6) := by
        unfold F_L_execute F_Pars_isProgram
        rw [f1, zbv_some, if_pos c1, zbi_some, if_neg (by decide), if_pos c2]
      by_cases c7 : Mf 27 7 = 0
      · have e1 : F_Mach_execute N Mf = some Mf := by
          unfold F_Mach_execute
          rw [if_pos c7]
        obtain ⟨-, -, -, x4⟩ := f2.2.2.2.2 c7
        exact ⟨Mf, 1, by rw [e0, e1, zbv_some], f2, f4, Or.inl ⟨rfl, c1, c2, x4⟩⟩
      · have ex : ∀ p o g (B : Nat → T) z, zRd ts 0 (z0 p o g B) = .inr z → z.1 = 24 → ∃ M', F_Mach_execute N Mf = some M' ∧ (∀ a, a < 27 ∨ 33 < a → M' a = Mf a) ∧ M' 27 7 = 0 ∧ cRes M' (evN z.2.2.2.1 z.2.2.2.2 301 0 0 (z.2.2.2.2 4) 1 (zS0 (Mf 2) (Mf 3) (Mf 32))) := by
          intro p o g B z hz h24
          have pr := f4 p o g B
          rw [hz] at pr
          obtain ⟨M', y1, y2, y3, y4⟩ := cExec (gPk_of hl hz h24 pr c2) c7
          exact ⟨M', y1 N hN, y2, y3, y4⟩
        obtain ⟨z, hz, h24⟩ := PQ_z hl f4 c1 0 0 0 (fun _ => .num 0)
        obtain ⟨M', y1, y2, y3, -⟩ := ex 0 0 0 (fun _ => .num 0) z hz h24
        have ran : cRan M' ts := ⟨Mf 32, fun p o g B z hz h24 => by
          obtain ⟨M2, w1, -, -, w4⟩ := ex p o g B z hz h24
          rw [y1] at w1
          have e := Option.some.inj w1
          rw [y2 2 (by omega), y2 3 (by omega), e]
          exact w4⟩
        have e14 : M' 14 = Mf 14 := y2 14 (by omega)
        have pq : PQ M' ts := PQ_same (fun a q => y2 a (by omega)) f4
        refine ⟨M', 1, by rw [e0, y1, zbv_some], ?_, pq, Or.inl ⟨rfl, by rw [e14]; exact c1, by rw [e14]; exact c2, ran⟩⟩
        obtain ⟨⟨a1, a2, a3, a4, a5, a6⟩, b1, b2, b3, b4⟩ := f2
        refine ⟨⟨a1, by rw [y2 0 (by omega)]; exact a2, by rw [y2 34 (by omega)]; exact a3, fun i hi => ?_, fun g hg => ?_, fun i hi => ?_⟩, rTx_keep (y2 35 (by omega)) (by rw [y2 34 (by omega)]) b1, ?_, fun _ => pq, fun _ => ⟨by rw [e14]; exact f3, by rw [e14]; exact c1, by rw [e14]; exact c2, ran⟩⟩
        · rw [y2 1 (by omega), y2 35 (by omega)]; exact a4 i hi
        · rw [y2 2 (by omega), y2 36 (by omega)]; exact a5 g hg
        · rw [y2 3 (by omega), y2 37 (by omega)]; exact a6 i hi
        · unfold rG
          rw [y2 34 (by omega)]
          exact b2
    · refine ⟨Mf, 0, ?_, f2, f4, Or.inr ⟨rfl, fun q => c2 q.2⟩⟩
      unfold F_L_execute F_Pars_isProgram
      rw [f1, zbv_some, if_pos c1, zbi_some, if_neg (by decide), if_neg c2]
  · refine ⟨Mf, 0, ?_, f2, f4, Or.inr ⟨rfl, fun q => c1 q.1⟩⟩
    unfold F_L_execute F_Pars_isProgram
    rw [f1, zbv_some, if_neg c1, zbi_some, if_pos rfl]
/-- the reference runs the program, or doesn't; Mh: what the class knows, or would know, of the text -/
theorem Iv_wk {M Mh : zMem} {ts : List Nat} (h : Iv M ts) (hq : PQ Mh ts) (nm : Nat → Int32) : ∃ M' N0 r, (∀ N, N0 ≤ N → F_R_work N M = some (r, M')) ∧ Iv M' ts ∧ ((r = 1 ∧ (Mh 14 1 = -4 ∧ Mh 14 2 = -4) ∧ ∃ p o g B z, zRd ts 0 (z0 p o g B) = .inr z ∧ z.1 = 24 ∧ rRz M' (evN z.2.2.2.1 z.2.2.2.2 301 0 0 (z.2.2.2.2 4) 1 (zS0 (M 2) (M 3) nm))) ∨ (r = 0 ∧ ¬ (Mh 14 1 = -4 ∧ Mh 14 2 = -4))) := by
  obtain ⟨p, o, g, M1, N0, g1, g2, g3, g4⟩ := Iv_R h (fun _ => .num 0)
  have pr := hq p o g (fun _ => .num 0)
  have hl := (Iv_tok h).1
  rcases zAns_c (p := p) (o := o) (g := g) (B := fun _ => .num 0) hl with ⟨z, hz, h24, ha⟩ | ⟨hz, ha⟩
  · rw [ha] at g1
    rw [hz] at pr
    have pr0 := pr
    obtain ⟨p1, p2⟩ := pr
    obtain ⟨q1, q2, q3, q4, q5, q6⟩ := p2 z rfl h24
    have p1 : Mh 14 1 = -4 := by rw [p1, ← hz]; exact ha
    have hrd := g4 z hz h24
    obtain ⟨v, v1, v2⟩ := rFind hrd q5 q4.choose_spec.2.2.1 q6
    have ev : v = Mh 14 2 := FS_uniq v2 q1
    have ivf : Iv (zup M1 34 28 v) ts := Iv_34 g2 (fun a q => zup_ne (by unfold okR at q; omega)) (fun j q => z34 (by omega))
    have ef : ∀ N, N0 + 403 ≤ N → F_R_findFault N M = some (v, zup M1 34 28 v) := fun N hN => by
      unfold F_R_findFault
      rw [g1 N (by omega), zbi_some, if_pos rfl, v1 N (by omega)]
    by_cases c : v = -4
    · have c2 : Mh 14 2 = -4 := ev.symm.trans c
      obtain ⟨⟨cc, -, hb, -⟩, b1, b2, b3, b4, b5⟩ := gPk_of hl hz h24 pr0 c2
      obtain ⟨M', N1, w1, w2, w3, w4⟩ := rWork (M1 := zup M1 34 28 v) (G := M 2) (C := M 3) (nm := nm) hrd (fun a q => zup_ne q) (fun j q => z34 q) (fun p hp h6 => ⟨(hb.2 p hp h6).1, (hb.2 p hp h6).2.1, b5 p hp h6, (hb.2 p hp h6).2.2.2.2.1⟩) hb.1 b1 b2 b3 b4 (fun i hi => by
        rw [zup_ne (by omega), g3 36 (Or.inr (Or.inr (Or.inl rfl)))]; exact (h.1.2.2.2.2.1 i hi).symm) (fun i hi => by
        rw [zup_ne (by omega), g3 37 (Or.inr (Or.inr (Or.inr rfl)))]; exact (h.1.2.2.2.2.2 i hi).symm)
      refine ⟨M', N0 + 403 + N1, 1, fun N hN => ?_, Iv_34 ivf (fun a q => w3 a (by unfold okR at q; omega) (by unfold okR at q; omega)) (fun j q => w4 j (by unfold r7; omega)), Or.inl ⟨rfl, ⟨p1, c2⟩, p, o, g, (fun _ => .num 0), z, hz, h24, w2⟩⟩
      unfold F_R_work
      rw [ef N (by omega), zbi_some, if_pos c, w1 N (by omega)]
    · refine ⟨zup M1 34 28 v, N0 + 403, 0, fun N hN => ?_, ivf, Or.inr ⟨rfl, fun q => c (ev.trans q.2)⟩⟩
      unfold F_R_work
      rw [ef N hN, zbi_some, if_neg c]
  · refine ⟨M1, N0, 0, fun N hN => ?_, g2, Or.inr ⟨rfl, fun q => ha (pr.1.symm.trans q.1)⟩⟩
    unfold F_R_work F_R_findFault
    rw [g1 N hN, zbi_some, if_neg ha, zbi_some, if_neg (by decide)]
theorem Iv_run {M : zMem} {ts : List Nat} (h : Iv M ts) : ∃ N N' Mf M' r, F_L_execute N M = some (r, Mf) ∧ F_R_work N' Mf = some (r, M') ∧ Iv M' ts ∧ ((r = 1 ∧ ∃ q : zR, cRes Mf q ∧ rRz M' q) ∨ r = 0) := by
  obtain ⟨N, hN⟩ : ∃ N, 1000010 ≤ N := ⟨1000010, Nat.le_refl _⟩
  obtain ⟨Mf, r, f1, f2, f3, f4⟩ := Iv_ex h hN
  rcases f4 with ⟨rfl, c1, c2, nm, c3⟩ | ⟨rfl, c⟩
  · obtain ⟨M', N0, r, g1, g2, g3⟩ := Iv_wk f2 f3 nm
    rcases g3 with ⟨rfl, -, p, o, g, B, z, hz, h24, hr⟩ | ⟨-, d⟩
    · exact ⟨N, N0, Mf, M', 1, f1, g1 N0 (Nat.le_refl _), g2, Or.inl ⟨rfl, _, c3 p o g B z hz h24, hr⟩⟩
    · exact absurd ⟨c1, c2⟩ d
  · obtain ⟨M', N0, r, g1, g2, g3⟩ := Iv_wk f2 f3 (fun _ => 0)
    rcases g3 with ⟨-, d, -⟩ | ⟨rfl, -⟩
    · exact absurd d c
    · exact ⟨N, N0, Mf, M', 0, f1, g1 N0 (Nat.le_refl _), g2, Or.inr rfl⟩
theorem Iv_bad {M : zMem} {ts : List Nat} (h : Iv M ts) : ∃ N' M' r, F_R_work N' M = some (r, M') ∧ Iv M' ts := by
  obtain ⟨N, hN⟩ : ∃ N, 300 < N := ⟨301, by omega⟩
  obtain ⟨Mh, -, -, -, f4, -⟩ := Iv_rd h hN
  obtain ⟨M', N0, r, g1, g2, -⟩ := Iv_wk h f4 (fun _ => 0)
  exact ⟨N0, M', r, g1 N0 (Nat.le_refl _), g2⟩
theorem ob109 : zOb Inv Y_L_run 7 Y_R_run 7 0 := ob0 fun M ⟨ts, h⟩ => by
  obtain ⟨N, N', Mf, M', r, f1, f2, f3, f4⟩ := Iv_run h
  rcases f4 with ⟨rfl, q, ⟨⟨a1, a2, a3, a4, a5, a6, a7, a8, a9⟩, a10⟩, ⟨⟨b1, b2, b3, b4, b5, b6, -⟩, b10⟩⟩ | rfl
  · refine ⟨nI (zEnd q), Mf, M', G_L_run (N := N) (y := (nI (zEnd q), Mf)) ?_, G_R_run (N := N') (y := (nI (zEnd q), M')) ?_, ts, f3⟩
    · unfold F_L_run
      rw [f1, zbi_some, if_neg (by decide), a10]
    · unfold F_R_run
      rw [f2, zbi_some, if_neg (by decide), b10]
  · refine ⟨-5, Mf, M', G_L_run (N := N) (y := (-5, Mf)) ?_, G_R_run (N := N') (y := (-5, M')) ?_, ts, f3⟩
    · unfold F_L_run
      rw [f1, zbi_some, if_pos rfl]
    · unfold F_R_run
      rw [f2, zbi_some, if_pos rfl]
theorem ob110 : zOb Inv Y_L_outs 7 Y_R_outs 7 0 := ob0 fun M ⟨ts, h⟩ => by
  obtain ⟨N, N', Mf, M', r, f1, f2, f3, f4⟩ := Iv_run h
  rcases f4 with ⟨rfl, q, ⟨⟨a1, a2, a3, a4, a5, a6, a7, a8, a9⟩, a10⟩, ⟨⟨b1, b2, b3, b4, b5, b6, -⟩, b10⟩⟩ | rfl
  · refine ⟨nI q.2.2.2.2.2, Mf, M', G_L_outs (N := N) (y := (nI q.2.2.2.2.2, Mf)) ?_, G_R_outs (N := N') (y := (nI q.2.2.2.2.2, M')) ?_, ts, f3⟩
    · unfold F_L_outs
      rw [f1, zbi_some, if_neg (by decide), a4]
    · unfold F_R_outs
      rw [f2, zbi_some, if_neg (by decide), b4]
  · refine ⟨-5, Mf, M', G_L_outs (N := N) (y := (-5, Mf)) ?_, G_R_outs (N := N') (y := (-5, M')) ?_, ts, f3⟩
    · unfold F_L_outs
      rw [f1, zbi_some, if_pos rfl]
    · unfold F_R_outs
      rw [f2, zbi_some, if_pos rfl]
theorem ob114 : zOb Inv Y_L_turns 7 Y_R_turns 7 0 := ob0 fun M ⟨ts, h⟩ => by
  obtain ⟨N, N', Mf, M', r, f1, f2, f3, f4⟩ := Iv_run h
  rcases f4 with ⟨rfl, q, ⟨⟨a1, a2, a3, a4, a5, a6, a7, a8, a9⟩, a10⟩, ⟨⟨b1, b2, b3, b4, b5, b6, -⟩, b10⟩⟩ | rfl
  · refine ⟨nI q.2.2.2.1, Mf, M', G_L_turns (N := N) (y := (nI q.2.2.2.1, Mf)) ?_, G_R_turns (N := N') (y := (nI q.2.2.2.1, M')) ?_, ts, f3⟩
    · unfold F_L_turns
      rw [f1, zbi_some, if_neg (by decide), a5]
    · unfold F_R_turns
      rw [f2, zbi_some, if_neg (by decide), b5]
  · refine ⟨-5, Mf, M', G_L_turns (N := N) (y := (-5, Mf)) ?_, G_R_turns (N := N') (y := (-5, M')) ?_, ts, f3⟩
    · unfold F_L_turns
      rw [f1, zbi_some, if_pos rfl]
    · unfold F_R_turns
      rw [f2, zbi_some, if_pos rfl]
theorem ob115 : zOb Inv Y_L_deepest 7 Y_R_deepest 7 0 := ob0 fun M ⟨ts, h⟩ => by
  obtain ⟨N, N', Mf, M', r, f1, f2, f3, f4⟩ := Iv_run h
  rcases f4 with ⟨rfl, q, ⟨⟨a1, a2, a3, a4, a5, a6, a7, a8, a9⟩, a10⟩, ⟨⟨b1, b2, b3, b4, b5, b6, -⟩, b10⟩⟩ | rfl
  · refine ⟨nI q.2.2.2.2.1, Mf, M', G_L_deepest (N := N) (y := (nI q.2.2.2.2.1, Mf)) ?_, G_R_deepest (N := N') (y := (nI q.2.2.2.2.1, M')) ?_, ts, f3⟩
    · unfold F_L_deepest
      rw [f1, zbi_some, if_neg (by decide), a6]
    · unfold F_R_deepest
      rw [f2, zbi_some, if_neg (by decide), b6]
  · refine ⟨-5, Mf, M', G_L_deepest (N := N) (y := (-5, Mf)) ?_, G_R_deepest (N := N') (y := (-5, M')) ?_, ts, f3⟩
    · unfold F_L_deepest
      rw [f1, zbi_some, if_pos rfl]
    · unfold F_R_deepest
      rw [f2, zbi_some, if_pos rfl]
theorem ob111 : zOb Inv Y_L_output 7 Y_R_output 7 1 := ob1 fun M x ⟨ts, h⟩ => by
  obtain ⟨N, N', Mf, M', r, f1, f2, f3, f4⟩ := Iv_run h
  rcases f4 with ⟨rfl, q, ⟨⟨a1, a2, a3, a4, a5, a6, a7, a8, a9⟩, a10⟩, ⟨⟨b1, b2, b3, b4, b5, b6, -⟩, b10⟩⟩ | rfl
  · have ec : F_L_output N M x = (if x < 0 then (some ((0 : Int32), Mf)) else (if (Mf 27 3) ≤ x then (some ((0 : Int32), Mf)) else (if x < (20 : Int32) then (zix x 20 (some (Mf 30 x.toNatClampNeg, Mf))) else (some ((0 : Int32), Mf))))) := by
      unfold F_L_output
      rw [f1, zbi_some, if_neg (by decide)]
    have er : F_R_output N' Mf x = (if x < 0 then (some ((0 : Int32), M')) else (if (M' 34 42) ≤ x then (some ((0 : Int32), M')) else (zix x 20 (some (M' 58 x.toNatClampNeg, M'))))) := by
      unfold F_R_output
      rw [f2, zbi_some, if_neg (by decide)]
    rw [a4] at ec
    rw [b4] at er
    by_cases c1 : x < 0
    · rw [if_pos c1] at ec er
      exact ⟨0, Mf, M', G_L_output (N := N) (y := (0, Mf)) ec, G_R_output (N := N') (y := (0, M')) er, ts, f3⟩
    · rw [if_neg c1] at ec er
      by_cases c2 : nI q.2.2.2.2.2 ≤ x
      · rw [if_pos c2] at ec er
        exact ⟨0, Mf, M', G_L_output (N := N) (y := (0, Mf)) ec, G_R_output (N := N') (y := (0, M')) er, ts, f3⟩
      · rw [if_neg c2] at ec er
        obtain ⟨k, k1, rfl⟩ := i32_rng' c1 c2 (by omega)
        have k2 : k < 20 := Nat.lt_of_lt_of_le k1 a7
        rw [if_pos (show nI k < (20 : Int32) from nI_lt (b := 20) k2 (by omega)), zix_nI _ k2 (by omega), nI_clamp (by omega), a3 k k1] at ec
        rw [zix_nI _ k2 (by omega), nI_clamp (by omega), b3 k k1] at er
        exact ⟨q.2.2.1 4 k, Mf, M', G_L_output (N := N) (y := (q.2.2.1 4 k, Mf)) ec, G_R_output (N := N') (y := (q.2.2.1 4 k, M')) er, ts, f3⟩
  · refine ⟨0, Mf, M', G_L_output (N := N) (y := (0, Mf)) ?_, G_R_output (N := N') (y := (0, M')) ?_, ts, f3⟩
    · unfold F_L_output
      rw [f1, zbi_some, if_pos rfl]
    · unfold F_R_output
      rw [f2, zbi_some, if_pos rfl]
theorem ob112 : zOb Inv Y_L_global 7 Y_R_global 7 1 := ob1 fun M x ⟨ts, h⟩ => by
  have bad : (x < 0 ∨ (¬ x < 0 ∧ nI 8 ≤ x)) → ∃ r M1 M2, zGo Y_L_global 7 0 (zal Y_L_global [.inr 0, .inl x]) [] M (some r) M1 ∧ zGo Y_R_global 7 0 (zal Y_R_global [.inr 34, .inl x]) [] M1 (some r) M2 ∧ Inv M2 := fun hx => by
    obtain ⟨N', M', r, g1, g2⟩ := Iv_bad h
    refine ⟨0, M, M', G_L_global (N := 0) (y := (0, M)) ?_, G_R_global (N := N') (y := (0, M')) ?_, ts, g2⟩
    · unfold F_L_global
      rcases hx with hx | ⟨hx, hy⟩
      · rw [if_pos hx]
      · rw [if_neg hx, if_pos (show (8 : Int32) ≤ x from hy)]
    · unfold F_R_global
      rw [g1, zbi_some]
      by_cases c : r = 0
      · rw [if_pos c]
      · rw [if_neg c]
        rcases hx with hx | ⟨hx, hy⟩
        · rw [if_pos hx]
        · rw [if_neg hx, if_pos (show (7 : Int32) < x from (i32_sle (n := 7) (by omega)).mp hy)]
  by_cases c1 : x < 0
  · exact bad (Or.inl c1)
  · by_cases c2 : nI 8 ≤ x
    · exact bad (Or.inr ⟨c1, c2⟩)
    · obtain ⟨k, k1, rfl⟩ := i32_rng' c1 c2 (by omega)
      have c3 : ¬ (7 : Int32) < nI k := fun z => c2 ((i32_sle (n := 7) (by omega)).mpr z)
      obtain ⟨N, N', Mf, M', r, f1, f2, f3, f4⟩ := Iv_run h
      rcases f4 with ⟨rfl, q, ⟨⟨a1, a2, a3, a4, a5, a6, a7, a8, a9⟩, a10⟩, ⟨⟨b1, b2, b3, b4, b5, b6, -⟩, b10⟩⟩ | rfl
      · refine ⟨q.2.2.1 0 k, Mf, M', G_L_global (N := N) (y := (q.2.2.1 0 k, Mf)) ?_, G_R_global (N := N') (y := (q.2.2.1 0 k, M')) ?_, ts, f3⟩
        · unfold F_L_global
          rw [if_neg c1, if_neg (show ¬ (8 : Int32) ≤ nI k from c2), f1, zbi_some, if_neg (by decide), zix_nI _ k1 (by omega), nI_clamp (by omega), a1 k k1]
        · unfold F_R_global
          rw [f2, zbi_some, if_neg (by decide), if_neg c1, if_neg c3, zix_nI _ k1 (by omega), nI_clamp (by omega), b1 k k1]
      · refine ⟨0, Mf, M', G_L_global (N := N) (y := (0, Mf)) ?_, G_R_global (N := N') (y := (0, M')) ?_, ts, f3⟩
        · unfold F_L_global
          rw [if_neg c1, if_neg (show ¬ (8 : Int32) ≤ nI k from c2), f1, zbi_some, if_pos rfl]
        · unfold F_R_global
          rw [f2, zbi_some, if_pos rfl]
theorem ob113 : zOb Inv Y_L_cellAfter 7 Y_R_cellAfter 7 1 := ob1 fun M x ⟨ts, h⟩ => by
  have bad : (x < 0 ∨ (¬ x < 0 ∧ nI 16 ≤ x)) → ∃ r M1 M2, zGo Y_L_cellAfter 7 0 (zal Y_L_cellAfter [.inr 0, .inl x]) [] M (some r) M1 ∧ zGo Y_R_cellAfter 7 0 (zal Y_R_cellAfter [.inr 34, .inl x]) [] M1 (some r) M2 ∧ Inv M2 := fun hx => by
    obtain ⟨N', M', r, g1, g2⟩ := Iv_bad h
    refine ⟨0, M, M', G_L_cellAfter (N := 0) (y := (0, M)) ?_, G_R_cellAfter (N := N') (y := (0, M')) ?_, ts, g2⟩
    · unfold F_L_cellAfter
      rcases hx with hx | ⟨hx, hy⟩
      · rw [if_pos hx]
      · rw [if_neg hx, if_pos (show (16 : Int32) ≤ x from hy)]
    · unfold F_R_cellAfter
      rw [g1, zbi_some]
      by_cases c : r = 0
      · rw [if_pos c]
      · rw [if_neg c]
        rcases hx with hx | ⟨hx, hy⟩
        · rw [if_pos hx]
        · rw [if_neg hx, if_pos (show (15 : Int32) < x from (i32_sle (n := 15) (by omega)).mp hy)]
  by_cases c1 : x < 0
  · exact bad (Or.inl c1)
  · by_cases c2 : nI 16 ≤ x
    · exact bad (Or.inr ⟨c1, c2⟩)
    · obtain ⟨k, k1, rfl⟩ := i32_rng' c1 c2 (by omega)
      have c3 : ¬ (15 : Int32) < nI k := fun z => c2 ((i32_sle (n := 15) (by omega)).mpr z)
      obtain ⟨N, N', Mf, M', r, f1, f2, f3, f4⟩ := Iv_run h
      rcases f4 with ⟨rfl, q, ⟨⟨a1, a2, a3, a4, a5, a6, a7, a8, a9⟩, a10⟩, ⟨⟨b1, b2, b3, b4, b5, b6, -⟩, b10⟩⟩ | rfl
      · refine ⟨q.2.2.1 1 k, Mf, M', G_L_cellAfter (N := N) (y := (q.2.2.1 1 k, Mf)) ?_, G_R_cellAfter (N := N') (y := (q.2.2.1 1 k, M')) ?_, ts, f3⟩
        · unfold F_L_cellAfter
          rw [if_neg c1, if_neg (show ¬ (16 : Int32) ≤ nI k from c2), f1, zbi_some, if_neg (by decide), zix_nI _ k1 (by omega), nI_clamp (by omega), a2 k k1]
        · unfold F_R_cellAfter
          rw [f2, zbi_some, if_neg (by decide), if_neg c1, if_neg c3, zix_nI _ k1 (by omega), nI_clamp (by omega), b2 k k1]
      · refine ⟨0, Mf, M', G_L_cellAfter (N := N) (y := (0, Mf)) ?_, G_R_cellAfter (N := N') (y := (0, M')) ?_, ts, f3⟩
        · unfold F_L_cellAfter
          rw [if_neg c1, if_neg (show ¬ (16 : Int32) ≤ nI k from c2), f1, zbi_some, if_pos rfl]
        · unfold F_R_cellAfter
          rw [f2, zbi_some, if_pos rfl]
