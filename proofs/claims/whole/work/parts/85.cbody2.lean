/-! THE CLASS READS A TEXT AS Z DOES: a token of a body, in memory -/
/-- a token: the class goes on as Z does, or refuses it -/
def cNext (N n : Nat) (M : zMem) (tx : Nat → Nat) (len nx pl : Nat) (o : Option zZ) : Prop := match o with
  | none => ∃ M', F_Pars_read_p10 N (n + 1) M (nI len) (nI nx) (nI pl) = some (zup M' 14 1 (nI pl)) ∧ kR M M'
  | some z' => ∃ M', F_Pars_read_p10 N (n + 1) M (nI len) (nI nx) (nI pl) = F_Pars_read_p10 N n M' (nI len) (nI z'.1) (nI (pl + 1)) ∧ Cz M' tx (pl + 1) z' ∧ kR M M'
theorem hasC_pw {B B' : Nat → T} {d q c : Nat} {l : T} (hB : ∀ i, i < d → B' (10 + i) = B (10 + i)) (hl : B' (10 + d) = l) : Hd B' (d + 1) q c ↔ Hd B d q c ∨ hasC l q c := by
  constructor
  · rintro ⟨d', h1, h2⟩
    by_cases c' : d' = d
    · subst c'; rw [hl] at h2; exact Or.inr h2
    · exact Or.inl ⟨d', by omega, by rw [← hB d' (by omega)]; exact h2⟩
  · rintro (⟨d', h1, h2⟩ | h2)
    · exact ⟨d', by omega, by rw [hB d' h1]; exact h2⟩
    · exact ⟨d, by omega, by rw [hl]; exact h2⟩
theorem cBody {N n len pl t : Nat} {M : zMem} {tx : Nat → Nat} {nx : Nat} {cs : List T} {fs : List zF} {J : zJ} {B : Nat → T} (hN : 300 < N) (h1 : M 1 pl = nI t) (htx : tx pl = t) (ht : t < 174) (hp : pl < len) (hl : len ≤ 150) (hn : 9 ≤ nx) (h24 : nx ≠ 24) (hg : zGd (nx, cs, fs, J, B)) (hb : zBd pl (nx, cs, fs, J, B)) (hnil : zNil (nx, cs, fs, J, B)) (hC : Bz M tx pl (nx, cs, fs, J, B)) : cNext N n M tx len nx pl (zStep t pl (nx, cs, fs, J, B)) := by
  obtain ⟨K, D0, e0, b0, a, hK, hR, hP, hD, hB⟩ := hC
  have hR : RK (kOwn K.2.2.2.2.2) tx e0 b0 D0 pl nx cs fs K := hR
  have hP : PRm M J pl := hP
  have hD : Dn tx D0.1 D0.2.1 D0.2.2 (M 9) J B e0 a := hD
  have hB : BC M tx J (bot fs) e0 b0 a D0 K.2.2.2.2.2 := hB
  have h23 : nx = 23 → K.2.2.1 ≠ [] := fun q => by
    have hR2 := hR.2
    rw [if_pos q] at hR2
    obtain ⟨e, -, pd, c, en, os, fl, cl, ow, lo, a', eK, -⟩ := hR2
    rw [eK]
    exact List.cons_ne_nil _ _
  have hz := KZ_tok (t := t) (by omega) htx ht hn h24 hg hb hnil hR
  have hnx := zGd_nx hg
  have hnx : nx ≤ 24 := hnx
  have hsb := zStepB (t := t) (pl := pl) (k0 := bot fs) hn hg rfl
  have hs8 := zStep8 (t := t) (pl := pl) hnil
  have hok := zStep_ok (t := t) (pl := pl) (z := (nx, cs, fs, J, B)) (by omega) hg hb
  generalize zStep t pl (nx, cs, fs, J, B) = o at hz hsb hs8 hok
  cases o with
  | none =>
    have hz : (kTok nx t (nI pl) K).1 = 99 := hz
    obtain ⟨M', e1, k1, k2⟩ := cTok (n := n) hN hK h23 h1 ht hp hl hn (by omega) (Or.inl hz)
    rw [if_pos hz] at e1
    exact ⟨M', e1, kR_of k2⟩
  | some z' =>
    obtain ⟨nx', cs', fs', J', B'⟩ := z'
    obtain ⟨z1, z2⟩ := hz
    have hg' := (hok _ rfl).1
    have hnx' : nx' ≤ 24 := zGd_nx hg'
    have hq : (kTok nx t (nI pl) K).1 = 99 ∨ (kTok nx t (nI pl) K).1 ≤ 24 := by rw [z1]; exact Or.inr hnx'
    obtain ⟨M', e1, k1, k2⟩ := cTok (n := n) hN hK h23 h1 ht hp hl hn (by omega) hq
    rw [if_neg (by rw [z1]; omega), z1] at e1
    refine ⟨M', e1, ⟨hs8 _ rfl, ?_⟩, kR_of k2⟩
    generalize (kTok nx t (nI pl) K).2 = K' at k1 z2
    have m : ∀ a, a = 7 ∨ a = 8 ∨ a = 9 ∨ a = 10 ∨ a = 11 → M' a = M a := fun a q => k2.1 a (by omega) (by omega) (by omega) (by omega) (by omega) (by omega) (by omega) (by omega) (by omega) (by omega) (by omega) (by omega) (by omega) (by omega)
    have how : K'.2.2.2.2.2 = K.2.2.2.2.2 := by
      have a1 : M' 7 8 = K'.2.2.2.2.2 := k1.2.2.2.2.2
      have a2 : M 7 8 = K.2.2.2.2.2 := hK.2.2.2.2.2
      rw [← a1, m 7 (by omega), a2]
    obtain ⟨s1, s2, s3⟩ := hsb _ rfl
    have hPn : ∀ n, PRm M' (ndn J n) (pl + 1) := fun n => PRm_same hP (by rw [m 7 (by omega)]) (m 8 (by omega)) (m 10 (by omega)) (m 11 (by omega)) (fun i => ⟨ndn_o _ _ _ _ (by omega), ndn_o _ _ _ _ (by omega), ndn_o _ _ _ _ (by omega)⟩) (ndn_o _ _ _ _ (by omega)) (by omega)
    have hDn : ∀ n, Dn tx D0.1 D0.2.1 D0.2.2 (M' 9) (ndn J n) B e0 a := fun n => by
      rw [m 9 (by omega)]
      exact Dn_J hD (fun p => ⟨ndn_o _ _ _ _ (by omega), ndn_o _ _ _ _ (by omega), fun q => by rw [ndn_o _ _ _ _ (by omega)]; exact q⟩) (ndn_o _ _ _ _ (by omega)) (fun d _ => ndn_o _ _ _ _ (by omega))
    have n0 : ∀ (n i : Nat), ndn J n 4 3 = J 4 3 ∧ ndn J n 4 0 = J 4 0 ∧ ndn J n 4 1 = J 4 1 ∧ ndn J n 4 2 = J 4 2 ∧ ndn J n 5 i = J 5 i ∧ ndn J n 6 i = J 6 i ∧ ndn J n 3 i = J 3 i ∧ ndn J n 0 i = J 0 i := fun n i => ⟨ndn_o _ _ _ _ (by omega), ndn_o _ _ _ _ (by omega), ndn_o _ _ _ _ (by omega), ndn_o _ _ _ _ (by omega), ndn_o _ _ _ _ (by omega), ndn_o _ _ _ _ (by omega), ndn_o _ _ _ _ (by omega), ndn_o _ _ _ _ (by omega)⟩
    show if nx' = 24 then _ else if nx' ≤ 8 then _ else _
    by_cases c0 : nx' = 0 ∨ nx' = 24
    · rw [if_pos c0] at z2
      obtain ⟨l, nn, bd, hsl, hJB⟩ := z2
      obtain ⟨⟨x1, x2, x3⟩, y1, y2, ⟨y3, y3'⟩, ⟨h, y4, y5, y6, y7, y8⟩, y9, y10⟩ := bd
      obtain ⟨pd, c, os, fl, cl, ow⟩ := K'
      have y1 : pd = [] := y1
      have y2 : os = [] := y2
      subst y1 y2
      have how : ow = K.2.2.2.2.2 := how
      have y4 : c.1 = h + 2 := y4
      have x2 : c.1 + 0 ≤ 2 * (pl + 1) := x2
      obtain ⟨t1, t2, hB⟩ := hB
      have hDc : Dn tx c fl cl (M' 9) (ndn J nn) B e0 a ∧ e0 ≤ h := by
        refine ⟨?_, Cm_le y5⟩
        have hab : a ≤ b0 := by
          rcases hB with ⟨-, -, -, -, -, q⟩ | ⟨-, -, -, q⟩
          · exact q.1
          · omega
        exact Dn_same (fun i q => y3 i q) (fun i q => y3' i (by omega)) (Nat.le_refl _) (fun _ _ => rfl) (hDn nn)
      obtain ⟨hDc, hle⟩ := hDc
      rcases c0 with rfl | rfl
      · -- the end of a proc
        have hk := s1 rfl
        have hB' : IPm M J ∧ (J 4 2 = 0 → M 9 (J 4 0) = nI e0 ∧ J 6 (J 4 0) ≠ 1) ∧ K.2.2.2.2.2 = nI (J 4 1) ∧ J 5 (J 4 3) = a ∧ Hh tx D0.2.1 D0.2.2.1 a b0 := by
          rcases hB with ⟨-, q⟩ | ⟨q1, -⟩
          · exact q
          · omega
        obtain ⟨q1, q2, q3, q4, q5⟩ := hB'
        rw [if_neg (by omega), if_pos (by omega)]
        rw [if_pos rfl] at hJB
        have eF : sFin 3000 [l] (ndn J nn) B = (if J 4 2 = 0 then ([], jup (jup (jup (ndn J nn) 4 3 (J 4 3 + 1)) 3 (J 4 0) (J 4 1)) 6 (J 4 0) 1, bup (bup B (10 + J 4 3) l) (J 4 0) l) else ([], jup (ndn J nn) 4 3 (J 4 3 + 1), bup B (10 + J 4 3) l)) := by
          have e0 : sFin 3000 [l] (ndn J nn) B = (if ndn J nn 4 2 = 0 then ([], jup (jup (jup (ndn J nn) 4 3 (ndn J nn 4 3 + 1)) 3 (ndn J nn 4 0) (ndn J nn 4 1)) 6 (ndn J nn 4 0) 1, bup (bup B (10 + ndn J nn 4 3) l) (ndn J nn 4 0) l) else ([], jup (ndn J nn) 4 3 (ndn J nn 4 3 + 1), bup B (10 + ndn J nn 4 3) l)) := rfl
          rw [e0, (n0 nn 0).1, (n0 nn 0).2.1, (n0 nn 0).2.2.1, (n0 nn 0).2.2.2.1]
        obtain ⟨i1, i2, i3, i4, i5⟩ := q1
        -- what the new numbers and trees are
        have hJ : (∀ p, J' 0 p = J 0 p ∧ J' 1 p = J 1 p ∧ J' 2 p = J 2 p ∧ J' 5 p = J 5 p) ∧ J' 4 4 = J 4 4 ∧ J' 4 3 = J 4 3 + 1 ∧ (∀ p, J' 6 p = (if J 4 2 = 0 ∧ p = J 4 0 then 1 else J 6 p)) ∧ (∀ p, J' 3 p = (if J 4 2 = 0 ∧ p = J 4 0 then J 4 1 else J 3 p)) ∧ (∀ i, B' i = (if i = 10 + J 4 3 then l else if J 4 2 = 0 ∧ i = J 4 0 then l else B i)) := by
          rw [eF] at hJB
          by_cases c2 : J 4 2 = 0
          · rw [if_pos c2] at hJB
            cases hJB
            refine ⟨fun p => by simp [jup, ndn], by simp [jup, ndn], by simp [jup, ndn], fun p => ?_, fun p => ?_, fun i => ?_⟩
            · by_cases z : p = J 4 0 <;> simp [jup, ndn, c2, z]
            · by_cases z : p = J 4 0 <;> simp [jup, ndn, c2, z]
            · simp only [bup]
              by_cases z : i = 10 + J 4 3
              · simp [z]
              · by_cases z2 : i = J 4 0
                · simp [z, z2, c2]
                · simp [z, z2, c2]
          · rw [if_neg c2] at hJB
            cases hJB
            refine ⟨fun p => by simp [jup, ndn], by simp [jup, ndn], by simp [jup, ndn], fun p => by simp [jup, ndn, c2], fun p => by simp [jup, ndn, c2], fun i => ?_⟩
            simp only [bup]
            by_cases z : i = 10 + J 4 3
            · rw [if_pos z, if_pos z]
            · rw [if_neg z, if_neg z, if_neg (fun w => c2 w.1)]
        obtain ⟨j1, j2, j3, j4, j5, j6⟩ := hJ
        refine ⟨c, fl, cl, ow, pl + 1, k1, by omega, x3, ?_, ?_, ⟨Nat.le_refl _, fun i a b => by omega⟩, fun _ => rfl, fun q => absurd q (show ¬ (0 : Nat) = 1 by decide), fun q => absurd q (show ¬ 2 ≤ 0 by omega)⟩
        · exact PRm_same hP (by rw [m 7 (by omega)]) (m 8 (by omega)) (m 10 (by omega)) (m 11 (by omega)) (fun i => ⟨(j1 i).1, (j1 i).2.1, (j1 i).2.2.1⟩) j2 (by omega)
        · obtain ⟨d1, d2, d3, d4⟩ := hDc
          rw [(n0 nn 0).1] at d2 d3 d4
          have hBo : Bo c (J 4 1) l e0 c.1 := ⟨h, by rw [← q3]; exact y5, y6, y7, y8, by omega⟩
          show (∀ p, p < 4 → J' 6 p = 1 → _) ∧ _
          refine ⟨fun p hp4 h6 => ?_, ?_, ?_, fun d hd => ?_⟩
          · show J' 0 p = 1 ∧ sh (B' p) 2 = true ∧ ∃ s, M' 9 p = nI s ∧ Bo c (J' 3 p) (B' p) s c.1
            have h6 : J' 6 p = 1 := h6
            rw [j4 p] at h6
            rw [(j1 p).1, j5 p, j6 p, if_neg (by omega)]
            by_cases z : J 4 2 = 0 ∧ p = J 4 0
            · rw [if_pos z, if_pos z]
              refine ⟨by rw [z.2]; exact i5, hsl, e0, by rw [m 9 (by omega), z.2]; exact (q2 z.1).1, hBo⟩
            · rw [if_neg z] at h6
              rw [if_neg z, if_neg z]
              obtain ⟨a1, a2, s, a3, a4⟩ := d1 p hp4 (by rw [(n0 nn p).2.2.2.2.2.1]; exact h6)
              rw [(n0 nn p).2.2.2.2.2.2.1] at a4
              rw [(n0 nn p).2.2.2.2.2.2.2] at a1
              exact ⟨a1, a2, s, a3, Bo_same (fun i _ => ⟨rfl, rfl⟩) (by omega) a4⟩
          · show Fo tx fl 0 (pl + 1) 1 (pw tx J' B' (J' 4 3)) 1
            have e5 : pw tx J' B' (J' 4 3) = pw tx J B (J 4 3) ++ (hdW tx 150 a ++ (171 :: (Wr l 5 ++ [163]))) := by
              rw [j3]
              simp only [pw]
              rw [pw_congr (J := J) (B := B) (J 4 3) (fun i q => ⟨(j1 i).2.2.2, by rw [j6, if_neg (by omega), if_neg (by omega)]⟩), (j1 (J 4 3)).2.2.2, q4, j6, if_pos rfl]
            rw [e5]
            have d2' : Fo tx fl 0 a 1 (pw tx J B (J 4 3)) 1 := by
              rw [pw_congr (J := J) (B := B) (J 4 3) (fun i q => ⟨(n0 nn i).2.2.2.2.1, rfl⟩)] at d2
              exact d2
            have hh : Hh tx fl cl.1 a b0 := ⟨q5.1, fun i z1 z2 => by
              obtain ⟨w1, w2, w3, w4, w5⟩ := q5.2 i z1 z2
              obtain ⟨v1, v2, v3⟩ := y3' i z2
              exact ⟨w1, w2, w3, v1.trans w4, v2.trans w5⟩⟩
            exact Fo_cat d2' (Fo_cat (Hh_all (cl := cl) hh t1 t2).1 y9)
          · show CaH cl.1 cl.2 (Hd B' (J' 4 3)) 0 (pl + 1)
            rw [j3]
            have hh : Hh tx fl cl.1 a b0 := ⟨q5.1, fun i z1 z2 => by
              obtain ⟨w1, w2, w3, w4, w5⟩ := q5.2 i z1 z2
              obtain ⟨v1, v2, v3⟩ := y3' i z2
              exact ⟨w1, w2, w3, v1.trans w4, v2.trans w5⟩⟩
            refine CaH_cat d3 (CaH_cat (H := hasC l) (Hh_all (cl := cl) hh t1 t2).2 y10 (fun q x => by simp)) (fun q x => hasC_pw (l := l) (fun i hi => by rw [j6, if_neg (by omega), if_neg (by omega)]) (by rw [j6, if_pos rfl]))
          · show sh (B' (10 + d)) 2 = true
            have hd : d < J' 4 3 := hd
            rw [j3] at hd
            rw [j6]
            by_cases z : d = J 4 3
            · rw [if_pos (by omega)]; exact hsl
            · rw [if_neg (by omega), if_neg (by omega)]; exact d4 d (by omega)
      · -- the end of the program
        have hk := s2 rfl
        rcases hB with ⟨q1, -⟩ | ⟨-, q1, q2, q3⟩
        · omega
        subst q3
        rw [if_pos rfl]
        rw [if_neg (by omega)] at hJB
        have hJB : (J', B') = (jup (ndn J nn) 7 0 1, bup B 4 l) := hJB
        cases hJB
        obtain ⟨d1, d2, d3, d4⟩ := hDc
        have v : ∀ a i, a ≠ 7 → jup (ndn J nn) 7 0 1 a i = ndn J nn a i := fun a i q => by simp [jup, q]
        have bb : ∀ i, i ≠ 4 → bup B 4 l i = B i := fun i q => by unfold bup; rw [if_neg q]
        have b4 : bup B 4 l 4 = l := by unfold bup; rw [if_pos rfl]
        show Ez M' tx (pl + 1) (jup (ndn J nn) 7 0 1) (bup B 4 l)
        refine ⟨c, fl, cl, ow, e0, k1, ?_, fun p hp4 h6 => ?_, fun d hd => ?_, by rw [b4]; exact hsl, by rw [m 7 (by omega)]; exact q2, ?_, ?_, ?_, fun i z1 z2 => (x3 i z1 z2).2⟩
        · exact PRm_same (hPn nn) rfl rfl rfl rfl (fun i => ⟨v _ _ (by omega), v _ _ (by omega), v _ _ (by omega)⟩) (v _ _ (by omega)) (Nat.le_refl _)
        · rw [v _ _ (by omega)] at h6
          rw [v _ _ (by omega), v _ _ (by omega), bb p (by omega)]
          obtain ⟨a1, a2, s, a3, a4⟩ := d1 p hp4 h6
          exact ⟨a1, a2, s, a3, Bo_same (fun i _ => ⟨rfl, rfl⟩) (by omega) a4⟩
        · rw [v _ _ (by omega)] at hd
          rw [bb _ (by omega)]
          exact d4 d hd
        · rw [b4]
          refine ⟨h, ?_, y6, y7, y8, by omega⟩
          have : kOwn (nI 0) = kOwn K.2.2.2.2.2 := by rw [q1]; rfl
          rw [this]
          exact y5
        · rw [v _ _ (by omega), b4, pw_congr (J := ndn J nn) (B := B) _ (fun i q => ⟨v _ _ (by omega), bb _ (by omega)⟩)]
          exact Fo_cat d2 y9
        · rw [v _ _ (by omega), b4]
          refine CaH_cat d3 y10 (fun q x => ?_)
          have : Hd (bup B 4 l) (ndn J nn 4 3) q x ↔ Hd B (ndn J nn 4 3) q x := by
            constructor
            · rintro ⟨d', w1, w2⟩
              exact ⟨d', w1, by rw [bb _ (by omega)] at w2; exact w2⟩
            · rintro ⟨d', w1, w2⟩
              exact ⟨d', w1, by rw [bb _ (by omega)]; exact w2⟩
          rw [this]
    · rw [if_neg c0] at z2
      obtain ⟨hRk, rfl, nn, rfl⟩ := z2
      have h9 : 9 ≤ nx' := by
        -- the frames are not empty
        by_cases q : nx' ≤ 8
        · have hg'' := hg'
          simp only [zGd] at hg''
          rw [if_pos (Or.inl q)] at hg''
          have := s3 (fun z => c0 (Or.inl z)) (fun z => c0 (Or.inr z))
          have hbf : bot fs = 14 ∨ bot fs = 15 := by
            obtain ⟨-, -, q | q⟩ := hB
            · exact Or.inl q.1
            · exact Or.inr q.1
          have h2 : fs' = [] := hg''.2
          rw [h2] at this
          simp [bot] at this
          omega
        · omega
      rw [if_neg (fun z => c0 (Or.inr z)), if_neg (by omega)]
      have hbot : bot fs' = bot fs := s3 (fun z => c0 (Or.inl z)) (fun z => c0 (Or.inr z))
      refine ⟨K', D0, e0, b0, a, k1, ?_, hPn nn, hDn nn, ?_⟩
      · show RK (kOwn K'.2.2.2.2.2) tx e0 b0 D0 (pl + 1) nx' cs' fs' K'
        rw [how]
        exact hRk
      · show BC M' tx (ndn J nn) (bot fs') e0 b0 a D0 K'.2.2.2.2.2
        rw [how, hbot]
        obtain ⟨t1, t2, hB⟩ := hB
        refine ⟨t1, t2, ?_⟩
        rcases hB with ⟨q0, q1, q2, q3, q4, q5⟩ | ⟨q0, q1, q2, q3⟩
        · refine Or.inl ⟨q0, ?_, ?_, ?_, ?_, q5⟩
          · obtain ⟨i1, i2, i3, i4, i5⟩ := q1
            unfold IPm
            rw [m 7 (by omega), (n0 nn 0).2.1, (n0 nn 0).2.2.1, (n0 nn 0).2.2.2.1, (n0 nn _).2.2.2.2.2.2.2]
            exact ⟨i1, i2, i3, i4, i5⟩
          · rw [m 9 (by omega), (n0 nn 0).2.1, (n0 nn 0).2.2.2.1, (n0 nn _).2.2.2.2.2.1]
            exact q2
          · rw [(n0 nn 0).2.2.1]; exact q3
          · rw [(n0 nn 0).1, (n0 nn _).2.2.2.2.1]; exact q4
        · exact Or.inr ⟨q0, q1, by rw [m 7 (by omega)]; exact q2, q3⟩
