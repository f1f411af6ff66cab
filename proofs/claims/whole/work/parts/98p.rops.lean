/-! what the reference's run changes -/
section RH
variable {M0 M M' : zMem} {L P : Nat → Int32} {s s' : zE} {d c h n st mk x : Nat} {W W' : List (Nat × Nat)} {vs vs' : List Int32} {v : Int32}
theorem gStL (r : rM M0 M L P s d W vs) (hx : x < 8) (hd : 0 < d) (v : Int32) : rM M0 (zup M 56 (8 * d + x) v) L P (vSet 2 x v s) d W vs := by
  obtain ⟨a1, a2, a3, a4, a5, a6, a7⟩ := r.1
  refine rM_s r ⟨fun i hi => ?_, fun i hi => ?_, fun i hi => ?_, ?_, ?_, ?_, a7⟩ (fun j hj => by rw [zup_ne (by omega)]) ⟨zup_ne (by omega), zup_ne (by omega), zup_ne (by omega), zup_ne (by omega)⟩ (fun q i hi => ?_) (fun i h8 hi => ?_) (fun a q1 q2 => zup_ne (by omega)) (fun j q => by rw [zup_ne (by omega)])
  · show _ = zup s.1 2 x v 0 i
    rw [zup_ne (by omega), zup_ne (by omega)]; exact a1 i hi
  · show _ = zup s.1 2 x v 1 i
    rw [zup_ne (by omega), zup_ne (by omega)]; exact a2 i hi
  · show _ = zup s.1 2 x v 4 i
    rw [zup_ne (by omega), zup_ne (by omega)]; exact a3 i hi
  · rw [zup_ne (by omega)]; exact a4
  · rw [zup_ne (by omega)]; exact a5
  · rw [zup_ne (by omega)]; exact a6
  · show _ = zup s.1 2 x v 2 i
    rw [zup_ap, zup_ap, if_pos rfl, if_pos rfl]
    by_cases z : i = x
    · rw [if_pos (by omega), if_pos z]
    · rw [if_neg (by omega), if_neg z]; exact r.2.2.2.2.1 q i hi
  · rw [zup_ap, if_pos rfl, if_neg (by omega)]
theorem gStG (r : rM M0 M L P s d W vs) (hx : x < 8) (v : Int32) : rM M0 (zup M 59 x v) L P (vSet 0 x v s) d W vs := by
  obtain ⟨a1, a2, a3, a4, a5, a6, a7⟩ := r.1
  refine rM_s r ⟨fun i hi => ?_, fun i hi => ?_, fun i hi => ?_, ?_, ?_, ?_, a7⟩ (fun j hj => by rw [zup_ne (by omega)]) ⟨zup_ne (by omega), zup_ne (by omega), zup_ne (by omega), zup_ne (by omega)⟩ (fun q i hi => ?_) (fun i h8 hi => ?_) (fun a q1 q2 => zup_ne (by omega)) (fun j q => by rw [zup_ne (by omega)])
  · show _ = zup s.1 0 x v 0 i
    rw [zup_ap, zup_ap, if_pos rfl, if_pos rfl]
    by_cases z : i = x
    · rw [if_pos z, if_pos z]
    · rw [if_neg z, if_neg z]; exact a1 i hi
  · show _ = zup s.1 0 x v 1 i
    rw [zup_ne (by omega), zup_ne (by omega)]; exact a2 i hi
  · show _ = zup s.1 0 x v 4 i
    rw [zup_ne (by omega), zup_ne (by omega)]; exact a3 i hi
  · rw [zup_ne (by omega)]; exact a4
  · rw [zup_ne (by omega)]; exact a5
  · rw [zup_ne (by omega)]; exact a6
  · show _ = zup s.1 0 x v 2 i
    rw [zup_ne (by omega), zup_ne (by omega)]; exact r.2.2.2.2.1 q i hi
  · rw [zup_ne (by omega)]
theorem gStC (r : rM M0 M L P s d W vs) (v : Int32) : rM M0 (zup M 60 x v) L P (vSet 1 x v s) d W vs := by
  obtain ⟨a1, a2, a3, a4, a5, a6, a7⟩ := r.1
  refine rM_s r ⟨fun i hi => ?_, fun i hi => ?_, fun i hi => ?_, ?_, ?_, ?_, a7⟩ (fun j hj => by rw [zup_ne (by omega)]) ⟨zup_ne (by omega), zup_ne (by omega), zup_ne (by omega), zup_ne (by omega)⟩ (fun q i hi => ?_) (fun i h8 hi => ?_) (fun a q1 q2 => zup_ne (by omega)) (fun j q => by rw [zup_ne (by omega)])
  · show _ = zup s.1 1 x v 0 i
    rw [zup_ne (by omega), zup_ne (by omega)]; exact a1 i hi
  · show _ = zup s.1 1 x v 1 i
    rw [zup_ap, zup_ap, if_pos rfl, if_pos rfl]
    by_cases z : i = x
    · rw [if_pos z, if_pos z]
    · rw [if_neg z, if_neg z]; exact a2 i hi
  · show _ = zup s.1 1 x v 4 i
    rw [zup_ne (by omega), zup_ne (by omega)]; exact a3 i hi
  · rw [zup_ne (by omega)]; exact a4
  · rw [zup_ne (by omega)]; exact a5
  · rw [zup_ne (by omega)]; exact a6
  · show _ = zup s.1 1 x v 2 i
    rw [zup_ne (by omega), zup_ne (by omega)]; exact r.2.2.2.2.1 q i hi
  · rw [zup_ne (by omega)]
theorem gOut (r : rM M0 M L P s d W vs) (h20 : ¬ s.2.2.2 = 20) (v : Int32) : rM M0 (zup (zup M 58 s.2.2.2 v) 34 42 (nI (s.2.2.2 + 1))) L P (zup s.1 4 s.2.2.2 v, s.2.1, s.2.2.1, s.2.2.2 + 1) d W vs := by
  obtain ⟨a1, a2, a3, a4, a5, a6, a7, a8, a9⟩ := r.1
  refine rM_s r ⟨fun i hi => ?_, fun i hi => ?_, fun i (hi : i < s.2.2.2 + 1) => ?_, ?_, ?_, ?_, ?_, a8, a9⟩ (fun j hj => by rw [z34 (by omega), zup_ne (by omega)]) ⟨by rw [zup_ne (by omega), zup_ne (by omega)], by rw [zup_ne (by omega), zup_ne (by omega)], by rw [zup_ne (by omega), zup_ne (by omega)], by rw [zup_ne (by omega), zup_ne (by omega)]⟩ (fun q i hi => ?_) (fun i h8 hi => ?_) (fun a q1 q2 => by rw [zup_ne q1, zup_ne (by omega)]) (fun j q => by rw [z34 (fun z => q (by unfold r7; omega)), zup_ne (by omega)])
  · show _ = zup s.1 4 s.2.2.2 v 0 i
    rw [zup_ne (by omega), zup_ne (by omega), zup_ne (by omega)]; exact a1 i hi
  · show _ = zup s.1 4 s.2.2.2 v 1 i
    rw [zup_ne (by omega), zup_ne (by omega), zup_ne (by omega)]; exact a2 i hi
  · show _ = zup s.1 4 s.2.2.2 v 4 i
    rw [zup_ne (by omega), zup_ap, zup_ap, if_pos rfl, if_pos rfl]
    by_cases z : i = s.2.2.2
    · rw [if_pos z, if_pos z]
    · rw [if_neg z, if_neg z]; exact a3 i (by omega)
  · rw [zup_self, pk_us]
  · rw [z34 (by omega), zup_ne (by omega)]; exact a5
  · rw [z34 (by omega), zup_ne (by omega)]; exact a6
  · show s.2.2.2 + 1 ≤ 20; omega
  · show _ = zup s.1 4 s.2.2.2 v 2 i
    rw [zup_ne (by omega), zup_ne (by omega), zup_ne (by omega)]; exact r.2.2.2.2.1 q i hi
  · rw [zup_ne (by omega), zup_ne (by omega)]
/-- the level's base: what waits below the body, and the values there -/
def rBs (W : List (Nat × Nat)) (vs : List Int32) (Wb : List (Nat × Nat)) (vb : List Int32) (d : Nat) : Prop := d = 0 ∨ ∃ W1 vs1, W = W1 ++ (4000, vb.length) :: Wb ∧ (∀ w, w ∈ W1 → ¬ w.1 = 4000 ∧ w.1 < 4100) ∧ vs = vs1 ++ vb
theorem rBs_w {Wb : List (Nat × Nat)} {vb : List Int32} (g : rBs W vs Wb vb d) (hc : c < 4000) : rBs ((c, h) :: W) vs Wb vb d := by
  rcases g with g | ⟨W1, vs1, g1, g2, g3⟩
  · exact Or.inl g
  · refine Or.inr ⟨(c, h) :: W1, vs1, by rw [g1]; rfl, fun w hw => ?_, g3⟩
    rcases List.mem_cons.mp hw with rfl | hw
    · exact ⟨by show ¬ c = 4000; omega, by show c < 4100; omega⟩
    · exact g2 w hw
theorem rBs_v {Wb : List (Nat × Nat)} {vb l : List Int32} (g : rBs W vs Wb vb d) : rBs W (l ++ vs) Wb vb d := by
  rcases g with g | ⟨W1, vs1, g1, g2, g3⟩
  · exact Or.inl g
  · exact Or.inr ⟨W1, l ++ vs1, g1, g2, by rw [g3, List.append_assoc]⟩
theorem rBs_1 {Wb : List (Nat × Nat)} {vb : List Int32} (g : rBs W vs Wb vb d) : rBs W (v :: vs) Wb vb d := rBs_v (l := [v]) g
theorem rWt_app {M : zMem} : ∀ {W1 W2 : List (Nat × Nat)}, rWt M (W1 ++ W2) → rWt M W2
  | [], W2, g => g
  | w :: r, W2, g => rWt_app g.2.2
theorem rVs_app {M : zMem} : ∀ {W1 W2 : List Int32}, rVs M (W1 ++ W2) → rVs M W2
  | [], W2, g => g
  | w :: r, W2, g => rVs_app g.2
/-- what waits is dropped down to the body's base -/
theorem gDrop {Wb : List (Nat × Nat)} {hb : Nat} : ∀ (W1 : List (Nat × Nat)) (M : zMem) (W0 : Nat), M 34 33 = nI (W1.length + 1 + Wb.length) → rWt M (W1 ++ (4000, hb) :: Wb) → (∀ w, w ∈ W1 → ¬ w.1 = 4000 ∧ w.1 < 4100) → W1.length + Wb.length < 3590 → ∀ N n (l1 : Int32), W1.length + 1 < n → F_R_comeBack_p9 N n M l1 0 = F_R_comeBack_p9 N (n - W1.length - 1) (zup M 34 33 (nI Wb.length)) l1 1
  | [], M, W0, h33, hw, _, hl, N, n, l1, hn => by
    obtain ⟨n, rfl⟩ : ∃ n', n = n' + 1 := ⟨n - 1, by omega⟩
    simp only [List.length_nil, Nat.zero_add] at h33 hl
    have e53 : zup M 34 33 (nI Wb.length) 53 Wb.length = nI 4000 := by rw [zup_ne (by omega)]; exact hw.1
    have e33 : zup M 34 33 (nI Wb.length) 34 33 = nI Wb.length := by rw [zup_self, pk_us]
    rw [F_R_comeBack_p9, if_pos rfl, h33, show nI (1 + Wb.length) - 1 = nI Wb.length from by rw [Nat.add_comm]; exact nI_pred _, zset_eq, e33, zix_nI _ (by omega) (by omega), nI_clamp (by omega), e53, if_pos (by decide)]
    rfl
  | w :: r, M, W0, h33, hw, hc, hl, N, n, l1, hn => by
    obtain ⟨n, rfl⟩ : ∃ n', n = n' + 1 := ⟨n - 1, by omega⟩
    simp only [List.length_cons] at h33 hl hn
    have el : (r ++ (4000, hb) :: Wb).length = r.length + 1 + Wb.length := by simp <;> omega
    have e53 : zup M 34 33 (nI (r.length + 1 + Wb.length)) 53 (r.length + 1 + Wb.length) = nI w.1 := by rw [zup_ne (by omega), ← el]; exact hw.1
    have e33 : zup M 34 33 (nI (r.length + 1 + Wb.length)) 34 33 = nI (r.length + 1 + Wb.length) := by rw [zup_self, pk_us]
    obtain ⟨w1, w2⟩ := hc w List.mem_cons_self
    have ne : ¬ nI w.1 = (4000 : Int32) := fun z => w1 (nI_inj (b := 4000) (by omega) (by omega) z)
    rw [F_R_comeBack_p9, if_pos rfl, h33, show nI (r.length + 1 + 1 + Wb.length) - 1 = nI (r.length + 1 + Wb.length) from by rw [show r.length + 1 + 1 + Wb.length = r.length + 1 + Wb.length + 1 by omega]; exact nI_pred _, zset_eq, e33, zix_nI _ (by omega) (by omega), nI_clamp (by omega), e53, if_neg ne]
    show F_R_comeBack_p9 N n _ l1 0 = _
    rw [gDrop r _ W0 e33 (rWt_same (fun i _ => ⟨by rw [zup_ne (by omega)], by rw [zup_ne (by omega)]⟩) hw.2.2) (fun w hw => hc w (List.mem_cons_of_mem _ hw)) (by omega) N n l1 (by omega)]
    have e : zup (zup M 34 33 (nI (r.length + 1 + Wb.length))) 34 33 (nI Wb.length) = zup M 34 33 (nI Wb.length) := by
      funext a j
      by_cases q : a = 34
      · subst q
        by_cases q2 : j = 33
        · subst q2
          rw [zup_self, pk_us, zup_self, pk_us]
        · rw [z34 q2, z34 q2, z34 q2]
      · rw [zup_ne q, zup_ne q, zup_ne q]
    rw [e, show n + 1 - (w :: r).length - 1 = n - r.length - 1 by simp <;> omega]
/-- a return -/
theorem gBack {Wb : List (Nat × Nat)} {vb : List Int32} (r : rM M0 M L P s d W vs) (g : rBs W vs Wb vb d) (hW : W.length < 3590) (hv : vs.length < 3590) (hd : d ≤ 20) : ∃ M', (∀ N, 4000 ≤ N → F_R_comeBack N M v = some M') ∧ (d = 0 → rX M0 M' s 0) ∧ ∀ d', d = d' + 1 → rM M0 M' L P ((fun a i => if a = 2 then L (8 * d' + i) else s.1 a i), s.2) d' Wb (v :: vb) := by
  by_cases h0 : d = 0
  · refine ⟨zup M 34 45 (nI 0), fun N _ => ?_, fun _ => gEnd45 r 0, fun d' q => by omega⟩
    unfold F_R_comeBack
    rw [r.2.1.1, h0, if_pos (show nI 0 = 0 from rfl), zset_eq]
    rfl
  · obtain ⟨d', hd'⟩ : ∃ d', d = d' + 1 := ⟨d - 1, by omega⟩
    rcases g with g | ⟨W1, vs1, g1, g2, g3⟩
    · omega
    have lW : W.length = W1.length + 1 + Wb.length := by rw [g1]; simp <;> omega
    have lv : vs.length = vs1.length + vb.length := by rw [g3]; simp
    have r1 : rM M0 (zup (zup (zup M 34 33 (nI Wb.length)) 34 35 (nI vb.length)) 34 38 (nI d')) L P ((fun a i => if a = 2 then L (8 * d' + i) else s.1 a i), s.2) d' Wb vb := by
      obtain ⟨⟨a1, a2, a3, a4, a5, a6, a7⟩, ⟨b1, b2⟩, ⟨b3, b4⟩, ⟨b5, b6⟩, c1, c2, c3, f1, f2⟩ := r
      rw [g1] at b4
      rw [g3] at b6
      have k : ∀ a, a ≠ 34 → zup (zup (zup M 34 33 (nI Wb.length)) 34 35 (nI vb.length)) 34 38 (nI d') a = M a := fun a q => by rw [zup_ne q, zup_ne q, zup_ne q]
      have k2 : ∀ j, j ≠ 33 → j ≠ 35 → j ≠ 38 → zup (zup (zup M 34 33 (nI Wb.length)) 34 35 (nI vb.length)) 34 38 (nI d') 34 j = M 34 j := fun j q1 q2 q3 => by rw [z34 q3, z34 q2, z34 q1]
      refine ⟨⟨fun i hi => ?_, fun i hi => ?_, fun i hi => ?_, ?_, ?_, ?_, a7⟩, ⟨?_, ?_⟩, ⟨?_, rWt_same (fun i _ => ?_) (rWt_app b4).2.2⟩, ⟨?_, rVs_same (fun i _ => ?_) (rVs_app b6)⟩, fun q i hi => ?_, fun i h8 hi => ?_, fun i hi => ?_, fun a q1 q2 => ?_, fun j q => ?_⟩
      · rw [k 59 (by omega)]; exact a1 i hi
      · rw [k 60 (by omega)]; exact a2 i hi
      · rw [k 58 (by omega)]; exact a3 i hi
      · rw [k2 42 (by omega) (by omega) (by omega)]; exact a4
      · rw [k2 40 (by omega) (by omega) (by omega)]; exact a5
      · rw [k2 39 (by omega) (by omega) (by omega)]; exact a6
      · rw [zup_self, pk_us]
      · rw [k2 45 (by omega) (by omega) (by omega)]; exact b2
      · rw [z34 (by omega), z34 (by omega), zup_self, pk_us]
      · exact ⟨by rw [k 53 (by omega)], by rw [k 54 (by omega)]⟩
      · rw [z34 (by omega), zup_self, pk_us]
      · rw [k 55 (by omega)]
      · show _ = L (8 * d' + i)
        rw [k 56 (by omega)]; exact c2 _ (by omega) (by omega)
      · rw [k 56 (by omega)]; exact c2 _ h8 (by omega)
      · rw [k 57 (by omega)]; exact c3 _ (by omega)
      · rw [k a q1]; exact f1 a q1 q2
      · rw [k2 j (fun z => q (by unfold r7; omega)) (fun z => q (by unfold r7; omega)) (fun z => q (by unfold r7; omega))]; exact f2 j q
    obtain ⟨M', f1, f2⟩ := gHold r1 (by omega) v
    refine ⟨M', fun N hN => ?_, fun q => absurd q h0, fun d2 q => ?_⟩
    · have h33 := r.2.2.1.1
      have hw := r.2.2.1.2
      rw [lW] at h33
      rw [g1] at hw
      have e33 : zup M 34 33 (nI Wb.length) 34 33 = nI Wb.length := by rw [zup_self, pk_us]
      have e54 : zup M 34 33 (nI Wb.length) 54 Wb.length = nI vb.length := by rw [zup_ne (by omega)]; exact (rWt_app hw).2.1
      have e38 : zup (zup M 34 33 (nI Wb.length)) 34 35 (nI vb.length) 34 38 = nI (d' + 1) := by rw [z34 (by omega), z34 (by omega), r.2.1.1, hd']
      unfold F_R_comeBack
      rw [r.2.1.1, if_neg (show ¬ nI d = 0 from nIne (c := 0) (by omega) (by omega) h0), gDrop W1 M 0 h33 hw g2 (by omega) N N v (by omega)]
      obtain ⟨n, hn⟩ : ∃ n, N - W1.length - 1 = n + 1 := ⟨N - W1.length - 2, by omega⟩
      rw [hn, F_R_comeBack_p9, if_neg (by decide), e33, zix_nI _ (by omega) (by omega), nI_clamp (by omega), e54, zset_eq, e38, show nI (d' + 1) - 1 = nI d' from nI_pred _, zset_eq, f1, zbv_some]
    · have : d2 = d' := by omega
      subst this
      exact f2
end RH
