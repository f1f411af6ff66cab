theorem and1 (v : Int32) : v &&& 1 = 0 ∨ v &&& 1 = 1 := by
  have h : ∃ j, j < 2 ∧ v &&& 1 = nI j := by
    refine ⟨(v &&& 1).toBitVec.toNat, ?_, ?_⟩
    · show (v.toBitVec &&& (1 : Int32).toBitVec).toNat < 2
      rw [BitVec.toNat_and]
      have : ((1 : Int32).toBitVec).toNat = 1 := by decide
      rw [this]
      exact Nat.lt_of_le_of_lt Nat.and_le_right (by omega)
    · apply Int32.toBitVec_inj.mp
      show _ = (Int32.ofNat _).toBitVec
      rw [Int32.toBitVec_ofNat', BitVec.ofNat_toNat, BitVec.setWidth_eq]
  obtain ⟨j, h1, h2⟩ := h
  have : j = 0 ∨ j = 1 := by omega
  rcases this with rfl | rfl
  · exact Or.inl h2
  · exact Or.inr h2
/-- whose names a level has -/
def rLv (M0 : zMem) (d : Nat) (x : Int32) (mk : Nat) : Prop := (x = -1 ∧ mk = 0) ∨ (0 < d ∧ ∃ p, p < 4 ∧ x = nI p ∧ M0 48 p = nI mk)
theorem kOwn_z : ∀ x, x < 8 → kOwn (nI 0) x = false := by decide
section RG
variable {M0 M M' : zMem} {L P : Nat → Int32} {s s' : zE} {d c h n st mk x : Nat} {W W' : List (Nat × Nat)} {vs vs' : List Int32} {v : Int32}
theorem rLv_d (g : rLv M0 d (P d) mk) (hx : x < 8) (o : kOwn (nI mk) x = true) : 0 < d := by
  rcases g with ⟨-, rfl⟩ | ⟨g, -⟩
  · rw [kOwn_z x hx] at o
    exact absurd o (by simp)
  · exact g
theorem gLoc (r : rM M0 M L P s d W vs) (g : rLv M0 d (P d) mk) (hd : d ≤ 20) (hx : x < 8) : F_R_isLocal M (nI x) = some ((if kOwn (nI mk) x = true then 1 else 0), M) := by
  have h38 := r.2.1.1
  have h57 := r.2.2.2.2.2.2.1 d (Nat.le_refl _)
  unfold F_R_isLocal
  rw [h38, zix_nI _ (by omega) (by omega), nI_clamp (by omega), h57]
  rcases g with ⟨g, rfl⟩ | ⟨g, p, p4, gp, g48⟩
  · rw [g, if_pos (by decide), kOwn_z x hx]
    rfl
  · rw [gp, if_neg (nI_pos (by omega)), zix_nI _ (by omega) (by omega), zix_nI _ p4 (by omega), nI_clamp (by omega), r.2.2.2.2.2.2.2.1 48 (by omega) (by omega), g48]
    unfold kOwn
    rcases and1 (nI mk >>> (nI x &&& 31)) with q | q
    · rw [q]; rfl
    · rw [q]; rfl
/-- what goes on at the top -/
theorem gTop (r : rM M0 M L P s d ((c, h) :: W) vs) (hW : W.length < 3600) (N : Nat) : F_R_goOn N M = (let M1 := zup M 34 33 (nI W.length)
    if nI c / 8 - 1 = (499 : Int32) then (zset M1 34 38 ((M1 34 38) - (1 : Int32)) fun M20 => F_R_hold M20 (0 : Int32)) else (if (nI c - nI c / 8 * 8) ≤ (5 : Int32) then (if (nI c - nI c / 8 * 8) = 0 then F_R_begin M1 (nI c / 8 - 1) else (zix (nI c / 8 - 1) 400 (zbi (F_R_isIn M1 (M1 39 (nI c / 8 - 1).toNatClampNeg) (20 : Int32) (27 : Int32)) fun r8 M6 => if r8 = 0 then F_R_goOnExpression N M6 (nI c / 8 - 1) (nI c - nI c / 8 * 8) else F_R_goOnStatement N M6 (nI c / 8 - 1) (nI c - nI c / 8 * 8)))) else (if nI c / 8 - 1 < 0 then (some M1) else (zix (nI c / 8 - 1) 400 (zbv (F_R_wait M1 (M1 44 (nI c / 8 - 1).toNatClampNeg) (nI c - nI c / 8 * 8)) fun M16 => F_R_wait M16 (nI c / 8 - 1) (0 : Int32)))))) := by
  have h33 : M 34 33 = nI (W.length + 1) := r.2.2.1.1
  have e33 : zup M 34 33 (nI W.length) 34 33 = nI W.length := by rw [zup_self, pk_us]
  have e53 : zup M 34 33 (nI W.length) 53 W.length = nI c := by rw [zup_ne (by omega)]; exact r.2.2.1.2.1
  unfold F_R_goOn
  rw [h33, show nI (W.length + 1) - 1 = nI W.length from nI_pred _, zset_eq, e33, zix_nI _ hW (by omega), zix_nI _ hW (by omega), nI_clamp (by omega), e53]
  simp only [zbv_id]
theorem c8 (hn : n < 500) (hs : st < 8) : nI (8 * (n + 1) + st) / 8 - 1 = nI n ∧ nI (8 * (n + 1) + st) - nI (8 * (n + 1) + st) / 8 * 8 = nI st := by
  constructor
  · rw [show (8 : Int32) = nI 8 from rfl, pk_div (by omega) (by omega) (by omega), show (8 * (n + 1) + st) / 8 = n + 1 by omega]
    exact nI_pred _
  · rw [show (8 : Int32) = nI 8 from rfl, pk_rem (by omega) (by omega) (by omega), show (8 * (n + 1) + st) % 8 = st by omega]
theorem gBeg (r : rM M0 M L P s d ((8 * (n + 1), h) :: W) vs) (hW : W.length < 3600) (hn : n < 400) : ∃ M1, rM M0 M1 L P s d W vs ∧ ∀ M', F_R_begin M1 (nI n) = some M' → rS M M' 1 := by
  refine ⟨_, gPop r hW, fun M' e => rS_1 r hW fun N hN => ?_⟩
  obtain ⟨e1, e2⟩ := c8 (n := n) (st := 0) (by omega) (by omega)
  rw [Nat.add_zero] at e1 e2
  rw [gTop r hW N]
  simp only
  rw [e1, e2, if_neg (show ¬ nI n = (499 : Int32) from nIne (c := 499) (by omega) (by omega) (by omega)), if_pos (show nI 0 ≤ (5 : Int32) by decide), if_pos (show nI 0 = 0 from rfl), e]
theorem gEx (r : rM M0 M L P s d ((8 * (n + 1) + st, h) :: W) vs) (hW : W.length < 3600) (hn : n < 400) (h1 : 1 ≤ st) (h5 : st ≤ 5) : ∃ M1, rM M0 M1 L P s d W vs ∧ ∀ k, k < 1000 → M0 39 n = nI k → (¬ (20 ≤ k ∧ k ≤ 27) → ∀ M', (∀ N, 4000 ≤ N → F_R_goOnExpression N M1 (nI n) (nI st) = some M') → rS M M' 1) ∧ (20 ≤ k ∧ k ≤ 27 → ∀ M', (∀ N, 4000 ≤ N → F_R_goOnStatement N M1 (nI n) (nI st) = some M') → rS M M' 1) := by
  refine ⟨_, gPop r hW, fun k hk h39 => ?_⟩
  obtain ⟨e1, e2⟩ := c8 (n := n) (st := st) (by omega) (by omega)
  have g39 : zup M 34 33 (nI W.length) 39 n = nI k := by rw [zup_ne (by omega), r.2.2.2.2.2.2.2.1 39 (by omega) (by omega)]; exact h39
  have pre : ∀ N, F_R_goOn N M = zbi (F_R_isIn (zup M 34 33 (nI W.length)) (nI k) (20 : Int32) (27 : Int32)) fun r8 M6 => if r8 = 0 then F_R_goOnExpression N M6 (nI n) (nI st) else F_R_goOnStatement N M6 (nI n) (nI st) := fun N => by
    rw [gTop r hW N]
    simp only
    rw [e1, e2, if_neg (show ¬ nI n = (499 : Int32) from nIne (c := 499) (by omega) (by omega) (by omega)), if_pos (show nI st ≤ (5 : Int32) from nI_le (b := 5) (by omega) (by omega)), if_neg (show ¬ nI st = 0 from nIne (c := 0) (by omega) (by omega) (by omega)), zix_nI _ (by omega) (by omega), nI_clamp (by omega), g39]
  constructor
  · intro q M' e
    refine rS_1 r hW fun N hN => ?_
    rw [pre]
    unfold F_R_isIn
    by_cases q2 : k < 20
    · rw [if_pos (show nI k < (20 : Int32) from nI_lt (b := 20) q2 (by omega)), zbi_some, if_pos rfl, e N hN]
    · rw [if_neg (show ¬ nI k < (20 : Int32) from nI_nlt (b := 20) (by omega) (by omega)), if_pos (show (27 : Int32) < nI k from nI_lt (a := 27) (by omega) (by omega)), zbi_some, if_pos rfl, e N hN]
  · intro q M' e
    refine rS_1 r hW fun N hN => ?_
    rw [pre]
    unfold F_R_isIn
    rw [if_neg (show ¬ nI k < (20 : Int32) from nI_nlt (b := 20) (by omega) (by omega)), if_neg (show ¬ (27 : Int32) < nI k from nI_nlt (a := 27) (by omega) (by omega)), zbi_some, if_neg (by decide), e N hN]
/-- a chain: its first, then what follows -/
theorem gCh {c' : Nat} (r : rM M0 M L P s d ((8 * (n + 1) + st, h) :: W) vs) (hW : W.length < 3590) (hn : n < 400) (h6 : st = 6 ∨ st = 7) (hx : (8 : Int32) * (M0 44 n + 1) + nI st = nI c') : ∃ M', rS M M' 1 ∧ rM M0 M' L P s d ((8 * (n + 1), vs.length) :: (c', vs.length) :: W) vs := by
  obtain ⟨e1, e2⟩ := c8 (n := n) (st := st) (by omega) (by omega)
  have r1 := gPop r (by omega)
  have g44 : zup M 34 33 (nI W.length) 44 n = M0 44 n := by rw [zup_ne (by omega), r.2.2.2.2.2.2.2.1 44 (by omega) (by omega)]
  obtain ⟨M2, f1, f2⟩ := gWait r1 (by omega) hx
  obtain ⟨M3, f3, f4⟩ := gWait (x := nI n) (st := 0) (c := 8 * (n + 1)) f2 (by simp <;> omega) (by rw [nI_1, show (8 : Int32) = nI 8 from rfl, pk_mul, show (0 : Int32) = nI 0 from rfl, nI_add]; rfl)
  refine ⟨M3, rS_1 r (by omega) fun N hN => ?_, f4⟩
  rw [gTop r (by omega) N]
  simp only
  rw [e1, e2, if_neg (show ¬ nI n = (499 : Int32) from nIne (c := 499) (by omega) (by omega) (by omega)), if_neg (show ¬ nI st ≤ (5 : Int32) from nI_ge (a := 5) (b := st) (by omega) (by omega)), if_neg (nI_pos (by omega)), zix_nI _ (by omega) (by omega), nI_clamp (by omega), g44, f1, zbv_some, f3]
theorem gCh0 (r : rM M0 M L P s d ((st, h) :: W) vs) (hW : W.length < 3590) (h6 : st = 6 ∨ st = 7) : ∃ M', rS M M' 1 ∧ rM M0 M' L P s d W vs := by
  refine ⟨_, rS_1 r (by omega) fun N hN => ?_, gPop r (by omega)⟩
  rw [gTop r (by omega) N]
  simp only
  have e1 : nI st / 8 - 1 = -1 := by rcases h6 with rfl | rfl <;> decide
  have e2 : ¬ (nI st - nI st / 8 * 8) ≤ (5 : Int32) := by rcases h6 with rfl | rfl <;> decide
  rw [e1, if_neg (by decide), if_neg e2, if_pos (by decide)]
/-- a body ends: the call's value is 0 -/
theorem g499 {d' : Nat} (r : rM M0 M L P s d ((4000, h) :: W) vs) (hW : W.length < 3590) (hv : vs.length < 3590) (hd : d = d' + 1) (hd2 : d ≤ 20) : ∃ M', rS M M' 1 ∧ rM M0 M' L P ((fun a i => if a = 2 then L (8 * d' + i) else s.1 a i), s.2) d' W (0 :: vs) := by
  have r1 := gPop r (by omega)
  have r2 : rM M0 (zup (zup M 34 33 (nI W.length)) 34 38 (nI d')) L P ((fun a i => if a = 2 then L (8 * d' + i) else s.1 a i), s.2) d' W vs := by
    obtain ⟨⟨a1, a2, a3, a4, a5, a6, a7⟩, ⟨b1, b2⟩, ⟨b3, b4⟩, ⟨b5, b6⟩, c1, c2, c3, f1, f2⟩ := r1
    refine ⟨⟨fun i hi => ?_, fun i hi => ?_, fun i hi => ?_, ?_, ?_, ?_, a7⟩, ⟨?_, ?_⟩, ⟨?_, rWt_same (fun i _ => ?_) b4⟩, ⟨?_, rVs_same (fun i _ => ?_) b6⟩, fun q i hi => ?_, fun i h8 hi => ?_, fun i hi => ?_, fun a q1 q2 => ?_, fun j q => ?_⟩
    · rw [zup_ne (by omega)]; exact a1 i hi
    · rw [zup_ne (by omega)]; exact a2 i hi
    · rw [zup_ne (by omega)]; exact a3 i hi
    · rw [z34 (by omega)]; exact a4
    · rw [z34 (by omega)]; exact a5
    · rw [z34 (by omega)]; exact a6
    · rw [zup_self, pk_us]
    · rw [z34 (by omega)]; exact b2
    · rw [z34 (by omega)]; exact b3
    · exact ⟨by rw [zup_ne (by omega)], by rw [zup_ne (by omega)]⟩
    · rw [z34 (by omega)]; exact b5
    · rw [zup_ne (by omega)]
    · show _ = L (8 * d' + i)
      rw [zup_ne (by omega)]; exact c2 _ (by omega) (by omega)
    · rw [zup_ne (by omega)]; exact c2 _ h8 (by omega)
    · rw [zup_ne (by omega)]; exact c3 _ (by omega)
    · rw [zup_ne q1]; exact f1 a q1 q2
    · rw [z34 (fun z => q (by unfold r7; omega))]; exact f2 j q
  obtain ⟨M', f1, f2⟩ := gHold r2 (by omega) 0
  refine ⟨M', rS_1 r (by omega) fun N hN => ?_, f2⟩
  have e38 : zup M 34 33 (nI W.length) 34 38 = nI (d' + 1) := by rw [r1.2.1.1, hd]
  rw [gTop r (by omega) N]
  simp only
  rw [if_pos (show nI 4000 / 8 - 1 = (499 : Int32) by decide), e38, show nI (d' + 1) - 1 = nI d' from nI_pred _, zset_eq, f1]
end RG
