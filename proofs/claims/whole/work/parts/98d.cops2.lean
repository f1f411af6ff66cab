section CO3
variable {M0 M M' : zMem} {L R : Nat → Int32} {s : zE} {d pc n : Nat} {vs : List Int32} {v : Int32} {c : zC}
theorem o12 (hc : cCD M0 c) (h : cM M0 M L R s d pc (v :: vs)) (hp : pc < c.1) (hv : vs.length < 2048) (ho : c.2.1 pc = 12) : (s.2.2.2 = 20 → ∃ M', cS M M' 1 ∧ cX M0 M' s 3) ∧ (¬ s.2.2.2 = 20 → ∃ M', cS M M' 1 ∧ cM M0 M' L R (zup s.1 4 s.2.2.2 v, s.2.1, s.2.2.1, s.2.2.2 + 1) d (pc + 1) vs) := by
  obtain ⟨M7, h1, h2⟩ := oMv (n := 12) hc h hp ho (by omega)
  obtain ⟨M8, e1, e2⟩ := mPop h1 hv
  obtain ⟨a1, a2, a3, a4, a5, a6, a7, a8, a9⟩ := e2.1
  have pre : F_Mach_move M7 (nI 12) (c.2.2 pc) = F_Mach_putOut M8 v := by
    unfold F_Mach_move
    rw [if_neg (show ¬ nI 12 = 1 by decide), if_neg (show ¬ nI 12 = 2 by decide), if_neg (show ¬ nI 12 = 3 by decide), if_neg (show ¬ nI 12 = 4 by decide), if_neg (show ¬ nI 12 = 5 by decide), if_neg (show ¬ nI 12 = 6 by decide), if_neg (show ¬ nI 12 = 7 by decide), if_neg (show ¬ nI 12 = 8 by decide), if_neg (show ¬ nI 12 = 9 by decide), if_neg (show ¬ nI 12 = 10 by decide), if_neg (show ¬ nI 12 = 11 by decide), if_pos (show nI 12 = 12 from rfl), e1, zbi_some, zbv_id]
  constructor
  · intro q
    obtain ⟨M', e3, e4⟩ := cFinish e2 3
    refine ⟨M', h2 M' ?_, e4⟩
    rw [pre]
    unfold F_Mach_putOut F_Mach_putOut_p7
    rw [a4, if_neg (nI_pos (by omega)), if_neg (show ¬ nI s.2.2.2 < (20 : Int32) from nI_nlt (b := 20) (by omega) (by omega)), show F_Mach_finish M8 (3 : Int32) = some M' from e3, zbv_some]
  · intro q
    refine ⟨zup (zup M8 30 s.2.2.2 v) 27 3 (nI (s.2.2.2 + 1)), h2 _ ?_, cM_s e2 ⟨fun i hi => ?_, fun i hi => ?_, fun i (hi : i < s.2.2.2 + 1) => ?_, ?_, ?_, ?_, ?_, a8, a9⟩ (fun j hj => by rw [z27 (by omega), zup_ne (by omega)]) ?_ (by rw [zup_ne (by omega), zup_ne (by omega)]) (fun i hi => ?_) (fun i hi => by rw [zup_ne (by omega), zup_ne (by omega)]) (by rw [zup_ne (by omega), zup_ne (by omega)]) (fun a ha => by rw [zup_ne (by omega), zup_ne (by omega)])⟩
    · rw [pre]
      unfold F_Mach_putOut
      rw [a4, if_neg (nI_pos (by omega)), if_pos (show nI s.2.2.2 < (20 : Int32) from nI_lt (b := 20) (by omega) (by omega)), zix_nI _ (by omega) (by omega), nI_clamp (by omega), zset_eq, zset_eq, zup_ne (by omega), a4, nI_1]
    · show _ = zup s.1 4 s.2.2.2 v 0 i
      rw [zup_ne (by omega), zup_ne (by omega), zup_ne (by omega)]; exact a1 i hi
    · show _ = zup s.1 4 s.2.2.2 v 1 i
      rw [zup_ne (by omega), zup_ne (by omega), zup_ne (by omega)]; exact a2 i hi
    · show _ = zup s.1 4 s.2.2.2 v 4 i
      rw [zup_ne (by omega), zup_ap, zup_ap, if_pos rfl, if_pos rfl]
      by_cases z : i = s.2.2.2
      · rw [if_pos z, if_pos z]
      · rw [if_neg z, if_neg z]; exact a3 i (by omega)
    · rw [zup_self, pk_us]
    · rw [z27 (by omega), zup_ne (by omega)]; exact a5
    · rw [z27 (by omega), zup_ne (by omega)]; exact a6
    · show s.2.2.2 + 1 ≤ 20; omega
    · rw [z27 (by omega), zup_ne (by omega)]; exact e2.2.1.2.1
    · show _ = zup s.1 4 s.2.2.2 v 2 i
      rw [zup_ne (by omega), zup_ne (by omega), zup_ne (by omega)]; exact e2.2.2.2.1 i hi
theorem o20 {p : Nat} (hc : cCD M0 c) (h : cM M0 M L R s d pc vs) (hp : pc < c.1) (ho : c.2.1 pc = 20) (hd : c.2.2 pc = nI p) : ∃ M', cS M M' 1 ∧ cM M0 M' L R s d p vs := by
  obtain ⟨M7, h1, h2⟩ := oGo (n := 20) hc h hp ho (by omega) (by omega)
  refine ⟨_, h2 (zup M7 27 15 (nI p)) fun N hN => ?_, cM_pc h1 p⟩
  unfold F_Mach_go
  rw [if_pos (show nI 20 = 20 from rfl), zset_eq, hd]
theorem o21 {p : Nat} (hc : cCD M0 c) (h : cM M0 M L R s d pc (v :: vs)) (hp : pc < c.1) (hv : vs.length < 2048) (ho : c.2.1 pc = 21) (hd : c.2.2 pc = nI p) : ∃ M', cS M M' 1 ∧ cM M0 M' L R s d (if v = 0 then p else pc + 1) vs := by
  obtain ⟨M7, h1, h2⟩ := oGo (n := 21) hc h hp ho (by omega) (by omega)
  obtain ⟨M8, e1, e2⟩ := mPop h1 hv
  by_cases q : v = 0
  · refine ⟨_, h2 (zup M8 27 15 (nI p)) fun N hN => ?_, by rw [if_pos q]; exact cM_pc e2 p⟩
    unfold F_Mach_go
    rw [if_neg (show ¬ nI 21 = 20 by decide), if_pos (show nI 21 = 21 from rfl), e1, zbi_some, if_pos q, zset_eq, hd]
  · refine ⟨_, h2 M8 fun N hN => ?_, by rw [if_neg q]; exact e2⟩
    unfold F_Mach_go
    rw [if_neg (show ¬ nI 21 = 20 by decide), if_pos (show nI 21 = 21 from rfl), e1, zbi_some, if_neg q]
theorem o22 {p : Nat} (hc : cCD M0 c) (h : cM M0 M L R s d pc (v :: vs)) (hp : pc < c.1) (hv : vs.length < 2048) (ho : c.2.1 pc = 22) (hd : c.2.2 pc = nI p) : (v = 0 → ∃ M', cS M M' 1 ∧ cM M0 M' L R s d p (0 :: vs)) ∧ (¬ v = 0 → ∃ M', cS M M' 1 ∧ cM M0 M' L R s d (pc + 1) vs) := by
  obtain ⟨M7, h1, h2⟩ := oGo (n := 22) hc h hp ho (by omega) (by omega)
  obtain ⟨M8, e1, e2⟩ := mPop h1 hv
  constructor
  · intro q
    obtain ⟨M9, e3, e4⟩ := mPush e2 hv 0
    refine ⟨_, h2 (zup M9 27 15 (nI p)) fun N hN => ?_, cM_pc e4 p⟩
    unfold F_Mach_go
    rw [if_neg (show ¬ nI 22 = 20 by decide), if_neg (show ¬ nI 22 = 21 by decide), if_pos (show nI 22 = 22 from rfl), e1, zbi_some, if_pos q, e3, zbv_some, zset_eq, hd]
  · intro q
    refine ⟨_, h2 M8 fun N hN => ?_, e2⟩
    unfold F_Mach_go
    rw [if_neg (show ¬ nI 22 = 20 by decide), if_neg (show ¬ nI 22 = 21 by decide), if_pos (show nI 22 = 22 from rfl), e1, zbi_some, if_neg q]
theorem o23 {p : Nat} (hc : cCD M0 c) (h : cM M0 M L R s d pc (v :: vs)) (hp : pc < c.1) (hv : vs.length < 2048) (ho : c.2.1 pc = 23) (hd : c.2.2 pc = nI p) : (v = 0 → ∃ M', cS M M' 1 ∧ cM M0 M' L R s d (pc + 1) vs) ∧ (¬ v = 0 → ∃ M', cS M M' 1 ∧ cM M0 M' L R s d p (1 :: vs)) := by
  obtain ⟨M7, h1, h2⟩ := oGo (n := 23) hc h hp ho (by omega) (by omega)
  obtain ⟨M8, e1, e2⟩ := mPop h1 hv
  constructor
  · intro q
    refine ⟨_, h2 M8 fun N hN => ?_, e2⟩
    unfold F_Mach_go
    rw [if_neg (show ¬ nI 23 = 20 by decide), if_neg (show ¬ nI 23 = 21 by decide), if_neg (show ¬ nI 23 = 22 by decide), if_pos (show nI 23 = 23 from rfl), e1, zbi_some, if_pos q]
  · intro q
    obtain ⟨M9, e3, e4⟩ := mPush e2 hv 1
    refine ⟨_, h2 (zup M9 27 15 (nI p)) fun N hN => ?_, cM_pc e4 p⟩
    unfold F_Mach_go
    rw [if_neg (show ¬ nI 23 = 20 by decide), if_neg (show ¬ nI 23 = 21 by decide), if_neg (show ¬ nI 23 = 22 by decide), if_pos (show nI 23 = 23 from rfl), e1, zbi_some, if_neg q, e3, zbv_some, zset_eq, hd]
theorem o24 (hc : cCD M0 c) (h : cM M0 M L R s d pc vs) (hp : pc < c.1) (ho : c.2.1 pc = 24) : (s.2.1 = 300 → ∃ M', cS M M' 1 ∧ cX M0 M' s 1) ∧ (¬ s.2.1 = 300 → ∃ M', cS M M' 1 ∧ cM M0 M' L R (vTurn s) d (pc + 1) vs) := by
  obtain ⟨M7, h1, h2⟩ := oGo (n := 24) hc h hp ho (by omega) (by omega)
  have pre : ∀ N, F_Mach_go N M7 (nI 24) (c.2.2 pc) = F_Mach_takeTurn M7 := fun N => by
    unfold F_Mach_go
    rw [if_neg (show ¬ nI 24 = 20 by decide), if_neg (show ¬ nI 24 = 21 by decide), if_neg (show ¬ nI 24 = 22 by decide), if_neg (show ¬ nI 24 = 23 by decide), if_pos (show nI 24 = 24 from rfl), zbv_id]
  obtain ⟨t1, t2⟩ := cTurn h1
  constructor
  · intro q
    obtain ⟨M', e1, e2⟩ := t1 q
    exact ⟨M', h2 M' fun N _ => by rw [pre, e1], e2⟩
  · intro q
    obtain ⟨M', e1, e2⟩ := t2 q
    exact ⟨M', h2 M' fun N _ => by rw [pre, e1], e2⟩
theorem o26 (hc : cCD M0 c) (h : cM M0 M L R s d pc vs) (hp : pc < c.1) (ho : c.2.1 pc = 26) (hd20 : d ≤ 20) : (d = 0 → ∃ M', cS M M' 1 ∧ cX M0 M' s 0) ∧ ∀ d' ra, d = d' + 1 → R d = nI ra → ∃ M', cS M M' 1 ∧ cM M0 M' L R ((fun a i => if a = 2 then L (8 * d' + i) else s.1 a i), s.2) d' ra vs := by
  obtain ⟨M7, h1, h2⟩ := oGo (n := 26) hc h hp ho (by omega) (by omega)
  have pre : ∀ N, F_Mach_go N M7 (nI 26) (c.2.2 pc) = F_Mach_leave M7 := fun N => by
    unfold F_Mach_go
    rw [if_neg (show ¬ nI 26 = 20 by decide), if_neg (show ¬ nI 26 = 21 by decide), if_neg (show ¬ nI 26 = 22 by decide), if_neg (show ¬ nI 26 = 23 by decide), if_neg (show ¬ nI 26 = 24 by decide), if_neg (show ¬ nI 26 = 25 by decide), if_pos (show nI 26 = 26 from rfl), zbv_id]
  constructor
  · intro q
    obtain ⟨M', e1, e2⟩ := cFinish h1 0
    refine ⟨M', h2 M' fun N _ => ?_, e2⟩
    rw [pre]
    unfold F_Mach_leave F_Mach_leave_p7
    rw [h1.2.1.1, q, if_pos (show nI 0 ≤ 0 by decide), show F_Mach_finish M7 (0 : Int32) = some M' from e1, zbv_some]
  · intro d' ra q hR
    obtain ⟨⟨a1, a2, a3, a4, a5, a6, a7⟩, ⟨b1, b2, b3⟩, ⟨b4, b5⟩, g1, g2, g3, f1, f2⟩ := h1
    refine ⟨zup (zup M7 27 15 (nI ra)) 27 14 (nI d'), h2 _ fun N _ => ?_, ⟨fun i hi => ?_, fun i hi => ?_, fun i hi => ?_, ?_, ?_, ?_, a7⟩, ⟨?_, ?_, ?_⟩, ⟨?_, cSk_same (fun i _ => ?_) b5⟩, fun i hi => ?_, fun i hi => ?_, fun i hi => ?_, fun a ha => ?_, ?_⟩
    · rw [pre]
      unfold F_Mach_leave
      have e14 : zup M7 27 15 (nI ra) 27 14 = nI (d' + 1) := by rw [z27 (by omega), b1, q]
      rw [b1, q, if_neg (show ¬ nI (d' + 1) ≤ 0 from nI_ge (a := 0) (b := d' + 1) (by omega) (by omega)), if_pos (show nI (d' + 1) ≤ (20 : Int32) from nI_le (b := 20) (by omega) (by omega)), zix_nI _ (by omega) (by omega), nI_clamp (by omega), ← q, g3 d (Nat.le_refl _), hR, zset_eq, zset_eq, e14, show nI (d' + 1) - 1 = nI d' from nI_pred _]
    · show _ = s.1 0 i
      rw [zup_ne (by omega), zup_ne (by omega)]; exact a1 i hi
    · show _ = s.1 1 i
      rw [zup_ne (by omega), zup_ne (by omega)]; exact a2 i hi
    · show _ = s.1 4 i
      rw [zup_ne (by omega), zup_ne (by omega)]; exact a3 i hi
    · rw [z27 (by omega), z27 (by omega)]; exact a4
    · rw [z27 (by omega), z27 (by omega)]; exact a5
    · rw [z27 (by omega), z27 (by omega)]; exact a6
    · rw [zup_self, pk_us]
    · rw [z27 (by omega), zup_self, pk_us]
    · rw [z27 (by omega), z27 (by omega)]; exact b3
    · rw [z27 (by omega), z27 (by omega)]; exact b4
    · rw [zup_ne (by omega), zup_ne (by omega)]
    · show _ = L (8 * d' + i)
      rw [zup_ne (by omega), zup_ne (by omega)]; exact g2 _ (by omega)
    · rw [zup_ne (by omega), zup_ne (by omega)]; exact g2 _ (by omega)
    · rw [zup_ne (by omega), zup_ne (by omega)]; exact g3 _ (by omega)
    · rw [zup_ne (by omega), zup_ne (by omega)]; exact f1 a ha
    · rw [z27 (by omega), z27 (by omega)]; exact f2
theorem oBin {k : Nat} {b : Int32} (hc : cCD M0 c) (h : cM M0 M L R s d pc (b :: v :: vs)) (hp : pc < c.1) (hv : vs.length + 1 < 2048) (hk : isBin k = true) (hk2 : k < 150) (ho : c.2.1 pc = nI k) : match eBin k v b with
    | some w => ∃ M', cS M M' 1 ∧ cM M0 M' L R s d (pc + 1) (w :: vs)
    | none => ∃ M', cS M M' 1 ∧ cX M0 M' s 4 := by
  obtain ⟨k1, k2⟩ := isBin_n hk
  obtain ⟨M7, h1, h2⟩ := oCa (n := k) hc h hp ho (by omega) (by omega)
  obtain ⟨M8, e1, e2⟩ := mPop h1 hv
  obtain ⟨M9, e3, e4⟩ := mPop e2 (by omega)
  have kk : k = 130 ∨ k = 131 ∨ k = 132 ∨ k = 133 ∨ k = 134 ∨ k = 140 ∨ k = 141 ∨ k = 142 ∨ k = 143 ∨ k = 144 ∨ k = 145 := by
    simp [isBin, isRel, isSimp, isTerm] at hk
    omega
  have ps : ∀ w, F_Mach_calculate M7 (nI k) = F_Mach_push M9 w → ∃ M', cS M M' 1 ∧ cM M0 M' L R s d (pc + 1) (w :: vs) := fun w q => by
    obtain ⟨M', p1, p2⟩ := mPush e4 (by omega) w
    exact ⟨M', h2 M' (by rw [q, p1]), p2⟩
  have dz : b = 0 → F_Mach_calculate M7 (nI k) = F_Mach_divide M9 (nI k) v b → ∃ M', cS M M' 1 ∧ cX M0 M' s 4 := by
    intro q1 q2
    obtain ⟨M', p1, p2⟩ := cFinish e4 4
    refine ⟨M', h2 M' ?_, p2⟩
    rw [q2]
    unfold F_Mach_divide
    rw [if_pos q1, show F_Mach_finish M9 (4 : Int32) = some M' from p1, zbv_some]
  have rel : ∀ (t : Bool), 140 ≤ k → F_Mach_holds M9 (nI k) v b = some (bI t, M9) → ∃ M', cS M M' 1 ∧ cM M0 M' L R s d (pc + 1) (bI t :: vs) := by
    intro t hq q
    apply ps
    unfold F_Mach_calculate F_Mach_calculate_p30
    rw [e1, zbi_some, e3, zbi_some, if_neg (show ¬ nI k = 133 from nIne (c := 133) (by omega) (by omega) (by omega)), if_neg (show ¬ nI k = 134 from nIne (c := 134) (by omega) (by omega) (by omega)), if_neg (show ¬ nI k < (140 : Int32) from nI_nlt (b := 140) (by omega) (by omega)), q, zbi_some]
    cases t with
    | true => rw [if_neg (show ¬ bI true = 0 by decide), zbv_id]; rfl
    | false => rw [if_pos (show bI false = 0 by decide), zbv_id]; rfl
  rcases kk with rfl | rfl | rfl | rfl | rfl | rfl | rfl | rfl | rfl | rfl | rfl
  · refine ps (v + b) ?_
    unfold F_Mach_calculate
    rw [e1, zbi_some, e3, zbi_some, if_neg (show ¬ nI 130 = 133 by decide), if_neg (show ¬ nI 130 = 134 by decide), if_pos (show nI 130 < 140 by decide), if_pos (show nI 130 = 130 from rfl), zbv_id]
  · refine ps (v - b) ?_
    unfold F_Mach_calculate
    rw [e1, zbi_some, e3, zbi_some, if_neg (show ¬ nI 131 = 133 by decide), if_neg (show ¬ nI 131 = 134 by decide), if_pos (show nI 131 < 140 by decide), if_neg (show ¬ nI 131 = 130 by decide), if_pos (show nI 131 = 131 from rfl), zbv_id]
  · refine ps (v * b) ?_
    unfold F_Mach_calculate
    rw [e1, zbi_some, e3, zbi_some, if_neg (show ¬ nI 132 = 133 by decide), if_neg (show ¬ nI 132 = 134 by decide), if_pos (show nI 132 < 140 by decide), if_neg (show ¬ nI 132 = 130 by decide), if_neg (show ¬ nI 132 = 131 by decide), zbv_id]
  · have pre : F_Mach_calculate M7 (nI 133) = F_Mach_divide M9 (nI 133) v b := by
      unfold F_Mach_calculate F_Mach_calculate_p12
      rw [e1, zbi_some, e3, zbi_some, if_pos (show nI 133 = 133 from rfl), zbv_id]
    by_cases q : b = 0
    · have e : eBin 133 v b = none := by unfold eBin; simp [q]
      rw [e]
      exact dz q pre
    · have e : eBin 133 v b = some (v / b) := by unfold eBin; simp [q]
      rw [e]
      refine ps _ ?_
      rw [pre]
      unfold F_Mach_divide F_Mach_divide_p17
      rw [if_neg q, if_pos (show nI 133 = 133 from rfl), znz_ne _ q, zbv_id]
  · have pre : F_Mach_calculate M7 (nI 134) = F_Mach_divide M9 (nI 134) v b := by
      unfold F_Mach_calculate F_Mach_calculate_p12
      rw [e1, zbi_some, e3, zbi_some, if_neg (show ¬ nI 134 = 133 by decide), if_pos (show nI 134 = 134 from rfl), zbv_id]
    by_cases q : b = 0
    · have e : eBin 134 v b = none := by unfold eBin; simp [q]
      rw [e]
      exact dz q pre
    · have e : eBin 134 v b = some (v - v / b * b) := by unfold eBin; simp [q]
      rw [e]
      refine ps _ ?_
      rw [pre]
      unfold F_Mach_divide F_Mach_divide_p17
      rw [if_neg q, if_neg (show ¬ nI 134 = 133 by decide), znz_ne _ q, zbv_id]
  · refine rel (decide (v = b)) (by omega) ?_
    unfold F_Mach_holds
    rw [if_pos (show nI 140 = 140 from rfl)]
    by_cases q : v = b
    · rw [if_pos q]; simp [bI, q]
    · rw [if_neg q]; simp [bI, q]
  · refine rel (decide (¬ v = b)) (by omega) ?_
    unfold F_Mach_holds
    rw [if_neg (show ¬ nI 141 = 140 by decide), if_pos (show nI 141 = 141 from rfl)]
    by_cases q : v = b
    · rw [if_pos q]; simp [bI, q]
    · rw [if_neg q]; simp [bI, q]
  · refine rel (decide (¬ b ≤ v)) (by omega) ?_
    unfold F_Mach_holds
    rw [if_neg (show ¬ nI 142 = 140 by decide), if_neg (show ¬ nI 142 = 141 by decide), if_pos (show nI 142 = 142 from rfl)]
    by_cases q : b ≤ v
    · rw [if_pos q]; simp [bI, q]
    · rw [if_neg q]; simp [bI, q]
  · refine rel (decide (¬ b < v)) (by omega) ?_
    unfold F_Mach_holds
    rw [if_neg (show ¬ nI 143 = 140 by decide), if_neg (show ¬ nI 143 = 141 by decide), if_neg (show ¬ nI 143 = 142 by decide), if_pos (show nI 143 = 143 from rfl)]
    by_cases q : b < v
    · rw [if_pos q]; simp [bI, q]
    · rw [if_neg q]; simp [bI, q]
  · refine rel (decide (¬ v ≤ b)) (by omega) ?_
    unfold F_Mach_holds
    rw [if_neg (show ¬ nI 144 = 140 by decide), if_neg (show ¬ nI 144 = 141 by decide), if_neg (show ¬ nI 144 = 142 by decide), if_neg (show ¬ nI 144 = 143 by decide), if_pos (show nI 144 = 144 from rfl)]
    by_cases q : v ≤ b
    · rw [if_pos q]; simp [bI, q]
    · rw [if_neg q]; simp [bI, q]
  · refine rel (decide (¬ v < b)) (by omega) ?_
    unfold F_Mach_holds
    rw [if_neg (show ¬ nI 145 = 140 by decide), if_neg (show ¬ nI 145 = 141 by decide), if_neg (show ¬ nI 145 = 142 by decide), if_neg (show ¬ nI 145 = 143 by decide), if_neg (show ¬ nI 145 = 144 by decide)]
    by_cases q : v < b
    · rw [if_pos q]; simp [bI, q]
    · rw [if_neg q]; simp [bI, q]
end CO3
