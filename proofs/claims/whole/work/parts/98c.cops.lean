theorem and15 (v : Int32) : ∃ j, j < 16 ∧ v &&& 15 = nI j := by
  refine ⟨(v &&& 15).toBitVec.toNat, ?_, ?_⟩
  · show (v.toBitVec &&& (15 : Int32).toBitVec).toNat < 16
    rw [BitVec.toNat_and]
    have : ((15 : Int32).toBitVec).toNat = 15 := by decide
    rw [this]
    exact Nat.lt_of_le_of_lt Nat.and_le_right (by omega)
  · apply Int32.toBitVec_inj.mp
    show _ = (Int32.ofNat _).toBitVec
    rw [Int32.toBitVec_ofNat']
    simp
section CO2
variable {M0 M M' : zMem} {L R : Nat → Int32} {s : zE} {d pc n : Nat} {vs : List Int32} {v : Int32} {c : zC}
theorem cAt (hc : cCD M0 c) (h : cM M0 M L R s d pc vs) (hp : pc < c.1) : ∃ M7, cM M0 M7 L R s d (pc + 1) vs ∧ ∀ N, F_Mach_step N M = if c.2.1 pc < 130 then (if c.2.1 pc < 20 then F_Mach_move M7 (c.2.1 pc) (c.2.2 pc) else F_Mach_go N M7 (c.2.1 pc) (c.2.2 pc)) else F_Mach_calculate M7 (c.2.1 pc) := by
  obtain ⟨c1, c2, c3, c4⟩ := hc
  have f1 := h.2.2.2.2.2.2.1
  have h15 := h.2.1.2.1
  refine ⟨zup M 27 15 (nI (pc + 1)), cM_pc h (pc + 1), fun N => ?_⟩
  have e1 : F_Code_operation M (nI pc) = some (c.2.1 pc, M) := by
    unfold F_Code_operation
    rw [if_neg (nI_pos (by omega)), f1 4 (by omega), c1, if_neg (nI_ge hp (by omega)), if_neg (show ¬ (300 : Int32) ≤ nI pc from nI_ge (b := 300) (by omega) (by omega)), zix_nI _ (by omega) (by omega), nI_clamp (by omega), f1 5 (by omega), c3]
  have e2 : F_Code_operand M (nI pc) = some (c.2.2 pc, M) := by
    unfold F_Code_operand
    rw [if_neg (nI_pos (by omega)), f1 4 (by omega), c1, if_neg (nI_ge hp (by omega)), if_neg (show ¬ (300 : Int32) ≤ nI pc from nI_ge (b := 300) (by omega) (by omega)), zix_nI _ (by omega) (by omega), nI_clamp (by omega), f1 6 (by omega), c4]
  unfold F_Mach_step
  rw [h15, e1, zbi_some, h15, e2, zbi_some, zset_eq, h15, nI_1, zbv_id, zbv_id, zbv_id]
theorem oMv (hc : cCD M0 c) (h : cM M0 M L R s d pc vs) (hp : pc < c.1) (ho : c.2.1 pc = nI n) (hn : n < 20) : ∃ M7, cM M0 M7 L R s d (pc + 1) vs ∧ ∀ M', F_Mach_move M7 (nI n) (c.2.2 pc) = some M' → cS M M' 1 := by
  obtain ⟨M7, h1, h2⟩ := cAt hc h hp
  refine ⟨M7, h1, fun M' e => cS_1 h.2.1.2.2 fun N _ => ?_⟩
  rw [h2, ho, if_pos (show nI n < (130 : Int32) from nI_lt (b := 130) (by omega) (by omega)), if_pos (show nI n < (20 : Int32) from nI_lt (b := 20) (by omega) (by omega)), e]
theorem oGo (hc : cCD M0 c) (h : cM M0 M L R s d pc vs) (hp : pc < c.1) (ho : c.2.1 pc = nI n) (hn : 20 ≤ n) (hn2 : n < 130) : ∃ M7, cM M0 M7 L R s d (pc + 1) vs ∧ ∀ M', (∀ N, 20 ≤ N → F_Mach_go N M7 (nI n) (c.2.2 pc) = some M') → cS M M' 1 := by
  obtain ⟨M7, h1, h2⟩ := cAt hc h hp
  refine ⟨M7, h1, fun M' e => cS_1 h.2.1.2.2 fun N hN => ?_⟩
  rw [h2, ho, if_pos (show nI n < (130 : Int32) from nI_lt (b := 130) (by omega) (by omega)), if_neg (show ¬ nI n < (20 : Int32) from nI_nlt (b := 20) (by omega) (by omega)), e N hN]
theorem oCa (hc : cCD M0 c) (h : cM M0 M L R s d pc vs) (hp : pc < c.1) (ho : c.2.1 pc = nI n) (hn : 130 ≤ n) (hn2 : n < 1000) : ∃ M7, cM M0 M7 L R s d (pc + 1) vs ∧ ∀ M', F_Mach_calculate M7 (nI n) = some M' → cS M M' 1 := by
  obtain ⟨M7, h1, h2⟩ := cAt hc h hp
  refine ⟨M7, h1, fun M' e => cS_1 h.2.1.2.2 fun N _ => ?_⟩
  rw [h2, ho, if_neg (show ¬ nI n < (130 : Int32) from nI_nlt (b := 130) (by omega) (by omega)), e]
theorem o1 (hc : cCD M0 c) (h : cM M0 M L R s d pc vs) (hp : pc < c.1) (hv : vs.length < 2048) (ho : c.2.1 pc = 1) : ∃ M', cS M M' 1 ∧ cM M0 M' L R s d (pc + 1) (c.2.2 pc :: vs) := by
  obtain ⟨M7, h1, h2⟩ := oMv (n := 1) hc h hp ho (by omega)
  obtain ⟨M', e1, e2⟩ := mPush h1 hv (c.2.2 pc)
  refine ⟨M', h2 M' ?_, e2⟩
  unfold F_Mach_move
  rw [if_pos (show nI 1 = 1 from rfl), e1, zbv_some]
theorem o2 {x : Nat} (hc : cCD M0 c) (h : cM M0 M L R s d pc vs) (hp : pc < c.1) (hv : vs.length < 2048) (ho : c.2.1 pc = 2) (hx : x < 8) (hd : c.2.2 pc = nI x) : ∃ M', cS M M' 1 ∧ cM M0 M' L R s d (pc + 1) (s.1 0 x :: vs) := by
  obtain ⟨M7, h1, h2⟩ := oMv (n := 2) hc h hp ho (by omega)
  obtain ⟨M', e1, e2⟩ := mPush h1 hv (s.1 0 x)
  refine ⟨M', h2 M' ?_, e2⟩
  unfold F_Mach_move F_Mach_move_p20
  rw [if_neg (show ¬ nI 2 = 1 by decide), if_pos (show nI 2 = 2 from rfl), hd, if_neg (nI_pos (by omega)), if_neg (show ¬ (8 : Int32) ≤ nI x from nI_ge (b := 8) hx (by omega)), zix_nI _ hx (by omega), nI_clamp (by omega), h1.1.1 x hx, e1, zbv_some]
theorem loc8 {x : Nat} (h : cM M0 M L R s d pc vs) (hx : x < 8) (hd : d ≤ 20) : M 27 14 * 8 + nI x = nI (8 * d + x) := by
  rw [h.2.1.1, show (8 : Int32) = nI 8 from rfl, pk_mul, nI_add, Nat.mul_comm]
theorem o3 {x : Nat} (hc : cCD M0 c) (h : cM M0 M L R s d pc vs) (hp : pc < c.1) (hv : vs.length < 2048) (ho : c.2.1 pc = 3) (hx : x < 8) (hd20 : d ≤ 20) (hd : c.2.2 pc = nI x) : ∃ M', cS M M' 1 ∧ cM M0 M' L R s d (pc + 1) (s.1 2 x :: vs) := by
  obtain ⟨M7, h1, h2⟩ := oMv (n := 3) hc h hp ho (by omega)
  obtain ⟨M', e1, e2⟩ := mPush h1 hv (s.1 2 x)
  refine ⟨M', h2 M' ?_, e2⟩
  unfold F_Mach_move F_Mach_loadLocal
  rw [if_neg (show ¬ nI 3 = 1 by decide), if_neg (show ¬ nI 3 = 2 by decide), if_pos (show nI 3 = 3 from rfl), hd, loc8 h1 hx hd20, if_neg (nI_pos (by omega)), if_neg (show ¬ (168 : Int32) ≤ nI (8 * d + x) from nI_ge (b := 168) (by omega) (by omega)), zix_nI _ (by omega) (by omega), nI_clamp (by omega), zbi_some, h1.2.2.2.1 x hx, e1, zbv_some]
theorem o4 (hc : cCD M0 c) (h : cM M0 M L R s d pc (v :: vs)) (hp : pc < c.1) (hv : vs.length < 2048) (ho : c.2.1 pc = 4) : ∃ M', cS M M' 1 ∧ cM M0 M' L R s d (pc + 1) (s.1 1 (vIx v) :: vs) := by
  obtain ⟨M7, h1, h2⟩ := oMv (n := 4) hc h hp ho (by omega)
  obtain ⟨M8, e1, e2⟩ := mPop h1 hv
  obtain ⟨M', e3, e4⟩ := mPush e2 hv (s.1 1 (vIx v))
  obtain ⟨j, j1, j2⟩ := and15 v
  have hj : vIx v = j := by unfold vIx; rw [j2, nI_clamp (by omega)]
  refine ⟨M', h2 M' ?_, e4⟩
  unfold F_Mach_move F_Mach_loadCell
  rw [if_neg (show ¬ nI 4 = 1 by decide), if_neg (show ¬ nI 4 = 2 by decide), if_neg (show ¬ nI 4 = 3 by decide), if_pos (show nI 4 = 4 from rfl), e1, zbi_some, j2, if_neg (nI_pos (by omega)), if_neg (show ¬ (16 : Int32) ≤ nI j from nI_ge (b := 16) j1 (by omega)), zix_nI _ j1 (by omega), nI_clamp (by omega), zbi_some, e2.1.2.1 j j1, ← hj, e3, zbv_some]
theorem o5 {x : Nat} (hc : cCD M0 c) (h : cM M0 M L R s d pc (v :: vs)) (hp : pc < c.1) (hv : vs.length < 2048) (ho : c.2.1 pc = 5) (hx : x < 8) (hd : c.2.2 pc = nI x) : ∃ M', cS M M' 1 ∧ cM M0 M' L R (vSet 0 x v s) d (pc + 1) vs := by
  obtain ⟨M7, h1, h2⟩ := oMv (n := 5) hc h hp ho (by omega)
  obtain ⟨M8, e1, e2⟩ := mPop h1 hv
  obtain ⟨a1, a2, a3, a4, a5, a6, a7⟩ := e2.1
  refine ⟨zup M8 28 x v, h2 _ ?_, cM_s e2 ⟨fun i hi => ?_, fun i hi => ?_, fun i hi => ?_, ?_, ?_, ?_, a7⟩ (fun j hj => by rw [zup_ne (by omega)]) ?_ (zup_ne (by omega)) (fun i hi => ?_) (fun i hi => ?_) (zup_ne (by omega)) (fun a ha => zup_ne (by omega))⟩
  · unfold F_Mach_move F_Mach_storeGlobal
    rw [if_neg (show ¬ nI 5 = 1 by decide), if_neg (show ¬ nI 5 = 2 by decide), if_neg (show ¬ nI 5 = 3 by decide), if_neg (show ¬ nI 5 = 4 by decide), if_pos (show nI 5 = 5 from rfl), e1, zbi_some, hd, if_neg (nI_pos (by omega)), if_neg (show ¬ (8 : Int32) ≤ nI x from nI_ge (b := 8) hx (by omega)), zix_nI _ hx (by omega), nI_clamp (by omega), zset_eq, zbv_some]
  · show _ = zup s.1 0 x v 0 i
    rw [zup_ap, zup_ap, if_pos rfl, if_pos rfl]
    by_cases q : i = x
    · rw [if_pos q, if_pos q]
    · rw [if_neg q, if_neg q]; exact a1 i hi
  · show _ = zup s.1 0 x v 1 i
    rw [zup_ne (by omega), zup_ne (by omega)]; exact a2 i hi
  · show _ = zup s.1 0 x v 4 i
    rw [zup_ne (by omega), zup_ne (by omega)]; exact a3 i hi
  · rw [zup_ne (by omega)]; exact a4
  · rw [zup_ne (by omega)]; exact a5
  · rw [zup_ne (by omega)]; exact a6
  · rw [zup_ne (by omega)]; exact e2.2.1.2.1
  · show _ = zup s.1 0 x v 2 i
    rw [zup_ne (by omega), zup_ne (by omega)]; exact e2.2.2.2.1 i hi
  · rw [zup_ne (by omega)]
/-- a value is put under a name of the call -/
theorem cStL {x : Nat} (h : cM M0 M L R s d pc vs) (hx : x < 8) (hd : d ≤ 20) (v : Int32) : ∃ M', F_Mach_storeLocal M (nI x) v = some M' ∧ cM M0 M' L R (vSet 2 x v s) d pc vs := by
  obtain ⟨a1, a2, a3, a4, a5, a6, a7⟩ := h.1
  refine ⟨zup M 32 (8 * d + x) v, ?_, cM_s h ⟨fun i hi => ?_, fun i hi => ?_, fun i hi => ?_, ?_, ?_, ?_, a7⟩ (fun j hj => by rw [zup_ne (by omega)]) ?_ (zup_ne (by omega)) (fun i hi => ?_) (fun i hi => ?_) (zup_ne (by omega)) (fun a ha => zup_ne (by omega))⟩
  · unfold F_Mach_storeLocal
    rw [loc8 h hx hd, if_neg (nI_pos (by omega)), if_neg (show ¬ (168 : Int32) ≤ nI (8 * d + x) from nI_ge (b := 168) (by omega) (by omega)), zix_nI _ (by omega) (by omega), nI_clamp (by omega), zset_eq]
  · show _ = zup s.1 2 x v 0 i
    rw [zup_ne (by omega), zup_ne (by omega)]; exact a1 i hi
  · show _ = zup s.1 2 x v 1 i
    rw [zup_ne (by omega), zup_ne (by omega)]; exact a2 i hi
  · show _ = zup s.1 2 x v 4 i
    rw [zup_ne (by omega), zup_ne (by omega)]; exact a3 i hi
  · rw [zup_ne (by omega)]; exact a4
  · rw [zup_ne (by omega)]; exact a5
  · rw [zup_ne (by omega)]; exact a6
  · rw [zup_ne (by omega)]; exact h.2.1.2.1
  · show _ = zup s.1 2 x v 2 i
    rw [zup_ap, zup_ap, if_pos rfl, if_pos rfl]
    by_cases q : i = x
    · rw [if_pos (by omega), if_pos q]
    · rw [if_neg (by omega), if_neg q]; exact h.2.2.2.1 i hi
  · rw [zup_ap, if_pos rfl, if_neg (by omega)]
theorem o6 {x : Nat} (hc : cCD M0 c) (h : cM M0 M L R s d pc (v :: vs)) (hp : pc < c.1) (hv : vs.length < 2048) (ho : c.2.1 pc = 6) (hx : x < 8) (hd20 : d ≤ 20) (hd : c.2.2 pc = nI x) : ∃ M', cS M M' 1 ∧ cM M0 M' L R (vSet 2 x v s) d (pc + 1) vs := by
  obtain ⟨M7, h1, h2⟩ := oMv (n := 6) hc h hp ho (by omega)
  obtain ⟨M8, e1, e2⟩ := mPop h1 hv
  obtain ⟨M', e3, e4⟩ := cStL e2 hx hd20 v
  refine ⟨M', h2 M' ?_, e4⟩
  unfold F_Mach_move
  rw [if_neg (show ¬ nI 6 = 1 by decide), if_neg (show ¬ nI 6 = 2 by decide), if_neg (show ¬ nI 6 = 3 by decide), if_neg (show ¬ nI 6 = 4 by decide), if_neg (show ¬ nI 6 = 5 by decide), if_pos (show nI 6 = 6 from rfl), e1, zbi_some, hd, e3, zbv_some]
theorem o7 {b : Int32} (hc : cCD M0 c) (h : cM M0 M L R s d pc (b :: v :: vs)) (hp : pc < c.1) (hv : vs.length + 1 < 2048) (ho : c.2.1 pc = 7) : ∃ M', cS M M' 1 ∧ cM M0 M' L R (vSet 1 (vIx v) b s) d (pc + 1) vs := by
  obtain ⟨M7, h1, h2⟩ := oMv (n := 7) hc h hp ho (by omega)
  obtain ⟨M8, e1, e2⟩ := mPop h1 hv
  obtain ⟨M9, e3, e4⟩ := mPop e2 (by omega)
  obtain ⟨j, j1, j2⟩ := and15 v
  have hj : vIx v = j := by unfold vIx; rw [j2, nI_clamp (by omega)]
  rw [hj]
  obtain ⟨a1, a2, a3, a4, a5, a6, a7⟩ := e4.1
  refine ⟨zup M9 29 j b, h2 _ ?_, cM_s e4 ⟨fun i hi => ?_, fun i hi => ?_, fun i hi => ?_, ?_, ?_, ?_, a7⟩ (fun j hj => by rw [zup_ne (by omega)]) ?_ (zup_ne (by omega)) (fun i hi => ?_) (fun i hi => ?_) (zup_ne (by omega)) (fun a ha => zup_ne (by omega))⟩
  · unfold F_Mach_move F_Mach_storeCell
    rw [if_neg (show ¬ nI 7 = 1 by decide), if_neg (show ¬ nI 7 = 2 by decide), if_neg (show ¬ nI 7 = 3 by decide), if_neg (show ¬ nI 7 = 4 by decide), if_neg (show ¬ nI 7 = 5 by decide), if_neg (show ¬ nI 7 = 6 by decide), if_pos (show nI 7 = 7 from rfl), e1, zbi_some, e3, zbi_some, j2, if_neg (nI_pos (by omega)), if_neg (show ¬ (16 : Int32) ≤ nI j from nI_ge (b := 16) j1 (by omega)), zix_nI _ j1 (by omega), nI_clamp (by omega), zset_eq, zbv_some]
  · show _ = zup s.1 1 j b 0 i
    rw [zup_ne (by omega), zup_ne (by omega)]; exact a1 i hi
  · show _ = zup s.1 1 j b 1 i
    rw [zup_ap, zup_ap, if_pos rfl, if_pos rfl]
    by_cases q : i = j
    · rw [if_pos q, if_pos q]
    · rw [if_neg q, if_neg q]; exact a2 i hi
  · show _ = zup s.1 1 j b 4 i
    rw [zup_ne (by omega), zup_ne (by omega)]; exact a3 i hi
  · rw [zup_ne (by omega)]; exact a4
  · rw [zup_ne (by omega)]; exact a5
  · rw [zup_ne (by omega)]; exact a6
  · rw [zup_ne (by omega)]; exact e4.2.1.2.1
  · show _ = zup s.1 1 j b 2 i
    rw [zup_ne (by omega), zup_ne (by omega)]; exact e4.2.2.2.1 i hi
  · rw [zup_ne (by omega)]
theorem o8 (hc : cCD M0 c) (h : cM M0 M L R s d pc (v :: vs)) (hp : pc < c.1) (hv : vs.length < 2048) (ho : c.2.1 pc = 8) : ∃ M', cS M M' 1 ∧ cM M0 M' L R s d (pc + 1) ((0 - v) :: vs) := by
  obtain ⟨M7, h1, h2⟩ := oMv (n := 8) hc h hp ho (by omega)
  obtain ⟨M8, e1, e2⟩ := mPop h1 hv
  obtain ⟨M', e3, e4⟩ := mPush e2 hv (0 - v)
  refine ⟨M', h2 M' ?_, e4⟩
  unfold F_Mach_move
  rw [if_neg (show ¬ nI 8 = 1 by decide), if_neg (show ¬ nI 8 = 2 by decide), if_neg (show ¬ nI 8 = 3 by decide), if_neg (show ¬ nI 8 = 4 by decide), if_neg (show ¬ nI 8 = 5 by decide), if_neg (show ¬ nI 8 = 6 by decide), if_neg (show ¬ nI 8 = 7 by decide), if_pos (show nI 8 = 8 from rfl), e1, zbi_some, e3, zbv_some]
theorem o9 (hc : cCD M0 c) (h : cM M0 M L R s d pc (v :: vs)) (hp : pc < c.1) (hv : vs.length < 2048) (ho : c.2.1 pc = 9) : ∃ M', cS M M' 1 ∧ cM M0 M' L R s d (pc + 1) ((if v = 0 then 1 else 0) :: vs) := by
  obtain ⟨M7, h1, h2⟩ := oMv (n := 9) hc h hp ho (by omega)
  obtain ⟨M8, e1, e2⟩ := mPop h1 hv
  obtain ⟨M', e3, e4⟩ := mPush e2 hv (if v = 0 then 1 else 0)
  refine ⟨M', h2 M' ?_, e4⟩
  unfold F_Mach_move F_Mach_move_p70
  rw [if_neg (show ¬ nI 9 = 1 by decide), if_neg (show ¬ nI 9 = 2 by decide), if_neg (show ¬ nI 9 = 3 by decide), if_neg (show ¬ nI 9 = 4 by decide), if_neg (show ¬ nI 9 = 5 by decide), if_neg (show ¬ nI 9 = 6 by decide), if_neg (show ¬ nI 9 = 7 by decide), if_neg (show ¬ nI 9 = 8 by decide), if_pos (show nI 9 = 9 from rfl), e1, zbi_some]
  by_cases q : v = 0
  · rw [if_pos q] at e3 ⊢; rw [e3, zbv_some]
  · rw [if_neg q] at e3 ⊢; rw [e3, zbv_some]
theorem o10 (hc : cCD M0 c) (h : cM M0 M L R s d pc (v :: vs)) (hp : pc < c.1) (hv : vs.length < 2048) (ho : c.2.1 pc = 10) : ∃ M', cS M M' 1 ∧ cM M0 M' L R s d (pc + 1) (nz v :: vs) := by
  obtain ⟨M7, h1, h2⟩ := oMv (n := 10) hc h hp ho (by omega)
  obtain ⟨M8, e1, e2⟩ := mPop h1 hv
  obtain ⟨M', e3, e4⟩ := mPush e2 hv (nz v)
  refine ⟨M', h2 M' ?_, e4⟩
  unfold F_Mach_move F_Mach_move_p79
  unfold nz at e3
  rw [if_neg (show ¬ nI 10 = 1 by decide), if_neg (show ¬ nI 10 = 2 by decide), if_neg (show ¬ nI 10 = 3 by decide), if_neg (show ¬ nI 10 = 4 by decide), if_neg (show ¬ nI 10 = 5 by decide), if_neg (show ¬ nI 10 = 6 by decide), if_neg (show ¬ nI 10 = 7 by decide), if_neg (show ¬ nI 10 = 8 by decide), if_neg (show ¬ nI 10 = 9 by decide), if_pos (show nI 10 = 10 from rfl), e1, zbi_some]
  by_cases q : v = 0
  · rw [if_pos q] at e3 ⊢; rw [e3, zbv_some]
  · rw [if_neg q] at e3 ⊢; rw [e3, zbv_some]
theorem o11 (hc : cCD M0 c) (h : cM M0 M L R s d pc (v :: vs)) (hp : pc < c.1) (hv : vs.length < 2048) (ho : c.2.1 pc = 11) : ∃ M', cS M M' 1 ∧ cM M0 M' L R s d (pc + 1) vs := by
  obtain ⟨M7, h1, h2⟩ := oMv (n := 11) hc h hp ho (by omega)
  obtain ⟨M8, e1, e2⟩ := mPop h1 hv
  refine ⟨M8, h2 M8 ?_, e2⟩
  unfold F_Mach_move
  rw [if_neg (show ¬ nI 11 = 1 by decide), if_neg (show ¬ nI 11 = 2 by decide), if_neg (show ¬ nI 11 = 3 by decide), if_neg (show ¬ nI 11 = 4 by decide), if_neg (show ¬ nI 11 = 5 by decide), if_neg (show ¬ nI 11 = 6 by decide), if_neg (show ¬ nI 11 = 7 by decide), if_neg (show ¬ nI 11 = 8 by decide), if_neg (show ¬ nI 11 = 9 by decide), if_neg (show ¬ nI 11 = 10 by decide), if_pos (show nI 11 = 11 from rfl), e1, zbi_some]
end CO2
