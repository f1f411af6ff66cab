/-! THE REFERENCE'S RUN: what each kind of node does with its values -/
section RO
variable {M0 M M' : zMem} {L P : Nat → Int32} {s s' : zE} {d c h n kn mk x k : Nat} {W Wb : List (Nat × Nat)} {vs vb : List Int32} {v w : Int32}
theorem gTopV (r : rM M0 M L P s d W (v :: vs)) (hv : vs.length < 3500) : M 34 35 - 1 = nI vs.length ∧ M 55 vs.length = v := by
  have h35 : M 34 35 = nI (vs.length + 1) := r.2.2.2.1.1
  exact ⟨by rw [h35]; exact nI_pred _, r.2.2.2.1.2.1⟩
theorem gSetTop (r : rM M0 M L P s d W (v :: vs)) (w : Int32) : rM M0 (zup M 55 vs.length w) L P s d W (w :: vs) := by
  refine rM_v r (fun a j q1 q2 => by rw [zup_ne q1]) ?_ ⟨by rw [zup_self, pk_us], rVs_same (fun i hi => ?_) r.2.2.2.1.2.2⟩
  · rw [zup_ne (by omega)]; exact r.2.2.2.1.1
  · rw [zup_ap, if_pos rfl, if_neg (by omega)]
/-- two values are worked upon -/
theorem gOper (r : rM M0 M L P s d W (w :: v :: vs)) (hv : vs.length < 3500) (hk : isBin k = true) (hk2 : k < 150) : match eBin k v w with
    | some y => ∃ M', F_R_operate M (nI k) = some M' ∧ rM M0 M' L P s d W (y :: vs)
    | none => ∃ M', F_R_operate M (nI k) = some M' ∧ rX M0 M' s 4 := by
  obtain ⟨M1, e1, e2⟩ := gRel r (by simp only [List.length_cons]; omega)
  obtain ⟨M2, e3, e4⟩ := gRel e2 (by omega)
  have kk : k = 130 ∨ k = 131 ∨ k = 132 ∨ k = 133 ∨ k = 134 ∨ k = 140 ∨ k = 141 ∨ k = 142 ∨ k = 143 ∨ k = 144 ∨ k = 145 := by
    obtain ⟨k1, k2⟩ := isBin_n hk
    simp [isBin, isRel, isSimp, isTerm] at hk
    omega
  have ps : ∀ y, F_R_operate M (nI k) = F_R_hold M2 y → ∃ M', F_R_operate M (nI k) = some M' ∧ rM M0 M' L P s d W (y :: vs) := fun y q => by
    obtain ⟨M', p1, p2⟩ := gHold e4 (by omega) y
    exact ⟨M', by rw [q, p1], p2⟩
  have rel : ∀ (t : Bool), (F_R_operate M (nI k) = F_R_operate_p121 M2 (bI t)) → ∃ M', F_R_operate M (nI k) = some M' ∧ rM M0 M' L P s d W (bI t :: vs) := by
    intro t q
    apply ps
    rw [q]
    unfold F_R_operate_p121 F_R_operate_p128
    cases t with
    | true => rw [if_neg (show ¬ bI true = 0 by decide), zbv_id]; rfl
    | false => rw [if_pos (show bI false = 0 by decide), zbv_id]; rfl
  have dz : w = 0 → F_R_operate M (nI k) = F_R_operate_p12 M2 (nI k) w v → ∃ M', F_R_operate M (nI k) = some M' ∧ rX M0 M' s 4 := by
    intro q1 q2
    refine ⟨zup M2 34 45 (nI 4), ?_, gEnd45 e4 4⟩
    rw [q2]
    unfold F_R_operate_p12
    rw [if_pos q1, zset_eq]
    rfl
  rcases kk with rfl | rfl | rfl | rfl | rfl | rfl | rfl | rfl | rfl | rfl | rfl
  · refine ps (v + w) ?_
    unfold F_R_operate F_R_operate_p52
    rw [e1, zbi_some, e3, zbi_some, if_neg (show ¬ nI 130 = 133 by decide), if_neg (show ¬ nI 130 = 134 by decide), if_neg (show ¬ (133 : Int32) ≤ nI 130 by decide), if_pos (show nI 130 = 130 from rfl), zbv_id]
  · refine ps (v - w) ?_
    unfold F_R_operate F_R_operate_p52
    rw [e1, zbi_some, e3, zbi_some, if_neg (show ¬ nI 131 = 133 by decide), if_neg (show ¬ nI 131 = 134 by decide), if_neg (show ¬ (133 : Int32) ≤ nI 131 by decide), if_neg (show ¬ nI 131 = 130 by decide), if_pos (show nI 131 = 131 from rfl), zbv_id]
  · refine ps (v * w) ?_
    unfold F_R_operate F_R_operate_p52
    rw [e1, zbi_some, e3, zbi_some, if_neg (show ¬ nI 132 = 133 by decide), if_neg (show ¬ nI 132 = 134 by decide), if_neg (show ¬ (133 : Int32) ≤ nI 132 by decide), if_neg (show ¬ nI 132 = 130 by decide), if_neg (show ¬ nI 132 = 131 by decide), zbv_id]
  · have pre : F_R_operate M (nI 133) = F_R_operate_p12 M2 (nI 133) w v := by
      unfold F_R_operate
      rw [e1, zbi_some, e3, zbi_some, if_pos (show nI 133 = 133 from rfl)]
    by_cases q : w = 0
    · have e : eBin 133 v w = none := by unfold eBin; simp [q]
      rw [e]
      exact dz q pre
    · have e : eBin 133 v w = some (v / w) := by unfold eBin; simp [q]
      rw [e]
      refine ps _ ?_
      rw [pre]
      unfold F_R_operate_p12 F_R_operate_p29
      rw [if_neg q, if_pos (show nI 133 = 133 from rfl), znz_ne _ q, zbv_id]
  · have pre : F_R_operate M (nI 134) = F_R_operate_p12 M2 (nI 134) w v := by
      unfold F_R_operate
      rw [e1, zbi_some, e3, zbi_some, if_neg (show ¬ nI 134 = 133 by decide), if_pos (show nI 134 = 134 from rfl)]
    by_cases q : w = 0
    · have e : eBin 134 v w = none := by unfold eBin; simp [q]
      rw [e]
      exact dz q pre
    · have e : eBin 134 v w = some (v - v / w * w) := by unfold eBin; simp [q]
      rw [e]
      refine ps _ ?_
      rw [pre]
      unfold F_R_operate_p12 F_R_operate_p29
      rw [if_neg q, if_neg (show ¬ nI 134 = 133 by decide), znz_ne _ q, zbv_id]
  · refine rel (decide (v = w)) ?_
    unfold F_R_operate
    rw [e1, zbi_some, e3, zbi_some, if_neg (show ¬ nI 140 = 133 by decide), if_neg (show ¬ nI 140 = 134 by decide), if_pos (show (133 : Int32) ≤ nI 140 by decide), if_pos (show nI 140 ≤ (145 : Int32) by decide), if_pos (show nI 140 = 140 from rfl)]
    by_cases q : v = w
    · rw [if_pos q]; simp [bI, q]
    · rw [if_neg q]; simp [bI, q]
  · refine rel (decide (¬ v = w)) ?_
    unfold F_R_operate
    rw [e1, zbi_some, e3, zbi_some, if_neg (show ¬ nI 141 = 133 by decide), if_neg (show ¬ nI 141 = 134 by decide), if_pos (show (133 : Int32) ≤ nI 141 by decide), if_pos (show nI 141 ≤ (145 : Int32) by decide), if_neg (show ¬ nI 141 = 140 by decide), if_pos (show nI 141 = 141 from rfl)]
    by_cases q : v = w
    · rw [if_pos q]; simp [bI, q]
    · rw [if_neg q]; simp [bI, q]
  · refine rel (decide (¬ w ≤ v)) ?_
    unfold F_R_operate
    rw [e1, zbi_some, e3, zbi_some, if_neg (show ¬ nI 142 = 133 by decide), if_neg (show ¬ nI 142 = 134 by decide), if_pos (show (133 : Int32) ≤ nI 142 by decide), if_pos (show nI 142 ≤ (145 : Int32) by decide), if_neg (show ¬ nI 142 = 140 by decide), if_neg (show ¬ nI 142 = 141 by decide), if_pos (show nI 142 = 142 from rfl)]
    by_cases q : w ≤ v
    · rw [if_pos q]; simp [bI, q]
    · rw [if_neg q]; simp [bI, q]
  · refine rel (decide (¬ w < v)) ?_
    unfold F_R_operate
    rw [e1, zbi_some, e3, zbi_some, if_neg (show ¬ nI 143 = 133 by decide), if_neg (show ¬ nI 143 = 134 by decide), if_pos (show (133 : Int32) ≤ nI 143 by decide), if_pos (show nI 143 ≤ (145 : Int32) by decide), if_neg (show ¬ nI 143 = 140 by decide), if_neg (show ¬ nI 143 = 141 by decide), if_neg (show ¬ nI 143 = 142 by decide), if_pos (show nI 143 = 143 from rfl)]
    by_cases q : w < v
    · rw [if_pos q]; simp [bI, q]
    · rw [if_neg q]; simp [bI, q]
  · refine rel (decide (¬ v ≤ w)) ?_
    unfold F_R_operate
    rw [e1, zbi_some, e3, zbi_some, if_neg (show ¬ nI 144 = 133 by decide), if_neg (show ¬ nI 144 = 134 by decide), if_pos (show (133 : Int32) ≤ nI 144 by decide), if_pos (show nI 144 ≤ (145 : Int32) by decide), if_neg (show ¬ nI 144 = 140 by decide), if_neg (show ¬ nI 144 = 141 by decide), if_neg (show ¬ nI 144 = 142 by decide), if_neg (show ¬ nI 144 = 143 by decide), if_pos (show nI 144 = 144 from rfl)]
    by_cases q : v ≤ w
    · rw [if_pos q]; simp [bI, q]
    · rw [if_neg q]; simp [bI, q]
  · refine rel (decide (¬ v < w)) ?_
    unfold F_R_operate
    rw [e1, zbi_some, e3, zbi_some, if_neg (show ¬ nI 145 = 133 by decide), if_neg (show ¬ nI 145 = 134 by decide), if_pos (show (133 : Int32) ≤ nI 145 by decide), if_pos (show nI 145 ≤ (145 : Int32) by decide), if_neg (show ¬ nI 145 = 140 by decide), if_neg (show ¬ nI 145 = 141 by decide), if_neg (show ¬ nI 145 = 142 by decide), if_neg (show ¬ nI 145 = 143 by decide), if_neg (show ¬ nI 145 = 144 by decide)]
    by_cases q : v < w
    · rw [if_pos q]; simp [bI, q]
    · rw [if_neg q]; simp [bI, q]
theorem gOper2 (r : rM M0 M L P s d W (w :: v :: vs)) (hv : vs.length < 3500) (hk : k = 150 ∨ k = 151) : ∃ M', F_R_operate M (nI k) = some M' ∧ rM M0 M' L P s d W (nz w :: vs) := by
  obtain ⟨M1, e1, e2⟩ := gRel r (by simp only [List.length_cons]; omega)
  obtain ⟨M2, e3, e4⟩ := gRel e2 (by omega)
  obtain ⟨M', p1, p2⟩ := gHold e4 (by omega) (nz w)
  refine ⟨M', ?_, p2⟩
  have n1 : ¬ nI k = 133 ∧ ¬ nI k = 134 ∧ (133 : Int32) ≤ nI k ∧ ¬ nI k ≤ (145 : Int32) := by rcases hk with rfl | rfl <;> decide
  unfold F_R_operate F_R_operate_p63
  unfold nz at p1
  rw [e1, zbi_some, e3, zbi_some, if_neg n1.1, if_neg n1.2.1, if_pos n1.2.2.1, if_neg n1.2.2.2]
  by_cases q : w = 0
  · rw [if_pos q] at p1 ⊢; rw [p1, zbv_some]
  · rw [if_neg q] at p1 ⊢; rw [p1, zbv_some]
/-- nodes with one value -/
theorem h2 (hk : kn < 400) (h39 : M0 39 kn = 2) (hW : W.length < 3500) (hv : vs.length < 3500) (r : rM M0 M L P s d ((8 * (kn + 1) + 1, h) :: W) (v :: vs)) : rRs M0 M L P s d W vs Wb vb (0, [s.1 1 (vIx v)], s) := by
  obtain ⟨M1, f1, f2⟩ := gEx r (by omega) hk (by omega) (by omega)
  obtain ⟨M2, e1, e2⟩ := gRel f1 (by omega)
  obtain ⟨j, j1, j2⟩ := and15 v
  have hj : vIx v = j := by unfold vIx; rw [j2, nI_clamp (by omega)]
  obtain ⟨M3, e3, e4⟩ := gHold e2 (by omega) (s.1 1 (vIx v))
  refine rRs_ok ((f2 2 (by omega) h39).1 (by omega) M3 fun N hN => ?_) (Nat.le_refl _) e4
  unfold F_R_goOnExpression
  rw [zix_nI _ hk (by omega), nI_clamp (by omega), f1.2.2.2.2.2.2.2.1 39 (by omega) (by omega), h39, if_pos rfl, e1, zbi_some, j2, zix_nI _ j1 (by omega), nI_clamp (by omega), e2.1.2.1 j j1, ← hj, e3, zbv_some]
theorem h5 (hk : kn < 400) (h39 : M0 39 kn = 5) (hW : W.length < 3500) (hv : vs.length < 3500) (r : rM M0 M L P s d ((8 * (kn + 1) + 1, h) :: W) (v :: vs)) : rRs M0 M L P s d W vs Wb vb (0, [if v = 0 then 1 else 0], s) := by
  obtain ⟨M1, f1, f2⟩ := gEx r (by omega) hk (by omega) (by omega)
  obtain ⟨M2, e1, e2⟩ := gRel f1 (by omega)
  obtain ⟨M3, e3, e4⟩ := gHold e2 (by omega) (if v = 0 then 1 else 0)
  refine rRs_ok ((f2 5 (by omega) h39).1 (by omega) M3 fun N hN => ?_) (Nat.le_refl _) e4
  unfold F_R_goOnExpression F_R_goOnExpression_p35
  rw [zix_nI _ hk (by omega), nI_clamp (by omega), f1.2.2.2.2.2.2.2.1 39 (by omega) (by omega), h39, if_neg (by decide), if_neg (by decide), if_pos rfl, e1, zbi_some]
  by_cases q : v = 0
  · rw [if_pos q] at e3 ⊢; rw [e3, zbv_some]
  · rw [if_neg q] at e3 ⊢; rw [e3, zbv_some]
theorem h6 (hk : kn < 400) (h39 : M0 39 kn = 6) (hW : W.length < 3500) (hv : vs.length < 3500) (r : rM M0 M L P s d ((8 * (kn + 1) + 1, h) :: W) (v :: vs)) : rRs M0 M L P s d W vs Wb vb (0, [0 - v], s) := by
  obtain ⟨M1, f1, f2⟩ := gEx r (by omega) hk (by omega) (by omega)
  obtain ⟨M2, e1, e2⟩ := gRel f1 (by omega)
  obtain ⟨M3, e3, e4⟩ := gHold e2 (by omega) (0 - v)
  refine rRs_ok ((f2 6 (by omega) h39).1 (by omega) M3 fun N hN => ?_) (Nat.le_refl _) e4
  unfold F_R_goOnExpression
  rw [zix_nI _ hk (by omega), nI_clamp (by omega), f1.2.2.2.2.2.2.2.1 39 (by omega) (by omega), h39, if_neg (by decide), if_neg (by decide), if_neg (by decide), if_pos rfl, e1, zbi_some, ← Int32.zero_sub, e3, zbv_some]
theorem h20 (hk : kn < 400) (h39 : M0 39 kn = 20) (h40 : M0 40 kn = nI x) (hx : x < 8) (hd : d ≤ 20) (hL : rLv M0 d (P d) mk) (hW : W.length < 3500) (hv : vs.length < 3500) (r : rM M0 M L P s d ((8 * (kn + 1) + 1, h) :: W) (v :: vs)) : rRs M0 M L P s d W vs Wb vb (0, [], vPut mk x v s) := by
  obtain ⟨M1, f1, f2⟩ := gEx r (by omega) hk (by omega) (by omega)
  obtain ⟨M2, e1, e2⟩ := gRel f1 (by omega)
  have loc := gLoc e2 hL hd hx
  have pre : ∀ N, F_R_goOnStatement N M1 (nI kn) (nI 1) = F_R_setName M2 (nI x) v := fun N => by
    unfold F_R_goOnStatement F_R_goOnStatement_p23
    rw [zix_nI _ hk (by omega), nI_clamp (by omega), f1.2.2.2.2.2.2.2.1 39 (by omega) (by omega), h39, if_neg (by decide), e1, zbi_some, if_pos rfl, zix_nI _ hk (by omega), e2.2.2.2.2.2.2.2.1 40 (by omega) (by omega), h40, zbv_id]
  unfold vPut
  by_cases o : kOwn (nI mk) x = true
  · rw [if_pos o] at loc ⊢
    have hd0 := rLv_d hL hx o
    refine rRs_ok ((f2 20 (by omega) h39).2 (by omega) _ fun N hN => ?_) (Nat.le_refl _) (gStL e2 hx hd0 v)
    rw [pre]
    unfold F_R_setName
    rw [loc, zbi_some, if_neg (by decide), l8 e2, zix_nI _ (by omega) (by omega), nI_clamp (by omega), zset_eq]
  · rw [if_neg o] at loc ⊢
    refine rRs_ok ((f2 20 (by omega) h39).2 (by omega) _ fun N hN => ?_) (Nat.le_refl _) (gStG e2 hx v)
    rw [pre]
    unfold F_R_setName
    rw [loc, zbi_some, if_pos rfl, zix_nI _ hx (by omega), nI_clamp (by omega), zset_eq]
theorem h22 (hk : kn < 400) (h39 : M0 39 kn = 22) (hW : W.length < 3500) (hv : vs.length < 3500) (r : rM M0 M L P s d ((8 * (kn + 1) + 1, h) :: W) (v :: vs)) : rRs M0 M L P s d W vs Wb vb (0, [], s) := by
  obtain ⟨M1, f1, f2⟩ := gEx r (by omega) hk (by omega) (by omega)
  obtain ⟨M2, e1, e2⟩ := gRel f1 (by omega)
  refine rRs_ok ((f2 22 (by omega) h39).2 (by omega) M2 fun N hN => ?_) (Nat.le_refl _) e2
  unfold F_R_goOnStatement F_R_goOnStatement_p23 F_R_goOnStatement_p86 F_R_goOnStatement_p96 F_R_goOnStatement_p112
  rw [zix_nI _ hk (by omega), nI_clamp (by omega), f1.2.2.2.2.2.2.2.1 39 (by omega) (by omega), h39, if_neg (by decide), e1, zbi_some, if_neg (by decide), if_neg (by decide), if_neg (by decide), if_neg (by decide), if_neg (by decide), if_neg (by decide), if_neg (by decide), if_neg (by decide)]
theorem h23 (hk : kn < 400) (h39 : M0 39 kn = 23) (hW : W.length < 3500) (hv : vs.length < 3500) (r : rM M0 M L P s d ((8 * (kn + 1) + 1, h) :: W) (v :: vs)) : rRs M0 M L P s d W vs Wb vb (if s.2.2.2 = 20 then (5, [], s) else (0, [], (zup s.1 4 s.2.2.2 v, s.2.1, s.2.2.1, s.2.2.2 + 1))) := by
  obtain ⟨M1, f1, f2⟩ := gEx r (by omega) hk (by omega) (by omega)
  obtain ⟨M2, e1, e2⟩ := gRel f1 (by omega)
  obtain ⟨-, -, -, a4, -, -, a7, -⟩ := e2.1
  have pre : ∀ N, F_R_goOnStatement N M1 (nI kn) (nI 1) = F_R_print M2 v := fun N => by
    unfold F_R_goOnStatement F_R_goOnStatement_p23
    rw [zix_nI _ hk (by omega), nI_clamp (by omega), f1.2.2.2.2.2.2.2.1 39 (by omega) (by omega), h39, if_neg (by decide), e1, zbi_some, if_neg (by decide), if_neg (by decide), if_pos rfl, zbv_id]
  by_cases q : s.2.2.2 = 20
  · rw [if_pos q]
    refine rRs_x (j := 3) ((f2 23 (by omega) h39).2 (by omega) _ fun N hN => ?_) (Nat.le_refl _) (gEnd45 e2 3)
    rw [pre]
    unfold F_R_print
    rw [a4, q, if_pos (show nI 20 = (20 : Int32) from rfl), zset_eq]
    rfl
  · rw [if_neg q]
    refine rRs_ok ((f2 23 (by omega) h39).2 (by omega) _ fun N hN => ?_) (Nat.le_refl _) (gOut e2 q v)
    rw [pre]
    unfold F_R_print
    have e42 : zup M2 58 s.2.2.2 v 34 42 = nI s.2.2.2 := by rw [zup_ne (by omega)]; exact a4
    rw [a4, if_neg (show ¬ nI s.2.2.2 = (20 : Int32) from nIne (c := 20) (by omega) (by omega) q), zix_nI _ (by omega) (by omega), nI_clamp (by omega), zset_eq, zset_eq, e42, nI_1]
theorem h24 (hk : kn < 400) (h39 : M0 39 kn = 24) (hd : d ≤ 20) (hW : W.length < 3500) (hv : vs.length < 3500) (hB : rBs W vs Wb vb d) (r : rM M0 M L P s d ((8 * (kn + 1) + 1, h) :: W) (v :: vs)) : rRs M0 M L P s d W vs Wb vb (1, [v], s) := by
  obtain ⟨M1, f1, f2⟩ := gEx r (by omega) hk (by omega) (by omega)
  obtain ⟨M2, e1, e2⟩ := gRel f1 (by omega)
  obtain ⟨M3, e3, e4, e5⟩ := gBack (v := v) e2 hB (by omega) (by omega) hd
  refine ⟨Nat.le_refl _, M3, 1, (f2 24 (by omega) h39).2 (by omega) M3 fun N hN => ?_, fun w => by simp at w, fun _ => ⟨e4, fun d' q => e5 d' q⟩, fun w => by simp at w⟩
  unfold F_R_goOnStatement F_R_goOnStatement_p23
  rw [zix_nI _ hk (by omega), nI_clamp (by omega), f1.2.2.2.2.2.2.2.1 39 (by omega) (by omega), h39, if_neg (by decide), e1, zbi_some, if_neg (by decide), if_neg (by decide), if_neg (by decide), if_pos rfl, zbv_id, e3 N hN]
/-- a node goes on to its second part -/
theorem hNext {j : Nat} (hk : kn < 400) (h39 : M0 39 kn = nI k) (hkk : k = 21 ∨ (130 ≤ k ∧ k < 150) ∨ (k = 150 ∧ ¬ v = 0) ∨ (k = 151 ∧ v = 0)) (h42 : M0 42 kn = nI j) (hW : W.length < 3500) (hv : vs.length < 3500) (r : rM M0 M L P s d ((8 * (kn + 1) + 1, h) :: W) (v :: vs)) : ∃ M', rS M M' 1 ∧ rM M0 M' L P s d ((8 * (j + 1), vs.length + 1) :: (8 * (kn + 1) + 2, vs.length + 1) :: W) (v :: vs) := by
  obtain ⟨M1, f1, f2⟩ := gEx r (by omega) hk (by omega) (by omega)
  obtain ⟨M2, g1, g2⟩ := gWait (x := nI kn) (st := 2) (c := 8 * (kn + 1) + 2) f1 (by omega) (cw8 kn 2)
  obtain ⟨M3, g3, g4⟩ := gWait (x := nI j) (st := 0) (c := 8 * (j + 1)) g2 (by simp only [List.length_cons]; omega) (cw8 j 0)
  have k42 : M2 42 kn = nI j := by rw [g2.2.2.2.2.2.2.2.1 42 (by omega) (by omega)]; exact h42
  have k39 : M1 39 kn = nI k := by rw [f1.2.2.2.2.2.2.2.1 39 (by omega) (by omega)]; exact h39
  by_cases c : k = 21
  · subst c
    refine ⟨M3, (f2 21 (by omega) h39).2 (by omega) M3 fun N hN => ?_, g4⟩
    unfold F_R_goOnStatement
    rw [zix_nI _ hk (by omega), nI_clamp (by omega), k39, if_pos (show nI 21 = 21 from rfl), if_pos (show nI 1 = 1 from rfl), g1, zbv_some, zix_nI _ hk (by omega), k42, g3, zbv_some]
  · have kr : 130 ≤ k ∧ k < 152 := by omega
    refine ⟨M3, (f2 k (by omega) h39).1 (by omega) M3 fun N hN => ?_, g4⟩
    obtain ⟨t1, t2⟩ := gTopV f1 hv
    have p85 : F_R_goOnExpression_p85 N M1 (nI kn) = some M3 := by
      unfold F_R_goOnExpression_p85
      rw [g1, zbv_some, zix_nI _ hk (by omega), nI_clamp (by omega), k42, g3, zbv_some]
    unfold F_R_goOnExpression
    rw [zix_nI _ hk (by omega), nI_clamp (by omega), k39, if_neg (show ¬ nI k = 2 from nIne (c := 2) (by omega) (by omega) (by omega)), if_neg (show ¬ nI k = 3 from nIne (c := 3) (by omega) (by omega) (by omega)), if_neg (show ¬ nI k = 5 from nIne (c := 5) (by omega) (by omega) (by omega)), if_neg (show ¬ nI k = 6 from nIne (c := 6) (by omega) (by omega) (by omega)), if_neg (show ¬ nI 1 = 2 by decide), t1, zix_nI _ (by omega) (by omega), nI_clamp (by omega), t2]
    by_cases c1 : k = 150
    · subst c1
      have hv0 : ¬ v = 0 := by
        rcases hkk with q | q | q | q
        · omega
        · omega
        · exact q.2
        · exact absurd q.1 (by omega)
      rw [if_pos (show nI 150 = 150 from rfl), if_neg hv0]
      unfold F_R_goOnExpression_p66
      rw [if_neg (show ¬ nI 150 = 151 by decide), p85]
    · rw [if_neg (show ¬ nI k = 150 from nIne (c := 150) (by omega) (by omega) c1)]
      unfold F_R_goOnExpression_p66
      by_cases c2 : k = 151
      · subst c2
        have hv0 : v = 0 := by
          rcases hkk with q | q | q | q
          · omega
          · omega
          · exact absurd q.1 (by omega)
          · exact q.2
        rw [if_pos (show nI 151 = 151 from rfl), if_pos hv0, p85]
      · rw [if_neg (show ¬ nI k = 151 from nIne (c := 151) (by omega) (by omega) c2), p85]
/-- AND, OR that are settled -/
theorem hShort (hk : kn < 400) (h39 : M0 39 kn = nI k) (hkk : (k = 150 ∧ v = 0 ∧ w = 0) ∨ (k = 151 ∧ ¬ v = 0 ∧ w = 1)) (hW : W.length < 3500) (hv : vs.length < 3500) (r : rM M0 M L P s d ((8 * (kn + 1) + 1, h) :: W) (v :: vs)) : ∃ M', rS M M' 1 ∧ rM M0 M' L P s d W (w :: vs) := by
  obtain ⟨M1, f1, f2⟩ := gEx r (by omega) hk (by omega) (by omega)
  have k39 : M1 39 kn = nI k := by rw [f1.2.2.2.2.2.2.2.1 39 (by omega) (by omega)]; exact h39
  obtain ⟨t1, t2⟩ := gTopV f1 hv
  refine ⟨_, (f2 k (by omega) h39).1 (by omega) _ fun N hN => ?_, gSetTop f1 w⟩
  unfold F_R_goOnExpression
  rw [zix_nI _ hk (by omega), nI_clamp (by omega), k39, if_neg (show ¬ nI k = 2 from nIne (c := 2) (by omega) (by omega) (by omega)), if_neg (show ¬ nI k = 3 from nIne (c := 3) (by omega) (by omega) (by omega)), if_neg (show ¬ nI k = 5 from nIne (c := 5) (by omega) (by omega) (by omega)), if_neg (show ¬ nI k = 6 from nIne (c := 6) (by omega) (by omega) (by omega)), if_neg (show ¬ nI 1 = 2 by decide), t1, zix_nI _ (by omega) (by omega), nI_clamp (by omega), t2]
  rcases hkk with ⟨rfl, q, rfl⟩ | ⟨rfl, q, rfl⟩
  · rw [if_pos (show nI 150 = 150 from rfl), if_pos q]
    unfold F_R_goOnExpression_p71 F_R_goOnExpression_p83
    rw [if_pos (show nI 150 = 150 from rfl), t1, zix_nI _ (by omega) (by omega), nI_clamp (by omega), zset_eq]
  · rw [if_neg (show ¬ nI 151 = 150 by decide)]
    unfold F_R_goOnExpression_p66 F_R_goOnExpression_p71 F_R_goOnExpression_p83
    rw [if_pos (show nI 151 = 151 from rfl), if_neg q, if_neg (show ¬ nI 151 = 150 by decide), t1, zix_nI _ (by omega) (by omega), nI_clamp (by omega), zset_eq]
/-- the step behind the second part of an operator -/
theorem hOp (hk : kn < 400) (h39 : M0 39 kn = nI k) (hkk : 130 ≤ k ∧ k < 152) (hW : W.length < 3500) (r : rM M0 M L P s d ((8 * (kn + 1) + 2, h) :: W) vs) : ∃ M1, rM M0 M1 L P s d W vs ∧ ∀ M', F_R_operate M1 (nI k) = some M' → rS M M' 1 := by
  obtain ⟨M1, f1, f2⟩ := gEx r (by omega) hk (by omega) (by omega)
  have k39 : M1 39 kn = nI k := by rw [f1.2.2.2.2.2.2.2.1 39 (by omega) (by omega)]; exact h39
  refine ⟨M1, f1, fun M' e => (f2 k (by omega) h39).1 (by omega) M' fun N hN => ?_⟩
  unfold F_R_goOnExpression
  rw [zix_nI _ hk (by omega), nI_clamp (by omega), k39, if_neg (show ¬ nI k = 2 from nIne (c := 2) (by omega) (by omega) (by omega)), if_neg (show ¬ nI k = 3 from nIne (c := 3) (by omega) (by omega) (by omega)), if_neg (show ¬ nI k = 5 from nIne (c := 5) (by omega) (by omega) (by omega)), if_neg (show ¬ nI k = 6 from nIne (c := 6) (by omega) (by omega) (by omega)), if_pos (show nI 2 = 2 from rfl), zbv_id, e]
theorem h21 (hk : kn < 400) (h39 : M0 39 kn = 21) (hW : W.length < 3500) (hv : vs.length < 3500) (r : rM M0 M L P s d ((8 * (kn + 1) + 2, h) :: W) (w :: v :: vs)) : rRs M0 M L P s d W vs Wb vb (0, [], vSet 1 (vIx v) w s) := by
  obtain ⟨M1, f1, f2⟩ := gEx r (by omega) hk (by omega) (by omega)
  obtain ⟨M2, e1, e2⟩ := gRel f1 (by simp only [List.length_cons]; omega)
  obtain ⟨M3, e3, e4⟩ := gRel e2 (by omega)
  obtain ⟨j, j1, j2⟩ := and15 v
  have hj : vIx v = j := by unfold vIx; rw [j2, nI_clamp (by omega)]
  rw [hj]
  refine rRs_ok ((f2 21 (by omega) h39).2 (by omega) _ fun N hN => ?_) (Nat.le_refl _) (gStC (x := j) e4 w)
  unfold F_R_goOnStatement F_R_goOnStatement_p23
  rw [zix_nI _ hk (by omega), nI_clamp (by omega), f1.2.2.2.2.2.2.2.1 39 (by omega) (by omega), h39, if_pos rfl, if_neg (show ¬ nI 2 = 1 by decide), e1, zbi_some, if_neg (by decide), if_pos rfl, e3, zbi_some, j2, zix_nI _ j1 (by omega), nI_clamp (by omega), zset_eq]
end RO
