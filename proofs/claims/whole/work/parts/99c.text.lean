/-! untoken, clear, four -/
theorem ob103 : zObV Inv Y_L_clear 1 Y_R_clear 0 := fun M ⟨ts, h⟩ => by
  obtain ⟨⟨-, -, -, -, a5, a6⟩, -, b2, -, -⟩ := id h
  have k : ∀ a, a ≠ 0 → a ≠ 14 → a ≠ 27 → a ≠ 34 → zup (zup (zup (zup M 0 5 0) 14 3 1) 27 7 1) 34 1 0 a = M a := fun a q1 q2 q3 q4 => by rw [zup_ne q4, zup_ne q3, zup_ne q2, zup_ne q1]
  have k34 : ∀ j, j ≠ 1 → zup (zup (zup (zup M 0 5 0) 14 3 1) 27 7 1) 34 1 0 34 j = M 34 j := fun j q => by rw [z34 q, zup_ne (by omega), zup_ne (by omega), zup_ne (by omega)]
  refine ⟨zup (zup (zup M 0 5 0) 14 3 1) 27 7 1, zup (zup (zup (zup M 0 5 0) 14 3 1) 27 7 1) 34 1 0, G_L_clear (y := zup (zup (zup M 0 5 0) 14 3 1) 27 7 1) ?_, G_R_clear (y := zup (zup (zup (zup M 0 5 0) 14 3 1) 27 7 1) 34 1 0) ?_, [], Iv_mk (fun i hi => absurd hi (by simp)) (fun i hi => absurd hi (by simp)) (fun t ht => absurd ht (by simp)) (by simp) ?_ ?_ (fun g hg => ?_) (fun i hi => ?_) ?_ ?_ ?_⟩
  · unfold F_L_clear F_L_forgetText
    rw [zset_eq, zset_eq, zset_eq, zbv_some]
  · unfold F_R_clear
    rw [zset_eq]
  · rw [zup_ne (by omega), zup_ne (by omega), zup_ne (by omega), zup_self, pk_us]; rfl
  · rw [zup_self, pk_us]; rfl
  · rw [k 2 (by omega) (by omega) (by omega) (by omega), k 36 (by omega) (by omega) (by omega) (by omega)]; exact a5 g hg
  · rw [k 3 (by omega) (by omega) (by omega) (by omega), k 37 (by omega) (by omega) (by omega) (by omega)]; exact a6 i hi
  · obtain ⟨p, o, g, x1, x2, x3, x4, x5, x6⟩ := b2
    exact ⟨p, o, g, x1, x2, x3, by rw [k34 21 (by omega)]; exact x4, by rw [k34 22 (by omega)]; exact x5, by rw [k34 23 (by omega)]; exact x6⟩
  · rw [zup_ne (by omega), zup_ne (by omega), zup_self, pk_us]; decide
  · rw [zup_ne (by omega), zup_self, pk_us]; decide
theorem ob102 : zOb Inv Y_L_untoken 1 Y_R_untoken 0 0 := ob0 fun M ⟨ts, h⟩ => by
  obtain ⟨t1, t35, ta, tl, t05, t34⟩ := Iv_all h
  obtain ⟨⟨-, -, -, -, a5, a6⟩, -, b2, -, -⟩ := id h
  by_cases c : ts.length = 0
  · refine ⟨-4, M, M, G_L_untoken (y := (-4, M)) ?_, G_R_untoken (y := (-4, M)) ?_, ts, h⟩
    · unfold F_L_untoken; rw [t05, c, if_pos (show nI 0 ≤ 0 by decide)]
    · unfold F_R_untoken; rw [t34, c, if_pos (show nI 0 = 0 from rfl)]
  · obtain ⟨n, hn⟩ : ∃ n, ts.length = n + 1 := ⟨ts.length - 1, by omega⟩
    rw [hn] at t05 t34
    have hnl : n < ts.length := by omega
    let Mc : zMem := zup (zup (zup M 0 5 (nI n)) 14 3 1) 27 7 1
    have c0 : Mc 0 5 = nI n := by
      show zup (zup (zup M 0 5 (nI n)) 14 3 1) 27 7 1 0 5 = _
      rw [zup_ne (by omega), zup_ne (by omega), zup_self, pk_us]
    have ck : ∀ a, a ≠ 0 → a ≠ 14 → a ≠ 27 → Mc a = M a := fun a q1 q2 q3 => by
      show zup (zup (zup M 0 5 (nI n)) 14 3 1) 27 7 1 a = _
      rw [zup_ne q3, zup_ne q2, zup_ne q1]
    have k : ∀ a, a ≠ 0 → a ≠ 14 → a ≠ 27 → a ≠ 34 → zup Mc 34 1 (nI n) a = M a := fun a q1 q2 q3 q4 => by rw [zup_ne q4, ck a q1 q2 q3]
    have k34 : ∀ j, j ≠ 1 → zup Mc 34 1 (nI n) 34 j = M 34 j := fun j q => by rw [z34 q, ck 34 (by omega) (by omega) (by omega)]
    have tt : ∀ i (hi : i < (ts.take n).length), (ts.take n)[i] = ts[i]'(by rw [List.length_take] at hi; omega) := fun i hi => by rw [List.getElem_take]
    have lt : (ts.take n).length = n := by rw [List.length_take]; omega
    refine ⟨nI ts[n], Mc, zup Mc 34 1 (nI n), G_L_untoken (y := (nI ts[n], Mc)) ?_, G_R_untoken (y := (nI ts[n], zup Mc 34 1 (nI n))) ?_, ts.take n, Iv_mk (fun i hi => ?_) (fun i hi => ?_) (fun t ht => ta t (List.mem_of_mem_take ht)) (by omega) ?_ ?_ (fun g hg => ?_) (fun i hi => ?_) ?_ ?_ ?_⟩
    · unfold F_L_untoken F_L_forgetText
      rw [t05, if_neg (show ¬ nI (n + 1) ≤ 0 from nI_ge (a := 0) (b := n + 1) (by omega) (by omega)), if_pos (show nI (n + 1) ≤ (150 : Int32) from nI_le (b := 150) (by omega) (by omega)), show nI (n + 1) - 1 = nI n from nI_pred _, zset_eq, zset_eq, zset_eq, zbv_some]
      show zix (Mc 0 5) 150 (some (Mc 1 (Mc 0 5).toNatClampNeg, Mc)) = _
      rw [c0, zix_nI _ (by omega) (by omega), nI_clamp (by omega), ck 1 (by omega) (by omega) (by omega), t1 n hnl]
    · have e34 : Mc 34 1 = nI (n + 1) := by rw [ck 34 (by omega) (by omega) (by omega)]; exact t34
      have e1 : zup Mc 34 1 (nI n) 34 1 = nI n := by rw [zup_self, pk_us]
      unfold F_R_untoken
      rw [e34, if_neg (show ¬ nI (n + 1) = 0 from nIne (c := 0) (by omega) (by omega) (by omega)), show nI (n + 1) - 1 = nI n from nI_pred _, zset_eq, e1, zix_nI _ (by omega) (by omega), nI_clamp (by omega), k 35 (by omega) (by omega) (by omega) (by omega), t35 n hnl]
    · rw [tt i hi, k 1 (by omega) (by omega) (by omega) (by omega)]; exact t1 i _
    · rw [tt i hi, k 35 (by omega) (by omega) (by omega) (by omega)]; exact t35 i _
    · rw [zup_ne (by omega), c0, lt]
    · rw [zup_self, pk_us, lt]
    · rw [k 2 (by omega) (by omega) (by omega) (by omega), k 36 (by omega) (by omega) (by omega) (by omega)]; exact a5 g hg
    · rw [k 3 (by omega) (by omega) (by omega) (by omega), k 37 (by omega) (by omega) (by omega) (by omega)]; exact a6 i hi
    · obtain ⟨p, o, g, x1, x2, x3, x4, x5, x6⟩ := b2
      exact ⟨p, o, g, x1, x2, x3, by rw [k34 21 (by omega)]; exact x4, by rw [k34 22 (by omega)]; exact x5, by rw [k34 23 (by omega)]; exact x6⟩
    · rw [zup_ne (by omega)]
      show ¬ zup (zup (zup M 0 5 (nI n)) 14 3 1) 27 7 1 14 3 = 0
      rw [zup_ne (by omega), zup_self, pk_us]; decide
    · rw [zup_ne (by omega)]
      show ¬ zup (zup (zup M 0 5 (nI n)) 14 3 1) 27 7 1 27 7 = 0
      rw [zup_self, pk_us]; decide
/-! four -/
def okF (x : Int32) : Bool := decide (x = -1) || isTk x
def opF (x : Int32) : List Nat := if x = -1 then [] else [x.toNatClampNeg]
theorem opF_l (x : Int32) : (opF x).length ≤ 1 := by
  unfold opF
  split <;> simp
theorem opF_n : opF (-1) = [] := if_pos rfl
theorem opF_t {t : Nat} (h : t < 174) : opF (nI t) = [t] := by
  unfold opF
  rw [if_neg (fun z => absurd (show nI t < 0 by rw [z]; decide) (nI_pos (n := t) (by omega))), nI_clamp (by omega)]
/-- the class's text: it holds ts; if sth. came, it is marked -/
def cTx (M0 M : zMem) (ts : List Nat) (b : Bool) : Prop := M 0 5 = nI ts.length ∧ tIn M 1 ts ∧ (∀ a, a ≠ 0 → a ≠ 1 → a ≠ 14 → a ≠ 27 → M a = M0 a) ∧ (b = true → M 14 3 = 1 ∧ M 27 7 = 1) ∧ (b = false → M = M0)
theorem cTx_1 {M0 M : zMem} {ts : List Nat} {b : Bool} {x : Int32} (h : cTx M0 M ts b) (hx : okF x = true) (hl : ts.length + (opF x).length ≤ 150) : ∃ M', F_L_append M x = some M' ∧ cTx M0 M' (ts ++ opF x) (b || decide (¬ x = -1)) := by
  by_cases c : x = -1
  · subst c
    refine ⟨M, ?_, ?_⟩
    · unfold F_L_append; rw [if_pos rfl]
    · rw [opF_n, List.append_nil]
      simpa using h
  · have ht : isTk x = true := by unfold okF at hx; simpa [c] using hx
    obtain ⟨t, t1, rfl⟩ := isTk_n ht
    rw [opF_t t1] at hl ⊢
    simp only [List.length_singleton] at hl
    obtain ⟨h1, h2, h3, h4, h5⟩ := h
    obtain ⟨k1, k2, k3, k4, k5⟩ := cA_k (M := M) (n := ts.length) (x := nI t)
    refine ⟨_, cApp h1 (by omega) c, by rw [k2]; simp, ?_, fun a q1 q2 q3 q4 => by rw [k1 a q1 q2 q3 q4]; exact h3 a q1 q2 q3 q4, fun _ => ⟨k4, k5⟩, fun q => ?_⟩
    · intro i hi
      rw [k3]
      exact tIn_snoc h2 i hi
    · simp [c] at q
theorem opF_m {x : Int32} {t : Nat} (h : okF x = true) (ht : t ∈ opF x) : t < 174 ∧ isTk (nI t) = true := by
  by_cases c : x = -1
  · subst c
    rw [opF_n] at ht
    exact absurd ht (by simp)
  · have hk : isTk x = true := by unfold okF at h; simpa [c] using h
    obtain ⟨u, u1, rfl⟩ := isTk_n hk
    rw [opF_t u1] at ht
    rw [List.mem_singleton.mp ht]
    exact ⟨u1, hk⟩
def rT4 (M0 M : zMem) (ts : List Nat) (b : Bool) : Prop := M 34 1 = nI ts.length ∧ tIn M 35 ts ∧ (∀ a, a ≠ 34 → a ≠ 35 → M a = M0 a) ∧ (∀ j, j ≠ 1 → M 34 j = M0 34 j) ∧ (b = false → M = M0)
theorem rT4_1 {M0 M : zMem} {ts : List Nat} {b : Bool} {x l1 l2 l3 l4 l6 : Int32} {N : Nat} {rec : zMem → Int32 → Int32 → Int32 → Int32 → Int32 → Option (Int32 × zMem)} (h : rT4 M0 M ts b) (hx : okF x = true) (hl : ts.length + (opF x).length ≤ 150) : ∃ M', F_R_four_p71 N rec M l1 l2 l3 l4 l6 x = rec M' l1 l2 l3 l4 (l6 + 1) ∧ rT4 M0 M' (ts ++ opF x) (b || decide (¬ x = -1)) := by
  by_cases c : x = -1
  · subst c
    refine ⟨M, ?_, ?_⟩
    · unfold F_R_four_p71 F_R_four_p87; rw [if_pos rfl]
    · rw [opF_n, List.append_nil]
      simpa using h
  · have ht : isTk x = true := by unfold okF at hx; simpa [c] using hx
    obtain ⟨t, t1, rfl⟩ := isTk_n ht
    rw [opF_t t1] at hl ⊢
    simp only [List.length_singleton] at hl
    obtain ⟨h1, h2, h3, h4, h5⟩ := h
    obtain ⟨j1, j2, j3, j4⟩ := rA_k (M := M) (n := ts.length) (x := nI t)
    refine ⟨rA M ts.length (nI t), ?_, by rw [j2]; simp, ?_, fun a q1 q2 => by rw [j1 a q1 q2]; exact h3 a q1 q2, fun j q => by rw [j4 j q]; exact h4 j q, fun q => ?_⟩
    · have e2 : zup M 35 ts.length (nI t) 34 1 = nI ts.length := by rw [zup_ne (by omega)]; exact h1
      unfold F_R_four_p71 F_R_four_p87
      rw [if_neg c, h1, zix_nI _ (by omega) (by omega), nI_clamp (by omega), zset_eq, zset_eq, e2, nI_1]
      rfl
    · intro i hi
      rw [j3]
      exact tIn_snoc h2 i hi
    · simp [c] at q
theorem p22_1 {M : zMem} {x l1 l2 l3 l4 l6 : Int32} {c N : Nat} {rec : zMem → Int32 → Int32 → Int32 → Int32 → Int32 → Int32 → Option (Int32 × zMem)} : F_R_four_p22 N rec M l1 l2 l3 l4 (nI c) l6 x = if okF x = true then rec M l1 l2 l3 l4 (nI (c + (opF x).length)) (l6 + 1) else some (-1, M) := by
  unfold F_R_four_p22 F_R_four_p32 F_R_four_p40
  by_cases q : x = -1
  · subst q
    rw [if_pos rfl, if_pos rfl, if_pos (by decide), opF_n]
    rfl
  · rw [if_neg q, rIsToken, zbi_some, if_neg q]
    cases ht : isTk x with
    | false =>
      rw [if_pos (by decide), if_neg (by unfold okF; simp [q, ht])]
    | true =>
      obtain ⟨t, t1, rfl⟩ := isTk_n ht
      rw [if_neg (by decide), if_pos (by unfold okF; simp [ht]), opF_t t1, nI_1]
      rfl
theorem may_1 {M : zMem} {x : Int32} : F_L_mayBeAppended M x = some (b2i (okF x), M) := by
  unfold F_L_mayBeAppended okF
  by_cases q : x = -1
  · rw [if_pos q]; simp [q, b2i]
  · rw [if_neg q, cExists, zbi_some]
    cases ht : isTk x with
    | false => rw [if_pos (by decide)]; simp [q, b2i]
    | true => rw [if_neg (by decide)]; simp [b2i]
theorem room_1' {M : zMem} {x : Int32} : F_L_room M x = some (nI (opF x).length, M) := by
  unfold F_L_room opF
  by_cases q : x = -1
  · rw [if_pos q, if_pos q]; rfl
  · rw [if_neg q, if_neg q]; rfl
theorem ob101 : zOb Inv Y_L_four 3 Y_R_four 1 4 := ob4 fun M x y z w ⟨ts, h⟩ => by
  obtain ⟨t1, t35, ta, tl, t05, t34⟩ := Iv_all h
  obtain ⟨⟨-, -, -, -, a5, a6⟩, -, b2, -, -⟩ := id h
  obtain ⟨N, hN⟩ : ∃ N, N = 20 := ⟨20, rfl⟩
  have lx := opF_l x
  have ly := opF_l y
  have lz := opF_l z
  have lw := opF_l w
  have s1 : (0 : Int32) + 1 = nI 1 := by decide
  have s2 : nI 1 + 1 = nI 2 := by decide
  have s3 : nI 2 + 1 = nI 3 := by decide
  have s4 : nI 3 + 1 = nI 4 := by decide
  have rr : ∀ M1, F_R_four N M1 x y z w = if okF x = true then (if okF y = true then (if okF z = true then (if okF w = true then (if (M1 34 1) + nI (0 + (opF x).length + (opF y).length + (opF z).length + (opF w).length) ≤ (150 : Int32) then F_R_four_p53 N N M1 x y z w 0 else some (-2, M1)) else some (-1, M1)) else some (-1, M1)) else some (-1, M1)) else some (-1, M1) := by
    intro M1
    unfold F_R_four
    subst hN
    rw [show F_R_four_p4 20 20 M1 x y z w 0 0 = F_R_four_p22 20 (F_R_four_p4 20 19) M1 x y z w (nI 0) 0 x from by rw [F_R_four_p4, if_neg (by decide), if_pos rfl]; rfl, p22_1]
    by_cases c1 : okF x = true
    · rw [if_pos c1, if_pos c1, s1, show F_R_four_p4 20 19 M1 x y z w (nI (0 + (opF x).length)) (nI 1) = F_R_four_p22 20 (F_R_four_p4 20 18) M1 x y z w (nI (0 + (opF x).length)) (nI 1) y from by rw [F_R_four_p4, if_neg (by decide), if_neg (by decide), if_pos (show nI 1 = 1 from rfl)], p22_1]
      by_cases c2 : okF y = true
      · rw [if_pos c2, if_pos c2, s2, show F_R_four_p4 20 18 M1 x y z w (nI (0 + (opF x).length + (opF y).length)) (nI 2) = F_R_four_p22 20 (F_R_four_p4 20 17) M1 x y z w (nI (0 + (opF x).length + (opF y).length)) (nI 2) z from by rw [F_R_four_p4, if_neg (by decide), if_neg (by decide), if_neg (by decide), if_pos (show nI 2 = 2 from rfl)], p22_1]
        by_cases c3 : okF z = true
        · rw [if_pos c3, if_pos c3, s3, show F_R_four_p4 20 17 M1 x y z w (nI (0 + (opF x).length + (opF y).length + (opF z).length)) (nI 3) = F_R_four_p22 20 (F_R_four_p4 20 16) M1 x y z w (nI (0 + (opF x).length + (opF y).length + (opF z).length)) (nI 3) w from by rw [F_R_four_p4, if_neg (by decide), if_neg (by decide), if_neg (by decide), if_neg (by decide)], p22_1]
          by_cases c4 : okF w = true
          · rw [if_pos c4, if_pos c4, s4, F_R_four_p4, if_pos (by decide)]
          · rw [if_neg c4, if_neg c4]
        · rw [if_neg c3, if_neg c3]
      · rw [if_neg c2, if_neg c2]
    · rw [if_neg c1, if_neg c1]
  have cc : F_L_four M x y z w = if okF x = true then (if okF y = true then (if okF z = true then (if okF w = true then (if (nI (ts.length + (opF x).length + (opF y).length + (opF z).length + (opF w).length)) ≤ (150 : Int32) then (zbv (F_L_append M x) fun M25 => zbv (F_L_append M25 y) fun M27 => zbv (F_L_append M27 z) fun M29 => zbv (F_L_append M29 w) fun M31 => some (M31 0 5, M31)) else (some ((-2 : Int32), M))) else some (-1, M)) else some (-1, M)) else some (-1, M)) else some (-1, M) := by
    unfold F_L_four
    rw [may_1, zbi_some]
    cases c1 : okF x with
    | false => rw [if_pos (by decide), if_neg (by decide)]
    | true =>
      rw [if_neg (by decide), if_pos rfl, may_1, zbi_some]
      cases c2 : okF y with
      | false => rw [if_pos (by decide), if_neg (by decide)]
      | true =>
        rw [if_neg (by decide), if_pos rfl, may_1, zbi_some]
        cases c3 : okF z with
        | false => rw [if_pos (by decide), if_neg (by decide)]
        | true =>
          rw [if_neg (by decide), if_pos rfl, may_1, zbi_some]
          cases c4 : okF w with
          | false => rw [if_pos (by decide), if_neg (by decide)]
          | true =>
            rw [if_neg (by decide), if_pos rfl, room_1', zbi_some, room_1', zbi_some, room_1', zbi_some, room_1', zbi_some, t05, nI_add, nI_add, nI_add, nI_add]
  have bad : ∀ r, F_L_four M x y z w = some (r, M) → F_R_four N M x y z w = some (r, M) → ∃ r M1 M2, zGo Y_L_four 3 0 (zal Y_L_four [.inr 0, .inl x, .inl y, .inl z, .inl w]) [] M (some r) M1 ∧ zGo Y_R_four 1 0 (zal Y_R_four [.inr 34, .inl x, .inl y, .inl z, .inl w]) [] M1 (some r) M2 ∧ Inv M2 := fun r e1 e2 => ⟨r, M, M, G_L_four (y := (r, M)) e1, G_R_four (N := N) (y := (r, M)) e2, ts, h⟩
  by_cases c1 : okF x = true
  · by_cases c2 : okF y = true
    · by_cases c3 : okF z = true
      · by_cases c4 : okF w = true
        · rw [if_pos c1, if_pos c2, if_pos c3, if_pos c4] at cc
          have rr' := fun M1 => (rr M1).trans (by rw [if_pos c1, if_pos c2, if_pos c3, if_pos c4])
          by_cases c5 : ts.length + (opF x).length + (opF y).length + (opF z).length + (opF w).length ≤ 150
          · rw [if_pos (show nI (ts.length + (opF x).length + (opF y).length + (opF z).length + (opF w).length) ≤ (150 : Int32) from nI_le (b := 150) c5 (by omega))] at cc
            have x0 : cTx M M ts false := ⟨t05, t1, fun _ _ _ _ _ => rfl, fun q => by simp at q, fun _ => rfl⟩
            obtain ⟨M1, p1, q1⟩ := cTx_1 (x := x) x0 c1 (by omega)
            obtain ⟨M2, p2, q2⟩ := cTx_1 (x := y) q1 c2 (by rw [List.length_append]; omega)
            obtain ⟨M3, p3, q3⟩ := cTx_1 (x := z) q2 c3 (by rw [List.length_append, List.length_append]; omega)
            obtain ⟨M4, p4, q4⟩ := cTx_1 (x := w) q3 c4 (by rw [List.length_append, List.length_append, List.length_append]; omega)
            rw [p1, zbv_some, p2, zbv_some, p3, zbv_some, p4, zbv_some] at cc
            obtain ⟨u1, u2, u3, u4, u5⟩ := q4
            have y0 : rT4 M4 M4 ts false := ⟨by rw [u3 34 (by omega) (by omega) (by omega) (by omega)]; exact t34, fun i hi => by rw [u3 35 (by omega) (by omega) (by omega) (by omega)]; exact t35 i hi, fun _ _ _ => rfl, fun _ _ => rfl, fun _ => rfl⟩
            obtain ⟨R1, e1, d1⟩ := rT4_1 (x := x) (l1 := x) (l2 := y) (l3 := z) (l4 := w) (l6 := 0) (N := N) (rec := F_R_four_p53 20 19) y0 c1 (by omega)
            obtain ⟨R2, e2, d2⟩ := rT4_1 (x := y) (l1 := x) (l2 := y) (l3 := z) (l4 := w) (l6 := nI 1) (N := N) (rec := F_R_four_p53 20 18) d1 c2 (by rw [List.length_append]; omega)
            obtain ⟨R3, e3, d3⟩ := rT4_1 (x := z) (l1 := x) (l2 := y) (l3 := z) (l4 := w) (l6 := nI 2) (N := N) (rec := F_R_four_p53 20 17) d2 c3 (by rw [List.length_append, List.length_append]; omega)
            obtain ⟨R4, e4, d4⟩ := rT4_1 (x := w) (l1 := x) (l2 := y) (l3 := z) (l4 := w) (l6 := nI 3) (N := N) (rec := F_R_four_p53 20 16) d3 c4 (by rw [List.length_append, List.length_append, List.length_append]; omega)
            have er := rr' M4
            have m34 : M4 34 1 = nI ts.length := y0.1
            rw [m34, nI_add, if_pos (show nI (ts.length + (0 + (opF x).length + (opF y).length + (opF z).length + (opF w).length)) ≤ (150 : Int32) from nI_le (b := 150) (by omega) (by omega))] at er
            have er2 : F_R_four N M4 x y z w = some (R4 34 1, R4) := by
              rw [er]
              subst hN
              rw [show F_R_four_p53 20 20 M4 x y z w 0 = F_R_four_p71 20 (F_R_four_p53 20 19) M4 x y z w 0 x from by rw [F_R_four_p53, if_neg (by decide), if_pos rfl], e1, s1]
              rw [show F_R_four_p53 20 19 R1 x y z w (nI 1) = F_R_four_p71 20 (F_R_four_p53 20 18) R1 x y z w (nI 1) y from by rw [F_R_four_p53, if_neg (by decide), if_neg (by decide), if_pos (show nI 1 = 1 from rfl)], e2, s2]
              rw [show F_R_four_p53 20 18 R2 x y z w (nI 2) = F_R_four_p71 20 (F_R_four_p53 20 17) R2 x y z w (nI 2) z from by rw [F_R_four_p53, if_neg (by decide), if_neg (by decide), if_neg (by decide), if_pos (show nI 2 = 2 from rfl)], e3, s3]
              rw [show F_R_four_p53 20 17 R3 x y z w (nI 3) = F_R_four_p71 20 (F_R_four_p53 20 16) R3 x y z w (nI 3) w from by rw [F_R_four_p53, if_neg (by decide), if_neg (by decide), if_neg (by decide), if_neg (by decide)], e4, s4]
              rw [F_R_four_p53, if_pos (by decide)]
            obtain ⟨v1, v2, v3, v4, v5⟩ := d4
            rw [v1] at er2
            rw [u1] at cc
            refine ⟨_, M4, R4, G_L_four (y := (nI (ts ++ opF x ++ opF y ++ opF z ++ opF w).length, M4)) cc, G_R_four (N := N) (y := (nI (ts ++ opF x ++ opF y ++ opF z ++ opF w).length, R4)) er2, ?_⟩
            cases hb : (((false || decide (¬ x = -1)) || decide (¬ y = -1)) || decide (¬ z = -1)) || decide (¬ w = -1) with
            | false =>
              have e0 : R4 = M := by rw [v5 hb, u5 hb]
              rw [e0]
              exact ⟨ts, h⟩
            | true =>
              obtain ⟨n1, n2⟩ := u4 hb
              refine ⟨ts ++ opF x ++ opF y ++ opF z ++ opF w, Iv_mk (fun i hi => ?_) v2 (fun t ht => ?_) ?_ ?_ v1 (fun g hg => ?_) (fun i hi => ?_) ?_ ?_ ?_⟩
              · rw [v3 1 (by omega) (by omega)]; exact u2 i hi
              · simp only [List.mem_append] at ht
                rcases ht with (((ht | ht) | ht) | ht) | ht
                · exact ta t ht
                · exact opF_m c1 ht
                · exact opF_m c2 ht
                · exact opF_m c3 ht
                · exact opF_m c4 ht
              · simp only [List.length_append]; exact c5
              · rw [v3 0 (by omega) (by omega)]; exact u1
              · rw [v3 2 (by omega) (by omega), v3 36 (by omega) (by omega), u3 2 (by omega) (by omega) (by omega) (by omega), u3 36 (by omega) (by omega) (by omega) (by omega)]; exact a5 g hg
              · rw [v3 3 (by omega) (by omega), v3 37 (by omega) (by omega), u3 3 (by omega) (by omega) (by omega) (by omega), u3 37 (by omega) (by omega) (by omega) (by omega)]; exact a6 i hi
              · obtain ⟨p, o, g, x1, x2, x3, x4, x5, x6⟩ := b2
                refine ⟨p, o, g, x1, x2, x3, ?_, ?_, ?_⟩
                · rw [v4 21 (by omega), u3 34 (by omega) (by omega) (by omega) (by omega)]; exact x4
                · rw [v4 22 (by omega), u3 34 (by omega) (by omega) (by omega) (by omega)]; exact x5
                · rw [v4 23 (by omega), u3 34 (by omega) (by omega) (by omega) (by omega)]; exact x6
              · rw [v3 14 (by omega) (by omega), n1]; decide
              · rw [v3 27 (by omega) (by omega), n2]; decide
          · rw [if_neg (show ¬ nI (ts.length + (opF x).length + (opF y).length + (opF z).length + (opF w).length) ≤ (150 : Int32) from nI_ge (a := 150) (by omega) (by omega))] at cc
            have er := rr' M
            rw [t34, nI_add, if_neg (show ¬ nI (ts.length + (0 + (opF x).length + (opF y).length + (opF z).length + (opF w).length)) ≤ (150 : Int32) from nI_ge (a := 150) (by omega) (by omega))] at er
            exact bad (-2) cc er
        · rw [if_pos c1, if_pos c2, if_pos c3, if_neg c4] at cc
          exact bad (-1) cc ((rr M).trans (by rw [if_pos c1, if_pos c2, if_pos c3, if_neg c4]))
      · rw [if_pos c1, if_pos c2, if_neg c3] at cc
        exact bad (-1) cc ((rr M).trans (by rw [if_pos c1, if_pos c2, if_neg c3]))
    · rw [if_pos c1, if_neg c2] at cc
      exact bad (-1) cc ((rr M).trans (by rw [if_pos c1, if_neg c2]))
  · rw [if_neg c1] at cc
    exact bad (-1) cc ((rr M).trans (by rw [if_neg c1]))
