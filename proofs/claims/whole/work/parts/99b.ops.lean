/-! fault, plain, plainSize; set, cell; token, untoken, clear -/
theorem i32_rng {x : Int32} {n : Nat} (h0 : ¬ x < 0) (h : x < nI n) (hn : n < 2 ^ 31) : ∃ k, k < n ∧ x = nI k := by
  rw [Int32.lt_iff_toInt_lt] at h0 h
  rw [nI_toInt hn] at h
  have z : (0 : Int32).toInt = 0 := by decide
  rw [z] at h0
  refine ⟨x.toInt.toNat, by omega, ?_⟩
  apply Int32.toInt_inj.mp
  rw [nI_toInt (by omega)]
  omega
theorem i32_rng' {x : Int32} {n : Nat} (h0 : ¬ x < 0) (h : ¬ nI n ≤ x) (hn : n < 2 ^ 31) : ∃ k, k < n ∧ x = nI k := i32_rng h0 (by
  rw [Int32.le_iff_toInt_le] at h
  rw [Int32.lt_iff_toInt_lt]
  omega) hn
theorem i32_ls {x : Int32} {n : Nat} (hn : n + 1 < 2 ^ 31) (h : x ≤ nI n) : x < nI (n + 1) := by
  rw [Int32.le_iff_toInt_le, nI_toInt (by omega)] at h
  rw [Int32.lt_iff_toInt_lt, nI_toInt hn]
  omega
theorem Iv_34 {M M2 : zMem} {ts : List Nat} (h : Iv M ts) (hk : ∀ a, okR a → M2 a = M a) (h34 : ∀ j, j = 1 ∨ j = 21 ∨ j = 22 ∨ j = 23 → M2 34 j = M 34 j) : Iv M2 ts := by
  refine Iv_ref h hk (rTx_keep (hk 35 (Or.inr (Or.inl rfl))) (h34 1 (by omega)) h.2.1) ?_
  obtain ⟨p, o, g, x1, x2, x3, x4, x5, x6⟩ := h.2.2.1
  exact ⟨p, o, g, x1, x2, x3, by rw [h34 21 (by omega)]; exact x4, by rw [h34 22 (by omega)]; exact x5, by rw [h34 23 (by omega)]; exact x6⟩
theorem ob106 : zOb Inv Y_L_fault 6 Y_R_fault 6 0 := ob0 fun M ⟨ts, h⟩ => by
  obtain ⟨N, hN⟩ : ∃ N, 300 < N := ⟨301, by omega⟩
  obtain ⟨Mf, f1, f2, f3, f4, -⟩ := Iv_rd h hN
  obtain ⟨p, o, g, M', N0, g1, g2, -, g3⟩ := Iv_R f2 (fun _ => .num 0)
  have pr := f4 p o g (fun _ => .num 0)
  have hl := (Iv_tok h).1
  rcases zAns_c (p := p) (o := o) (g := g) (B := fun _ => .num 0) hl with ⟨z, hz, h24, ha⟩ | ⟨hz, ha⟩
  · rw [ha] at g1
    rw [hz] at pr
    obtain ⟨p1, p2⟩ := pr
    obtain ⟨q1, q2, q3, q4, q5, q6⟩ := p2 z rfl h24
    have p1 : Mf 14 1 = -4 := by rw [p1, ← hz]; exact ha
    obtain ⟨v, v1, v2⟩ := rFind (g3 z hz h24) q5 q4.choose_spec.2.2.1 q6
    have : v = Mf 14 2 := FS_uniq v2 q1
    subst this
    refine ⟨Mf 14 2, Mf, zup M' 34 28 (Mf 14 2), G_L_fault (N := N) (y := (Mf 14 2, Mf)) ?_, G_R_fault (N := N0 + 403) (y := (Mf 14 2, zup M' 34 28 (Mf 14 2))) ?_, ts, Iv_34 g2 (fun a q => zup_ne (by unfold okR at q; omega)) (fun j q => z34 (by omega))⟩
    · unfold F_L_fault F_Pars_isProgram
      rw [f1, zbv_some, p1, if_pos rfl, zbi_some, if_neg (by decide)]
    · unfold F_R_fault F_R_findFault
      rw [g1 (N0 + 403) (by omega), zbi_some, if_pos rfl, v1 (N0 + 403) (by omega), zbi_some]
  · refine ⟨-5, Mf, M', G_L_fault (N := N) (y := (-5, Mf)) ?_, G_R_fault (N := N0) (y := (-5, M')) ?_, ts, g2⟩
    · unfold F_L_fault F_Pars_isProgram
      rw [f1, zbv_some, pr.1, if_neg ha, zbi_some, if_pos rfl]
    · unfold F_R_fault F_R_findFault
      rw [g1 N0 (Nat.le_refl _), zbi_some, if_neg ha, zbi_some]
/-- both have the plain form -/
theorem Iv_pl {M : zMem} {ts : List Nat} (h : Iv M ts) {N : Nat} (hN : 300 < N) : ∃ Mf M' N0, F_Pars_read N M (M 0 5) = some Mf ∧ Iv M' ts ∧
    ((Mf 14 1 = -4 ∧ ∃ w : List Nat, w.length ≤ 150 ∧ plL Mf w ∧ (∀ N, N0 ≤ N → F_R_writePlain N Mf = some (1, M')) ∧ M' 34 30 = nI w.length ∧ ∀ i (h : i < w.length), M' 52 i = nI w[i]) ∨ (¬ Mf 14 1 = -4 ∧ ∀ N, N0 ≤ N → F_R_writePlain N Mf = some (0, M'))) := by
  obtain ⟨Mf, f1, f2, f3, f4, -⟩ := Iv_rd h hN
  obtain ⟨p, o, g, M', N0, g1, g2, -, g3⟩ := Iv_R f2 (fun _ => .num 0)
  have pr := f4 p o g (fun _ => .num 0)
  have hl := (Iv_tok h).1
  rcases zAns_c (p := p) (o := o) (g := g) (B := fun _ => .num 0) hl with ⟨z, hz, h24, ha⟩ | ⟨hz, ha⟩
  · rw [ha] at g1
    rw [hz] at pr
    obtain ⟨p1, p2⟩ := pr
    obtain ⟨q1, q2, q3, q4, q5, q6⟩ := p2 z rfl h24
    have p1 : Mf 14 1 = -4 := by rw [p1, ← hz]; exact ha
    obtain ⟨M2, N1, r1, r2, r3, r4, r5⟩ := rPlainAll (g3 z hz h24) q5 q4.choose_spec.2.2.1 q3
    refine ⟨Mf, M2, N0 + N1, f1, Iv_34 g2 (fun a q => r4 a (by unfold okR at q; omega) (by unfold okR at q; omega) (by unfold okR at q; omega)) (fun j q => r5 j (by omega) (by omega)), Or.inl ⟨p1, _, q3, q2, fun N hN => ?_, r2, r3⟩⟩
    unfold F_R_writePlain
    rw [g1 N (by omega), zbi_some, if_pos rfl, zset_eq, r1 N (by omega)]
  · refine ⟨Mf, M', N0, f1, g2, Or.inr ⟨by rw [pr.1]; exact ha, fun N hN => ?_⟩⟩
    unfold F_R_writePlain
    rw [g1 N hN, zbi_some, if_neg ha]
theorem ob116 : zOb Inv Y_L_plainSize 6 Y_R_plainSize 6 0 := ob0 fun M ⟨ts, h⟩ => by
  obtain ⟨N, hN⟩ : ∃ N, 300 < N := ⟨301, by omega⟩
  obtain ⟨Mf, M', N0, f1, f2, f3⟩ := Iv_pl h hN
  rcases f3 with ⟨p1, w, w1, w2, w3, w4, w5⟩ | ⟨p1, w3⟩
  · refine ⟨nI w.length, Mf, M', G_L_plainSize (N := N) (y := (nI w.length, Mf)) ?_, G_R_plainSize (N := N0) (y := (nI w.length, M')) ?_, ts, f2⟩
    · unfold F_L_plainSize F_Pars_isProgram
      rw [f1, zbv_some, p1, if_pos rfl, zbi_some, if_neg (by decide), w2.1]
    · unfold F_R_plainSize
      rw [w3 N0 (Nat.le_refl _), zbi_some, if_neg (by decide), w4]
  · refine ⟨-5, Mf, M', G_L_plainSize (N := N) (y := (-5, Mf)) ?_, G_R_plainSize (N := N0) (y := (-5, M')) ?_, ts, f2⟩
    · unfold F_L_plainSize F_Pars_isProgram
      rw [f1, zbv_some, if_neg p1, zbi_some, if_pos rfl]
    · unfold F_R_plainSize
      rw [w3 N0 (Nat.le_refl _), zbi_some, if_pos rfl]
theorem ob117 : zOb Inv Y_L_plain 6 Y_R_plain 6 1 := ob1 fun M x ⟨ts, h⟩ => by
  obtain ⟨N, hN⟩ : ∃ N, 300 < N := ⟨301, by omega⟩
  obtain ⟨Mf, M', N0, f1, f2, f3⟩ := Iv_pl h hN
  rcases f3 with ⟨p1, w, w1, w2, w3, w4, w5⟩ | ⟨p1, w3⟩
  · have ec : F_L_plain N M x = (if x < 0 then (some ((-4 : Int32), Mf)) else (if (Mf 19 1) ≤ x then (some ((-4 : Int32), Mf)) else (if x < (150 : Int32) then (zix x 150 (some (Mf 20 x.toNatClampNeg, Mf))) else (some ((-4 : Int32), Mf))))) := by
      unfold F_L_plain F_Pars_isProgram
      rw [f1, zbv_some, p1, if_pos rfl, zbi_some, if_neg (by decide)]
    have er : F_R_plain N0 Mf x = (if x < 0 then (some ((-4 : Int32), M')) else (if (M' 34 30) ≤ x then (some ((-4 : Int32), M')) else (zix x 160 (some (M' 52 x.toNatClampNeg, M'))))) := by
      unfold F_R_plain
      rw [w3 N0 (Nat.le_refl _), zbi_some, if_neg (by decide)]
    rw [w2.1] at ec
    rw [w4] at er
    by_cases c1 : x < 0
    · rw [if_pos c1] at ec er
      exact ⟨-4, Mf, M', G_L_plain (N := N) (y := (-4, Mf)) ec, G_R_plain (N := N0) (y := (-4, M')) er, ts, f2⟩
    · rw [if_neg c1] at ec er
      by_cases c2 : nI w.length ≤ x
      · rw [if_pos c2] at ec er
        exact ⟨-4, Mf, M', G_L_plain (N := N) (y := (-4, Mf)) ec, G_R_plain (N := N0) (y := (-4, M')) er, ts, f2⟩
      · rw [if_neg c2] at ec er
        obtain ⟨k, k1, rfl⟩ := i32_rng' c1 c2 (by omega)
        rw [if_pos (show nI k < (150 : Int32) from nI_lt (b := 150) (by omega) (by omega)), zix_nI _ (by omega) (by omega), nI_clamp (by omega), w2.2 k k1] at ec
        rw [zix_nI _ (by omega) (by omega), nI_clamp (by omega), w5 k k1] at er
        exact ⟨nI w[k], Mf, M', G_L_plain (N := N) (y := (nI w[k], Mf)) ec, G_R_plain (N := N0) (y := (nI w[k], M')) er, ts, f2⟩
  · refine ⟨-4, Mf, M', G_L_plain (N := N) (y := (-4, Mf)) ?_, G_R_plain (N := N0) (y := (-4, M')) ?_, ts, f2⟩
    · unfold F_L_plain F_Pars_isProgram
      rw [f1, zbv_some, if_neg p1, zbi_some, if_pos rfl]
    · unfold F_R_plain
      rw [w3 N0 (Nat.le_refl _), zbi_some, if_pos rfl]
theorem ob107 : zOb Inv Y_L_set 0 Y_R_set 0 2 := ob2 fun M x y ⟨ts, h⟩ => by
  obtain ⟨⟨a1, a2, a3, a4, a5, a6⟩, b1, b2, b3, b4⟩ := id h
  by_cases c1 : x < 0
  · refine ⟨-1, M, M, G_L_set (y := (-1, M)) ?_, G_R_set (y := (-1, M)) ?_, ts, h⟩
    · unfold F_L_set; rw [if_pos c1]
    · unfold F_R_set; rw [if_pos c1]
  · by_cases c2 : x < nI 8
    · obtain ⟨k, k1, rfl⟩ := i32_rng c1 c2 (by omega)
      refine ⟨0, zup (zup M 2 k y) 27 7 1, zup (zup (zup M 2 k y) 27 7 1) 36 k y, G_L_set (y := (0, zup (zup M 2 k y) 27 7 1)) ?_, G_R_set (y := (0, zup (zup (zup M 2 k y) 27 7 1) 36 k y)) ?_, ts, ?_⟩
      · unfold F_L_set
        rw [if_neg c1, if_pos (show nI k < (8 : Int32) from c2), zix_nI _ k1 (by omega), nI_clamp (by omega), zset_eq, zset_eq]
      · unfold F_R_set
        rw [if_neg c1, if_pos (show nI k ≤ (7 : Int32) from nI_le (b := 7) (by omega) (by omega)), zix_nI _ k1 (by omega), nI_clamp (by omega), zset_eq]
      · have kk : ∀ a, a ≠ 2 → a ≠ 27 → a ≠ 36 → zup (zup (zup M 2 k y) 27 7 1) 36 k y a = M a := fun a q1 q2 q3 => by rw [zup_ne q3, zup_ne q2, zup_ne q1]
        have k2 : ∀ j, zup (zup (zup M 2 k y) 27 7 1) 36 k y 2 j = if j = k then y else M 2 j := fun j => by rw [zup_ne (by omega), zup_ne (by omega), zup_ap, if_pos rfl]
        have k36 : ∀ j, zup (zup (zup M 2 k y) 27 7 1) 36 k y 36 j = if j = k then y else M 36 j := fun j => by rw [zup_ap, if_pos rfl, zup_ne (by omega), zup_ne (by omega)]
        refine ⟨⟨a1, by rw [kk 0 (by omega) (by omega) (by omega)]; exact a2, by rw [kk 34 (by omega) (by omega) (by omega)]; exact a3, fun i hi => ?_, fun g hg => ?_, fun i hi => ?_⟩, rTx_keep (kk 35 (by omega) (by omega) (by omega)) (by rw [kk 34 (by omega) (by omega) (by omega)]) b1, ?_, fun q => ?_, fun q => ?_⟩
        · rw [kk 1 (by omega) (by omega) (by omega), kk 35 (by omega) (by omega) (by omega)]; exact a4 i hi
        · rw [k2, k36, a5 g hg]
        · rw [kk 3 (by omega) (by omega) (by omega), kk 37 (by omega) (by omega) (by omega)]; exact a6 i hi
        · unfold rG
          rw [kk 34 (by omega) (by omega) (by omega)]
          exact b2
        · rw [kk 14 (by omega) (by omega) (by omega)] at q
          exact PQ_same (fun a z => kk a (by omega) (by omega) (by omega)) (b3 q)
        · rw [zup_ne (by omega), zup_self, pk_us] at q
          exact absurd q (by decide)
    · have c3 : ¬ x ≤ 7 := fun z => c2 (i32_ls (n := 7) (by omega) z)
      refine ⟨-1, M, M, G_L_set (y := (-1, M)) ?_, G_R_set (y := (-1, M)) ?_, ts, h⟩
      · unfold F_L_set; rw [if_neg c1, if_neg (show ¬ x < (8 : Int32) from c2)]
      · unfold F_R_set; rw [if_neg c1, if_neg c3]
theorem ob108 : zOb Inv Y_L_cell 0 Y_R_cell 0 2 := ob2 fun M x y ⟨ts, h⟩ => by
  obtain ⟨⟨a1, a2, a3, a4, a5, a6⟩, b1, b2, b3, b4⟩ := id h
  by_cases c1 : x < 0
  · refine ⟨-1, M, M, G_L_cell (y := (-1, M)) ?_, G_R_cell (y := (-1, M)) ?_, ts, h⟩
    · unfold F_L_cell; rw [if_pos c1]
    · unfold F_R_cell; rw [if_pos c1]
  · by_cases c2 : x < nI 16
    · obtain ⟨k, k1, rfl⟩ := i32_rng c1 c2 (by omega)
      refine ⟨0, zup (zup M 3 k y) 27 7 1, zup (zup (zup M 3 k y) 27 7 1) 37 k y, G_L_cell (y := (0, zup (zup M 3 k y) 27 7 1)) ?_, G_R_cell (y := (0, zup (zup (zup M 3 k y) 27 7 1) 37 k y)) ?_, ts, ?_⟩
      · unfold F_L_cell
        rw [if_neg c1, if_pos (show nI k < (16 : Int32) from c2), zix_nI _ k1 (by omega), nI_clamp (by omega), zset_eq, zset_eq]
      · unfold F_R_cell
        rw [if_neg c1, if_pos (show nI k ≤ (15 : Int32) from nI_le (b := 15) (by omega) (by omega)), zix_nI _ k1 (by omega), nI_clamp (by omega), zset_eq]
      · have kk : ∀ a, a ≠ 3 → a ≠ 27 → a ≠ 37 → zup (zup (zup M 3 k y) 27 7 1) 37 k y a = M a := fun a q1 q2 q3 => by rw [zup_ne q3, zup_ne q2, zup_ne q1]
        have k2 : ∀ j, zup (zup (zup M 3 k y) 27 7 1) 37 k y 3 j = if j = k then y else M 3 j := fun j => by rw [zup_ne (by omega), zup_ne (by omega), zup_ap, if_pos rfl]
        have k36 : ∀ j, zup (zup (zup M 3 k y) 27 7 1) 37 k y 37 j = if j = k then y else M 37 j := fun j => by rw [zup_ap, if_pos rfl, zup_ne (by omega), zup_ne (by omega)]
        refine ⟨⟨a1, by rw [kk 0 (by omega) (by omega) (by omega)]; exact a2, by rw [kk 34 (by omega) (by omega) (by omega)]; exact a3, fun i hi => ?_, fun g hg => ?_, fun i hi => ?_⟩, rTx_keep (kk 35 (by omega) (by omega) (by omega)) (by rw [kk 34 (by omega) (by omega) (by omega)]) b1, ?_, fun q => ?_, fun q => ?_⟩
        · rw [kk 1 (by omega) (by omega) (by omega), kk 35 (by omega) (by omega) (by omega)]; exact a4 i hi
        · rw [kk 2 (by omega) (by omega) (by omega), kk 36 (by omega) (by omega) (by omega)]; exact a5 g hg
        · rw [k2, k36, a6 i hi]
        · unfold rG
          rw [kk 34 (by omega) (by omega) (by omega)]
          exact b2
        · rw [kk 14 (by omega) (by omega) (by omega)] at q
          exact PQ_same (fun a z => kk a (by omega) (by omega) (by omega)) (b3 q)
        · rw [zup_ne (by omega), zup_self, pk_us] at q
          exact absurd q (by decide)
    · have c3 : ¬ x ≤ 15 := fun z => c2 (i32_ls (n := 15) (by omega) z)
      refine ⟨-1, M, M, G_L_cell (y := (-1, M)) ?_, G_R_cell (y := (-1, M)) ?_, ts, h⟩
      · unfold F_L_cell; rw [if_neg c1, if_neg (show ¬ x < (16 : Int32) from c2)]
      · unfold F_R_cell; rw [if_neg c1, if_neg c3]

/-! the text -/
def tIn (M : zMem) (a : Nat) (ts : List Nat) : Prop := ∀ i (h : i < ts.length), M a i = nI ts[i]
theorem tIn_snoc {M : zMem} {a : Nat} {ts : List Nat} {t : Nat} (h : tIn M a ts) : tIn (zup M a ts.length (nI t)) a (ts ++ [t]) := by
  intro i hi
  rw [List.length_append, List.length_singleton] at hi
  rw [zup_ap, if_pos rfl]
  by_cases c : i = ts.length
  · subst c
    rw [if_pos rfl]
    simp
  · rw [if_neg c, h i (by omega), List.getElem_append_left]
theorem Iv_all {M : zMem} {ts : List Nat} (h : Iv M ts) : tIn M 1 ts ∧ tIn M 35 ts ∧ (∀ t ∈ ts, t < 174 ∧ isTk (nI t) = true) ∧ ts.length ≤ 150 ∧ M 0 5 = nI ts.length ∧ M 34 1 = nI ts.length := by
  obtain ⟨⟨a1, a2, a3, a4, a5, a6⟩, ⟨b1, b2, b3⟩, -⟩ := h
  have t35 : tIn M 35 ts := fun i hi => by
    obtain ⟨t', e1, e2, e3⟩ := b3 i hi
    rw [List.getElem?_eq_getElem hi] at e1
    rw [e3, Option.some.inj e1]
  refine ⟨fun i hi => by rw [(a4 i hi).1]; exact t35 i hi, t35, fun t ht => ?_, b2, a2, a3⟩
  obtain ⟨i, hi, e⟩ := List.getElem_of_mem ht
  obtain ⟨t', e1, e2, e3⟩ := b3 i hi
  rw [List.getElem?_eq_getElem hi] at e1
  have e4 := Option.some.inj e1
  have := (a4 i hi).2
  rw [t35 i hi, e] at this
  exact ⟨by omega, this⟩
theorem Iv_mk {M : zMem} {ts : List Nat} (h1 : tIn M 1 ts) (h2 : tIn M 35 ts) (h3 : ∀ t ∈ ts, t < 174 ∧ isTk (nI t) = true) (h4 : ts.length ≤ 150) (h5 : M 0 5 = nI ts.length) (h6 : M 34 1 = nI ts.length) (h7 : ∀ g, g < 8 → M 2 g = M 36 g) (h8 : ∀ i, i < 16 → M 3 i = M 37 i) (h9 : rG M) (n1 : ¬ M 14 3 = 0) (n2 : ¬ M 27 7 = 0) : Iv M ts := by
  refine ⟨⟨h4, h5, h6, fun i hi => ⟨by rw [h1 i hi, h2 i hi], by rw [h2 i hi]; exact (h3 _ (List.getElem_mem hi)).2⟩, h7, h8⟩, ⟨h6, h4, fun i hi => ⟨ts[i], List.getElem?_eq_getElem hi, (h3 _ (List.getElem_mem hi)).1, h2 i hi⟩⟩, h9, fun q => absurd q n1, fun q => absurd q n2⟩
def cA (M : zMem) (n : Nat) (x : Int32) : zMem := zup (zup (zup (zup M 1 n x) 0 5 (nI (n + 1))) 14 3 1) 27 7 1
def rA (M : zMem) (n : Nat) (x : Int32) : zMem := zup (zup M 35 n x) 34 1 (nI (n + 1))
theorem cApp {M : zMem} {n : Nat} {x : Int32} (h : M 0 5 = nI n) (hn : n < 150) (hx : ¬ x = -1) : F_L_append M x = some (cA M n x) := by
  have e : zup M 1 n x 0 5 = nI n := by rw [zup_ne (by omega)]; exact h
  unfold F_L_append F_L_forgetText cA
  rw [if_neg hx, h, if_neg (nI_pos (by omega)), if_pos (show nI n < (150 : Int32) from nI_lt (b := 150) hn (by omega)), zix_nI _ hn (by omega), nI_clamp (by omega), zset_eq, zset_eq, e, nI_1, zset_eq, zset_eq, zbv_some]
theorem cA_k {M : zMem} {n : Nat} {x : Int32} : (∀ a, a ≠ 0 → a ≠ 1 → a ≠ 14 → a ≠ 27 → cA M n x a = M a) ∧ cA M n x 0 5 = nI (n + 1) ∧ cA M n x 1 = zup M 1 n x 1 ∧ cA M n x 14 3 = 1 ∧ cA M n x 27 7 = 1 := by
  unfold cA
  refine ⟨fun a q1 q2 q3 q4 => ?_, ?_, ?_, ?_, ?_⟩
  · rw [zup_ne q4, zup_ne q3, zup_ne q1, zup_ne q2]
  · rw [zup_ne (by omega), zup_ne (by omega), zup_self, pk_us]
  · rw [zup_ne (by omega), zup_ne (by omega), zup_ne (by omega)]
  · rw [zup_ne (by omega), zup_self, pk_us]
  · rw [zup_self, pk_us]
theorem rA_k {M : zMem} {n : Nat} {x : Int32} : (∀ a, a ≠ 34 → a ≠ 35 → rA M n x a = M a) ∧ rA M n x 34 1 = nI (n + 1) ∧ rA M n x 35 = zup M 35 n x 35 ∧ (∀ j, j ≠ 1 → rA M n x 34 j = M 34 j) := by
  unfold rA
  refine ⟨fun a q1 q2 => by rw [zup_ne q1, zup_ne q2], by rw [zup_self, pk_us], by rw [zup_ne (by omega)], fun j q => by rw [z34 q, zup_ne (by omega)]⟩
theorem isTk_n {x : Int32} (h : isTk x = true) : ∃ t, t < 174 ∧ x = nI t := by
  have h2 : 0 ≤ x ∧ x ≤ 173 := by
    simp only [isTk, Bool.or_eq_true, Bool.and_eq_true, decide_eq_true_eq] at h
    rcases h with h | h | h | h | h | h | h
    · exact ⟨h.1, Int32.le_trans h.2 (by decide)⟩
    · exact ⟨Int32.le_trans (by decide) h.1, Int32.le_trans h.2 (by decide)⟩
    · exact ⟨Int32.le_trans (by decide) h.1, Int32.le_trans h.2 (by decide)⟩
    · exact ⟨Int32.le_trans (by decide) h.1, Int32.le_trans h.2 (by decide)⟩
    · exact ⟨Int32.le_trans (by decide) h.1, Int32.le_trans h.2 (by decide)⟩
    · exact ⟨Int32.le_trans (by decide) h.1, Int32.le_trans h.2 (by decide)⟩
    · exact ⟨Int32.le_trans (by decide) h.1, Int32.le_trans h.2 (by decide)⟩
  exact i32_rng (fun z => i32_lt_nle z h2.1) (i32_ls (n := 173) (by omega) h2.2) (by omega)
theorem ob100 : zOb Inv Y_L_token 2 Y_R_token 1 1 := ob1 fun M x ⟨ts, h⟩ => by
  obtain ⟨t1, t35, ta, tl, t05, t34⟩ := Iv_all h
  obtain ⟨⟨-, -, -, -, a5, a6⟩, -, b2, -, -⟩ := id h
  cases hx : isTk x with
  | false =>
    refine ⟨-1, M, M, G_L_token (y := (-1, M)) ?_, G_R_token (y := (-1, M)) ?_, ts, h⟩
    · unfold F_L_token; rw [cExists, hx, zbi_some, if_pos (by decide)]
    · unfold F_R_token; rw [rIsToken, hx, zbi_some, if_pos (by decide)]
  | true =>
    obtain ⟨t, ht, rfl⟩ := isTk_n hx
    have n1 : ¬ nI t = -1 := fun z => absurd (show nI t < 0 by rw [z]; decide) (nI_pos (n := t) (by omega))
    by_cases c : ts.length = 150
    · refine ⟨-2, M, M, G_L_token (y := (-2, M)) ?_, G_R_token (y := (-2, M)) ?_, ts, h⟩
      · unfold F_L_token; rw [cExists, hx, zbi_some, if_neg (by decide), t05, if_neg (show ¬ nI ts.length < (150 : Int32) from nI_nlt (b := 150) (by omega) (by omega))]
      · unfold F_R_token; rw [rIsToken, hx, zbi_some, if_neg (by decide), t34, c, if_pos (show nI 150 = (150 : Int32) from rfl)]
    · obtain ⟨k1, k2, k3, k4, k5⟩ := cA_k (M := M) (n := ts.length) (x := nI t)
      obtain ⟨j1, j2, j3, j4⟩ := rA_k (M := cA M ts.length (nI t)) (n := ts.length) (x := nI t)
      refine ⟨nI (ts.length + 1), cA M ts.length (nI t), rA (cA M ts.length (nI t)) ts.length (nI t), G_L_token (y := (nI (ts.length + 1), cA M ts.length (nI t))) ?_, G_R_token (y := (nI (ts.length + 1), rA (cA M ts.length (nI t)) ts.length (nI t))) ?_, ts ++ [t], Iv_mk ?_ ?_ (fun u hu => ?_) ?_ ?_ ?_ (fun g hg => ?_) (fun i hi => ?_) ?_ ?_ ?_⟩
      · unfold F_L_token
        rw [cExists, hx, zbi_some, if_neg (by decide), t05, if_pos (show nI ts.length < (150 : Int32) from nI_lt (b := 150) (by omega) (by omega)), cApp t05 (by omega) n1, zbv_some, k2]
      · have e34 : cA M ts.length (nI t) 34 1 = nI ts.length := by rw [k1 34 (by omega) (by omega) (by omega) (by omega)]; exact t34
        have e2 : zup (cA M ts.length (nI t)) 35 ts.length (nI t) 34 1 = nI ts.length := by rw [zup_ne (by omega)]; exact e34
        unfold F_R_token
        rw [rIsToken, hx, zbi_some, if_neg (by decide), e34, if_neg (show ¬ nI ts.length = (150 : Int32) from nIne (c := 150) (by omega) (by omega) c), zix_nI _ (by omega) (by omega), nI_clamp (by omega), zset_eq, zset_eq, e2, nI_1]
        show some (rA (cA M ts.length (nI t)) ts.length (nI t) 34 1, rA (cA M ts.length (nI t)) ts.length (nI t)) = _
        rw [j2]
      · intro i hi
        rw [j1 1 (by omega) (by omega), k3]
        exact tIn_snoc t1 i hi
      · intro i hi
        rw [j3]
        exact tIn_snoc (M := cA M ts.length (nI t)) (a := 35) (fun i hi => by rw [k1 35 (by omega) (by omega) (by omega) (by omega)]; exact t35 i hi) i hi
      · rcases List.mem_append.mp hu with hu | hu
        · exact ta u hu
        · rw [List.mem_singleton.mp hu]; exact ⟨ht, hx⟩
      · rw [List.length_append, List.length_singleton]; omega
      · rw [j1 0 (by omega) (by omega), k2, List.length_append, List.length_singleton]
      · rw [j2, List.length_append, List.length_singleton]
      · rw [j1 2 (by omega) (by omega), j1 36 (by omega) (by omega), k1 2 (by omega) (by omega) (by omega) (by omega), k1 36 (by omega) (by omega) (by omega) (by omega)]; exact a5 g hg
      · rw [j1 3 (by omega) (by omega), j1 37 (by omega) (by omega), k1 3 (by omega) (by omega) (by omega) (by omega), k1 37 (by omega) (by omega) (by omega) (by omega)]; exact a6 i hi
      · obtain ⟨p, o, g, x1, x2, x3, x4, x5, x6⟩ := b2
        refine ⟨p, o, g, x1, x2, x3, ?_, ?_, ?_⟩
        · rw [j4 21 (by omega), k1 34 (by omega) (by omega) (by omega) (by omega)]; exact x4
        · rw [j4 22 (by omega), k1 34 (by omega) (by omega) (by omega) (by omega)]; exact x5
        · rw [j4 23 (by omega), k1 34 (by omega) (by omega) (by omega) (by omega)]; exact x6
      · rw [j1 14 (by omega) (by omega), k4]; decide
      · rw [j1 27 (by omega) (by omega), k5]; decide
