/-! THE REFERENCE WRITES THE PLAIN FORM: its tasks -/
def wSt (M0 M : zMem) (l e : List Nat) : Prop := M 34 5 = nI l.length ∧ rTk M l ∧ M 34 30 = nI e.length ∧ (∀ i (h : i < e.length), M 52 i = nI e[i]) ∧ (∀ a, a ≠ 34 → a ≠ 38 → a ≠ 52 → M a = M0 a) ∧ ∀ j, j ≠ 5 → j ≠ 30 → M 34 j = M0 34 j
def wS (M M' : zMem) (k : Nat) : Prop := ∀ N n, F_R_write_p8 N (n + k) M = F_R_write_p8 N n M'
def wG (M0 M : zMem) (l e : List Nat) : Prop := ∃ M' k, wS M M' k ∧ wSt M0 M' l e
/-- the task x writes w -/
def wT (M0 : zMem) (x : Nat) (w : List Nat) : Prop := ∀ M l e, wSt M0 M (x :: l) e → l.length + 8 * w.length + 1 ≤ 1600 → e.length + w.length ≤ 160 → wG M0 M l (e ++ w)
def wDisp (N n : Nat) (M1 : zMem) (x : Int32) : Option zMem :=
  if (1000 : Int32) ≤ x then (if (3000 : Int32) ≤ x then (if (4000 : Int32) ≤ x then (if (5000 : Int32) ≤ x then (if (6000 : Int32) ≤ x then (zix (x - x / (1000 : Int32) * (1000 : Int32)) 400 (if (M1 41 (x - x / (1000 : Int32) * (1000 : Int32)).toNatClampNeg) < 0 then (F_R_write_p8 N n M1 ) else (zix (x - x / (1000 : Int32) * (1000 : Int32)) 400 (zbv (F_R_task M1 ((3000 : Int32) + (M1 41 (x - x / (1000 : Int32) * (1000 : Int32)).toNatClampNeg))) fun M6 => F_R_write_p8 N n M6 )))) else (zix (x - x / (1000 : Int32) * (1000 : Int32)) 400 (if (M1 44 (x - x / (1000 : Int32) * (1000 : Int32)).toNatClampNeg) < 0 then (F_R_write_p81 N (F_R_write_p8 N n) M1 (x - x / (1000 : Int32) * (1000 : Int32))) else (zix (x - x / (1000 : Int32) * (1000 : Int32)) 400 (zbv (F_R_tasksOf M1 (124 : Int32) ((5000 : Int32) + (M1 44 (x - x / (1000 : Int32) * (1000 : Int32)).toNatClampNeg)) (-1 : Int32) (-1 : Int32)) fun M10 => F_R_write_p81 N (F_R_write_p8 N n) M10 (x - x / (1000 : Int32) * (1000 : Int32))))))) else (zbv (F_R_writeRest M1 (x - x / (1000 : Int32) * (1000 : Int32))) fun M12 => F_R_write_p8 N n M12 )) else (zbv (F_R_writeStatement M1 (x - x / (1000 : Int32) * (1000 : Int32))) fun M14 => F_R_write_p8 N n M14 )) else (zbv (F_R_writeExpression M1 ((x - (1000 : Int32)) / (4 : Int32)) (x - x / (4 : Int32) * (4 : Int32))) fun M16 => F_R_write_p8 N n M16 )) else (zbv (F_R_emit M1 x) fun M18 => F_R_write_p8 N n M18 )
def cat : List (Nat × List Nat) → List Nat
  | [] => []
  | x :: r => x.2 ++ cat r
theorem cat_app : ∀ (a b : List (Nat × List Nat)), cat (a ++ b) = cat a ++ cat b
  | [], b => rfl
  | x :: r, b => by
    show x.2 ++ cat (r ++ b) = (x.2 ++ cat r) ++ cat b
    rw [cat_app r b, List.append_assoc]
section WP
variable {M0 M M' : zMem} {l e : List Nat} {x : Nat}
theorem wG_refl (h : wSt M0 M l e) : wG M0 M l e := ⟨M, 0, fun _ _ => rfl, h⟩
theorem wG_trans {l' e' : List Nat} (h : wG M0 M l e) (g : ∀ M', wSt M0 M' l e → wG M0 M' l' e') : wG M0 M l' e' := by
  obtain ⟨M1, k1, h1, h2⟩ := h
  obtain ⟨M2, k2, g1, g2⟩ := g M1 h2
  exact ⟨M2, k2 + k1, fun N n => by rw [← Nat.add_assoc, h1, g1], g2⟩
theorem wSt_push {ks : List Nat} (h : wSt M0 M l e) (hp : rPush M M' ks l) : wSt M0 M' (ks ++ l) e := by
  obtain ⟨h1, h2, h3, h4, h5, h6⟩ := h
  obtain ⟨p1, p2, p3, p4⟩ := hp
  exact ⟨p1, p2, by rw [p4 30 (by omega)]; exact h3, fun i hi => by rw [p3 52 (by omega) (by omega)]; exact h4 i hi, fun a q1 q2 q3 => by rw [p3 a q2 q1]; exact h5 a q1 q2 q3, fun j q1 q2 => by rw [p4 j q1]; exact h6 j q1 q2⟩
theorem wPop (h : wSt M0 M (x :: l) e) (hl : l.length < 1600) : wSt M0 (zup M 34 5 (nI l.length)) l e ∧ ∀ N n, F_R_write_p8 N (n + 1) M = wDisp N n (zup M 34 5 (nI l.length)) (nI x) := by
  obtain ⟨h1, h2, h3, h4, h5, h6⟩ := h
  have h1 : M 34 5 = nI (l.length + 1) := h1
  have y5 : zup M 34 5 (nI l.length) 34 5 = nI l.length := by simp [zup_ap]
  have y38 : zup M 34 5 (nI l.length) 38 l.length = nI x := by simp [zup_ap, h2.1]
  refine ⟨⟨y5, rTk_congr (fun i _ => by simp [zup_ap]) h2.2, by simp [zup_ap, h3], fun i hi => by simp [zup_ap]; exact h4 i hi, fun a q1 q2 q3 => by rw [← h5 a q1 q2 q3]; funext i; simp [zup_ap, q1], fun j q1 q2 => by rw [← h6 j q1 q2]; simp [zup_ap, q1]⟩, fun N n => ?_⟩
  unfold wDisp
  rw [F_R_write_p8, h1, if_neg (show ¬ nI (l.length + 1) ≤ 0 from nI_ge (a := 0) (b := l.length + 1) (by omega) (by omega)), show nI (l.length + 1) - 1 = nI l.length from nI_pred _, zset_eq, y5, zix_nI _ hl (by omega), nI_clamp (by omega), y38]
theorem wSeq {W : Nat} : ∀ (xs : List (Nat × List Nat)) (M : zMem) (l e : List Nat), (∀ y ∈ xs, wT M0 y.1 y.2 ∧ xs.length + 8 * y.2.length ≤ 8 * W + 1) → wSt M0 M (xs.map Prod.fst ++ l) e → l.length + 8 * W + 1 ≤ 1600 → e.length + (cat xs).length ≤ 160 → wG M0 M l (e ++ cat xs)
  | [], M, l, e, _, h, _, _ => by
    show wG M0 M l (e ++ [])
    rw [List.append_nil]
    exact wG_refl h
  | y :: r, M, l, e, hx, h, hl, he => by
    obtain ⟨y1, y2⟩ := hx y (by simp)
    simp only [List.length_cons] at y2
    have he' : e.length + (y.2.length + (cat r).length) ≤ 160 := by
      rw [← List.length_append]; exact he
    refine wG_trans (y1 M (r.map Prod.fst ++ l) e h (by simp; omega) (by omega)) fun M' h' => ?_
    have := wSeq (W := W) r M' l (e ++ y.2) (fun z hz => by
      obtain ⟨z1, z2⟩ := hx z (by simp [hz])
      simp only [List.length_cons] at z2
      exact ⟨z1, by omega⟩) h' hl (by simp; omega)
    rw [List.append_assoc] at this
    exact this
/-- a task is done by its parts -/
theorem wT_of {w : List Nat} (h : ∀ M1 l e, wSt M0 M1 l e → l.length + 8 * w.length + 1 ≤ 1600 → ∃ M2 xs, (∀ N n, wDisp N n M1 (nI x) = F_R_write_p8 N n M2) ∧ (∀ y ∈ xs, wT M0 y.1 y.2 ∧ xs.length + 8 * y.2.length ≤ 8 * w.length + 1) ∧ cat xs = w ∧ wSt M0 M2 (xs.map Prod.fst ++ l) e) : wT M0 x w := by
  intro M l e hs hl he
  obtain ⟨p1, p2⟩ := wPop hs (by omega)
  obtain ⟨M2, xs, a1, a2, a3, a4⟩ := h _ l e p1 hl
  subst a3
  obtain ⟨M3, k, b1, b2⟩ := wSeq xs M2 l e a2 a4 hl he
  exact ⟨M3, k + 1, fun N n => by rw [← Nat.add_assoc, p2, a1, b1], b2⟩
theorem wD_emit {N n : Nat} (hx : x < 1000) : wDisp N n M (nI x) = zbv (F_R_emit M (nI x)) fun M18 => F_R_write_p8 N n M18 := by
  unfold wDisp
  rw [if_neg (show ¬ (1000 : Int32) ≤ nI x from nI_ge (b := 1000) hx (by omega))]
theorem wD_exp {N n i lv : Nat} (hi : i < 400) (hl : lv ≤ 3) : wDisp N n M (nI (1000 + 4 * i + lv)) = zbv (F_R_writeExpression M (nI i) (nI lv)) fun M18 => F_R_write_p8 N n M18 := by
  unfold wDisp
  rw [if_pos (show (1000 : Int32) ≤ nI (1000 + 4 * i + lv) from nI_le (a := 1000) (by omega) (by omega)), if_neg (show ¬ (3000 : Int32) ≤ nI (1000 + 4 * i + lv) from nI_ge (b := 3000) (by omega) (by omega)), show (1000 : Int32) = nI 1000 from rfl, show (4 : Int32) = nI 4 from rfl, pk_rem (by omega) (by omega) (by omega), pk_sub (by omega), pk_div (by omega) (by omega) (by omega), show (1000 + 4 * i + lv - 1000) / 4 = i by omega, show (1000 + 4 * i + lv) % 4 = lv by omega]
theorem wD_st {N n i : Nat} (hi : i < 400) : wDisp N n M (nI (3000 + i)) = zbv (F_R_writeStatement M (nI i)) fun M18 => F_R_write_p8 N n M18 := by
  unfold wDisp
  rw [if_pos (show (1000 : Int32) ≤ nI (3000 + i) from nI_le (a := 1000) (by omega) (by omega)), if_pos (show (3000 : Int32) ≤ nI (3000 + i) from nI_le (a := 3000) (by omega) (by omega)), if_neg (show ¬ (4000 : Int32) ≤ nI (3000 + i) from nI_ge (b := 4000) (by omega) (by omega)), show (1000 : Int32) = nI 1000 from rfl, pk_rem (by omega) (by omega) (by omega), show (3000 + i) % 1000 = i by omega]
theorem wD_rest {N n i : Nat} (hi : i < 400) : wDisp N n M (nI (4000 + i)) = zbv (F_R_writeRest M (nI i)) fun M18 => F_R_write_p8 N n M18 := by
  unfold wDisp
  rw [if_pos (show (1000 : Int32) ≤ nI (4000 + i) from nI_le (a := 1000) (by omega) (by omega)), if_pos (show (3000 : Int32) ≤ nI (4000 + i) from nI_le (a := 3000) (by omega) (by omega)), if_pos (show (4000 : Int32) ≤ nI (4000 + i) from nI_le (a := 4000) (by omega) (by omega)), if_neg (show ¬ (5000 : Int32) ≤ nI (4000 + i) from nI_ge (b := 5000) (by omega) (by omega)), show (1000 : Int32) = nI 1000 from rfl, pk_rem (by omega) (by omega) (by omega), show (4000 + i) % 1000 = i by omega]
theorem wD_arg {N n i : Nat} (hi : i < 400) : wDisp N n M (nI (5000 + i)) = if M 44 i < 0 then F_R_write_p81 N (F_R_write_p8 N n) M (nI i) else zbv (F_R_tasksOf M 124 (5000 + M 44 i) (-1) (-1)) fun M10 => F_R_write_p81 N (F_R_write_p8 N n) M10 (nI i) := by
  unfold wDisp
  rw [if_pos (show (1000 : Int32) ≤ nI (5000 + i) from nI_le (a := 1000) (by omega) (by omega)), if_pos (show (3000 : Int32) ≤ nI (5000 + i) from nI_le (a := 3000) (by omega) (by omega)), if_pos (show (4000 : Int32) ≤ nI (5000 + i) from nI_le (a := 4000) (by omega) (by omega)), if_pos (show (5000 : Int32) ≤ nI (5000 + i) from nI_le (a := 5000) (by omega) (by omega)), if_neg (show ¬ (6000 : Int32) ≤ nI (5000 + i) from nI_ge (b := 6000) (by omega) (by omega)), show (1000 : Int32) = nI 1000 from rfl, pk_rem (by omega) (by omega) (by omega), show (5000 + i) % 1000 = i by omega, zix_nI _ hi (by omega), zix_nI _ hi (by omega), nI_clamp (by omega)]
theorem wD_list {N n i : Nat} (hi : i < 400) : wDisp N n M (nI (6000 + i)) = if M 41 i < 0 then F_R_write_p8 N n M else zbv (F_R_task M (3000 + M 41 i)) fun M10 => F_R_write_p8 N n M10 := by
  unfold wDisp
  rw [if_pos (show (1000 : Int32) ≤ nI (6000 + i) from nI_le (a := 1000) (by omega) (by omega)), if_pos (show (3000 : Int32) ≤ nI (6000 + i) from nI_le (a := 3000) (by omega) (by omega)), if_pos (show (4000 : Int32) ≤ nI (6000 + i) from nI_le (a := 4000) (by omega) (by omega)), if_pos (show (5000 : Int32) ≤ nI (6000 + i) from nI_le (a := 5000) (by omega) (by omega)), if_pos (show (6000 : Int32) ≤ nI (6000 + i) from nI_le (a := 6000) (by omega) (by omega)), show (1000 : Int32) = nI 1000 from rfl, pk_rem (by omega) (by omega) (by omega), show (6000 + i) % 1000 = i by omega, zix_nI _ hi (by omega), zix_nI _ hi (by omega), nI_clamp (by omega)]
/-- a token is emitted -/
theorem wEmit {y : Nat} (h : wSt M0 M l e) (he : e.length < 160) : ∃ M', F_R_emit M (nI y) = some M' ∧ wSt M0 M' l (e ++ [y]) := by
  obtain ⟨h1, h2, h3, h4, h5, h6⟩ := h
  refine ⟨zup (zup M 52 e.length (nI y)) 34 30 (nI (e.length + 1)), ?_, ?_⟩
  · unfold F_R_emit
    have y30 : zup M 52 e.length (nI y) 34 30 = nI e.length := by simp [zup_ap, h3]
    rw [h3, zix_nI _ he (by omega), zset_eq, zset_eq, nI_clamp (by omega), y30, nI_1]
  · refine ⟨by simp [zup_ap, h1], rTk_congr (fun i _ => by simp [zup_ap]) h2, by simp [zup_ap], fun i hi => ?_, fun a q1 q2 q3 => ?_, fun j q1 q2 => ?_⟩
    · simp only [List.length_append, List.length_cons, List.length_nil] at hi
      by_cases c : i = e.length
      · subst c
        simp [zup_ap]
      · have : i < e.length := by omega
        simp [zup_ap, c, List.getElem_append_left this]
        exact h4 i this
    · rw [← h5 a q1 q2 q3]; funext i; simp [zup_ap, q1, q3]
    · rw [← h6 j q1 q2]; simp [zup_ap, q2]
theorem wTk {y : Nat} (hy : y < 1000) (hs : wSt M0 M (y :: l) e) (hl : l.length < 1600) (he : e.length < 160) : wG M0 M l (e ++ [y]) := by
  obtain ⟨p1, p2⟩ := wPop hs (by omega)
  obtain ⟨M2, a1, a2⟩ := wEmit (y := y) p1 (by omega)
  exact ⟨M2, 1, fun N n => by rw [p2, wD_emit hy, a1, zbv_some], a2⟩
theorem wT_man {w : List Nat} (h : ∀ M1 l e, wSt M0 M1 l e → l.length + 8 * w.length + 1 ≤ 1600 → e.length + w.length ≤ 160 → ∃ M2, (∀ N n, wDisp N n M1 (nI x) = F_R_write_p8 N n M2) ∧ wG M0 M2 l (e ++ w)) : wT M0 x w := by
  intro M l e hs hl he
  obtain ⟨p1, p2⟩ := wPop hs (by omega)
  obtain ⟨M2, a1, M3, k, b1, b2⟩ := h _ l e p1 hl he
  exact ⟨M3, k + 1, fun N n => by rw [← Nat.add_assoc, p2, a1, b1], b2⟩
theorem wT_tok {y : Nat} (hy : y < 1000) : wT M0 y [y] := by
  intro M l e hs hl he
  simp only [List.length_cons, List.length_nil] at hl he
  obtain ⟨p1, p2⟩ := wPop hs (by omega)
  obtain ⟨M2, a1, a2⟩ := wEmit (y := y) p1 (by omega)
  exact ⟨M2, 1, fun N n => by rw [p2, wD_emit hy, a1, zbv_some], a2⟩
end WP
