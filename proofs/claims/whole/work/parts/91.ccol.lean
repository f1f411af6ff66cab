/-! THE CLASS COLLECTS THE PLAIN FORM -/
/-- the list w stands in the class's plain text -/
def plL (M : zMem) (w : List Nat) : Prop := M 19 1 = nI w.length ∧ ∀ i (h : i < w.length), M 20 i = nI w[i]
section CO
variable {tx : Nat → Nat} {fl : Nat → Int32} {len : Nat}
def nxt (tx : Nat → Nat) (len i : Nat) : Nat := if i < len then tx i else 163
def isSp (t : Nat) : Bool := isEn t || t == 121
def pdW (tx : Nat → Nat) (len i p : Nat) : List Nat := if p = 2 ∧ isSp (nxt tx len i) = false then [121] else []
/-- what has been kept ends with the token that the state p tells -/
def okP (w : List Nat) (p : Nat) : Prop := p ≤ 2 ∧ (p = 0 → ∃ t, w.getLast? = some t ∧ isOp t = true) ∧ (p ≠ 0 → ∀ t, w.getLast? = some t → isOp t = false)
theorem f1_ok {p t : Nat} {o : Bool} {w : List Nat} (h : okP w p) : okP (w ++ (f1 p t o).1) (f1 p t o).2 := by
  obtain ⟨h0, h1, h2⟩ := h
  have last : ∀ (x : Nat) (l : List Nat), (l ++ [x]).getLast? = some x := fun x l => by simp
  have one : ∀ x, okP (w ++ [x]) (if isOp x = true then 0 else 1) := by
    intro x
    by_cases c : isOp x = true
    · rw [if_pos c]
      exact ⟨by omega, fun _ => ⟨x, last x w, c⟩, fun z => absurd rfl z⟩
    · rw [if_neg c]
      exact ⟨by omega, fun z => by omega, fun _ t ht => by rw [last] at ht; cases ht; simpa using c⟩
  unfold f1
  by_cases c1 : o = true
  · rw [if_pos c1]
    by_cases c2 : p = 2
    · rw [if_pos c2]
      split
      · rw [List.append_nil]; exact ⟨by omega, fun z => by omega, fun _ => h2 (by omega)⟩
      · have := one 121
        exact this
    · rw [if_neg c2, List.append_nil]; exact ⟨h0, h1, h2⟩
  · rw [if_neg c1]
    by_cases c2 : t = 121
    · rw [if_pos c2]
      by_cases c3 : p = 0
      · rw [if_pos c3, List.append_nil, ← c3]; exact ⟨h0, h1, h2⟩
      · rw [if_neg c3, List.append_nil]; exact ⟨by omega, fun z => by omega, fun _ => h2 c3⟩
    · rw [if_neg c2]
      by_cases c3 : isEn t = true
      · rw [if_pos c3]; exact one t
      · rw [if_neg c3]
        by_cases c4 : p = 2
        · rw [if_pos c4]
          by_cases c : isOp t = true
          · rw [if_pos c]
            exact ⟨by omega, fun _ => ⟨t, by simp, c⟩, fun z => absurd rfl z⟩
          · rw [if_neg c]
            exact ⟨by omega, fun z => by omega, fun _ t' ht => by simp at ht; subst ht; simpa using c⟩
        · rw [if_neg c4]; exact one t
/-- does the class leave the token out -/
def spare (tx : Nat → Nat) (fl : Nat → Int32) (len i p : Nat) : Bool := decide (¬ fl i = 0) || (tx i == 121 && (p == 0 || isSp (nxt tx len (i + 1))))
theorem sp_step {i p : Nat} (hi : i < len) (hp : p ≤ 2) : pdW tx len i p ++ (if spare tx fl len i p = true then [] else [tx i]) = (f1 p (tx i) (decide (¬ fl i = 0))).1 ++ pdW tx len (i + 1) (f1 p (tx i) (decide (¬ fl i = 0))).2 := by
  have hn : nxt tx len i = tx i := if_pos hi
  unfold pdW spare f1
  rw [hn]
  by_cases c1 : fl i = 0
  · simp only [c1, not_true_eq_false, decide_false, Bool.false_or]
    by_cases c2 : tx i = 121
    · have s1 : isSp (tx i) = true := by rw [c2]; rfl
      rw [c2] at s1
      rcases (show p = 0 ∨ p = 1 ∨ p = 2 by omega) with rfl | rfl | rfl
      · simp [c2]
      · cases hs : isSp (nxt tx len (i + 1)) <;> simp [c2, hs]
      · cases hs : isSp (nxt tx len (i + 1)) <;> simp [c2, hs, s1]
    · by_cases c3 : isEn (tx i) = true
      · have s1 : isSp (tx i) = true := by simp [isSp, c3]
        by_cases c4 : isOp (tx i) = true
        · simp [c2, c3, s1, c4]
        · simp [c2, c3, s1, c4]
      · have s1 : isSp (tx i) = false := by simp [isSp, c3, c2]
        rcases (show p = 2 ∨ ¬ p = 2 by omega) with rfl | q
        · by_cases c4 : isOp (tx i) = true
          · simp [c2, c3, s1, c4]
          · simp [c2, c3, s1, c4]
        · by_cases c4 : isOp (tx i) = true
          · simp [c2, c3, s1, c4, q]
          · simp [c2, c3, s1, c4, q]
  · simp only [c1, not_false_eq_true, decide_true, Bool.true_or]
    rcases (show p = 2 ∨ ¬ p = 2 by omega) with rfl | q
    · cases hs : isSp (tx i) with
      | true =>
        have : (isEn (tx i) || tx i == 121) = true := hs
        simp [this]
      | false =>
        have : (isEn (tx i) || tx i == 121) = false := hs
        simp [this]
    · simp [q]
theorem cOpens (M : zMem) {t : Nat} (ht : t < 1000) : F_Tok_opensStatements M (nI t) = some (b2i (isOp t), M) := by
  unfold F_Tok_opensStatements
  have tt : ∀ n, n < 1000 → isOp n = true → ∀ {b : Option (Int32 × zMem)} {y : Int32}, y = nI n → (¬ t = n → b = some (b2i (isOp t), M)) → (if nI t = y then some ((1 : Int32), M) else b) = some (b2i (isOp t), M) := by
    intro n hn h3 b y hy h4
    subst hy
    by_cases q : t = n
    · subst q; rw [if_pos rfl, h3]; rfl
    · rw [if_neg (nIne ht hn q)]; exact h4 q
  refine tt 171 (by omega) rfl rfl fun q1 => tt 161 (by omega) rfl rfl fun q2 => tt 162 (by omega) rfl rfl fun q3 => tt 165 (by omega) rfl rfl fun q4 => tt 166 (by omega) rfl rfl fun q5 => ?_
  have : isOp t = false := by simp [isOp]; omega
  rw [this]; rfl
theorem cEnds (M : zMem) {t : Nat} (ht : t < 1000) : F_Tok_endsStatements M (nI t) = some (b2i (isEn t), M) := by
  unfold F_Tok_endsStatements
  have tt : ∀ n, n < 1000 → isEn n = true → ∀ {b : Option (Int32 × zMem)} {y : Int32}, y = nI n → (¬ t = n → b = some (b2i (isEn t), M)) → (if nI t = y then some ((1 : Int32), M) else b) = some (b2i (isEn t), M) := by
    intro n hn h3 b y hy h4
    subst hy
    by_cases q : t = n
    · subst q; rw [if_pos rfl, h3]; rfl
    · rw [if_neg (nIne ht hn q)]; exact h4 q
  refine tt 163 (by omega) rfl rfl fun q1 => tt 173 (by omega) rfl rfl fun q2 => tt 162 (by omega) rfl rfl fun q3 => tt 167 (by omega) rfl rfl fun q4 => ?_
  have : isEn t = false := by simp [isEn]; omega
  rw [this]; rfl
theorem cBeside {M : zMem} {w : List Nat} {i p : Nat} (hl : len ≤ 150) (htx : ∀ i, i < len → tx i < 174 ∧ M 1 i = nI (tx i)) (hi : i < len) (hw : plL M w) (hw1 : w.length ≤ 150) (hw2 : ∀ t ∈ w, t < 174) (hp : p ≤ 2) (ho : (p = 0 → ∃ t, w.getLast? = some t ∧ isOp t = true) ∧ (p ≠ 0 → ∀ t, w.getLast? = some t → isOp t = false)) : F_Plain_isBesideEmptyStatement M (nI len) (nI i) = some (b2i (p == 0 || isSp (nxt tx len (i + 1))), M) := by
  have p42 : ∀ (v : Bool) (t : Nat), t < 1000 → F_Plain_isBesideEmptyStatement_p42 M (b2i v) (nI t) = some (b2i (v || isSp t), M) := by
    intro v t ht
    unfold F_Plain_isBesideEmptyStatement_p42
    cases v with
    | true => rfl
    | false =>
      rw [if_pos (show b2i false = 0 from rfl)]
      by_cases c : t = 121
      · rw [if_pos (show nI t = (121 : Int32) by rw [c]; rfl), c]; rfl
      · rw [if_neg (show ¬ nI t = (121 : Int32) from nIne (c := 121) ht (by omega) c), cEnds M ht, zbi_some]
        have : isSp t = isEn t := by simp [isSp, c]
        rw [this]
        cases isEn t <;> rfl
  have p21 : ∀ (v : Bool), F_Plain_isBesideEmptyStatement_p21 M (nI len) (nI i) (b2i v) = some (b2i (v || isSp (nxt tx len (i + 1))), M) := by
    intro v
    unfold F_Plain_isBesideEmptyStatement_p21 F_Plain_isBesideEmptyStatement_p41
    have e163 : F_Plain_isBesideEmptyStatement_p42 M (b2i v) 163 = some (b2i (v || isSp 163), M) := p42 v 163 (by omega)
    rw [if_neg (nI_pos (by omega)), nI_s1 (show 0 < len by omega)]
    by_cases c : i + 1 < len
    · have hx : nxt tx len (i + 1) = tx (i + 1) := if_pos c
      obtain ⟨h1, h2⟩ := htx (i + 1) c
      rw [if_neg (nI_ge (by omega) (by omega)), show ((150 : Int32) - 1) = nI 149 from rfl, if_neg (nI_ge (by omega) (by omega)), nI_1, zix_nI _ (by omega) (by omega), nI_clamp (by omega), h2, hx]
      exact p42 v _ (by omega)
    · have hx : nxt tx len (i + 1) = 163 := if_neg c
      rw [if_pos (nI_le (by omega) (by omega)), hx]
      exact e163
  unfold F_Plain_isBesideEmptyStatement F_Plain_isBesideEmptyStatement_p20
  rw [hw.1]
  by_cases c : w = []
  · subst c
    have hp0 : p ≠ 0 := fun z => by obtain ⟨t, ht, -⟩ := ho.1 z; simp at ht
    have : (p == 0) = false := by simp [hp0]
    rw [if_pos (by decide), this]
    exact p21 false
  · have hpos : 0 < w.length := List.length_pos_iff.mpr c
    obtain ⟨m, hm⟩ : ∃ m, w.length = m + 1 := ⟨w.length - 1, by omega⟩
    have hlast : w.getLast? = some w[m] := by
      rw [List.getLast?_eq_getElem?]
      have e : w.length - 1 = m := by omega
      rw [e]
      exact List.getElem?_eq_getElem _
    rw [hm, if_neg (nI_nle (by omega) (by omega)), if_neg (show ¬ (150 : Int32) < nI (m + 1) from nI_nlt (a := 150) (by omega) (by omega)), nI_pred, zix_nI _ (by omega) (by omega), nI_clamp (by omega), hw.2 m (by omega), cOpens M (by have := hw2 w[m] (List.getElem_mem _); omega), zbi_some]
    by_cases hp0 : p = 0
    · obtain ⟨t, ht, hot⟩ := ho.1 hp0
      rw [hlast] at ht
      cases ht
      have : (p == 0) = true := by simp [hp0]
      rw [hot, if_neg (by decide), this]
      exact p21 true
    · have hot := ho.2 hp0 _ hlast
      have : (p == 0) = false := by simp [hp0]
      rw [hot, if_pos (show b2i false = 0 from rfl), this]
      exact p21 false
theorem cCollect {N : Nat} (hl : len ≤ 150) : ∀ (k i n : Nat) (M : zMem) (w : List Nat) (p : Nat), i + k = len → k < n → (∀ i, i < len → tx i < 174 ∧ M 1 i = nI (tx i)) → M 21 = fl → okP w p → (∀ t ∈ w, t < 174) → (w ++ pdW tx len i p).length ≤ i → plL M (w ++ pdW tx len i p) → ∃ M', F_Plain_collect_p5 N n M (nI len) (nI i) = some M' ∧ (∀ a, a ≠ 19 → a ≠ 20 → M' a = M a) ∧ plL M' (w ++ ((fdn tx fl k i p).1 ++ pdW tx len len (fdn tx fl k i p).2))
  | 0, i, n, M, w, p, h, hn, htx, hfl, ho, hw, hlen, hpl => by
    obtain ⟨n, rfl⟩ : ∃ n', n = n' + 1 := ⟨n - 1, by omega⟩
    have hi : i = len := by omega
    subst hi
    rw [F_Plain_collect_p5, if_pos (nI_le (Nat.le_refl _) (by omega))]
    exact ⟨M, rfl, fun _ _ _ => rfl, hpl⟩
  | k + 1, i, n, M, w, p, h, hn, htx, hfl, ho, hw, hlen, hpl => by
    obtain ⟨n, rfl⟩ : ∃ n', n = n' + 1 := ⟨n - 1, by omega⟩
    obtain ⟨htt, hm1⟩ := htx i (by omega)
    obtain ⟨W, hW⟩ : ∃ W, W = w ++ pdW tx len i p := ⟨_, rfl⟩
    rw [← hW] at hlen hpl
    have hWt : ∀ t ∈ W, t < 174 := by
      intro t ht
      rw [hW] at ht
      rcases List.mem_append.mp ht with z | z
      · exact hw t z
      · unfold pdW at z
        split at z
        · simp at z; omega
        · simp at z
    -- the list that the class holds is as the state tells, where a semicolon stands
    have hWo : tx i = 121 → (p = 0 → ∃ t, W.getLast? = some t ∧ isOp t = true) ∧ (p ≠ 0 → ∀ t, W.getLast? = some t → isOp t = false) := by
      intro z
      have : pdW tx len i p = [] := by
        unfold pdW
        rw [show nxt tx len i = tx i from if_pos (by omega), z]
        simp [isSp, isEn]
      rw [hW, this, List.append_nil]
      exact ho.2
    have next : ∀ {M1 : zMem} {w1 : List Nat}, (∀ a, a ≠ 19 → a ≠ 20 → M1 a = M a) → plL M1 w1 → w1 = W ++ (if spare tx fl len i p = true then [] else [tx i]) → ∃ M', F_Plain_collect_p5 N n M1 (nI len) (nI (i + 1)) = some M' ∧ (∀ a, a ≠ 19 → a ≠ 20 → M' a = M a) ∧ plL M' (w ++ ((fdn tx fl (k + 1) i p).1 ++ pdW tx len len (fdn tx fl (k + 1) i p).2)) := by
      intro M1 w1 hM1 hp1 hw1
      have e1 : w1 = (w ++ (f1 p (tx i) (decide (¬ fl i = 0))).1) ++ pdW tx len (i + 1) (f1 p (tx i) (decide (¬ fl i = 0))).2 := by
        rw [hw1, hW, List.append_assoc, sp_step (by omega) ho.1, ← List.append_assoc]
      have hlen1 : w1.length ≤ i + 1 := by
        rw [hw1, List.length_append]
        split
        · simp; omega
        · simp; omega
      have hf1t : ∀ t ∈ (f1 p (tx i) (decide (¬ fl i = 0))).1, t < 174 := by
        intro t ht
        have : t ∈ w1 := by
          rw [e1]
          exact List.mem_append_left _ (List.mem_append_right _ ht)
        rw [hw1] at this
        rcases List.mem_append.mp this with z | z
        · exact hWt t z
        · split at z
          · simp at z
          · simp at z; omega
      rw [e1] at hp1 hlen1
      obtain ⟨M', e2, a1, a2⟩ := cCollect (N := N) hl k (i + 1) n M1 (w ++ (f1 p (tx i) (decide (¬ fl i = 0))).1) (f1 p (tx i) (decide (¬ fl i = 0))).2 (by omega) (by omega) (fun j hj => by rw [hM1 1 (by omega) (by omega)]; exact htx j hj) (by rw [hM1 21 (by omega) (by omega)]; exact hfl) (f1_ok ho) (fun t ht => by
        rcases List.mem_append.mp ht with z | z
        · exact hw t z
        · exact hf1t t z) hlen1 hp1
      refine ⟨M', e2, fun a z1 z2 => (a1 a z1 z2).trans (hM1 a z1 z2), ?_⟩
      have e3 : (w ++ (f1 p (tx i) (decide (¬ fl i = 0))).1) ++ ((fdn tx fl k (i + 1) (f1 p (tx i) (decide (¬ fl i = 0))).2).1 ++ pdW tx len len (fdn tx fl k (i + 1) (f1 p (tx i) (decide (¬ fl i = 0))).2).2) = w ++ ((fdn tx fl (k + 1) i p).1 ++ pdW tx len len (fdn tx fl (k + 1) i p).2) := by
        simp only [fdn, List.append_assoc]
      rw [← e3]
      exact a2
    have p31 : spare tx fl len i p = true → ∃ M', F_Plain_collect_p31 N (F_Plain_collect_p5 N n) M (nI len) (nI i) = some M' ∧ (∀ a, a ≠ 19 → a ≠ 20 → M' a = M a) ∧ plL M' (w ++ ((fdn tx fl (k + 1) i p).1 ++ pdW tx len len (fdn tx fl (k + 1) i p).2)) := by
      intro hs
      unfold F_Plain_collect_p31 F_Plain_collect_p34 F_Plain_collect_p57
      rw [if_neg (by decide), nI_1]
      exact next (fun _ _ _ => rfl) hpl (by rw [if_pos hs, List.append_nil])
    have p33 : ¬ spare tx fl len i p = true → ∃ M', F_Plain_collect_p33 N (F_Plain_collect_p5 N n) M (nI len) (nI i) = some M' ∧ (∀ a, a ≠ 19 → a ≠ 20 → M' a = M a) ∧ plL M' (w ++ ((fdn tx fl (k + 1) i p).1 ++ pdW tx len len (fdn tx fl (k + 1) i p).2)) := by
      intro hs
      unfold F_Plain_collect_p33 F_Plain_collect_p34 F_Plain_collect_p57
      have e19 : ∀ v, zup M 20 W.length v 19 1 = nI W.length := fun v => by rw [zup_ne (by omega)]; exact hpl.1
      rw [if_pos rfl, hpl.1, if_neg (show ¬ (150 : Int32) ≤ nI W.length from nI_ge (b := 150) (by omega) (by omega)), zix_nI _ (by omega) (by omega), zix_nI _ (by omega) (by omega), zset_eq, nI_clamp (by omega), nI_clamp (by omega), hm1, zset_eq, e19, nI_1, nI_1]
      refine next (fun a z1 z2 => by rw [zup_ne z1, zup_ne z2]) ⟨?_, fun j hj => ?_⟩ (by rw [if_neg hs])
      · rw [zup_self, pk_us]; simp
      · rw [zup_ne (by omega), zup_self]
        by_cases z : j = W.length
        · subst z
          rw [pk_us]
          simp
        · have : j < W.length := by simp at hj; omega
          rw [pk_un z, List.getElem_append_left this]
          exact hpl.2 j this
    rw [F_Plain_collect_p5, if_neg (nI_ge (by omega) (by omega)), if_neg (show ¬ (150 : Int32) ≤ nI i from nI_ge (b := 150) (by omega) (by omega)), if_neg (show ¬ (150 : Int32) ≤ nI i from nI_ge (b := 150) (by omega) (by omega)), zix_nI _ (by omega) (by omega), zix_nI _ (by omega) (by omega), nI_clamp (by omega), hfl, hm1]
    by_cases c1 : fl i = 0
    · rw [if_pos c1]
      by_cases c2 : tx i = 121
      · rw [if_pos (show nI (tx i) = (121 : Int32) by rw [c2]; rfl), cBeside hl htx (by omega) hpl (by omega) hWt ho.1 (hWo c2), zbi_some]
        have hsp : spare tx fl len i p = (p == 0 || isSp (nxt tx len (i + 1))) := by simp [spare, c1, c2]
        cases hs : (p == 0 || isSp (nxt tx len (i + 1))) with
        | true => rw [if_neg (by decide)]; exact p31 (by rw [hsp]; exact hs)
        | false => rw [if_pos (show b2i false = 0 from rfl)]; exact p33 (by rw [hsp, hs]; decide)
      · rw [if_neg (show ¬ nI (tx i) = (121 : Int32) from nIne (c := 121) (by omega) (by omega) c2)]
        exact p33 (by simp [spare, c1, c2])
    · rw [if_neg c1]
      exact p31 (by simp [spare, c1])
end CO
