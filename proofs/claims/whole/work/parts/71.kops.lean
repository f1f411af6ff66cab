/-! K: operands of the plain form, calls, operators -/
section KP
variable {M M' : zMem} {pd pd' : List zPd} {c c' : zC} {os os' : List zOs} {fl fl' : Nat → Int32} {cl cl' : (Nat → Int32) × (Nat → Int32)} {ow : Int32}
def kPushF (_ : List zOs) : List zOs := [(3, -1, -1)]
def kLevel (l : Int32) : List zOs → List zOs
  | [] => []
  | (_, a, b) :: r => (l, a, b) :: r
def kPut (a b : Int32) : List zOs → List zOs
  | [] => []
  | (l, _, _) :: r => (l, a, b) :: r
def kJo : List zOs → List zOs
  | [] => []
  | (l, _, b) :: r => (l, -1, b) :: r
def kJf (m : Int32) (fl : Nat → Int32) : List zOs → (Nat → Int32)
  | [] => fl
  | (l, a, b) :: _ => if l < m ∨ a < 0 ∨ 150 ≤ a ∨ b < 0 ∨ 150 ≤ b then fl else upd (upd fl a.toNatClampNeg 1) b.toNatClampNeg 1
def kOut (x : Int32) (fl : Nat → Int32) : Nat → Int32 := if x < 0 ∨ 150 ≤ x then fl else upd fl x.toNatClampNeg 1
theorem ix_cases (x : Int32) {n : Nat} (hn : n < 2 ^ 31) : x < 0 ∨ (¬ x < 0 ∧ nI n ≤ x) ∨ ∃ j : Nat, j < n ∧ x = nI j := by
  rcases pk_ix x hn with q | q | q
  · exact Or.inl q
  · refine Or.inr (Or.inl ⟨fun z => ?_, q⟩)
    rw [Int32.lt_iff_toInt_lt] at z
    rw [Int32.le_iff_toInt_le, nI_toInt hn] at q
    have : (0 : Int32).toInt = 0 := by decide
    omega
  · exact Or.inr (Or.inr q)
theorem cPushF (h : cK M (pd, c, os, fl, cl, ow)) : cV M (F_Plain_beginOperand M) (pd, c, kPushF os, fl, cl, ow) := by
  have g4 : M 21 = fl := h.2.2.2.1
  unfold F_Plain_beginOperand kPushF
  rw [zset_eq, zset_eq, zset_eq]
  exact ⟨_, rfl, cK_o h (fun a p1 p2 p3 p4 p5 => by rw [zup_ne p1, zup_ne p1, zup_ne p1]) (by simp [zup_ap]) ⟨rfl, by simp [zup_ap], by simp [zup_ap], by simp [zup_ap]⟩ (by rw [zup_ne (by omega), zup_ne (by omega), zup_ne (by omega)]; exact g4)⟩
/-- the operand is asked for no more -/
theorem cK_tl (h : cK M (pd, c, os, fl, cl, ow)) : cK M (pd, c, os.tail, fl, cl, ow) := by
  have g : cOS M os := h.2.2.1
  refine ⟨h.1, h.2.1, ?_, h.2.2.2⟩
  show cOS M os.tail
  cases os with
  | nil => trivial
  | cons p r =>
    obtain ⟨l, a, b⟩ := p
    obtain ⟨rfl, -⟩ := g
    trivial
theorem cLevel (h : cK M (pd, c, os, fl, cl, ow)) (l : Int32) : cV M (F_Plain_becomeLevel M l) (pd, c, kLevel l os, fl, cl, ow) := by
  have g3 : cOS M os := h.2.2.1
  have g4 : M 21 = fl := h.2.2.2.1
  unfold F_Plain_becomeLevel
  rw [zset_eq]
  refine ⟨_, rfl, cK_o h (fun a p1 p2 p3 p4 p5 => zup_ne p1) (by simp [zup_ap]) ?_ (by rw [zup_ne (by omega)]; exact g4)⟩
  cases os with
  | nil => trivial
  | cons p r =>
    obtain ⟨l0, a, b⟩ := p
    obtain ⟨f0, f1, f2, f3⟩ := g3
    exact ⟨f0, by simp [zup_ap], by simp [zup_ap]; exact f2, by simp [zup_ap]; exact f3⟩
theorem cPut (h : cK M (pd, c, os, fl, cl, ow)) (x y : Int32) : cV M (F_Plain_putInBrackets M x y) (pd, c, kPut x y os, fl, cl, ow) := by
  have g3 : cOS M os := h.2.2.1
  have g4 : M 21 = fl := h.2.2.2.1
  unfold F_Plain_putInBrackets
  rw [zset_eq, zset_eq]
  refine ⟨_, rfl, cK_o h (fun a p1 p2 p3 p4 p5 => by rw [zup_ne p1, zup_ne p1]) (by simp [zup_ap]) ?_ (by rw [zup_ne (by omega), zup_ne (by omega)]; exact g4)⟩
  cases os with
  | nil => trivial
  | cons p r =>
    obtain ⟨l0, a, b⟩ := p
    obtain ⟨f0, f1, f2, f3⟩ := g3
    exact ⟨f0, by simp [zup_ap]; exact f1, by simp [zup_ap], by simp [zup_ap]⟩
theorem cOut (h : cK M (pd, c, os, fl, cl, ow)) (x : Int32) : cV M (F_Plain_leaveOut M x) (pd, c, os, kOut x fl, cl, ow) := by
  have g4 : M 21 = fl := h.2.2.2.1
  unfold F_Plain_leaveOut kOut
  rcases ix_cases x (n := 150) (by omega) with q | ⟨q0, q⟩ | ⟨j, hj, rfl⟩
  · rw [if_pos q, if_pos (Or.inl q)]; exact cV_s h
  · have q : (150 : Int32) ≤ x := q
    rw [if_neg q0, if_pos q, if_pos (Or.inr q)]; exact cV_s h
  · have p0 : ¬ nI j < 0 := nI_pos (by omega)
    have p1 : ¬ (150 : Int32) ≤ nI j := nI_ge (b := 150) hj (by omega)
    have p2 : ¬ (nI j < 0 ∨ (150 : Int32) ≤ nI j) := fun z => z.elim p0 p1
    rw [if_neg p0, if_neg p1, if_neg p2, zix_nI _ hj (by omega), zset_eq, nI_clamp (by omega)]
    exact ⟨_, rfl, cK_o h (fun a p1 p2 p3 p4 p5 => zup_ne p2) (by rw [zup_ne (by omega)]) (cOS_k (by rw [zup_ne (by omega)]) (fun a _ _ => zup_ne (by omega)) h.2.2.1) (by rw [zup_self, g4])⟩
theorem cJudge (h : cK M (pd, c, os, fl, cl, ow)) (hn : os ≠ []) (m : Int32) : cV M (F_Plain_judgeBrackets M m) (pd, c, kJo os, kJf m fl os, cl, ow) := by
  have g3 : cOS M os := h.2.2.1
  have g4 : M 21 = fl := h.2.2.2.1
  unfold F_Plain_judgeBrackets
  cases os with
  | nil => exact absurd rfl hn
  | cons p r =>
    obtain ⟨l0, a, b⟩ := p
    obtain ⟨f0, f1, f2, f3⟩ := g3
    rw [f1, f2, f3]
    have fin : ∀ {M1 : zMem} {fl1 : Nat → Int32}, (∀ a, a ≠ 21 → M1 a = M a) → M1 21 = fl1 → cV M (F_Plain_judgeBrackets_p34 M1) (pd, c, (l0, -1, b) :: r, fl1, cl, ow) := by
      intro M1 fl1 hs hf
      have e19 : M1 19 = M 19 := hs 19 (by omega)
      unfold F_Plain_judgeBrackets_p34
      rw [zset_eq]
      exact ⟨_, rfl, cK_o h (fun a p1 p2 p3 p4 p5 => by rw [zup_ne p1, hs a p2]) (by simp [zup_ap, e19]) ⟨f0, by simp [zup_ap, e19]; exact f1, by simp [zup_ap], by simp [zup_ap, e19]; exact f3⟩ (by rw [zup_ne (by omega)]; exact hf)⟩
    have fin0 := fin (M1 := M) (fl1 := fl) (fun _ _ => rfl) g4
    show cV M _ (pd, c, (l0, -1, b) :: r, (if l0 < m ∨ a < 0 ∨ 150 ≤ a ∨ b < 0 ∨ 150 ≤ b then fl else upd (upd fl a.toNatClampNeg 1) b.toNatClampNeg 1), cl, ow)
    by_cases c1 : l0 < m
    · rw [if_pos c1, if_pos (Or.inl c1)]; exact fin0
    · rw [if_neg c1]
      rcases ix_cases a (n := 150) (by omega) with q | ⟨q0, q⟩ | ⟨j, hj, rfl⟩
      · rw [if_pos q, if_pos (Or.inr (Or.inl q))]; exact fin0
      · have q : (150 : Int32) ≤ a := q
        rw [if_neg q0, if_pos q, if_pos (Or.inr (Or.inr (Or.inl q)))]; exact fin0
      · have p0 : ¬ nI j < 0 := nI_pos (by omega)
        have p1 : ¬ (150 : Int32) ≤ nI j := nI_ge (b := 150) hj (by omega)
        rw [if_neg p0, if_neg p1]
        rcases ix_cases b (n := 150) (by omega) with q | ⟨q0, q⟩ | ⟨i, hi, rfl⟩
        · rw [if_pos q, if_pos (Or.inr (Or.inr (Or.inr (Or.inl q))))]; exact fin0
        · have q : (150 : Int32) ≤ b := q
          rw [if_neg q0, if_pos q, if_pos (Or.inr (Or.inr (Or.inr (Or.inr q))))]; exact fin0
        · have p2 : ¬ nI i < 0 := nI_pos (by omega)
          have p3 : ¬ (150 : Int32) ≤ nI i := nI_ge (b := 150) hi (by omega)
          have p4 : ¬ (l0 < m ∨ nI j < 0 ∨ (150 : Int32) ≤ nI j ∨ nI i < 0 ∨ (150 : Int32) ≤ nI i) := fun z => z.elim c1 fun z => z.elim p0 fun z => z.elim p1 fun z => z.elim p2 p3
          have e5 : zup M 21 j 1 19 5 = nI i := by rw [zup_ne (by omega)]; exact f3
          rw [if_neg p2, if_neg p3, if_neg p4, zix_nI _ hj (by omega), zset_eq, nI_clamp (by omega), e5, zix_nI _ hi (by omega), zset_eq, nI_clamp (by omega)]
          exact fin (fun a ha => by rw [zup_ne ha, zup_ne ha]) (by rw [zup_self, zup_self, g4])
/-! calls -/
def kBegC (p x : Int32) (cl : (Nat → Int32) × (Nat → Int32)) : (Nat → Int32) × (Nat → Int32) := if x < 0 ∨ 150 ≤ x then cl else (upd cl.1 x.toNatClampNeg p, upd cl.2 x.toNatClampNeg 0)
def kArg (x : Int32) (cl : (Nat → Int32) × (Nat → Int32)) : (Nat → Int32) × (Nat → Int32) := if x < 0 ∨ 150 ≤ x then cl else (cl.1, upd cl.2 x.toNatClampNeg (cl.2 x.toNatClampNeg + 1))
def kCallee (x : Int32) (cl : (Nat → Int32) × (Nat → Int32)) : Int32 := if x < 0 ∨ 150 ≤ x then -1 else cl.1 x.toNatClampNeg
theorem cBegC (h : cK M (pd, c, os, fl, cl, ow)) (p x : Int32) : cV M (F_Proc_beginCall M p x) (pd, c, os, fl, kBegC p x cl, ow) := by
  have g1 : M 12 = cl.1 := h.2.2.2.2.1.1
  have g2 : M 13 = cl.2 := h.2.2.2.2.1.2
  unfold F_Proc_beginCall kBegC
  rcases ix_cases x (n := 150) (by omega) with q | ⟨q0, q⟩ | ⟨j, hj, rfl⟩
  · rw [if_pos q, if_pos (Or.inl q)]; exact cV_s h
  · have q : (150 : Int32) ≤ x := q
    rw [if_neg q0, if_pos q, if_pos (Or.inr q)]; exact cV_s h
  · have p0 : ¬ nI j < 0 := nI_pos (by omega)
    have p1 : ¬ (150 : Int32) ≤ nI j := nI_ge (b := 150) hj (by omega)
    have p2 : ¬ (nI j < 0 ∨ (150 : Int32) ≤ nI j) := fun z => z.elim p0 p1
    rw [if_neg p0, if_neg p1, if_neg p2, zix_nI _ hj (by omega), zset_eq, zix_nI _ hj (by omega), zset_eq, nI_clamp (by omega)]
    exact ⟨_, rfl, cK_l h (fun a p1 p2 => by rw [zup_ne p2, zup_ne p1]) (by rw [zup_ne (by omega), zup_self, g1]) (by rw [zup_self, zup_ne (by omega), g2])⟩
theorem cArg (h : cK M (pd, c, os, fl, cl, ow)) (x : Int32) : cV M (F_Proc_addArgument M x) (pd, c, os, fl, kArg x cl, ow) := by
  have g1 : M 12 = cl.1 := h.2.2.2.2.1.1
  have g2 : M 13 = cl.2 := h.2.2.2.2.1.2
  unfold F_Proc_addArgument kArg
  rcases ix_cases x (n := 150) (by omega) with q | ⟨q0, q⟩ | ⟨j, hj, rfl⟩
  · rw [if_pos q, if_pos (Or.inl q)]; exact cV_s h
  · have q : (150 : Int32) ≤ x := q
    rw [if_neg q0, if_pos q, if_pos (Or.inr q)]; exact cV_s h
  · have p0 : ¬ nI j < 0 := nI_pos (by omega)
    have p1 : ¬ (150 : Int32) ≤ nI j := nI_ge (b := 150) hj (by omega)
    have p2 : ¬ (nI j < 0 ∨ (150 : Int32) ≤ nI j) := fun z => z.elim p0 p1
    rw [if_neg p0, if_neg p1, if_neg p2, zix_nI _ hj (by omega), zix_nI _ hj (by omega), zset_eq, nI_clamp (by omega)]
    exact ⟨_, rfl, cK_l h (fun a p1 p2 => zup_ne p2) (by rw [zup_ne (by omega), g1]) (by rw [zup_self, g2])⟩
theorem cCallee (h : cK M (pd, c, os, fl, cl, ow)) (x : Int32) : cD M (F_Proc_callee M x) (kCallee x cl) (pd, c, os, fl, cl, ow) := by
  have g1 : M 12 = cl.1 := h.2.2.2.2.1.1
  unfold F_Proc_callee kCallee
  rcases ix_cases x (n := 150) (by omega) with q | ⟨q0, q⟩ | ⟨j, hj, rfl⟩
  · rw [if_pos q, if_pos (Or.inl q)]; exact cD_s h
  · have q : (150 : Int32) ≤ x := q
    rw [if_neg q0, if_pos q, if_pos (Or.inr q)]; exact cD_s h
  · have p0 : ¬ nI j < 0 := nI_pos (by omega)
    have p1 : ¬ (150 : Int32) ≤ nI j := nI_ge (b := 150) hj (by omega)
    have p2 : ¬ (nI j < 0 ∨ (150 : Int32) ≤ nI j) := fun z => z.elim p0 p1
    rw [if_neg p0, if_neg p1, if_neg p2, zix_nI _ hj (by omega), g1]
    exact cD_s h
/-! operators -/
def kOfOp (o : Int32) : Int32 := if o < 140 ∨ 145 < o then (if o = 130 ∨ o = 131 ∨ o = 151 then 1 else if 132 ≤ o ∧ o ≤ 134 ∨ o = 150 then 2 else -1) else 0
def kLv (o : Int32) : Int32 := if o = 9 then 3 else if o = 8 then 1 else kOfOp o
theorem cOfOp (h : cK M (pd, c, os, fl, cl, ow)) (o : Int32) : cD M (F_Level_ofOperator M o) (kOfOp o) (pd, c, os, fl, cl, ow) := by
  refine ⟨M, ?_, h, cKeep.refl M⟩
  have p8 : F_Level_ofOperator_p8 M o = some ((if o = 130 ∨ o = 131 ∨ o = 151 then 1 else if 132 ≤ o ∧ o ≤ 134 ∨ o = 150 then 2 else -1), M) := by
    unfold F_Level_ofOperator_p8 F_Level_ofOperator_p25
    by_cases c1 : o = 130
    · simp [c1]
    · by_cases c2 : o = 131
      · simp [c2]
      · by_cases c3 : o = 151
        · simp [c3]
        · by_cases c6 : o = 150
          · subst c6; rfl
          · by_cases c4 : o < 132
            · have := i32_lt_nle c4
              simp [c1, c2, c3, c4, c6, this]
            · have c4' := i32_nlt c4
              by_cases c5 : o ≤ 134
              · simp [c1, c2, c3, c4, c5, c4']
              · simp [c1, c2, c3, c4, c5, c6]
  unfold F_Level_ofOperator kOfOp
  rw [p8]
  by_cases c1 : o < 140
  · rw [if_pos c1, if_pos (Or.inl c1)]
  · by_cases c2 : (145 : Int32) < o
    · rw [if_neg c1, if_pos c2, if_pos (Or.inr c2)]
    · rw [if_neg c1, if_neg c2, if_neg (fun z => Or.elim z c1 c2)]
theorem cLevelOf (h : cK M (pd, c, os, fl, cl, ow)) (o : Int32) : cD M (F_Expr_levelOf M o) (kLv o) (pd, c, os, fl, cl, ow) := by
  unfold F_Expr_levelOf kLv
  by_cases c1 : o = 9
  · rw [if_pos c1, if_pos c1]; exact cD_s h
  · rw [if_neg c1, if_neg c1]
    by_cases c2 : o = 8
    · rw [if_pos c2, if_pos c2]; exact cD_s h
    · rw [if_neg c2, if_neg c2]; exact cD_ret (cOfOp h o)
/-- an operator ends: o its operation, l its level, s the instruction that may skip -/
def kEO1 (_o l : Int32) (os : List zOs) : List zOs := kLevel l (kJo os)
def kEO2 (o l : Int32) (fl : Nat → Int32) (os : List zOs) : Nat → Int32 := kJf (if o = 9 then 3 else l + 1) fl os
def kEO3 (o s : Int32) (c : zC) : zC := if s = -1 then kEmit o 0 c else kLead s (kEmit 10 0 c)
theorem kEO1_ne {o l : Int32} {os : List zOs} (h : os ≠ []) : kEO1 o l os ≠ [] := by
  cases os with
  | nil => exact absurd rfl h
  | cons p r =>
    obtain ⟨a, b, c⟩ := p
    simp [kEO1, kJo, kLevel]
theorem cEndOp (h : cK M (pd, c, os, fl, cl, ow)) (hn : os ≠ []) (o l s : Int32) : cV M (F_Expr_endOperator M o l s) (pd, kEO3 o s c, kEO1 o l os, kEO2 o l fl os, cl, ow) := by
  have p10 : ∀ m : Int32, cV M (F_Expr_endOperator_p10 M o l s m) (pd, kEO3 o s c, kEO1 o l os, kJf m fl os, cl, ow) := by
    intro m
    unfold F_Expr_endOperator_p10 kEO3 kEO1
    refine cV_v (cJudge h hn m) fun M1 h1 => cV_v (cLevel h1 l) fun M2 h2 => ?_
    by_cases c1 : s = -1
    · rw [if_pos c1, if_pos c1]
      exact cD_v (cEmit h2 o 0) fun M3 h3 => cV_s h3
    · rw [if_neg c1, if_neg c1]
      exact cD_v (cEmit h2 10 0) fun M3 h3 => cV_v (cLead h3 s) fun M4 h4 => cV_s h4
  unfold F_Expr_endOperator kEO2
  by_cases c1 : o = 9
  · rw [if_pos c1, if_pos c1]; exact p10 3
  · rw [if_neg c1, if_neg c1]; exact p10 (l + 1)
/-- pending operators of at least this level end -/
def kOps : Nat → Int32 → zKK → zKK
  | 0, _, K => K
  | n + 1, m, ((k, o, s) :: r, c, os, fl, cl, ow) => if k = 1 ∧ m ≤ kLv o then kOps n m (r, kEO3 o s c, kEO1 o (kLv o) os, kEO2 o (kLv o) fl os, cl, ow) else ((k, o, s) :: r, c, os, fl, cl, ow)
  | _ + 1, _, ([], c, os, fl, cl, ow) => ([], c, os, fl, cl, ow)
theorem kOps_ne : ∀ (n : Nat) (m : Int32) (K : zKK), K.2.2.1 ≠ [] → (kOps n m K).2.2.1 ≠ []
  | 0, m, K, h => h
  | n + 1, m, ([], c, os, fl, cl, ow), h => h
  | n + 1, m, ((k, o, s) :: r, c, os, fl, cl, ow), h => by
    have h : os ≠ [] := h
    show (if k = 1 ∧ m ≤ kLv o then kOps n m (r, kEO3 o s c, kEO1 o (kLv o) os, kEO2 o (kLv o) fl os, cl, ow) else ((k, o, s) :: r, c, os, fl, cl, ow)).2.2.1 ≠ []
    split
    · exact kOps_ne n m _ (kEO1_ne (o := o) h)
    · exact h
theorem cOps (N : Nat) : ∀ (n i : Nat) {M : zMem} {K : zKK} (m : Int32), i + n = 150 → cK M K → K.2.2.1 ≠ [] → ∀ f, n < f → cV M (F_Expr_endOperators_p2 N f M m (nI i)) (kOps n m K)
  | 0, i, M, K, m, hi, h, hne, f, hf => by
    obtain ⟨f, rfl⟩ : ∃ f', f = f' + 1 := ⟨f - 1, by omega⟩
    rw [F_Expr_endOperators_p2, if_pos (show (150 : Int32) ≤ nI i from nI_le (a := 150) (by omega) (by omega))]
    exact cV_s h
  | n + 1, i, M, (pd, c, os, fl, cl, ow), m, hi, h, hne, f, hf => by
    obtain ⟨f, rfl⟩ : ∃ f', f = f' + 1 := ⟨f - 1, by omega⟩
    rw [F_Expr_endOperators_p2, if_neg (show ¬ (150 : Int32) ≤ nI i from nI_ge (b := 150) (by omega) (by omega))]
    refine cD_v (cKind h).1 fun M1 h1 => ?_
    cases pd with
    | nil =>
      rw [if_neg (by decide)]
      exact cV_s h1
    | cons p r =>
      obtain ⟨k, o, s⟩ := p
      have hk : k < 100 := h.1.2.2.2.2.2.1
      show cV M1 (if nI k = 1 then _ else _) (if k = 1 ∧ m ≤ kLv o then _ else _)
      by_cases c1 : k = 1
      · rw [if_pos (by rw [c1]; rfl)]
        refine cD_v (cKind h1).2.1 fun M2 h2 => cD_v (cLevelOf h2 o) fun M3 h3 => ?_
        by_cases c2 : m ≤ kLv o
        · rw [if_pos c2, if_pos ⟨c1, c2⟩]
          refine cD_v (cKind h3).2.2 fun M4 h4 => cV_v (cPop h4) fun M5 h5 => cV_v (cEndOp h5 hne o (kLv o) s) fun M6 h6 => ?_
          rw [nI_1]
          exact cOps N n (i + 1) m (by omega) h6 (kEO1_ne (o := o) hne) f (by omega)
        · rw [if_neg c2, if_neg (fun z => c2 z.2)]
          exact cV_s h3
      · have c3 : ¬ nI k = (1 : Int32) := fun z => c1 (nI_inj (b := 1) (by omega) (by omega) z)
        rw [if_neg c3, if_neg (fun z => c1 z.1)]
        exact cV_s h1
theorem cEndOps {N : Nat} (hN : 150 < N) {K : zKK} (h : cK M K) (hne : K.2.2.1 ≠ []) (m : Int32) : cV M (F_Expr_endOperators N M m) (kOps 150 m K) := cOps N 150 0 m (by omega) h hne N hN
end KP
