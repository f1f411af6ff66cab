/-! K: what a token does. The next state: a number, 99 if the token is refused -/
def nxI (n : Nat) : Int32 := if n = 99 then -1 else nI n
def kOwn (ow : Int32) (x : Nat) : Bool := decide (¬ ((ow >>> (nI x &&& 31)) &&& 1) = 0)
def kFac (t : Nat) (x : Int32) : zKK → Nat × zKK
  | (pd, c, os, fl, cl, ow) =>
    if t < 100 then (23, pd, kEmit 1 (nI t) c, kPushF os, fl, cl, ow)
    else if isName t = true then (23, pd, kEmit (if kOwn ow (t - 100) = true then 3 else 2) (nI (t - 100)) c, kPushF os, fl, cl, ow)
    else if isProcName t = true then (17, kPush 4 x 0 pd, c, os, fl, kBegC (nI (t - 110)) x cl, ow)
    else if t = 108 then (15, kPush 3 0 0 pd, c, os, fl, cl, ow)
    else if t = 122 then (21, kPush 2 x 0 pd, c, os, fl, cl, ow)
    else if t = 152 then (22, kPush 1 9 (-1) pd, c, os, fl, cl, ow)
    else (99, pd, c, os, fl, cl, ow)
def kExp (t : Nat) (x : Int32) : zKK → Nat × zKK
  | (pd, c, os, fl, cl, ow) => if t = 130 then (22, pd, c, os, kOut x fl, cl, ow) else if t = 131 then (22, kPush 1 8 (-1) pd, c, os, fl, cl, ow) else kFac t x (pd, c, os, fl, cl, ow)
def kOper2 (t : Nat) (l m : Int32) : zKK → Nat × zKK
  | (pd, c, os, fl, cl, ow) => if l = 0 ∧ (kHd pd).1 = 1 then (99, pd, c, os, fl, cl, ow) else
      (if l = 0 then 21 else 22, kPush 1 (nI t) (if t = 150 ∨ t = 151 then kAd c else -1) pd, (if t = 150 then kEmit 22 0 c else if t = 151 then kEmit 23 0 c else c), (kJo os).tail, kJf m fl os, cl, ow)
def kOper (t : Nat) (K : zKK) : Nat × zKK := kOper2 t (kOfOp (nI t)) (if kOfOp (nI t) < 1 then 1 else kOfOp (nI t)) (kOps 150 (if kOfOp (nI t) < 1 then 1 else kOfOp (nI t)) K)
def kEnd2 : zKK → Nat × zKK
  | (pd, c, os, fl, cl, ow) =>
    if (kHd pd).1 = 2 then (20, pd, c, kJo os, kJf 0 fl os, cl, ow)
    else if (kHd pd).1 = 3 then (16, pd, c, (kJo os).tail, kJf 0 fl os, cl, ow)
    else if (kHd pd).1 = 4 then (19, pd, c, (kJo os).tail, kJf 0 fl os, kArg (kHd pd).2.1 cl, ow)
    else if (kHd pd).1 = 5 then (19, pd, c, (kJo os).tail, kJf 0 fl os, kArg (kHd pd).2.1 cl, ow)
    else if (kHd pd).1 = 6 then (12, pd, c, (kJo os).tail, kJf 0 fl os, cl, ow)
    else if (kHd pd).1 = 8 then (13, pd, c, (kJo os).tail, kJf 0 fl os, cl, ow)
    else if (kHd pd).1 = 11 then (14, pd, c, (kJo os).tail, kJf 0 fl os, cl, ow)
    else (10, pd.tail, kEmit (kHd pd).2.1 (kHd pd).2.2 c, (kJo os).tail, kJf 0 fl os, cl, ow)
def kEnd (K : zKK) : Nat × zKK := kEnd2 (kOps 150 0 K)
def kEndCall : zKK → Nat × zKK
  | (pd, c, os, fl, cl, ow) => if (kHd pd).1 = 4 then (23, pd.tail, kEmit 25 (kCallee (kHd pd).2.1 cl) c, kPushF os, fl, cl, ow) else (10, pd.tail, kEmit 11 0 (kEmit 25 (kCallee (kHd pd).2.1 cl) c), os, fl, cl, ow)
def kStB (t : Nat) (x : Int32) : zKK → Nat × zKK
  | (pd, c, os, fl, cl, ow) =>
    if isName t = true then (11, kPush 7 (if kOwn ow (t - 100) = true then 6 else 5) (nI (t - 100)) pd, c, os, fl, cl, ow)
    else if isProcName t = true then (17, kPush 5 x 0 pd, c, os, fl, kBegC (nI (t - 110)) x cl, ow)
    else if t = 108 then (15, kPush 6 0 0 pd, c, os, fl, cl, ow)
    else if t = 160 then (21, kPush 11 (-1) 0 pd, c, os, fl, cl, ow)
    else if t = 164 then (21, kPush 8 (nI c.1) 0 pd, c, os, fl, cl, ow)
    else if t = 166 then (9, kPush 10 (nI c.1) 0 pd, kEmit 24 0 c, os, fl, cl, ow)
    else if t = 168 then (21, kPush 7 26 0 pd, c, os, fl, cl, ow)
    else if t = 169 then (21, kPush 7 12 0 pd, c, os, fl, cl, ow)
    else (99, pd, c, os, fl, cl, ow)
def kStE (t : Nat) : zKK → Nat × zKK
  | (pd, c, os, fl, cl, ow) =>
    if t = 121 then (9, pd, c, os, fl, cl, ow)
    else if (kHd pd).1 = 9 then (if t = 163 then (10, pd.tail, kLead (kHd pd).2.2 (kEmit 20 (kHd pd).2.1 c), os, fl, cl, ow) else (99, pd, c, os, fl, cl, ow))
    else if (kHd pd).1 = 10 then (if t = 167 then (21, kPush 7 21 (kHd pd).2.1 pd.tail, c, os, fl, cl, ow) else (99, pd, c, os, fl, cl, ow))
    else if (kHd pd).1 = 11 then (99, pd, c, os, fl, cl, ow)
    else if (kHd pd).1 = 12 then
      (if t = 163 then (10, pd.tail, kChain 300 (kHd pd).2.1 (kLead (kHd pd).2.2 c), os, fl, cl, ow)
       else if t = 173 then (21, kPush 11 (kAd c) 0 pd.tail, kLead (kHd pd).2.2 (kEmit 20 (kHd pd).2.1 c), os, fl, cl, ow)
       else if t = 162 then (9, kPush 13 (kAd c) 0 pd.tail, kLead (kHd pd).2.2 (kEmit 20 (kHd pd).2.1 c), os, fl, cl, ow)
       else (99, pd, c, os, fl, cl, ow))
    else if (kHd pd).1 = 13 then (if t = 163 then (10, pd.tail, kChain 300 (kHd pd).2.1 c, os, fl, cl, ow) else (99, pd, c, os, fl, cl, ow))
    else if (kHd pd).1 = 14 then (if t = 163 then (0, pd.tail, kEmit 26 0 (kEmit 1 0 c), os, fl, cl, ow) else (99, pd, c, os, fl, cl, ow))
    else if (kHd pd).1 = 15 then (if t = 163 then (24, pd.tail, kEmit 26 0 (kEmit 1 0 c), os, fl, cl, ow) else (99, pd, c, os, fl, cl, ow))
    else (99, pd, c, os, fl, cl, ow)
def kAcc (nx t : Nat) (x : Int32) : zKK → Nat × zKK
  | (pd, c, os, fl, cl, ow) =>
    if nx = 9 then (if begStmt t = true then kStB t x (pd, c, os, fl, cl, ow) else kStE t (pd, c, os, fl, cl, ow))
    else if nx = 10 then kStE t (pd, c, os, fl, cl, ow)
    else if nx = 11 then (if t = 120 then (21, pd, c, os, fl, cl, ow) else (99, pd, c, os, fl, cl, ow))
    else if nx = 12 then (if t = 126 then (11, kPush 7 7 0 pd.tail, c, os, fl, cl, ow) else (99, pd, c, os, fl, cl, ow))
    else if nx = 13 then (if t = 165 then (9, kPush 9 (kHd pd).2.1 (kAd c) pd.tail, kEmit 24 0 (kEmit 21 0 c), os, fl, cl, ow) else (99, pd, c, os, fl, cl, ow))
    else if nx = 14 then (if t = 161 then (9, kPush 12 (kHd pd).2.1 (kAd c) pd.tail, kEmit 21 0 c, os, fl, cl, ow) else (99, pd, c, os, fl, cl, ow))
    else if nx = 15 then (if t = 125 then (21, pd, c, os, fl, cl, ow) else (99, pd, c, os, fl, cl, ow))
    else if nx = 16 then (if t = 126 then (23, pd.tail, kEmit 4 0 c, kPushF os, fl, cl, ow) else (99, pd, c, os, fl, cl, ow))
    else if nx = 17 then (if t = 122 then (18, pd, c, os, fl, cl, ow) else (99, pd, c, os, fl, cl, ow))
    else if nx = 18 then (if t = 123 then kEndCall (pd, c, os, fl, cl, ow) else kExp t x (pd, c, os, fl, cl, ow))
    else if nx = 19 then (if t = 124 then (21, pd, c, os, fl, cl, ow) else if t = 123 then kEndCall (pd, c, os, fl, cl, ow) else (99, pd, c, os, fl, cl, ow))
    else if nx = 20 then (if t = 123 then (23, pd.tail, c, kPut (kHd pd).2.1 x os, fl, cl, ow) else (99, pd, c, os, fl, cl, ow))
    else if nx = 21 then kExp t x (pd, c, os, fl, cl, ow)
    else if nx = 22 then kFac t x (pd, c, os, fl, cl, ow)
    else if nx = 23 then kOper t (pd, c, os, fl, cl, ow)
    else (99, pd, c, os, fl, cl, ow)
def kTok (nx t : Nat) (x : Int32) (K : zKK) : Nat × zKK := if nx = 23 ∧ isBin t = false then kAcc (kEnd K).1 t x (kEnd K).2 else kAcc nx t x K
def cP (M : zMem) (f : Option (Int32 × zMem)) (p : Nat × zKK) : Prop := cD M f (nxI p.1) p.2
section KA
variable {M M' : zMem} {pd pd' : List zPd} {c c' : zC} {os os' : List zOs} {fl fl' : Nat → Int32} {cl cl' : (Nat → Int32) × (Nat → Int32)} {ow : Int32} {K : zKK} {t nx : Nat} {x : Int32}
theorem nIne {t c : Nat} (ht : t < 1000) (hc : c < 1000) (h : ¬ t = c) : ¬ nI t = nI c := fun z => h (nI_inj (by omega) (by omega) z)
theorem cP_t {a b : Option (Int32 × zMem)} {p q : Nat × zKK} {y : Int32} (ht : t < 1000) (n : Nat) (hy : y = nI n) (hn : n < 1000) (h1 : t = n → cP M a p) (h2 : ¬ t = n → cP M b q) : cP M (if nI t = y then a else b) (if t = n then p else q) := by
  subst hy
  by_cases h : t = n
  · rw [if_pos h, if_pos (by rw [h])]; exact h1 h
  · rw [if_neg h, if_neg (nIne ht hn h)]; exact h2 h
theorem cP_i {a b : Option (Int32 × zMem)} {p q : Nat × zKK} {g : Prop} [Decidable g] {y : Int32} (hg : g → ¬ y = 0) (hg' : ¬ g → y = 0) (h1 : g → cP M a p) (h2 : ¬ g → cP M b q) : cP M (if y = 0 then b else a) (if g then p else q) := by
  by_cases h : g
  · rw [if_pos h, if_neg (hg h)]; exact h1 h
  · rw [if_neg h, if_pos (hg' h)]; exact h2 h
theorem cP_ret {f : Option (Int32 × zMem)} {p : Nat × zKK} (h : cP M f p) : cP M (zbi f fun x M1 => some (x, M1)) p := cD_ret h
theorem cP_s {n : Nat} {y : Int32} (hy : y = nxI n) (h : cK M K) : cP M (some (y, M)) (n, K) := by subst hy; exact cD_s h
theorem cIsNum (h : cK M K) (ht : t < 1000) : cD M (F_Tok_isNumber M (nI t)) (b2i (decide (t < 100))) K := by
  refine ⟨M, ?_, h, cKeep.refl M⟩
  unfold F_Tok_isNumber b2i
  rw [if_neg (nI_pos (by omega))]
  by_cases q : t < 100
  · rw [if_neg (show ¬ (99 : Int32) < nI t from nI_nlt (a := 99) (by omega) (by omega))]; simp [q]
  · rw [if_pos (show (99 : Int32) < nI t from nI_lt (a := 99) (by omega) (by omega))]; simp [q]
theorem cIsName (h : cK M K) (ht : t < 1000) : cD M (F_Tok_isName M (nI t)) (b2i (isName t)) K := by
  refine ⟨M, ?_, h, cKeep.refl M⟩
  unfold F_Tok_isName b2i isName
  by_cases q1 : t < 100
  · rw [if_pos (show nI t < (100 : Int32) from nI_lt (b := 100) (by omega) (by omega))]; simp [show ¬ 100 ≤ t by omega]
  · rw [if_neg (show ¬ nI t < (100 : Int32) from nI_nlt (b := 100) (by omega) (by omega))]
    by_cases q2 : t ≤ 107
    · rw [if_neg (show ¬ (107 : Int32) < nI t from nI_nlt (a := 107) (by omega) (by omega))]; simp [q2, show 100 ≤ t by omega]
    · rw [if_pos (show (107 : Int32) < nI t from nI_lt (a := 107) (by omega) (by omega))]; simp [q2]
theorem cIsProc (h : cK M K) (ht : t < 1000) : cD M (F_Tok_isProcedure M (nI t)) (b2i (isProcName t)) K := by
  refine ⟨M, ?_, h, cKeep.refl M⟩
  unfold F_Tok_isProcedure b2i isProcName
  by_cases q1 : t < 110
  · rw [if_pos (show nI t < (110 : Int32) from nI_lt (b := 110) (by omega) (by omega))]; simp [show ¬ 110 ≤ t by omega]
  · rw [if_neg (show ¬ nI t < (110 : Int32) from nI_nlt (b := 110) (by omega) (by omega))]
    by_cases q2 : t ≤ 113
    · rw [if_neg (show ¬ (113 : Int32) < nI t from nI_nlt (a := 113) (by omega) (by omega))]; simp [q2, show 110 ≤ t by omega]
    · rw [if_pos (show (113 : Int32) < nI t from nI_lt (a := 113) (by omega) (by omega))]; simp [q2]
theorem b2i_p {b : Bool} (h : b = true) : ¬ b2i b = 0 := by subst h; decide
theorem b2i_n {b : Bool} (h : ¬ b = true) : b2i b = 0 := by cases b; rfl; exact absurd rfl h
theorem cOwn (h : cK M (pd, c, os, fl, cl, ow)) (n : Nat) : cD M (F_Proc_isOwn M (nI n)) (b2i (kOwn ow n)) (pd, c, os, fl, cl, ow) := by
  refine ⟨M, ?_, h, cKeep.refl M⟩
  have g : M 7 8 = ow := h.2.2.2.2.2
  unfold F_Proc_isOwn kOwn
  rw [g]
  by_cases q : (ow >>> (nI n &&& 31)) &&& 1 = 0
  · rw [if_pos q]; simp [q, b2i]
  · rw [if_neg q]; simp [q, b2i]
theorem cSimple (h : cK M (pd, c, os, fl, cl, ow)) (a b : Int32) : cP M (F_Expr_simpleFactor M a b) (23, pd, kEmit a b c, kPushF os, fl, cl, ow) := by
  unfold F_Expr_simpleFactor
  exact cD_d (cEmit h a b) fun M1 h1 => cV_d (cPushF h1) fun M2 h2 => cD_s h2
theorem cFac (h : cK M (pd, c, os, fl, cl, ow)) (ht : t < 1000) : cP M (F_Expr_factor M (nI t) x) (kFac t x (pd, c, os, fl, cl, ow)) := by
  unfold F_Expr_factor kFac
  refine cD_d (cIsNum h ht) fun M1 h1 => ?_
  refine cP_i (fun q => b2i_p (decide_eq_true q)) (fun q => b2i_n (by simp [q])) (fun q => cP_ret (cSimple h1 1 (nI t))) fun q1 => ?_
  refine cD_d (cIsName h1 ht) fun M2 h2 => ?_
  refine cP_i (fun q => b2i_p q) (fun q => b2i_n q) (fun q => ?_) fun q2 => ?_
  · have e : nI t - 100 = nI (t - 100) := by
      simp [isName] at q
      exact pk_sub (b := 100) (by omega)
    rw [e]
    refine cD_d (cOwn h2 (t - 100)) fun M3 h3 => ?_
    by_cases w : kOwn ow (t - 100) = true
    · rw [if_neg (b2i_p w), if_pos w]
      exact cP_ret (cSimple h3 3 _)
    · rw [if_pos (b2i_n w), if_neg w]
      exact cP_ret (cSimple h3 2 _)
  · refine cD_d (cIsProc h2 ht) fun M3 h3 => ?_
    refine cP_i (fun q => b2i_p q) (fun q => b2i_n q) (fun q => ?_) fun q3 => ?_
    · have e : nI t - 110 = nI (t - 110) := by
        simp [isProcName] at q
        exact pk_sub (b := 110) (by omega)
      rw [e]
      exact cV_d (cBegC h3 _ x) fun M4 h4 => cV_d (cPush h4 (k := 4) (by omega) x 0) fun M5 h5 => cD_s h5
    · refine cP_t ht 108 rfl (by omega) (fun q => cV_d (cPush h3 (k := 3) (by omega) 0 0) fun M4 h4 => cD_s h4) fun q4 => ?_
      refine cP_t ht 122 rfl (by omega) (fun q => cV_d (cPush h3 (k := 2) (by omega) x 0) fun M4 h4 => cD_s h4) fun q4 => ?_
      exact cP_t ht 152 rfl (by omega) (fun q => cV_d (cPush h3 (k := 1) (by omega) 9 (-1)) fun M4 h4 => cD_s h4) fun q4 => cD_s h3
theorem cExp (h : cK M (pd, c, os, fl, cl, ow)) (ht : t < 1000) : cP M (F_Expr_begin M (nI t) x) (kExp t x (pd, c, os, fl, cl, ow)) := by
  unfold F_Expr_begin kExp
  refine cP_t ht 130 rfl (by omega) (fun q => cV_d (cOut h x) fun M4 h4 => cD_s h4) fun q4 => ?_
  exact cP_t ht 131 rfl (by omega) (fun q => cV_d (cPush h (k := 1) (by omega) 8 (-1)) fun M4 h4 => cD_s h4) fun q4 => cP_ret (cFac h ht)
theorem cKh (h : cK M (pd, c, os, fl, cl, ow)) : (kHd pd).1 < 1000 := by
  cases pd with
  | nil => decide
  | cons p r =>
    obtain ⟨k, a, b⟩ := p
    have : k < 100 := h.1.2.2.2.2.2.1
    show k < 1000
    omega
theorem cOper2 {N : Nat} (h : cK M (pd, c, os, fl, cl, ow)) (hne : os ≠ []) (ht : t < 1000) (l m : Int32) : cP M (if l = 0 then F_Expr_operator_p15 N M (nI t) m 1 else F_Expr_operator_p15 N M (nI t) m 0) (kOper2 t l m (pd, c, os, fl, cl, ow)) := by
  have p50 : ∀ {M1 : zMem} {c1 : zC} {os1 : List zOs} {fl1 : Nat → Int32} (w s : Int32) {n : Nat}, cK M1 (pd, c1, os1, fl1, cl, ow) → (w = 0 ∧ n = 22 ∨ w = 1 ∧ n = 21) → cP M1 (F_Expr_operator_p50 N M1 (nI t) w s) (n, kPush 1 (nI t) s pd, c1, os1, fl1, cl, ow) := by
    intro M1 c1 os1 fl1 w s n h1 hw
    unfold F_Expr_operator_p50
    refine cV_d (cPush h1 (k := 1) (by omega) (nI t) s) fun M2 h2 => ?_
    rcases hw with ⟨rfl, rfl⟩ | ⟨rfl, rfl⟩
    · exact cD_ifp rfl (cD_s h2)
    · exact cD_ifn (by decide) (cD_s h2)
  have p25 : ∀ (w : Int32) {n : Nat} {M1 : zMem}, cK M1 (pd, c, os, fl, cl, ow) → (w = 0 ∧ n = 22 ∨ w = 1 ∧ n = 21) → cP M1 (F_Expr_operator_p25 N M1 (nI t) m w) (n, kPush 1 (nI t) (if t = 150 ∨ t = 151 then kAd c else -1) pd, (if t = 150 then kEmit 22 0 c else if t = 151 then kEmit 23 0 c else c), (kJo os).tail, kJf m fl os, cl, ow) := by
    intro w n M1 h1 hw
    unfold F_Expr_operator_p25
    refine cV_d (cJudge h1 hne m) fun M2 h2 => ?_
    replace h2 := cK_tl h2
    by_cases q1 : t = 150
    · rw [if_pos (show nI t = (150 : Int32) by rw [q1]; rfl), if_pos (Or.inl q1), if_pos q1]
      exact cD_d (cEmit h2 22 0) fun M3 h3 => p50 w _ h3 hw
    · rw [if_neg (show ¬ nI t = (150 : Int32) from nIne ht (c := 150) (by omega) q1), if_neg q1]
      by_cases q2 : t = 151
      · rw [if_pos (show nI t = (151 : Int32) by rw [q2]; rfl), if_pos (Or.inr q2), if_pos q2]
        exact cD_d (cEmit h2 23 0) fun M3 h3 => p50 w _ h3 hw
      · rw [if_neg (show ¬ nI t = (151 : Int32) from nIne ht (c := 151) (by omega) q2), if_neg (fun z => Or.elim z q1 q2), if_neg q2]
        exact p50 w _ h2 hw
  have eK1 : l = 0 → (kHd pd).1 = 1 → kOper2 t l m (pd, c, os, fl, cl, ow) = (99, pd, c, os, fl, cl, ow) := fun a b => by simp only [kOper2]; rw [if_pos ⟨a, b⟩]
  have eK2 : ¬ (l = 0 ∧ (kHd pd).1 = 1) → kOper2 t l m (pd, c, os, fl, cl, ow) = (if l = 0 then 21 else 22, kPush 1 (nI t) (if t = 150 ∨ t = 151 then kAd c else -1) pd, (if t = 150 then kEmit 22 0 c else if t = 151 then kEmit 23 0 c else c), (kJo os).tail, kJf m fl os, cl, ow) := fun a => by simp only [kOper2]; rw [if_neg a]
  unfold F_Expr_operator_p15
  by_cases q : l = 0
  · rw [if_pos q, if_neg (by decide)]
    refine cD_d (cKind h).1 fun M1 h1 => ?_
    by_cases q1 : (kHd pd).1 = 1
    · rw [if_pos (show nI (kHd pd).1 = (1 : Int32) by rw [q1]; rfl), eK1 q q1]
      exact cD_s h1
    · rw [if_neg (show ¬ nI (kHd pd).1 = (1 : Int32) from nIne (cKh h) (c := 1) (by omega) q1), eK2 (fun z => q1 z.2), if_pos q]
      exact p25 1 h1 (Or.inr ⟨rfl, rfl⟩)
  · rw [if_neg q, if_pos rfl, eK2 (fun z => q z.1), if_neg q]
    exact p25 0 h (Or.inl ⟨rfl, rfl⟩)
theorem cOper {N : Nat} (hN : 150 < N) (h : cK M K) (hne : K.2.2.1 ≠ []) (ht : t < 1000) : cP M (F_Expr_operator N M (nI t)) (kOper t K) := by
  unfold F_Expr_operator kOper
  obtain ⟨pd, c, os, fl, cl, ow⟩ := K
  refine cD_d (cOfOp h (nI t)) fun M1 h1 => cV_d (cEndOps hN h1 hne _) fun M2 h2 => ?_
  have hn2 := kOps_ne 150 (if kOfOp (nI t) < 1 then 1 else kOfOp (nI t)) (pd, c, os, fl, cl, ow) hne
  generalize kOps 150 _ (pd, c, os, fl, cl, ow) = K2 at h2 hn2
  obtain ⟨pd2, c2, os2, fl2, cl2, ow2⟩ := K2
  exact cOper2 h2 hn2 ht _ _
theorem cEndCall (h : cK M (pd, c, os, fl, cl, ow)) : cP M (F_Expr_endCall M) (kEndCall (pd, c, os, fl, cl, ow)) := by
  unfold F_Expr_endCall kEndCall
  refine cD_d (cKind h).1 fun M1 h1 => cD_d (cKind h1).2.1 fun M2 h2 => cD_d (cCallee h2 _) fun M3 h3 => cV_d (cPop h3) fun M4 h4 => ?_
  refine cP_t (cKh h) 4 rfl (by omega) (fun q => cP_ret (cSimple h4 25 _)) fun q => ?_
  exact cD_d (cEmit h4 25 _) fun M5 h5 => cD_d (cEmit h5 11 0) fun M6 h6 => cD_s h6
theorem cEnd {N : Nat} (hN : 150 < N) (h : cK M K) (hne : K.2.2.1 ≠ []) : cP M (F_Expr_end N M) (kEnd K) := by
  unfold F_Expr_end kEnd
  refine cV_d (cEndOps hN h hne 0) fun M1 h1 => ?_
  have hn2 := kOps_ne 150 0 K hne
  generalize kOps 150 _ K = K2 at h1 hn2
  obtain ⟨pd, c, os, fl, cl, ow⟩ := K2
  refine cV_d (cJudge h1 hn2 0) fun M2 h2 => cD_d (cKind h2).1 fun M3 h3 => ?_
  have hk := cKh h3
  have p23 : ∀ {M : zMem} {os fl}, cK M (pd, c, os, fl, cl, ow) → cP M (F_Expr_end_p15 N M) (19, pd, c, os, fl, kArg (kHd pd).2.1 cl, ow) := by
    intro M os fl h
    unfold F_Expr_end_p15
    exact cD_d (cKind h).2.1 fun M1 h1 => cV_d (cArg h1 _) fun M2 h2 => cD_s h2
  have p37 : ∀ {M : zMem} {os fl}, cK M (pd, c, os, fl, cl, ow) → cP M (F_Expr_end_p29 N M) (10, pd.tail, kEmit (kHd pd).2.1 (kHd pd).2.2 c, os, fl, cl, ow) := by
    intro M os fl h
    unfold F_Expr_end_p29
    exact cD_d (cKind h).2.1 fun M1 h1 => cD_d (cKind h1).2.2 fun M2 h2 => cD_d (cEmit h2 _ _) fun M3 h3 => cV_d (cPop h3) fun M4 h4 => cD_s h4
  unfold kEnd2
  refine cP_t hk 2 rfl (by omega) (fun q => cD_s h3) fun q2 => ?_
  have h5 := cK_tl h3
  refine cP_t hk 3 rfl (by omega) (fun q => cD_s h5) fun q3 => ?_
  refine cP_t hk 4 rfl (by omega) (fun q => p23 h5) fun q4 => ?_
  refine cP_t hk 5 rfl (by omega) (fun q => p23 h5) fun q5 => ?_
  refine cP_t hk 6 rfl (by omega) (fun q => cD_s h5) fun q6 => ?_
  by_cases q7 : (kHd pd).1 = 7
  · rw [if_pos (show nI (kHd pd).1 = (7 : Int32) by rw [q7]; rfl), if_neg (by omega), if_neg (by omega)]
    exact p37 h5
  · rw [if_neg (show ¬ nI (kHd pd).1 = (7 : Int32) from nIne hk (c := 7) (by omega) q7)]
    refine cP_t hk 8 rfl (by omega) (fun q => cD_s h5) fun q8 => ?_
    by_cases q9 : (kHd pd).1 = 9
    · rw [if_pos (show nI (kHd pd).1 = (9 : Int32) by rw [q9]; rfl), if_neg (by omega)]
      exact p37 h5
    · rw [if_neg (show ¬ nI (kHd pd).1 = (9 : Int32) from nIne hk (c := 9) (by omega) q9)]
      by_cases q10 : (kHd pd).1 = 10
      · rw [if_pos (show nI (kHd pd).1 = (10 : Int32) by rw [q10]; rfl), if_neg (by omega)]
        exact p37 h5
      · rw [if_neg (show ¬ nI (kHd pd).1 = (10 : Int32) from nIne hk (c := 10) (by omega) q10)]
        exact cP_t hk 11 rfl (by omega) (fun q => cD_s h5) fun q11 => p37 h5
end KA
