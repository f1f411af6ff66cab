/-! K: statements; a token -/
section KS
variable {M M' : zMem} {pd pd' : List zPd} {c c' : zC} {os os' : List zOs} {fl fl' : Nat → Int32} {cl cl' : (Nat → Int32) × (Nat → Int32)} {ow : Int32} {K : zKK} {t nx : Nat} {x : Int32}
theorem cStB (h : cK M (pd, c, os, fl, cl, ow)) (ht : t < 1000) : cP M (F_Stat_begin M (nI t) x) (kStB t x (pd, c, os, fl, cl, ow)) := by
  have aw : ∀ {M1 : zMem} (a b : Int32), cK M1 (pd, c, os, fl, cl, ow) → cP M1 (F_Stat_awaitLast M1 a b) (21, kPush 7 a b pd, c, os, fl, cl, ow) := fun a b h1 => cV_d (cPush h1 (k := 7) (by omega) a b) fun M2 h2 => cD_s h2
  unfold F_Stat_begin kStB
  refine cD_d (cIsName h ht) fun M1 h1 => ?_
  refine cP_i (fun q => b2i_p q) (fun q => b2i_n q) (fun q => ?_) fun q1 => ?_
  · have e : nI t - 100 = nI (t - 100) := by
      simp [isName] at q
      exact pk_sub (b := 100) (by omega)
    rw [e]
    refine cD_d (cOwn h1 (t - 100)) fun M2 h2 => ?_
    by_cases w : kOwn ow (t - 100) = true
    · rw [if_neg (b2i_p w), if_pos w]
      exact cD_d (aw 6 _ h2) fun M3 h3 => cD_s h3
    · rw [if_pos (b2i_n w), if_neg w]
      exact cD_d (aw 5 _ h2) fun M3 h3 => cD_s h3
  · refine cD_d (cIsProc h1 ht) fun M2 h2 => ?_
    refine cP_i (fun q => b2i_p q) (fun q => b2i_n q) (fun q => ?_) fun q2 => ?_
    · have e : nI t - 110 = nI (t - 110) := by
        simp [isProcName] at q
        exact pk_sub (b := 110) (by omega)
      rw [e]
      exact cV_d (cBegC h2 _ x) fun M3 h3 => cV_d (cPush h3 (k := 5) (by omega) x 0) fun M4 h4 => cD_s h4
    · refine cP_t ht 108 rfl (by omega) (fun q => cV_d (cPush h2 (k := 6) (by omega) 0 0) fun M4 h4 => cD_s h4) fun q4 => ?_
      refine cP_t ht 160 rfl (by omega) (fun q => cV_d (cPush h2 (k := 11) (by omega) (-1) 0) fun M4 h4 => cD_s h4) fun q4 => ?_
      refine cP_t ht 164 rfl (by omega) (fun q => cD_d (cHere h2) fun M3 h3 => cV_d (cPush h3 (k := 8) (by omega) _ 0) fun M4 h4 => cD_s h4) fun q4 => ?_
      refine cP_t ht 166 rfl (by omega) (fun q => cD_d (cHere h2) fun M3 h3 => cV_d (cPush h3 (k := 10) (by omega) _ 0) fun M4 h4 => cD_d (cEmit h4 24 0) fun M5 h5 => cD_s h5) fun q4 => ?_
      refine cP_t ht 168 rfl (by omega) (fun q => cP_ret (aw 26 0 h2)) fun q4 => ?_
      exact cP_t ht 169 rfl (by omega) (fun q => cP_ret (aw 12 0 h2)) fun q4 => cD_s h2
theorem cStE {N : Nat} (hN : 300 < N) (h : cK M (pd, c, os, fl, cl, ow)) (ht : t < 1000) : cP M (F_Stat_end N M (nI t)) (kStE t (pd, c, os, fl, cl, ow)) := by
  have endIf : ∀ {M1 : zMem} {c1 : zC}, cK M1 (pd, c1, os, fl, cl, ow) → cP M1 (F_Stat_endIf N M1) (10, pd.tail, kChain 300 (kHd pd).2.1 c1, os, fl, cl, ow) := by
    intro M1 c1 h1
    unfold F_Stat_endIf
    exact cD_d (cKind h1).2.1 fun M2 h2 => cV_d (cChain N 300 0 _ (by omega) h2 N hN) fun M3 h3 => cV_d (cPop h3) fun M4 h4 => cD_s h4
  have p20 : ∀ {M1 : zMem} (k n : Nat), k < 100 → cK M1 (pd, c, os, fl, cl, ow) → (t = 173 ∧ n = 21 ∧ k = 11 ∨ t = 162 ∧ n = 9 ∧ k = 13) → cP M1 (F_Stat_endThen_p20 N M1 (nI t)) (n, kPush k (kAd c) 0 pd.tail, kLead (kHd pd).2.2 (kEmit 20 (kHd pd).2.1 c), os, fl, cl, ow) := by
    intro M1 k n hk h1 hh
    unfold F_Stat_endThen_p20
    refine cD_d (cKind h1).2.1 fun M2 h2 => cD_d (cEmit h2 20 _) fun M3 h3 => cD_d (cKind h3).2.2 fun M4 h4 => cV_d (cLead h4 _) fun M5 h5 => ?_
    unfold F_Stat_endThen_p42
    rcases hh with ⟨rfl, rfl, rfl⟩ | ⟨rfl, rfl, rfl⟩
    · refine cD_ifp rfl ?_
      exact cV_d (cRepl h5 (k := 11) (by omega) _ 0) fun M6 h6 => cD_ifp rfl (cD_s h6)
    · refine cD_ifn (by decide) ?_
      exact cV_d (cRepl h5 (k := 13) (by omega) _ 0) fun M6 h6 => cD_ifn (by decide) (cD_s h6)
  have endB : ∀ {M1 : zMem} (y : Int32) (n : Nat), y = nxI n → cK M1 (pd, c, os, fl, cl, ow) → cP M1 (F_Stat_endBody M1 y) (n, pd.tail, kEmit 26 0 (kEmit 1 0 c), os, fl, cl, ow) := by
    intro M1 y n hy h1
    unfold F_Stat_endBody
    exact cD_d (cEmit h1 1 0) fun M2 h2 => cD_d (cEmit h2 26 0) fun M3 h3 => cV_d (cPop h3) fun M4 h4 => cP_s hy h4
  unfold F_Stat_end kStE
  refine cP_t ht 121 rfl (by omega) (fun q => cD_s h) fun q0 => ?_
  refine cD_d (cKind h).1 fun M1 h1 => ?_
  have hk := cKh h
  refine cP_t hk 9 rfl (by omega) (fun q => ?_) fun q9 => ?_
  · refine cP_t ht 163 rfl (by omega) (fun q => cP_ret ?_) fun q4 => cD_s h1
    unfold F_Stat_endWhile
    exact cD_d (cKind h1).2.1 fun M2 h2 => cD_d (cEmit h2 20 _) fun M3 h3 => cD_d (cKind h3).2.2 fun M4 h4 => cV_d (cLead h4 _) fun M5 h5 => cV_d (cPop h5) fun M6 h6 => cD_s h6
  refine cP_t hk 10 rfl (by omega) (fun q => ?_) fun q10 => ?_
  · refine cP_t ht 167 rfl (by omega) (fun q => cP_ret ?_) fun q4 => cD_s h1
    unfold F_Stat_beginUntil
    exact cD_d (cKind h1).2.1 fun M2 h2 => cV_d (cRepl h2 (k := 7) (by omega) 21 _) fun M3 h3 => cD_s h3
  refine cP_t hk 11 rfl (by omega) (fun q => cD_s h1) fun q11 => ?_
  refine cP_t hk 12 rfl (by omega) (fun q => cP_ret ?_) fun q12 => ?_
  · unfold F_Stat_endThen
    refine cP_t ht 163 rfl (by omega) (fun q => ?_) fun q1 => ?_
    · exact cD_d (cKind h1).2.2 fun M2 h2 => cV_d (cLead h2 _) fun M3 h3 => cP_ret (endIf h3)
    · refine cP_t ht 173 rfl (by omega) (fun q => p20 11 21 (by omega) h1 (Or.inl ⟨q, rfl, rfl⟩)) fun q2 => ?_
      exact cP_t ht 162 rfl (by omega) (fun q => p20 13 9 (by omega) h1 (Or.inr ⟨q, rfl, rfl⟩)) fun q3 => cD_s h1
  refine cP_t hk 13 rfl (by omega) (fun q => ?_) fun q13 => ?_
  · exact cP_t ht 163 rfl (by omega) (fun q => cP_ret (endIf h1)) fun q4 => cD_s h1
  refine cP_t hk 14 rfl (by omega) (fun q => ?_) fun q14 => ?_
  · exact cP_t ht 163 rfl (by omega) (fun q => cP_ret (endB 0 0 rfl h1)) fun q4 => cD_s h1
  refine cP_t hk 15 rfl (by omega) (fun q => ?_) fun q15 => cD_s h1
  exact cP_t ht 163 rfl (by omega) (fun q => cP_ret (endB 24 24 rfl h1)) fun q4 => cD_s h1
theorem cBegS (h : cK M K) (ht : t < 1000) : cD M (F_Tok_beginsStatement M (nI t)) (b2i (begStmt t)) K := by
  unfold F_Tok_beginsStatement
  refine cD_d (cIsName h ht) fun M1 h1 => ?_
  by_cases q1 : isName t = true
  · rw [if_neg (b2i_p q1)]
    have : begStmt t = true := by simp [isName] at q1; simp [begStmt]; omega
    rw [this]; exact cD_s h1
  · rw [if_pos (b2i_n q1)]
    by_cases q2 : t = 108
    · rw [if_pos (show nI t = (108 : Int32) by rw [q2]; rfl)]
      rw [q2]; exact cD_s h1
    · rw [if_neg (show ¬ nI t = (108 : Int32) from nIne ht (c := 108) (by omega) q2)]
      refine cD_d (cIsProc h1 ht) fun M2 h2 => ?_
      by_cases q3 : isProcName t = true
      · rw [if_neg (b2i_p q3)]
        have : begStmt t = true := by simp [isProcName] at q3; simp [begStmt]; omega
        rw [this]; exact cD_s h2
      · rw [if_pos (b2i_n q3)]
        have tt : ∀ n, n < 1000 → (t = n → cD M2 (some ((1 : Int32), M2)) (b2i (begStmt n)) K) → ∀ {b : Option (Int32 × zMem)} {y : Int32}, y = nI n → (¬ t = n → cD M2 b (b2i (begStmt t)) K) → cD M2 (if nI t = y then some ((1 : Int32), M2) else b) (b2i (begStmt t)) K := by
          intro n hn h3 b y hy h4
          subst hy
          by_cases q : t = n
          · subst q; rw [if_pos rfl]; exact h3 rfl
          · rw [if_neg (nIne ht hn q)]; exact h4 q
        refine tt 169 (by omega) (fun _ => cD_s h2) rfl fun q4 => ?_
        refine tt 168 (by omega) (fun _ => cD_s h2) rfl fun q5 => ?_
        refine tt 164 (by omega) (fun _ => cD_s h2) rfl fun q6 => ?_
        refine tt 166 (by omega) (fun _ => cD_s h2) rfl fun q7 => ?_
        refine tt 160 (by omega) (fun _ => cD_s h2) rfl fun q8 => ?_
        have : begStmt t = false := by
          simp [isName] at q1
          simp [isProcName] at q3
          simp [begStmt]
          omega
        rw [this]; exact cD_s h2
theorem cAcc {N : Nat} (hN : 300 < N) (h : cK M K) (h23 : nx = 23 → K.2.2.1 ≠ []) (ht : t < 1000) (hn : nx < 1000) : cP M (F_Pars_accept N M (nI nx) (nI t) x) (kAcc nx t x K) := by
  obtain ⟨pd, c, os, fl, cl, ow⟩ := K
  unfold F_Pars_accept kAcc
  refine cP_t hn 9 rfl (by omega) (fun q => ?_) fun _ => ?_
  · refine cD_d (cBegS h ht) fun M1 h1 => ?_
    exact cP_i (fun q => b2i_p q) (fun q => b2i_n q) (fun q => cP_ret (cStB h1 ht)) fun q => cP_ret (cStE hN h1 ht)
  refine cP_t hn 10 rfl (by omega) (fun q => cP_ret (cStE hN h ht)) fun _ => ?_
  refine cP_t hn 11 rfl (by omega) (fun q => cP_t ht 120 rfl (by omega) (fun _ => cD_s h) fun _ => cD_s h) fun _ => ?_
  refine cP_t hn 12 rfl (by omega) (fun q => cP_t ht 126 rfl (by omega) (fun _ => cP_ret (cV_d (cRepl h (k := 7) (by omega) 7 0) fun M1 h1 => cD_s h1)) fun _ => cD_s h) fun _ => ?_
  refine cP_t hn 13 rfl (by omega) (fun q => cP_t ht 165 rfl (by omega) (fun _ => cP_ret ?_) fun _ => cD_s h) fun _ => ?_
  · unfold F_Stat_beginWhileBody
    exact cD_d (cKind h).2.1 fun M1 h1 => cD_d (cEmit h1 21 0) fun M2 h2 => cV_d (cRepl h2 (k := 9) (by omega) _ _) fun M3 h3 => cD_d (cEmit h3 24 0) fun M4 h4 => cD_s h4
  refine cP_t hn 14 rfl (by omega) (fun q => cP_t ht 161 rfl (by omega) (fun _ => cP_ret ?_) fun _ => cD_s h) fun _ => ?_
  · unfold F_Stat_beginThen
    exact cD_d (cKind h).2.1 fun M1 h1 => cD_d (cEmit h1 21 0) fun M2 h2 => cV_d (cRepl h2 (k := 12) (by omega) _ _) fun M3 h3 => cD_s h3
  refine cP_t hn 15 rfl (by omega) (fun q => cP_t ht 125 rfl (by omega) (fun _ => cD_s h) fun _ => cD_s h) fun _ => ?_
  refine cP_t hn 16 rfl (by omega) (fun q => cP_t ht 126 rfl (by omega) (fun _ => cP_ret ?_) fun _ => cD_s h) fun _ => ?_
  · unfold F_Expr_closeIndex
    exact cV_d (cPop h) fun M1 h1 => cP_ret (cSimple h1 4 0)
  refine cP_t hn 17 rfl (by omega) (fun q => cP_t ht 122 rfl (by omega) (fun _ => cD_s h) fun _ => cD_s h) fun _ => ?_
  refine cP_t hn 18 rfl (by omega) (fun q => cP_t ht 123 rfl (by omega) (fun _ => cP_ret (cEndCall h)) fun _ => cP_ret (cExp h ht)) fun _ => ?_
  refine cP_t hn 19 rfl (by omega) (fun q => cP_ret ?_) fun _ => ?_
  · unfold F_Expr_afterArgument
    exact cP_t ht 124 rfl (by omega) (fun _ => cD_s h) fun _ => cP_t ht 123 rfl (by omega) (fun _ => cP_ret (cEndCall h)) fun _ => cD_s h
  refine cP_t hn 20 rfl (by omega) (fun q => cP_t ht 123 rfl (by omega) (fun _ => cP_ret ?_) fun _ => cD_s h) fun _ => ?_
  · unfold F_Expr_closeBracket
    exact cD_d (cKind h).2.1 fun M1 h1 => cV_d (cPut h1 _ x) fun M2 h2 => cV_d (cPop h2) fun M3 h3 => cD_s h3
  refine cP_t hn 21 rfl (by omega) (fun q => cP_ret (cExp h ht)) fun _ => ?_
  refine cP_t hn 22 rfl (by omega) (fun q => cP_ret (cFac h ht)) fun _ => ?_
  exact cP_t hn 23 rfl (by omega) (fun q => cP_ret (cOper (by omega) h (h23 q) ht)) fun _ => cD_s h
end KS
