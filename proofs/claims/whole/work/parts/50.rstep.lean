/-! THE REFERENCE'S READER: what a task reads -/
section RD
variable {M : zMem} {l : List Nat} {t : Nat}
theorem b2i_0 (b : Bool) : (b2i b = 0) ↔ b = false := by cases b <;> decide
theorem b2i_1 {b : Bool} (h : b = true) : ¬ b2i b = 0 := by subst h; decide
theorem tv_name {t : Nat} (h : t ≠ 999) : tv t = nI t := if_neg h
/-- a statement's tasks -/
theorem rReadStatement (ht : t = 999 ∨ t < 174) (h0 : M 34 5 = nI l.length) (h1 : rTk M l) (hl : l.length + 8 ≤ 1600) : ∃ M', F_R_readStatement M (tv t) = some M' ∧ rPush M M' (sStmt t) l := by
  have h31 : t < 2 ^ 31 := by omega
  unfold F_R_readStatement
  rw [show (100 : Int32) = nI 100 from rfl, show (107 : Int32) = nI 107 from rfl, rIsIn M h31 (by omega) (by omega), zbi_some]
  by_cases c1 : isName t = true
  · have hn : (decide (100 ≤ t) && decide (t ≤ 107)) = true := c1
    rw [if_neg (b2i_1 hn)]
    have hb : 100 ≤ t ∧ t ≤ 107 := by simpa using hn
    have e1 : tv t = nI t := tv_name (by omega)
    have e2 : (20000 : Int32) + tv t - nI 100 = nI (20000 + (t - 100)) := by
      rw [e1, show (20000 : Int32) = nI 20000 from rfl, nI_add, pk_sub (by omega)]
      congr 1
      omega
    rw [e2, e1]
    obtain ⟨M', q1, q2⟩ := rTasks4 t 120 208 (20000 + (t - 100)) h0 h1 (by omega) (by omega) (by omega) (by omega)
    refine ⟨M', ?_, by unfold sStmt; rw [if_pos c1]; exact q2⟩
    rw [show (120 : Int32) = nI 120 from rfl, show (208 : Int32) = nI 208 from rfl, q1]
    rfl
  · have hn : (decide (100 ≤ t) && decide (t ≤ 107)) = false := by
      cases hq : (decide (100 ≤ t) && decide (t ≤ 107))
      · rfl
      · exact absurd hq c1
    rw [if_pos ((b2i_0 _).mpr hn)]
    by_cases c2 : t = 108
    · subst c2
      rw [if_pos (by decide)]
      obtain ⟨M1, q1, q2⟩ := rTasks3 120 208 21000 h0 h1 (by omega) (by omega) (by omega)
      obtain ⟨M2, q3, q4⟩ := rTasks4 108 125 208 126 q2.1 q2.2.1 (by simp; omega) (by omega) (by omega) (by omega)
      refine ⟨M2, ?_, q2.trans q4⟩
      rw [show (120 : Int32) = nI 120 from rfl, show (208 : Int32) = nI 208 from rfl, show (21000 : Int32) = nI 21000 from rfl, q1, zbv_some, show (108 : Int32) = nI 108 from rfl, show (125 : Int32) = nI 125 from rfl, show (126 : Int32) = nI 126 from rfl, q3]
      rfl
    · rw [show (108 : Int32) = nI 108 from rfl, if_neg (fun q => c2 ((tv_eq h31 (by omega)).mp q)), show (110 : Int32) = nI 110 from rfl, show (113 : Int32) = nI 113 from rfl, rIsIn M h31 (by omega) (by omega), zbi_some]
      by_cases c3 : isProcName t = true
      · have hn3 : (decide (110 ≤ t) && decide (t ≤ 113)) = true := c3
        rw [if_neg (b2i_1 hn3)]
        obtain ⟨M1, q1, q2⟩ := rTasks2 215 22000 h0 h1 (by omega) (by omega)
        refine ⟨M1, ?_, by unfold sStmt; rw [if_neg c1, if_neg c2, if_pos c3]; exact q2⟩
        rw [show (215 : Int32) = nI 215 from rfl, show (22000 : Int32) = nI 22000 from rfl, q1]
        rfl
      · have hn3 : (decide (110 ≤ t) && decide (t ≤ 113)) = false := by
          cases hq : (decide (110 ≤ t) && decide (t ≤ 113))
          · rfl
          · exact absurd hq c3
        rw [if_pos ((b2i_0 _).mpr hn3)]
        have hs : sStmt t = if t = 169 then [169, 208, 23000] else if t = 168 then [168, 208, 24000] else if t = 164 then [164, 208, 165, 205, 163, 25000] else if t = 166 then [166, 205, 167, 208, 26000] else [160, 208, 161, 205, 218, 163] := by
          unfold sStmt
          rw [if_neg c1, if_neg c2, if_neg c3]
        rw [hs]
        simp only [F_R_readStatement_p52, F_R_readStatement_p61]
        by_cases c4 : t = 169
        · subst c4
          rw [if_pos (by decide), if_pos (by decide), if_pos rfl]
          obtain ⟨M1, q1, q2⟩ := rTasks3 169 208 23000 h0 h1 (by omega) (by omega) (by omega)
          refine ⟨M1, ?_, q2⟩
          rw [show tv 169 = nI 169 from rfl, show (208 : Int32) = nI 208 from rfl, show (23000 : Int32) = nI 23000 from rfl, q1]
          rfl
        · rw [show (169 : Int32) = nI 169 from rfl, if_neg (fun q => c4 ((tv_eq h31 (by omega)).mp q)), if_neg c4]
          by_cases c5 : t = 168
          · subst c5
            rw [if_pos (by decide), if_neg (by decide), if_pos rfl]
            obtain ⟨M1, q1, q2⟩ := rTasks3 168 208 24000 h0 h1 (by omega) (by omega) (by omega)
            refine ⟨M1, ?_, q2⟩
            rw [show tv 168 = nI 168 from rfl, show (208 : Int32) = nI 208 from rfl, show (24000 : Int32) = nI 24000 from rfl, q1]
            rfl
          · rw [show (168 : Int32) = nI 168 from rfl, if_neg (fun q => c5 ((tv_eq h31 (by omega)).mp q)), if_neg c5]
            by_cases c6 : t = 164
            · subst c6
              rw [if_pos (by decide), if_pos rfl]
              obtain ⟨M1, q1, q2⟩ := rTask 25000 h0 h1 (by omega)
              obtain ⟨M2, q3, q4⟩ := rTasks4 208 165 205 163 q2.1 q2.2.1 (by simp; omega) (by omega) (by omega) (by omega)
              obtain ⟨M3, q5, q6⟩ := rTask 164 q4.1 q4.2.1 (by simp; omega)
              refine ⟨M3, ?_, q2.trans (q4.trans q6)⟩
              rw [show (25000 : Int32) = nI 25000 from rfl, q1, zbv_some, show (208 : Int32) = nI 208 from rfl, show (165 : Int32) = nI 165 from rfl, show (205 : Int32) = nI 205 from rfl, show (163 : Int32) = nI 163 from rfl, q3, zbv_some, show (164 : Int32) = nI 164 from rfl, q5]
              rfl
            · rw [show (164 : Int32) = nI 164 from rfl, if_neg (fun q => c6 ((tv_eq h31 (by omega)).mp q)), if_neg c6]
              by_cases c7 : t = 166
              · subst c7
                rw [if_pos (by decide), if_pos rfl]
                obtain ⟨M1, q1, q2⟩ := rTasks3 167 208 26000 h0 h1 (by omega) (by omega) (by omega)
                obtain ⟨M2, q3, q4⟩ := rTasks2 166 205 q2.1 q2.2.1 (by simp; omega) (by omega)
                refine ⟨M2, ?_, q2.trans q4⟩
                rw [show (167 : Int32) = nI 167 from rfl, show (208 : Int32) = nI 208 from rfl, show (26000 : Int32) = nI 26000 from rfl, q1, zbv_some, show (166 : Int32) = nI 166 from rfl, show (205 : Int32) = nI 205 from rfl, q3]
                rfl
              · rw [show (166 : Int32) = nI 166 from rfl, if_neg (fun q => c7 ((tv_eq h31 (by omega)).mp q)), if_neg c7]
                obtain ⟨M1, q1, q2⟩ := rTasks4 161 205 218 163 h0 h1 (by omega) (by omega) (by omega) (by omega)
                obtain ⟨M2, q3, q4⟩ := rTasks2 160 208 q2.1 q2.2.1 (by simp; omega) (by omega)
                refine ⟨M2, ?_, q2.trans q4⟩
                rw [show (161 : Int32) = nI 161 from rfl, show (205 : Int32) = nI 205 from rfl, show (218 : Int32) = nI 218 from rfl, show (163 : Int32) = nI 163 from rfl, q1, zbv_some, show (160 : Int32) = nI 160 from rfl, show (208 : Int32) = nI 208 from rfl, q3]
                rfl
theorem sE209 : sExpr 209 t = if isRel t then [t, 210, 5000 + t] else [] := rfl
theorem sE210 : sExpr 210 t = if t = 130 then [130, 212, 211] else if t = 131 then [131, 212, 6000, 211] else [212, 211] := rfl
theorem sE211 : sExpr 211 t = if t = 130 ∨ t = 131 ∨ t = 151 then [t, 212, 5000 + t, 211] else [] := rfl
theorem sE213 : sExpr 213 t = if (132 ≤ t ∧ t ≤ 134) ∨ t = 150 then [t, 214, 5000 + t, 213] else [] := rfl
theorem rReadExpression (x : Nat) (hx : 208 ≤ x ∧ x ≤ 213) (ht : t = 999 ∨ t < 174) (h0 : M 34 5 = nI l.length) (h1 : rTk M l) (hl : l.length + 8 ≤ 1600) : ∃ M', F_R_readExpression M (nI x) (tv t) = some M' ∧ rPush M M' (sExpr x t) l := by
  have h31 : t < 2 ^ 31 := by omega
  have hnil : rPush M M [] l := ⟨h0, h1, fun _ _ _ => rfl, fun _ _ => rfl⟩
  have rel : F_R_isIn M (tv t) 140 145 = some (b2i (isRel t), M) := rIsIn M h31 (lo := 140) (hi := 145) (by omega) (by omega)
  have mul : F_R_isIn M (tv t) 132 134 = some (b2i (decide (132 ≤ t) && decide (t ≤ 134)), M) := rIsIn M h31 (lo := 132) (hi := 134) (by omega) (by omega)
  have q130 : (tv t = 130) ↔ t = 130 := tv_eq (c := 130) h31 (by omega)
  have q131 : (tv t = 131) ↔ t = 131 := tv_eq (c := 131) h31 (by omega)
  have q151 : (tv t = 151) ↔ t = 151 := tv_eq (c := 151) h31 (by omega)
  have q150 : (tv t = 150) ↔ t = 150 := tv_eq (c := 150) h31 (by omega)
  have add5 : ∀ (h : t < 174), (5000 : Int32) + tv t = nI (5000 + t) := fun h => by rw [tv_name (by omega), show (5000 : Int32) = nI 5000 from rfl, nI_add]
  simp only [F_R_readExpression, F_R_readExpression_p28, F_R_readExpression_p37, F_R_readExpression_p40, F_R_readExpression_p50, F_R_readExpression_p56, F_R_readExpression_p61, F_R_readExpression_p77, F_R_readExpression_p86, F_R_readExpression_p108]
  rcases (show x = 208 ∨ x = 209 ∨ x = 210 ∨ x = 211 ∨ x = 212 ∨ x = 213 by omega) with rfl | rfl | rfl | rfl | rfl | rfl
  · obtain ⟨M1, q1, q2⟩ := rTasks2 210 209 h0 h1 (by omega) (by omega)
    refine ⟨M1, ?_, q2⟩
    rw [if_pos (by decide), show (210 : Int32) = nI 210 from rfl, show (209 : Int32) = nI 209 from rfl, q1]
    rfl
  · rw [if_neg (by decide), if_pos (by decide), rel, zbi_some]
    by_cases c : isRel t = true
    · rw [if_neg (b2i_1 c)]
      have hb : 140 ≤ t ∧ t ≤ 145 := by simpa [isRel] using c
      obtain ⟨M1, q1, q2⟩ := rTasks3 t 210 (5000 + t) h0 h1 (by omega) (by omega) (by omega)
      refine ⟨M1, ?_, by rw [sE209, if_pos c]; exact q2⟩
      rw [add5 (by omega), tv_name (by omega), show (210 : Int32) = nI 210 from rfl, q1]
      rfl
    · have c' : isRel t = false := by simpa using c
      rw [if_pos ((b2i_0 _).mpr c'), if_neg (by decide), if_neg (by decide), if_neg (by decide), if_neg (by decide)]
      refine ⟨M, rfl, ?_⟩
      rw [sE209, if_neg c]
      exact hnil
  · rw [if_neg (by decide), if_neg (by decide), if_pos (by decide)]
    rw [sE210]
    obtain ⟨M1, q1, q2⟩ := rTask 211 h0 h1 (by omega)
    have q1 : F_R_task M 211 = some M1 := q1
    by_cases c0 : t = 130
    · subst c0
      obtain ⟨M2, q3, q4⟩ := rTasks2 130 212 q2.1 q2.2.1 (by simp; omega) (by omega)
      refine ⟨M2, ?_, q2.trans q4⟩
      have q3 : F_R_tasksOf M1 (tv 130) 212 (-1) (-1) = some M2 := q3
      rw [if_pos (by decide), q1, zbv_some, if_neg (by decide), if_neg (by decide), if_neg (by decide), q3]
      rfl
    · rw [if_neg (fun q => c0 (q130.mp q)), if_neg c0]
      by_cases c1 : t = 131
      · subst c1
        obtain ⟨M2, q3, q4⟩ := rTask 6000 q2.1 q2.2.1 (by simp; omega)
        obtain ⟨M3, q5, q6⟩ := rTasks2 131 212 q4.1 q4.2.1 (by simp; omega) (by omega)
        refine ⟨M3, ?_, q2.trans (q4.trans q6)⟩
        have q3 : F_R_task M1 6000 = some M2 := q3
        have q5 : F_R_tasksOf M2 (tv 131) 212 (-1) (-1) = some M3 := q5
        rw [if_pos (by decide), q1, zbv_some, if_pos (by decide), q3, zbv_some, if_neg (by decide), if_neg (by decide), q5]
        rfl
      · rw [if_neg (fun q => c1 (q131.mp q)), q1, zbv_some, if_neg (fun q => c1 (q131.mp q)), if_neg c1, if_pos trivial, if_pos trivial]
        obtain ⟨M2, q3, q4⟩ := rTasks1 212 q2.1 q2.2.1 (by simp; omega)
        refine ⟨M2, ?_, q2.trans q4⟩
        have q3 : F_R_tasksOf M1 212 (-1) (-1) (-1) = some M2 := q3
        rw [q3]
        rfl
  · rw [if_neg (by decide), if_neg (by decide), if_neg (by decide), if_pos (by decide)]
    rw [sE211]
    by_cases c : t = 130 ∨ t = 131 ∨ t = 151
    · rw [if_pos c]
      obtain ⟨M1, q1, q2⟩ := rTasks4 t 212 (5000 + t) 211 h0 h1 (by omega) (by omega) (by omega) (by omega)
      refine ⟨M1, ?_, q2⟩
      have q1 : F_R_tasksOf M (nI t) 212 (nI (5000 + t)) 211 = some M1 := q1
      have e : zbv (F_R_tasksOf M (tv t) 212 (5000 + tv t) 211) (fun M1 => some M1) = some M1 := by
        rw [add5 (by omega), tv_name (by omega), q1]; rfl
      rcases c with c | c | c
      · rw [if_pos (q130.mpr c)]; exact e
      · rw [if_neg (fun q => by have := q130.mp q; omega), if_pos (q131.mpr c)]; exact e
      · rw [if_neg (fun q => by have := q130.mp q; omega), if_neg (fun q => by have := q131.mp q; omega), if_pos (q151.mpr c)]; exact e
    · rw [if_neg c, if_neg (fun q => c (Or.inl (q130.mp q))), if_neg (fun q => c (Or.inr (Or.inl (q131.mp q)))), if_neg (fun q => c (Or.inr (Or.inr (q151.mp q)))), if_neg (by decide), if_neg (by decide)]
      exact ⟨M, rfl, hnil⟩
  · obtain ⟨M1, q1, q2⟩ := rTasks2 214 213 h0 h1 (by omega) (by omega)
    refine ⟨M1, ?_, q2⟩
    have q1 : F_R_tasksOf M 214 213 (-1) (-1) = some M1 := q1
    rw [if_neg (by decide), if_neg (by decide), if_neg (by decide), if_neg (by decide), if_pos (by decide), q1]
    rfl
  · rw [if_neg (by decide), if_neg (by decide), if_neg (by decide), if_neg (by decide), if_neg (by decide), if_pos (by decide), mul, zbi_some]
    rw [sE213]
    by_cases c : (132 ≤ t ∧ t ≤ 134) ∨ t = 150
    · rw [if_pos c]
      obtain ⟨M1, q1, q2⟩ := rTasks4 t 214 (5000 + t) 213 h0 h1 (by omega) (by omega) (by omega) (by omega)
      refine ⟨M1, ?_, q2⟩
      have q1 : F_R_tasksOf M (nI t) 214 (nI (5000 + t)) 213 = some M1 := q1
      have e : zbv (F_R_tasksOf M (tv t) 214 (5000 + tv t) 213) (fun M1 => some M1) = some M1 := by
        rw [add5 (by omega), tv_name (by omega), q1]; rfl
      rcases c with c | c
      · rw [if_neg (b2i_1 (by simp; omega))]; exact e
      · rw [if_pos ((b2i_0 _).mpr (by simp; omega)), if_pos (q150.mpr c)]; exact e
    · rw [if_neg c, if_pos ((b2i_0 _).mpr (by simp; omega)), if_neg (fun q => c (Or.inr (q150.mp q)))]
      exact ⟨M, rfl, hnil⟩
end RD
