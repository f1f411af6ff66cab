/-! THE REFERENCE'S READER: parts, if, names -/
section RD2
variable {M : zMem} {l : List Nat} {t : Nat}
theorem rBegins (ht : t = 999 ∨ t < 174) : F_R_beginsStatement M (tv t) = some (b2i (begStmt t), M) := by
  have h31 : t < 2 ^ 31 := by omega
  have r1 : F_R_isIn M (tv t) 100 108 = some (b2i (decide (100 ≤ t) && decide (t ≤ 108)), M) := rIsIn M h31 (lo := 100) (hi := 108) (by omega) (by omega)
  have r2 : F_R_isIn M (tv t) 110 113 = some (b2i (decide (110 ≤ t) && decide (t ≤ 113)), M) := rIsIn M h31 (lo := 110) (hi := 113) (by omega) (by omega)
  unfold F_R_beginsStatement
  rw [r1, zbi_some]
  by_cases c1 : (decide (100 ≤ t) && decide (t ≤ 108)) = true
  · rw [if_neg (b2i_1 c1)]
    have : begStmt t = true := by unfold begStmt; rw [c1]; rfl
    rw [this]; rfl
  · have c1' : (decide (100 ≤ t) && decide (t ≤ 108)) = false := by simpa using c1
    rw [if_pos ((b2i_0 _).mpr c1'), r2, zbi_some]
    by_cases c2 : (decide (110 ≤ t) && decide (t ≤ 113)) = true
    · rw [if_neg (b2i_1 c2)]
      have : begStmt t = true := by unfold begStmt; rw [c1', c2]; rfl
      rw [this]; rfl
    · have c2' : (decide (110 ≤ t) && decide (t ≤ 113)) = false := by simpa using c2
      rw [if_pos ((b2i_0 _).mpr c2')]
      have hb : begStmt t = (t == 160 || t == 164 || t == 166 || t == 168 || t == 169) := by unfold begStmt; rw [c1', c2']; rfl
      rw [hb]
      have q160 : (tv t = 160) ↔ t = 160 := tv_eq (c := 160) h31 (by omega)
      have q164 : (tv t = 164) ↔ t = 164 := tv_eq (c := 164) h31 (by omega)
      have q166 : (tv t = 166) ↔ t = 166 := tv_eq (c := 166) h31 (by omega)
      have q168 : (tv t = 168) ↔ t = 168 := tv_eq (c := 168) h31 (by omega)
      have q169 : (tv t = 169) ↔ t = 169 := tv_eq (c := 169) h31 (by omega)
      by_cases d1 : t = 160
      · rw [if_pos (q160.mpr d1), d1]; rfl
      · rw [if_neg (fun z => d1 (q160.mp z))]
        by_cases d2 : t = 164
        · rw [if_pos (q164.mpr d2), d2]; rfl
        · rw [if_neg (fun z => d2 (q164.mp z))]
          by_cases d3 : t = 166
          · rw [if_pos (q166.mpr d3), d3]; rfl
          · rw [if_neg (fun z => d3 (q166.mp z))]
            by_cases d4 : t = 168
            · rw [if_pos (q168.mpr d4), d4]; rfl
            · rw [if_neg (fun z => d4 (q168.mp z))]
              by_cases d5 : t = 169
              · rw [if_pos (q169.mpr d5), d5]; rfl
              · rw [if_neg (fun z => d5 (q169.mp z))]
                simp [d1, d2, d3, d4, d5, b2i]
/-- the parts that make no node (all but 205) -/
theorem rReadParts (x : Nat) (hx : x = 200 ∨ x = 201 ∨ x = 202 ∨ x = 203 ∨ x = 204 ∨ x = 222 ∨ x = 206 ∨ x = 223) (ht : t = 999 ∨ t < 174) (h0 : M 34 5 = nI l.length) (h1 : rTk M l) (hl : l.length + 9 ≤ 1600) : ∃ M', F_R_readParts M (nI x) (tv t) = some M' ∧ rPush M M' (sParts x t) l := by
  have h31 : t < 2 ^ 31 := by omega
  have hnil : rPush M M [] l := ⟨h0, h1, fun _ _ _ => rfl, fun _ _ => rfl⟩
  have nm : F_R_isIn M (tv t) 100 107 = some (b2i (isName t), M) := rIsIn M h31 (lo := 100) (hi := 107) (by omega) (by omega)
  have q121 : (tv t = 121) ↔ t = 121 := tv_eq (c := 121) h31 (by omega)
  have q124 : (tv t = 124) ↔ t = 124 := tv_eq (c := 124) h31 (by omega)
  have q170 : (tv t = 170) ↔ t = 170 := tv_eq (c := 170) h31 (by omega)
  have q172 : (tv t = 172) ↔ t = 172 := tv_eq (c := 172) h31 (by omega)
  simp only [F_R_readParts, F_R_readParts_p13, F_R_readParts_p55, F_R_readParts_p64, F_R_readParts_p73, F_R_readParts_p89, F_R_readParts_p102, F_R_readParts_p115, F_R_readParts_p148]
  rcases hx with rfl | rfl | rfl | rfl | rfl | rfl | rfl | rfl
  · rw [show sParts 200 t = if t = 170 then [201, 200] else [171, 205, 163, 2000] from rfl, if_pos (by decide)]
    by_cases c : t = 170
    · rw [if_pos c, if_pos (q170.mpr c)]
      obtain ⟨M1, q1, q2⟩ := rTasks2 201 200 h0 h1 (by omega) (by omega)
      have q1 : F_R_tasksOf M 201 200 (-1) (-1) = some M1 := q1
      exact ⟨M1, by rw [q1]; rfl, q2⟩
    · rw [if_neg c, if_neg (fun z => c (q170.mp z)), if_pos (by decide)]
      obtain ⟨M1, q1, q2⟩ := rTasks4 171 205 163 2000 h0 h1 (by omega) (by omega) (by omega) (by omega)
      have q1 : F_R_tasksOf M 171 205 163 2000 = some M1 := q1
      exact ⟨M1, by rw [q1]; rfl, q2⟩
  · rw [if_neg (by decide), if_neg (by decide), if_pos (by decide)]
    obtain ⟨M1, q1, q2⟩ := rTask 3000 h0 h1 (by omega)
    obtain ⟨M2, q3, q4⟩ := rTasks4 204 171 205 163 q2.1 q2.2.1 (by simp; omega) (by omega) (by omega) (by omega)
    obtain ⟨M3, q5, q6⟩ := rTasks4 170 219 122 202 q4.1 q4.2.1 (by simp; omega) (by omega) (by omega) (by omega)
    have q1 : F_R_task M 3000 = some M1 := q1
    have q3 : F_R_tasksOf M1 204 171 205 163 = some M2 := q3
    have q5 : F_R_tasksOf M2 170 219 122 202 = some M3 := q5
    exact ⟨M3, by rw [q1, zbv_some, q3, zbv_some, q5]; rfl, q2.trans (q4.trans q6)⟩
  · rw [show sParts 202 t = if isName t then [220, 203, 123] else [123] from rfl, if_neg (by decide), if_neg (by decide), if_neg (by decide), if_pos (by decide), nm, zbi_some]
    by_cases c : isName t = true
    · rw [if_neg (b2i_1 c), nm, zbi_some, if_neg (b2i_1 c), nm, zbi_some, if_neg (b2i_1 c), if_pos c]
      obtain ⟨M1, q1, q2⟩ := rTasks3 220 203 123 h0 h1 (by omega) (by omega) (by omega)
      have q1 : F_R_tasksOf M 220 203 123 (-1) = some M1 := q1
      exact ⟨M1, by rw [q1]; rfl, q2⟩
    · have c' : isName t = false := by simpa using c
      rw [if_pos ((b2i_0 _).mpr c'), nm, zbi_some, if_pos ((b2i_0 _).mpr c'), nm, zbi_some, if_pos ((b2i_0 _).mpr c'), if_neg c]
      obtain ⟨M1, q1, q2⟩ := rTasks1 123 h0 h1 (by omega)
      have q1 : F_R_tasksOf M 123 (-1) (-1) (-1) = some M1 := q1
      exact ⟨M1, by rw [q1]; rfl, q2⟩
  · rw [show sParts 203 t = if t = 124 then [124, 220, 203] else [] from rfl, if_neg (by decide), if_neg (by decide), if_neg (by decide), if_neg (by decide), if_pos (by decide)]
    by_cases c : t = 124
    · rw [if_pos c, if_pos (q124.mpr c)]
      obtain ⟨M1, q1, q2⟩ := rTasks3 124 220 203 h0 h1 (by omega) (by omega) (by omega)
      have q1 : F_R_tasksOf M 124 220 203 (-1) = some M1 := q1
      exact ⟨M1, by rw [q1]; rfl, q2⟩
    · rw [if_neg c, if_neg (fun z => c (q124.mp z)), if_neg (by decide), if_neg (by decide), if_neg (by decide), if_neg (by decide), if_neg (by decide)]
      exact ⟨M, rfl, hnil⟩
  · rw [show sParts 204 t = if t = 172 then [172, 221, 222] else [] from rfl, if_neg (by decide), if_neg (by decide), if_neg (by decide), if_neg (by decide), if_neg (by decide), if_pos (by decide)]
    by_cases c : t = 172
    · rw [if_pos c, if_pos (q172.mpr c)]
      obtain ⟨M1, q1, q2⟩ := rTasks3 172 221 222 h0 h1 (by omega) (by omega) (by omega)
      have q1 : F_R_tasksOf M 172 221 222 (-1) = some M1 := q1
      exact ⟨M1, by rw [q1]; rfl, q2⟩
    · rw [if_neg c, if_neg (fun z => c (q172.mp z)), if_neg (by decide), if_neg (by decide), if_neg (by decide), if_neg (by decide)]
      exact ⟨M, rfl, hnil⟩
  · rw [show sParts 222 t = if t = 124 then [124, 221, 222] else [] from rfl, if_neg (by decide), if_neg (by decide), if_neg (by decide), if_neg (by decide), if_neg (by decide), if_neg (by decide), if_pos (by decide)]
    by_cases c : t = 124
    · rw [if_pos c, if_pos (q124.mpr c)]
      obtain ⟨M1, q1, q2⟩ := rTasks3 124 221 222 h0 h1 (by omega) (by omega) (by omega)
      have q1 : F_R_tasksOf M 124 221 222 (-1) = some M1 := q1
      exact ⟨M1, by rw [q1]; rfl, q2⟩
    · rw [if_neg c, if_neg (fun z => c (q124.mp z)), if_neg (by decide), if_neg (by decide), if_neg (by decide)]
      exact ⟨M, rfl, hnil⟩
  · rw [show sParts 206 t = if t = 121 then [121, 223, 206] else [] from rfl, if_neg (by decide), if_neg (by decide), if_neg (by decide), if_neg (by decide), if_neg (by decide), if_neg (by decide), if_neg (by decide), if_neg (by decide), if_pos (by decide)]
    by_cases c : t = 121
    · rw [if_pos c, if_pos (q121.mpr c)]
      obtain ⟨M1, q1, q2⟩ := rTasks3 121 223 206 h0 h1 (by omega) (by omega) (by omega)
      have q1 : F_R_tasksOf M 121 223 206 (-1) = some M1 := q1
      exact ⟨M1, by rw [q1]; rfl, q2⟩
    · rw [if_neg c, if_neg (fun z => c (q121.mp z)), if_neg (by decide)]
      exact ⟨M, rfl, hnil⟩
  · rw [show sParts 223 t = if begStmt t then [207, 4000] else [] from rfl, if_neg (by decide), if_neg (by decide), if_neg (by decide), if_neg (by decide), if_neg (by decide), if_neg (by decide), if_neg (by decide), if_neg (by decide), if_neg (by decide), if_pos (by decide), rBegins ht, zbi_some]
    by_cases c : begStmt t = true
    · rw [if_neg (b2i_1 c), if_pos c]
      obtain ⟨M1, q1, q2⟩ := rTasks2 207 4000 h0 h1 (by omega) (by omega)
      have q1 : F_R_tasksOf M 207 4000 (-1) (-1) = some M1 := q1
      exact ⟨M1, by rw [q1]; rfl, q2⟩
    · have c' : begStmt t = false := by simpa using c
      rw [if_pos ((b2i_0 _).mpr c'), if_neg c]
      exact ⟨M, rfl, hnil⟩
/-- behind the statements of an if: elsif, else -/
theorem rReadIf (ht : t = 999 ∨ t < 174) (h0 : M 34 5 = nI l.length) (h1 : rTk M l) (hl : l.length + 9 ≤ 1600) (hc : t = 173 ∨ t = 162) : ∃ M', F_R_readIf M (tv t) = some M' ∧ rPush M M' (if t = 173 then [173, 208, 161, 205, 218, 27000] else [162, 205, 27000]) l := by
  unfold F_R_readIf
  rcases hc with rfl | rfl
  · obtain ⟨M1, q1, q2⟩ := rTask 27000 h0 h1 (by omega)
    obtain ⟨M2, q3, q4⟩ := rTasks3 161 205 218 q2.1 q2.2.1 (by simp; omega) (by omega) (by omega)
    obtain ⟨M3, q5, q6⟩ := rTasks2 173 208 q4.1 q4.2.1 (by simp; omega) (by omega)
    have q1 : F_R_task M 27000 = some M1 := q1
    have q3 : F_R_tasksOf M1 161 205 218 (-1) = some M2 := q3
    have q5 : F_R_tasksOf M2 173 208 (-1) (-1) = some M3 := q5
    exact ⟨M3, by rw [if_pos (by decide), q1, zbv_some, q3, zbv_some, q5]; rfl, q2.trans (q4.trans q6)⟩
  · obtain ⟨M1, q1, q2⟩ := rTasks3 162 205 27000 h0 h1 (by omega) (by omega) (by omega)
    have q1 : F_R_tasksOf M 162 205 27000 (-1) = some M1 := q1
    exact ⟨M1, by rw [if_neg (by decide), if_pos (by decide), q1]; rfl, q2⟩
end RD2
