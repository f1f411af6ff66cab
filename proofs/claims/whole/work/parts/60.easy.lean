/-! TOKENS: which numbers are tokens, on both sides -/
def isTk (t : Int32) : Bool := (decide (0 ≤ t) && decide (t ≤ 108)) || ((decide (110 ≤ t) && decide (t ≤ 113)) || ((decide (120 ≤ t) && decide (t ≤ 126)) || ((decide (130 ≤ t) && decide (t ≤ 134)) || ((decide (140 ≤ t) && decide (t ≤ 145)) || ((decide (150 ≤ t) && decide (t ≤ 152)) || (decide (160 ≤ t) && decide (t ≤ 173)))))))
section TK
variable {M : zMem} {t lo hi : Int32} {nx : Option (Int32 × zMem)} {q : Bool}
theorem i32_nlt {a b : Int32} (h : ¬ a < b) : b ≤ a := by
  rw [Int32.lt_iff_toInt_lt] at h
  rw [Int32.le_iff_toInt_le]
  omega
theorem i32_lt_nle {a b : Int32} (h : a < b) : ¬ b ≤ a := by
  rw [Int32.lt_iff_toInt_lt] at h
  rw [Int32.le_iff_toInt_le]
  omega
theorem i32_nle {a b : Int32} (h : ¬ a ≤ b) : b < a := by
  rw [Int32.le_iff_toInt_le] at h
  rw [Int32.lt_iff_toInt_lt]
  omega
theorem tkLev (h : nx = some (b2i q, M)) : (if t < lo then nx else (if t ≤ hi then some ((1 : Int32), M) else nx)) = some (b2i ((decide (lo ≤ t) && decide (t ≤ hi)) || q), M) := by
  by_cases c1 : t < lo
  · rw [if_pos c1, h]
    simp [i32_lt_nle c1]
  · rw [if_neg c1]
    have c1' := i32_nlt c1
    by_cases c2 : t ≤ hi
    · rw [if_pos c2]
      simp [c1', c2, b2i]
    · rw [if_neg c2, h]
      simp [c2]
theorem tkEnd : (if t < lo then some ((0 : Int32), M) else (if hi < t then some ((0 : Int32), M) else some ((1 : Int32), M))) = some (b2i (decide (lo ≤ t) && decide (t ≤ hi)), M) := by
  by_cases c1 : t < lo
  · rw [if_pos c1]
    simp [i32_lt_nle c1, b2i]
  · rw [if_neg c1]
    have c1' := i32_nlt c1
    by_cases c2 : hi < t
    · rw [if_pos c2]
      simp [i32_lt_nle c2, b2i]
    · rw [if_neg c2]
      simp [c1', i32_nlt c2, b2i]
theorem rIsToken : F_R_isToken M t = some (b2i (isTk t), M) := by
  have a1 : F_R_isToken_p35 M t = some (b2i (decide (160 ≤ t) && decide (t ≤ 173)), M) := tkEnd
  have a2 : F_R_isToken_p29 M t = _ := tkLev (lo := 150) (hi := 152) a1
  have a3 : F_R_isToken_p23 M t = _ := tkLev (lo := 140) (hi := 145) a2
  have a4 : F_R_isToken_p17 M t = _ := tkLev (lo := 130) (hi := 134) a3
  have a5 : F_R_isToken_p11 M t = _ := tkLev (lo := 120) (hi := 126) a4
  have a6 : F_R_isToken_p5 M t = _ := tkLev (lo := 110) (hi := 113) a5
  exact tkLev (lo := 0) (hi := 108) a6
theorem cExists : F_Tok_exists M t = some (b2i (isTk t), M) := by
  have a1 : F_Tok_exists_p32 M t = some (b2i (decide (160 ≤ t) && decide (t ≤ 173)), M) := tkEnd
  have a2 : F_Tok_exists_p26 M t = _ := tkLev (lo := 150) (hi := 152) a1
  have a3 : F_Tok_exists_p20 M t = _ := tkLev (lo := 140) (hi := 145) a2
  have a4 : F_Tok_exists_p14 M t = _ := tkLev (lo := 130) (hi := 134) a3
  have a5 := tkLev (t := t) (lo := 120) (hi := 126) a4
  have p : F_Tok_isProcedure M t = some (b2i (decide (110 ≤ t) && decide (t ≤ 113)), M) := tkEnd
  have a6 : F_Tok_exists_p5 M t = some (b2i ((decide (110 ≤ t) && decide (t ≤ 113)) || ((decide (120 ≤ t) && decide (t ≤ 126)) || ((decide (130 ≤ t) && decide (t ≤ 134)) || ((decide (140 ≤ t) && decide (t ≤ 145)) || ((decide (150 ≤ t) && decide (t ≤ 152)) || (decide (160 ≤ t) && decide (t ≤ 173))))))), M) := by
    unfold F_Tok_exists_p5
    rw [p, zbi_some]
    cases hc : (decide (110 ≤ t) && decide (t ≤ 113)) with
    | true => rw [if_neg (by decide)]; rfl
    | false =>
      rw [if_pos (by decide), a5]
      rfl
  exact tkLev (lo := 0) (hi := 108) a6
end TK
/-- the texts, globals and cells of both sides are alike -/
def iT (M : zMem) (n : Nat) : Prop := n ≤ 150 ∧ M 0 5 = nI n ∧ M 34 1 = nI n ∧ (∀ i, i < n → M 1 i = M 35 i ∧ isTk (M 35 i) = true) ∧ (∀ g, g < 8 → M 2 g = M 36 g) ∧ ∀ i, i < 16 → M 3 i = M 37 i
section EZ
variable {M : zMem} {n : Nat}
theorem eTokens (h : iT M n) : F_L_tokens M = some (nI n, M) ∧ F_R_tokens M = some (nI n, M) := by
  obtain ⟨-, h1, h2, -⟩ := h
  unfold F_L_tokens F_R_tokens
  rw [h1, h2]
  exact ⟨rfl, rfl⟩
theorem ePrepare {a b : Int32} : ∃ r, F_L_prepare M a b = some (r, M) ∧ F_R_prepare M a b = some (r, M) := by
  have e : F_R_prepare M a b = F_L_prepare M a b := rfl
  rw [e]
  unfold F_L_prepare
  by_cases c1 : a < 4
  · exact ⟨_, if_pos c1, if_pos c1⟩
  · rw [if_neg c1]
    by_cases c2 : (8 : Int32) < a
    · exact ⟨_, if_pos c2, if_pos c2⟩
    · rw [if_neg c2]
      by_cases c3 : b < 0
      · exact ⟨_, if_pos c3, if_pos c3⟩
      · rw [if_neg c3]
        by_cases c4 : b ≤ 2
        · exact ⟨_, if_pos c4, if_pos c4⟩
        · exact ⟨_, if_neg c4, if_neg c4⟩
end EZ
