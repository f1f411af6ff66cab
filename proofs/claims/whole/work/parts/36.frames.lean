/-! WHAT A METHOD LEAVES ALONE -/
def zK {α : Type} (m : α → zMem) (ok : Nat → Prop) (M : zMem) (o : Option α) : Prop := ∀ y, o = some y → ∀ a, ok a → m y a = M a
section ZK
variable {α : Type} {m : α → zMem} {ok : Nat → Prop} {M : zMem}
theorem zK_none : zK m ok M (none : Option α) := fun _ h => by cases h
theorem zK_some {y : α} (h : m y = M) : zK m ok M (some y) := fun _ e a _ => by cases e; rw [h]
theorem zK_ix {i : Int32} {n : Nat} {k : Option α} (h : zK m ok M k) : zK m ok M (zix i n k) := fun y e => h y (zix_ex e).2
theorem zK_bit {x : Int32} {k : Option α} (h : zK m ok M k) : zK m ok M (zbit x k) := fun y e => h y (zbit_ex e).2
theorem zK_nz {x : Int32} {k : Option α} (h : zK m ok M k) : zK m ok M (znz x k) := fun y e => h y (znz_ex e).2
theorem zK_set {c i : Nat} {v : Int32} {k : zMem → Option α} (hc : ∀ a, ok a → a ≠ c) (h : ∀ M1, zK m ok M1 (k M1)) : zK m ok M (zset M c i v k) := fun y e a ha => by
  obtain ⟨M1, e1, e2⟩ := zset_ex e
  rw [h M1 y e2 a ha, e1, zup_ne (hc a ha)]
theorem zK_if {c : Prop} {d : Decidable c} {A B : Option α} (h1 : zK m ok M A) (h2 : zK m ok M B) : zK m ok M (@ite _ c d A B) := by
  by_cases hc : c
  · rw [if_pos hc]; exact h1
  · rw [if_neg hc]; exact h2
theorem zK_bi {f : Option (Int32 × zMem)} {k : Int32 → zMem → Option α} (h1 : zK Prod.snd ok M f) (h2 : ∀ x M1, zK m ok M1 (k x M1)) : zK m ok M (zbi f k) := fun y e a ha => by
  obtain ⟨x, M1, e1, e2⟩ := zbi_ex e
  rw [h2 x M1 y e2 a ha]
  exact h1 _ e1 a ha
theorem zK_bv {f : Option zMem} {k : zMem → Option α} (h1 : zK id ok M f) (h2 : ∀ M1, zK m ok M1 (k M1)) : zK m ok M (zbv f k) := fun y e a ha => by
  obtain ⟨M1, e1, e2⟩ := zbv_ex e
  rw [h2 M1 y e2 a ha]
  exact h1 _ e1 a ha
theorem zK_mono {ok2 : Nat → Prop} {f : Option α} (h : zK m ok M f) (hs : ∀ a, ok2 a → ok a) : zK m ok2 M f := fun y e a ha => h y e a (hs a ha)
end ZK
def okC (a : Nat) : Prop := 34 ≤ a ∨ a ≤ 3
def okC1 (a : Nat) : Prop := 34 ≤ a
def okR (a : Nat) : Prop := a < 34 ∨ a = 35 ∨ a = 36 ∨ a = 37
def okR1 (a : Nat) : Prop := a < 34
theorem okC_of {a : Nat} (h : okC1 a) : okC a := Or.inl h
theorem okR_of {a : Nat} (h : okR1 a) : okR a := Or.inl h
theorem W_Code_emit {M : zMem} {x0 x1 : Int32} : zK Prod.snd okC M (F_Code_emit M x0 x1) := by
  unfold F_Code_emit
  repeat' (first | with_reducible apply zK_if | with_reducible apply zK_ix | with_reducible apply zK_bit | with_reducible apply zK_nz | (with_reducible refine zK_set (fun _ h => by simp only [okC, okC1, okR, okR1] at h; omega) (fun _ => ?_)) | (with_reducible refine zK_bi ?_ (fun _ _ => ?_)) | (with_reducible refine zK_bv ?_ (fun _ => ?_)) | with_reducible exact zK_some rfl)
theorem W_Code_here {M : zMem} : zK Prod.snd okC M (F_Code_here M ) := by
  unfold F_Code_here
  repeat' (first | with_reducible apply zK_if | with_reducible apply zK_ix | with_reducible apply zK_bit | with_reducible apply zK_nz | (with_reducible refine zK_set (fun _ h => by simp only [okC, okC1, okR, okR1] at h; omega) (fun _ => ?_)) | (with_reducible refine zK_bi ?_ (fun _ _ => ?_)) | (with_reducible refine zK_bv ?_ (fun _ => ?_)) | with_reducible exact zK_some rfl)
theorem W_Code_leadChainHere_p4 {N : Nat} : ∀ (n : Nat) {M : zMem} {x0 x1 : Int32}, zK id okC M (F_Code_leadChainHere_p4 N n M x0 x1) := by
  intro n
  induction n with
  | zero =>
    intro M x0 x1
    unfold F_Code_leadChainHere_p4
    exact zK_none
  | succ n ih =>
    intro M x0 x1
    unfold F_Code_leadChainHere_p4
    repeat' (first | with_reducible apply zK_if | with_reducible apply zK_ix | with_reducible apply zK_bit | with_reducible apply zK_nz | (with_reducible refine zK_set (fun _ h => by simp only [okC, okC1, okR, okR1] at h; omega) (fun _ => ?_)) | (with_reducible refine zK_bi ?_ (fun _ _ => ?_)) | (with_reducible refine zK_bv ?_ (fun _ => ?_)) | with_reducible exact zK_some rfl | with_reducible exact ih)
theorem W_Code_leadChainHere {N : Nat} {M : zMem} {x0 : Int32} : zK id okC M (F_Code_leadChainHere N M x0) := by
  unfold F_Code_leadChainHere
  repeat' (first | with_reducible apply zK_if | with_reducible apply zK_ix | with_reducible apply zK_bit | with_reducible apply zK_nz | (with_reducible refine zK_set (fun _ h => by simp only [okC, okC1, okR, okR1] at h; omega) (fun _ => ?_)) | (with_reducible refine zK_bi ?_ (fun _ _ => ?_)) | (with_reducible refine zK_bv ?_ (fun _ => ?_)) | with_reducible exact zK_some rfl | with_reducible exact W_Code_leadChainHere_p4 _)
theorem W_Code_leadHere {M : zMem} {x0 : Int32} : zK id okC M (F_Code_leadHere M x0) := by
  unfold F_Code_leadHere
  repeat' (first | with_reducible apply zK_if | with_reducible apply zK_ix | with_reducible apply zK_bit | with_reducible apply zK_nz | (with_reducible refine zK_set (fun _ h => by simp only [okC, okC1, okR, okR1] at h; omega) (fun _ => ?_)) | (with_reducible refine zK_bi ?_ (fun _ _ => ?_)) | (with_reducible refine zK_bv ?_ (fun _ => ?_)) | with_reducible exact zK_some rfl)
theorem W_Code_operand {M : zMem} {x0 : Int32} : zK Prod.snd okC M (F_Code_operand M x0) := by
  unfold F_Code_operand
  repeat' (first | with_reducible apply zK_if | with_reducible apply zK_ix | with_reducible apply zK_bit | with_reducible apply zK_nz | (with_reducible refine zK_set (fun _ h => by simp only [okC, okC1, okR, okR1] at h; omega) (fun _ => ?_)) | (with_reducible refine zK_bi ?_ (fun _ _ => ?_)) | (with_reducible refine zK_bv ?_ (fun _ => ?_)) | with_reducible exact zK_some rfl)
theorem W_Code_operation {M : zMem} {x0 : Int32} : zK Prod.snd okC M (F_Code_operation M x0) := by
  unfold F_Code_operation
  repeat' (first | with_reducible apply zK_if | with_reducible apply zK_ix | with_reducible apply zK_bit | with_reducible apply zK_nz | (with_reducible refine zK_set (fun _ h => by simp only [okC, okC1, okR, okR1] at h; omega) (fun _ => ?_)) | (with_reducible refine zK_bi ?_ (fun _ _ => ?_)) | (with_reducible refine zK_bv ?_ (fun _ => ?_)) | with_reducible exact zK_some rfl)
theorem W_Code_restart {M : zMem} : zK id okC M (F_Code_restart M ) := by
  unfold F_Code_restart
  repeat' (first | with_reducible apply zK_if | with_reducible apply zK_ix | with_reducible apply zK_bit | with_reducible apply zK_nz | (with_reducible refine zK_set (fun _ h => by simp only [okC, okC1, okR, okR1] at h; omega) (fun _ => ?_)) | (with_reducible refine zK_bi ?_ (fun _ _ => ?_)) | (with_reducible refine zK_bv ?_ (fun _ => ?_)) | with_reducible exact zK_some rfl)
theorem W_Plain_beginOperand {M : zMem} : zK id okC M (F_Plain_beginOperand M ) := by
  unfold F_Plain_beginOperand
  repeat' (first | with_reducible apply zK_if | with_reducible apply zK_ix | with_reducible apply zK_bit | with_reducible apply zK_nz | (with_reducible refine zK_set (fun _ h => by simp only [okC, okC1, okR, okR1] at h; omega) (fun _ => ?_)) | (with_reducible refine zK_bi ?_ (fun _ _ => ?_)) | (with_reducible refine zK_bv ?_ (fun _ => ?_)) | with_reducible exact zK_some rfl)
theorem W_Expr_simpleFactor {M : zMem} {x0 x1 : Int32} : zK Prod.snd okC M (F_Expr_simpleFactor M x0 x1) := by
  unfold F_Expr_simpleFactor
  repeat' (first | with_reducible apply zK_if | with_reducible apply zK_ix | with_reducible apply zK_bit | with_reducible apply zK_nz | (with_reducible refine zK_set (fun _ h => by simp only [okC, okC1, okR, okR1] at h; omega) (fun _ => ?_)) | (with_reducible refine zK_bi ?_ (fun _ _ => ?_)) | (with_reducible refine zK_bv ?_ (fun _ => ?_)) | with_reducible exact zK_some rfl | with_reducible exact W_Code_emit | with_reducible exact W_Plain_beginOperand)
theorem W_Pend_first {M : zMem} : zK Prod.snd okC M (F_Pend_first M ) := by
  unfold F_Pend_first
  repeat' (first | with_reducible apply zK_if | with_reducible apply zK_ix | with_reducible apply zK_bit | with_reducible apply zK_nz | (with_reducible refine zK_set (fun _ h => by simp only [okC, okC1, okR, okR1] at h; omega) (fun _ => ?_)) | (with_reducible refine zK_bi ?_ (fun _ _ => ?_)) | (with_reducible refine zK_bv ?_ (fun _ => ?_)) | with_reducible exact zK_some rfl)
theorem W_Pend_kind {M : zMem} : zK Prod.snd okC M (F_Pend_kind M ) := by
  unfold F_Pend_kind
  repeat' (first | with_reducible apply zK_if | with_reducible apply zK_ix | with_reducible apply zK_bit | with_reducible apply zK_nz | (with_reducible refine zK_set (fun _ h => by simp only [okC, okC1, okR, okR1] at h; omega) (fun _ => ?_)) | (with_reducible refine zK_bi ?_ (fun _ _ => ?_)) | (with_reducible refine zK_bv ?_ (fun _ => ?_)) | with_reducible exact zK_some rfl)
theorem W_Pend_pop {M : zMem} : zK id okC M (F_Pend_pop M ) := by
  unfold F_Pend_pop
  repeat' (first | with_reducible apply zK_if | with_reducible apply zK_ix | with_reducible apply zK_bit | with_reducible apply zK_nz | (with_reducible refine zK_set (fun _ h => by simp only [okC, okC1, okR, okR1] at h; omega) (fun _ => ?_)) | (with_reducible refine zK_bi ?_ (fun _ _ => ?_)) | (with_reducible refine zK_bv ?_ (fun _ => ?_)) | with_reducible exact zK_some rfl)
theorem W_Proc_callee {M : zMem} {x0 : Int32} : zK Prod.snd okC M (F_Proc_callee M x0) := by
  unfold F_Proc_callee
  repeat' (first | with_reducible apply zK_if | with_reducible apply zK_ix | with_reducible apply zK_bit | with_reducible apply zK_nz | (with_reducible refine zK_set (fun _ h => by simp only [okC, okC1, okR, okR1] at h; omega) (fun _ => ?_)) | (with_reducible refine zK_bi ?_ (fun _ _ => ?_)) | (with_reducible refine zK_bv ?_ (fun _ => ?_)) | with_reducible exact zK_some rfl)
theorem W_Expr_endCall {M : zMem} : zK Prod.snd okC M (F_Expr_endCall M ) := by
  unfold F_Expr_endCall
  repeat' (first | with_reducible apply zK_if | with_reducible apply zK_ix | with_reducible apply zK_bit | with_reducible apply zK_nz | (with_reducible refine zK_set (fun _ h => by simp only [okC, okC1, okR, okR1] at h; omega) (fun _ => ?_)) | (with_reducible refine zK_bi ?_ (fun _ _ => ?_)) | (with_reducible refine zK_bv ?_ (fun _ => ?_)) | with_reducible exact zK_some rfl | with_reducible exact W_Code_emit | with_reducible exact W_Expr_simpleFactor | with_reducible exact W_Pend_first | with_reducible exact W_Pend_kind | with_reducible exact W_Pend_pop | with_reducible exact W_Proc_callee)
theorem W_Expr_afterArgument {M : zMem} {x0 : Int32} : zK Prod.snd okC M (F_Expr_afterArgument M x0) := by
  unfold F_Expr_afterArgument
  repeat' (first | with_reducible apply zK_if | with_reducible apply zK_ix | with_reducible apply zK_bit | with_reducible apply zK_nz | (with_reducible refine zK_set (fun _ h => by simp only [okC, okC1, okR, okR1] at h; omega) (fun _ => ?_)) | (with_reducible refine zK_bi ?_ (fun _ _ => ?_)) | (with_reducible refine zK_bv ?_ (fun _ => ?_)) | with_reducible exact zK_some rfl | with_reducible exact W_Expr_endCall)
theorem W_Pend_push {M : zMem} {x0 x1 x2 : Int32} : zK id okC M (F_Pend_push M x0 x1 x2) := by
  unfold F_Pend_push
  repeat' (first | with_reducible apply zK_if | with_reducible apply zK_ix | with_reducible apply zK_bit | with_reducible apply zK_nz | (with_reducible refine zK_set (fun _ h => by simp only [okC, okC1, okR, okR1] at h; omega) (fun _ => ?_)) | (with_reducible refine zK_bi ?_ (fun _ _ => ?_)) | (with_reducible refine zK_bv ?_ (fun _ => ?_)) | with_reducible exact zK_some rfl)
theorem W_Proc_beginCall {M : zMem} {x0 x1 : Int32} : zK id okC M (F_Proc_beginCall M x0 x1) := by
  unfold F_Proc_beginCall
  repeat' (first | with_reducible apply zK_if | with_reducible apply zK_ix | with_reducible apply zK_bit | with_reducible apply zK_nz | (with_reducible refine zK_set (fun _ h => by simp only [okC, okC1, okR, okR1] at h; omega) (fun _ => ?_)) | (with_reducible refine zK_bi ?_ (fun _ _ => ?_)) | (with_reducible refine zK_bv ?_ (fun _ => ?_)) | with_reducible exact zK_some rfl)
theorem W_Proc_isOwn {M : zMem} {x0 : Int32} : zK Prod.snd okC M (F_Proc_isOwn M x0) := by
  unfold F_Proc_isOwn
  repeat' (first | with_reducible apply zK_if | with_reducible apply zK_ix | with_reducible apply zK_bit | with_reducible apply zK_nz | (with_reducible refine zK_set (fun _ h => by simp only [okC, okC1, okR, okR1] at h; omega) (fun _ => ?_)) | (with_reducible refine zK_bi ?_ (fun _ _ => ?_)) | (with_reducible refine zK_bv ?_ (fun _ => ?_)) | with_reducible exact zK_some rfl)
theorem W_Tok_isName {M : zMem} {x0 : Int32} : zK Prod.snd okC M (F_Tok_isName M x0) := by
  unfold F_Tok_isName
  repeat' (first | with_reducible apply zK_if | with_reducible apply zK_ix | with_reducible apply zK_bit | with_reducible apply zK_nz | (with_reducible refine zK_set (fun _ h => by simp only [okC, okC1, okR, okR1] at h; omega) (fun _ => ?_)) | (with_reducible refine zK_bi ?_ (fun _ _ => ?_)) | (with_reducible refine zK_bv ?_ (fun _ => ?_)) | with_reducible exact zK_some rfl)
theorem W_Tok_isNumber {M : zMem} {x0 : Int32} : zK Prod.snd okC M (F_Tok_isNumber M x0) := by
  unfold F_Tok_isNumber
  repeat' (first | with_reducible apply zK_if | with_reducible apply zK_ix | with_reducible apply zK_bit | with_reducible apply zK_nz | (with_reducible refine zK_set (fun _ h => by simp only [okC, okC1, okR, okR1] at h; omega) (fun _ => ?_)) | (with_reducible refine zK_bi ?_ (fun _ _ => ?_)) | (with_reducible refine zK_bv ?_ (fun _ => ?_)) | with_reducible exact zK_some rfl)
theorem W_Tok_isProcedure {M : zMem} {x0 : Int32} : zK Prod.snd okC M (F_Tok_isProcedure M x0) := by
  unfold F_Tok_isProcedure
  repeat' (first | with_reducible apply zK_if | with_reducible apply zK_ix | with_reducible apply zK_bit | with_reducible apply zK_nz | (with_reducible refine zK_set (fun _ h => by simp only [okC, okC1, okR, okR1] at h; omega) (fun _ => ?_)) | (with_reducible refine zK_bi ?_ (fun _ _ => ?_)) | (with_reducible refine zK_bv ?_ (fun _ => ?_)) | with_reducible exact zK_some rfl)
theorem W_Expr_factor_p24 {M : zMem} {x0 x1 : Int32} : zK Prod.snd okC M (F_Expr_factor_p24 M x0 x1) := by
  unfold F_Expr_factor_p24
  repeat' (first | with_reducible apply zK_if | with_reducible apply zK_ix | with_reducible apply zK_bit | with_reducible apply zK_nz | (with_reducible refine zK_set (fun _ h => by simp only [okC, okC1, okR, okR1] at h; omega) (fun _ => ?_)) | (with_reducible refine zK_bi ?_ (fun _ _ => ?_)) | (with_reducible refine zK_bv ?_ (fun _ => ?_)) | with_reducible exact zK_some rfl | with_reducible exact W_Expr_simpleFactor | with_reducible exact W_Pend_push | with_reducible exact W_Proc_beginCall | with_reducible exact W_Proc_isOwn | with_reducible exact W_Tok_isName | with_reducible exact W_Tok_isNumber | with_reducible exact W_Tok_isProcedure)
theorem W_Expr_factor {M : zMem} {x0 x1 : Int32} : zK Prod.snd okC M (F_Expr_factor M x0 x1) := by
  unfold F_Expr_factor
  repeat' (first | with_reducible apply zK_if | with_reducible apply zK_ix | with_reducible apply zK_bit | with_reducible apply zK_nz | (with_reducible refine zK_set (fun _ h => by simp only [okC, okC1, okR, okR1] at h; omega) (fun _ => ?_)) | (with_reducible refine zK_bi ?_ (fun _ _ => ?_)) | (with_reducible refine zK_bv ?_ (fun _ => ?_)) | with_reducible exact zK_some rfl | with_reducible exact W_Expr_simpleFactor | with_reducible exact W_Pend_push | with_reducible exact W_Proc_beginCall | with_reducible exact W_Proc_isOwn | with_reducible exact W_Tok_isName | with_reducible exact W_Tok_isNumber | with_reducible exact W_Tok_isProcedure | with_reducible exact W_Expr_factor_p24)
theorem W_Plain_leaveOut {M : zMem} {x0 : Int32} : zK id okC M (F_Plain_leaveOut M x0) := by
  unfold F_Plain_leaveOut
  repeat' (first | with_reducible apply zK_if | with_reducible apply zK_ix | with_reducible apply zK_bit | with_reducible apply zK_nz | (with_reducible refine zK_set (fun _ h => by simp only [okC, okC1, okR, okR1] at h; omega) (fun _ => ?_)) | (with_reducible refine zK_bi ?_ (fun _ _ => ?_)) | (with_reducible refine zK_bv ?_ (fun _ => ?_)) | with_reducible exact zK_some rfl)
theorem W_Expr_begin {M : zMem} {x0 x1 : Int32} : zK Prod.snd okC M (F_Expr_begin M x0 x1) := by
  unfold F_Expr_begin
  repeat' (first | with_reducible apply zK_if | with_reducible apply zK_ix | with_reducible apply zK_bit | with_reducible apply zK_nz | (with_reducible refine zK_set (fun _ h => by simp only [okC, okC1, okR, okR1] at h; omega) (fun _ => ?_)) | (with_reducible refine zK_bi ?_ (fun _ _ => ?_)) | (with_reducible refine zK_bv ?_ (fun _ => ?_)) | with_reducible exact zK_some rfl | with_reducible exact W_Expr_factor | with_reducible exact W_Pend_push | with_reducible exact W_Plain_leaveOut)
theorem W_Plain_putInBrackets {M : zMem} {x0 x1 : Int32} : zK id okC M (F_Plain_putInBrackets M x0 x1) := by
  unfold F_Plain_putInBrackets
  repeat' (first | with_reducible apply zK_if | with_reducible apply zK_ix | with_reducible apply zK_bit | with_reducible apply zK_nz | (with_reducible refine zK_set (fun _ h => by simp only [okC, okC1, okR, okR1] at h; omega) (fun _ => ?_)) | (with_reducible refine zK_bi ?_ (fun _ _ => ?_)) | (with_reducible refine zK_bv ?_ (fun _ => ?_)) | with_reducible exact zK_some rfl)
theorem W_Expr_closeBracket {M : zMem} {x0 : Int32} : zK Prod.snd okC M (F_Expr_closeBracket M x0) := by
  unfold F_Expr_closeBracket
  repeat' (first | with_reducible apply zK_if | with_reducible apply zK_ix | with_reducible apply zK_bit | with_reducible apply zK_nz | (with_reducible refine zK_set (fun _ h => by simp only [okC, okC1, okR, okR1] at h; omega) (fun _ => ?_)) | (with_reducible refine zK_bi ?_ (fun _ _ => ?_)) | (with_reducible refine zK_bv ?_ (fun _ => ?_)) | with_reducible exact zK_some rfl | with_reducible exact W_Pend_first | with_reducible exact W_Pend_pop | with_reducible exact W_Plain_putInBrackets)
theorem W_Expr_closeIndex {M : zMem} : zK Prod.snd okC M (F_Expr_closeIndex M ) := by
  unfold F_Expr_closeIndex
  repeat' (first | with_reducible apply zK_if | with_reducible apply zK_ix | with_reducible apply zK_bit | with_reducible apply zK_nz | (with_reducible refine zK_set (fun _ h => by simp only [okC, okC1, okR, okR1] at h; omega) (fun _ => ?_)) | (with_reducible refine zK_bi ?_ (fun _ _ => ?_)) | (with_reducible refine zK_bv ?_ (fun _ => ?_)) | with_reducible exact zK_some rfl | with_reducible exact W_Expr_simpleFactor | with_reducible exact W_Pend_pop)
theorem W_Plain_becomeLevel {M : zMem} {x0 : Int32} : zK id okC M (F_Plain_becomeLevel M x0) := by
  unfold F_Plain_becomeLevel
  repeat' (first | with_reducible apply zK_if | with_reducible apply zK_ix | with_reducible apply zK_bit | with_reducible apply zK_nz | (with_reducible refine zK_set (fun _ h => by simp only [okC, okC1, okR, okR1] at h; omega) (fun _ => ?_)) | (with_reducible refine zK_bi ?_ (fun _ _ => ?_)) | (with_reducible refine zK_bv ?_ (fun _ => ?_)) | with_reducible exact zK_some rfl)
theorem W_Plain_judgeBrackets_p34 {M : zMem} : zK id okC M (F_Plain_judgeBrackets_p34 M ) := by
  unfold F_Plain_judgeBrackets_p34
  repeat' (first | with_reducible apply zK_if | with_reducible apply zK_ix | with_reducible apply zK_bit | with_reducible apply zK_nz | (with_reducible refine zK_set (fun _ h => by simp only [okC, okC1, okR, okR1] at h; omega) (fun _ => ?_)) | (with_reducible refine zK_bi ?_ (fun _ _ => ?_)) | (with_reducible refine zK_bv ?_ (fun _ => ?_)) | with_reducible exact zK_some rfl)
theorem W_Plain_judgeBrackets {M : zMem} {x0 : Int32} : zK id okC M (F_Plain_judgeBrackets M x0) := by
  unfold F_Plain_judgeBrackets
  repeat' (first | with_reducible apply zK_if | with_reducible apply zK_ix | with_reducible apply zK_bit | with_reducible apply zK_nz | (with_reducible refine zK_set (fun _ h => by simp only [okC, okC1, okR, okR1] at h; omega) (fun _ => ?_)) | (with_reducible refine zK_bi ?_ (fun _ _ => ?_)) | (with_reducible refine zK_bv ?_ (fun _ => ?_)) | with_reducible exact zK_some rfl | with_reducible exact W_Plain_judgeBrackets_p34)
theorem W_Expr_endOperator_p10 {M : zMem} {x0 x1 x2 x3 : Int32} : zK id okC M (F_Expr_endOperator_p10 M x0 x1 x2 x3) := by
  unfold F_Expr_endOperator_p10
  repeat' (first | with_reducible apply zK_if | with_reducible apply zK_ix | with_reducible apply zK_bit | with_reducible apply zK_nz | (with_reducible refine zK_set (fun _ h => by simp only [okC, okC1, okR, okR1] at h; omega) (fun _ => ?_)) | (with_reducible refine zK_bi ?_ (fun _ _ => ?_)) | (with_reducible refine zK_bv ?_ (fun _ => ?_)) | with_reducible exact zK_some rfl | with_reducible exact W_Code_emit | with_reducible exact W_Code_leadHere | with_reducible exact W_Plain_becomeLevel | with_reducible exact W_Plain_judgeBrackets)
theorem W_Expr_endOperator {M : zMem} {x0 x1 x2 : Int32} : zK id okC M (F_Expr_endOperator M x0 x1 x2) := by
  unfold F_Expr_endOperator
  repeat' (first | with_reducible apply zK_if | with_reducible apply zK_ix | with_reducible apply zK_bit | with_reducible apply zK_nz | (with_reducible refine zK_set (fun _ h => by simp only [okC, okC1, okR, okR1] at h; omega) (fun _ => ?_)) | (with_reducible refine zK_bi ?_ (fun _ _ => ?_)) | (with_reducible refine zK_bv ?_ (fun _ => ?_)) | with_reducible exact zK_some rfl | with_reducible exact W_Code_emit | with_reducible exact W_Code_leadHere | with_reducible exact W_Plain_becomeLevel | with_reducible exact W_Plain_judgeBrackets | with_reducible exact W_Expr_endOperator_p10)
theorem W_Level_ofOperator_p25 {M : zMem} {x0 : Int32} : zK Prod.snd okC M (F_Level_ofOperator_p25 M x0) := by
  unfold F_Level_ofOperator_p25
  repeat' (first | with_reducible apply zK_if | with_reducible apply zK_ix | with_reducible apply zK_bit | with_reducible apply zK_nz | (with_reducible refine zK_set (fun _ h => by simp only [okC, okC1, okR, okR1] at h; omega) (fun _ => ?_)) | (with_reducible refine zK_bi ?_ (fun _ _ => ?_)) | (with_reducible refine zK_bv ?_ (fun _ => ?_)) | with_reducible exact zK_some rfl)
theorem W_Level_ofOperator_p8 {M : zMem} {x0 : Int32} : zK Prod.snd okC M (F_Level_ofOperator_p8 M x0) := by
  unfold F_Level_ofOperator_p8
  repeat' (first | with_reducible apply zK_if | with_reducible apply zK_ix | with_reducible apply zK_bit | with_reducible apply zK_nz | (with_reducible refine zK_set (fun _ h => by simp only [okC, okC1, okR, okR1] at h; omega) (fun _ => ?_)) | (with_reducible refine zK_bi ?_ (fun _ _ => ?_)) | (with_reducible refine zK_bv ?_ (fun _ => ?_)) | with_reducible exact zK_some rfl | with_reducible exact W_Level_ofOperator_p25)
theorem W_Level_ofOperator {M : zMem} {x0 : Int32} : zK Prod.snd okC M (F_Level_ofOperator M x0) := by
  unfold F_Level_ofOperator
  repeat' (first | with_reducible apply zK_if | with_reducible apply zK_ix | with_reducible apply zK_bit | with_reducible apply zK_nz | (with_reducible refine zK_set (fun _ h => by simp only [okC, okC1, okR, okR1] at h; omega) (fun _ => ?_)) | (with_reducible refine zK_bi ?_ (fun _ _ => ?_)) | (with_reducible refine zK_bv ?_ (fun _ => ?_)) | with_reducible exact zK_some rfl | with_reducible exact W_Level_ofOperator_p25 | with_reducible exact W_Level_ofOperator_p8)
theorem W_Expr_levelOf {M : zMem} {x0 : Int32} : zK Prod.snd okC M (F_Expr_levelOf M x0) := by
  unfold F_Expr_levelOf
  repeat' (first | with_reducible apply zK_if | with_reducible apply zK_ix | with_reducible apply zK_bit | with_reducible apply zK_nz | (with_reducible refine zK_set (fun _ h => by simp only [okC, okC1, okR, okR1] at h; omega) (fun _ => ?_)) | (with_reducible refine zK_bi ?_ (fun _ _ => ?_)) | (with_reducible refine zK_bv ?_ (fun _ => ?_)) | with_reducible exact zK_some rfl | with_reducible exact W_Level_ofOperator)
theorem W_Pend_second {M : zMem} : zK Prod.snd okC M (F_Pend_second M ) := by
  unfold F_Pend_second
  repeat' (first | with_reducible apply zK_if | with_reducible apply zK_ix | with_reducible apply zK_bit | with_reducible apply zK_nz | (with_reducible refine zK_set (fun _ h => by simp only [okC, okC1, okR, okR1] at h; omega) (fun _ => ?_)) | (with_reducible refine zK_bi ?_ (fun _ _ => ?_)) | (with_reducible refine zK_bv ?_ (fun _ => ?_)) | with_reducible exact zK_some rfl)
theorem W_Expr_endOperators_p2 {N : Nat} : ∀ (n : Nat) {M : zMem} {x0 x1 : Int32}, zK id okC M (F_Expr_endOperators_p2 N n M x0 x1) := by
  intro n
  induction n with
  | zero =>
    intro M x0 x1
    unfold F_Expr_endOperators_p2
    exact zK_none
  | succ n ih =>
    intro M x0 x1
    unfold F_Expr_endOperators_p2
    repeat' (first | with_reducible apply zK_if | with_reducible apply zK_ix | with_reducible apply zK_bit | with_reducible apply zK_nz | (with_reducible refine zK_set (fun _ h => by simp only [okC, okC1, okR, okR1] at h; omega) (fun _ => ?_)) | (with_reducible refine zK_bi ?_ (fun _ _ => ?_)) | (with_reducible refine zK_bv ?_ (fun _ => ?_)) | with_reducible exact zK_some rfl | with_reducible exact ih | with_reducible exact W_Expr_endOperator | with_reducible exact W_Expr_levelOf | with_reducible exact W_Pend_first | with_reducible exact W_Pend_kind | with_reducible exact W_Pend_pop | with_reducible exact W_Pend_second)
theorem W_Expr_endOperators {N : Nat} {M : zMem} {x0 : Int32} : zK id okC M (F_Expr_endOperators N M x0) := by
  unfold F_Expr_endOperators
  repeat' (first | with_reducible apply zK_if | with_reducible apply zK_ix | with_reducible apply zK_bit | with_reducible apply zK_nz | (with_reducible refine zK_set (fun _ h => by simp only [okC, okC1, okR, okR1] at h; omega) (fun _ => ?_)) | (with_reducible refine zK_bi ?_ (fun _ _ => ?_)) | (with_reducible refine zK_bv ?_ (fun _ => ?_)) | with_reducible exact zK_some rfl | with_reducible exact W_Expr_endOperator | with_reducible exact W_Expr_levelOf | with_reducible exact W_Pend_first | with_reducible exact W_Pend_kind | with_reducible exact W_Pend_pop | with_reducible exact W_Pend_second | with_reducible exact W_Expr_endOperators_p2 _)
theorem W_Proc_addArgument {M : zMem} {x0 : Int32} : zK id okC M (F_Proc_addArgument M x0) := by
  unfold F_Proc_addArgument
  repeat' (first | with_reducible apply zK_if | with_reducible apply zK_ix | with_reducible apply zK_bit | with_reducible apply zK_nz | (with_reducible refine zK_set (fun _ h => by simp only [okC, okC1, okR, okR1] at h; omega) (fun _ => ?_)) | (with_reducible refine zK_bi ?_ (fun _ _ => ?_)) | (with_reducible refine zK_bv ?_ (fun _ => ?_)) | with_reducible exact zK_some rfl)
theorem W_Expr_end_p15 {N : Nat} {M : zMem} : zK Prod.snd okC M (F_Expr_end_p15 N M ) := by
  unfold F_Expr_end_p15
  repeat' (first | with_reducible apply zK_if | with_reducible apply zK_ix | with_reducible apply zK_bit | with_reducible apply zK_nz | (with_reducible refine zK_set (fun _ h => by simp only [okC, okC1, okR, okR1] at h; omega) (fun _ => ?_)) | (with_reducible refine zK_bi ?_ (fun _ _ => ?_)) | (with_reducible refine zK_bv ?_ (fun _ => ?_)) | with_reducible exact zK_some rfl | with_reducible exact W_Code_emit | with_reducible exact W_Expr_endOperators | with_reducible exact W_Pend_first | with_reducible exact W_Pend_kind | with_reducible exact W_Pend_pop | with_reducible exact W_Pend_second | with_reducible exact W_Plain_judgeBrackets | with_reducible exact W_Proc_addArgument)
theorem W_Expr_end_p29 {N : Nat} {M : zMem} : zK Prod.snd okC M (F_Expr_end_p29 N M ) := by
  unfold F_Expr_end_p29
  repeat' (first | with_reducible apply zK_if | with_reducible apply zK_ix | with_reducible apply zK_bit | with_reducible apply zK_nz | (with_reducible refine zK_set (fun _ h => by simp only [okC, okC1, okR, okR1] at h; omega) (fun _ => ?_)) | (with_reducible refine zK_bi ?_ (fun _ _ => ?_)) | (with_reducible refine zK_bv ?_ (fun _ => ?_)) | with_reducible exact zK_some rfl | with_reducible exact W_Code_emit | with_reducible exact W_Expr_endOperators | with_reducible exact W_Pend_first | with_reducible exact W_Pend_kind | with_reducible exact W_Pend_pop | with_reducible exact W_Pend_second | with_reducible exact W_Plain_judgeBrackets | with_reducible exact W_Proc_addArgument | with_reducible exact W_Expr_end_p15)
theorem W_Expr_end {N : Nat} {M : zMem} : zK Prod.snd okC M (F_Expr_end N M ) := by
  unfold F_Expr_end
  repeat' (first | with_reducible apply zK_if | with_reducible apply zK_ix | with_reducible apply zK_bit | with_reducible apply zK_nz | (with_reducible refine zK_set (fun _ h => by simp only [okC, okC1, okR, okR1] at h; omega) (fun _ => ?_)) | (with_reducible refine zK_bi ?_ (fun _ _ => ?_)) | (with_reducible refine zK_bv ?_ (fun _ => ?_)) | with_reducible exact zK_some rfl | with_reducible exact W_Code_emit | with_reducible exact W_Expr_endOperators | with_reducible exact W_Pend_first | with_reducible exact W_Pend_kind | with_reducible exact W_Pend_pop | with_reducible exact W_Pend_second | with_reducible exact W_Plain_judgeBrackets | with_reducible exact W_Proc_addArgument | with_reducible exact W_Expr_end_p15 | with_reducible exact W_Expr_end_p29)
theorem W_Expr_operator_p50 {N : Nat} {M : zMem} {x0 x1 x2 : Int32} : zK Prod.snd okC M (F_Expr_operator_p50 N M x0 x1 x2) := by
  unfold F_Expr_operator_p50
  repeat' (first | with_reducible apply zK_if | with_reducible apply zK_ix | with_reducible apply zK_bit | with_reducible apply zK_nz | (with_reducible refine zK_set (fun _ h => by simp only [okC, okC1, okR, okR1] at h; omega) (fun _ => ?_)) | (with_reducible refine zK_bi ?_ (fun _ _ => ?_)) | (with_reducible refine zK_bv ?_ (fun _ => ?_)) | with_reducible exact zK_some rfl | with_reducible exact W_Code_emit | with_reducible exact W_Expr_endOperators | with_reducible exact W_Level_ofOperator | with_reducible exact W_Pend_kind | with_reducible exact W_Pend_push | with_reducible exact W_Plain_judgeBrackets)
theorem W_Expr_operator_p25 {N : Nat} {M : zMem} {x0 x1 x2 : Int32} : zK Prod.snd okC M (F_Expr_operator_p25 N M x0 x1 x2) := by
  unfold F_Expr_operator_p25
  repeat' (first | with_reducible apply zK_if | with_reducible apply zK_ix | with_reducible apply zK_bit | with_reducible apply zK_nz | (with_reducible refine zK_set (fun _ h => by simp only [okC, okC1, okR, okR1] at h; omega) (fun _ => ?_)) | (with_reducible refine zK_bi ?_ (fun _ _ => ?_)) | (with_reducible refine zK_bv ?_ (fun _ => ?_)) | with_reducible exact zK_some rfl | with_reducible exact W_Code_emit | with_reducible exact W_Expr_endOperators | with_reducible exact W_Level_ofOperator | with_reducible exact W_Pend_kind | with_reducible exact W_Pend_push | with_reducible exact W_Plain_judgeBrackets | with_reducible exact W_Expr_operator_p50)
theorem W_Expr_operator_p15 {N : Nat} {M : zMem} {x0 x1 x2 : Int32} : zK Prod.snd okC M (F_Expr_operator_p15 N M x0 x1 x2) := by
  unfold F_Expr_operator_p15
  repeat' (first | with_reducible apply zK_if | with_reducible apply zK_ix | with_reducible apply zK_bit | with_reducible apply zK_nz | (with_reducible refine zK_set (fun _ h => by simp only [okC, okC1, okR, okR1] at h; omega) (fun _ => ?_)) | (with_reducible refine zK_bi ?_ (fun _ _ => ?_)) | (with_reducible refine zK_bv ?_ (fun _ => ?_)) | with_reducible exact zK_some rfl | with_reducible exact W_Code_emit | with_reducible exact W_Expr_endOperators | with_reducible exact W_Level_ofOperator | with_reducible exact W_Pend_kind | with_reducible exact W_Pend_push | with_reducible exact W_Plain_judgeBrackets | with_reducible exact W_Expr_operator_p50 | with_reducible exact W_Expr_operator_p25)
theorem W_Expr_operator {N : Nat} {M : zMem} {x0 : Int32} : zK Prod.snd okC M (F_Expr_operator N M x0) := by
  unfold F_Expr_operator
  repeat' (first | with_reducible apply zK_if | with_reducible apply zK_ix | with_reducible apply zK_bit | with_reducible apply zK_nz | (with_reducible refine zK_set (fun _ h => by simp only [okC, okC1, okR, okR1] at h; omega) (fun _ => ?_)) | (with_reducible refine zK_bi ?_ (fun _ _ => ?_)) | (with_reducible refine zK_bv ?_ (fun _ => ?_)) | with_reducible exact zK_some rfl | with_reducible exact W_Code_emit | with_reducible exact W_Expr_endOperators | with_reducible exact W_Level_ofOperator | with_reducible exact W_Pend_kind | with_reducible exact W_Pend_push | with_reducible exact W_Plain_judgeBrackets | with_reducible exact W_Expr_operator_p50 | with_reducible exact W_Expr_operator_p25 | with_reducible exact W_Expr_operator_p15)
theorem W_Mach_finish {M : zMem} {x0 : Int32} : zK id okC M (F_Mach_finish M x0) := by
  unfold F_Mach_finish
  repeat' (first | with_reducible apply zK_if | with_reducible apply zK_ix | with_reducible apply zK_bit | with_reducible apply zK_nz | (with_reducible refine zK_set (fun _ h => by simp only [okC, okC1, okR, okR1] at h; omega) (fun _ => ?_)) | (with_reducible refine zK_bi ?_ (fun _ _ => ?_)) | (with_reducible refine zK_bv ?_ (fun _ => ?_)) | with_reducible exact zK_some rfl)
theorem W_Mach_push {M : zMem} {x0 : Int32} : zK id okC M (F_Mach_push M x0) := by
  unfold F_Mach_push
  repeat' (first | with_reducible apply zK_if | with_reducible apply zK_ix | with_reducible apply zK_bit | with_reducible apply zK_nz | (with_reducible refine zK_set (fun _ h => by simp only [okC, okC1, okR, okR1] at h; omega) (fun _ => ?_)) | (with_reducible refine zK_bi ?_ (fun _ _ => ?_)) | (with_reducible refine zK_bv ?_ (fun _ => ?_)) | with_reducible exact zK_some rfl)
theorem W_Mach_divide_p17 {M : zMem} {x0 : Int32} : zK id okC M (F_Mach_divide_p17 M x0) := by
  unfold F_Mach_divide_p17
  repeat' (first | with_reducible apply zK_if | with_reducible apply zK_ix | with_reducible apply zK_bit | with_reducible apply zK_nz | (with_reducible refine zK_set (fun _ h => by simp only [okC, okC1, okR, okR1] at h; omega) (fun _ => ?_)) | (with_reducible refine zK_bi ?_ (fun _ _ => ?_)) | (with_reducible refine zK_bv ?_ (fun _ => ?_)) | with_reducible exact zK_some rfl | with_reducible exact W_Mach_finish | with_reducible exact W_Mach_push)
theorem W_Mach_divide {M : zMem} {x0 x1 x2 : Int32} : zK id okC M (F_Mach_divide M x0 x1 x2) := by
  unfold F_Mach_divide
  repeat' (first | with_reducible apply zK_if | with_reducible apply zK_ix | with_reducible apply zK_bit | with_reducible apply zK_nz | (with_reducible refine zK_set (fun _ h => by simp only [okC, okC1, okR, okR1] at h; omega) (fun _ => ?_)) | (with_reducible refine zK_bi ?_ (fun _ _ => ?_)) | (with_reducible refine zK_bv ?_ (fun _ => ?_)) | with_reducible exact zK_some rfl | with_reducible exact W_Mach_finish | with_reducible exact W_Mach_push | with_reducible exact W_Mach_divide_p17)
theorem W_Mach_holds {M : zMem} {x0 x1 x2 : Int32} : zK Prod.snd okC M (F_Mach_holds M x0 x1 x2) := by
  unfold F_Mach_holds
  repeat' (first | with_reducible apply zK_if | with_reducible apply zK_ix | with_reducible apply zK_bit | with_reducible apply zK_nz | (with_reducible refine zK_set (fun _ h => by simp only [okC, okC1, okR, okR1] at h; omega) (fun _ => ?_)) | (with_reducible refine zK_bi ?_ (fun _ _ => ?_)) | (with_reducible refine zK_bv ?_ (fun _ => ?_)) | with_reducible exact zK_some rfl)
theorem W_Mach_pop {M : zMem} : zK Prod.snd okC M (F_Mach_pop M ) := by
  unfold F_Mach_pop
  repeat' (first | with_reducible apply zK_if | with_reducible apply zK_ix | with_reducible apply zK_bit | with_reducible apply zK_nz | (with_reducible refine zK_set (fun _ h => by simp only [okC, okC1, okR, okR1] at h; omega) (fun _ => ?_)) | (with_reducible refine zK_bi ?_ (fun _ _ => ?_)) | (with_reducible refine zK_bv ?_ (fun _ => ?_)) | with_reducible exact zK_some rfl)
theorem W_Mach_calculate_p12 {M : zMem} {x0 x1 x2 : Int32} : zK id okC M (F_Mach_calculate_p12 M x0 x1 x2) := by
  unfold F_Mach_calculate_p12
  repeat' (first | with_reducible apply zK_if | with_reducible apply zK_ix | with_reducible apply zK_bit | with_reducible apply zK_nz | (with_reducible refine zK_set (fun _ h => by simp only [okC, okC1, okR, okR1] at h; omega) (fun _ => ?_)) | (with_reducible refine zK_bi ?_ (fun _ _ => ?_)) | (with_reducible refine zK_bv ?_ (fun _ => ?_)) | with_reducible exact zK_some rfl | with_reducible exact W_Mach_divide | with_reducible exact W_Mach_holds | with_reducible exact W_Mach_pop | with_reducible exact W_Mach_push)
theorem W_Mach_calculate_p30 {M : zMem} {x0 : Int32} : zK id okC M (F_Mach_calculate_p30 M x0) := by
  unfold F_Mach_calculate_p30
  repeat' (first | with_reducible apply zK_if | with_reducible apply zK_ix | with_reducible apply zK_bit | with_reducible apply zK_nz | (with_reducible refine zK_set (fun _ h => by simp only [okC, okC1, okR, okR1] at h; omega) (fun _ => ?_)) | (with_reducible refine zK_bi ?_ (fun _ _ => ?_)) | (with_reducible refine zK_bv ?_ (fun _ => ?_)) | with_reducible exact zK_some rfl | with_reducible exact W_Mach_divide | with_reducible exact W_Mach_holds | with_reducible exact W_Mach_pop | with_reducible exact W_Mach_push | with_reducible exact W_Mach_calculate_p12)
theorem W_Mach_calculate {M : zMem} {x0 : Int32} : zK id okC M (F_Mach_calculate M x0) := by
  unfold F_Mach_calculate
  repeat' (first | with_reducible apply zK_if | with_reducible apply zK_ix | with_reducible apply zK_bit | with_reducible apply zK_nz | (with_reducible refine zK_set (fun _ h => by simp only [okC, okC1, okR, okR1] at h; omega) (fun _ => ?_)) | (with_reducible refine zK_bi ?_ (fun _ _ => ?_)) | (with_reducible refine zK_bv ?_ (fun _ => ?_)) | with_reducible exact zK_some rfl | with_reducible exact W_Mach_divide | with_reducible exact W_Mach_holds | with_reducible exact W_Mach_pop | with_reducible exact W_Mach_push | with_reducible exact W_Mach_calculate_p12 | with_reducible exact W_Mach_calculate_p30)
theorem W_Mach_storeLocal {M : zMem} {x0 x1 : Int32} : zK id okC M (F_Mach_storeLocal M x0 x1) := by
  unfold F_Mach_storeLocal
  repeat' (first | with_reducible apply zK_if | with_reducible apply zK_ix | with_reducible apply zK_bit | with_reducible apply zK_nz | (with_reducible refine zK_set (fun _ h => by simp only [okC, okC1, okR, okR1] at h; omega) (fun _ => ?_)) | (with_reducible refine zK_bi ?_ (fun _ _ => ?_)) | (with_reducible refine zK_bv ?_ (fun _ => ?_)) | with_reducible exact zK_some rfl)
theorem W_Mach_takeTurn {M : zMem} : zK id okC M (F_Mach_takeTurn M ) := by
  unfold F_Mach_takeTurn
  repeat' (first | with_reducible apply zK_if | with_reducible apply zK_ix | with_reducible apply zK_bit | with_reducible apply zK_nz | (with_reducible refine zK_set (fun _ h => by simp only [okC, okC1, okR, okR1] at h; omega) (fun _ => ?_)) | (with_reducible refine zK_bi ?_ (fun _ _ => ?_)) | (with_reducible refine zK_bv ?_ (fun _ => ?_)) | with_reducible exact zK_some rfl | with_reducible exact W_Mach_finish)
theorem W_Proc_entry {M : zMem} {x0 : Int32} : zK Prod.snd okC M (F_Proc_entry M x0) := by
  unfold F_Proc_entry
  repeat' (first | with_reducible apply zK_if | with_reducible apply zK_ix | with_reducible apply zK_bit | with_reducible apply zK_nz | (with_reducible refine zK_set (fun _ h => by simp only [okC, okC1, okR, okR1] at h; omega) (fun _ => ?_)) | (with_reducible refine zK_bi ?_ (fun _ _ => ?_)) | (with_reducible refine zK_bv ?_ (fun _ => ?_)) | with_reducible exact zK_some rfl)
theorem W_Proc_parameter {M : zMem} {x0 x1 : Int32} : zK Prod.snd okC M (F_Proc_parameter M x0 x1) := by
  unfold F_Proc_parameter
  repeat' (first | with_reducible apply zK_if | with_reducible apply zK_ix | with_reducible apply zK_bit | with_reducible apply zK_nz | (with_reducible refine zK_set (fun _ h => by simp only [okC, okC1, okR, okR1] at h; omega) (fun _ => ?_)) | (with_reducible refine zK_bi ?_ (fun _ _ => ?_)) | (with_reducible refine zK_bv ?_ (fun _ => ?_)) | with_reducible exact zK_some rfl)
theorem W_Proc_parameterCount {M : zMem} {x0 : Int32} : zK Prod.snd okC M (F_Proc_parameterCount M x0) := by
  unfold F_Proc_parameterCount
  repeat' (first | with_reducible apply zK_if | with_reducible apply zK_ix | with_reducible apply zK_bit | with_reducible apply zK_nz | (with_reducible refine zK_set (fun _ h => by simp only [okC, okC1, okR, okR1] at h; omega) (fun _ => ?_)) | (with_reducible refine zK_bi ?_ (fun _ _ => ?_)) | (with_reducible refine zK_bv ?_ (fun _ => ?_)) | with_reducible exact zK_some rfl)
theorem W_Mach_call_p13 {N : Nat} {M : zMem} : zK id okC M (F_Mach_call_p13 N M ) := by
  unfold F_Mach_call_p13
  repeat' (first | with_reducible apply zK_if | with_reducible apply zK_ix | with_reducible apply zK_bit | with_reducible apply zK_nz | (with_reducible refine zK_set (fun _ h => by simp only [okC, okC1, okR, okR1] at h; omega) (fun _ => ?_)) | (with_reducible refine zK_bi ?_ (fun _ _ => ?_)) | (with_reducible refine zK_bv ?_ (fun _ => ?_)) | with_reducible exact zK_some rfl | with_reducible exact W_Mach_finish | with_reducible exact W_Mach_pop | with_reducible exact W_Mach_storeLocal | with_reducible exact W_Mach_takeTurn | with_reducible exact W_Proc_entry | with_reducible exact W_Proc_parameter | with_reducible exact W_Proc_parameterCount)
theorem W_Mach_call_p55 {N : Nat} : ∀ (n : Nat) {M : zMem} {x0 x1 : Int32}, zK id okC M (F_Mach_call_p55 N n M x0 x1) := by
  intro n
  induction n with
  | zero =>
    intro M x0 x1
    unfold F_Mach_call_p55
    exact zK_none
  | succ n ih =>
    intro M x0 x1
    unfold F_Mach_call_p55
    repeat' (first | with_reducible apply zK_if | with_reducible apply zK_ix | with_reducible apply zK_bit | with_reducible apply zK_nz | (with_reducible refine zK_set (fun _ h => by simp only [okC, okC1, okR, okR1] at h; omega) (fun _ => ?_)) | (with_reducible refine zK_bi ?_ (fun _ _ => ?_)) | (with_reducible refine zK_bv ?_ (fun _ => ?_)) | with_reducible exact zK_some rfl | with_reducible exact ih | with_reducible exact W_Mach_finish | with_reducible exact W_Mach_pop | with_reducible exact W_Mach_storeLocal | with_reducible exact W_Mach_takeTurn | with_reducible exact W_Proc_entry | with_reducible exact W_Proc_parameter | with_reducible exact W_Proc_parameterCount | with_reducible exact W_Mach_call_p13)
theorem W_Mach_call_p39 {N : Nat} : ∀ (n : Nat) {M : zMem} {x0 x1 : Int32}, zK id okC M (F_Mach_call_p39 N n M x0 x1) := by
  intro n
  induction n with
  | zero =>
    intro M x0 x1
    unfold F_Mach_call_p39
    exact zK_none
  | succ n ih =>
    intro M x0 x1
    unfold F_Mach_call_p39
    repeat' (first | with_reducible apply zK_if | with_reducible apply zK_ix | with_reducible apply zK_bit | with_reducible apply zK_nz | (with_reducible refine zK_set (fun _ h => by simp only [okC, okC1, okR, okR1] at h; omega) (fun _ => ?_)) | (with_reducible refine zK_bi ?_ (fun _ _ => ?_)) | (with_reducible refine zK_bv ?_ (fun _ => ?_)) | with_reducible exact zK_some rfl | with_reducible exact ih | with_reducible exact W_Mach_finish | with_reducible exact W_Mach_pop | with_reducible exact W_Mach_storeLocal | with_reducible exact W_Mach_takeTurn | with_reducible exact W_Proc_entry | with_reducible exact W_Proc_parameter | with_reducible exact W_Proc_parameterCount | with_reducible exact W_Mach_call_p13 | with_reducible exact W_Mach_call_p55 _)
theorem W_Mach_call {N : Nat} {M : zMem} {x0 : Int32} : zK id okC M (F_Mach_call N M x0) := by
  unfold F_Mach_call
  repeat' (first | with_reducible apply zK_if | with_reducible apply zK_ix | with_reducible apply zK_bit | with_reducible apply zK_nz | (with_reducible refine zK_set (fun _ h => by simp only [okC, okC1, okR, okR1] at h; omega) (fun _ => ?_)) | (with_reducible refine zK_bi ?_ (fun _ _ => ?_)) | (with_reducible refine zK_bv ?_ (fun _ => ?_)) | with_reducible exact zK_some rfl | with_reducible exact W_Mach_finish | with_reducible exact W_Mach_pop | with_reducible exact W_Mach_storeLocal | with_reducible exact W_Mach_takeTurn | with_reducible exact W_Proc_entry | with_reducible exact W_Proc_parameter | with_reducible exact W_Proc_parameterCount | with_reducible exact W_Mach_call_p13 | with_reducible exact W_Mach_call_p55 _ | with_reducible exact W_Mach_call_p39 _)
theorem W_Mach_leave_p7 {M : zMem} : zK id okC M (F_Mach_leave_p7 M ) := by
  unfold F_Mach_leave_p7
  repeat' (first | with_reducible apply zK_if | with_reducible apply zK_ix | with_reducible apply zK_bit | with_reducible apply zK_nz | (with_reducible refine zK_set (fun _ h => by simp only [okC, okC1, okR, okR1] at h; omega) (fun _ => ?_)) | (with_reducible refine zK_bi ?_ (fun _ _ => ?_)) | (with_reducible refine zK_bv ?_ (fun _ => ?_)) | with_reducible exact zK_some rfl | with_reducible exact W_Mach_finish)
theorem W_Mach_leave {M : zMem} : zK id okC M (F_Mach_leave M ) := by
  unfold F_Mach_leave
  repeat' (first | with_reducible apply zK_if | with_reducible apply zK_ix | with_reducible apply zK_bit | with_reducible apply zK_nz | (with_reducible refine zK_set (fun _ h => by simp only [okC, okC1, okR, okR1] at h; omega) (fun _ => ?_)) | (with_reducible refine zK_bi ?_ (fun _ _ => ?_)) | (with_reducible refine zK_bv ?_ (fun _ => ?_)) | with_reducible exact zK_some rfl | with_reducible exact W_Mach_finish | with_reducible exact W_Mach_leave_p7)
theorem W_Mach_go {N : Nat} {M : zMem} {x0 x1 : Int32} : zK id okC M (F_Mach_go N M x0 x1) := by
  unfold F_Mach_go
  repeat' (first | with_reducible apply zK_if | with_reducible apply zK_ix | with_reducible apply zK_bit | with_reducible apply zK_nz | (with_reducible refine zK_set (fun _ h => by simp only [okC, okC1, okR, okR1] at h; omega) (fun _ => ?_)) | (with_reducible refine zK_bi ?_ (fun _ _ => ?_)) | (with_reducible refine zK_bv ?_ (fun _ => ?_)) | with_reducible exact zK_some rfl | with_reducible exact W_Mach_call | with_reducible exact W_Mach_finish | with_reducible exact W_Mach_leave | with_reducible exact W_Mach_pop | with_reducible exact W_Mach_push | with_reducible exact W_Mach_takeTurn)
theorem W_Mach_loadCell {M : zMem} {x0 : Int32} : zK Prod.snd okC M (F_Mach_loadCell M x0) := by
  unfold F_Mach_loadCell
  repeat' (first | with_reducible apply zK_if | with_reducible apply zK_ix | with_reducible apply zK_bit | with_reducible apply zK_nz | (with_reducible refine zK_set (fun _ h => by simp only [okC, okC1, okR, okR1] at h; omega) (fun _ => ?_)) | (with_reducible refine zK_bi ?_ (fun _ _ => ?_)) | (with_reducible refine zK_bv ?_ (fun _ => ?_)) | with_reducible exact zK_some rfl)
theorem W_Mach_loadLocal {M : zMem} {x0 : Int32} : zK Prod.snd okC M (F_Mach_loadLocal M x0) := by
  unfold F_Mach_loadLocal
  repeat' (first | with_reducible apply zK_if | with_reducible apply zK_ix | with_reducible apply zK_bit | with_reducible apply zK_nz | (with_reducible refine zK_set (fun _ h => by simp only [okC, okC1, okR, okR1] at h; omega) (fun _ => ?_)) | (with_reducible refine zK_bi ?_ (fun _ _ => ?_)) | (with_reducible refine zK_bv ?_ (fun _ => ?_)) | with_reducible exact zK_some rfl)
theorem W_Mach_putOut_p7 {M : zMem} : zK id okC M (F_Mach_putOut_p7 M ) := by
  unfold F_Mach_putOut_p7
  repeat' (first | with_reducible apply zK_if | with_reducible apply zK_ix | with_reducible apply zK_bit | with_reducible apply zK_nz | (with_reducible refine zK_set (fun _ h => by simp only [okC, okC1, okR, okR1] at h; omega) (fun _ => ?_)) | (with_reducible refine zK_bi ?_ (fun _ _ => ?_)) | (with_reducible refine zK_bv ?_ (fun _ => ?_)) | with_reducible exact zK_some rfl | with_reducible exact W_Mach_finish)
theorem W_Mach_putOut {M : zMem} {x0 : Int32} : zK id okC M (F_Mach_putOut M x0) := by
  unfold F_Mach_putOut
  repeat' (first | with_reducible apply zK_if | with_reducible apply zK_ix | with_reducible apply zK_bit | with_reducible apply zK_nz | (with_reducible refine zK_set (fun _ h => by simp only [okC, okC1, okR, okR1] at h; omega) (fun _ => ?_)) | (with_reducible refine zK_bi ?_ (fun _ _ => ?_)) | (with_reducible refine zK_bv ?_ (fun _ => ?_)) | with_reducible exact zK_some rfl | with_reducible exact W_Mach_finish | with_reducible exact W_Mach_putOut_p7)
theorem W_Mach_storeCell {M : zMem} {x0 x1 : Int32} : zK id okC M (F_Mach_storeCell M x0 x1) := by
  unfold F_Mach_storeCell
  repeat' (first | with_reducible apply zK_if | with_reducible apply zK_ix | with_reducible apply zK_bit | with_reducible apply zK_nz | (with_reducible refine zK_set (fun _ h => by simp only [okC, okC1, okR, okR1] at h; omega) (fun _ => ?_)) | (with_reducible refine zK_bi ?_ (fun _ _ => ?_)) | (with_reducible refine zK_bv ?_ (fun _ => ?_)) | with_reducible exact zK_some rfl)
theorem W_Mach_storeGlobal {M : zMem} {x0 x1 : Int32} : zK id okC M (F_Mach_storeGlobal M x0 x1) := by
  unfold F_Mach_storeGlobal
  repeat' (first | with_reducible apply zK_if | with_reducible apply zK_ix | with_reducible apply zK_bit | with_reducible apply zK_nz | (with_reducible refine zK_set (fun _ h => by simp only [okC, okC1, okR, okR1] at h; omega) (fun _ => ?_)) | (with_reducible refine zK_bi ?_ (fun _ _ => ?_)) | (with_reducible refine zK_bv ?_ (fun _ => ?_)) | with_reducible exact zK_some rfl)
theorem W_Mach_move_p20 {M : zMem} {x0 : Int32} : zK id okC M (F_Mach_move_p20 M x0) := by
  unfold F_Mach_move_p20
  repeat' (first | with_reducible apply zK_if | with_reducible apply zK_ix | with_reducible apply zK_bit | with_reducible apply zK_nz | (with_reducible refine zK_set (fun _ h => by simp only [okC, okC1, okR, okR1] at h; omega) (fun _ => ?_)) | (with_reducible refine zK_bi ?_ (fun _ _ => ?_)) | (with_reducible refine zK_bv ?_ (fun _ => ?_)) | with_reducible exact zK_some rfl | with_reducible exact W_Mach_finish | with_reducible exact W_Mach_loadCell | with_reducible exact W_Mach_loadLocal | with_reducible exact W_Mach_pop | with_reducible exact W_Mach_push | with_reducible exact W_Mach_putOut | with_reducible exact W_Mach_storeCell | with_reducible exact W_Mach_storeGlobal | with_reducible exact W_Mach_storeLocal)
theorem W_Mach_move_p19 {M : zMem} : zK id okC M (F_Mach_move_p19 M ) := by
  unfold F_Mach_move_p19
  repeat' (first | with_reducible apply zK_if | with_reducible apply zK_ix | with_reducible apply zK_bit | with_reducible apply zK_nz | (with_reducible refine zK_set (fun _ h => by simp only [okC, okC1, okR, okR1] at h; omega) (fun _ => ?_)) | (with_reducible refine zK_bi ?_ (fun _ _ => ?_)) | (with_reducible refine zK_bv ?_ (fun _ => ?_)) | with_reducible exact zK_some rfl | with_reducible exact W_Mach_finish | with_reducible exact W_Mach_loadCell | with_reducible exact W_Mach_loadLocal | with_reducible exact W_Mach_pop | with_reducible exact W_Mach_push | with_reducible exact W_Mach_putOut | with_reducible exact W_Mach_storeCell | with_reducible exact W_Mach_storeGlobal | with_reducible exact W_Mach_storeLocal | with_reducible exact W_Mach_move_p20)
theorem W_Mach_move_p70 {M : zMem} {x0 : Int32} : zK id okC M (F_Mach_move_p70 M x0) := by
  unfold F_Mach_move_p70
  repeat' (first | with_reducible apply zK_if | with_reducible apply zK_ix | with_reducible apply zK_bit | with_reducible apply zK_nz | (with_reducible refine zK_set (fun _ h => by simp only [okC, okC1, okR, okR1] at h; omega) (fun _ => ?_)) | (with_reducible refine zK_bi ?_ (fun _ _ => ?_)) | (with_reducible refine zK_bv ?_ (fun _ => ?_)) | with_reducible exact zK_some rfl | with_reducible exact W_Mach_finish | with_reducible exact W_Mach_loadCell | with_reducible exact W_Mach_loadLocal | with_reducible exact W_Mach_pop | with_reducible exact W_Mach_push | with_reducible exact W_Mach_putOut | with_reducible exact W_Mach_storeCell | with_reducible exact W_Mach_storeGlobal | with_reducible exact W_Mach_storeLocal | with_reducible exact W_Mach_move_p20 | with_reducible exact W_Mach_move_p19)
theorem W_Mach_move_p79 {M : zMem} {x0 : Int32} : zK id okC M (F_Mach_move_p79 M x0) := by
  unfold F_Mach_move_p79
  repeat' (first | with_reducible apply zK_if | with_reducible apply zK_ix | with_reducible apply zK_bit | with_reducible apply zK_nz | (with_reducible refine zK_set (fun _ h => by simp only [okC, okC1, okR, okR1] at h; omega) (fun _ => ?_)) | (with_reducible refine zK_bi ?_ (fun _ _ => ?_)) | (with_reducible refine zK_bv ?_ (fun _ => ?_)) | with_reducible exact zK_some rfl | with_reducible exact W_Mach_finish | with_reducible exact W_Mach_loadCell | with_reducible exact W_Mach_loadLocal | with_reducible exact W_Mach_pop | with_reducible exact W_Mach_push | with_reducible exact W_Mach_putOut | with_reducible exact W_Mach_storeCell | with_reducible exact W_Mach_storeGlobal | with_reducible exact W_Mach_storeLocal | with_reducible exact W_Mach_move_p20 | with_reducible exact W_Mach_move_p19 | with_reducible exact W_Mach_move_p70)
theorem W_Mach_move {M : zMem} {x0 x1 : Int32} : zK id okC M (F_Mach_move M x0 x1) := by
  unfold F_Mach_move
  repeat' (first | with_reducible apply zK_if | with_reducible apply zK_ix | with_reducible apply zK_bit | with_reducible apply zK_nz | (with_reducible refine zK_set (fun _ h => by simp only [okC, okC1, okR, okR1] at h; omega) (fun _ => ?_)) | (with_reducible refine zK_bi ?_ (fun _ _ => ?_)) | (with_reducible refine zK_bv ?_ (fun _ => ?_)) | with_reducible exact zK_some rfl | with_reducible exact W_Mach_finish | with_reducible exact W_Mach_loadCell | with_reducible exact W_Mach_loadLocal | with_reducible exact W_Mach_pop | with_reducible exact W_Mach_push | with_reducible exact W_Mach_putOut | with_reducible exact W_Mach_storeCell | with_reducible exact W_Mach_storeGlobal | with_reducible exact W_Mach_storeLocal | with_reducible exact W_Mach_move_p20 | with_reducible exact W_Mach_move_p19 | with_reducible exact W_Mach_move_p70 | with_reducible exact W_Mach_move_p79)
theorem W_Mach_step {N : Nat} {M : zMem} : zK id okC M (F_Mach_step N M ) := by
  unfold F_Mach_step
  repeat' (first | with_reducible apply zK_if | with_reducible apply zK_ix | with_reducible apply zK_bit | with_reducible apply zK_nz | (with_reducible refine zK_set (fun _ h => by simp only [okC, okC1, okR, okR1] at h; omega) (fun _ => ?_)) | (with_reducible refine zK_bi ?_ (fun _ _ => ?_)) | (with_reducible refine zK_bv ?_ (fun _ => ?_)) | with_reducible exact zK_some rfl | with_reducible exact W_Code_operand | with_reducible exact W_Code_operation | with_reducible exact W_Mach_calculate | with_reducible exact W_Mach_go | with_reducible exact W_Mach_move)
theorem W_Proc_mainEntry {M : zMem} : zK Prod.snd okC M (F_Proc_mainEntry M ) := by
  unfold F_Proc_mainEntry
  repeat' (first | with_reducible apply zK_if | with_reducible apply zK_ix | with_reducible apply zK_bit | with_reducible apply zK_nz | (with_reducible refine zK_set (fun _ h => by simp only [okC, okC1, okR, okR1] at h; omega) (fun _ => ?_)) | (with_reducible refine zK_bi ?_ (fun _ _ => ?_)) | (with_reducible refine zK_bv ?_ (fun _ => ?_)) | with_reducible exact zK_some rfl)
theorem W_Mach_execute_p75 {N : Nat} : ∀ (n : Nat) {M : zMem} {x0 : Int32}, zK id okC M (F_Mach_execute_p75 N n M x0) := by
  intro n
  induction n with
  | zero =>
    intro M x0
    unfold F_Mach_execute_p75
    exact zK_none
  | succ n ih =>
    intro M x0
    unfold F_Mach_execute_p75
    repeat' (first | with_reducible apply zK_if | with_reducible apply zK_ix | with_reducible apply zK_bit | with_reducible apply zK_nz | (with_reducible refine zK_set (fun _ h => by simp only [okC, okC1, okR, okR1] at h; omega) (fun _ => ?_)) | (with_reducible refine zK_bi ?_ (fun _ _ => ?_)) | (with_reducible refine zK_bv ?_ (fun _ => ?_)) | with_reducible exact zK_some rfl | with_reducible exact ih | with_reducible exact W_Mach_step | with_reducible exact W_Proc_mainEntry)
theorem W_Mach_execute_p47 {N : Nat} {M : zMem} : zK id okC M (F_Mach_execute_p47 N M ) := by
  unfold F_Mach_execute_p47
  repeat' (first | with_reducible apply zK_if | with_reducible apply zK_ix | with_reducible apply zK_bit | with_reducible apply zK_nz | (with_reducible refine zK_set (fun _ h => by simp only [okC, okC1, okR, okR1] at h; omega) (fun _ => ?_)) | (with_reducible refine zK_bi ?_ (fun _ _ => ?_)) | (with_reducible refine zK_bv ?_ (fun _ => ?_)) | with_reducible exact zK_some rfl | with_reducible exact W_Mach_step | with_reducible exact W_Proc_mainEntry | with_reducible exact W_Mach_execute_p75 _)
theorem W_Mach_execute_p29 {N : Nat} : ∀ (n : Nat) {M : zMem} {x0 : Int32}, zK id okC M (F_Mach_execute_p29 N n M x0) := by
  intro n
  induction n with
  | zero =>
    intro M x0
    unfold F_Mach_execute_p29
    exact zK_none
  | succ n ih =>
    intro M x0
    unfold F_Mach_execute_p29
    repeat' (first | with_reducible apply zK_if | with_reducible apply zK_ix | with_reducible apply zK_bit | with_reducible apply zK_nz | (with_reducible refine zK_set (fun _ h => by simp only [okC, okC1, okR, okR1] at h; omega) (fun _ => ?_)) | (with_reducible refine zK_bi ?_ (fun _ _ => ?_)) | (with_reducible refine zK_bv ?_ (fun _ => ?_)) | with_reducible exact zK_some rfl | with_reducible exact ih | with_reducible exact W_Mach_step | with_reducible exact W_Proc_mainEntry | with_reducible exact W_Mach_execute_p75 _ | with_reducible exact W_Mach_execute_p47)
theorem W_Mach_execute_p27 {N : Nat} {M : zMem} : zK id okC M (F_Mach_execute_p27 N M ) := by
  unfold F_Mach_execute_p27
  repeat' (first | with_reducible apply zK_if | with_reducible apply zK_ix | with_reducible apply zK_bit | with_reducible apply zK_nz | (with_reducible refine zK_set (fun _ h => by simp only [okC, okC1, okR, okR1] at h; omega) (fun _ => ?_)) | (with_reducible refine zK_bi ?_ (fun _ _ => ?_)) | (with_reducible refine zK_bv ?_ (fun _ => ?_)) | with_reducible exact zK_some rfl | with_reducible exact W_Mach_step | with_reducible exact W_Proc_mainEntry | with_reducible exact W_Mach_execute_p75 _ | with_reducible exact W_Mach_execute_p47 | with_reducible exact W_Mach_execute_p29 _)
theorem W_Mach_execute_p9 {N : Nat} : ∀ (n : Nat) {M : zMem} {x0 : Int32}, zK id okC M (F_Mach_execute_p9 N n M x0) := by
  intro n
  induction n with
  | zero =>
    intro M x0
    unfold F_Mach_execute_p9
    exact zK_none
  | succ n ih =>
    intro M x0
    unfold F_Mach_execute_p9
    repeat' (first | with_reducible apply zK_if | with_reducible apply zK_ix | with_reducible apply zK_bit | with_reducible apply zK_nz | (with_reducible refine zK_set (fun _ h => by simp only [okC, okC1, okR, okR1] at h; omega) (fun _ => ?_)) | (with_reducible refine zK_bi ?_ (fun _ _ => ?_)) | (with_reducible refine zK_bv ?_ (fun _ => ?_)) | with_reducible exact zK_some rfl | with_reducible exact ih | with_reducible exact W_Mach_step | with_reducible exact W_Proc_mainEntry | with_reducible exact W_Mach_execute_p75 _ | with_reducible exact W_Mach_execute_p47 | with_reducible exact W_Mach_execute_p29 _ | with_reducible exact W_Mach_execute_p27)
theorem W_Mach_execute {N : Nat} {M : zMem} : zK id okC M (F_Mach_execute N M ) := by
  unfold F_Mach_execute
  repeat' (first | with_reducible apply zK_if | with_reducible apply zK_ix | with_reducible apply zK_bit | with_reducible apply zK_nz | (with_reducible refine zK_set (fun _ h => by simp only [okC, okC1, okR, okR1] at h; omega) (fun _ => ?_)) | (with_reducible refine zK_bi ?_ (fun _ _ => ?_)) | (with_reducible refine zK_bv ?_ (fun _ => ?_)) | with_reducible exact zK_some rfl | with_reducible exact W_Mach_step | with_reducible exact W_Proc_mainEntry | with_reducible exact W_Mach_execute_p75 _ | with_reducible exact W_Mach_execute_p47 | with_reducible exact W_Mach_execute_p29 _ | with_reducible exact W_Mach_execute_p27 | with_reducible exact W_Mach_execute_p9 _)
theorem W_Stat_awaitLast {M : zMem} {x0 x1 : Int32} : zK Prod.snd okC M (F_Stat_awaitLast M x0 x1) := by
  unfold F_Stat_awaitLast
  repeat' (first | with_reducible apply zK_if | with_reducible apply zK_ix | with_reducible apply zK_bit | with_reducible apply zK_nz | (with_reducible refine zK_set (fun _ h => by simp only [okC, okC1, okR, okR1] at h; omega) (fun _ => ?_)) | (with_reducible refine zK_bi ?_ (fun _ _ => ?_)) | (with_reducible refine zK_bv ?_ (fun _ => ?_)) | with_reducible exact zK_some rfl | with_reducible exact W_Pend_push)
theorem W_Stat_begin_p16 {M : zMem} {x0 x1 : Int32} : zK Prod.snd okC M (F_Stat_begin_p16 M x0 x1) := by
  unfold F_Stat_begin_p16
  repeat' (first | with_reducible apply zK_if | with_reducible apply zK_ix | with_reducible apply zK_bit | with_reducible apply zK_nz | (with_reducible refine zK_set (fun _ h => by simp only [okC, okC1, okR, okR1] at h; omega) (fun _ => ?_)) | (with_reducible refine zK_bi ?_ (fun _ _ => ?_)) | (with_reducible refine zK_bv ?_ (fun _ => ?_)) | with_reducible exact zK_some rfl | with_reducible exact W_Code_emit | with_reducible exact W_Code_here | with_reducible exact W_Pend_push | with_reducible exact W_Proc_beginCall | with_reducible exact W_Proc_isOwn | with_reducible exact W_Stat_awaitLast | with_reducible exact W_Tok_isName | with_reducible exact W_Tok_isProcedure)
theorem W_Stat_begin {M : zMem} {x0 x1 : Int32} : zK Prod.snd okC M (F_Stat_begin M x0 x1) := by
  unfold F_Stat_begin
  repeat' (first | with_reducible apply zK_if | with_reducible apply zK_ix | with_reducible apply zK_bit | with_reducible apply zK_nz | (with_reducible refine zK_set (fun _ h => by simp only [okC, okC1, okR, okR1] at h; omega) (fun _ => ?_)) | (with_reducible refine zK_bi ?_ (fun _ _ => ?_)) | (with_reducible refine zK_bv ?_ (fun _ => ?_)) | with_reducible exact zK_some rfl | with_reducible exact W_Code_emit | with_reducible exact W_Code_here | with_reducible exact W_Pend_push | with_reducible exact W_Proc_beginCall | with_reducible exact W_Proc_isOwn | with_reducible exact W_Stat_awaitLast | with_reducible exact W_Tok_isName | with_reducible exact W_Tok_isProcedure | with_reducible exact W_Stat_begin_p16)
theorem W_Pend_replace {M : zMem} {x0 x1 x2 : Int32} : zK id okC M (F_Pend_replace M x0 x1 x2) := by
  unfold F_Pend_replace
  repeat' (first | with_reducible apply zK_if | with_reducible apply zK_ix | with_reducible apply zK_bit | with_reducible apply zK_nz | (with_reducible refine zK_set (fun _ h => by simp only [okC, okC1, okR, okR1] at h; omega) (fun _ => ?_)) | (with_reducible refine zK_bi ?_ (fun _ _ => ?_)) | (with_reducible refine zK_bv ?_ (fun _ => ?_)) | with_reducible exact zK_some rfl | with_reducible exact W_Pend_pop | with_reducible exact W_Pend_push)
theorem W_Stat_beginThen {M : zMem} : zK Prod.snd okC M (F_Stat_beginThen M ) := by
  unfold F_Stat_beginThen
  repeat' (first | with_reducible apply zK_if | with_reducible apply zK_ix | with_reducible apply zK_bit | with_reducible apply zK_nz | (with_reducible refine zK_set (fun _ h => by simp only [okC, okC1, okR, okR1] at h; omega) (fun _ => ?_)) | (with_reducible refine zK_bi ?_ (fun _ _ => ?_)) | (with_reducible refine zK_bv ?_ (fun _ => ?_)) | with_reducible exact zK_some rfl | with_reducible exact W_Code_emit | with_reducible exact W_Pend_first | with_reducible exact W_Pend_replace)
theorem W_Stat_beginWhileBody {M : zMem} : zK Prod.snd okC M (F_Stat_beginWhileBody M ) := by
  unfold F_Stat_beginWhileBody
  repeat' (first | with_reducible apply zK_if | with_reducible apply zK_ix | with_reducible apply zK_bit | with_reducible apply zK_nz | (with_reducible refine zK_set (fun _ h => by simp only [okC, okC1, okR, okR1] at h; omega) (fun _ => ?_)) | (with_reducible refine zK_bi ?_ (fun _ _ => ?_)) | (with_reducible refine zK_bv ?_ (fun _ => ?_)) | with_reducible exact zK_some rfl | with_reducible exact W_Code_emit | with_reducible exact W_Pend_first | with_reducible exact W_Pend_replace)
theorem W_Stat_closeTarget {M : zMem} : zK Prod.snd okC M (F_Stat_closeTarget M ) := by
  unfold F_Stat_closeTarget
  repeat' (first | with_reducible apply zK_if | with_reducible apply zK_ix | with_reducible apply zK_bit | with_reducible apply zK_nz | (with_reducible refine zK_set (fun _ h => by simp only [okC, okC1, okR, okR1] at h; omega) (fun _ => ?_)) | (with_reducible refine zK_bi ?_ (fun _ _ => ?_)) | (with_reducible refine zK_bv ?_ (fun _ => ?_)) | with_reducible exact zK_some rfl | with_reducible exact W_Pend_replace)
theorem W_Stat_beginUntil {M : zMem} : zK Prod.snd okC M (F_Stat_beginUntil M ) := by
  unfold F_Stat_beginUntil
  repeat' (first | with_reducible apply zK_if | with_reducible apply zK_ix | with_reducible apply zK_bit | with_reducible apply zK_nz | (with_reducible refine zK_set (fun _ h => by simp only [okC, okC1, okR, okR1] at h; omega) (fun _ => ?_)) | (with_reducible refine zK_bi ?_ (fun _ _ => ?_)) | (with_reducible refine zK_bv ?_ (fun _ => ?_)) | with_reducible exact zK_some rfl | with_reducible exact W_Pend_first | with_reducible exact W_Pend_replace)
theorem W_Stat_endBody {M : zMem} {x0 : Int32} : zK Prod.snd okC M (F_Stat_endBody M x0) := by
  unfold F_Stat_endBody
  repeat' (first | with_reducible apply zK_if | with_reducible apply zK_ix | with_reducible apply zK_bit | with_reducible apply zK_nz | (with_reducible refine zK_set (fun _ h => by simp only [okC, okC1, okR, okR1] at h; omega) (fun _ => ?_)) | (with_reducible refine zK_bi ?_ (fun _ _ => ?_)) | (with_reducible refine zK_bv ?_ (fun _ => ?_)) | with_reducible exact zK_some rfl | with_reducible exact W_Code_emit | with_reducible exact W_Pend_pop)
theorem W_Stat_endIf {N : Nat} {M : zMem} : zK Prod.snd okC M (F_Stat_endIf N M ) := by
  unfold F_Stat_endIf
  repeat' (first | with_reducible apply zK_if | with_reducible apply zK_ix | with_reducible apply zK_bit | with_reducible apply zK_nz | (with_reducible refine zK_set (fun _ h => by simp only [okC, okC1, okR, okR1] at h; omega) (fun _ => ?_)) | (with_reducible refine zK_bi ?_ (fun _ _ => ?_)) | (with_reducible refine zK_bv ?_ (fun _ => ?_)) | with_reducible exact zK_some rfl | with_reducible exact W_Code_leadChainHere | with_reducible exact W_Pend_first | with_reducible exact W_Pend_pop)
theorem W_Stat_endThen_p42 {N : Nat} {M : zMem} {x0 x1 x2 : Int32} : zK Prod.snd okC M (F_Stat_endThen_p42 N M x0 x1 x2) := by
  unfold F_Stat_endThen_p42
  repeat' (first | with_reducible apply zK_if | with_reducible apply zK_ix | with_reducible apply zK_bit | with_reducible apply zK_nz | (with_reducible refine zK_set (fun _ h => by simp only [okC, okC1, okR, okR1] at h; omega) (fun _ => ?_)) | (with_reducible refine zK_bi ?_ (fun _ _ => ?_)) | (with_reducible refine zK_bv ?_ (fun _ => ?_)) | with_reducible exact zK_some rfl | with_reducible exact W_Code_emit | with_reducible exact W_Code_leadHere | with_reducible exact W_Pend_first | with_reducible exact W_Pend_replace | with_reducible exact W_Pend_second | with_reducible exact W_Stat_endIf)
theorem W_Stat_endThen_p20 {N : Nat} {M : zMem} {x0 : Int32} : zK Prod.snd okC M (F_Stat_endThen_p20 N M x0) := by
  unfold F_Stat_endThen_p20
  repeat' (first | with_reducible apply zK_if | with_reducible apply zK_ix | with_reducible apply zK_bit | with_reducible apply zK_nz | (with_reducible refine zK_set (fun _ h => by simp only [okC, okC1, okR, okR1] at h; omega) (fun _ => ?_)) | (with_reducible refine zK_bi ?_ (fun _ _ => ?_)) | (with_reducible refine zK_bv ?_ (fun _ => ?_)) | with_reducible exact zK_some rfl | with_reducible exact W_Code_emit | with_reducible exact W_Code_leadHere | with_reducible exact W_Pend_first | with_reducible exact W_Pend_replace | with_reducible exact W_Pend_second | with_reducible exact W_Stat_endIf | with_reducible exact W_Stat_endThen_p42)
theorem W_Stat_endThen {N : Nat} {M : zMem} {x0 : Int32} : zK Prod.snd okC M (F_Stat_endThen N M x0) := by
  unfold F_Stat_endThen
  repeat' (first | with_reducible apply zK_if | with_reducible apply zK_ix | with_reducible apply zK_bit | with_reducible apply zK_nz | (with_reducible refine zK_set (fun _ h => by simp only [okC, okC1, okR, okR1] at h; omega) (fun _ => ?_)) | (with_reducible refine zK_bi ?_ (fun _ _ => ?_)) | (with_reducible refine zK_bv ?_ (fun _ => ?_)) | with_reducible exact zK_some rfl | with_reducible exact W_Code_emit | with_reducible exact W_Code_leadHere | with_reducible exact W_Pend_first | with_reducible exact W_Pend_replace | with_reducible exact W_Pend_second | with_reducible exact W_Stat_endIf | with_reducible exact W_Stat_endThen_p42 | with_reducible exact W_Stat_endThen_p20)
theorem W_Stat_endWhile {M : zMem} : zK Prod.snd okC M (F_Stat_endWhile M ) := by
  unfold F_Stat_endWhile
  repeat' (first | with_reducible apply zK_if | with_reducible apply zK_ix | with_reducible apply zK_bit | with_reducible apply zK_nz | (with_reducible refine zK_set (fun _ h => by simp only [okC, okC1, okR, okR1] at h; omega) (fun _ => ?_)) | (with_reducible refine zK_bi ?_ (fun _ _ => ?_)) | (with_reducible refine zK_bv ?_ (fun _ => ?_)) | with_reducible exact zK_some rfl | with_reducible exact W_Code_emit | with_reducible exact W_Code_leadHere | with_reducible exact W_Pend_first | with_reducible exact W_Pend_pop | with_reducible exact W_Pend_second)
theorem W_Stat_end {N : Nat} {M : zMem} {x0 : Int32} : zK Prod.snd okC M (F_Stat_end N M x0) := by
  unfold F_Stat_end
  repeat' (first | with_reducible apply zK_if | with_reducible apply zK_ix | with_reducible apply zK_bit | with_reducible apply zK_nz | (with_reducible refine zK_set (fun _ h => by simp only [okC, okC1, okR, okR1] at h; omega) (fun _ => ?_)) | (with_reducible refine zK_bi ?_ (fun _ _ => ?_)) | (with_reducible refine zK_bv ?_ (fun _ => ?_)) | with_reducible exact zK_some rfl | with_reducible exact W_Pend_kind | with_reducible exact W_Stat_beginUntil | with_reducible exact W_Stat_endBody | with_reducible exact W_Stat_endIf | with_reducible exact W_Stat_endThen | with_reducible exact W_Stat_endWhile)
theorem W_Tok_beginsStatement {M : zMem} {x0 : Int32} : zK Prod.snd okC M (F_Tok_beginsStatement M x0) := by
  unfold F_Tok_beginsStatement
  repeat' (first | with_reducible apply zK_if | with_reducible apply zK_ix | with_reducible apply zK_bit | with_reducible apply zK_nz | (with_reducible refine zK_set (fun _ h => by simp only [okC, okC1, okR, okR1] at h; omega) (fun _ => ?_)) | (with_reducible refine zK_bi ?_ (fun _ _ => ?_)) | (with_reducible refine zK_bv ?_ (fun _ => ?_)) | with_reducible exact zK_some rfl | with_reducible exact W_Tok_isName | with_reducible exact W_Tok_isProcedure)
theorem W_Pars_accept {N : Nat} {M : zMem} {x0 x1 x2 : Int32} : zK Prod.snd okC M (F_Pars_accept N M x0 x1 x2) := by
  unfold F_Pars_accept
  repeat' (first | with_reducible apply zK_if | with_reducible apply zK_ix | with_reducible apply zK_bit | with_reducible apply zK_nz | (with_reducible refine zK_set (fun _ h => by simp only [okC, okC1, okR, okR1] at h; omega) (fun _ => ?_)) | (with_reducible refine zK_bi ?_ (fun _ _ => ?_)) | (with_reducible refine zK_bv ?_ (fun _ => ?_)) | with_reducible exact zK_some rfl | with_reducible exact W_Expr_afterArgument | with_reducible exact W_Expr_begin | with_reducible exact W_Expr_closeBracket | with_reducible exact W_Expr_closeIndex | with_reducible exact W_Expr_endCall | with_reducible exact W_Expr_factor | with_reducible exact W_Expr_operator | with_reducible exact W_Stat_begin | with_reducible exact W_Stat_beginThen | with_reducible exact W_Stat_beginWhileBody | with_reducible exact W_Stat_closeTarget | with_reducible exact W_Stat_end | with_reducible exact W_Tok_beginsStatement)
theorem W_Proc_beginBody {M : zMem} {x0 : Int32} : zK id okC M (F_Proc_beginBody M x0) := by
  unfold F_Proc_beginBody
  repeat' (first | with_reducible apply zK_if | with_reducible apply zK_ix | with_reducible apply zK_bit | with_reducible apply zK_nz | (with_reducible refine zK_set (fun _ h => by simp only [okC, okC1, okR, okR1] at h; omega) (fun _ => ?_)) | (with_reducible refine zK_bi ?_ (fun _ _ => ?_)) | (with_reducible refine zK_bv ?_ (fun _ => ?_)) | with_reducible exact zK_some rfl)
theorem W_Pars_beginBody {M : zMem} {x0 : Int32} : zK Prod.snd okC M (F_Pars_beginBody M x0) := by
  unfold F_Pars_beginBody
  repeat' (first | with_reducible apply zK_if | with_reducible apply zK_ix | with_reducible apply zK_bit | with_reducible apply zK_nz | (with_reducible refine zK_set (fun _ h => by simp only [okC, okC1, okR, okR1] at h; omega) (fun _ => ?_)) | (with_reducible refine zK_bi ?_ (fun _ _ => ?_)) | (with_reducible refine zK_bv ?_ (fun _ => ?_)) | with_reducible exact zK_some rfl | with_reducible exact W_Code_here | with_reducible exact W_Pend_push | with_reducible exact W_Proc_beginBody)
theorem W_Proc_beginMainBody {M : zMem} {x0 : Int32} : zK id okC M (F_Proc_beginMainBody M x0) := by
  unfold F_Proc_beginMainBody
  repeat' (first | with_reducible apply zK_if | with_reducible apply zK_ix | with_reducible apply zK_bit | with_reducible apply zK_nz | (with_reducible refine zK_set (fun _ h => by simp only [okC, okC1, okR, okR1] at h; omega) (fun _ => ?_)) | (with_reducible refine zK_bi ?_ (fun _ _ => ?_)) | (with_reducible refine zK_bv ?_ (fun _ => ?_)) | with_reducible exact zK_some rfl)
theorem W_Pars_beginMain {M : zMem} {x0 : Int32} : zK Prod.snd okC M (F_Pars_beginMain M x0) := by
  unfold F_Pars_beginMain
  repeat' (first | with_reducible apply zK_if | with_reducible apply zK_ix | with_reducible apply zK_bit | with_reducible apply zK_nz | (with_reducible refine zK_set (fun _ h => by simp only [okC, okC1, okR, okR1] at h; omega) (fun _ => ?_)) | (with_reducible refine zK_bi ?_ (fun _ _ => ?_)) | (with_reducible refine zK_bv ?_ (fun _ => ?_)) | with_reducible exact zK_some rfl | with_reducible exact W_Code_here | with_reducible exact W_Pend_push | with_reducible exact W_Proc_beginMainBody)
theorem W_Proc_noteFault_p8 {M : zMem} {x0 : Int32} : zK id okC M (F_Proc_noteFault_p8 M x0) := by
  unfold F_Proc_noteFault_p8
  repeat' (first | with_reducible apply zK_if | with_reducible apply zK_ix | with_reducible apply zK_bit | with_reducible apply zK_nz | (with_reducible refine zK_set (fun _ h => by simp only [okC, okC1, okR, okR1] at h; omega) (fun _ => ?_)) | (with_reducible refine zK_bi ?_ (fun _ _ => ?_)) | (with_reducible refine zK_bv ?_ (fun _ => ?_)) | with_reducible exact zK_some rfl)
theorem W_Proc_noteFault {M : zMem} {x0 : Int32} : zK id okC M (F_Proc_noteFault M x0) := by
  unfold F_Proc_noteFault
  repeat' (first | with_reducible apply zK_if | with_reducible apply zK_ix | with_reducible apply zK_bit | with_reducible apply zK_nz | (with_reducible refine zK_set (fun _ h => by simp only [okC, okC1, okR, okR1] at h; omega) (fun _ => ?_)) | (with_reducible refine zK_bi ?_ (fun _ _ => ?_)) | (with_reducible refine zK_bv ?_ (fun _ => ?_)) | with_reducible exact zK_some rfl | with_reducible exact W_Proc_noteFault_p8)
theorem W_Proc_beginProcedure {M : zMem} {x0 x1 : Int32} : zK id okC M (F_Proc_beginProcedure M x0 x1) := by
  unfold F_Proc_beginProcedure
  repeat' (first | with_reducible apply zK_if | with_reducible apply zK_ix | with_reducible apply zK_bit | with_reducible apply zK_nz | (with_reducible refine zK_set (fun _ h => by simp only [okC, okC1, okR, okR1] at h; omega) (fun _ => ?_)) | (with_reducible refine zK_bi ?_ (fun _ _ => ?_)) | (with_reducible refine zK_bv ?_ (fun _ => ?_)) | with_reducible exact zK_some rfl | with_reducible exact W_Proc_noteFault)
theorem W_Pars_beginProcedure {M : zMem} {x0 x1 : Int32} : zK Prod.snd okC M (F_Pars_beginProcedure M x0 x1) := by
  unfold F_Pars_beginProcedure
  repeat' (first | with_reducible apply zK_if | with_reducible apply zK_ix | with_reducible apply zK_bit | with_reducible apply zK_nz | (with_reducible refine zK_set (fun _ h => by simp only [okC, okC1, okR, okR1] at h; omega) (fun _ => ?_)) | (with_reducible refine zK_bi ?_ (fun _ _ => ?_)) | (with_reducible refine zK_bv ?_ (fun _ => ?_)) | with_reducible exact zK_some rfl | with_reducible exact W_Proc_beginProcedure | with_reducible exact W_Tok_isProcedure)
theorem W_Proc_addOwnName_p7 {M : zMem} {x0 : Int32} : zK id okC M (F_Proc_addOwnName_p7 M x0) := by
  unfold F_Proc_addOwnName_p7
  repeat' (first | with_reducible apply zK_if | with_reducible apply zK_ix | with_reducible apply zK_bit | with_reducible apply zK_nz | (with_reducible refine zK_set (fun _ h => by simp only [okC, okC1, okR, okR1] at h; omega) (fun _ => ?_)) | (with_reducible refine zK_bi ?_ (fun _ _ => ?_)) | (with_reducible refine zK_bv ?_ (fun _ => ?_)) | with_reducible exact zK_some rfl | with_reducible exact W_Proc_isOwn | with_reducible exact W_Proc_noteFault)
theorem W_Proc_addOwnName {M : zMem} {x0 x1 : Int32} : zK id okC M (F_Proc_addOwnName M x0 x1) := by
  unfold F_Proc_addOwnName
  repeat' (first | with_reducible apply zK_if | with_reducible apply zK_ix | with_reducible apply zK_bit | with_reducible apply zK_nz | (with_reducible refine zK_set (fun _ h => by simp only [okC, okC1, okR, okR1] at h; omega) (fun _ => ?_)) | (with_reducible refine zK_bi ?_ (fun _ _ => ?_)) | (with_reducible refine zK_bv ?_ (fun _ => ?_)) | with_reducible exact zK_some rfl | with_reducible exact W_Proc_isOwn | with_reducible exact W_Proc_noteFault | with_reducible exact W_Proc_addOwnName_p7)
theorem W_Pars_local {M : zMem} {x0 x1 : Int32} : zK Prod.snd okC M (F_Pars_local M x0 x1) := by
  unfold F_Pars_local
  repeat' (first | with_reducible apply zK_if | with_reducible apply zK_ix | with_reducible apply zK_bit | with_reducible apply zK_nz | (with_reducible refine zK_set (fun _ h => by simp only [okC, okC1, okR, okR1] at h; omega) (fun _ => ?_)) | (with_reducible refine zK_bi ?_ (fun _ _ => ?_)) | (with_reducible refine zK_bv ?_ (fun _ => ?_)) | with_reducible exact zK_some rfl | with_reducible exact W_Proc_addOwnName | with_reducible exact W_Tok_isName)
theorem W_Proc_addParameter_p31 {M : zMem} {x0 : Int32} : zK id okC M (F_Proc_addParameter_p31 M x0) := by
  unfold F_Proc_addParameter_p31
  repeat' (first | with_reducible apply zK_if | with_reducible apply zK_ix | with_reducible apply zK_bit | with_reducible apply zK_nz | (with_reducible refine zK_set (fun _ h => by simp only [okC, okC1, okR, okR1] at h; omega) (fun _ => ?_)) | (with_reducible refine zK_bi ?_ (fun _ _ => ?_)) | (with_reducible refine zK_bv ?_ (fun _ => ?_)) | with_reducible exact zK_some rfl | with_reducible exact W_Proc_addOwnName)
theorem W_Proc_addParameter {M : zMem} {x0 x1 : Int32} : zK id okC M (F_Proc_addParameter M x0 x1) := by
  unfold F_Proc_addParameter
  repeat' (first | with_reducible apply zK_if | with_reducible apply zK_ix | with_reducible apply zK_bit | with_reducible apply zK_nz | (with_reducible refine zK_set (fun _ h => by simp only [okC, okC1, okR, okR1] at h; omega) (fun _ => ?_)) | (with_reducible refine zK_bi ?_ (fun _ _ => ?_)) | (with_reducible refine zK_bv ?_ (fun _ => ?_)) | with_reducible exact zK_some rfl | with_reducible exact W_Proc_addOwnName | with_reducible exact W_Proc_addParameter_p31)
theorem W_Pars_parameter {M : zMem} {x0 x1 : Int32} : zK Prod.snd okC M (F_Pars_parameter M x0 x1) := by
  unfold F_Pars_parameter
  repeat' (first | with_reducible apply zK_if | with_reducible apply zK_ix | with_reducible apply zK_bit | with_reducible apply zK_nz | (with_reducible refine zK_set (fun _ h => by simp only [okC, okC1, okR, okR1] at h; omega) (fun _ => ?_)) | (with_reducible refine zK_bi ?_ (fun _ _ => ?_)) | (with_reducible refine zK_bv ?_ (fun _ => ?_)) | with_reducible exact zK_some rfl | with_reducible exact W_Proc_addParameter | with_reducible exact W_Tok_isName)
theorem W_Pars_acceptInHead {M : zMem} {x0 x1 x2 : Int32} : zK Prod.snd okC M (F_Pars_acceptInHead M x0 x1 x2) := by
  unfold F_Pars_acceptInHead
  repeat' (first | with_reducible apply zK_if | with_reducible apply zK_ix | with_reducible apply zK_bit | with_reducible apply zK_nz | (with_reducible refine zK_set (fun _ h => by simp only [okC, okC1, okR, okR1] at h; omega) (fun _ => ?_)) | (with_reducible refine zK_bi ?_ (fun _ _ => ?_)) | (with_reducible refine zK_bv ?_ (fun _ => ?_)) | with_reducible exact zK_some rfl | with_reducible exact W_Pars_beginBody | with_reducible exact W_Pars_beginMain | with_reducible exact W_Pars_beginProcedure | with_reducible exact W_Pars_local | with_reducible exact W_Pars_parameter)
theorem W_Pars_isProgram {M : zMem} : zK Prod.snd okC M (F_Pars_isProgram M ) := by
  unfold F_Pars_isProgram
  repeat' (first | with_reducible apply zK_if | with_reducible apply zK_ix | with_reducible apply zK_bit | with_reducible apply zK_nz | (with_reducible refine zK_set (fun _ h => by simp only [okC, okC1, okR, okR1] at h; omega) (fun _ => ?_)) | (with_reducible refine zK_bi ?_ (fun _ _ => ?_)) | (with_reducible refine zK_bv ?_ (fun _ => ?_)) | with_reducible exact zK_some rfl)
theorem W_Pend_restart {M : zMem} : zK id okC M (F_Pend_restart M ) := by
  unfold F_Pend_restart
  repeat' (first | with_reducible apply zK_if | with_reducible apply zK_ix | with_reducible apply zK_bit | with_reducible apply zK_nz | (with_reducible refine zK_set (fun _ h => by simp only [okC, okC1, okR, okR1] at h; omega) (fun _ => ?_)) | (with_reducible refine zK_bi ?_ (fun _ _ => ?_)) | (with_reducible refine zK_bv ?_ (fun _ => ?_)) | with_reducible exact zK_some rfl)
theorem W_Plain_restart_p7 {N : Nat} : ∀ (n : Nat) {M : zMem} {x0 : Int32}, zK id okC M (F_Plain_restart_p7 N n M x0) := by
  intro n
  induction n with
  | zero =>
    intro M x0
    unfold F_Plain_restart_p7
    exact zK_none
  | succ n ih =>
    intro M x0
    unfold F_Plain_restart_p7
    repeat' (first | with_reducible apply zK_if | with_reducible apply zK_ix | with_reducible apply zK_bit | with_reducible apply zK_nz | (with_reducible refine zK_set (fun _ h => by simp only [okC, okC1, okR, okR1] at h; omega) (fun _ => ?_)) | (with_reducible refine zK_bi ?_ (fun _ _ => ?_)) | (with_reducible refine zK_bv ?_ (fun _ => ?_)) | with_reducible exact zK_some rfl | with_reducible exact ih | with_reducible exact W_Plain_beginOperand)
theorem W_Plain_restart {N : Nat} {M : zMem} : zK id okC M (F_Plain_restart N M ) := by
  unfold F_Plain_restart
  repeat' (first | with_reducible apply zK_if | with_reducible apply zK_ix | with_reducible apply zK_bit | with_reducible apply zK_nz | (with_reducible refine zK_set (fun _ h => by simp only [okC, okC1, okR, okR1] at h; omega) (fun _ => ?_)) | (with_reducible refine zK_bi ?_ (fun _ _ => ?_)) | (with_reducible refine zK_bv ?_ (fun _ => ?_)) | with_reducible exact zK_some rfl | with_reducible exact W_Plain_beginOperand | with_reducible exact W_Plain_restart_p7 _)
theorem W_Proc_restart_p16 {N : Nat} : ∀ (n : Nat) {M : zMem} {x0 : Int32}, zK id okC M (F_Proc_restart_p16 N n M x0) := by
  intro n
  induction n with
  | zero =>
    intro M x0
    unfold F_Proc_restart_p16
    exact zK_none
  | succ n ih =>
    intro M x0
    unfold F_Proc_restart_p16
    repeat' (first | with_reducible apply zK_if | with_reducible apply zK_ix | with_reducible apply zK_bit | with_reducible apply zK_nz | (with_reducible refine zK_set (fun _ h => by simp only [okC, okC1, okR, okR1] at h; omega) (fun _ => ?_)) | (with_reducible refine zK_bi ?_ (fun _ _ => ?_)) | (with_reducible refine zK_bv ?_ (fun _ => ?_)) | with_reducible exact zK_some rfl | with_reducible exact ih)
theorem W_Proc_restart_p2 {N : Nat} : ∀ (n : Nat) {M : zMem} {x0 : Int32}, zK id okC M (F_Proc_restart_p2 N n M x0) := by
  intro n
  induction n with
  | zero =>
    intro M x0
    unfold F_Proc_restart_p2
    exact zK_none
  | succ n ih =>
    intro M x0
    unfold F_Proc_restart_p2
    repeat' (first | with_reducible apply zK_if | with_reducible apply zK_ix | with_reducible apply zK_bit | with_reducible apply zK_nz | (with_reducible refine zK_set (fun _ h => by simp only [okC, okC1, okR, okR1] at h; omega) (fun _ => ?_)) | (with_reducible refine zK_bi ?_ (fun _ _ => ?_)) | (with_reducible refine zK_bv ?_ (fun _ => ?_)) | with_reducible exact zK_some rfl | with_reducible exact ih | with_reducible exact W_Proc_restart_p16 _)
theorem W_Proc_restart {N : Nat} {M : zMem} : zK id okC M (F_Proc_restart N M ) := by
  unfold F_Proc_restart
  repeat' (first | with_reducible apply zK_if | with_reducible apply zK_ix | with_reducible apply zK_bit | with_reducible apply zK_nz | (with_reducible refine zK_set (fun _ h => by simp only [okC, okC1, okR, okR1] at h; omega) (fun _ => ?_)) | (with_reducible refine zK_bi ?_ (fun _ _ => ?_)) | (with_reducible refine zK_bv ?_ (fun _ => ?_)) | with_reducible exact zK_some rfl | with_reducible exact W_Proc_restart_p16 _ | with_reducible exact W_Proc_restart_p2 _)
theorem W_Pars_restart {N : Nat} {M : zMem} : zK id okC M (F_Pars_restart N M ) := by
  unfold F_Pars_restart
  repeat' (first | with_reducible apply zK_if | with_reducible apply zK_ix | with_reducible apply zK_bit | with_reducible apply zK_nz | (with_reducible refine zK_set (fun _ h => by simp only [okC, okC1, okR, okR1] at h; omega) (fun _ => ?_)) | (with_reducible refine zK_bi ?_ (fun _ _ => ?_)) | (with_reducible refine zK_bv ?_ (fun _ => ?_)) | with_reducible exact zK_some rfl | with_reducible exact W_Code_restart | with_reducible exact W_Pend_restart | with_reducible exact W_Plain_restart | with_reducible exact W_Proc_restart)
theorem W_Tok_endsStatements {M : zMem} {x0 : Int32} : zK Prod.snd okC M (F_Tok_endsStatements M x0) := by
  unfold F_Tok_endsStatements
  repeat' (first | with_reducible apply zK_if | with_reducible apply zK_ix | with_reducible apply zK_bit | with_reducible apply zK_nz | (with_reducible refine zK_set (fun _ h => by simp only [okC, okC1, okR, okR1] at h; omega) (fun _ => ?_)) | (with_reducible refine zK_bi ?_ (fun _ _ => ?_)) | (with_reducible refine zK_bv ?_ (fun _ => ?_)) | with_reducible exact zK_some rfl)
theorem W_Tok_opensStatements {M : zMem} {x0 : Int32} : zK Prod.snd okC M (F_Tok_opensStatements M x0) := by
  unfold F_Tok_opensStatements
  repeat' (first | with_reducible apply zK_if | with_reducible apply zK_ix | with_reducible apply zK_bit | with_reducible apply zK_nz | (with_reducible refine zK_set (fun _ h => by simp only [okC, okC1, okR, okR1] at h; omega) (fun _ => ?_)) | (with_reducible refine zK_bi ?_ (fun _ _ => ?_)) | (with_reducible refine zK_bv ?_ (fun _ => ?_)) | with_reducible exact zK_some rfl)
theorem W_Plain_isBesideEmptyStatement_p42 {M : zMem} {x0 x1 : Int32} : zK Prod.snd okC M (F_Plain_isBesideEmptyStatement_p42 M x0 x1) := by
  unfold F_Plain_isBesideEmptyStatement_p42
  repeat' (first | with_reducible apply zK_if | with_reducible apply zK_ix | with_reducible apply zK_bit | with_reducible apply zK_nz | (with_reducible refine zK_set (fun _ h => by simp only [okC, okC1, okR, okR1] at h; omega) (fun _ => ?_)) | (with_reducible refine zK_bi ?_ (fun _ _ => ?_)) | (with_reducible refine zK_bv ?_ (fun _ => ?_)) | with_reducible exact zK_some rfl | with_reducible exact W_Tok_endsStatements | with_reducible exact W_Tok_opensStatements)
theorem W_Plain_isBesideEmptyStatement_p41 {M : zMem} {x0 : Int32} : zK Prod.snd okC M (F_Plain_isBesideEmptyStatement_p41 M x0) := by
  unfold F_Plain_isBesideEmptyStatement_p41
  repeat' (first | with_reducible apply zK_if | with_reducible apply zK_ix | with_reducible apply zK_bit | with_reducible apply zK_nz | (with_reducible refine zK_set (fun _ h => by simp only [okC, okC1, okR, okR1] at h; omega) (fun _ => ?_)) | (with_reducible refine zK_bi ?_ (fun _ _ => ?_)) | (with_reducible refine zK_bv ?_ (fun _ => ?_)) | with_reducible exact zK_some rfl | with_reducible exact W_Tok_endsStatements | with_reducible exact W_Tok_opensStatements | with_reducible exact W_Plain_isBesideEmptyStatement_p42)
theorem W_Plain_isBesideEmptyStatement_p21 {M : zMem} {x0 x1 x2 : Int32} : zK Prod.snd okC M (F_Plain_isBesideEmptyStatement_p21 M x0 x1 x2) := by
  unfold F_Plain_isBesideEmptyStatement_p21
  repeat' (first | with_reducible apply zK_if | with_reducible apply zK_ix | with_reducible apply zK_bit | with_reducible apply zK_nz | (with_reducible refine zK_set (fun _ h => by simp only [okC, okC1, okR, okR1] at h; omega) (fun _ => ?_)) | (with_reducible refine zK_bi ?_ (fun _ _ => ?_)) | (with_reducible refine zK_bv ?_ (fun _ => ?_)) | with_reducible exact zK_some rfl | with_reducible exact W_Tok_endsStatements | with_reducible exact W_Tok_opensStatements | with_reducible exact W_Plain_isBesideEmptyStatement_p42 | with_reducible exact W_Plain_isBesideEmptyStatement_p41)
theorem W_Plain_isBesideEmptyStatement_p20 {M : zMem} {x0 x1 : Int32} : zK Prod.snd okC M (F_Plain_isBesideEmptyStatement_p20 M x0 x1) := by
  unfold F_Plain_isBesideEmptyStatement_p20
  repeat' (first | with_reducible apply zK_if | with_reducible apply zK_ix | with_reducible apply zK_bit | with_reducible apply zK_nz | (with_reducible refine zK_set (fun _ h => by simp only [okC, okC1, okR, okR1] at h; omega) (fun _ => ?_)) | (with_reducible refine zK_bi ?_ (fun _ _ => ?_)) | (with_reducible refine zK_bv ?_ (fun _ => ?_)) | with_reducible exact zK_some rfl | with_reducible exact W_Tok_endsStatements | with_reducible exact W_Tok_opensStatements | with_reducible exact W_Plain_isBesideEmptyStatement_p42 | with_reducible exact W_Plain_isBesideEmptyStatement_p41 | with_reducible exact W_Plain_isBesideEmptyStatement_p21)
theorem W_Plain_isBesideEmptyStatement {M : zMem} {x0 x1 : Int32} : zK Prod.snd okC M (F_Plain_isBesideEmptyStatement M x0 x1) := by
  unfold F_Plain_isBesideEmptyStatement
  repeat' (first | with_reducible apply zK_if | with_reducible apply zK_ix | with_reducible apply zK_bit | with_reducible apply zK_nz | (with_reducible refine zK_set (fun _ h => by simp only [okC, okC1, okR, okR1] at h; omega) (fun _ => ?_)) | (with_reducible refine zK_bi ?_ (fun _ _ => ?_)) | (with_reducible refine zK_bv ?_ (fun _ => ?_)) | with_reducible exact zK_some rfl | with_reducible exact W_Tok_endsStatements | with_reducible exact W_Tok_opensStatements | with_reducible exact W_Plain_isBesideEmptyStatement_p42 | with_reducible exact W_Plain_isBesideEmptyStatement_p41 | with_reducible exact W_Plain_isBesideEmptyStatement_p21 | with_reducible exact W_Plain_isBesideEmptyStatement_p20)
theorem W_Plain_collect_p57 {N : Nat} {rec5 : zMem → Int32 → Int32 → Option (zMem)} (hrec5 : ∀ M x0 x1, zK id okC M (rec5 M x0 x1)) {M : zMem} {x0 x1 : Int32} : zK id okC M (F_Plain_collect_p57 N rec5 M x0 x1) := by
  unfold F_Plain_collect_p57
  repeat' (first | with_reducible apply zK_if | with_reducible apply zK_ix | with_reducible apply zK_bit | with_reducible apply zK_nz | (with_reducible refine zK_set (fun _ h => by simp only [okC, okC1, okR, okR1] at h; omega) (fun _ => ?_)) | (with_reducible refine zK_bi ?_ (fun _ _ => ?_)) | (with_reducible refine zK_bv ?_ (fun _ => ?_)) | with_reducible exact zK_some rfl | with_reducible exact W_Plain_isBesideEmptyStatement | with_reducible exact hrec5 _ _ _)
theorem W_Plain_collect_p34 {N : Nat} {rec5 : zMem → Int32 → Int32 → Option (zMem)} (hrec5 : ∀ M x0 x1, zK id okC M (rec5 M x0 x1)) {M : zMem} {x0 x1 x2 : Int32} : zK id okC M (F_Plain_collect_p34 N rec5 M x0 x1 x2) := by
  unfold F_Plain_collect_p34
  repeat' (first | with_reducible apply zK_if | with_reducible apply zK_ix | with_reducible apply zK_bit | with_reducible apply zK_nz | (with_reducible refine zK_set (fun _ h => by simp only [okC, okC1, okR, okR1] at h; omega) (fun _ => ?_)) | (with_reducible refine zK_bi ?_ (fun _ _ => ?_)) | (with_reducible refine zK_bv ?_ (fun _ => ?_)) | with_reducible exact zK_some rfl | with_reducible exact W_Plain_isBesideEmptyStatement | with_reducible exact W_Plain_collect_p57 hrec5 | with_reducible exact hrec5 _ _ _)
theorem W_Plain_collect_p31 {N : Nat} {rec5 : zMem → Int32 → Int32 → Option (zMem)} (hrec5 : ∀ M x0 x1, zK id okC M (rec5 M x0 x1)) {M : zMem} {x0 x1 : Int32} : zK id okC M (F_Plain_collect_p31 N rec5 M x0 x1) := by
  unfold F_Plain_collect_p31
  repeat' (first | with_reducible apply zK_if | with_reducible apply zK_ix | with_reducible apply zK_bit | with_reducible apply zK_nz | (with_reducible refine zK_set (fun _ h => by simp only [okC, okC1, okR, okR1] at h; omega) (fun _ => ?_)) | (with_reducible refine zK_bi ?_ (fun _ _ => ?_)) | (with_reducible refine zK_bv ?_ (fun _ => ?_)) | with_reducible exact zK_some rfl | with_reducible exact W_Plain_isBesideEmptyStatement | with_reducible exact W_Plain_collect_p57 hrec5 | with_reducible exact W_Plain_collect_p34 hrec5 | with_reducible exact hrec5 _ _ _)
theorem W_Plain_collect_p33 {N : Nat} {rec5 : zMem → Int32 → Int32 → Option (zMem)} (hrec5 : ∀ M x0 x1, zK id okC M (rec5 M x0 x1)) {M : zMem} {x0 x1 : Int32} : zK id okC M (F_Plain_collect_p33 N rec5 M x0 x1) := by
  unfold F_Plain_collect_p33
  repeat' (first | with_reducible apply zK_if | with_reducible apply zK_ix | with_reducible apply zK_bit | with_reducible apply zK_nz | (with_reducible refine zK_set (fun _ h => by simp only [okC, okC1, okR, okR1] at h; omega) (fun _ => ?_)) | (with_reducible refine zK_bi ?_ (fun _ _ => ?_)) | (with_reducible refine zK_bv ?_ (fun _ => ?_)) | with_reducible exact zK_some rfl | with_reducible exact W_Plain_isBesideEmptyStatement | with_reducible exact W_Plain_collect_p57 hrec5 | with_reducible exact W_Plain_collect_p34 hrec5 | with_reducible exact W_Plain_collect_p31 hrec5 | with_reducible exact hrec5 _ _ _)
theorem W_Plain_collect_p5 {N : Nat} : ∀ (n : Nat) {M : zMem} {x0 x1 : Int32}, zK id okC M (F_Plain_collect_p5 N n M x0 x1) := by
  intro n
  induction n with
  | zero =>
    intro M x0 x1
    unfold F_Plain_collect_p5
    exact zK_none
  | succ n ih =>
    intro M x0 x1
    unfold F_Plain_collect_p5
    repeat' (first | with_reducible apply zK_if | with_reducible apply zK_ix | with_reducible apply zK_bit | with_reducible apply zK_nz | (with_reducible refine zK_set (fun _ h => by simp only [okC, okC1, okR, okR1] at h; omega) (fun _ => ?_)) | (with_reducible refine zK_bi ?_ (fun _ _ => ?_)) | (with_reducible refine zK_bv ?_ (fun _ => ?_)) | with_reducible exact zK_some rfl | with_reducible exact ih | with_reducible exact W_Plain_isBesideEmptyStatement | with_reducible exact W_Plain_collect_p57 (fun _ _ _ => ih) | with_reducible exact W_Plain_collect_p34 (fun _ _ _ => ih) | with_reducible exact W_Plain_collect_p31 (fun _ _ _ => ih) | with_reducible exact W_Plain_collect_p33 (fun _ _ _ => ih))
theorem W_Plain_collect {N : Nat} {M : zMem} {x0 : Int32} : zK id okC M (F_Plain_collect N M x0) := by
  unfold F_Plain_collect
  repeat' (first | with_reducible apply zK_if | with_reducible apply zK_ix | with_reducible apply zK_bit | with_reducible apply zK_nz | (with_reducible refine zK_set (fun _ h => by simp only [okC, okC1, okR, okR1] at h; omega) (fun _ => ?_)) | (with_reducible refine zK_bi ?_ (fun _ _ => ?_)) | (with_reducible refine zK_bv ?_ (fun _ => ?_)) | with_reducible exact zK_some rfl | with_reducible exact W_Plain_isBesideEmptyStatement | with_reducible exact W_Plain_collect_p57 hrec5 | with_reducible exact W_Plain_collect_p34 hrec5 | with_reducible exact W_Plain_collect_p31 hrec5 | with_reducible exact W_Plain_collect_p33 hrec5 | with_reducible exact W_Plain_collect_p5 _)
theorem W_Proc_fits {M : zMem} {x0 x1 : Int32} : zK Prod.snd okC M (F_Proc_fits M x0 x1) := by
  unfold F_Proc_fits
  repeat' (first | with_reducible apply zK_if | with_reducible apply zK_ix | with_reducible apply zK_bit | with_reducible apply zK_nz | (with_reducible refine zK_set (fun _ h => by simp only [okC, okC1, okR, okR1] at h; omega) (fun _ => ?_)) | (with_reducible refine zK_bi ?_ (fun _ _ => ?_)) | (with_reducible refine zK_bv ?_ (fun _ => ?_)) | with_reducible exact zK_some rfl)
theorem W_Proc_findFault_p30 {N : Nat} {M : zMem} : zK Prod.snd okC M (F_Proc_findFault_p30 N M ) := by
  unfold F_Proc_findFault_p30
  repeat' (first | with_reducible apply zK_if | with_reducible apply zK_ix | with_reducible apply zK_bit | with_reducible apply zK_nz | (with_reducible refine zK_set (fun _ h => by simp only [okC, okC1, okR, okR1] at h; omega) (fun _ => ?_)) | (with_reducible refine zK_bi ?_ (fun _ _ => ?_)) | (with_reducible refine zK_bv ?_ (fun _ => ?_)) | with_reducible exact zK_some rfl | with_reducible exact W_Proc_fits | with_reducible exact W_Proc_noteFault)
theorem W_Proc_findFault_p28 {N : Nat} {rec2 : zMem → Int32 → Int32 → Option (Int32 × zMem)} (hrec2 : ∀ M x0 x1, zK Prod.snd okC M (rec2 M x0 x1)) {M : zMem} {x0 x1 : Int32} : zK Prod.snd okC M (F_Proc_findFault_p28 N rec2 M x0 x1) := by
  unfold F_Proc_findFault_p28
  repeat' (first | with_reducible apply zK_if | with_reducible apply zK_ix | with_reducible apply zK_bit | with_reducible apply zK_nz | (with_reducible refine zK_set (fun _ h => by simp only [okC, okC1, okR, okR1] at h; omega) (fun _ => ?_)) | (with_reducible refine zK_bi ?_ (fun _ _ => ?_)) | (with_reducible refine zK_bv ?_ (fun _ => ?_)) | with_reducible exact zK_some rfl | with_reducible exact W_Proc_fits | with_reducible exact W_Proc_noteFault | with_reducible exact W_Proc_findFault_p30 | with_reducible exact hrec2 _ _ _)
theorem W_Proc_findFault_p2 {N : Nat} : ∀ (n : Nat) {M : zMem} {x0 x1 : Int32}, zK Prod.snd okC M (F_Proc_findFault_p2 N n M x0 x1) := by
  intro n
  induction n with
  | zero =>
    intro M x0 x1
    unfold F_Proc_findFault_p2
    exact zK_none
  | succ n ih =>
    intro M x0 x1
    unfold F_Proc_findFault_p2
    repeat' (first | with_reducible apply zK_if | with_reducible apply zK_ix | with_reducible apply zK_bit | with_reducible apply zK_nz | (with_reducible refine zK_set (fun _ h => by simp only [okC, okC1, okR, okR1] at h; omega) (fun _ => ?_)) | (with_reducible refine zK_bi ?_ (fun _ _ => ?_)) | (with_reducible refine zK_bv ?_ (fun _ => ?_)) | with_reducible exact zK_some rfl | with_reducible exact ih | with_reducible exact W_Proc_fits | with_reducible exact W_Proc_noteFault | with_reducible exact W_Proc_findFault_p30 | with_reducible exact W_Proc_findFault_p28 (fun _ _ _ => ih))
theorem W_Proc_findFault {N : Nat} {M : zMem} {x0 : Int32} : zK Prod.snd okC M (F_Proc_findFault N M x0) := by
  unfold F_Proc_findFault
  repeat' (first | with_reducible apply zK_if | with_reducible apply zK_ix | with_reducible apply zK_bit | with_reducible apply zK_nz | (with_reducible refine zK_set (fun _ h => by simp only [okC, okC1, okR, okR1] at h; omega) (fun _ => ?_)) | (with_reducible refine zK_bi ?_ (fun _ _ => ?_)) | (with_reducible refine zK_bv ?_ (fun _ => ?_)) | with_reducible exact zK_some rfl | with_reducible exact W_Proc_fits | with_reducible exact W_Proc_noteFault | with_reducible exact W_Proc_findFault_p30 | with_reducible exact W_Proc_findFault_p28 hrec2 | with_reducible exact W_Proc_findFault_p2 _)
theorem W_Pars_read_p56 {N : Nat} {M : zMem} {x0 x1 : Int32} : zK id okC M (F_Pars_read_p56 N M x0 x1) := by
  unfold F_Pars_read_p56
  repeat' (first | with_reducible apply zK_if | with_reducible apply zK_ix | with_reducible apply zK_bit | with_reducible apply zK_nz | (with_reducible refine zK_set (fun _ h => by simp only [okC, okC1, okR, okR1] at h; omega) (fun _ => ?_)) | (with_reducible refine zK_bi ?_ (fun _ _ => ?_)) | (with_reducible refine zK_bv ?_ (fun _ => ?_)) | with_reducible exact zK_some rfl | with_reducible exact W_Expr_end | with_reducible exact W_Level_ofOperator | with_reducible exact W_Pars_accept | with_reducible exact W_Pars_acceptInHead | with_reducible exact W_Pars_restart | with_reducible exact W_Plain_collect | with_reducible exact W_Proc_findFault)
theorem W_Pars_read_p46 {N : Nat} {rec10 : zMem → Int32 → Int32 → Int32 → Option (zMem)} (hrec10 : ∀ M x0 x1 x2, zK id okC M (rec10 M x0 x1 x2)) {M : zMem} {x0 x1 x2 : Int32} : zK id okC M (F_Pars_read_p46 N rec10 M x0 x1 x2) := by
  unfold F_Pars_read_p46
  repeat' (first | with_reducible apply zK_if | with_reducible apply zK_ix | with_reducible apply zK_bit | with_reducible apply zK_nz | (with_reducible refine zK_set (fun _ h => by simp only [okC, okC1, okR, okR1] at h; omega) (fun _ => ?_)) | (with_reducible refine zK_bi ?_ (fun _ _ => ?_)) | (with_reducible refine zK_bv ?_ (fun _ => ?_)) | with_reducible exact zK_some rfl | with_reducible exact W_Expr_end | with_reducible exact W_Level_ofOperator | with_reducible exact W_Pars_accept | with_reducible exact W_Pars_acceptInHead | with_reducible exact W_Pars_restart | with_reducible exact W_Plain_collect | with_reducible exact W_Proc_findFault | with_reducible exact W_Pars_read_p56 | with_reducible exact hrec10 _ _ _ _)
theorem W_Pars_read_p32 {N : Nat} {rec10 : zMem → Int32 → Int32 → Int32 → Option (zMem)} (hrec10 : ∀ M x0 x1 x2, zK id okC M (rec10 M x0 x1 x2)) {M : zMem} {x0 x1 x2 x3 : Int32} : zK id okC M (F_Pars_read_p32 N rec10 M x0 x1 x2 x3) := by
  unfold F_Pars_read_p32
  repeat' (first | with_reducible apply zK_if | with_reducible apply zK_ix | with_reducible apply zK_bit | with_reducible apply zK_nz | (with_reducible refine zK_set (fun _ h => by simp only [okC, okC1, okR, okR1] at h; omega) (fun _ => ?_)) | (with_reducible refine zK_bi ?_ (fun _ _ => ?_)) | (with_reducible refine zK_bv ?_ (fun _ => ?_)) | with_reducible exact zK_some rfl | with_reducible exact W_Expr_end | with_reducible exact W_Level_ofOperator | with_reducible exact W_Pars_accept | with_reducible exact W_Pars_acceptInHead | with_reducible exact W_Pars_restart | with_reducible exact W_Plain_collect | with_reducible exact W_Proc_findFault | with_reducible exact W_Pars_read_p56 | with_reducible exact W_Pars_read_p46 hrec10 | with_reducible exact hrec10 _ _ _ _)
theorem W_Pars_read_p10 {N : Nat} : ∀ (n : Nat) {M : zMem} {x0 x1 x2 : Int32}, zK id okC M (F_Pars_read_p10 N n M x0 x1 x2) := by
  intro n
  induction n with
  | zero =>
    intro M x0 x1 x2
    unfold F_Pars_read_p10
    exact zK_none
  | succ n ih =>
    intro M x0 x1 x2
    unfold F_Pars_read_p10
    repeat' (first | with_reducible apply zK_if | with_reducible apply zK_ix | with_reducible apply zK_bit | with_reducible apply zK_nz | (with_reducible refine zK_set (fun _ h => by simp only [okC, okC1, okR, okR1] at h; omega) (fun _ => ?_)) | (with_reducible refine zK_bi ?_ (fun _ _ => ?_)) | (with_reducible refine zK_bv ?_ (fun _ => ?_)) | with_reducible exact zK_some rfl | with_reducible exact ih | with_reducible exact W_Expr_end | with_reducible exact W_Level_ofOperator | with_reducible exact W_Pars_accept | with_reducible exact W_Pars_acceptInHead | with_reducible exact W_Pars_restart | with_reducible exact W_Plain_collect | with_reducible exact W_Proc_findFault | with_reducible exact W_Pars_read_p56 | with_reducible exact W_Pars_read_p46 (fun _ _ _ _ => ih) | with_reducible exact W_Pars_read_p32 (fun _ _ _ _ => ih))
theorem W_Pars_read {N : Nat} {M : zMem} {x0 : Int32} : zK id okC M (F_Pars_read N M x0) := by
  unfold F_Pars_read
  repeat' (first | with_reducible apply zK_if | with_reducible apply zK_ix | with_reducible apply zK_bit | with_reducible apply zK_nz | (with_reducible refine zK_set (fun _ h => by simp only [okC, okC1, okR, okR1] at h; omega) (fun _ => ?_)) | (with_reducible refine zK_bi ?_ (fun _ _ => ?_)) | (with_reducible refine zK_bv ?_ (fun _ => ?_)) | with_reducible exact zK_some rfl | with_reducible exact W_Expr_end | with_reducible exact W_Level_ofOperator | with_reducible exact W_Pars_accept | with_reducible exact W_Pars_acceptInHead | with_reducible exact W_Pars_restart | with_reducible exact W_Plain_collect | with_reducible exact W_Proc_findFault | with_reducible exact W_Pars_read_p56 | with_reducible exact W_Pars_read_p46 hrec10 | with_reducible exact W_Pars_read_p32 hrec10 | with_reducible exact W_Pars_read_p10 _)
theorem W_Tok_exists_p32 {M : zMem} {x0 : Int32} : zK Prod.snd okC M (F_Tok_exists_p32 M x0) := by
  unfold F_Tok_exists_p32
  repeat' (first | with_reducible apply zK_if | with_reducible apply zK_ix | with_reducible apply zK_bit | with_reducible apply zK_nz | (with_reducible refine zK_set (fun _ h => by simp only [okC, okC1, okR, okR1] at h; omega) (fun _ => ?_)) | (with_reducible refine zK_bi ?_ (fun _ _ => ?_)) | (with_reducible refine zK_bv ?_ (fun _ => ?_)) | with_reducible exact zK_some rfl | with_reducible exact W_Tok_isProcedure)
theorem W_Tok_exists_p26 {M : zMem} {x0 : Int32} : zK Prod.snd okC M (F_Tok_exists_p26 M x0) := by
  unfold F_Tok_exists_p26
  repeat' (first | with_reducible apply zK_if | with_reducible apply zK_ix | with_reducible apply zK_bit | with_reducible apply zK_nz | (with_reducible refine zK_set (fun _ h => by simp only [okC, okC1, okR, okR1] at h; omega) (fun _ => ?_)) | (with_reducible refine zK_bi ?_ (fun _ _ => ?_)) | (with_reducible refine zK_bv ?_ (fun _ => ?_)) | with_reducible exact zK_some rfl | with_reducible exact W_Tok_isProcedure | with_reducible exact W_Tok_exists_p32)
theorem W_Tok_exists_p20 {M : zMem} {x0 : Int32} : zK Prod.snd okC M (F_Tok_exists_p20 M x0) := by
  unfold F_Tok_exists_p20
  repeat' (first | with_reducible apply zK_if | with_reducible apply zK_ix | with_reducible apply zK_bit | with_reducible apply zK_nz | (with_reducible refine zK_set (fun _ h => by simp only [okC, okC1, okR, okR1] at h; omega) (fun _ => ?_)) | (with_reducible refine zK_bi ?_ (fun _ _ => ?_)) | (with_reducible refine zK_bv ?_ (fun _ => ?_)) | with_reducible exact zK_some rfl | with_reducible exact W_Tok_isProcedure | with_reducible exact W_Tok_exists_p32 | with_reducible exact W_Tok_exists_p26)
theorem W_Tok_exists_p14 {M : zMem} {x0 : Int32} : zK Prod.snd okC M (F_Tok_exists_p14 M x0) := by
  unfold F_Tok_exists_p14
  repeat' (first | with_reducible apply zK_if | with_reducible apply zK_ix | with_reducible apply zK_bit | with_reducible apply zK_nz | (with_reducible refine zK_set (fun _ h => by simp only [okC, okC1, okR, okR1] at h; omega) (fun _ => ?_)) | (with_reducible refine zK_bi ?_ (fun _ _ => ?_)) | (with_reducible refine zK_bv ?_ (fun _ => ?_)) | with_reducible exact zK_some rfl | with_reducible exact W_Tok_isProcedure | with_reducible exact W_Tok_exists_p32 | with_reducible exact W_Tok_exists_p26 | with_reducible exact W_Tok_exists_p20)
theorem W_Tok_exists_p5 {M : zMem} {x0 : Int32} : zK Prod.snd okC M (F_Tok_exists_p5 M x0) := by
  unfold F_Tok_exists_p5
  repeat' (first | with_reducible apply zK_if | with_reducible apply zK_ix | with_reducible apply zK_bit | with_reducible apply zK_nz | (with_reducible refine zK_set (fun _ h => by simp only [okC, okC1, okR, okR1] at h; omega) (fun _ => ?_)) | (with_reducible refine zK_bi ?_ (fun _ _ => ?_)) | (with_reducible refine zK_bv ?_ (fun _ => ?_)) | with_reducible exact zK_some rfl | with_reducible exact W_Tok_isProcedure | with_reducible exact W_Tok_exists_p32 | with_reducible exact W_Tok_exists_p26 | with_reducible exact W_Tok_exists_p20 | with_reducible exact W_Tok_exists_p14)
theorem W_Tok_exists {M : zMem} {x0 : Int32} : zK Prod.snd okC M (F_Tok_exists M x0) := by
  unfold F_Tok_exists
  repeat' (first | with_reducible apply zK_if | with_reducible apply zK_ix | with_reducible apply zK_bit | with_reducible apply zK_nz | (with_reducible refine zK_set (fun _ h => by simp only [okC, okC1, okR, okR1] at h; omega) (fun _ => ?_)) | (with_reducible refine zK_bi ?_ (fun _ _ => ?_)) | (with_reducible refine zK_bv ?_ (fun _ => ?_)) | with_reducible exact zK_some rfl | with_reducible exact W_Tok_isProcedure | with_reducible exact W_Tok_exists_p32 | with_reducible exact W_Tok_exists_p26 | with_reducible exact W_Tok_exists_p20 | with_reducible exact W_Tok_exists_p14 | with_reducible exact W_Tok_exists_p5)
theorem W_L_forgetText {M : zMem} : zK id okC M (F_L_forgetText M ) := by
  unfold F_L_forgetText
  repeat' (first | with_reducible apply zK_if | with_reducible apply zK_ix | with_reducible apply zK_bit | with_reducible apply zK_nz | (with_reducible refine zK_set (fun _ h => by simp only [okC, okC1, okR, okR1] at h; omega) (fun _ => ?_)) | (with_reducible refine zK_bi ?_ (fun _ _ => ?_)) | (with_reducible refine zK_bv ?_ (fun _ => ?_)) | with_reducible exact zK_some rfl)
theorem W_L_append {M : zMem} {x0 : Int32} : zK id okC1 M (F_L_append M x0) := by
  unfold F_L_append
  repeat' (first | with_reducible apply zK_if | with_reducible apply zK_ix | with_reducible apply zK_bit | with_reducible apply zK_nz | (with_reducible refine zK_set (fun _ h => by simp only [okC, okC1, okR, okR1] at h; omega) (fun _ => ?_)) | (with_reducible refine zK_bi ?_ (fun _ _ => ?_)) | (with_reducible refine zK_bv ?_ (fun _ => ?_)) | with_reducible exact zK_some rfl | with_reducible exact zK_mono W_L_forgetText (fun _ h => okC_of h))
theorem W_L_cell {M : zMem} {x0 x1 : Int32} : zK Prod.snd okC1 M (F_L_cell M x0 x1) := by
  unfold F_L_cell
  repeat' (first | with_reducible apply zK_if | with_reducible apply zK_ix | with_reducible apply zK_bit | with_reducible apply zK_nz | (with_reducible refine zK_set (fun _ h => by simp only [okC, okC1, okR, okR1] at h; omega) (fun _ => ?_)) | (with_reducible refine zK_bi ?_ (fun _ _ => ?_)) | (with_reducible refine zK_bv ?_ (fun _ => ?_)) | with_reducible exact zK_some rfl)
theorem W_L_execute {N : Nat} {M : zMem} : zK Prod.snd okC M (F_L_execute N M ) := by
  unfold F_L_execute
  repeat' (first | with_reducible apply zK_if | with_reducible apply zK_ix | with_reducible apply zK_bit | with_reducible apply zK_nz | (with_reducible refine zK_set (fun _ h => by simp only [okC, okC1, okR, okR1] at h; omega) (fun _ => ?_)) | (with_reducible refine zK_bi ?_ (fun _ _ => ?_)) | (with_reducible refine zK_bv ?_ (fun _ => ?_)) | with_reducible exact zK_some rfl | with_reducible exact W_Mach_execute | with_reducible exact W_Pars_isProgram | with_reducible exact W_Pars_read)
theorem W_L_cellAfter {N : Nat} {M : zMem} {x0 : Int32} : zK Prod.snd okC M (F_L_cellAfter N M x0) := by
  unfold F_L_cellAfter
  repeat' (first | with_reducible apply zK_if | with_reducible apply zK_ix | with_reducible apply zK_bit | with_reducible apply zK_nz | (with_reducible refine zK_set (fun _ h => by simp only [okC, okC1, okR, okR1] at h; omega) (fun _ => ?_)) | (with_reducible refine zK_bi ?_ (fun _ _ => ?_)) | (with_reducible refine zK_bv ?_ (fun _ => ?_)) | with_reducible exact zK_some rfl | with_reducible exact W_L_execute)
theorem W_L_clear {M : zMem} : zK id okC1 M (F_L_clear M ) := by
  unfold F_L_clear
  repeat' (first | with_reducible apply zK_if | with_reducible apply zK_ix | with_reducible apply zK_bit | with_reducible apply zK_nz | (with_reducible refine zK_set (fun _ h => by simp only [okC, okC1, okR, okR1] at h; omega) (fun _ => ?_)) | (with_reducible refine zK_bi ?_ (fun _ _ => ?_)) | (with_reducible refine zK_bv ?_ (fun _ => ?_)) | with_reducible exact zK_some rfl | with_reducible exact zK_mono W_L_forgetText (fun _ h => okC_of h))
theorem W_L_deepest {N : Nat} {M : zMem} : zK Prod.snd okC M (F_L_deepest N M ) := by
  unfold F_L_deepest
  repeat' (first | with_reducible apply zK_if | with_reducible apply zK_ix | with_reducible apply zK_bit | with_reducible apply zK_nz | (with_reducible refine zK_set (fun _ h => by simp only [okC, okC1, okR, okR1] at h; omega) (fun _ => ?_)) | (with_reducible refine zK_bi ?_ (fun _ _ => ?_)) | (with_reducible refine zK_bv ?_ (fun _ => ?_)) | with_reducible exact zK_some rfl | with_reducible exact W_L_execute)
theorem W_L_fault {N : Nat} {M : zMem} : zK Prod.snd okC M (F_L_fault N M ) := by
  unfold F_L_fault
  repeat' (first | with_reducible apply zK_if | with_reducible apply zK_ix | with_reducible apply zK_bit | with_reducible apply zK_nz | (with_reducible refine zK_set (fun _ h => by simp only [okC, okC1, okR, okR1] at h; omega) (fun _ => ?_)) | (with_reducible refine zK_bi ?_ (fun _ _ => ?_)) | (with_reducible refine zK_bv ?_ (fun _ => ?_)) | with_reducible exact zK_some rfl | with_reducible exact W_Pars_isProgram | with_reducible exact W_Pars_read)
theorem W_L_mayBeAppended {M : zMem} {x0 : Int32} : zK Prod.snd okC M (F_L_mayBeAppended M x0) := by
  unfold F_L_mayBeAppended
  repeat' (first | with_reducible apply zK_if | with_reducible apply zK_ix | with_reducible apply zK_bit | with_reducible apply zK_nz | (with_reducible refine zK_set (fun _ h => by simp only [okC, okC1, okR, okR1] at h; omega) (fun _ => ?_)) | (with_reducible refine zK_bi ?_ (fun _ _ => ?_)) | (with_reducible refine zK_bv ?_ (fun _ => ?_)) | with_reducible exact zK_some rfl | with_reducible exact W_Tok_exists)
theorem W_L_room {M : zMem} {x0 : Int32} : zK Prod.snd okC M (F_L_room M x0) := by
  unfold F_L_room
  repeat' (first | with_reducible apply zK_if | with_reducible apply zK_ix | with_reducible apply zK_bit | with_reducible apply zK_nz | (with_reducible refine zK_set (fun _ h => by simp only [okC, okC1, okR, okR1] at h; omega) (fun _ => ?_)) | (with_reducible refine zK_bi ?_ (fun _ _ => ?_)) | (with_reducible refine zK_bv ?_ (fun _ => ?_)) | with_reducible exact zK_some rfl)
theorem W_L_four {M : zMem} {x0 x1 x2 x3 : Int32} : zK Prod.snd okC1 M (F_L_four M x0 x1 x2 x3) := by
  unfold F_L_four
  repeat' (first | with_reducible apply zK_if | with_reducible apply zK_ix | with_reducible apply zK_bit | with_reducible apply zK_nz | (with_reducible refine zK_set (fun _ h => by simp only [okC, okC1, okR, okR1] at h; omega) (fun _ => ?_)) | (with_reducible refine zK_bi ?_ (fun _ _ => ?_)) | (with_reducible refine zK_bv ?_ (fun _ => ?_)) | with_reducible exact zK_some rfl | with_reducible exact W_L_append | with_reducible exact zK_mono W_L_mayBeAppended (fun _ h => okC_of h) | with_reducible exact zK_mono W_L_room (fun _ h => okC_of h))
theorem W_L_global {N : Nat} {M : zMem} {x0 : Int32} : zK Prod.snd okC M (F_L_global N M x0) := by
  unfold F_L_global
  repeat' (first | with_reducible apply zK_if | with_reducible apply zK_ix | with_reducible apply zK_bit | with_reducible apply zK_nz | (with_reducible refine zK_set (fun _ h => by simp only [okC, okC1, okR, okR1] at h; omega) (fun _ => ?_)) | (with_reducible refine zK_bi ?_ (fun _ _ => ?_)) | (with_reducible refine zK_bv ?_ (fun _ => ?_)) | with_reducible exact zK_some rfl | with_reducible exact W_L_execute)
theorem W_L_output {N : Nat} {M : zMem} {x0 : Int32} : zK Prod.snd okC M (F_L_output N M x0) := by
  unfold F_L_output
  repeat' (first | with_reducible apply zK_if | with_reducible apply zK_ix | with_reducible apply zK_bit | with_reducible apply zK_nz | (with_reducible refine zK_set (fun _ h => by simp only [okC, okC1, okR, okR1] at h; omega) (fun _ => ?_)) | (with_reducible refine zK_bi ?_ (fun _ _ => ?_)) | (with_reducible refine zK_bv ?_ (fun _ => ?_)) | with_reducible exact zK_some rfl | with_reducible exact W_L_execute)
theorem W_L_outs {N : Nat} {M : zMem} : zK Prod.snd okC M (F_L_outs N M ) := by
  unfold F_L_outs
  repeat' (first | with_reducible apply zK_if | with_reducible apply zK_ix | with_reducible apply zK_bit | with_reducible apply zK_nz | (with_reducible refine zK_set (fun _ h => by simp only [okC, okC1, okR, okR1] at h; omega) (fun _ => ?_)) | (with_reducible refine zK_bi ?_ (fun _ _ => ?_)) | (with_reducible refine zK_bv ?_ (fun _ => ?_)) | with_reducible exact zK_some rfl | with_reducible exact W_L_execute)
theorem W_L_plain {N : Nat} {M : zMem} {x0 : Int32} : zK Prod.snd okC M (F_L_plain N M x0) := by
  unfold F_L_plain
  repeat' (first | with_reducible apply zK_if | with_reducible apply zK_ix | with_reducible apply zK_bit | with_reducible apply zK_nz | (with_reducible refine zK_set (fun _ h => by simp only [okC, okC1, okR, okR1] at h; omega) (fun _ => ?_)) | (with_reducible refine zK_bi ?_ (fun _ _ => ?_)) | (with_reducible refine zK_bv ?_ (fun _ => ?_)) | with_reducible exact zK_some rfl | with_reducible exact W_Pars_isProgram | with_reducible exact W_Pars_read)
theorem W_L_plainSize {N : Nat} {M : zMem} : zK Prod.snd okC M (F_L_plainSize N M ) := by
  unfold F_L_plainSize
  repeat' (first | with_reducible apply zK_if | with_reducible apply zK_ix | with_reducible apply zK_bit | with_reducible apply zK_nz | (with_reducible refine zK_set (fun _ h => by simp only [okC, okC1, okR, okR1] at h; omega) (fun _ => ?_)) | (with_reducible refine zK_bi ?_ (fun _ _ => ?_)) | (with_reducible refine zK_bv ?_ (fun _ => ?_)) | with_reducible exact zK_some rfl | with_reducible exact W_Pars_isProgram | with_reducible exact W_Pars_read)
theorem W_L_prepare {M : zMem} {x0 x1 : Int32} : zK Prod.snd okC M (F_L_prepare M x0 x1) := by
  unfold F_L_prepare
  repeat' (first | with_reducible apply zK_if | with_reducible apply zK_ix | with_reducible apply zK_bit | with_reducible apply zK_nz | (with_reducible refine zK_set (fun _ h => by simp only [okC, okC1, okR, okR1] at h; omega) (fun _ => ?_)) | (with_reducible refine zK_bi ?_ (fun _ _ => ?_)) | (with_reducible refine zK_bv ?_ (fun _ => ?_)) | with_reducible exact zK_some rfl)
theorem W_L_run {N : Nat} {M : zMem} : zK Prod.snd okC M (F_L_run N M ) := by
  unfold F_L_run
  repeat' (first | with_reducible apply zK_if | with_reducible apply zK_ix | with_reducible apply zK_bit | with_reducible apply zK_nz | (with_reducible refine zK_set (fun _ h => by simp only [okC, okC1, okR, okR1] at h; omega) (fun _ => ?_)) | (with_reducible refine zK_bi ?_ (fun _ _ => ?_)) | (with_reducible refine zK_bv ?_ (fun _ => ?_)) | with_reducible exact zK_some rfl | with_reducible exact W_L_execute)
theorem W_L_set {M : zMem} {x0 x1 : Int32} : zK Prod.snd okC1 M (F_L_set M x0 x1) := by
  unfold F_L_set
  repeat' (first | with_reducible apply zK_if | with_reducible apply zK_ix | with_reducible apply zK_bit | with_reducible apply zK_nz | (with_reducible refine zK_set (fun _ h => by simp only [okC, okC1, okR, okR1] at h; omega) (fun _ => ?_)) | (with_reducible refine zK_bi ?_ (fun _ _ => ?_)) | (with_reducible refine zK_bv ?_ (fun _ => ?_)) | with_reducible exact zK_some rfl)
theorem W_L_token {M : zMem} {x0 : Int32} : zK Prod.snd okC1 M (F_L_token M x0) := by
  unfold F_L_token
  repeat' (first | with_reducible apply zK_if | with_reducible apply zK_ix | with_reducible apply zK_bit | with_reducible apply zK_nz | (with_reducible refine zK_set (fun _ h => by simp only [okC, okC1, okR, okR1] at h; omega) (fun _ => ?_)) | (with_reducible refine zK_bi ?_ (fun _ _ => ?_)) | (with_reducible refine zK_bv ?_ (fun _ => ?_)) | with_reducible exact zK_some rfl | with_reducible exact zK_mono W_Tok_exists (fun _ h => okC_of h) | with_reducible exact W_L_append)
theorem W_L_tokens {M : zMem} : zK Prod.snd okC M (F_L_tokens M ) := by
  unfold F_L_tokens
  repeat' (first | with_reducible apply zK_if | with_reducible apply zK_ix | with_reducible apply zK_bit | with_reducible apply zK_nz | (with_reducible refine zK_set (fun _ h => by simp only [okC, okC1, okR, okR1] at h; omega) (fun _ => ?_)) | (with_reducible refine zK_bi ?_ (fun _ _ => ?_)) | (with_reducible refine zK_bv ?_ (fun _ => ?_)) | with_reducible exact zK_some rfl)
theorem W_L_turns {N : Nat} {M : zMem} : zK Prod.snd okC M (F_L_turns N M ) := by
  unfold F_L_turns
  repeat' (first | with_reducible apply zK_if | with_reducible apply zK_ix | with_reducible apply zK_bit | with_reducible apply zK_nz | (with_reducible refine zK_set (fun _ h => by simp only [okC, okC1, okR, okR1] at h; omega) (fun _ => ?_)) | (with_reducible refine zK_bi ?_ (fun _ _ => ?_)) | (with_reducible refine zK_bv ?_ (fun _ => ?_)) | with_reducible exact zK_some rfl | with_reducible exact W_L_execute)
theorem W_L_untoken {M : zMem} : zK Prod.snd okC1 M (F_L_untoken M ) := by
  unfold F_L_untoken
  repeat' (first | with_reducible apply zK_if | with_reducible apply zK_ix | with_reducible apply zK_bit | with_reducible apply zK_nz | (with_reducible refine zK_set (fun _ h => by simp only [okC, okC1, okR, okR1] at h; omega) (fun _ => ?_)) | (with_reducible refine zK_bi ?_ (fun _ _ => ?_)) | (with_reducible refine zK_bv ?_ (fun _ => ?_)) | with_reducible exact zK_some rfl | with_reducible exact zK_mono W_L_forgetText (fun _ h => okC_of h))
theorem W_L_wrongAt {N : Nat} {M : zMem} : zK Prod.snd okC M (F_L_wrongAt N M ) := by
  unfold F_L_wrongAt
  repeat' (first | with_reducible apply zK_if | with_reducible apply zK_ix | with_reducible apply zK_bit | with_reducible apply zK_nz | (with_reducible refine zK_set (fun _ h => by simp only [okC, okC1, okR, okR1] at h; omega) (fun _ => ?_)) | (with_reducible refine zK_bi ?_ (fun _ _ => ?_)) | (with_reducible refine zK_bv ?_ (fun _ => ?_)) | with_reducible exact zK_some rfl | with_reducible exact W_Pars_read)
theorem W_R_append_p19 {M : zMem} {x0 x1 : Int32} : zK id okR M (F_R_append_p19 M x0 x1) := by
  unfold F_R_append_p19
  repeat' (first | with_reducible apply zK_if | with_reducible apply zK_ix | with_reducible apply zK_bit | with_reducible apply zK_nz | (with_reducible refine zK_set (fun _ h => by simp only [okC, okC1, okR, okR1] at h; omega) (fun _ => ?_)) | (with_reducible refine zK_bi ?_ (fun _ _ => ?_)) | (with_reducible refine zK_bv ?_ (fun _ => ?_)) | with_reducible exact zK_some rfl)
theorem W_R_append {M : zMem} {x0 x1 : Int32} : zK id okR M (F_R_append M x0 x1) := by
  unfold F_R_append
  repeat' (first | with_reducible apply zK_if | with_reducible apply zK_ix | with_reducible apply zK_bit | with_reducible apply zK_nz | (with_reducible refine zK_set (fun _ h => by simp only [okC, okC1, okR, okR1] at h; omega) (fun _ => ?_)) | (with_reducible refine zK_bi ?_ (fun _ _ => ?_)) | (with_reducible refine zK_bv ?_ (fun _ => ?_)) | with_reducible exact zK_some rfl | with_reducible exact W_R_append_p19)
theorem W_R_argumentsOf_p7 {N : Nat} : ∀ (n : Nat) {M : zMem} {x0 x1 : Int32}, zK Prod.snd okR M (F_R_argumentsOf_p7 N n M x0 x1) := by
  intro n
  induction n with
  | zero =>
    intro M x0 x1
    unfold F_R_argumentsOf_p7
    exact zK_none
  | succ n ih =>
    intro M x0 x1
    unfold F_R_argumentsOf_p7
    repeat' (first | with_reducible apply zK_if | with_reducible apply zK_ix | with_reducible apply zK_bit | with_reducible apply zK_nz | (with_reducible refine zK_set (fun _ h => by simp only [okC, okC1, okR, okR1] at h; omega) (fun _ => ?_)) | (with_reducible refine zK_bi ?_ (fun _ _ => ?_)) | (with_reducible refine zK_bv ?_ (fun _ => ?_)) | with_reducible exact zK_some rfl | with_reducible exact ih)
theorem W_R_argumentsOf {N : Nat} {M : zMem} {x0 : Int32} : zK Prod.snd okR M (F_R_argumentsOf N M x0) := by
  unfold F_R_argumentsOf
  repeat' (first | with_reducible apply zK_if | with_reducible apply zK_ix | with_reducible apply zK_bit | with_reducible apply zK_nz | (with_reducible refine zK_set (fun _ h => by simp only [okC, okC1, okR, okR1] at h; omega) (fun _ => ?_)) | (with_reducible refine zK_bi ?_ (fun _ _ => ?_)) | (with_reducible refine zK_bv ?_ (fun _ => ?_)) | with_reducible exact zK_some rfl | with_reducible exact W_R_argumentsOf_p7 _)
theorem W_R_hold {M : zMem} {x0 : Int32} : zK id okR M (F_R_hold M x0) := by
  unfold F_R_hold
  repeat' (first | with_reducible apply zK_if | with_reducible apply zK_ix | with_reducible apply zK_bit | with_reducible apply zK_nz | (with_reducible refine zK_set (fun _ h => by simp only [okC, okC1, okR, okR1] at h; omega) (fun _ => ?_)) | (with_reducible refine zK_bi ?_ (fun _ _ => ?_)) | (with_reducible refine zK_bv ?_ (fun _ => ?_)) | with_reducible exact zK_some rfl)
theorem W_R_isLocal {M : zMem} {x0 : Int32} : zK Prod.snd okR M (F_R_isLocal M x0) := by
  unfold F_R_isLocal
  repeat' (first | with_reducible apply zK_if | with_reducible apply zK_ix | with_reducible apply zK_bit | with_reducible apply zK_nz | (with_reducible refine zK_set (fun _ h => by simp only [okC, okC1, okR, okR1] at h; omega) (fun _ => ?_)) | (with_reducible refine zK_bi ?_ (fun _ _ => ?_)) | (with_reducible refine zK_bv ?_ (fun _ => ?_)) | with_reducible exact zK_some rfl)
theorem W_R_takeTurn {M : zMem} : zK Prod.snd okR M (F_R_takeTurn M ) := by
  unfold F_R_takeTurn
  repeat' (first | with_reducible apply zK_if | with_reducible apply zK_ix | with_reducible apply zK_bit | with_reducible apply zK_nz | (with_reducible refine zK_set (fun _ h => by simp only [okC, okC1, okR, okR1] at h; omega) (fun _ => ?_)) | (with_reducible refine zK_bi ?_ (fun _ _ => ?_)) | (with_reducible refine zK_bv ?_ (fun _ => ?_)) | with_reducible exact zK_some rfl)
theorem W_R_wait {M : zMem} {x0 x1 : Int32} : zK id okR M (F_R_wait M x0 x1) := by
  unfold F_R_wait
  repeat' (first | with_reducible apply zK_if | with_reducible apply zK_ix | with_reducible apply zK_bit | with_reducible apply zK_nz | (with_reducible refine zK_set (fun _ h => by simp only [okC, okC1, okR, okR1] at h; omega) (fun _ => ?_)) | (with_reducible refine zK_bi ?_ (fun _ _ => ?_)) | (with_reducible refine zK_bv ?_ (fun _ => ?_)) | with_reducible exact zK_some rfl)
theorem W_R_begin_p45 {M : zMem} {x0 : Int32} : zK id okR M (F_R_begin_p45 M x0) := by
  unfold F_R_begin_p45
  repeat' (first | with_reducible apply zK_if | with_reducible apply zK_ix | with_reducible apply zK_bit | with_reducible apply zK_nz | (with_reducible refine zK_set (fun _ h => by simp only [okC, okC1, okR, okR1] at h; omega) (fun _ => ?_)) | (with_reducible refine zK_bi ?_ (fun _ _ => ?_)) | (with_reducible refine zK_bv ?_ (fun _ => ?_)) | with_reducible exact zK_some rfl | with_reducible exact W_R_hold | with_reducible exact W_R_isLocal | with_reducible exact W_R_takeTurn | with_reducible exact W_R_wait)
theorem W_R_begin {M : zMem} {x0 : Int32} : zK id okR M (F_R_begin M x0) := by
  unfold F_R_begin
  repeat' (first | with_reducible apply zK_if | with_reducible apply zK_ix | with_reducible apply zK_bit | with_reducible apply zK_nz | (with_reducible refine zK_set (fun _ h => by simp only [okC, okC1, okR, okR1] at h; omega) (fun _ => ?_)) | (with_reducible refine zK_bi ?_ (fun _ _ => ?_)) | (with_reducible refine zK_bv ?_ (fun _ => ?_)) | with_reducible exact zK_some rfl | with_reducible exact W_R_hold | with_reducible exact W_R_isLocal | with_reducible exact W_R_takeTurn | with_reducible exact W_R_wait | with_reducible exact W_R_begin_p45)
theorem W_R_isIn {M : zMem} {x0 x1 x2 : Int32} : zK Prod.snd okR M (F_R_isIn M x0 x1 x2) := by
  unfold F_R_isIn
  repeat' (first | with_reducible apply zK_if | with_reducible apply zK_ix | with_reducible apply zK_bit | with_reducible apply zK_nz | (with_reducible refine zK_set (fun _ h => by simp only [okC, okC1, okR, okR1] at h; omega) (fun _ => ?_)) | (with_reducible refine zK_bi ?_ (fun _ _ => ?_)) | (with_reducible refine zK_bv ?_ (fun _ => ?_)) | with_reducible exact zK_some rfl)
theorem W_R_beginsStatement {M : zMem} {x0 : Int32} : zK Prod.snd okR M (F_R_beginsStatement M x0) := by
  unfold F_R_beginsStatement
  repeat' (first | with_reducible apply zK_if | with_reducible apply zK_ix | with_reducible apply zK_bit | with_reducible apply zK_nz | (with_reducible refine zK_set (fun _ h => by simp only [okC, okC1, okR, okR1] at h; omega) (fun _ => ?_)) | (with_reducible refine zK_bi ?_ (fun _ _ => ?_)) | (with_reducible refine zK_bv ?_ (fun _ => ?_)) | with_reducible exact zK_some rfl | with_reducible exact W_R_isIn)
theorem W_R_call_p69 {N : Nat} : ∀ (n : Nat) {M : zMem} {x0 x1 : Int32}, zK id okR M (F_R_call_p69 N n M x0 x1) := by
  intro n
  induction n with
  | zero =>
    intro M x0 x1
    unfold F_R_call_p69
    exact zK_none
  | succ n ih =>
    intro M x0 x1
    unfold F_R_call_p69
    repeat' (first | with_reducible apply zK_if | with_reducible apply zK_ix | with_reducible apply zK_bit | with_reducible apply zK_nz | (with_reducible refine zK_set (fun _ h => by simp only [okC, okC1, okR, okR1] at h; omega) (fun _ => ?_)) | (with_reducible refine zK_bi ?_ (fun _ _ => ?_)) | (with_reducible refine zK_bv ?_ (fun _ => ?_)) | with_reducible exact zK_some rfl | with_reducible exact ih | with_reducible exact W_R_takeTurn | with_reducible exact W_R_wait)
theorem W_R_call_p52 {N : Nat} : ∀ (n : Nat) {M : zMem} {x0 x1 : Int32}, zK id okR M (F_R_call_p52 N n M x0 x1) := by
  intro n
  induction n with
  | zero =>
    intro M x0 x1
    unfold F_R_call_p52
    exact zK_none
  | succ n ih =>
    intro M x0 x1
    unfold F_R_call_p52
    repeat' (first | with_reducible apply zK_if | with_reducible apply zK_ix | with_reducible apply zK_bit | with_reducible apply zK_nz | (with_reducible refine zK_set (fun _ h => by simp only [okC, okC1, okR, okR1] at h; omega) (fun _ => ?_)) | (with_reducible refine zK_bi ?_ (fun _ _ => ?_)) | (with_reducible refine zK_bv ?_ (fun _ => ?_)) | with_reducible exact zK_some rfl | with_reducible exact ih | with_reducible exact W_R_takeTurn | with_reducible exact W_R_wait | with_reducible exact W_R_call_p69 _)
theorem W_R_call_p34 {N : Nat} {M : zMem} {x0 x1 : Int32} : zK id okR M (F_R_call_p34 N M x0 x1) := by
  unfold F_R_call_p34
  repeat' (first | with_reducible apply zK_if | with_reducible apply zK_ix | with_reducible apply zK_bit | with_reducible apply zK_nz | (with_reducible refine zK_set (fun _ h => by simp only [okC, okC1, okR, okR1] at h; omega) (fun _ => ?_)) | (with_reducible refine zK_bi ?_ (fun _ _ => ?_)) | (with_reducible refine zK_bv ?_ (fun _ => ?_)) | with_reducible exact zK_some rfl | with_reducible exact W_R_takeTurn | with_reducible exact W_R_wait | with_reducible exact W_R_call_p69 _ | with_reducible exact W_R_call_p52 _)
theorem W_R_call {N : Nat} {M : zMem} {x0 : Int32} : zK id okR M (F_R_call N M x0) := by
  unfold F_R_call
  repeat' (first | with_reducible apply zK_if | with_reducible apply zK_ix | with_reducible apply zK_bit | with_reducible apply zK_nz | (with_reducible refine zK_set (fun _ h => by simp only [okC, okC1, okR, okR1] at h; omega) (fun _ => ?_)) | (with_reducible refine zK_bi ?_ (fun _ _ => ?_)) | (with_reducible refine zK_bv ?_ (fun _ => ?_)) | with_reducible exact zK_some rfl | with_reducible exact W_R_takeTurn | with_reducible exact W_R_wait | with_reducible exact W_R_call_p69 _ | with_reducible exact W_R_call_p52 _ | with_reducible exact W_R_call_p34)
theorem W_R_cell {M : zMem} {x0 x1 : Int32} : zK Prod.snd okR1 M (F_R_cell M x0 x1) := by
  unfold F_R_cell
  repeat' (first | with_reducible apply zK_if | with_reducible apply zK_ix | with_reducible apply zK_bit | with_reducible apply zK_nz | (with_reducible refine zK_set (fun _ h => by simp only [okC, okC1, okR, okR1] at h; omega) (fun _ => ?_)) | (with_reducible refine zK_bi ?_ (fun _ _ => ?_)) | (with_reducible refine zK_bv ?_ (fun _ => ?_)) | with_reducible exact zK_some rfl)
theorem W_R_node {M : zMem} {x0 x1 x2 x3 : Int32} : zK Prod.snd okR M (F_R_node M x0 x1 x2 x3) := by
  unfold F_R_node
  repeat' (first | with_reducible apply zK_if | with_reducible apply zK_ix | with_reducible apply zK_bit | with_reducible apply zK_nz | (with_reducible refine zK_set (fun _ h => by simp only [okC, okC1, okR, okR1] at h; omega) (fun _ => ?_)) | (with_reducible refine zK_bi ?_ (fun _ _ => ?_)) | (with_reducible refine zK_bv ?_ (fun _ => ?_)) | with_reducible exact zK_some rfl)
theorem W_R_pop {M : zMem} : zK Prod.snd okR M (F_R_pop M ) := by
  unfold F_R_pop
  repeat' (first | with_reducible apply zK_if | with_reducible apply zK_ix | with_reducible apply zK_bit | with_reducible apply zK_nz | (with_reducible refine zK_set (fun _ h => by simp only [okC, okC1, okR, okR1] at h; omega) (fun _ => ?_)) | (with_reducible refine zK_bi ?_ (fun _ _ => ?_)) | (with_reducible refine zK_bv ?_ (fun _ => ?_)) | with_reducible exact zK_some rfl)
theorem W_R_push {M : zMem} {x0 : Int32} : zK id okR M (F_R_push M x0) := by
  unfold F_R_push
  repeat' (first | with_reducible apply zK_if | with_reducible apply zK_ix | with_reducible apply zK_bit | with_reducible apply zK_nz | (with_reducible refine zK_set (fun _ h => by simp only [okC, okC1, okR, okR1] at h; omega) (fun _ => ?_)) | (with_reducible refine zK_bi ?_ (fun _ _ => ?_)) | (with_reducible refine zK_bv ?_ (fun _ => ?_)) | with_reducible exact zK_some rfl)
theorem W_R_finishPart_p114 {M : zMem} {x0 x1 : Int32} : zK id okR M (F_R_finishPart_p114 M x0 x1) := by
  unfold F_R_finishPart_p114
  repeat' (first | with_reducible apply zK_if | with_reducible apply zK_ix | with_reducible apply zK_bit | with_reducible apply zK_nz | (with_reducible refine zK_set (fun _ h => by simp only [okC, okC1, okR, okR1] at h; omega) (fun _ => ?_)) | (with_reducible refine zK_bi ?_ (fun _ _ => ?_)) | (with_reducible refine zK_bv ?_ (fun _ => ?_)) | with_reducible exact zK_some rfl | with_reducible exact W_R_append | with_reducible exact W_R_node | with_reducible exact W_R_pop | with_reducible exact W_R_push)
theorem W_R_finishPart {M : zMem} {x0 x1 : Int32} : zK id okR M (F_R_finishPart M x0 x1) := by
  unfold F_R_finishPart
  repeat' (first | with_reducible apply zK_if | with_reducible apply zK_ix | with_reducible apply zK_bit | with_reducible apply zK_nz | (with_reducible refine zK_set (fun _ h => by simp only [okC, okC1, okR, okR1] at h; omega) (fun _ => ?_)) | (with_reducible refine zK_bi ?_ (fun _ _ => ?_)) | (with_reducible refine zK_bv ?_ (fun _ => ?_)) | with_reducible exact zK_some rfl | with_reducible exact W_R_append | with_reducible exact W_R_node | with_reducible exact W_R_pop | with_reducible exact W_R_push | with_reducible exact W_R_finishPart_p114)
theorem W_R_finishStatement_p24 {M : zMem} {x0 x1 x2 x3 : Int32} : zK id okR M (F_R_finishStatement_p24 M x0 x1 x2 x3) := by
  unfold F_R_finishStatement_p24
  repeat' (first | with_reducible apply zK_if | with_reducible apply zK_ix | with_reducible apply zK_bit | with_reducible apply zK_nz | (with_reducible refine zK_set (fun _ h => by simp only [okC, okC1, okR, okR1] at h; omega) (fun _ => ?_)) | (with_reducible refine zK_bi ?_ (fun _ _ => ?_)) | (with_reducible refine zK_bv ?_ (fun _ => ?_)) | with_reducible exact zK_some rfl | with_reducible exact W_R_node | with_reducible exact W_R_pop | with_reducible exact W_R_push)
theorem W_R_finishStatement_p20 {M : zMem} {x0 x1 x2 : Int32} : zK id okR M (F_R_finishStatement_p20 M x0 x1 x2) := by
  unfold F_R_finishStatement_p20
  repeat' (first | with_reducible apply zK_if | with_reducible apply zK_ix | with_reducible apply zK_bit | with_reducible apply zK_nz | (with_reducible refine zK_set (fun _ h => by simp only [okC, okC1, okR, okR1] at h; omega) (fun _ => ?_)) | (with_reducible refine zK_bi ?_ (fun _ _ => ?_)) | (with_reducible refine zK_bv ?_ (fun _ => ?_)) | with_reducible exact zK_some rfl | with_reducible exact W_R_node | with_reducible exact W_R_pop | with_reducible exact W_R_push | with_reducible exact W_R_finishStatement_p24)
theorem W_R_finishStatement_p7 {M : zMem} {x0 x1 x2 : Int32} : zK id okR M (F_R_finishStatement_p7 M x0 x1 x2) := by
  unfold F_R_finishStatement_p7
  repeat' (first | with_reducible apply zK_if | with_reducible apply zK_ix | with_reducible apply zK_bit | with_reducible apply zK_nz | (with_reducible refine zK_set (fun _ h => by simp only [okC, okC1, okR, okR1] at h; omega) (fun _ => ?_)) | (with_reducible refine zK_bi ?_ (fun _ _ => ?_)) | (with_reducible refine zK_bv ?_ (fun _ => ?_)) | with_reducible exact zK_some rfl | with_reducible exact W_R_node | with_reducible exact W_R_pop | with_reducible exact W_R_push | with_reducible exact W_R_finishStatement_p24 | with_reducible exact W_R_finishStatement_p20)
theorem W_R_finishStatement {M : zMem} {x0 x1 : Int32} : zK id okR M (F_R_finishStatement M x0 x1) := by
  unfold F_R_finishStatement
  repeat' (first | with_reducible apply zK_if | with_reducible apply zK_ix | with_reducible apply zK_bit | with_reducible apply zK_nz | (with_reducible refine zK_set (fun _ h => by simp only [okC, okC1, okR, okR1] at h; omega) (fun _ => ?_)) | (with_reducible refine zK_bi ?_ (fun _ _ => ?_)) | (with_reducible refine zK_bv ?_ (fun _ => ?_)) | with_reducible exact zK_some rfl | with_reducible exact W_R_node | with_reducible exact W_R_pop | with_reducible exact W_R_push | with_reducible exact W_R_finishStatement_p24 | with_reducible exact W_R_finishStatement_p20 | with_reducible exact W_R_finishStatement_p7)
theorem W_R_look {M : zMem} : zK Prod.snd okR M (F_R_look M ) := by
  unfold F_R_look
  repeat' (first | with_reducible apply zK_if | with_reducible apply zK_ix | with_reducible apply zK_bit | with_reducible apply zK_nz | (with_reducible refine zK_set (fun _ h => by simp only [okC, okC1, okR, okR1] at h; omega) (fun _ => ?_)) | (with_reducible refine zK_bi ?_ (fun _ _ => ?_)) | (with_reducible refine zK_bv ?_ (fun _ => ?_)) | with_reducible exact zK_some rfl)
theorem W_R_task {M : zMem} {x0 : Int32} : zK id okR M (F_R_task M x0) := by
  unfold F_R_task
  repeat' (first | with_reducible apply zK_if | with_reducible apply zK_ix | with_reducible apply zK_bit | with_reducible apply zK_nz | (with_reducible refine zK_set (fun _ h => by simp only [okC, okC1, okR, okR1] at h; omega) (fun _ => ?_)) | (with_reducible refine zK_bi ?_ (fun _ _ => ?_)) | (with_reducible refine zK_bv ?_ (fun _ => ?_)) | with_reducible exact zK_some rfl)
theorem W_R_tasksOf_p15 {M : zMem} {x0 : Int32} : zK id okR M (F_R_tasksOf_p15 M x0) := by
  unfold F_R_tasksOf_p15
  repeat' (first | with_reducible apply zK_if | with_reducible apply zK_ix | with_reducible apply zK_bit | with_reducible apply zK_nz | (with_reducible refine zK_set (fun _ h => by simp only [okC, okC1, okR, okR1] at h; omega) (fun _ => ?_)) | (with_reducible refine zK_bi ?_ (fun _ _ => ?_)) | (with_reducible refine zK_bv ?_ (fun _ => ?_)) | with_reducible exact zK_some rfl | with_reducible exact W_R_task)
theorem W_R_tasksOf_p10 {M : zMem} {x0 x1 : Int32} : zK id okR M (F_R_tasksOf_p10 M x0 x1) := by
  unfold F_R_tasksOf_p10
  repeat' (first | with_reducible apply zK_if | with_reducible apply zK_ix | with_reducible apply zK_bit | with_reducible apply zK_nz | (with_reducible refine zK_set (fun _ h => by simp only [okC, okC1, okR, okR1] at h; omega) (fun _ => ?_)) | (with_reducible refine zK_bi ?_ (fun _ _ => ?_)) | (with_reducible refine zK_bv ?_ (fun _ => ?_)) | with_reducible exact zK_some rfl | with_reducible exact W_R_task | with_reducible exact W_R_tasksOf_p15)
theorem W_R_tasksOf_p5 {M : zMem} {x0 x1 x2 : Int32} : zK id okR M (F_R_tasksOf_p5 M x0 x1 x2) := by
  unfold F_R_tasksOf_p5
  repeat' (first | with_reducible apply zK_if | with_reducible apply zK_ix | with_reducible apply zK_bit | with_reducible apply zK_nz | (with_reducible refine zK_set (fun _ h => by simp only [okC, okC1, okR, okR1] at h; omega) (fun _ => ?_)) | (with_reducible refine zK_bi ?_ (fun _ _ => ?_)) | (with_reducible refine zK_bv ?_ (fun _ => ?_)) | with_reducible exact zK_some rfl | with_reducible exact W_R_task | with_reducible exact W_R_tasksOf_p15 | with_reducible exact W_R_tasksOf_p10)
theorem W_R_tasksOf {M : zMem} {x0 x1 x2 x3 : Int32} : zK id okR M (F_R_tasksOf M x0 x1 x2 x3) := by
  unfold F_R_tasksOf
  repeat' (first | with_reducible apply zK_if | with_reducible apply zK_ix | with_reducible apply zK_bit | with_reducible apply zK_nz | (with_reducible refine zK_set (fun _ h => by simp only [okC, okC1, okR, okR1] at h; omega) (fun _ => ?_)) | (with_reducible refine zK_bi ?_ (fun _ _ => ?_)) | (with_reducible refine zK_bv ?_ (fun _ => ?_)) | with_reducible exact zK_some rfl | with_reducible exact W_R_task | with_reducible exact W_R_tasksOf_p15 | with_reducible exact W_R_tasksOf_p10 | with_reducible exact W_R_tasksOf_p5)
theorem W_R_readCall_p58 {M : zMem} {x0 x1 : Int32} : zK id okR M (F_R_readCall_p58 M x0 x1) := by
  unfold F_R_readCall_p58
  repeat' (first | with_reducible apply zK_if | with_reducible apply zK_ix | with_reducible apply zK_bit | with_reducible apply zK_nz | (with_reducible refine zK_set (fun _ h => by simp only [okC, okC1, okR, okR1] at h; omega) (fun _ => ?_)) | (with_reducible refine zK_bi ?_ (fun _ _ => ?_)) | (with_reducible refine zK_bv ?_ (fun _ => ?_)) | with_reducible exact zK_some rfl | with_reducible exact W_R_isIn | with_reducible exact W_R_node | with_reducible exact W_R_push | with_reducible exact W_R_task | with_reducible exact W_R_tasksOf)
theorem W_R_readCall_p16 {M : zMem} {x0 x1 : Int32} : zK id okR M (F_R_readCall_p16 M x0 x1) := by
  unfold F_R_readCall_p16
  repeat' (first | with_reducible apply zK_if | with_reducible apply zK_ix | with_reducible apply zK_bit | with_reducible apply zK_nz | (with_reducible refine zK_set (fun _ h => by simp only [okC, okC1, okR, okR1] at h; omega) (fun _ => ?_)) | (with_reducible refine zK_bi ?_ (fun _ _ => ?_)) | (with_reducible refine zK_bv ?_ (fun _ => ?_)) | with_reducible exact zK_some rfl | with_reducible exact W_R_isIn | with_reducible exact W_R_node | with_reducible exact W_R_push | with_reducible exact W_R_task | with_reducible exact W_R_tasksOf | with_reducible exact W_R_readCall_p58)
theorem W_R_readCall_p13 {M : zMem} {x0 : Int32} : zK id okR M (F_R_readCall_p13 M x0) := by
  unfold F_R_readCall_p13
  repeat' (first | with_reducible apply zK_if | with_reducible apply zK_ix | with_reducible apply zK_bit | with_reducible apply zK_nz | (with_reducible refine zK_set (fun _ h => by simp only [okC, okC1, okR, okR1] at h; omega) (fun _ => ?_)) | (with_reducible refine zK_bi ?_ (fun _ _ => ?_)) | (with_reducible refine zK_bv ?_ (fun _ => ?_)) | with_reducible exact zK_some rfl | with_reducible exact W_R_isIn | with_reducible exact W_R_node | with_reducible exact W_R_push | with_reducible exact W_R_task | with_reducible exact W_R_tasksOf | with_reducible exact W_R_readCall_p58 | with_reducible exact W_R_readCall_p16)
theorem W_R_readCall {M : zMem} {x0 x1 : Int32} : zK id okR M (F_R_readCall M x0 x1) := by
  unfold F_R_readCall
  repeat' (first | with_reducible apply zK_if | with_reducible apply zK_ix | with_reducible apply zK_bit | with_reducible apply zK_nz | (with_reducible refine zK_set (fun _ h => by simp only [okC, okC1, okR, okR1] at h; omega) (fun _ => ?_)) | (with_reducible refine zK_bi ?_ (fun _ _ => ?_)) | (with_reducible refine zK_bv ?_ (fun _ => ?_)) | with_reducible exact zK_some rfl | with_reducible exact W_R_isIn | with_reducible exact W_R_node | with_reducible exact W_R_push | with_reducible exact W_R_task | with_reducible exact W_R_tasksOf | with_reducible exact W_R_readCall_p58 | with_reducible exact W_R_readCall_p16 | with_reducible exact W_R_readCall_p13)
theorem W_R_readExpression_p108 {M : zMem} {x0 : Int32} : zK id okR M (F_R_readExpression_p108 M x0) := by
  unfold F_R_readExpression_p108
  repeat' (first | with_reducible apply zK_if | with_reducible apply zK_ix | with_reducible apply zK_bit | with_reducible apply zK_nz | (with_reducible refine zK_set (fun _ h => by simp only [okC, okC1, okR, okR1] at h; omega) (fun _ => ?_)) | (with_reducible refine zK_bi ?_ (fun _ _ => ?_)) | (with_reducible refine zK_bv ?_ (fun _ => ?_)) | with_reducible exact zK_some rfl | with_reducible exact W_R_isIn | with_reducible exact W_R_task | with_reducible exact W_R_tasksOf)
theorem W_R_readExpression_p86 {M : zMem} {x0 x1 : Int32} : zK id okR M (F_R_readExpression_p86 M x0 x1) := by
  unfold F_R_readExpression_p86
  repeat' (first | with_reducible apply zK_if | with_reducible apply zK_ix | with_reducible apply zK_bit | with_reducible apply zK_nz | (with_reducible refine zK_set (fun _ h => by simp only [okC, okC1, okR, okR1] at h; omega) (fun _ => ?_)) | (with_reducible refine zK_bi ?_ (fun _ _ => ?_)) | (with_reducible refine zK_bv ?_ (fun _ => ?_)) | with_reducible exact zK_some rfl | with_reducible exact W_R_isIn | with_reducible exact W_R_task | with_reducible exact W_R_tasksOf | with_reducible exact W_R_readExpression_p108)
theorem W_R_readExpression_p77 {M : zMem} {x0 : Int32} : zK id okR M (F_R_readExpression_p77 M x0) := by
  unfold F_R_readExpression_p77
  repeat' (first | with_reducible apply zK_if | with_reducible apply zK_ix | with_reducible apply zK_bit | with_reducible apply zK_nz | (with_reducible refine zK_set (fun _ h => by simp only [okC, okC1, okR, okR1] at h; omega) (fun _ => ?_)) | (with_reducible refine zK_bi ?_ (fun _ _ => ?_)) | (with_reducible refine zK_bv ?_ (fun _ => ?_)) | with_reducible exact zK_some rfl | with_reducible exact W_R_isIn | with_reducible exact W_R_task | with_reducible exact W_R_tasksOf | with_reducible exact W_R_readExpression_p108 | with_reducible exact W_R_readExpression_p86)
theorem W_R_readExpression_p61 {M : zMem} {x0 x1 : Int32} : zK id okR M (F_R_readExpression_p61 M x0 x1) := by
  unfold F_R_readExpression_p61
  repeat' (first | with_reducible apply zK_if | with_reducible apply zK_ix | with_reducible apply zK_bit | with_reducible apply zK_nz | (with_reducible refine zK_set (fun _ h => by simp only [okC, okC1, okR, okR1] at h; omega) (fun _ => ?_)) | (with_reducible refine zK_bi ?_ (fun _ _ => ?_)) | (with_reducible refine zK_bv ?_ (fun _ => ?_)) | with_reducible exact zK_some rfl | with_reducible exact W_R_isIn | with_reducible exact W_R_task | with_reducible exact W_R_tasksOf | with_reducible exact W_R_readExpression_p108 | with_reducible exact W_R_readExpression_p86 | with_reducible exact W_R_readExpression_p77)
theorem W_R_readExpression_p56 {M : zMem} {x0 x1 : Int32} : zK id okR M (F_R_readExpression_p56 M x0 x1) := by
  unfold F_R_readExpression_p56
  repeat' (first | with_reducible apply zK_if | with_reducible apply zK_ix | with_reducible apply zK_bit | with_reducible apply zK_nz | (with_reducible refine zK_set (fun _ h => by simp only [okC, okC1, okR, okR1] at h; omega) (fun _ => ?_)) | (with_reducible refine zK_bi ?_ (fun _ _ => ?_)) | (with_reducible refine zK_bv ?_ (fun _ => ?_)) | with_reducible exact zK_some rfl | with_reducible exact W_R_isIn | with_reducible exact W_R_task | with_reducible exact W_R_tasksOf | with_reducible exact W_R_readExpression_p108 | with_reducible exact W_R_readExpression_p86 | with_reducible exact W_R_readExpression_p77 | with_reducible exact W_R_readExpression_p61)
theorem W_R_readExpression_p50 {M : zMem} {x0 x1 : Int32} : zK id okR M (F_R_readExpression_p50 M x0 x1) := by
  unfold F_R_readExpression_p50
  repeat' (first | with_reducible apply zK_if | with_reducible apply zK_ix | with_reducible apply zK_bit | with_reducible apply zK_nz | (with_reducible refine zK_set (fun _ h => by simp only [okC, okC1, okR, okR1] at h; omega) (fun _ => ?_)) | (with_reducible refine zK_bi ?_ (fun _ _ => ?_)) | (with_reducible refine zK_bv ?_ (fun _ => ?_)) | with_reducible exact zK_some rfl | with_reducible exact W_R_isIn | with_reducible exact W_R_task | with_reducible exact W_R_tasksOf | with_reducible exact W_R_readExpression_p108 | with_reducible exact W_R_readExpression_p86 | with_reducible exact W_R_readExpression_p77 | with_reducible exact W_R_readExpression_p61 | with_reducible exact W_R_readExpression_p56)
theorem W_R_readExpression_p40 {M : zMem} {x0 x1 : Int32} : zK id okR M (F_R_readExpression_p40 M x0 x1) := by
  unfold F_R_readExpression_p40
  repeat' (first | with_reducible apply zK_if | with_reducible apply zK_ix | with_reducible apply zK_bit | with_reducible apply zK_nz | (with_reducible refine zK_set (fun _ h => by simp only [okC, okC1, okR, okR1] at h; omega) (fun _ => ?_)) | (with_reducible refine zK_bi ?_ (fun _ _ => ?_)) | (with_reducible refine zK_bv ?_ (fun _ => ?_)) | with_reducible exact zK_some rfl | with_reducible exact W_R_isIn | with_reducible exact W_R_task | with_reducible exact W_R_tasksOf | with_reducible exact W_R_readExpression_p108 | with_reducible exact W_R_readExpression_p86 | with_reducible exact W_R_readExpression_p77 | with_reducible exact W_R_readExpression_p61 | with_reducible exact W_R_readExpression_p56 | with_reducible exact W_R_readExpression_p50)
theorem W_R_readExpression_p37 {M : zMem} {x0 : Int32} : zK id okR M (F_R_readExpression_p37 M x0) := by
  unfold F_R_readExpression_p37
  repeat' (first | with_reducible apply zK_if | with_reducible apply zK_ix | with_reducible apply zK_bit | with_reducible apply zK_nz | (with_reducible refine zK_set (fun _ h => by simp only [okC, okC1, okR, okR1] at h; omega) (fun _ => ?_)) | (with_reducible refine zK_bi ?_ (fun _ _ => ?_)) | (with_reducible refine zK_bv ?_ (fun _ => ?_)) | with_reducible exact zK_some rfl | with_reducible exact W_R_isIn | with_reducible exact W_R_task | with_reducible exact W_R_tasksOf | with_reducible exact W_R_readExpression_p108 | with_reducible exact W_R_readExpression_p86 | with_reducible exact W_R_readExpression_p77 | with_reducible exact W_R_readExpression_p61 | with_reducible exact W_R_readExpression_p56 | with_reducible exact W_R_readExpression_p50 | with_reducible exact W_R_readExpression_p40)
theorem W_R_readExpression_p28 {M : zMem} {x0 x1 : Int32} : zK id okR M (F_R_readExpression_p28 M x0 x1) := by
  unfold F_R_readExpression_p28
  repeat' (first | with_reducible apply zK_if | with_reducible apply zK_ix | with_reducible apply zK_bit | with_reducible apply zK_nz | (with_reducible refine zK_set (fun _ h => by simp only [okC, okC1, okR, okR1] at h; omega) (fun _ => ?_)) | (with_reducible refine zK_bi ?_ (fun _ _ => ?_)) | (with_reducible refine zK_bv ?_ (fun _ => ?_)) | with_reducible exact zK_some rfl | with_reducible exact W_R_isIn | with_reducible exact W_R_task | with_reducible exact W_R_tasksOf | with_reducible exact W_R_readExpression_p108 | with_reducible exact W_R_readExpression_p86 | with_reducible exact W_R_readExpression_p77 | with_reducible exact W_R_readExpression_p61 | with_reducible exact W_R_readExpression_p56 | with_reducible exact W_R_readExpression_p50 | with_reducible exact W_R_readExpression_p40 | with_reducible exact W_R_readExpression_p37)
theorem W_R_readExpression {M : zMem} {x0 x1 : Int32} : zK id okR M (F_R_readExpression M x0 x1) := by
  unfold F_R_readExpression
  repeat' (first | with_reducible apply zK_if | with_reducible apply zK_ix | with_reducible apply zK_bit | with_reducible apply zK_nz | (with_reducible refine zK_set (fun _ h => by simp only [okC, okC1, okR, okR1] at h; omega) (fun _ => ?_)) | (with_reducible refine zK_bi ?_ (fun _ _ => ?_)) | (with_reducible refine zK_bv ?_ (fun _ => ?_)) | with_reducible exact zK_some rfl | with_reducible exact W_R_isIn | with_reducible exact W_R_task | with_reducible exact W_R_tasksOf | with_reducible exact W_R_readExpression_p108 | with_reducible exact W_R_readExpression_p86 | with_reducible exact W_R_readExpression_p77 | with_reducible exact W_R_readExpression_p61 | with_reducible exact W_R_readExpression_p56 | with_reducible exact W_R_readExpression_p50 | with_reducible exact W_R_readExpression_p40 | with_reducible exact W_R_readExpression_p37 | with_reducible exact W_R_readExpression_p28)
theorem W_R_readFactor_p24 {M : zMem} {x0 : Int32} : zK id okR M (F_R_readFactor_p24 M x0) := by
  unfold F_R_readFactor_p24
  repeat' (first | with_reducible apply zK_if | with_reducible apply zK_ix | with_reducible apply zK_bit | with_reducible apply zK_nz | (with_reducible refine zK_set (fun _ h => by simp only [okC, okC1, okR, okR1] at h; omega) (fun _ => ?_)) | (with_reducible refine zK_bi ?_ (fun _ _ => ?_)) | (with_reducible refine zK_bv ?_ (fun _ => ?_)) | with_reducible exact zK_some rfl | with_reducible exact W_R_isIn | with_reducible exact W_R_node | with_reducible exact W_R_push | with_reducible exact W_R_task | with_reducible exact W_R_tasksOf)
theorem W_R_readFactor {M : zMem} {x0 : Int32} : zK id okR M (F_R_readFactor M x0) := by
  unfold F_R_readFactor
  repeat' (first | with_reducible apply zK_if | with_reducible apply zK_ix | with_reducible apply zK_bit | with_reducible apply zK_nz | (with_reducible refine zK_set (fun _ h => by simp only [okC, okC1, okR, okR1] at h; omega) (fun _ => ?_)) | (with_reducible refine zK_bi ?_ (fun _ _ => ?_)) | (with_reducible refine zK_bv ?_ (fun _ => ?_)) | with_reducible exact zK_some rfl | with_reducible exact W_R_isIn | with_reducible exact W_R_node | with_reducible exact W_R_push | with_reducible exact W_R_task | with_reducible exact W_R_tasksOf | with_reducible exact W_R_readFactor_p24)
theorem W_R_readIf {M : zMem} {x0 : Int32} : zK id okR M (F_R_readIf M x0) := by
  unfold F_R_readIf
  repeat' (first | with_reducible apply zK_if | with_reducible apply zK_ix | with_reducible apply zK_bit | with_reducible apply zK_nz | (with_reducible refine zK_set (fun _ h => by simp only [okC, okC1, okR, okR1] at h; omega) (fun _ => ?_)) | (with_reducible refine zK_bi ?_ (fun _ _ => ?_)) | (with_reducible refine zK_bv ?_ (fun _ => ?_)) | with_reducible exact zK_some rfl | with_reducible exact W_R_push | with_reducible exact W_R_task | with_reducible exact W_R_tasksOf)
theorem W_R_noteFault_p11 {M : zMem} {x0 : Int32} : zK id okR M (F_R_noteFault_p11 M x0) := by
  unfold F_R_noteFault_p11
  repeat' (first | with_reducible apply zK_if | with_reducible apply zK_ix | with_reducible apply zK_bit | with_reducible apply zK_nz | (with_reducible refine zK_set (fun _ h => by simp only [okC, okC1, okR, okR1] at h; omega) (fun _ => ?_)) | (with_reducible refine zK_bi ?_ (fun _ _ => ?_)) | (with_reducible refine zK_bv ?_ (fun _ => ?_)) | with_reducible exact zK_some rfl)
theorem W_R_noteFault_p9 {M : zMem} : zK id okR M (F_R_noteFault_p9 M ) := by
  unfold F_R_noteFault_p9
  repeat' (first | with_reducible apply zK_if | with_reducible apply zK_ix | with_reducible apply zK_bit | with_reducible apply zK_nz | (with_reducible refine zK_set (fun _ h => by simp only [okC, okC1, okR, okR1] at h; omega) (fun _ => ?_)) | (with_reducible refine zK_bi ?_ (fun _ _ => ?_)) | (with_reducible refine zK_bv ?_ (fun _ => ?_)) | with_reducible exact zK_some rfl | with_reducible exact W_R_noteFault_p11)
theorem W_R_noteFault {M : zMem} {x0 : Int32} : zK id okR M (F_R_noteFault M x0) := by
  unfold F_R_noteFault
  repeat' (first | with_reducible apply zK_if | with_reducible apply zK_ix | with_reducible apply zK_bit | with_reducible apply zK_nz | (with_reducible refine zK_set (fun _ h => by simp only [okC, okC1, okR, okR1] at h; omega) (fun _ => ?_)) | (with_reducible refine zK_bi ?_ (fun _ _ => ?_)) | (with_reducible refine zK_bv ?_ (fun _ => ?_)) | with_reducible exact zK_some rfl | with_reducible exact W_R_noteFault_p11 | with_reducible exact W_R_noteFault_p9)
theorem W_R_readNames_p135 {M : zMem} : zK id okR M (F_R_readNames_p135 M ) := by
  unfold F_R_readNames_p135
  repeat' (first | with_reducible apply zK_if | with_reducible apply zK_ix | with_reducible apply zK_bit | with_reducible apply zK_nz | (with_reducible refine zK_set (fun _ h => by simp only [okC, okC1, okR, okR1] at h; omega) (fun _ => ?_)) | (with_reducible refine zK_bi ?_ (fun _ _ => ?_)) | (with_reducible refine zK_bv ?_ (fun _ => ?_)) | with_reducible exact zK_some rfl | with_reducible exact W_R_isIn | with_reducible exact W_R_noteFault)
theorem W_R_readNames_p129 {M : zMem} {x0 : Int32} : zK id okR M (F_R_readNames_p129 M x0) := by
  unfold F_R_readNames_p129
  repeat' (first | with_reducible apply zK_if | with_reducible apply zK_ix | with_reducible apply zK_bit | with_reducible apply zK_nz | (with_reducible refine zK_set (fun _ h => by simp only [okC, okC1, okR, okR1] at h; omega) (fun _ => ?_)) | (with_reducible refine zK_bi ?_ (fun _ _ => ?_)) | (with_reducible refine zK_bv ?_ (fun _ => ?_)) | with_reducible exact zK_some rfl | with_reducible exact W_R_isIn | with_reducible exact W_R_noteFault | with_reducible exact W_R_readNames_p135)
theorem W_R_readNames_p115 {M : zMem} {x0 x1 x2 x3 : Int32} : zK id okR M (F_R_readNames_p115 M x0 x1 x2 x3) := by
  unfold F_R_readNames_p115
  repeat' (first | with_reducible apply zK_if | with_reducible apply zK_ix | with_reducible apply zK_bit | with_reducible apply zK_nz | (with_reducible refine zK_set (fun _ h => by simp only [okC, okC1, okR, okR1] at h; omega) (fun _ => ?_)) | (with_reducible refine zK_bi ?_ (fun _ _ => ?_)) | (with_reducible refine zK_bv ?_ (fun _ => ?_)) | with_reducible exact zK_some rfl | with_reducible exact W_R_isIn | with_reducible exact W_R_noteFault | with_reducible exact W_R_readNames_p135 | with_reducible exact W_R_readNames_p129)
theorem W_R_readNames_p88 {M : zMem} {x0 x1 x2 x3 : Int32} : zK id okR M (F_R_readNames_p88 M x0 x1 x2 x3) := by
  unfold F_R_readNames_p88
  repeat' (first | with_reducible apply zK_if | with_reducible apply zK_ix | with_reducible apply zK_bit | with_reducible apply zK_nz | (with_reducible refine zK_set (fun _ h => by simp only [okC, okC1, okR, okR1] at h; omega) (fun _ => ?_)) | (with_reducible refine zK_bi ?_ (fun _ _ => ?_)) | (with_reducible refine zK_bv ?_ (fun _ => ?_)) | with_reducible exact zK_some rfl | with_reducible exact W_R_isIn | with_reducible exact W_R_noteFault | with_reducible exact W_R_readNames_p135 | with_reducible exact W_R_readNames_p129 | with_reducible exact W_R_readNames_p115)
theorem W_R_readNames_p55 {M : zMem} {x0 x1 : Int32} : zK id okR M (F_R_readNames_p55 M x0 x1) := by
  unfold F_R_readNames_p55
  repeat' (first | with_reducible apply zK_if | with_reducible apply zK_ix | with_reducible apply zK_bit | with_reducible apply zK_nz | (with_reducible refine zK_set (fun _ h => by simp only [okC, okC1, okR, okR1] at h; omega) (fun _ => ?_)) | (with_reducible refine zK_bi ?_ (fun _ _ => ?_)) | (with_reducible refine zK_bv ?_ (fun _ => ?_)) | with_reducible exact zK_some rfl | with_reducible exact W_R_isIn | with_reducible exact W_R_noteFault | with_reducible exact W_R_readNames_p135 | with_reducible exact W_R_readNames_p129 | with_reducible exact W_R_readNames_p115 | with_reducible exact W_R_readNames_p88)
theorem W_R_readNames_p40 {M : zMem} {x0 : Int32} : zK id okR M (F_R_readNames_p40 M x0) := by
  unfold F_R_readNames_p40
  repeat' (first | with_reducible apply zK_if | with_reducible apply zK_ix | with_reducible apply zK_bit | with_reducible apply zK_nz | (with_reducible refine zK_set (fun _ h => by simp only [okC, okC1, okR, okR1] at h; omega) (fun _ => ?_)) | (with_reducible refine zK_bi ?_ (fun _ _ => ?_)) | (with_reducible refine zK_bv ?_ (fun _ => ?_)) | with_reducible exact zK_some rfl | with_reducible exact W_R_isIn | with_reducible exact W_R_noteFault | with_reducible exact W_R_readNames_p135 | with_reducible exact W_R_readNames_p129 | with_reducible exact W_R_readNames_p115 | with_reducible exact W_R_readNames_p88 | with_reducible exact W_R_readNames_p55)
theorem W_R_readNames_p14 {M : zMem} {x0 x1 x2 : Int32} : zK id okR M (F_R_readNames_p14 M x0 x1 x2) := by
  unfold F_R_readNames_p14
  repeat' (first | with_reducible apply zK_if | with_reducible apply zK_ix | with_reducible apply zK_bit | with_reducible apply zK_nz | (with_reducible refine zK_set (fun _ h => by simp only [okC, okC1, okR, okR1] at h; omega) (fun _ => ?_)) | (with_reducible refine zK_bi ?_ (fun _ _ => ?_)) | (with_reducible refine zK_bv ?_ (fun _ => ?_)) | with_reducible exact zK_some rfl | with_reducible exact W_R_isIn | with_reducible exact W_R_noteFault | with_reducible exact W_R_readNames_p135 | with_reducible exact W_R_readNames_p129 | with_reducible exact W_R_readNames_p115 | with_reducible exact W_R_readNames_p88 | with_reducible exact W_R_readNames_p55 | with_reducible exact W_R_readNames_p40)
theorem W_R_readNames {M : zMem} {x0 x1 : Int32} : zK id okR M (F_R_readNames M x0 x1) := by
  unfold F_R_readNames
  repeat' (first | with_reducible apply zK_if | with_reducible apply zK_ix | with_reducible apply zK_bit | with_reducible apply zK_nz | (with_reducible refine zK_set (fun _ h => by simp only [okC, okC1, okR, okR1] at h; omega) (fun _ => ?_)) | (with_reducible refine zK_bi ?_ (fun _ _ => ?_)) | (with_reducible refine zK_bv ?_ (fun _ => ?_)) | with_reducible exact zK_some rfl | with_reducible exact W_R_isIn | with_reducible exact W_R_noteFault | with_reducible exact W_R_readNames_p135 | with_reducible exact W_R_readNames_p129 | with_reducible exact W_R_readNames_p115 | with_reducible exact W_R_readNames_p88 | with_reducible exact W_R_readNames_p55 | with_reducible exact W_R_readNames_p40 | with_reducible exact W_R_readNames_p14)
theorem W_R_readParts_p148 {M : zMem} {x0 x1 : Int32} : zK id okR M (F_R_readParts_p148 M x0 x1) := by
  unfold F_R_readParts_p148
  repeat' (first | with_reducible apply zK_if | with_reducible apply zK_ix | with_reducible apply zK_bit | with_reducible apply zK_nz | (with_reducible refine zK_set (fun _ h => by simp only [okC, okC1, okR, okR1] at h; omega) (fun _ => ?_)) | (with_reducible refine zK_bi ?_ (fun _ _ => ?_)) | (with_reducible refine zK_bv ?_ (fun _ => ?_)) | with_reducible exact zK_some rfl | with_reducible exact W_R_beginsStatement | with_reducible exact W_R_isIn | with_reducible exact W_R_node | with_reducible exact W_R_push | with_reducible exact W_R_task | with_reducible exact W_R_tasksOf)
theorem W_R_readParts_p115 {M : zMem} {x0 x1 : Int32} : zK id okR M (F_R_readParts_p115 M x0 x1) := by
  unfold F_R_readParts_p115
  repeat' (first | with_reducible apply zK_if | with_reducible apply zK_ix | with_reducible apply zK_bit | with_reducible apply zK_nz | (with_reducible refine zK_set (fun _ h => by simp only [okC, okC1, okR, okR1] at h; omega) (fun _ => ?_)) | (with_reducible refine zK_bi ?_ (fun _ _ => ?_)) | (with_reducible refine zK_bv ?_ (fun _ => ?_)) | with_reducible exact zK_some rfl | with_reducible exact W_R_beginsStatement | with_reducible exact W_R_isIn | with_reducible exact W_R_node | with_reducible exact W_R_push | with_reducible exact W_R_task | with_reducible exact W_R_tasksOf | with_reducible exact W_R_readParts_p148)
theorem W_R_readParts_p102 {M : zMem} {x0 x1 : Int32} : zK id okR M (F_R_readParts_p102 M x0 x1) := by
  unfold F_R_readParts_p102
  repeat' (first | with_reducible apply zK_if | with_reducible apply zK_ix | with_reducible apply zK_bit | with_reducible apply zK_nz | (with_reducible refine zK_set (fun _ h => by simp only [okC, okC1, okR, okR1] at h; omega) (fun _ => ?_)) | (with_reducible refine zK_bi ?_ (fun _ _ => ?_)) | (with_reducible refine zK_bv ?_ (fun _ => ?_)) | with_reducible exact zK_some rfl | with_reducible exact W_R_beginsStatement | with_reducible exact W_R_isIn | with_reducible exact W_R_node | with_reducible exact W_R_push | with_reducible exact W_R_task | with_reducible exact W_R_tasksOf | with_reducible exact W_R_readParts_p148 | with_reducible exact W_R_readParts_p115)
theorem W_R_readParts_p89 {M : zMem} {x0 x1 : Int32} : zK id okR M (F_R_readParts_p89 M x0 x1) := by
  unfold F_R_readParts_p89
  repeat' (first | with_reducible apply zK_if | with_reducible apply zK_ix | with_reducible apply zK_bit | with_reducible apply zK_nz | (with_reducible refine zK_set (fun _ h => by simp only [okC, okC1, okR, okR1] at h; omega) (fun _ => ?_)) | (with_reducible refine zK_bi ?_ (fun _ _ => ?_)) | (with_reducible refine zK_bv ?_ (fun _ => ?_)) | with_reducible exact zK_some rfl | with_reducible exact W_R_beginsStatement | with_reducible exact W_R_isIn | with_reducible exact W_R_node | with_reducible exact W_R_push | with_reducible exact W_R_task | with_reducible exact W_R_tasksOf | with_reducible exact W_R_readParts_p148 | with_reducible exact W_R_readParts_p115 | with_reducible exact W_R_readParts_p102)
theorem W_R_readParts_p73 {M : zMem} {x0 x1 x2 : Int32} : zK id okR M (F_R_readParts_p73 M x0 x1 x2) := by
  unfold F_R_readParts_p73
  repeat' (first | with_reducible apply zK_if | with_reducible apply zK_ix | with_reducible apply zK_bit | with_reducible apply zK_nz | (with_reducible refine zK_set (fun _ h => by simp only [okC, okC1, okR, okR1] at h; omega) (fun _ => ?_)) | (with_reducible refine zK_bi ?_ (fun _ _ => ?_)) | (with_reducible refine zK_bv ?_ (fun _ => ?_)) | with_reducible exact zK_some rfl | with_reducible exact W_R_beginsStatement | with_reducible exact W_R_isIn | with_reducible exact W_R_node | with_reducible exact W_R_push | with_reducible exact W_R_task | with_reducible exact W_R_tasksOf | with_reducible exact W_R_readParts_p148 | with_reducible exact W_R_readParts_p115 | with_reducible exact W_R_readParts_p102 | with_reducible exact W_R_readParts_p89)
theorem W_R_readParts_p64 {M : zMem} {x0 x1 x2 : Int32} : zK id okR M (F_R_readParts_p64 M x0 x1 x2) := by
  unfold F_R_readParts_p64
  repeat' (first | with_reducible apply zK_if | with_reducible apply zK_ix | with_reducible apply zK_bit | with_reducible apply zK_nz | (with_reducible refine zK_set (fun _ h => by simp only [okC, okC1, okR, okR1] at h; omega) (fun _ => ?_)) | (with_reducible refine zK_bi ?_ (fun _ _ => ?_)) | (with_reducible refine zK_bv ?_ (fun _ => ?_)) | with_reducible exact zK_some rfl | with_reducible exact W_R_beginsStatement | with_reducible exact W_R_isIn | with_reducible exact W_R_node | with_reducible exact W_R_push | with_reducible exact W_R_task | with_reducible exact W_R_tasksOf | with_reducible exact W_R_readParts_p148 | with_reducible exact W_R_readParts_p115 | with_reducible exact W_R_readParts_p102 | with_reducible exact W_R_readParts_p89 | with_reducible exact W_R_readParts_p73)
theorem W_R_readParts_p55 {M : zMem} {x0 x1 : Int32} : zK id okR M (F_R_readParts_p55 M x0 x1) := by
  unfold F_R_readParts_p55
  repeat' (first | with_reducible apply zK_if | with_reducible apply zK_ix | with_reducible apply zK_bit | with_reducible apply zK_nz | (with_reducible refine zK_set (fun _ h => by simp only [okC, okC1, okR, okR1] at h; omega) (fun _ => ?_)) | (with_reducible refine zK_bi ?_ (fun _ _ => ?_)) | (with_reducible refine zK_bv ?_ (fun _ => ?_)) | with_reducible exact zK_some rfl | with_reducible exact W_R_beginsStatement | with_reducible exact W_R_isIn | with_reducible exact W_R_node | with_reducible exact W_R_push | with_reducible exact W_R_task | with_reducible exact W_R_tasksOf | with_reducible exact W_R_readParts_p148 | with_reducible exact W_R_readParts_p115 | with_reducible exact W_R_readParts_p102 | with_reducible exact W_R_readParts_p89 | with_reducible exact W_R_readParts_p73 | with_reducible exact W_R_readParts_p64)
theorem W_R_readParts_p13 {M : zMem} {x0 x1 : Int32} : zK id okR M (F_R_readParts_p13 M x0 x1) := by
  unfold F_R_readParts_p13
  repeat' (first | with_reducible apply zK_if | with_reducible apply zK_ix | with_reducible apply zK_bit | with_reducible apply zK_nz | (with_reducible refine zK_set (fun _ h => by simp only [okC, okC1, okR, okR1] at h; omega) (fun _ => ?_)) | (with_reducible refine zK_bi ?_ (fun _ _ => ?_)) | (with_reducible refine zK_bv ?_ (fun _ => ?_)) | with_reducible exact zK_some rfl | with_reducible exact W_R_beginsStatement | with_reducible exact W_R_isIn | with_reducible exact W_R_node | with_reducible exact W_R_push | with_reducible exact W_R_task | with_reducible exact W_R_tasksOf | with_reducible exact W_R_readParts_p148 | with_reducible exact W_R_readParts_p115 | with_reducible exact W_R_readParts_p102 | with_reducible exact W_R_readParts_p89 | with_reducible exact W_R_readParts_p73 | with_reducible exact W_R_readParts_p64 | with_reducible exact W_R_readParts_p55)
theorem W_R_readParts {M : zMem} {x0 x1 : Int32} : zK id okR M (F_R_readParts M x0 x1) := by
  unfold F_R_readParts
  repeat' (first | with_reducible apply zK_if | with_reducible apply zK_ix | with_reducible apply zK_bit | with_reducible apply zK_nz | (with_reducible refine zK_set (fun _ h => by simp only [okC, okC1, okR, okR1] at h; omega) (fun _ => ?_)) | (with_reducible refine zK_bi ?_ (fun _ _ => ?_)) | (with_reducible refine zK_bv ?_ (fun _ => ?_)) | with_reducible exact zK_some rfl | with_reducible exact W_R_beginsStatement | with_reducible exact W_R_isIn | with_reducible exact W_R_node | with_reducible exact W_R_push | with_reducible exact W_R_task | with_reducible exact W_R_tasksOf | with_reducible exact W_R_readParts_p148 | with_reducible exact W_R_readParts_p115 | with_reducible exact W_R_readParts_p102 | with_reducible exact W_R_readParts_p89 | with_reducible exact W_R_readParts_p73 | with_reducible exact W_R_readParts_p64 | with_reducible exact W_R_readParts_p55 | with_reducible exact W_R_readParts_p13)
theorem W_R_readStatement_p61 {M : zMem} {x0 x1 x2 : Int32} : zK id okR M (F_R_readStatement_p61 M x0 x1 x2) := by
  unfold F_R_readStatement_p61
  repeat' (first | with_reducible apply zK_if | with_reducible apply zK_ix | with_reducible apply zK_bit | with_reducible apply zK_nz | (with_reducible refine zK_set (fun _ h => by simp only [okC, okC1, okR, okR1] at h; omega) (fun _ => ?_)) | (with_reducible refine zK_bi ?_ (fun _ _ => ?_)) | (with_reducible refine zK_bv ?_ (fun _ => ?_)) | with_reducible exact zK_some rfl | with_reducible exact W_R_isIn | with_reducible exact W_R_task | with_reducible exact W_R_tasksOf)
theorem W_R_readStatement_p52 {M : zMem} {x0 : Int32} : zK id okR M (F_R_readStatement_p52 M x0) := by
  unfold F_R_readStatement_p52
  repeat' (first | with_reducible apply zK_if | with_reducible apply zK_ix | with_reducible apply zK_bit | with_reducible apply zK_nz | (with_reducible refine zK_set (fun _ h => by simp only [okC, okC1, okR, okR1] at h; omega) (fun _ => ?_)) | (with_reducible refine zK_bi ?_ (fun _ _ => ?_)) | (with_reducible refine zK_bv ?_ (fun _ => ?_)) | with_reducible exact zK_some rfl | with_reducible exact W_R_isIn | with_reducible exact W_R_task | with_reducible exact W_R_tasksOf | with_reducible exact W_R_readStatement_p61)
theorem W_R_readStatement {M : zMem} {x0 : Int32} : zK id okR M (F_R_readStatement M x0) := by
  unfold F_R_readStatement
  repeat' (first | with_reducible apply zK_if | with_reducible apply zK_ix | with_reducible apply zK_bit | with_reducible apply zK_nz | (with_reducible refine zK_set (fun _ h => by simp only [okC, okC1, okR, okR1] at h; omega) (fun _ => ?_)) | (with_reducible refine zK_bi ?_ (fun _ _ => ?_)) | (with_reducible refine zK_bv ?_ (fun _ => ?_)) | with_reducible exact zK_some rfl | with_reducible exact W_R_isIn | with_reducible exact W_R_task | with_reducible exact W_R_tasksOf | with_reducible exact W_R_readStatement_p61 | with_reducible exact W_R_readStatement_p52)
theorem W_R_step_p37 {M : zMem} {x0 : Int32} : zK id okR M (F_R_step_p37 M x0) := by
  unfold F_R_step_p37
  repeat' (first | with_reducible apply zK_if | with_reducible apply zK_ix | with_reducible apply zK_bit | with_reducible apply zK_nz | (with_reducible refine zK_set (fun _ h => by simp only [okC, okC1, okR, okR1] at h; omega) (fun _ => ?_)) | (with_reducible refine zK_bi ?_ (fun _ _ => ?_)) | (with_reducible refine zK_bv ?_ (fun _ => ?_)) | with_reducible exact zK_some rfl | with_reducible exact W_R_finishPart | with_reducible exact W_R_finishStatement | with_reducible exact W_R_isIn | with_reducible exact W_R_look | with_reducible exact W_R_readCall | with_reducible exact W_R_readExpression | with_reducible exact W_R_readFactor | with_reducible exact W_R_readIf | with_reducible exact W_R_readNames | with_reducible exact W_R_readParts | with_reducible exact W_R_readStatement)
theorem W_R_step_p25 {M : zMem} {x0 : Int32} : zK id okR M (F_R_step_p25 M x0) := by
  unfold F_R_step_p25
  repeat' (first | with_reducible apply zK_if | with_reducible apply zK_ix | with_reducible apply zK_bit | with_reducible apply zK_nz | (with_reducible refine zK_set (fun _ h => by simp only [okC, okC1, okR, okR1] at h; omega) (fun _ => ?_)) | (with_reducible refine zK_bi ?_ (fun _ _ => ?_)) | (with_reducible refine zK_bv ?_ (fun _ => ?_)) | with_reducible exact zK_some rfl | with_reducible exact W_R_finishPart | with_reducible exact W_R_finishStatement | with_reducible exact W_R_isIn | with_reducible exact W_R_look | with_reducible exact W_R_readCall | with_reducible exact W_R_readExpression | with_reducible exact W_R_readFactor | with_reducible exact W_R_readIf | with_reducible exact W_R_readNames | with_reducible exact W_R_readParts | with_reducible exact W_R_readStatement | with_reducible exact W_R_step_p37)
theorem W_R_step {M : zMem} : zK id okR M (F_R_step M ) := by
  unfold F_R_step
  repeat' (first | with_reducible apply zK_if | with_reducible apply zK_ix | with_reducible apply zK_bit | with_reducible apply zK_nz | (with_reducible refine zK_set (fun _ h => by simp only [okC, okC1, okR, okR1] at h; omega) (fun _ => ?_)) | (with_reducible refine zK_bi ?_ (fun _ _ => ?_)) | (with_reducible refine zK_bv ?_ (fun _ => ?_)) | with_reducible exact zK_some rfl | with_reducible exact W_R_finishPart | with_reducible exact W_R_finishStatement | with_reducible exact W_R_isIn | with_reducible exact W_R_look | with_reducible exact W_R_readCall | with_reducible exact W_R_readExpression | with_reducible exact W_R_readFactor | with_reducible exact W_R_readIf | with_reducible exact W_R_readNames | with_reducible exact W_R_readParts | with_reducible exact W_R_readStatement | with_reducible exact W_R_step_p37 | with_reducible exact W_R_step_p25)
theorem W_R_readText_p58 {N : Nat} {M : zMem} : zK Prod.snd okR M (F_R_readText_p58 N M ) := by
  unfold F_R_readText_p58
  repeat' (first | with_reducible apply zK_if | with_reducible apply zK_ix | with_reducible apply zK_bit | with_reducible apply zK_nz | (with_reducible refine zK_set (fun _ h => by simp only [okC, okC1, okR, okR1] at h; omega) (fun _ => ?_)) | (with_reducible refine zK_bi ?_ (fun _ _ => ?_)) | (with_reducible refine zK_bv ?_ (fun _ => ?_)) | with_reducible exact zK_some rfl | with_reducible exact W_R_step | with_reducible exact W_R_task)
theorem W_R_readText_p50 {N : Nat} {M : zMem} : zK Prod.snd okR M (F_R_readText_p50 N M ) := by
  unfold F_R_readText_p50
  repeat' (first | with_reducible apply zK_if | with_reducible apply zK_ix | with_reducible apply zK_bit | with_reducible apply zK_nz | (with_reducible refine zK_set (fun _ h => by simp only [okC, okC1, okR, okR1] at h; omega) (fun _ => ?_)) | (with_reducible refine zK_bi ?_ (fun _ _ => ?_)) | (with_reducible refine zK_bv ?_ (fun _ => ?_)) | with_reducible exact zK_some rfl | with_reducible exact W_R_step | with_reducible exact W_R_task | with_reducible exact W_R_readText_p58)
theorem W_R_readText_p41 {N : Nat} : ∀ (n : Nat) {M : zMem}, zK Prod.snd okR M (F_R_readText_p41 N n M ) := by
  intro n
  induction n with
  | zero =>
    intro M
    unfold F_R_readText_p41
    exact zK_none
  | succ n ih =>
    intro M
    unfold F_R_readText_p41
    repeat' (first | with_reducible apply zK_if | with_reducible apply zK_ix | with_reducible apply zK_bit | with_reducible apply zK_nz | (with_reducible refine zK_set (fun _ h => by simp only [okC, okC1, okR, okR1] at h; omega) (fun _ => ?_)) | (with_reducible refine zK_bi ?_ (fun _ _ => ?_)) | (with_reducible refine zK_bv ?_ (fun _ => ?_)) | with_reducible exact zK_some rfl | with_reducible exact ih | with_reducible exact W_R_step | with_reducible exact W_R_task | with_reducible exact W_R_readText_p58 | with_reducible exact W_R_readText_p50)
theorem W_R_readText_p20 {N : Nat} : ∀ (n : Nat) {M : zMem} {x0 : Int32}, zK Prod.snd okR M (F_R_readText_p20 N n M x0) := by
  intro n
  induction n with
  | zero =>
    intro M x0
    unfold F_R_readText_p20
    exact zK_none
  | succ n ih =>
    intro M x0
    unfold F_R_readText_p20
    repeat' (first | with_reducible apply zK_if | with_reducible apply zK_ix | with_reducible apply zK_bit | with_reducible apply zK_nz | (with_reducible refine zK_set (fun _ h => by simp only [okC, okC1, okR, okR1] at h; omega) (fun _ => ?_)) | (with_reducible refine zK_bi ?_ (fun _ _ => ?_)) | (with_reducible refine zK_bv ?_ (fun _ => ?_)) | with_reducible exact zK_some rfl | with_reducible exact ih | with_reducible exact W_R_step | with_reducible exact W_R_task | with_reducible exact W_R_readText_p58 | with_reducible exact W_R_readText_p50 | with_reducible exact W_R_readText_p41 _)
theorem W_R_readText {N : Nat} {M : zMem} : zK Prod.snd okR M (F_R_readText N M ) := by
  unfold F_R_readText
  repeat' (first | with_reducible apply zK_if | with_reducible apply zK_ix | with_reducible apply zK_bit | with_reducible apply zK_nz | (with_reducible refine zK_set (fun _ h => by simp only [okC, okC1, okR, okR1] at h; omega) (fun _ => ?_)) | (with_reducible refine zK_bi ?_ (fun _ _ => ?_)) | (with_reducible refine zK_bv ?_ (fun _ => ?_)) | with_reducible exact zK_some rfl | with_reducible exact W_R_step | with_reducible exact W_R_task | with_reducible exact W_R_readText_p58 | with_reducible exact W_R_readText_p50 | with_reducible exact W_R_readText_p41 _ | with_reducible exact W_R_readText_p20 _)
theorem W_R_findFault_p61 {N : Nat} {rec8 : zMem → Int32 → Option (Int32 × zMem)} (hrec8 : ∀ M x0, zK Prod.snd okR M (rec8 M x0)) {M : zMem} {x0 x1 : Int32} : zK Prod.snd okR M (F_R_findFault_p61 N rec8 M x0 x1) := by
  unfold F_R_findFault_p61
  repeat' (first | with_reducible apply zK_if | with_reducible apply zK_ix | with_reducible apply zK_bit | with_reducible apply zK_nz | (with_reducible refine zK_set (fun _ h => by simp only [okC, okC1, okR, okR1] at h; omega) (fun _ => ?_)) | (with_reducible refine zK_bi ?_ (fun _ _ => ?_)) | (with_reducible refine zK_bv ?_ (fun _ => ?_)) | with_reducible exact zK_some rfl | with_reducible exact W_R_argumentsOf | with_reducible exact W_R_readText | with_reducible exact hrec8 _ _)
theorem W_R_findFault_p59 {N : Nat} {rec8 : zMem → Int32 → Option (Int32 × zMem)} (hrec8 : ∀ M x0, zK Prod.snd okR M (rec8 M x0)) {M : zMem} {x0 : Int32} : zK Prod.snd okR M (F_R_findFault_p59 N rec8 M x0) := by
  unfold F_R_findFault_p59
  repeat' (first | with_reducible apply zK_if | with_reducible apply zK_ix | with_reducible apply zK_bit | with_reducible apply zK_nz | (with_reducible refine zK_set (fun _ h => by simp only [okC, okC1, okR, okR1] at h; omega) (fun _ => ?_)) | (with_reducible refine zK_bi ?_ (fun _ _ => ?_)) | (with_reducible refine zK_bv ?_ (fun _ => ?_)) | with_reducible exact zK_some rfl | with_reducible exact W_R_argumentsOf | with_reducible exact W_R_readText | with_reducible exact W_R_findFault_p61 hrec8 | with_reducible exact hrec8 _ _)
theorem W_R_findFault_p54 {N : Nat} {rec8 : zMem → Int32 → Option (Int32 × zMem)} (hrec8 : ∀ M x0, zK Prod.snd okR M (rec8 M x0)) {M : zMem} {x0 : Int32} : zK Prod.snd okR M (F_R_findFault_p54 N rec8 M x0) := by
  unfold F_R_findFault_p54
  repeat' (first | with_reducible apply zK_if | with_reducible apply zK_ix | with_reducible apply zK_bit | with_reducible apply zK_nz | (with_reducible refine zK_set (fun _ h => by simp only [okC, okC1, okR, okR1] at h; omega) (fun _ => ?_)) | (with_reducible refine zK_bi ?_ (fun _ _ => ?_)) | (with_reducible refine zK_bv ?_ (fun _ => ?_)) | with_reducible exact zK_some rfl | with_reducible exact W_R_argumentsOf | with_reducible exact W_R_readText | with_reducible exact W_R_findFault_p61 hrec8 | with_reducible exact W_R_findFault_p59 hrec8 | with_reducible exact hrec8 _ _)
theorem W_R_findFault_p40 {N : Nat} {rec8 : zMem → Int32 → Option (Int32 × zMem)} (hrec8 : ∀ M x0, zK Prod.snd okR M (rec8 M x0)) {M : zMem} {x0 x1 : Int32} : zK Prod.snd okR M (F_R_findFault_p40 N rec8 M x0 x1) := by
  unfold F_R_findFault_p40
  repeat' (first | with_reducible apply zK_if | with_reducible apply zK_ix | with_reducible apply zK_bit | with_reducible apply zK_nz | (with_reducible refine zK_set (fun _ h => by simp only [okC, okC1, okR, okR1] at h; omega) (fun _ => ?_)) | (with_reducible refine zK_bi ?_ (fun _ _ => ?_)) | (with_reducible refine zK_bv ?_ (fun _ => ?_)) | with_reducible exact zK_some rfl | with_reducible exact W_R_argumentsOf | with_reducible exact W_R_readText | with_reducible exact W_R_findFault_p61 hrec8 | with_reducible exact W_R_findFault_p59 hrec8 | with_reducible exact W_R_findFault_p54 hrec8 | with_reducible exact hrec8 _ _)
theorem W_R_findFault_p39 {N : Nat} {rec8 : zMem → Int32 → Option (Int32 × zMem)} (hrec8 : ∀ M x0, zK Prod.snd okR M (rec8 M x0)) {M : zMem} {x0 : Int32} : zK Prod.snd okR M (F_R_findFault_p39 N rec8 M x0) := by
  unfold F_R_findFault_p39
  repeat' (first | with_reducible apply zK_if | with_reducible apply zK_ix | with_reducible apply zK_bit | with_reducible apply zK_nz | (with_reducible refine zK_set (fun _ h => by simp only [okC, okC1, okR, okR1] at h; omega) (fun _ => ?_)) | (with_reducible refine zK_bi ?_ (fun _ _ => ?_)) | (with_reducible refine zK_bv ?_ (fun _ => ?_)) | with_reducible exact zK_some rfl | with_reducible exact W_R_argumentsOf | with_reducible exact W_R_readText | with_reducible exact W_R_findFault_p61 hrec8 | with_reducible exact W_R_findFault_p59 hrec8 | with_reducible exact W_R_findFault_p54 hrec8 | with_reducible exact W_R_findFault_p40 hrec8 | with_reducible exact hrec8 _ _)
theorem W_R_findFault_p37 {N : Nat} {rec8 : zMem → Int32 → Option (Int32 × zMem)} (hrec8 : ∀ M x0, zK Prod.snd okR M (rec8 M x0)) {M : zMem} {x0 : Int32} : zK Prod.snd okR M (F_R_findFault_p37 N rec8 M x0) := by
  unfold F_R_findFault_p37
  repeat' (first | with_reducible apply zK_if | with_reducible apply zK_ix | with_reducible apply zK_bit | with_reducible apply zK_nz | (with_reducible refine zK_set (fun _ h => by simp only [okC, okC1, okR, okR1] at h; omega) (fun _ => ?_)) | (with_reducible refine zK_bi ?_ (fun _ _ => ?_)) | (with_reducible refine zK_bv ?_ (fun _ => ?_)) | with_reducible exact zK_some rfl | with_reducible exact W_R_argumentsOf | with_reducible exact W_R_readText | with_reducible exact W_R_findFault_p61 hrec8 | with_reducible exact W_R_findFault_p59 hrec8 | with_reducible exact W_R_findFault_p54 hrec8 | with_reducible exact W_R_findFault_p40 hrec8 | with_reducible exact W_R_findFault_p39 hrec8 | with_reducible exact hrec8 _ _)
theorem W_R_findFault_p8 {N : Nat} : ∀ (n : Nat) {M : zMem} {x0 : Int32}, zK Prod.snd okR M (F_R_findFault_p8 N n M x0) := by
  intro n
  induction n with
  | zero =>
    intro M x0
    unfold F_R_findFault_p8
    exact zK_none
  | succ n ih =>
    intro M x0
    unfold F_R_findFault_p8
    repeat' (first | with_reducible apply zK_if | with_reducible apply zK_ix | with_reducible apply zK_bit | with_reducible apply zK_nz | (with_reducible refine zK_set (fun _ h => by simp only [okC, okC1, okR, okR1] at h; omega) (fun _ => ?_)) | (with_reducible refine zK_bi ?_ (fun _ _ => ?_)) | (with_reducible refine zK_bv ?_ (fun _ => ?_)) | with_reducible exact zK_some rfl | with_reducible exact ih | with_reducible exact W_R_argumentsOf | with_reducible exact W_R_readText | with_reducible exact W_R_findFault_p61 (fun _ _ => ih) | with_reducible exact W_R_findFault_p59 (fun _ _ => ih) | with_reducible exact W_R_findFault_p54 (fun _ _ => ih) | with_reducible exact W_R_findFault_p40 (fun _ _ => ih) | with_reducible exact W_R_findFault_p39 (fun _ _ => ih) | with_reducible exact W_R_findFault_p37 (fun _ _ => ih))
theorem W_R_findFault {N : Nat} {M : zMem} : zK Prod.snd okR M (F_R_findFault N M ) := by
  unfold F_R_findFault
  repeat' (first | with_reducible apply zK_if | with_reducible apply zK_ix | with_reducible apply zK_bit | with_reducible apply zK_nz | (with_reducible refine zK_set (fun _ h => by simp only [okC, okC1, okR, okR1] at h; omega) (fun _ => ?_)) | (with_reducible refine zK_bi ?_ (fun _ _ => ?_)) | (with_reducible refine zK_bv ?_ (fun _ => ?_)) | with_reducible exact zK_some rfl | with_reducible exact W_R_argumentsOf | with_reducible exact W_R_readText | with_reducible exact W_R_findFault_p61 hrec8 | with_reducible exact W_R_findFault_p59 hrec8 | with_reducible exact W_R_findFault_p54 hrec8 | with_reducible exact W_R_findFault_p40 hrec8 | with_reducible exact W_R_findFault_p39 hrec8 | with_reducible exact W_R_findFault_p37 hrec8 | with_reducible exact W_R_findFault_p8 _)
theorem W_R_release {M : zMem} : zK Prod.snd okR M (F_R_release M ) := by
  unfold F_R_release
  repeat' (first | with_reducible apply zK_if | with_reducible apply zK_ix | with_reducible apply zK_bit | with_reducible apply zK_nz | (with_reducible refine zK_set (fun _ h => by simp only [okC, okC1, okR, okR1] at h; omega) (fun _ => ?_)) | (with_reducible refine zK_bi ?_ (fun _ _ => ?_)) | (with_reducible refine zK_bv ?_ (fun _ => ?_)) | with_reducible exact zK_some rfl)
theorem W_R_operate_p29 {M : zMem} {x0 : Int32} : zK id okR M (F_R_operate_p29 M x0) := by
  unfold F_R_operate_p29
  repeat' (first | with_reducible apply zK_if | with_reducible apply zK_ix | with_reducible apply zK_bit | with_reducible apply zK_nz | (with_reducible refine zK_set (fun _ h => by simp only [okC, okC1, okR, okR1] at h; omega) (fun _ => ?_)) | (with_reducible refine zK_bi ?_ (fun _ _ => ?_)) | (with_reducible refine zK_bv ?_ (fun _ => ?_)) | with_reducible exact zK_some rfl | with_reducible exact W_R_hold | with_reducible exact W_R_release)
theorem W_R_operate_p12 {M : zMem} {x0 x1 x2 : Int32} : zK id okR M (F_R_operate_p12 M x0 x1 x2) := by
  unfold F_R_operate_p12
  repeat' (first | with_reducible apply zK_if | with_reducible apply zK_ix | with_reducible apply zK_bit | with_reducible apply zK_nz | (with_reducible refine zK_set (fun _ h => by simp only [okC, okC1, okR, okR1] at h; omega) (fun _ => ?_)) | (with_reducible refine zK_bi ?_ (fun _ _ => ?_)) | (with_reducible refine zK_bv ?_ (fun _ => ?_)) | with_reducible exact zK_some rfl | with_reducible exact W_R_hold | with_reducible exact W_R_release | with_reducible exact W_R_operate_p29)
theorem W_R_operate_p128 {M : zMem} {x0 : Int32} : zK id okR M (F_R_operate_p128 M x0) := by
  unfold F_R_operate_p128
  repeat' (first | with_reducible apply zK_if | with_reducible apply zK_ix | with_reducible apply zK_bit | with_reducible apply zK_nz | (with_reducible refine zK_set (fun _ h => by simp only [okC, okC1, okR, okR1] at h; omega) (fun _ => ?_)) | (with_reducible refine zK_bi ?_ (fun _ _ => ?_)) | (with_reducible refine zK_bv ?_ (fun _ => ?_)) | with_reducible exact zK_some rfl | with_reducible exact W_R_hold | with_reducible exact W_R_release | with_reducible exact W_R_operate_p29 | with_reducible exact W_R_operate_p12)
theorem W_R_operate_p121 {M : zMem} {x0 : Int32} : zK id okR M (F_R_operate_p121 M x0) := by
  unfold F_R_operate_p121
  repeat' (first | with_reducible apply zK_if | with_reducible apply zK_ix | with_reducible apply zK_bit | with_reducible apply zK_nz | (with_reducible refine zK_set (fun _ h => by simp only [okC, okC1, okR, okR1] at h; omega) (fun _ => ?_)) | (with_reducible refine zK_bi ?_ (fun _ _ => ?_)) | (with_reducible refine zK_bv ?_ (fun _ => ?_)) | with_reducible exact zK_some rfl | with_reducible exact W_R_hold | with_reducible exact W_R_release | with_reducible exact W_R_operate_p29 | with_reducible exact W_R_operate_p12 | with_reducible exact W_R_operate_p128)
theorem W_R_operate_p63 {M : zMem} {x0 : Int32} : zK id okR M (F_R_operate_p63 M x0) := by
  unfold F_R_operate_p63
  repeat' (first | with_reducible apply zK_if | with_reducible apply zK_ix | with_reducible apply zK_bit | with_reducible apply zK_nz | (with_reducible refine zK_set (fun _ h => by simp only [okC, okC1, okR, okR1] at h; omega) (fun _ => ?_)) | (with_reducible refine zK_bi ?_ (fun _ _ => ?_)) | (with_reducible refine zK_bv ?_ (fun _ => ?_)) | with_reducible exact zK_some rfl | with_reducible exact W_R_hold | with_reducible exact W_R_release | with_reducible exact W_R_operate_p29 | with_reducible exact W_R_operate_p12 | with_reducible exact W_R_operate_p128 | with_reducible exact W_R_operate_p121)
theorem W_R_operate_p52 {M : zMem} {x0 : Int32} : zK id okR M (F_R_operate_p52 M x0) := by
  unfold F_R_operate_p52
  repeat' (first | with_reducible apply zK_if | with_reducible apply zK_ix | with_reducible apply zK_bit | with_reducible apply zK_nz | (with_reducible refine zK_set (fun _ h => by simp only [okC, okC1, okR, okR1] at h; omega) (fun _ => ?_)) | (with_reducible refine zK_bi ?_ (fun _ _ => ?_)) | (with_reducible refine zK_bv ?_ (fun _ => ?_)) | with_reducible exact zK_some rfl | with_reducible exact W_R_hold | with_reducible exact W_R_release | with_reducible exact W_R_operate_p29 | with_reducible exact W_R_operate_p12 | with_reducible exact W_R_operate_p128 | with_reducible exact W_R_operate_p121 | with_reducible exact W_R_operate_p63)
theorem W_R_operate {M : zMem} {x0 : Int32} : zK id okR M (F_R_operate M x0) := by
  unfold F_R_operate
  repeat' (first | with_reducible apply zK_if | with_reducible apply zK_ix | with_reducible apply zK_bit | with_reducible apply zK_nz | (with_reducible refine zK_set (fun _ h => by simp only [okC, okC1, okR, okR1] at h; omega) (fun _ => ?_)) | (with_reducible refine zK_bi ?_ (fun _ _ => ?_)) | (with_reducible refine zK_bv ?_ (fun _ => ?_)) | with_reducible exact zK_some rfl | with_reducible exact W_R_hold | with_reducible exact W_R_release | with_reducible exact W_R_operate_p29 | with_reducible exact W_R_operate_p12 | with_reducible exact W_R_operate_p128 | with_reducible exact W_R_operate_p121 | with_reducible exact W_R_operate_p63 | with_reducible exact W_R_operate_p52)
theorem W_R_goOnExpression_p85 {N : Nat} {M : zMem} {x0 : Int32} : zK id okR M (F_R_goOnExpression_p85 N M x0) := by
  unfold F_R_goOnExpression_p85
  repeat' (first | with_reducible apply zK_if | with_reducible apply zK_ix | with_reducible apply zK_bit | with_reducible apply zK_nz | (with_reducible refine zK_set (fun _ h => by simp only [okC, okC1, okR, okR1] at h; omega) (fun _ => ?_)) | (with_reducible refine zK_bi ?_ (fun _ _ => ?_)) | (with_reducible refine zK_bv ?_ (fun _ => ?_)) | with_reducible exact zK_some rfl | with_reducible exact W_R_call | with_reducible exact W_R_hold | with_reducible exact W_R_operate | with_reducible exact W_R_release | with_reducible exact W_R_wait)
theorem W_R_goOnExpression_p83 {N : Nat} {M : zMem} {x0 x1 : Int32} : zK id okR M (F_R_goOnExpression_p83 N M x0 x1) := by
  unfold F_R_goOnExpression_p83
  repeat' (first | with_reducible apply zK_if | with_reducible apply zK_ix | with_reducible apply zK_bit | with_reducible apply zK_nz | (with_reducible refine zK_set (fun _ h => by simp only [okC, okC1, okR, okR1] at h; omega) (fun _ => ?_)) | (with_reducible refine zK_bi ?_ (fun _ _ => ?_)) | (with_reducible refine zK_bv ?_ (fun _ => ?_)) | with_reducible exact zK_some rfl | with_reducible exact W_R_call | with_reducible exact W_R_hold | with_reducible exact W_R_operate | with_reducible exact W_R_release | with_reducible exact W_R_wait | with_reducible exact W_R_goOnExpression_p85)
theorem W_R_goOnExpression_p71 {N : Nat} {M : zMem} {x0 : Int32} : zK id okR M (F_R_goOnExpression_p71 N M x0) := by
  unfold F_R_goOnExpression_p71
  repeat' (first | with_reducible apply zK_if | with_reducible apply zK_ix | with_reducible apply zK_bit | with_reducible apply zK_nz | (with_reducible refine zK_set (fun _ h => by simp only [okC, okC1, okR, okR1] at h; omega) (fun _ => ?_)) | (with_reducible refine zK_bi ?_ (fun _ _ => ?_)) | (with_reducible refine zK_bv ?_ (fun _ => ?_)) | with_reducible exact zK_some rfl | with_reducible exact W_R_call | with_reducible exact W_R_hold | with_reducible exact W_R_operate | with_reducible exact W_R_release | with_reducible exact W_R_wait | with_reducible exact W_R_goOnExpression_p85 | with_reducible exact W_R_goOnExpression_p83)
theorem W_R_goOnExpression_p66 {N : Nat} {M : zMem} {x0 x1 x2 : Int32} : zK id okR M (F_R_goOnExpression_p66 N M x0 x1 x2) := by
  unfold F_R_goOnExpression_p66
  repeat' (first | with_reducible apply zK_if | with_reducible apply zK_ix | with_reducible apply zK_bit | with_reducible apply zK_nz | (with_reducible refine zK_set (fun _ h => by simp only [okC, okC1, okR, okR1] at h; omega) (fun _ => ?_)) | (with_reducible refine zK_bi ?_ (fun _ _ => ?_)) | (with_reducible refine zK_bv ?_ (fun _ => ?_)) | with_reducible exact zK_some rfl | with_reducible exact W_R_call | with_reducible exact W_R_hold | with_reducible exact W_R_operate | with_reducible exact W_R_release | with_reducible exact W_R_wait | with_reducible exact W_R_goOnExpression_p85 | with_reducible exact W_R_goOnExpression_p83 | with_reducible exact W_R_goOnExpression_p71)
theorem W_R_goOnExpression_p35 {N : Nat} {M : zMem} {x0 : Int32} : zK id okR M (F_R_goOnExpression_p35 N M x0) := by
  unfold F_R_goOnExpression_p35
  repeat' (first | with_reducible apply zK_if | with_reducible apply zK_ix | with_reducible apply zK_bit | with_reducible apply zK_nz | (with_reducible refine zK_set (fun _ h => by simp only [okC, okC1, okR, okR1] at h; omega) (fun _ => ?_)) | (with_reducible refine zK_bi ?_ (fun _ _ => ?_)) | (with_reducible refine zK_bv ?_ (fun _ => ?_)) | with_reducible exact zK_some rfl | with_reducible exact W_R_call | with_reducible exact W_R_hold | with_reducible exact W_R_operate | with_reducible exact W_R_release | with_reducible exact W_R_wait | with_reducible exact W_R_goOnExpression_p85 | with_reducible exact W_R_goOnExpression_p83 | with_reducible exact W_R_goOnExpression_p71 | with_reducible exact W_R_goOnExpression_p66)
theorem W_R_goOnExpression {N : Nat} {M : zMem} {x0 x1 : Int32} : zK id okR M (F_R_goOnExpression N M x0 x1) := by
  unfold F_R_goOnExpression
  repeat' (first | with_reducible apply zK_if | with_reducible apply zK_ix | with_reducible apply zK_bit | with_reducible apply zK_nz | (with_reducible refine zK_set (fun _ h => by simp only [okC, okC1, okR, okR1] at h; omega) (fun _ => ?_)) | (with_reducible refine zK_bi ?_ (fun _ _ => ?_)) | (with_reducible refine zK_bv ?_ (fun _ => ?_)) | with_reducible exact zK_some rfl | with_reducible exact W_R_call | with_reducible exact W_R_hold | with_reducible exact W_R_operate | with_reducible exact W_R_release | with_reducible exact W_R_wait | with_reducible exact W_R_goOnExpression_p85 | with_reducible exact W_R_goOnExpression_p83 | with_reducible exact W_R_goOnExpression_p71 | with_reducible exact W_R_goOnExpression_p66 | with_reducible exact W_R_goOnExpression_p35)
theorem W_R_comeBack_p27 {N : Nat} {rec9 : zMem → Int32 → Int32 → Option (zMem)} (hrec9 : ∀ M x0 x1, zK id okR M (rec9 M x0 x1)) {M : zMem} {x0 x1 : Int32} : zK id okR M (F_R_comeBack_p27 N rec9 M x0 x1) := by
  unfold F_R_comeBack_p27
  repeat' (first | with_reducible apply zK_if | with_reducible apply zK_ix | with_reducible apply zK_bit | with_reducible apply zK_nz | (with_reducible refine zK_set (fun _ h => by simp only [okC, okC1, okR, okR1] at h; omega) (fun _ => ?_)) | (with_reducible refine zK_bi ?_ (fun _ _ => ?_)) | (with_reducible refine zK_bv ?_ (fun _ => ?_)) | with_reducible exact zK_some rfl | with_reducible exact W_R_hold | with_reducible exact hrec9 _ _ _)
theorem W_R_comeBack_p9 {N : Nat} : ∀ (n : Nat) {M : zMem} {x0 x1 : Int32}, zK id okR M (F_R_comeBack_p9 N n M x0 x1) := by
  intro n
  induction n with
  | zero =>
    intro M x0 x1
    unfold F_R_comeBack_p9
    exact zK_none
  | succ n ih =>
    intro M x0 x1
    unfold F_R_comeBack_p9
    repeat' (first | with_reducible apply zK_if | with_reducible apply zK_ix | with_reducible apply zK_bit | with_reducible apply zK_nz | (with_reducible refine zK_set (fun _ h => by simp only [okC, okC1, okR, okR1] at h; omega) (fun _ => ?_)) | (with_reducible refine zK_bi ?_ (fun _ _ => ?_)) | (with_reducible refine zK_bv ?_ (fun _ => ?_)) | with_reducible exact zK_some rfl | with_reducible exact ih | with_reducible exact W_R_hold | with_reducible exact W_R_comeBack_p27 (fun _ _ _ => ih))
theorem W_R_comeBack {N : Nat} {M : zMem} {x0 : Int32} : zK id okR M (F_R_comeBack N M x0) := by
  unfold F_R_comeBack
  repeat' (first | with_reducible apply zK_if | with_reducible apply zK_ix | with_reducible apply zK_bit | with_reducible apply zK_nz | (with_reducible refine zK_set (fun _ h => by simp only [okC, okC1, okR, okR1] at h; omega) (fun _ => ?_)) | (with_reducible refine zK_bi ?_ (fun _ _ => ?_)) | (with_reducible refine zK_bv ?_ (fun _ => ?_)) | with_reducible exact zK_some rfl | with_reducible exact W_R_hold | with_reducible exact W_R_comeBack_p27 hrec9 | with_reducible exact W_R_comeBack_p9 _)
theorem W_R_print {M : zMem} {x0 : Int32} : zK id okR M (F_R_print M x0) := by
  unfold F_R_print
  repeat' (first | with_reducible apply zK_if | with_reducible apply zK_ix | with_reducible apply zK_bit | with_reducible apply zK_nz | (with_reducible refine zK_set (fun _ h => by simp only [okC, okC1, okR, okR1] at h; omega) (fun _ => ?_)) | (with_reducible refine zK_bi ?_ (fun _ _ => ?_)) | (with_reducible refine zK_bv ?_ (fun _ => ?_)) | with_reducible exact zK_some rfl)
theorem W_R_setName {M : zMem} {x0 x1 : Int32} : zK id okR M (F_R_setName M x0 x1) := by
  unfold F_R_setName
  repeat' (first | with_reducible apply zK_if | with_reducible apply zK_ix | with_reducible apply zK_bit | with_reducible apply zK_nz | (with_reducible refine zK_set (fun _ h => by simp only [okC, okC1, okR, okR1] at h; omega) (fun _ => ?_)) | (with_reducible refine zK_bi ?_ (fun _ _ => ?_)) | (with_reducible refine zK_bv ?_ (fun _ => ?_)) | with_reducible exact zK_some rfl | with_reducible exact W_R_isLocal)
theorem W_R_goOnStatement_p154 {N : Nat} {M : zMem} {x0 x1 : Int32} : zK id okR M (F_R_goOnStatement_p154 N M x0 x1) := by
  unfold F_R_goOnStatement_p154
  repeat' (first | with_reducible apply zK_if | with_reducible apply zK_ix | with_reducible apply zK_bit | with_reducible apply zK_nz | (with_reducible refine zK_set (fun _ h => by simp only [okC, okC1, okR, okR1] at h; omega) (fun _ => ?_)) | (with_reducible refine zK_bi ?_ (fun _ _ => ?_)) | (with_reducible refine zK_bv ?_ (fun _ => ?_)) | with_reducible exact zK_some rfl | with_reducible exact W_R_comeBack | with_reducible exact W_R_print | with_reducible exact W_R_release | with_reducible exact W_R_setName | with_reducible exact W_R_takeTurn | with_reducible exact W_R_wait)
theorem W_R_goOnStatement_p142 {N : Nat} {M : zMem} {x0 x1 : Int32} : zK id okR M (F_R_goOnStatement_p142 N M x0 x1) := by
  unfold F_R_goOnStatement_p142
  repeat' (first | with_reducible apply zK_if | with_reducible apply zK_ix | with_reducible apply zK_bit | with_reducible apply zK_nz | (with_reducible refine zK_set (fun _ h => by simp only [okC, okC1, okR, okR1] at h; omega) (fun _ => ?_)) | (with_reducible refine zK_bi ?_ (fun _ _ => ?_)) | (with_reducible refine zK_bv ?_ (fun _ => ?_)) | with_reducible exact zK_some rfl | with_reducible exact W_R_comeBack | with_reducible exact W_R_print | with_reducible exact W_R_release | with_reducible exact W_R_setName | with_reducible exact W_R_takeTurn | with_reducible exact W_R_wait | with_reducible exact W_R_goOnStatement_p154)
theorem W_R_goOnStatement_p112 {N : Nat} {M : zMem} {x0 x1 : Int32} : zK id okR M (F_R_goOnStatement_p112 N M x0 x1) := by
  unfold F_R_goOnStatement_p112
  repeat' (first | with_reducible apply zK_if | with_reducible apply zK_ix | with_reducible apply zK_bit | with_reducible apply zK_nz | (with_reducible refine zK_set (fun _ h => by simp only [okC, okC1, okR, okR1] at h; omega) (fun _ => ?_)) | (with_reducible refine zK_bi ?_ (fun _ _ => ?_)) | (with_reducible refine zK_bv ?_ (fun _ => ?_)) | with_reducible exact zK_some rfl | with_reducible exact W_R_comeBack | with_reducible exact W_R_print | with_reducible exact W_R_release | with_reducible exact W_R_setName | with_reducible exact W_R_takeTurn | with_reducible exact W_R_wait | with_reducible exact W_R_goOnStatement_p154 | with_reducible exact W_R_goOnStatement_p142)
theorem W_R_goOnStatement_p96 {N : Nat} {M : zMem} {x0 x1 x2 : Int32} : zK id okR M (F_R_goOnStatement_p96 N M x0 x1 x2) := by
  unfold F_R_goOnStatement_p96
  repeat' (first | with_reducible apply zK_if | with_reducible apply zK_ix | with_reducible apply zK_bit | with_reducible apply zK_nz | (with_reducible refine zK_set (fun _ h => by simp only [okC, okC1, okR, okR1] at h; omega) (fun _ => ?_)) | (with_reducible refine zK_bi ?_ (fun _ _ => ?_)) | (with_reducible refine zK_bv ?_ (fun _ => ?_)) | with_reducible exact zK_some rfl | with_reducible exact W_R_comeBack | with_reducible exact W_R_print | with_reducible exact W_R_release | with_reducible exact W_R_setName | with_reducible exact W_R_takeTurn | with_reducible exact W_R_wait | with_reducible exact W_R_goOnStatement_p154 | with_reducible exact W_R_goOnStatement_p142 | with_reducible exact W_R_goOnStatement_p112)
theorem W_R_goOnStatement_p86 {N : Nat} {M : zMem} {x0 x1 x2 : Int32} : zK id okR M (F_R_goOnStatement_p86 N M x0 x1 x2) := by
  unfold F_R_goOnStatement_p86
  repeat' (first | with_reducible apply zK_if | with_reducible apply zK_ix | with_reducible apply zK_bit | with_reducible apply zK_nz | (with_reducible refine zK_set (fun _ h => by simp only [okC, okC1, okR, okR1] at h; omega) (fun _ => ?_)) | (with_reducible refine zK_bi ?_ (fun _ _ => ?_)) | (with_reducible refine zK_bv ?_ (fun _ => ?_)) | with_reducible exact zK_some rfl | with_reducible exact W_R_comeBack | with_reducible exact W_R_print | with_reducible exact W_R_release | with_reducible exact W_R_setName | with_reducible exact W_R_takeTurn | with_reducible exact W_R_wait | with_reducible exact W_R_goOnStatement_p154 | with_reducible exact W_R_goOnStatement_p142 | with_reducible exact W_R_goOnStatement_p112 | with_reducible exact W_R_goOnStatement_p96)
theorem W_R_goOnStatement_p23 {N : Nat} {M : zMem} {x0 x1 : Int32} : zK id okR M (F_R_goOnStatement_p23 N M x0 x1) := by
  unfold F_R_goOnStatement_p23
  repeat' (first | with_reducible apply zK_if | with_reducible apply zK_ix | with_reducible apply zK_bit | with_reducible apply zK_nz | (with_reducible refine zK_set (fun _ h => by simp only [okC, okC1, okR, okR1] at h; omega) (fun _ => ?_)) | (with_reducible refine zK_bi ?_ (fun _ _ => ?_)) | (with_reducible refine zK_bv ?_ (fun _ => ?_)) | with_reducible exact zK_some rfl | with_reducible exact W_R_comeBack | with_reducible exact W_R_print | with_reducible exact W_R_release | with_reducible exact W_R_setName | with_reducible exact W_R_takeTurn | with_reducible exact W_R_wait | with_reducible exact W_R_goOnStatement_p154 | with_reducible exact W_R_goOnStatement_p142 | with_reducible exact W_R_goOnStatement_p112 | with_reducible exact W_R_goOnStatement_p96 | with_reducible exact W_R_goOnStatement_p86)
theorem W_R_goOnStatement {N : Nat} {M : zMem} {x0 x1 : Int32} : zK id okR M (F_R_goOnStatement N M x0 x1) := by
  unfold F_R_goOnStatement
  repeat' (first | with_reducible apply zK_if | with_reducible apply zK_ix | with_reducible apply zK_bit | with_reducible apply zK_nz | (with_reducible refine zK_set (fun _ h => by simp only [okC, okC1, okR, okR1] at h; omega) (fun _ => ?_)) | (with_reducible refine zK_bi ?_ (fun _ _ => ?_)) | (with_reducible refine zK_bv ?_ (fun _ => ?_)) | with_reducible exact zK_some rfl | with_reducible exact W_R_comeBack | with_reducible exact W_R_print | with_reducible exact W_R_release | with_reducible exact W_R_setName | with_reducible exact W_R_takeTurn | with_reducible exact W_R_wait | with_reducible exact W_R_goOnStatement_p154 | with_reducible exact W_R_goOnStatement_p142 | with_reducible exact W_R_goOnStatement_p112 | with_reducible exact W_R_goOnStatement_p96 | with_reducible exact W_R_goOnStatement_p86 | with_reducible exact W_R_goOnStatement_p23)
theorem W_R_goOn {N : Nat} {M : zMem} : zK id okR M (F_R_goOn N M ) := by
  unfold F_R_goOn
  repeat' (first | with_reducible apply zK_if | with_reducible apply zK_ix | with_reducible apply zK_bit | with_reducible apply zK_nz | (with_reducible refine zK_set (fun _ h => by simp only [okC, okC1, okR, okR1] at h; omega) (fun _ => ?_)) | (with_reducible refine zK_bi ?_ (fun _ _ => ?_)) | (with_reducible refine zK_bv ?_ (fun _ => ?_)) | with_reducible exact zK_some rfl | with_reducible exact W_R_begin | with_reducible exact W_R_goOnExpression | with_reducible exact W_R_goOnStatement | with_reducible exact W_R_hold | with_reducible exact W_R_isIn | with_reducible exact W_R_wait)
theorem W_R_work_p86 {N : Nat} {M : zMem} {x0 : Int32} : zK Prod.snd okR M (F_R_work_p86 N M x0) := by
  unfold F_R_work_p86
  repeat' (first | with_reducible apply zK_if | with_reducible apply zK_ix | with_reducible apply zK_bit | with_reducible apply zK_nz | (with_reducible refine zK_set (fun _ h => by simp only [okC, okC1, okR, okR1] at h; omega) (fun _ => ?_)) | (with_reducible refine zK_bi ?_ (fun _ _ => ?_)) | (with_reducible refine zK_bv ?_ (fun _ => ?_)) | with_reducible exact zK_some rfl | with_reducible exact W_R_findFault | with_reducible exact W_R_goOn | with_reducible exact W_R_wait)
theorem W_R_work_p77 {N : Nat} {M : zMem} : zK Prod.snd okR M (F_R_work_p77 N M ) := by
  unfold F_R_work_p77
  repeat' (first | with_reducible apply zK_if | with_reducible apply zK_ix | with_reducible apply zK_bit | with_reducible apply zK_nz | (with_reducible refine zK_set (fun _ h => by simp only [okC, okC1, okR, okR1] at h; omega) (fun _ => ?_)) | (with_reducible refine zK_bi ?_ (fun _ _ => ?_)) | (with_reducible refine zK_bv ?_ (fun _ => ?_)) | with_reducible exact zK_some rfl | with_reducible exact W_R_findFault | with_reducible exact W_R_goOn | with_reducible exact W_R_wait | with_reducible exact W_R_work_p86)
theorem W_R_work_p67 {N : Nat} : ∀ (n : Nat) {M : zMem}, zK Prod.snd okR M (F_R_work_p67 N n M ) := by
  intro n
  induction n with
  | zero =>
    intro M
    unfold F_R_work_p67
    exact zK_none
  | succ n ih =>
    intro M
    unfold F_R_work_p67
    repeat' (first | with_reducible apply zK_if | with_reducible apply zK_ix | with_reducible apply zK_bit | with_reducible apply zK_nz | (with_reducible refine zK_set (fun _ h => by simp only [okC, okC1, okR, okR1] at h; omega) (fun _ => ?_)) | (with_reducible refine zK_bi ?_ (fun _ _ => ?_)) | (with_reducible refine zK_bv ?_ (fun _ => ?_)) | with_reducible exact zK_some rfl | with_reducible exact ih | with_reducible exact W_R_findFault | with_reducible exact W_R_goOn | with_reducible exact W_R_wait | with_reducible exact W_R_work_p86 | with_reducible exact W_R_work_p77)
theorem W_R_work_p8 {N : Nat} : ∀ (n : Nat) {M : zMem} {x0 : Int32}, zK Prod.snd okR M (F_R_work_p8 N n M x0) := by
  intro n
  induction n with
  | zero =>
    intro M x0
    unfold F_R_work_p8
    exact zK_none
  | succ n ih =>
    intro M x0
    unfold F_R_work_p8
    repeat' (first | with_reducible apply zK_if | with_reducible apply zK_ix | with_reducible apply zK_bit | with_reducible apply zK_nz | (with_reducible refine zK_set (fun _ h => by simp only [okC, okC1, okR, okR1] at h; omega) (fun _ => ?_)) | (with_reducible refine zK_bi ?_ (fun _ _ => ?_)) | (with_reducible refine zK_bv ?_ (fun _ => ?_)) | with_reducible exact zK_some rfl | with_reducible exact ih | with_reducible exact W_R_findFault | with_reducible exact W_R_goOn | with_reducible exact W_R_wait | with_reducible exact W_R_work_p86 | with_reducible exact W_R_work_p77 | with_reducible exact W_R_work_p67 _)
theorem W_R_work {N : Nat} {M : zMem} : zK Prod.snd okR M (F_R_work N M ) := by
  unfold F_R_work
  repeat' (first | with_reducible apply zK_if | with_reducible apply zK_ix | with_reducible apply zK_bit | with_reducible apply zK_nz | (with_reducible refine zK_set (fun _ h => by simp only [okC, okC1, okR, okR1] at h; omega) (fun _ => ?_)) | (with_reducible refine zK_bi ?_ (fun _ _ => ?_)) | (with_reducible refine zK_bv ?_ (fun _ => ?_)) | with_reducible exact zK_some rfl | with_reducible exact W_R_findFault | with_reducible exact W_R_goOn | with_reducible exact W_R_wait | with_reducible exact W_R_work_p86 | with_reducible exact W_R_work_p77 | with_reducible exact W_R_work_p67 _ | with_reducible exact W_R_work_p8 _)
theorem W_R_cellAfter {N : Nat} {M : zMem} {x0 : Int32} : zK Prod.snd okR M (F_R_cellAfter N M x0) := by
  unfold F_R_cellAfter
  repeat' (first | with_reducible apply zK_if | with_reducible apply zK_ix | with_reducible apply zK_bit | with_reducible apply zK_nz | (with_reducible refine zK_set (fun _ h => by simp only [okC, okC1, okR, okR1] at h; omega) (fun _ => ?_)) | (with_reducible refine zK_bi ?_ (fun _ _ => ?_)) | (with_reducible refine zK_bv ?_ (fun _ => ?_)) | with_reducible exact zK_some rfl | with_reducible exact W_R_work)
theorem W_R_clear {M : zMem} : zK id okR M (F_R_clear M ) := by
  unfold F_R_clear
  repeat' (first | with_reducible apply zK_if | with_reducible apply zK_ix | with_reducible apply zK_bit | with_reducible apply zK_nz | (with_reducible refine zK_set (fun _ h => by simp only [okC, okC1, okR, okR1] at h; omega) (fun _ => ?_)) | (with_reducible refine zK_bi ?_ (fun _ _ => ?_)) | (with_reducible refine zK_bv ?_ (fun _ => ?_)) | with_reducible exact zK_some rfl)
theorem W_R_deepest {N : Nat} {M : zMem} : zK Prod.snd okR M (F_R_deepest N M ) := by
  unfold F_R_deepest
  repeat' (first | with_reducible apply zK_if | with_reducible apply zK_ix | with_reducible apply zK_bit | with_reducible apply zK_nz | (with_reducible refine zK_set (fun _ h => by simp only [okC, okC1, okR, okR1] at h; omega) (fun _ => ?_)) | (with_reducible refine zK_bi ?_ (fun _ _ => ?_)) | (with_reducible refine zK_bv ?_ (fun _ => ?_)) | with_reducible exact zK_some rfl | with_reducible exact W_R_work)
theorem W_R_emit {M : zMem} {x0 : Int32} : zK id okR M (F_R_emit M x0) := by
  unfold F_R_emit
  repeat' (first | with_reducible apply zK_if | with_reducible apply zK_ix | with_reducible apply zK_bit | with_reducible apply zK_nz | (with_reducible refine zK_set (fun _ h => by simp only [okC, okC1, okR, okR1] at h; omega) (fun _ => ?_)) | (with_reducible refine zK_bi ?_ (fun _ _ => ?_)) | (with_reducible refine zK_bv ?_ (fun _ => ?_)) | with_reducible exact zK_some rfl)
theorem W_R_expression {M : zMem} {x0 x1 : Int32} : zK Prod.snd okR M (F_R_expression M x0 x1) := by
  unfold F_R_expression
  repeat' (first | with_reducible apply zK_if | with_reducible apply zK_ix | with_reducible apply zK_bit | with_reducible apply zK_nz | (with_reducible refine zK_set (fun _ h => by simp only [okC, okC1, okR, okR1] at h; omega) (fun _ => ?_)) | (with_reducible refine zK_bi ?_ (fun _ _ => ?_)) | (with_reducible refine zK_bv ?_ (fun _ => ?_)) | with_reducible exact zK_some rfl)
theorem W_R_fault {N : Nat} {M : zMem} : zK Prod.snd okR M (F_R_fault N M ) := by
  unfold F_R_fault
  repeat' (first | with_reducible apply zK_if | with_reducible apply zK_ix | with_reducible apply zK_bit | with_reducible apply zK_nz | (with_reducible refine zK_set (fun _ h => by simp only [okC, okC1, okR, okR1] at h; omega) (fun _ => ?_)) | (with_reducible refine zK_bi ?_ (fun _ _ => ?_)) | (with_reducible refine zK_bv ?_ (fun _ => ?_)) | with_reducible exact zK_some rfl | with_reducible exact W_R_findFault)
theorem W_R_isToken_p35 {M : zMem} {x0 : Int32} : zK Prod.snd okR M (F_R_isToken_p35 M x0) := by
  unfold F_R_isToken_p35
  repeat' (first | with_reducible apply zK_if | with_reducible apply zK_ix | with_reducible apply zK_bit | with_reducible apply zK_nz | (with_reducible refine zK_set (fun _ h => by simp only [okC, okC1, okR, okR1] at h; omega) (fun _ => ?_)) | (with_reducible refine zK_bi ?_ (fun _ _ => ?_)) | (with_reducible refine zK_bv ?_ (fun _ => ?_)) | with_reducible exact zK_some rfl)
theorem W_R_isToken_p29 {M : zMem} {x0 : Int32} : zK Prod.snd okR M (F_R_isToken_p29 M x0) := by
  unfold F_R_isToken_p29
  repeat' (first | with_reducible apply zK_if | with_reducible apply zK_ix | with_reducible apply zK_bit | with_reducible apply zK_nz | (with_reducible refine zK_set (fun _ h => by simp only [okC, okC1, okR, okR1] at h; omega) (fun _ => ?_)) | (with_reducible refine zK_bi ?_ (fun _ _ => ?_)) | (with_reducible refine zK_bv ?_ (fun _ => ?_)) | with_reducible exact zK_some rfl | with_reducible exact W_R_isToken_p35)
theorem W_R_isToken_p23 {M : zMem} {x0 : Int32} : zK Prod.snd okR M (F_R_isToken_p23 M x0) := by
  unfold F_R_isToken_p23
  repeat' (first | with_reducible apply zK_if | with_reducible apply zK_ix | with_reducible apply zK_bit | with_reducible apply zK_nz | (with_reducible refine zK_set (fun _ h => by simp only [okC, okC1, okR, okR1] at h; omega) (fun _ => ?_)) | (with_reducible refine zK_bi ?_ (fun _ _ => ?_)) | (with_reducible refine zK_bv ?_ (fun _ => ?_)) | with_reducible exact zK_some rfl | with_reducible exact W_R_isToken_p35 | with_reducible exact W_R_isToken_p29)
theorem W_R_isToken_p17 {M : zMem} {x0 : Int32} : zK Prod.snd okR M (F_R_isToken_p17 M x0) := by
  unfold F_R_isToken_p17
  repeat' (first | with_reducible apply zK_if | with_reducible apply zK_ix | with_reducible apply zK_bit | with_reducible apply zK_nz | (with_reducible refine zK_set (fun _ h => by simp only [okC, okC1, okR, okR1] at h; omega) (fun _ => ?_)) | (with_reducible refine zK_bi ?_ (fun _ _ => ?_)) | (with_reducible refine zK_bv ?_ (fun _ => ?_)) | with_reducible exact zK_some rfl | with_reducible exact W_R_isToken_p35 | with_reducible exact W_R_isToken_p29 | with_reducible exact W_R_isToken_p23)
theorem W_R_isToken_p11 {M : zMem} {x0 : Int32} : zK Prod.snd okR M (F_R_isToken_p11 M x0) := by
  unfold F_R_isToken_p11
  repeat' (first | with_reducible apply zK_if | with_reducible apply zK_ix | with_reducible apply zK_bit | with_reducible apply zK_nz | (with_reducible refine zK_set (fun _ h => by simp only [okC, okC1, okR, okR1] at h; omega) (fun _ => ?_)) | (with_reducible refine zK_bi ?_ (fun _ _ => ?_)) | (with_reducible refine zK_bv ?_ (fun _ => ?_)) | with_reducible exact zK_some rfl | with_reducible exact W_R_isToken_p35 | with_reducible exact W_R_isToken_p29 | with_reducible exact W_R_isToken_p23 | with_reducible exact W_R_isToken_p17)
theorem W_R_isToken_p5 {M : zMem} {x0 : Int32} : zK Prod.snd okR M (F_R_isToken_p5 M x0) := by
  unfold F_R_isToken_p5
  repeat' (first | with_reducible apply zK_if | with_reducible apply zK_ix | with_reducible apply zK_bit | with_reducible apply zK_nz | (with_reducible refine zK_set (fun _ h => by simp only [okC, okC1, okR, okR1] at h; omega) (fun _ => ?_)) | (with_reducible refine zK_bi ?_ (fun _ _ => ?_)) | (with_reducible refine zK_bv ?_ (fun _ => ?_)) | with_reducible exact zK_some rfl | with_reducible exact W_R_isToken_p35 | with_reducible exact W_R_isToken_p29 | with_reducible exact W_R_isToken_p23 | with_reducible exact W_R_isToken_p17 | with_reducible exact W_R_isToken_p11)
theorem W_R_isToken {M : zMem} {x0 : Int32} : zK Prod.snd okR M (F_R_isToken M x0) := by
  unfold F_R_isToken
  repeat' (first | with_reducible apply zK_if | with_reducible apply zK_ix | with_reducible apply zK_bit | with_reducible apply zK_nz | (with_reducible refine zK_set (fun _ h => by simp only [okC, okC1, okR, okR1] at h; omega) (fun _ => ?_)) | (with_reducible refine zK_bi ?_ (fun _ _ => ?_)) | (with_reducible refine zK_bv ?_ (fun _ => ?_)) | with_reducible exact zK_some rfl | with_reducible exact W_R_isToken_p35 | with_reducible exact W_R_isToken_p29 | with_reducible exact W_R_isToken_p23 | with_reducible exact W_R_isToken_p17 | with_reducible exact W_R_isToken_p11 | with_reducible exact W_R_isToken_p5)
theorem W_R_four_p87 {N : Nat} {rec53 : zMem → Int32 → Int32 → Int32 → Int32 → Int32 → Option (Int32 × zMem)} (hrec53 : ∀ M x0 x1 x2 x3 x4, zK Prod.snd okR1 M (rec53 M x0 x1 x2 x3 x4)) {M : zMem} {x0 x1 x2 x3 x4 : Int32} : zK Prod.snd okR1 M (F_R_four_p87 N rec53 M x0 x1 x2 x3 x4) := by
  unfold F_R_four_p87
  repeat' (first | with_reducible apply zK_if | with_reducible apply zK_ix | with_reducible apply zK_bit | with_reducible apply zK_nz | (with_reducible refine zK_set (fun _ h => by simp only [okC, okC1, okR, okR1] at h; omega) (fun _ => ?_)) | (with_reducible refine zK_bi ?_ (fun _ _ => ?_)) | (with_reducible refine zK_bv ?_ (fun _ => ?_)) | with_reducible exact zK_some rfl | with_reducible exact zK_mono W_R_isToken (fun _ h => okR_of h) | with_reducible exact hrec53 _ _ _ _ _ _)
theorem W_R_four_p71 {N : Nat} {rec53 : zMem → Int32 → Int32 → Int32 → Int32 → Int32 → Option (Int32 × zMem)} (hrec53 : ∀ M x0 x1 x2 x3 x4, zK Prod.snd okR1 M (rec53 M x0 x1 x2 x3 x4)) {M : zMem} {x0 x1 x2 x3 x4 x5 : Int32} : zK Prod.snd okR1 M (F_R_four_p71 N rec53 M x0 x1 x2 x3 x4 x5) := by
  unfold F_R_four_p71
  repeat' (first | with_reducible apply zK_if | with_reducible apply zK_ix | with_reducible apply zK_bit | with_reducible apply zK_nz | (with_reducible refine zK_set (fun _ h => by simp only [okC, okC1, okR, okR1] at h; omega) (fun _ => ?_)) | (with_reducible refine zK_bi ?_ (fun _ _ => ?_)) | (with_reducible refine zK_bv ?_ (fun _ => ?_)) | with_reducible exact zK_some rfl | with_reducible exact zK_mono W_R_isToken (fun _ h => okR_of h) | with_reducible exact W_R_four_p87 hrec53 | with_reducible exact hrec53 _ _ _ _ _ _)
theorem W_R_four_p53 {N : Nat} : ∀ (n : Nat) {M : zMem} {x0 x1 x2 x3 x4 : Int32}, zK Prod.snd okR1 M (F_R_four_p53 N n M x0 x1 x2 x3 x4) := by
  intro n
  induction n with
  | zero =>
    intro M x0 x1 x2 x3 x4
    unfold F_R_four_p53
    exact zK_none
  | succ n ih =>
    intro M x0 x1 x2 x3 x4
    unfold F_R_four_p53
    repeat' (first | with_reducible apply zK_if | with_reducible apply zK_ix | with_reducible apply zK_bit | with_reducible apply zK_nz | (with_reducible refine zK_set (fun _ h => by simp only [okC, okC1, okR, okR1] at h; omega) (fun _ => ?_)) | (with_reducible refine zK_bi ?_ (fun _ _ => ?_)) | (with_reducible refine zK_bv ?_ (fun _ => ?_)) | with_reducible exact zK_some rfl | with_reducible exact ih | with_reducible exact zK_mono W_R_isToken (fun _ h => okR_of h) | with_reducible exact W_R_four_p87 (fun _ _ _ _ _ _ => ih) | with_reducible exact W_R_four_p71 (fun _ _ _ _ _ _ => ih))
theorem W_R_four_p40 {N : Nat} {rec4 : zMem → Int32 → Int32 → Int32 → Int32 → Int32 → Int32 → Option (Int32 × zMem)} (hrec4 : ∀ M x0 x1 x2 x3 x4 x5, zK Prod.snd okR1 M (rec4 M x0 x1 x2 x3 x4 x5)) {M : zMem} {x0 x1 x2 x3 x4 x5 : Int32} : zK Prod.snd okR1 M (F_R_four_p40 N rec4 M x0 x1 x2 x3 x4 x5) := by
  unfold F_R_four_p40
  repeat' (first | with_reducible apply zK_if | with_reducible apply zK_ix | with_reducible apply zK_bit | with_reducible apply zK_nz | (with_reducible refine zK_set (fun _ h => by simp only [okC, okC1, okR, okR1] at h; omega) (fun _ => ?_)) | (with_reducible refine zK_bi ?_ (fun _ _ => ?_)) | (with_reducible refine zK_bv ?_ (fun _ => ?_)) | with_reducible exact zK_some rfl | with_reducible exact zK_mono W_R_isToken (fun _ h => okR_of h) | with_reducible exact W_R_four_p87 hrec53 | with_reducible exact W_R_four_p71 hrec53 | with_reducible exact W_R_four_p53 _ | with_reducible exact hrec4 _ _ _ _ _ _ _)
theorem W_R_four_p32 {N : Nat} {rec4 : zMem → Int32 → Int32 → Int32 → Int32 → Int32 → Int32 → Option (Int32 × zMem)} (hrec4 : ∀ M x0 x1 x2 x3 x4 x5, zK Prod.snd okR1 M (rec4 M x0 x1 x2 x3 x4 x5)) {M : zMem} {x0 x1 x2 x3 x4 x5 x6 : Int32} : zK Prod.snd okR1 M (F_R_four_p32 N rec4 M x0 x1 x2 x3 x4 x5 x6) := by
  unfold F_R_four_p32
  repeat' (first | with_reducible apply zK_if | with_reducible apply zK_ix | with_reducible apply zK_bit | with_reducible apply zK_nz | (with_reducible refine zK_set (fun _ h => by simp only [okC, okC1, okR, okR1] at h; omega) (fun _ => ?_)) | (with_reducible refine zK_bi ?_ (fun _ _ => ?_)) | (with_reducible refine zK_bv ?_ (fun _ => ?_)) | with_reducible exact zK_some rfl | with_reducible exact zK_mono W_R_isToken (fun _ h => okR_of h) | with_reducible exact W_R_four_p87 hrec53 | with_reducible exact W_R_four_p71 hrec53 | with_reducible exact W_R_four_p53 _ | with_reducible exact W_R_four_p40 hrec4 | with_reducible exact hrec4 _ _ _ _ _ _ _)
theorem W_R_four_p22 {N : Nat} {rec4 : zMem → Int32 → Int32 → Int32 → Int32 → Int32 → Int32 → Option (Int32 × zMem)} (hrec4 : ∀ M x0 x1 x2 x3 x4 x5, zK Prod.snd okR1 M (rec4 M x0 x1 x2 x3 x4 x5)) {M : zMem} {x0 x1 x2 x3 x4 x5 x6 : Int32} : zK Prod.snd okR1 M (F_R_four_p22 N rec4 M x0 x1 x2 x3 x4 x5 x6) := by
  unfold F_R_four_p22
  repeat' (first | with_reducible apply zK_if | with_reducible apply zK_ix | with_reducible apply zK_bit | with_reducible apply zK_nz | (with_reducible refine zK_set (fun _ h => by simp only [okC, okC1, okR, okR1] at h; omega) (fun _ => ?_)) | (with_reducible refine zK_bi ?_ (fun _ _ => ?_)) | (with_reducible refine zK_bv ?_ (fun _ => ?_)) | with_reducible exact zK_some rfl | with_reducible exact zK_mono W_R_isToken (fun _ h => okR_of h) | with_reducible exact W_R_four_p87 hrec53 | with_reducible exact W_R_four_p71 hrec53 | with_reducible exact W_R_four_p53 _ | with_reducible exact W_R_four_p40 hrec4 | with_reducible exact W_R_four_p32 hrec4 | with_reducible exact hrec4 _ _ _ _ _ _ _)
theorem W_R_four_p4 {N : Nat} : ∀ (n : Nat) {M : zMem} {x0 x1 x2 x3 x4 x5 : Int32}, zK Prod.snd okR1 M (F_R_four_p4 N n M x0 x1 x2 x3 x4 x5) := by
  intro n
  induction n with
  | zero =>
    intro M x0 x1 x2 x3 x4 x5
    unfold F_R_four_p4
    exact zK_none
  | succ n ih =>
    intro M x0 x1 x2 x3 x4 x5
    unfold F_R_four_p4
    repeat' (first | with_reducible apply zK_if | with_reducible apply zK_ix | with_reducible apply zK_bit | with_reducible apply zK_nz | (with_reducible refine zK_set (fun _ h => by simp only [okC, okC1, okR, okR1] at h; omega) (fun _ => ?_)) | (with_reducible refine zK_bi ?_ (fun _ _ => ?_)) | (with_reducible refine zK_bv ?_ (fun _ => ?_)) | with_reducible exact zK_some rfl | with_reducible exact ih | with_reducible exact zK_mono W_R_isToken (fun _ h => okR_of h) | with_reducible exact W_R_four_p87 hrec53 | with_reducible exact W_R_four_p71 hrec53 | with_reducible exact W_R_four_p53 _ | with_reducible exact W_R_four_p40 (fun _ _ _ _ _ _ _ => ih) | with_reducible exact W_R_four_p32 (fun _ _ _ _ _ _ _ => ih) | with_reducible exact W_R_four_p22 (fun _ _ _ _ _ _ _ => ih))
theorem W_R_four {N : Nat} {M : zMem} {x0 x1 x2 x3 : Int32} : zK Prod.snd okR1 M (F_R_four N M x0 x1 x2 x3) := by
  unfold F_R_four
  repeat' (first | with_reducible apply zK_if | with_reducible apply zK_ix | with_reducible apply zK_bit | with_reducible apply zK_nz | (with_reducible refine zK_set (fun _ h => by simp only [okC, okC1, okR, okR1] at h; omega) (fun _ => ?_)) | (with_reducible refine zK_bi ?_ (fun _ _ => ?_)) | (with_reducible refine zK_bv ?_ (fun _ => ?_)) | with_reducible exact zK_some rfl | with_reducible exact zK_mono W_R_isToken (fun _ h => okR_of h) | with_reducible exact W_R_four_p87 hrec53 | with_reducible exact W_R_four_p71 hrec53 | with_reducible exact W_R_four_p53 _ | with_reducible exact W_R_four_p40 hrec4 | with_reducible exact W_R_four_p32 hrec4 | with_reducible exact W_R_four_p22 hrec4 | with_reducible exact W_R_four_p4 _)
theorem W_R_global {N : Nat} {M : zMem} {x0 : Int32} : zK Prod.snd okR M (F_R_global N M x0) := by
  unfold F_R_global
  repeat' (first | with_reducible apply zK_if | with_reducible apply zK_ix | with_reducible apply zK_bit | with_reducible apply zK_nz | (with_reducible refine zK_set (fun _ h => by simp only [okC, okC1, okR, okR1] at h; omega) (fun _ => ?_)) | (with_reducible refine zK_bi ?_ (fun _ _ => ?_)) | (with_reducible refine zK_bv ?_ (fun _ => ?_)) | with_reducible exact zK_some rfl | with_reducible exact W_R_work)
theorem W_R_levelOf {M : zMem} {x0 : Int32} : zK Prod.snd okR M (F_R_levelOf M x0) := by
  unfold F_R_levelOf
  repeat' (first | with_reducible apply zK_if | with_reducible apply zK_ix | with_reducible apply zK_bit | with_reducible apply zK_nz | (with_reducible refine zK_set (fun _ h => by simp only [okC, okC1, okR, okR1] at h; omega) (fun _ => ?_)) | (with_reducible refine zK_bi ?_ (fun _ _ => ?_)) | (with_reducible refine zK_bv ?_ (fun _ => ?_)) | with_reducible exact zK_some rfl | with_reducible exact W_R_isIn)
theorem W_R_output {N : Nat} {M : zMem} {x0 : Int32} : zK Prod.snd okR M (F_R_output N M x0) := by
  unfold F_R_output
  repeat' (first | with_reducible apply zK_if | with_reducible apply zK_ix | with_reducible apply zK_bit | with_reducible apply zK_nz | (with_reducible refine zK_set (fun _ h => by simp only [okC, okC1, okR, okR1] at h; omega) (fun _ => ?_)) | (with_reducible refine zK_bi ?_ (fun _ _ => ?_)) | (with_reducible refine zK_bv ?_ (fun _ => ?_)) | with_reducible exact zK_some rfl | with_reducible exact W_R_work)
theorem W_R_outs {N : Nat} {M : zMem} : zK Prod.snd okR M (F_R_outs N M ) := by
  unfold F_R_outs
  repeat' (first | with_reducible apply zK_if | with_reducible apply zK_ix | with_reducible apply zK_bit | with_reducible apply zK_nz | (with_reducible refine zK_set (fun _ h => by simp only [okC, okC1, okR, okR1] at h; omega) (fun _ => ?_)) | (with_reducible refine zK_bi ?_ (fun _ _ => ?_)) | (with_reducible refine zK_bv ?_ (fun _ => ?_)) | with_reducible exact zK_some rfl | with_reducible exact W_R_work)
theorem W_R_writeExpression_p127 {M : zMem} {x0 x1 x2 x3 x4 : Int32} : zK id okR M (F_R_writeExpression_p127 M x0 x1 x2 x3 x4) := by
  unfold F_R_writeExpression_p127
  repeat' (first | with_reducible apply zK_if | with_reducible apply zK_ix | with_reducible apply zK_bit | with_reducible apply zK_nz | (with_reducible refine zK_set (fun _ h => by simp only [okC, okC1, okR, okR1] at h; omega) (fun _ => ?_)) | (with_reducible refine zK_bi ?_ (fun _ _ => ?_)) | (with_reducible refine zK_bv ?_ (fun _ => ?_)) | with_reducible exact zK_some rfl | with_reducible exact W_R_emit | with_reducible exact W_R_expression | with_reducible exact W_R_levelOf | with_reducible exact W_R_tasksOf)
theorem W_R_writeExpression_p112 {M : zMem} {x0 x1 x2 : Int32} : zK id okR M (F_R_writeExpression_p112 M x0 x1 x2) := by
  unfold F_R_writeExpression_p112
  repeat' (first | with_reducible apply zK_if | with_reducible apply zK_ix | with_reducible apply zK_bit | with_reducible apply zK_nz | (with_reducible refine zK_set (fun _ h => by simp only [okC, okC1, okR, okR1] at h; omega) (fun _ => ?_)) | (with_reducible refine zK_bi ?_ (fun _ _ => ?_)) | (with_reducible refine zK_bv ?_ (fun _ => ?_)) | with_reducible exact zK_some rfl | with_reducible exact W_R_emit | with_reducible exact W_R_expression | with_reducible exact W_R_levelOf | with_reducible exact W_R_tasksOf | with_reducible exact W_R_writeExpression_p127)
theorem W_R_writeExpression_p101 {M : zMem} {x0 x1 x2 : Int32} : zK id okR M (F_R_writeExpression_p101 M x0 x1 x2) := by
  unfold F_R_writeExpression_p101
  repeat' (first | with_reducible apply zK_if | with_reducible apply zK_ix | with_reducible apply zK_bit | with_reducible apply zK_nz | (with_reducible refine zK_set (fun _ h => by simp only [okC, okC1, okR, okR1] at h; omega) (fun _ => ?_)) | (with_reducible refine zK_bi ?_ (fun _ _ => ?_)) | (with_reducible refine zK_bv ?_ (fun _ => ?_)) | with_reducible exact zK_some rfl | with_reducible exact W_R_emit | with_reducible exact W_R_expression | with_reducible exact W_R_levelOf | with_reducible exact W_R_tasksOf | with_reducible exact W_R_writeExpression_p127 | with_reducible exact W_R_writeExpression_p112)
theorem W_R_writeExpression_p89 {M : zMem} {x0 x1 x2 x3 : Int32} : zK id okR M (F_R_writeExpression_p89 M x0 x1 x2 x3) := by
  unfold F_R_writeExpression_p89
  repeat' (first | with_reducible apply zK_if | with_reducible apply zK_ix | with_reducible apply zK_bit | with_reducible apply zK_nz | (with_reducible refine zK_set (fun _ h => by simp only [okC, okC1, okR, okR1] at h; omega) (fun _ => ?_)) | (with_reducible refine zK_bi ?_ (fun _ _ => ?_)) | (with_reducible refine zK_bv ?_ (fun _ => ?_)) | with_reducible exact zK_some rfl | with_reducible exact W_R_emit | with_reducible exact W_R_expression | with_reducible exact W_R_levelOf | with_reducible exact W_R_tasksOf | with_reducible exact W_R_writeExpression_p127 | with_reducible exact W_R_writeExpression_p112 | with_reducible exact W_R_writeExpression_p101)
theorem W_R_writeExpression_p81 {M : zMem} {x0 x1 x2 x3 : Int32} : zK id okR M (F_R_writeExpression_p81 M x0 x1 x2 x3) := by
  unfold F_R_writeExpression_p81
  repeat' (first | with_reducible apply zK_if | with_reducible apply zK_ix | with_reducible apply zK_bit | with_reducible apply zK_nz | (with_reducible refine zK_set (fun _ h => by simp only [okC, okC1, okR, okR1] at h; omega) (fun _ => ?_)) | (with_reducible refine zK_bi ?_ (fun _ _ => ?_)) | (with_reducible refine zK_bv ?_ (fun _ => ?_)) | with_reducible exact zK_some rfl | with_reducible exact W_R_emit | with_reducible exact W_R_expression | with_reducible exact W_R_levelOf | with_reducible exact W_R_tasksOf | with_reducible exact W_R_writeExpression_p127 | with_reducible exact W_R_writeExpression_p112 | with_reducible exact W_R_writeExpression_p101 | with_reducible exact W_R_writeExpression_p89)
theorem W_R_writeExpression_p39 {M : zMem} {x0 : Int32} : zK id okR M (F_R_writeExpression_p39 M x0) := by
  unfold F_R_writeExpression_p39
  repeat' (first | with_reducible apply zK_if | with_reducible apply zK_ix | with_reducible apply zK_bit | with_reducible apply zK_nz | (with_reducible refine zK_set (fun _ h => by simp only [okC, okC1, okR, okR1] at h; omega) (fun _ => ?_)) | (with_reducible refine zK_bi ?_ (fun _ _ => ?_)) | (with_reducible refine zK_bv ?_ (fun _ => ?_)) | with_reducible exact zK_some rfl | with_reducible exact W_R_emit | with_reducible exact W_R_expression | with_reducible exact W_R_levelOf | with_reducible exact W_R_tasksOf | with_reducible exact W_R_writeExpression_p127 | with_reducible exact W_R_writeExpression_p112 | with_reducible exact W_R_writeExpression_p101 | with_reducible exact W_R_writeExpression_p89 | with_reducible exact W_R_writeExpression_p81)
theorem W_R_writeExpression {M : zMem} {x0 x1 : Int32} : zK id okR M (F_R_writeExpression M x0 x1) := by
  unfold F_R_writeExpression
  repeat' (first | with_reducible apply zK_if | with_reducible apply zK_ix | with_reducible apply zK_bit | with_reducible apply zK_nz | (with_reducible refine zK_set (fun _ h => by simp only [okC, okC1, okR, okR1] at h; omega) (fun _ => ?_)) | (with_reducible refine zK_bi ?_ (fun _ _ => ?_)) | (with_reducible refine zK_bv ?_ (fun _ => ?_)) | with_reducible exact zK_some rfl | with_reducible exact W_R_emit | with_reducible exact W_R_expression | with_reducible exact W_R_levelOf | with_reducible exact W_R_tasksOf | with_reducible exact W_R_writeExpression_p127 | with_reducible exact W_R_writeExpression_p112 | with_reducible exact W_R_writeExpression_p101 | with_reducible exact W_R_writeExpression_p89 | with_reducible exact W_R_writeExpression_p81 | with_reducible exact W_R_writeExpression_p39)
theorem W_R_writeRest_p22 {M : zMem} {x0 : Int32} : zK id okR M (F_R_writeRest_p22 M x0) := by
  unfold F_R_writeRest_p22
  repeat' (first | with_reducible apply zK_if | with_reducible apply zK_ix | with_reducible apply zK_bit | with_reducible apply zK_nz | (with_reducible refine zK_set (fun _ h => by simp only [okC, okC1, okR, okR1] at h; omega) (fun _ => ?_)) | (with_reducible refine zK_bi ?_ (fun _ _ => ?_)) | (with_reducible refine zK_bv ?_ (fun _ => ?_)) | with_reducible exact zK_some rfl | with_reducible exact W_R_expression | with_reducible exact W_R_tasksOf)
theorem W_R_writeRest {M : zMem} {x0 : Int32} : zK id okR M (F_R_writeRest M x0) := by
  unfold F_R_writeRest
  repeat' (first | with_reducible apply zK_if | with_reducible apply zK_ix | with_reducible apply zK_bit | with_reducible apply zK_nz | (with_reducible refine zK_set (fun _ h => by simp only [okC, okC1, okR, okR1] at h; omega) (fun _ => ?_)) | (with_reducible refine zK_bi ?_ (fun _ _ => ?_)) | (with_reducible refine zK_bv ?_ (fun _ => ?_)) | with_reducible exact zK_some rfl | with_reducible exact W_R_expression | with_reducible exact W_R_tasksOf | with_reducible exact W_R_writeRest_p22)
theorem W_R_writeStatement_p96 {M : zMem} {x0 x1 : Int32} : zK id okR M (F_R_writeStatement_p96 M x0 x1) := by
  unfold F_R_writeStatement_p96
  repeat' (first | with_reducible apply zK_if | with_reducible apply zK_ix | with_reducible apply zK_bit | with_reducible apply zK_nz | (with_reducible refine zK_set (fun _ h => by simp only [okC, okC1, okR, okR1] at h; omega) (fun _ => ?_)) | (with_reducible refine zK_bi ?_ (fun _ _ => ?_)) | (with_reducible refine zK_bv ?_ (fun _ => ?_)) | with_reducible exact zK_some rfl | with_reducible exact W_R_expression | with_reducible exact W_R_task | with_reducible exact W_R_tasksOf)
theorem W_R_writeStatement_p89 {M : zMem} {x0 x1 : Int32} : zK id okR M (F_R_writeStatement_p89 M x0 x1) := by
  unfold F_R_writeStatement_p89
  repeat' (first | with_reducible apply zK_if | with_reducible apply zK_ix | with_reducible apply zK_bit | with_reducible apply zK_nz | (with_reducible refine zK_set (fun _ h => by simp only [okC, okC1, okR, okR1] at h; omega) (fun _ => ?_)) | (with_reducible refine zK_bi ?_ (fun _ _ => ?_)) | (with_reducible refine zK_bv ?_ (fun _ => ?_)) | with_reducible exact zK_some rfl | with_reducible exact W_R_expression | with_reducible exact W_R_task | with_reducible exact W_R_tasksOf | with_reducible exact W_R_writeStatement_p96)
theorem W_R_writeStatement_p21 {M : zMem} {x0 x1 : Int32} : zK id okR M (F_R_writeStatement_p21 M x0 x1) := by
  unfold F_R_writeStatement_p21
  repeat' (first | with_reducible apply zK_if | with_reducible apply zK_ix | with_reducible apply zK_bit | with_reducible apply zK_nz | (with_reducible refine zK_set (fun _ h => by simp only [okC, okC1, okR, okR1] at h; omega) (fun _ => ?_)) | (with_reducible refine zK_bi ?_ (fun _ _ => ?_)) | (with_reducible refine zK_bv ?_ (fun _ => ?_)) | with_reducible exact zK_some rfl | with_reducible exact W_R_expression | with_reducible exact W_R_task | with_reducible exact W_R_tasksOf | with_reducible exact W_R_writeStatement_p96 | with_reducible exact W_R_writeStatement_p89)
theorem W_R_writeStatement {M : zMem} {x0 : Int32} : zK id okR M (F_R_writeStatement M x0) := by
  unfold F_R_writeStatement
  repeat' (first | with_reducible apply zK_if | with_reducible apply zK_ix | with_reducible apply zK_bit | with_reducible apply zK_nz | (with_reducible refine zK_set (fun _ h => by simp only [okC, okC1, okR, okR1] at h; omega) (fun _ => ?_)) | (with_reducible refine zK_bi ?_ (fun _ _ => ?_)) | (with_reducible refine zK_bv ?_ (fun _ => ?_)) | with_reducible exact zK_some rfl | with_reducible exact W_R_expression | with_reducible exact W_R_task | with_reducible exact W_R_tasksOf | with_reducible exact W_R_writeStatement_p96 | with_reducible exact W_R_writeStatement_p89 | with_reducible exact W_R_writeStatement_p21)
theorem W_R_write_p81 {N : Nat} {rec8 : zMem → Option (zMem)} (hrec8 : ∀ M, zK id okR M (rec8 M )) {M : zMem} {x0 : Int32} : zK id okR M (F_R_write_p81 N rec8 M x0) := by
  unfold F_R_write_p81
  repeat' (first | with_reducible apply zK_if | with_reducible apply zK_ix | with_reducible apply zK_bit | with_reducible apply zK_nz | (with_reducible refine zK_set (fun _ h => by simp only [okC, okC1, okR, okR1] at h; omega) (fun _ => ?_)) | (with_reducible refine zK_bi ?_ (fun _ _ => ?_)) | (with_reducible refine zK_bv ?_ (fun _ => ?_)) | with_reducible exact zK_some rfl | with_reducible exact W_R_emit | with_reducible exact W_R_expression | with_reducible exact W_R_task | with_reducible exact W_R_tasksOf | with_reducible exact W_R_writeExpression | with_reducible exact W_R_writeRest | with_reducible exact W_R_writeStatement | with_reducible exact hrec8 _)
theorem W_R_write_p8 {N : Nat} : ∀ (n : Nat) {M : zMem}, zK id okR M (F_R_write_p8 N n M ) := by
  intro n
  induction n with
  | zero =>
    intro M
    unfold F_R_write_p8
    exact zK_none
  | succ n ih =>
    intro M
    unfold F_R_write_p8
    repeat' (first | with_reducible apply zK_if | with_reducible apply zK_ix | with_reducible apply zK_bit | with_reducible apply zK_nz | (with_reducible refine zK_set (fun _ h => by simp only [okC, okC1, okR, okR1] at h; omega) (fun _ => ?_)) | (with_reducible refine zK_bi ?_ (fun _ _ => ?_)) | (with_reducible refine zK_bv ?_ (fun _ => ?_)) | with_reducible exact zK_some rfl | with_reducible exact ih | with_reducible exact W_R_emit | with_reducible exact W_R_expression | with_reducible exact W_R_task | with_reducible exact W_R_tasksOf | with_reducible exact W_R_writeExpression | with_reducible exact W_R_writeRest | with_reducible exact W_R_writeStatement | with_reducible exact W_R_write_p81 (fun _ => ih))
theorem W_R_write {N : Nat} {M : zMem} {x0 : Int32} : zK id okR M (F_R_write N M x0) := by
  unfold F_R_write
  repeat' (first | with_reducible apply zK_if | with_reducible apply zK_ix | with_reducible apply zK_bit | with_reducible apply zK_nz | (with_reducible refine zK_set (fun _ h => by simp only [okC, okC1, okR, okR1] at h; omega) (fun _ => ?_)) | (with_reducible refine zK_bi ?_ (fun _ _ => ?_)) | (with_reducible refine zK_bv ?_ (fun _ => ?_)) | with_reducible exact zK_some rfl | with_reducible exact W_R_emit | with_reducible exact W_R_expression | with_reducible exact W_R_task | with_reducible exact W_R_tasksOf | with_reducible exact W_R_writeExpression | with_reducible exact W_R_writeRest | with_reducible exact W_R_writeStatement | with_reducible exact W_R_write_p81 hrec8 | with_reducible exact W_R_write_p8 _)
theorem W_R_writePlain_p20 {N : Nat} {rec11 : zMem → Int32 → Option (Int32 × zMem)} (hrec11 : ∀ M x0, zK Prod.snd okR M (rec11 M x0)) : ∀ (n : Nat) {M : zMem} {x0 x1 : Int32}, zK Prod.snd okR M (F_R_writePlain_p20 N rec11 n M x0 x1) := by
  intro n
  induction n with
  | zero =>
    intro M x0 x1
    unfold F_R_writePlain_p20
    exact zK_none
  | succ n ih =>
    intro M x0 x1
    unfold F_R_writePlain_p20
    repeat' (first | with_reducible apply zK_if | with_reducible apply zK_ix | with_reducible apply zK_bit | with_reducible apply zK_nz | (with_reducible refine zK_set (fun _ h => by simp only [okC, okC1, okR, okR1] at h; omega) (fun _ => ?_)) | (with_reducible refine zK_bi ?_ (fun _ _ => ?_)) | (with_reducible refine zK_bv ?_ (fun _ => ?_)) | with_reducible exact zK_some rfl | with_reducible exact ih | with_reducible exact W_R_emit | with_reducible exact W_R_readText | with_reducible exact W_R_write | with_reducible exact hrec11 _ _)
theorem W_R_writePlain_p11 {N : Nat} : ∀ (n : Nat) {M : zMem} {x0 : Int32}, zK Prod.snd okR M (F_R_writePlain_p11 N n M x0) := by
  intro n
  induction n with
  | zero =>
    intro M x0
    unfold F_R_writePlain_p11
    exact zK_none
  | succ n ih =>
    intro M x0
    unfold F_R_writePlain_p11
    repeat' (first | with_reducible apply zK_if | with_reducible apply zK_ix | with_reducible apply zK_bit | with_reducible apply zK_nz | (with_reducible refine zK_set (fun _ h => by simp only [okC, okC1, okR, okR1] at h; omega) (fun _ => ?_)) | (with_reducible refine zK_bi ?_ (fun _ _ => ?_)) | (with_reducible refine zK_bv ?_ (fun _ => ?_)) | with_reducible exact zK_some rfl | with_reducible exact ih | with_reducible exact W_R_emit | with_reducible exact W_R_readText | with_reducible exact W_R_write | with_reducible exact W_R_writePlain_p20 (fun _ _ => ih) _)
theorem W_R_writePlain {N : Nat} {M : zMem} : zK Prod.snd okR M (F_R_writePlain N M ) := by
  unfold F_R_writePlain
  repeat' (first | with_reducible apply zK_if | with_reducible apply zK_ix | with_reducible apply zK_bit | with_reducible apply zK_nz | (with_reducible refine zK_set (fun _ h => by simp only [okC, okC1, okR, okR1] at h; omega) (fun _ => ?_)) | (with_reducible refine zK_bi ?_ (fun _ _ => ?_)) | (with_reducible refine zK_bv ?_ (fun _ => ?_)) | with_reducible exact zK_some rfl | with_reducible exact W_R_emit | with_reducible exact W_R_readText | with_reducible exact W_R_write | with_reducible exact W_R_writePlain_p20 hrec11 _ | with_reducible exact W_R_writePlain_p11 _)
theorem W_R_plain {N : Nat} {M : zMem} {x0 : Int32} : zK Prod.snd okR M (F_R_plain N M x0) := by
  unfold F_R_plain
  repeat' (first | with_reducible apply zK_if | with_reducible apply zK_ix | with_reducible apply zK_bit | with_reducible apply zK_nz | (with_reducible refine zK_set (fun _ h => by simp only [okC, okC1, okR, okR1] at h; omega) (fun _ => ?_)) | (with_reducible refine zK_bi ?_ (fun _ _ => ?_)) | (with_reducible refine zK_bv ?_ (fun _ => ?_)) | with_reducible exact zK_some rfl | with_reducible exact W_R_writePlain)
theorem W_R_plainSize {N : Nat} {M : zMem} : zK Prod.snd okR M (F_R_plainSize N M ) := by
  unfold F_R_plainSize
  repeat' (first | with_reducible apply zK_if | with_reducible apply zK_ix | with_reducible apply zK_bit | with_reducible apply zK_nz | (with_reducible refine zK_set (fun _ h => by simp only [okC, okC1, okR, okR1] at h; omega) (fun _ => ?_)) | (with_reducible refine zK_bi ?_ (fun _ _ => ?_)) | (with_reducible refine zK_bv ?_ (fun _ => ?_)) | with_reducible exact zK_some rfl | with_reducible exact W_R_writePlain)
theorem W_R_prepare {M : zMem} {x0 x1 : Int32} : zK Prod.snd okR M (F_R_prepare M x0 x1) := by
  unfold F_R_prepare
  repeat' (first | with_reducible apply zK_if | with_reducible apply zK_ix | with_reducible apply zK_bit | with_reducible apply zK_nz | (with_reducible refine zK_set (fun _ h => by simp only [okC, okC1, okR, okR1] at h; omega) (fun _ => ?_)) | (with_reducible refine zK_bi ?_ (fun _ _ => ?_)) | (with_reducible refine zK_bv ?_ (fun _ => ?_)) | with_reducible exact zK_some rfl)
theorem W_R_run {N : Nat} {M : zMem} : zK Prod.snd okR M (F_R_run N M ) := by
  unfold F_R_run
  repeat' (first | with_reducible apply zK_if | with_reducible apply zK_ix | with_reducible apply zK_bit | with_reducible apply zK_nz | (with_reducible refine zK_set (fun _ h => by simp only [okC, okC1, okR, okR1] at h; omega) (fun _ => ?_)) | (with_reducible refine zK_bi ?_ (fun _ _ => ?_)) | (with_reducible refine zK_bv ?_ (fun _ => ?_)) | with_reducible exact zK_some rfl | with_reducible exact W_R_work)
theorem W_R_set {M : zMem} {x0 x1 : Int32} : zK Prod.snd okR1 M (F_R_set M x0 x1) := by
  unfold F_R_set
  repeat' (first | with_reducible apply zK_if | with_reducible apply zK_ix | with_reducible apply zK_bit | with_reducible apply zK_nz | (with_reducible refine zK_set (fun _ h => by simp only [okC, okC1, okR, okR1] at h; omega) (fun _ => ?_)) | (with_reducible refine zK_bi ?_ (fun _ _ => ?_)) | (with_reducible refine zK_bv ?_ (fun _ => ?_)) | with_reducible exact zK_some rfl)
theorem W_R_token {M : zMem} {x0 : Int32} : zK Prod.snd okR1 M (F_R_token M x0) := by
  unfold F_R_token
  repeat' (first | with_reducible apply zK_if | with_reducible apply zK_ix | with_reducible apply zK_bit | with_reducible apply zK_nz | (with_reducible refine zK_set (fun _ h => by simp only [okC, okC1, okR, okR1] at h; omega) (fun _ => ?_)) | (with_reducible refine zK_bi ?_ (fun _ _ => ?_)) | (with_reducible refine zK_bv ?_ (fun _ => ?_)) | with_reducible exact zK_some rfl | with_reducible exact zK_mono W_R_isToken (fun _ h => okR_of h))
theorem W_R_tokens {M : zMem} : zK Prod.snd okR M (F_R_tokens M ) := by
  unfold F_R_tokens
  repeat' (first | with_reducible apply zK_if | with_reducible apply zK_ix | with_reducible apply zK_bit | with_reducible apply zK_nz | (with_reducible refine zK_set (fun _ h => by simp only [okC, okC1, okR, okR1] at h; omega) (fun _ => ?_)) | (with_reducible refine zK_bi ?_ (fun _ _ => ?_)) | (with_reducible refine zK_bv ?_ (fun _ => ?_)) | with_reducible exact zK_some rfl)
theorem W_R_turns {N : Nat} {M : zMem} : zK Prod.snd okR M (F_R_turns N M ) := by
  unfold F_R_turns
  repeat' (first | with_reducible apply zK_if | with_reducible apply zK_ix | with_reducible apply zK_bit | with_reducible apply zK_nz | (with_reducible refine zK_set (fun _ h => by simp only [okC, okC1, okR, okR1] at h; omega) (fun _ => ?_)) | (with_reducible refine zK_bi ?_ (fun _ _ => ?_)) | (with_reducible refine zK_bv ?_ (fun _ => ?_)) | with_reducible exact zK_some rfl | with_reducible exact W_R_work)
theorem W_R_untoken {M : zMem} : zK Prod.snd okR M (F_R_untoken M ) := by
  unfold F_R_untoken
  repeat' (first | with_reducible apply zK_if | with_reducible apply zK_ix | with_reducible apply zK_bit | with_reducible apply zK_nz | (with_reducible refine zK_set (fun _ h => by simp only [okC, okC1, okR, okR1] at h; omega) (fun _ => ?_)) | (with_reducible refine zK_bi ?_ (fun _ _ => ?_)) | (with_reducible refine zK_bv ?_ (fun _ => ?_)) | with_reducible exact zK_some rfl)
theorem W_R_wrongAt {N : Nat} {M : zMem} : zK Prod.snd okR M (F_R_wrongAt N M ) := by
  unfold F_R_wrongAt
  repeat' (first | with_reducible apply zK_if | with_reducible apply zK_ix | with_reducible apply zK_bit | with_reducible apply zK_nz | (with_reducible refine zK_set (fun _ h => by simp only [okC, okC1, okR, okR1] at h; omega) (fun _ => ?_)) | (with_reducible refine zK_bi ?_ (fun _ _ => ?_)) | (with_reducible refine zK_bv ?_ (fun _ => ?_)) | with_reducible exact zK_some rfl | with_reducible exact W_R_readText)
