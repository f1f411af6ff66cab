/-! PURE SIDE: plain facts of memories and numbers -/
theorem zup_ap (M : zMem) (a i : Nat) (v : Int32) (b j : Nat) : zup M a i v b j = if b = a then (if j = i then v else M b j) else M b j := by
  unfold zup
  by_cases h : b = a
  · simp [h, upd]
  · simp [h]
theorem zset_eq {α : Type} (M : zMem) (a i : Nat) (v : Int32) (k : zMem → Option α) : zset M a i v k = k (zup M a i v) := rfl
theorem zbi_some {α : Type} (x : Int32) (M : zMem) (k : Int32 → zMem → Option α) : zbi (some (x, M)) k = k x M := rfl
theorem zbv_some {α : Type} (M : zMem) (k : zMem → Option α) : zbv (some M) k = k M := rfl
theorem zix_in {α : Type} {i : Int32} {j n : Nat} (k : Option α) (e : i = nI j) (h : j < n) (hn : n < 2 ^ 31) : zix i n k = k := by
  unfold zix
  rw [if_pos]
  subst e
  exact ⟨nI_pos' (by omega), by rw [nI_clamp (by omega)]; exact h⟩
theorem zix_nI {α : Type} {j n : Nat} (k : Option α) (h : j < n) (hn : n < 2 ^ 31) : zix (nI j) n k = k := zix_in k rfl h hn
theorem zbit_0 {α : Type} (k : Option α) : zbit 0 k = k := rfl
theorem zbit_1 {α : Type} (k : Option α) : zbit 1 k = k := rfl
theorem znz_ne {α : Type} {x : Int32} (k : Option α) (h : ¬ x = 0) : znz x k = k := by unfold znz; rw [if_neg h]
theorem nI_inj {a b : Nat} (ha : a < 2 ^ 31) (hb : b < 2 ^ 31) (h : nI a = nI b) : a = b := (nI_eq ha hb).mp h
theorem nI_s1 {n : Nat} (h : 0 < n) : nI n - 1 = nI (n - 1) := by
  obtain ⟨k, rfl⟩ : ∃ k, n = k + 1 := ⟨n - 1, by omega⟩
  rw [nI_pred]
  rfl
theorem nI_lit (n : Nat) : (OfNat.ofNat n : Int32) = nI n := rfl
/-- a tree: .num, .var, .add, .mulL, .mulR as a plain binary tree with numbers -/
abbrev T : Type := Nat.Internal.Linear.Expr
def tsz : T → Nat
  | .num _ => 1
  | .var _ => 1
  | .add a b => tsz a + tsz b + 1
  | .mulL _ a => tsz a + 1
  | .mulR a _ => tsz a + 1
