/-! a call's names: the class takes the arguments from the last on; the names differ -/
theorem vPar_snoc (J : zJ) (p : Nat) (v : Int32) : ∀ (l : List Int32) (i : Nat) (g : Nat → Int32), vPar J p i (l ++ [v]) g = fun j => if j = J 2 (8 * p + (i + l.length)) then v else vPar J p i l g j
  | [], i, g => rfl
  | w :: r, i, g => by
    show vPar J p (i + 1) (r ++ [v]) _ = _
    rw [vPar_snoc J p v r (i + 1)]
    funext j
    rw [show i + 1 + r.length = i + (w :: r).length by simp <;> omega]
    rfl
theorem vPar_up (J : zJ) (p : Nat) (v : Int32) (x : Nat) : ∀ (l : List Int32) (i : Nat) (g : Nat → Int32), (∀ k, k < l.length → J 2 (8 * p + (i + k)) ≠ x) → vPar J p i l (fun j => if j = x then v else g j) = fun j => if j = x then v else vPar J p i l g j
  | [], i, g, _ => rfl
  | w :: r, i, g, h => by
    show vPar J p (i + 1) r (fun j => if j = J 2 (8 * p + i) then w else if j = x then v else g j) = fun j => if j = x then v else vPar J p (i + 1) r (fun j => if j = J 2 (8 * p + i) then w else g j) j
    rw [← vPar_up J p v x r (i + 1) (fun j => if j = J 2 (8 * p + i) then w else g j) (fun k hk => by rw [show i + 1 + k = i + (k + 1) by omega]; exact h (k + 1) (by simp <;> omega))]
    congr 1
    funext j
    have h0 := h 0 (by simp)
    rw [Nat.add_zero] at h0
    by_cases c : j = J 2 (8 * p + i)
    · rw [if_pos c, if_neg (by omega), if_pos c]
    · rw [if_neg c, if_neg c]
theorem vDn_par {J : zJ} {p n : Nat} (hd : ∀ i j, i < j → j < n → J 2 (8 * p + i) ≠ J 2 (8 * p + j)) : ∀ (r : List Int32) (g : Nat → Int32), r.length ≤ n → vDn (fun i => J 2 (8 * p + i)) r g = vPar J p 0 r.reverse g
  | [], g, _ => rfl
  | v :: r, g, h => by
    simp only [List.length_cons] at h
    show vDn (fun i => J 2 (8 * p + i)) r (fun j => if j = J 2 (8 * p + r.length) then v else g j) = _
    rw [vDn_par hd r _ (by omega), List.reverse_cons, vPar_snoc, vPar_up]
    · rw [Nat.zero_add, List.length_reverse]
    · intro k hk
      rw [List.length_reverse] at hk
      rw [Nat.zero_add]
      exact hd k r.length hk (by omega)
theorem vPar_ext (J : zJ) (p : Nat) : ∀ (l : List Int32) (i : Nat) (g g' : Nat → Int32) (n : Nat), (∀ j, j < n → g j = g' j) → ∀ j, j < n → vPar J p i l g j = vPar J p i l g' j
  | [], i, g, g', n, h => h
  | w :: r, i, g, g', n, h => by
    intro j hj
    show vPar J p (i + 1) r _ j = vPar J p (i + 1) r _ j
    refine vPar_ext J p r (i + 1) _ _ n (fun k hk => ?_) j hj
    by_cases c : k = J 2 (8 * p + i)
    · rw [if_pos c, if_pos c]
    · rw [if_neg c, if_neg c]; exact h k hk
