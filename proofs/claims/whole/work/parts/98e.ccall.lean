/-! a call: the new level's names are 0, then the arguments -/
section CC
variable {M0 M : zMem} {L R : Nat → Int32} {s : zE} {d pc : Nat} {vs : List Int32}
theorem cZero (hd : d ≤ 20) : ∀ (k i : Nat) (M : zMem) (s : zE), i + k = 8 → cM M0 M L R s d pc vs → (∀ j, j < i → s.1 2 j = 0) → ∃ M' s', (∀ N n l1, k < n → F_Mach_call_p39 N n M l1 (nI i) = F_Mach_call_p39 N (n - k) M' l1 (nI 8)) ∧ cM M0 M' L R s' d pc vs ∧ (∀ j, j < 8 → s'.1 2 j = 0) ∧ (∀ a, a ≠ 2 → s'.1 a = s.1 a) ∧ s'.2 = s.2
  | 0, i, M, s, h, hm, h0 => by
    have hi : i = 8 := by omega
    subst hi
    exact ⟨M, s, fun N n l1 _ => rfl, hm, h0, fun _ _ => rfl, rfl⟩
  | k + 1, i, M, s, h, hm, h0 => by
    obtain ⟨M1, e1, e2⟩ := cStL hm (show i < 8 by omega) hd 0
    obtain ⟨M', s', a1, a2, a3, a4, a5⟩ := cZero hd k (i + 1) M1 (vSet 2 i 0 s) (by omega) e2 (fun j hj => by
      show zup s.1 2 i 0 2 j = 0
      rw [zup_ap, if_pos rfl]
      by_cases q : j = i
      · rw [if_pos q]
      · rw [if_neg q]; exact h0 j (by omega))
    refine ⟨M', s', fun N n l1 hn => ?_, a2, a3, fun a q => ?_, a5⟩
    · obtain ⟨n, rfl⟩ : ∃ n', n = n' + 1 := ⟨n - 1, by omega⟩
      rw [F_Mach_call_p39, if_neg (show ¬ (8 : Int32) ≤ nI i from nI_ge (b := 8) (by omega) (by omega)), show F_Mach_storeLocal M (nI i) (0 : Int32) = some M1 from e1, zbv_some, nI_1, a1 N n l1 (by omega), show n + 1 - (k + 1) = n - k by omega]
    · rw [a4 a q]
      exact zup_ne q
end CC
