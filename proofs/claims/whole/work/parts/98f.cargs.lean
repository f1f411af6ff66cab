/-- the arguments are taken, the last one first -/
def vDn (f : Nat → Nat) : List Int32 → (Nat → Int32) → Nat → Int32
  | [], g => g
  | v :: r, g => vDn f r (fun j => if j = f r.length then v else g j)
section CD
variable {M0 M : zMem} {L R : Nat → Int32} {s : zE} {d pc p n : Nat} {vs : List Int32} {f : Nat → Nat}
theorem cArgs (hd : d ≤ 20) (hp : p < 4) (hn : n ≤ 8) (h11 : ∀ i, i < n → M0 11 (8 * p + i) = nI (f i)) (hf : ∀ i, f i < 8) : ∀ (r : List Int32) (M : zMem) (s : zE), r.length ≤ n → cM M0 M L R s d pc (r ++ vs) → (r ++ vs).length ≤ 2048 → ∃ M' s', (∀ N m, r.length < m → F_Mach_call_p55 N m M (nI p) (nI r.length - 1) = zbi (F_Proc_entry M' (nI p)) fun r3 M1 => zset M1 27 15 r3 fun M4 => some M4) ∧ cM M0 M' L R s' d pc vs ∧ s'.1 2 = vDn f r (s.1 2) ∧ (∀ a, a ≠ 2 → s'.1 a = s.1 a) ∧ s'.2 = s.2
  | [], M, s, _, hm, _ => by
    refine ⟨M, s, fun N m h => ?_, hm, rfl, fun _ _ => rfl, rfl⟩
    obtain ⟨m, rfl⟩ : ∃ m', m = m' + 1 := ⟨m - 1, by omega⟩
    rw [F_Mach_call_p55, if_pos (show nI ([] : List Int32).length - 1 < 0 by decide)]
  | v :: r, M, s, hr, hm, hv => by
    simp only [List.length_cons, List.length_append] at hr hv
    obtain ⟨M1, e1, e2⟩ := mPop (vs := r ++ vs) hm (by simp <;> omega)
    obtain ⟨M2, e3, e4⟩ := cStL e2 (hf r.length) hd v
    obtain ⟨M', s', a1, a2, a3, a4, a5⟩ := cArgs hd hp hn h11 hf r M2 _ (by omega) e4 (by simp <;> omega)
    refine ⟨M', s', fun N m h => ?_, a2, ?_, fun a q => by rw [a4 a q]; exact zup_ne q, a5⟩
    · simp only [List.length_cons] at h ⊢
      obtain ⟨m, rfl⟩ : ∃ m', m = m' + 1 := ⟨m - 1, by omega⟩
      have ep : F_Proc_parameter M (nI p) (nI r.length) = some (nI (f r.length), M) := by
        unfold F_Proc_parameter
        rw [if_neg (nI_pos (by omega)), if_neg (show ¬ (4 : Int32) ≤ nI p from nI_ge (b := 4) hp (by omega)), if_neg (nI_pos (by omega)), if_pos (show nI r.length < (8 : Int32) from nI_lt (b := 8) (by omega) (by omega)), show (8 : Int32) = nI 8 from rfl, pk_mul, nI_add, zix_nI _ (by omega) (by omega), nI_clamp (by omega), show p * 8 + r.length = 8 * p + r.length by omega, hm.2.2.2.2.2.2.1 11 (by omega), h11 r.length (by omega)]
      rw [F_Mach_call_p55, show nI (r.length + 1) - 1 = nI r.length from nI_pred _, if_neg (nI_pos (by omega)), ep, zbi_some, e1, zbi_some, e3, zbv_some, ← Int32.sub_eq_add_neg, a1 N m (by omega)]
    · rw [a3]
      show vDn f r (zup s.1 2 (f r.length) v 2) = vDn f r (fun j => if j = f r.length then v else s.1 2 j)
      congr 1
end CD
