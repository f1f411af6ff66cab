/-! THE REFERENCE'S CALL -/
section RI
variable {M0 M M' : zMem} {L P L' P' : Nat → Int32} {s s' : zE} {d c h n st mk x p : Nat} {W W' : List (Nat × Nat)} {vs vs' : List Int32} {v : Int32} {J : zJ}
theorem rM_LP (g : rM M0 M L P s d W vs) (hl : ∀ i, 8 ≤ i → i < 8 * d → L' i = L i) (hp : ∀ i, i ≤ d → P' i = P i) : rM M0 M L' P' s d W vs := by
  obtain ⟨a, b, c1, c2, c3, c4, c5, c6⟩ := g
  exact ⟨a, b, c1, c2, c3, fun i h8 hi => by rw [hl i h8 hi]; exact c4 i h8 hi, fun i hi => by rw [hp i hi]; exact c5 i hi, c6⟩
theorem l8 (g : rM M0 M L P s d W vs) (x : Nat) : (8 : Int32) * M 34 38 + nI x = nI (8 * d + x) := by
  rw [g.2.1.1, show (8 : Int32) = nI 8 from rfl, pk_mul, nI_add]
theorem gZero (hd : 0 < d) (hd2 : d ≤ 20) : ∀ (k i : Nat) (M : zMem) (s : zE), i + k = 8 → rM M0 M L P s d W vs → (∀ j, j < i → s.1 2 j = 0) → ∃ M' s', (∀ N n l2, k < n → F_R_call_p52 N n M l2 (nI i) = F_R_call_p52 N (n - k) M' l2 (nI 8)) ∧ rM M0 M' L P s' d W vs ∧ (∀ j, j < 8 → s'.1 2 j = 0) ∧ (∀ a, a ≠ 2 → s'.1 a = s.1 a) ∧ s'.2 = s.2 ∧ M' 55 = M 55
  | 0, i, M, s, h, hm, h0 => by
    have hi : i = 8 := by omega
    subst hi
    exact ⟨M, s, fun N n l1 _ => rfl, hm, h0, fun _ _ => rfl, rfl, rfl⟩
  | k + 1, i, M, s, h, hm, h0 => by
    have e2 := gStL hm (show i < 8 by omega) hd 0
    obtain ⟨M', s', a1, a2, a3, a4, a5, a6⟩ := gZero hd hd2 k (i + 1) _ (vSet 2 i 0 s) (by omega) e2 (fun j hj => by
      show zup s.1 2 i 0 2 j = 0
      rw [zup_ap, if_pos rfl]
      by_cases q : j = i
      · rw [if_pos q]
      · rw [if_neg q]; exact h0 j (by omega))
    refine ⟨M', s', fun N n l2 hn => ?_, a2, a3, fun a q => ?_, a5, by rw [a6, zup_ne (by omega)]⟩
    · obtain ⟨n, rfl⟩ : ∃ n', n = n' + 1 := ⟨n - 1, by omega⟩
      rw [F_R_call_p52, if_neg (show ¬ (8 : Int32) ≤ nI i from nI_ge (b := 8) (by omega) (by omega)), l8 hm, zix_nI _ (by omega) (by omega), nI_clamp (by omega), zset_eq, nI_1, a1 N n l2 (by omega), show n + 1 - (k + 1) = n - k by omega]
    · rw [a4 a q]
      exact zup_ne q
theorem gArgs {cnt : Nat} (hd : 0 < d) (hd2 : d ≤ 20) (hp : p < 4) (h47 : M0 47 p = nI cnt) (hc : cnt ≤ 8) (h49 : ∀ i, i < cnt → M0 49 (8 * p + i) = nI (J 2 (8 * p + i))) (hJ : ∀ i, J 2 i < 8) (hv : vs.length + 8 < 3600) : ∀ (l : List Int32) (i : Nat) (M : zMem) (s : zE), i + l.length = cnt → rM M0 M L P s d W vs → (∀ j (hj : j < l.length), M 55 (vs.length + i + j) = l[j]) → ∃ M' s', (∀ N n, l.length < n → F_R_call_p69 N n M (nI p) (nI i) = F_R_call_p69 N (n - l.length) M' (nI p) (nI cnt)) ∧ rM M0 M' L P s' d W vs ∧ s'.1 2 = vPar J p i l (s.1 2) ∧ (∀ a, a ≠ 2 → s'.1 a = s.1 a) ∧ s'.2 = s.2
  | [], i, M, s, h, hm, _ => by
    have hi : i = cnt := by simpa using h
    subst hi
    exact ⟨M, s, fun N n _ => rfl, hm, rfl, fun _ _ => rfl, rfl⟩
  | v :: r, i, M, s, h, hm, hl => by
    simp only [List.length_cons] at h
    have hJi := hJ (8 * p + i)
    have e2 := gStL hm hJi hd v
    obtain ⟨M', s', a1, a2, a3, a4, a5⟩ := gArgs hd hd2 hp h47 hc h49 hJ hv r (i + 1) _ (vSet 2 (J 2 (8 * p + i)) v s) (by omega) e2 (fun j hj => by
      rw [zup_ne (by omega), show vs.length + (i + 1) + j = vs.length + i + (j + 1) by omega, hl (j + 1) (by simp <;> omega)]
      rfl)
    refine ⟨M', s', fun N n hn => ?_, a2, ?_, fun a q => ?_, a5⟩
    · simp only [List.length_cons] at hn ⊢
      obtain ⟨n, rfl⟩ : ∃ n', n = n' + 1 := ⟨n - 1, by omega⟩
      have f := hm.2.2.2.2.2.2.2.1
      have e55 := hl 0 (by simp)
      rw [Nat.add_zero] at e55
      rw [F_R_call_p69, zix_nI _ hp (by omega), nI_clamp (by omega), f 47 (by omega) (by omega), h47, if_neg (show ¬ nI cnt ≤ nI i from nI_ge (by omega) (by omega)), show (8 : Int32) * nI p + nI i = nI (8 * p + i) by rw [show (8 : Int32) = nI 8 from rfl, pk_mul, nI_add], zix_nI _ (by omega) (by omega), nI_clamp (by omega), f 49 (by omega) (by omega), h49 i (by omega), hm.2.2.2.1.1, nI_add, zix_nI _ (by omega) (by omega), nI_clamp (by omega), l8 hm, zix_nI _ (by omega) (by omega), nI_clamp (by omega), zset_eq, e55, nI_1]
      show F_R_call_p69 N n (zup M 56 (8 * d + J 2 (8 * p + i)) v) (nI p) (nI (i + 1)) = _
      rw [a1 N n (by omega), show n + 1 - (r.length + 1) = n - r.length by omega]
    · rw [a3]
      show vPar J p (i + 1) r (zup s.1 2 (J 2 (8 * p + i)) v 2) = vPar J p (i + 1) r (fun j => if j = J 2 (8 * p + i) then v else s.1 2 j)
      congr 1
    · rw [a4 a q]
      exact zup_ne q
theorem rVs_get {M : zMem} {vs : List Int32} : ∀ {r : List Int32}, rVs M (r ++ vs) → ∀ j (hj : j < r.length), M 55 (vs.length + j) = r.reverse[j]'(by simpa using hj)
  | [], _, j, hj => by simp at hj
  | v :: r, g, j, hj => by
    simp only [List.length_cons] at hj
    by_cases q : j = r.length
    · subst q
      have : M 55 (r ++ vs).length = v := g.1
      rw [List.length_append, Nat.add_comm] at this
      rw [this]
      simp [List.reverse_cons]
    · rw [rVs_get (r := r) g.2 j (by omega)]
      simp only [List.reverse_cons]
      rw [List.getElem_append_left]
def cPn (P : Nat → Int32) (d p i : Nat) : Int32 := if i = d + 1 then nI p else P i
theorem gCall {l : List Int32} {lo : Nat} (r : rM M0 M L P s d W (l.reverse ++ vs)) (hn : n < 400) (hW : W.length < 3500) (hv : (l.reverse ++ vs).length < 3500) (hd : d ≤ 20) (h40 : M0 40 n = nI p) (hp : p < 4) (h47 : M0 47 p = nI l.length) (hl : l.length ≤ 8) (h49 : ∀ i, i < l.length → M0 49 (8 * p + i) = nI (J 2 (8 * p + i))) (hJ : ∀ i, J 2 i < 8) (h46 : M0 46 p = nI lo) (hlo : lo < 400) (hx : (8 : Int32) * (M0 41 lo + 1) + 7 = nI c) :
    (s.2.1 = 300 → ∃ M', (∀ N, 4000 ≤ N → F_R_call N M (nI n) = some M') ∧ rX M0 M' s 1) ∧ (¬ s.2.1 = 300 → d = 20 → ∃ M', (∀ N, 4000 ≤ N → F_R_call N M (nI n) = some M') ∧ rX M0 M' (vTurn s) 2) ∧ (¬ s.2.1 = 300 → ¬ d = 20 → ∃ M', (∀ N, 4000 ≤ N → F_R_call N M (nI n) = some M') ∧ rM M0 M' (cLn L s d) (cPn P d p) (vIn (vTurn s) (vPar J p 0 l (fun _ => 0)) (d + 1)) (d + 1) ((c, vs.length) :: (4000, vs.length) :: W) vs) := by
  have k40 : M 40 n = nI p := by rw [r.2.2.2.2.2.2.2.1 40 (by omega) (by omega)]; exact h40
  obtain ⟨t1, t2⟩ := gTurn r
  have lv : (l.reverse ++ vs).length = l.length + vs.length := by simp
  refine ⟨fun q => ?_, fun q q2 => ?_, fun q q2 => ?_⟩
  · obtain ⟨M', e1, e2⟩ := t1 q
    refine ⟨M', fun N _ => ?_, e2⟩
    unfold F_R_call
    rw [zix_nI _ hn (by omega), e1, zbi_some, if_pos rfl]
  · obtain ⟨M8, e1, e2⟩ := t2 q
    refine ⟨zup M8 34 45 (nI 2), fun N _ => ?_, gEnd45 e2 2⟩
    unfold F_R_call
    rw [zix_nI _ hn (by omega), e1, zbi_some, if_neg (by decide), e2.2.1.1, q2, if_pos (show nI 20 = (20 : Int32) from rfl), zset_eq]
    rfl
  · obtain ⟨M8, e1, e2⟩ := t2 q
    obtain ⟨⟨a1, a2, a3, a4, a5, a6, a7, a8, a9⟩, ⟨b1, b2⟩, ⟨b3, b4⟩, ⟨b5, b6⟩, g1, g2, g3, f1, f2⟩ := e2
    let mx : Nat := if s.2.2.1 < d + 1 then d + 1 else s.2.2.1
    have hmx : mx ≤ 20 := by
      show (if s.2.2.1 < d + 1 then d + 1 else s.2.2.1) ≤ 20
      have : s.2.2.1 ≤ 20 := a9
      split <;> omega
    let s1 : zE := ((fun a i => if a = 2 then M8 56 (8 * (d + 1) + i) else s.1 a i), (vTurn s).2.1, mx, s.2.2.2)
    let M9 : zMem := zup (zup (zup (zup M8 34 38 (nI (d + 1))) 34 39 (nI mx)) 57 (d + 1) (nI p)) 34 35 (nI vs.length)
    have k9 : ∀ a, a ≠ 34 → a ≠ 57 → M9 a = M8 a := fun a q1 q2 => by
      show zup (zup (zup (zup M8 34 38 (nI (d + 1))) 34 39 (nI mx)) 57 (d + 1) (nI p)) 34 35 (nI vs.length) a = _
      rw [zup_ne q1, zup_ne q2, zup_ne q1, zup_ne q1]
    have k34 : ∀ j, j ≠ 38 → j ≠ 39 → j ≠ 35 → M9 34 j = M8 34 j := fun j q1 q2 q3 => by
      show zup (zup (zup (zup M8 34 38 (nI (d + 1))) 34 39 (nI mx)) 57 (d + 1) (nI p)) 34 35 (nI vs.length) 34 j = _
      rw [z34 q3, zup_ne (by omega), z34 q2, z34 q1]
    have m9 : rM M0 M9 (cLn L s d) (cPn P d p) s1 (d + 1) W vs := by
      refine ⟨⟨fun i hi => ?_, fun i hi => ?_, fun i hi => ?_, ?_, ?_, ?_, a7, a8, hmx⟩, ⟨?_, ?_⟩, ⟨?_, rWt_same (fun i _ => ?_) b4⟩, ⟨?_, rVs_same (fun i _ => ?_) (rVs_app b6)⟩, fun z i hi => ?_, fun i h8 hi => ?_, fun i hi => ?_, fun a q1 q2 => ?_, fun j z => ?_⟩
      · rw [k9 59 (by omega) (by omega)]; exact a1 i hi
      · rw [k9 60 (by omega) (by omega)]; exact a2 i hi
      · rw [k9 58 (by omega) (by omega)]; exact a3 i hi
      · rw [k34 42 (by omega) (by omega) (by omega)]; exact a4
      · rw [k34 40 (by omega) (by omega) (by omega)]; exact a5
      · show zup (zup (zup (zup M8 34 38 (nI (d + 1))) 34 39 (nI mx)) 57 (d + 1) (nI p)) 34 35 (nI vs.length) 34 39 = nI mx
        rw [z34 (by omega), zup_ne (by omega), zup_self, pk_us]
      · show zup (zup (zup (zup M8 34 38 (nI (d + 1))) 34 39 (nI mx)) 57 (d + 1) (nI p)) 34 35 (nI vs.length) 34 38 = nI (d + 1)
        rw [z34 (by omega), zup_ne (by omega), z34 (by omega), zup_self, pk_us]
      · rw [k34 45 (by omega) (by omega) (by omega)]; exact b2
      · rw [k34 33 (by omega) (by omega) (by omega)]; exact b3
      · exact ⟨by rw [k9 53 (by omega) (by omega)], by rw [k9 54 (by omega) (by omega)]⟩
      · show zup (zup (zup (zup M8 34 38 (nI (d + 1))) 34 39 (nI mx)) 57 (d + 1) (nI p)) 34 35 (nI vs.length) 34 35 = nI vs.length
        rw [zup_self, pk_us]
      · rw [k9 55 (by omega) (by omega)]
      · rw [k9 56 (by omega) (by omega)]; rfl
      · rw [k9 56 (by omega) (by omega)]
        unfold cLn
        by_cases z : i < 8 * d
        · rw [if_pos z]; exact g2 i h8 z
        · rw [if_neg z]
          have := g1 (by omega) (i - 8 * d) (by omega)
          rw [show 8 * d + (i - 8 * d) = i by omega] at this
          exact this
      · show zup (zup (zup (zup M8 34 38 (nI (d + 1))) 34 39 (nI mx)) 57 (d + 1) (nI p)) 34 35 (nI vs.length) 57 i = _
        unfold cPn
        rw [zup_ne (by omega), zup_ap, if_pos rfl]
        by_cases z : i = d + 1
        · rw [if_pos z, if_pos z]
        · rw [if_neg z, if_neg z, zup_ne (by omega), zup_ne (by omega)]; exact g3 i (by omega)
      · rw [k9 a q1 (by omega)]; exact f1 a q1 q2
      · rw [k34 j (fun y => z (by unfold r7; omega)) (fun y => z (by unfold r7; omega)) (fun y => z (by unfold r7; omega))]; exact f2 j z
    obtain ⟨M10, s2, c1, c2, c3, c4, c5, c6⟩ := gZero (by omega) (by omega) 8 0 M9 s1 rfl m9 (fun j hj => by omega)
    have gv := rVs_get b6
    obtain ⟨M11, s3, d1, d2, d3, d4, d5⟩ := gArgs (J := J) (by omega) (by omega) hp h47 hl h49 hJ (by omega) l 0 M10 s2 (by omega) c2 (fun j hj => by
      have := gv j (by simpa using hj)
      rw [c6, k9 55 (by omega) (by omega), Nat.add_zero, this]
      simp)
    obtain ⟨M12, w1, w2⟩ := gWait (x := 499) (st := 0) (c := 4000) d2 (by omega) (by decide)
    obtain ⟨M13, w3, w4⟩ := gWait (x := M0 41 lo) (st := 7) (c := c) w2 (by simp <;> omega) hx
    refine ⟨M13, fun N hN => ?_, rM_ext w4 (fun a i z => ?_) ?_⟩
    · unfold F_R_call F_R_call_p34
      have e38 : zup M8 34 38 (nI (d + 1)) 34 38 = nI (d + 1) := by rw [zup_self, pk_us]
      have e39 : zup M8 34 38 (nI (d + 1)) 34 39 = nI s.2.2.1 := by rw [z34 (by omega)]; exact a6
      have e38' : zup (zup M8 34 38 (nI (d + 1))) 34 39 (nI mx) 34 38 = nI (d + 1) := by rw [z34 (by omega), zup_self, pk_us]
      have e35 : zup (zup (zup M8 34 38 (nI (d + 1))) 34 39 (nI mx)) 57 (d + 1) (nI p) 34 35 = nI (l.length + vs.length) := by rw [zup_ne (by omega), z34 (by omega), z34 (by omega), b5, lv]
      have e47 : zup (zup (zup M8 34 38 (nI (d + 1))) 34 39 (nI mx)) 57 (d + 1) (nI p) 47 p = nI l.length := by rw [zup_ne (by omega), zup_ne (by omega), zup_ne (by omega), f1 47 (by omega) (by omega)]; exact h47
      have body : (zset (zup M8 34 38 (nI (d + 1))) 34 39 (nI mx) fun M1 => zix (M1 34 38) 21 (zset M1 57 (M1 34 38).toNatClampNeg (nI p) fun M4 => zix (nI p) 4 (zset M4 34 35 ((M4 34 35) - (M4 47 (nI p).toNatClampNeg)) fun M7 => F_R_call_p52 N N M7 (nI p) ((0 : Int32))))) = some M13 := by
        rw [zset_eq, e38', zix_nI _ (by omega) (by omega), nI_clamp (by omega), zset_eq, zix_nI _ hp (by omega), nI_clamp (by omega), e35, e47, show nI (l.length + vs.length) - nI l.length = nI vs.length from by rw [pk_sub (by omega), show l.length + vs.length - l.length = vs.length by omega], zset_eq]
        show F_R_call_p52 N N M9 (nI p) (nI 0) = _
        rw [c1 N N (nI p) (by omega)]
        obtain ⟨m, rfl⟩ : ∃ m, N = m + 20 := ⟨N - 20, by omega⟩
        rw [show m + 20 - 8 = (m + 11) + 1 by omega, F_R_call_p52, if_pos (show (8 : Int32) ≤ nI 8 by decide)]
        show F_R_call_p69 (m + 20) (m + 20) M10 (nI p) (nI 0) = _
        rw [d1 (m + 20) (m + 20) (by omega)]
        obtain ⟨k, hk⟩ : ∃ k, m + 20 - l.length = k + 1 := ⟨m + 19 - l.length, by omega⟩
        have x47 : M11 47 p = nI l.length := by rw [d2.2.2.2.2.2.2.2.1 47 (by omega) (by omega)]; exact h47
        have x46 : M12 46 p = nI lo := by rw [w2.2.2.2.2.2.2.2.1 46 (by omega) (by omega)]; exact h46
        have x41 : M12 41 lo = M0 41 lo := by rw [w2.2.2.2.2.2.2.2.1 41 (by omega) (by omega)]
        rw [hk, F_R_call_p69, zix_nI _ hp (by omega), nI_clamp (by omega), x47, if_pos (nI_le (by omega) (by omega)), w1, zbv_some, zix_nI _ hp (by omega), x46, zix_nI _ hlo (by omega), nI_clamp (by omega), x41, w3, zbv_some]
      rw [zix_nI _ hn (by omega), e1, zbi_some, if_neg (by decide), b1, if_neg (show ¬ nI d = (20 : Int32) from nIne (c := 20) (by omega) (by omega) q2), nI_1, zset_eq, e38, e39, nI_clamp (by omega), k40]
      have a9' : s.2.2.1 ≤ 20 := a9
      by_cases z : s.2.2.1 < d + 1
      · rw [if_neg (show ¬ nI (d + 1) ≤ nI s.2.2.1 from nI_ge z (by omega))]
        have : mx = d + 1 := if_pos z
        rw [this] at body
        exact body
      · rw [if_pos (nI_le (by omega) (by omega))]
        have : mx = s.2.2.1 := if_neg z
        rw [this] at body
        exact body
    · show (if a = 2 then vPar J p 0 l (fun _ => 0) i else s.1 a i) = s3.1 a i
      by_cases w : a = 2
      · rw [if_pos w, w, d3]
        exact vPar_ext J p _ 0 _ _ 8 (fun j hj => (c3 j hj).symm) i (by omega)
      · rw [if_neg w, d4 a w, c4 a w]
        show _ = if a = 2 then _ else _
        rw [if_neg w]
    · rw [d5, c5]; rfl
end RI
