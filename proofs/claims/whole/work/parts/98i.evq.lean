/-! WHAT evT SAYS, a form a row; and which values come out -/
section EQ
variable {rec : zRec} {J : zJ} {B : Nat → T} {d mk k q md : Nat} {a b e : T} {s : zE}
theorem ev_1 (h : md = 1 ∨ md = 2) : evT rec J B d mk (.add a b) md s = rb (evT rec J B d mk a 0 s) fun l s1 => rb (evT rec J B d mk b 1 s1) fun l' s2 => (0, l ++ l', s2) := if_pos h
theorem ev_5 : evT rec J B d mk (.add a b) 5 s = rb (evT rec J B d mk a 0 s) fun l s1 => rb (evT rec J B d mk b 0 s1) fun l' s2 => (0, l ++ l', s2) := by
  simp only [evT]; rw [if_neg (by omega), if_pos True.intro]
theorem ev_150 : evT rec J B d mk (.add a b) 150 s = rb (evT rec J B d mk a 0 s) fun l s1 => if v1 l = 0 then (0, [0], s1) else rb (evT rec J B d mk b 0 s1) fun l' s2 => (0, [nz (v1 l')], s2) := rfl
theorem ev_151 : evT rec J B d mk (.add a b) 151 s = rb (evT rec J B d mk a 0 s) fun l s1 => if v1 l = 0 then rb (evT rec J B d mk b 0 s1) fun l' s2 => (0, [nz (v1 l')], s2) else (0, [1], s1) := rfl
theorem ev_25 : evT rec J B d mk (.add a b) 25 s = rb (evT rec J B d mk a 0 s) fun l s1 => if v1 l = 0 then (0, [], s1) else if s1.2.1 = 300 then (3, [], s1) else rb (evT rec J B d mk b 1 (vTurn s1)) fun _ s2 => rec d mk (.add a b) 25 s2 := rfl
theorem ev_26 : evT rec J B d mk (.add a b) 26 s = (if s.2.1 = 300 then (3, [], s) else rb (evT rec J B d mk a 1 (vTurn s)) fun _ s1 => rb (evT rec J B d mk b 0 s1) fun l s2 => if v1 l = 0 then rec d mk (.add a b) 26 s2 else (0, [], s2)) := rfl
theorem ev_27 : evT rec J B d mk (.add a b) 27 s = rb (evT rec J B d mk a 0 s) fun l s1 => if v1 l = 0 then evT rec J B d mk b 280 s1 else evT rec J B d mk b 281 s1 := rfl
theorem ev_281 : evT rec J B d mk (.add a b) 281 s = evT rec J B d mk a 1 s := rfl
theorem ev_280 : evT rec J B d mk (.add a b) 280 s = evT rec J B d mk b 2 s := rfl
theorem ev_k2 : evT rec J B d mk (.mulL 2 e) md s = rb (evT rec J B d mk e 0 s) fun l s1 => (0, [s1.1 1 (vIx (v1 l))], s1) := rfl
theorem ev_k5 : evT rec J B d mk (.mulL 5 e) md s = rb (evT rec J B d mk e 0 s) fun l s1 => (0, [if v1 l = 0 then 1 else 0], s1) := rfl
theorem ev_k6 : evT rec J B d mk (.mulL 6 e) md s = rb (evT rec J B d mk e 0 s) fun l s1 => (0, [0 - v1 l], s1) := rfl
theorem ev_k200 (h : 200 ≤ k) : evT rec J B d mk (.mulL k e) md s = rb (evT rec J B d mk e 0 s) fun l s1 => (0, [], vPut mk (k - 200) (v1 l) s1) := by
  simp only [evT]; rw [if_neg (by omega), if_neg (by omega), if_neg (by omega), if_pos h]
theorem ev_k22 : evT rec J B d mk (.mulL 22 e) md s = rb (evT rec J B d mk e 0 s) fun _ s1 => (0, [], s1) := rfl
theorem ev_k23 : evT rec J B d mk (.mulL 23 e) md s = rb (evT rec J B d mk e 0 s) fun l s1 => if s1.2.2.2 = 20 then (5, [], s1) else (0, [], (zup s1.1 4 s1.2.2.2 (v1 l), s1.2.1, s1.2.2.1, s1.2.2.2 + 1)) := rfl
theorem ev_k24 : evT rec J B d mk (.mulL 24 e) md s = rb (evT rec J B d mk e 0 s) fun l s1 => (1, [v1 l], s1) := rfl
theorem ev_k21 : evT rec J B d mk (.mulL 21 e) md s = rb (evT rec J B d mk e 5 s) fun l s1 => (0, [], vSet 1 (vIx (v1 l)) (v2 l) s1) := rfl
theorem ev_kp (h : k = 25 ∨ k = 26 ∨ k = 27 ∨ k = 150 ∨ k = 151) : evT rec J B d mk (.mulL k e) md s = evT rec J B d mk e k s := by
  simp only [evT]; rw [if_neg (by omega), if_neg (by omega), if_neg (by omega), if_neg (by omega), if_neg (by omega), if_neg (by omega), if_neg (by omega), if_neg (by omega), if_pos h]
theorem ev_kb (h : 130 ≤ k) (h2 : k < 150) : evT rec J B d mk (.mulL k e) md s = rb (evT rec J B d mk e 5 s) fun l s1 => match eBin k (v1 l) (v2 l) with
      | some v => (0, [v], s1)
      | none => (6, [], s1) := by
  simp only [evT]; rw [if_neg (by omega), if_neg (by omega), if_neg (by omega), if_neg (by omega), if_neg (by omega), if_neg (by omega), if_neg (by omega), if_neg (by omega), if_neg (by omega)]
  rfl
def vCl (s0 : zE) (r : zR) : zR := if r.1 = 0 then (0, [0], vOut s0 r.2.2) else if r.1 = 1 then (0, r.2.1, vOut s0 r.2.2) else r
theorem ev_c : evT rec J B d mk (.mulR e q) md s = rb (evT rec J B d mk e 1 s) fun l s1 =>
    if s1.2.1 = 300 then (3, [], s1) else if d = 20 then (4, [], vTurn s1)
    else vCl s1 (rec (d + 1) (J 3 (q % 4)) (B (q % 4)) 1 (vIn (vTurn s1) (vPar J (q % 4) 0 l (fun _ => 0)) (d + 1))) := rfl
end EQ
theorem len1 {l : List Int32} (h : l.length = 1) : l = [v1 l] := by
  match l, h with
  | [a], _ => rfl
theorem len2 {l : List Int32} (h : l.length = 2) : l = [v1 l, v2 l] := by
  match l, h with
  | [a, b], _ => rfl
theorem len0 {l : List Int32} (h : l.length = 0) : l = [] := by
  match l, h with
  | [], _ => rfl
/-- modes of the shape and of evT -/
def em (m md : Nat) : Prop := ((m = 0 ∨ m = 1) ∧ md = 0) ∨ ((m = 2 ∨ m = 4) ∧ md = 1) ∨ (m = 3 ∧ md = 2) ∨ (m = 5 ∧ (md = 5 ∨ md = 150 ∨ md = 151)) ∨ (m = 6 ∧ md = 25) ∨ (m = 7 ∧ md = 26) ∨ (m = 8 ∧ md = 27) ∨ (m = 9 ∧ (md = 280 ∨ md = 281))
def er (m md : Nat) : Prop := (m = 2 ∧ md = 1) ∨ (m = 6 ∧ md = 25) ∨ (m = 7 ∧ md = 26)
/-- every call in t has its proc and its number of arguments -/
def gT (J : zJ) (t : T) : Prop := ∀ q c, hasC t q c → J 6 (q % 4) = 1 ∧ J 1 (q % 4) = c
theorem gT_l {J : zJ} {a b : T} (h : gT J (.add a b)) : gT J a := fun q c g => h q c (Or.inl g)
theorem gT_r {J : zJ} {a b : T} (h : gT J (.add a b)) : gT J b := fun q c g => h q c (Or.inr g)
theorem gT_k {J : zJ} {k : Nat} {e : T} (h : gT J (.mulL k e)) : gT J e := fun q c g => h q c g
theorem gT_c {J : zJ} {q : Nat} {e : T} (h : gT J (.mulR e q)) : gT J e := fun q c g => h q c (Or.inr g)
def vOk (x : Prop) (n : Nat) (r : zR) : Prop := (x → ¬ r.1 = 1) ∧ (r.1 = 0 → r.2.1.length = n) ∧ (r.1 = 1 → r.2.1.length = 1)
def vX (m : Nat) : Prop := m = 0 ∨ m = 4 ∨ m = 5
def vLen (m md : Nat) (t : T) : Nat := if m = 0 then 1 else if m = 4 then tlen t else if m = 5 then (if md = 5 then 2 else 1) else 0
theorem vOk_rb {x x' : Prop} {n n' : Nat} {r : zR} {f : List Int32 → zE → zR} (h : vOk x' n' r) (hx : x → x') (g : r.1 = 0 → r.2.1.length = n' → vOk x n (f r.2.1 r.2.2)) : vOk x n (rb r f) := by
  unfold rb
  by_cases c : r.1 = 0
  · rw [if_pos c]; exact g c (h.2.1 c)
  · rw [if_neg c]; exact ⟨fun w => h.1 (hx w), fun w => absurd w c, h.2.2⟩
theorem vOk_0 {x : Prop} {n : Nat} {l : List Int32} {s : zE} (h : l.length = n) : vOk x n (0, l, s) := ⟨fun _ => by simp, fun _ => h, fun w => by simp at w⟩
theorem vOk_x {x : Prop} {n k : Nat} {l : List Int32} {s : zE} : vOk x n (k + 2, l, s) := ⟨fun _ => by simp, fun w => by simp at w, fun w => by simp at w⟩
theorem vOk_cl {x : Prop} {s0 : zE} {r : zR} (h : vOk False 0 r) : vOk x 1 (vCl s0 r) := by
  unfold vCl
  by_cases c : r.1 = 0
  · rw [if_pos c]; exact vOk_0 rfl
  · rw [if_neg c]
    by_cases c1 : r.1 = 1
    · rw [if_pos c1]; exact vOk_0 (h.2.2 c1)
    · rw [if_neg c1]; exact ⟨fun _ => c1, fun w => absurd w c, fun w => absurd w c1⟩
theorem sh_var {x m : Nat} (h : sh (.var x) m = true) : (m = 0 ∧ x < 8) ∨ ((m = 2 ∨ m = 3 ∨ m = 4) ∧ x = 99) ∨ (m = 3 ∧ x = 98) := by
  simp [sh] at h
  rcases h with (⟨h1, h2⟩ | ⟨h1, h2⟩) | ⟨h1, h2⟩
  · exact Or.inl ⟨h1, h2⟩
  · exact Or.inr (Or.inl ⟨by omega, h2⟩)
  · exact Or.inr (Or.inr ⟨h1, h2⟩)
section EV
variable {rec : zRec} {J : zJ} {B : Nat → T}
theorem evV (hB : ∀ p, p < 4 → J 6 p = 1 → sh (B p) 2 = true ∧ gT J (B p)) (hr : ∀ t m md d ow s, er m md → sh t m = true → gT J t → vOk False 0 (rec d ow t md s)) : ∀ (t : T) (m md d ow : Nat) (s : zE), em m md → sh t m = true → gT J t → vOk (vX m) (vLen m md t) (evT rec J B d ow t md s)
  | .num k, m, md, d, ow, s, he, hs, hg => by
    simp [sh] at hs
    rw [hs.1]
    exact vOk_0 rfl
  | .var x, m, md, d, ow, s, he, hs, hg => by
    simp only [evT]
    have hx := sh_var (x := x) hs
    by_cases c : @Eq Nat x 99 ∨ @Eq Nat x 98
    · rw [if_pos c]
      have hm : m = 2 ∨ m = 3 ∨ m = 4 := by omega
      refine vOk_0 ?_
      rcases hm with rfl | rfl | rfl <;> rfl
    · rw [if_neg c]
      have hm : m = 0 := by omega
      subst hm
      exact vOk_0 rfl
  | .add a b, m, md, d, ow, s, he, hs, hg => by
    have ga := gT_l hg
    have gb := gT_r hg
    simp [sh] at hs
    rcases hs with ((((((hs | hs) | hs) | hs) | hs) | hs) | hs)
    · obtain ⟨⟨hm, sa⟩, sb⟩ := hs
      have hmd : md = 1 ∨ md = 2 := by unfold em at he; omega
      rw [ev_1 hmd]
      have x1 : ∀ {t : T} {md : Nat}, vLen m md t = 0 := fun {t md} => by unfold vLen; rw [if_neg (by omega), if_neg (by omega), if_neg (by omega)]
      rw [x1]
      refine vOk_rb (evV hB hr a 1 0 d ow s (by unfold em; omega) sa ga) (fun w => by unfold vX at w; omega) fun c1 c2 => ?_
      refine vOk_rb (evV hB hr b 2 1 d ow _ (by unfold em; omega) sb gb) (fun w => by unfold vX at w; omega) fun c3 c4 => ?_
      refine vOk_0 ?_
      rw [List.length_append, c2, c4]
      rfl
    · obtain ⟨⟨hm, sa⟩, sb⟩ := hs
      subst hm
      have hmd : md = 1 := by unfold em at he; omega
      subst hmd
      rw [ev_1 (Or.inl rfl)]
      refine vOk_rb (evV hB hr a 0 0 d ow s (by unfold em; omega) sa ga) (fun w => Or.inl rfl) fun c1 c2 => ?_
      refine vOk_rb (evV hB hr b 4 1 d ow _ (by unfold em; omega) sb gb) (fun w => Or.inr (Or.inl rfl)) fun c3 c4 => ?_
      refine vOk_0 ?_
      rw [List.length_append, c2, c4]
      show 1 + tlen b = tlen b + 1
      omega
    · obtain ⟨⟨hm, sa⟩, sb⟩ := hs
      subst hm
      have hmd : md = 5 ∨ md = 150 ∨ md = 151 := by unfold em at he; omega
      rcases hmd with rfl | rfl | rfl
      · rw [ev_5]
        refine vOk_rb (evV hB hr a 0 0 d ow s (by unfold em; omega) sa ga) (fun w => Or.inl rfl) fun c1 c2 => ?_
        refine vOk_rb (evV hB hr b 0 0 d ow _ (by unfold em; omega) sb gb) (fun w => Or.inl rfl) fun c3 c4 => ?_
        refine vOk_0 ?_
        rw [List.length_append, c2, c4]
        rfl
      · rw [ev_150]
        refine vOk_rb (evV hB hr a 0 0 d ow s (by unfold em; omega) sa ga) (fun w => Or.inl rfl) fun c1 c2 => ?_
        split
        · exact vOk_0 rfl
        · exact vOk_rb (evV hB hr b 0 0 d ow _ (by unfold em; omega) sb gb) (fun w => Or.inl rfl) fun c3 c4 => vOk_0 rfl
      · rw [ev_151]
        refine vOk_rb (evV hB hr a 0 0 d ow s (by unfold em; omega) sa ga) (fun w => Or.inl rfl) fun c1 c2 => ?_
        split
        · exact vOk_rb (evV hB hr b 0 0 d ow _ (by unfold em; omega) sb gb) (fun w => Or.inl rfl) fun c3 c4 => vOk_0 rfl
        · exact vOk_0 rfl
    · obtain ⟨⟨hm, sa⟩, sb⟩ := hs
      subst hm
      have hmd : md = 25 := by unfold em at he; omega
      subst hmd
      rw [ev_25]
      refine vOk_rb (evV hB hr a 0 0 d ow s (by unfold em; omega) sa ga) (fun w => Or.inl rfl) fun c1 c2 => ?_
      split
      · exact vOk_0 rfl
      · split
        · exact vOk_x
        · refine vOk_rb (evV hB hr b 2 1 d ow _ (by unfold em; omega) sb gb) (fun w => by unfold vX at w; omega) fun c3 c4 => ?_
          obtain ⟨z1, z2, z3⟩ := hr (.add a b) 6 25 d ow (evT rec J B d ow b 1 (vTurn (evT rec J B d ow a 0 s).2.2)).2.2 (by unfold er; omega) (by simp [sh, sa, sb]) hg
          exact ⟨fun w => by unfold vX at w; omega, z2, z3⟩
    · obtain ⟨⟨hm, sa⟩, sb⟩ := hs
      subst hm
      have hmd : md = 26 := by unfold em at he; omega
      subst hmd
      rw [ev_26]
      split
      · exact vOk_x
      · refine vOk_rb (evV hB hr a 2 1 d ow _ (by unfold em; omega) sa ga) (fun w => by unfold vX at w; omega) fun c1 c2 => ?_
        refine vOk_rb (evV hB hr b 0 0 d ow _ (by unfold em; omega) sb gb) (fun w => Or.inl rfl) fun c3 c4 => ?_
        split
        · obtain ⟨z1, z2, z3⟩ := hr (.add a b) 7 26 d ow (evT rec J B d ow b 0 (evT rec J B d ow a 1 (vTurn s)).2.2).2.2 (by unfold er; omega) (by simp [sh, sa, sb]) hg
          exact ⟨fun w => by unfold vX at w; omega, z2, z3⟩
        · exact vOk_0 rfl
    · obtain ⟨⟨hm, sa⟩, sb⟩ := hs
      subst hm
      have hmd : md = 27 := by unfold em at he; omega
      subst hmd
      rw [ev_27]
      refine vOk_rb (evV hB hr a 0 0 d ow s (by unfold em; omega) sa ga) (fun w => Or.inl rfl) fun c1 c2 => ?_
      split
      · obtain ⟨z1, z2, z3⟩ := evV hB hr b 9 280 d ow (evT rec J B d ow a 0 s).2.2 (by unfold em; omega) sb gb
        exact ⟨fun w => by unfold vX at w; omega, z2, z3⟩
      · obtain ⟨z1, z2, z3⟩ := evV hB hr b 9 281 d ow (evT rec J B d ow a 0 s).2.2 (by unfold em; omega) sb gb
        exact ⟨fun w => by unfold vX at w; omega, z2, z3⟩
    · obtain ⟨⟨hm, sa⟩, sb⟩ := hs
      subst hm
      have hmd : md = 280 ∨ md = 281 := by unfold em at he; omega
      rcases hmd with rfl | rfl
      · rw [ev_280]
        obtain ⟨z1, z2, z3⟩ := evV hB hr b 3 2 d ow s (by unfold em; omega) sb gb
        exact ⟨fun w => by unfold vX at w; omega, z2, z3⟩
      · rw [ev_281]
        obtain ⟨z1, z2, z3⟩ := evV hB hr a 2 1 d ow s (by unfold em; omega) sa ga
        exact ⟨fun w => by unfold vX at w; omega, z2, z3⟩
  | .mulL k e, m, md, d, ow, s, he, hs, hg => by
    have ge := gT_k hg
    simp [sh] at hs
    rcases hs with (((((((hs | hs) | hs) | hs) | hs) | hs) | hs) | hs)
    · obtain ⟨⟨hm, hk⟩, se⟩ := hs
      subst hm
      rcases hk with (rfl | rfl) | rfl
      · rw [ev_k2]; exact vOk_rb (evV hB hr e 0 0 d ow s (by unfold em; omega) se ge) (fun w => Or.inl rfl) fun c1 c2 => vOk_0 rfl
      · rw [ev_k5]; exact vOk_rb (evV hB hr e 0 0 d ow s (by unfold em; omega) se ge) (fun w => Or.inl rfl) fun c1 c2 => vOk_0 rfl
      · rw [ev_k6]; exact vOk_rb (evV hB hr e 0 0 d ow s (by unfold em; omega) se ge) (fun w => Or.inl rfl) fun c1 c2 => vOk_0 rfl
    · obtain ⟨⟨hm, hk⟩, se⟩ := hs
      subst hm
      obtain ⟨k1, k2⟩ := isBin_n hk
      by_cases c : k < 150
      · rw [ev_kb k1 c]
        refine vOk_rb (evV hB hr e 5 5 d ow s (by unfold em; omega) se ge) (fun w => Or.inr (Or.inr rfl)) fun c1 c2 => ?_
        split
        · exact vOk_0 rfl
        · exact vOk_x
      · have hk2 : k = 150 ∨ k = 151 := by omega
        rw [ev_kp (by omega)]
        rcases hk2 with rfl | rfl
        · obtain ⟨z1, z2, z3⟩ := evV hB hr e 5 150 d ow s (by unfold em; omega) se ge
          exact ⟨fun _ => z1 (Or.inr (Or.inr rfl)), z2, z3⟩
        · obtain ⟨z1, z2, z3⟩ := evV hB hr e 5 151 d ow s (by unfold em; omega) se ge
          exact ⟨fun _ => z1 (Or.inr (Or.inr rfl)), z2, z3⟩
    · obtain ⟨⟨hm, hk⟩, se⟩ := hs
      subst hm
      rcases hk with (hk | rfl) | rfl
      · rw [ev_k200 hk.1]; exact vOk_rb (evV hB hr e 0 0 d ow s (by unfold em; omega) se ge) (fun w => Or.inl rfl) fun c1 c2 => vOk_0 rfl
      · rw [ev_k23]
        refine vOk_rb (evV hB hr e 0 0 d ow s (by unfold em; omega) se ge) (fun w => Or.inl rfl) fun c1 c2 => ?_
        split
        · exact vOk_x
        · exact vOk_0 rfl
      · rw [ev_k24]
        exact vOk_rb (evV hB hr e 0 0 d ow s (by unfold em; omega) se ge) (fun w => Or.inl rfl) fun c1 c2 => ⟨fun w => by unfold vX at w; omega, fun w => by simp at w, fun _ => rfl⟩
    · obtain ⟨⟨⟨hm, hk⟩, -⟩, se⟩ := hs
      subst hm; subst hk
      rw [ev_k22]; exact vOk_rb (evV hB hr e 0 0 d ow s (by unfold em; omega) se ge) (fun w => Or.inl rfl) fun c1 c2 => vOk_0 rfl
    · obtain ⟨⟨hm, hk⟩, se⟩ := hs
      subst hm; subst hk
      rw [ev_k21]; exact vOk_rb (evV hB hr e 5 5 d ow s (by unfold em; omega) se ge) (fun w => Or.inr (Or.inr rfl)) fun c1 c2 => vOk_0 rfl
    · obtain ⟨⟨hm, hk⟩, se⟩ := hs
      subst hm; subst hk
      rw [ev_kp (by omega)]
      obtain ⟨z1, z2, z3⟩ := evV hB hr e 6 25 d ow s (by unfold em; omega) se ge
      exact ⟨fun w => by unfold vX at w; omega, z2, z3⟩
    · obtain ⟨⟨hm, hk⟩, se⟩ := hs
      subst hm; subst hk
      rw [ev_kp (by omega)]
      obtain ⟨z1, z2, z3⟩ := evV hB hr e 7 26 d ow s (by unfold em; omega) se ge
      exact ⟨fun w => by unfold vX at w; omega, z2, z3⟩
    · obtain ⟨⟨hm, hk⟩, se⟩ := hs
      subst hk
      rw [ev_kp (by omega)]
      obtain ⟨z1, z2, z3⟩ := evV hB hr e 8 27 d ow s (by unfold em; omega) se ge
      have x1 : vLen m md (.mulL 27 e) = 0 := by unfold vLen; rw [if_neg (by omega), if_neg (by omega), if_neg (by omega)]
      rw [x1]
      exact ⟨fun w => by unfold vX at w; omega, z2, z3⟩
  | .mulR e q, m, md, d, ow, s, he, hs, hg => by
    have ge := gT_c hg
    simp [sh] at hs
    obtain ⟨hm, se⟩ := hs
    subst hm
    obtain ⟨b1, -⟩ := hg q _ (Or.inl ⟨rfl, rfl⟩)
    obtain ⟨b2, b3⟩ := hB (q % 4) (by omega) b1
    rw [ev_c]
    refine vOk_rb (evV hB hr e 4 1 d ow s (by unfold em; omega) se ge) (fun w => Or.inr (Or.inl rfl)) fun c1 c2 => ?_
    split
    · exact vOk_x
    · split
      · exact vOk_x
      · exact vOk_cl (hr (B (q % 4)) 2 1 _ _ _ (by unfold er; omega) b2 b3)
theorem evNV (hB : ∀ p, p < 4 → J 6 p = 1 → sh (B p) 2 = true ∧ gT J (B p)) : ∀ n t m md d ow s, er m md → sh t m = true → gT J t → vOk False 0 (evN J B n d ow t md s)
  | 0, t, m, md, d, ow, s, he, hs, hg => vOk_0 rfl
  | n + 1, t, m, md, d, ow, s, he, hs, hg => by
    obtain ⟨z1, z2, z3⟩ := evV hB (evNV hB n) t m md d ow s (by unfold er at he; unfold em; omega) hs hg
    have x1 : vLen m md t = 0 := by unfold er at he; unfold vLen; rw [if_neg (by omega), if_neg (by omega), if_neg (by omega)]
    rw [x1] at z2
    exact ⟨fun w => w.elim, z2, z3⟩
end EV
