/-! THE REFERENCE RUNS A PROGRAM -/
def rRz (M : zMem) (r : zR) : Prop := rDt M r.2.2 ∧ M 34 45 = nI (zEnd r)
theorem rb6 {r : zR} {f : List Int32 → zE → zR} (h : r.1 ≤ 6) (g : ∀ l s, (f l s).1 ≤ 6) : (rb r f).1 ≤ 6 := by
  by_cases c : r.1 = 0
  · rw [rb_0 c]; exact g _ _
  · rw [rb_n c]; exact h
theorem ev6 {rec : zRec} {J : zJ} {B : Nat → T} (hr : ∀ d ow t m s, (rec d ow t m s).1 ≤ 6) : ∀ (t : T) (m d ow : Nat) (s : zE), (evT rec J B d ow t m s).1 ≤ 6
  | .num k, m, d, ow, s => Nat.zero_le _
  | .var x, m, d, ow, s => by
    simp only [evT]
    split <;> exact Nat.zero_le _
  | .add a b, m, d, ow, s => by
    simp only [evT]
    repeat' (first | exact Nat.zero_le _ | exact hr _ _ _ _ _ | exact ev6 hr a _ _ _ _ | exact ev6 hr b _ _ _ _ | exact Nat.le_of_ble_eq_true rfl | (refine rb6 ?_ fun _ _ => ?_) | split)
  | .mulL k e, m, d, ow, s => by
    simp only [evT]
    repeat' (first | exact Nat.zero_le _ | exact ev6 hr e _ _ _ _ | exact Nat.le_of_ble_eq_true rfl | (refine rb6 ?_ fun _ _ => ?_) | split)
  | .mulR e q, m, d, ow, s => by
    rw [ev_c]
    refine rb6 (ev6 hr e _ _ _ _) fun l s1 => ?_
    split
    · exact Nat.le_of_ble_eq_true rfl
    · split
      · exact Nat.le_of_ble_eq_true rfl
      · unfold vCl
        split
        · exact Nat.zero_le _
        · split
          · exact Nat.zero_le _
          · exact hr _ _ _ _ _
theorem evN6 {J : zJ} {B : Nat → T} : ∀ n d ow t m s, (evN J B n d ow t m s).1 ≤ 6
  | 0, d, ow, t, m, s => Nat.zero_le _
  | n + 1, d, ow, t, m, s => ev6 (evN6 n) t m d ow s
theorem and7 : ∀ i, i < 16 → nI i &&& 7 = nI (i % 8) := by decide
theorem rCp : ∀ (k i : Nat) (M : zMem), i + k = 16 → (∀ j, j < i → j < 8 → M 59 j = M 36 j) → ∃ M', (∀ N n, k < n → F_R_work_p8 N n M (nI i) = F_R_work_p8 N (n - k) M' (nI 16)) ∧ (∀ a, a ≠ 59 → a ≠ 60 → M' a = M a) ∧ (∀ j, j < i → M' 60 j = M 60 j) ∧ (∀ j, i ≤ j → j < 16 → M' 60 j = M 37 j) ∧ ∀ j, j < 8 → M' 59 j = M 36 j
  | 0, i, M, h, h0 => by
    have hi : i = 16 := by omega
    subst hi
    exact ⟨M, fun N n _ => rfl, fun _ _ _ => rfl, fun _ _ => rfl, fun j h1 h2 => by omega, fun j hj => h0 j (by omega) hj⟩
  | k + 1, i, M, h, h0 => by
    have e36 : ∀ j, zup (zup M 60 i (M 37 i)) 59 (i % 8) (M 36 (i % 8)) 36 j = M 36 j := fun j => by rw [zup_ne (by omega), zup_ne (by omega)]
    obtain ⟨M', a1, a2, a3, a4, a5⟩ := rCp k (i + 1) (zup (zup M 60 i (M 37 i)) 59 (i % 8) (M 36 (i % 8))) (by omega) (fun j h1 h2 => by
      rw [e36, zup_ap, if_pos rfl]
      by_cases q : j = i % 8
      · rw [if_pos q, q]
      · rw [if_neg q, zup_ne (by omega)]; exact h0 j (by omega) h2)
    refine ⟨M', fun N n hn => ?_, fun a q1 q2 => by rw [a2 a q1 q2, zup_ne q1, zup_ne q2], fun j hj => ?_, fun j h1 h2 => ?_, fun j hj => by rw [a5 j hj, e36]⟩
    · obtain ⟨n, rfl⟩ : ∃ n', n = n' + 1 := ⟨n - 1, by omega⟩
      have e1 : zup M 60 i (M 37 i) 36 (i % 8) = M 36 (i % 8) := by rw [zup_ne (by omega)]
      rw [F_R_work_p8, if_neg (show ¬ (16 : Int32) ≤ nI i from nI_ge (b := 16) (by omega) (by omega)), zix_nI _ (by omega) (by omega), zix_nI _ (by omega) (by omega), nI_clamp (by omega), zset_eq, and7 i (by omega), zix_nI _ (by omega) (by omega), zix_nI _ (by omega) (by omega), nI_clamp (by omega), zset_eq, e1, nI_1, a1 N n (by omega), show n + 1 - (k + 1) = n - k by omega]
    · rw [a3 j (by omega), zup_ne (by omega), zup_ap, if_pos rfl, if_neg (by omega)]
    · by_cases q : j = i
      · subst q
        rw [a3 j (by omega), zup_ne (by omega), zup_self, pk_us]
      · rw [a4 j (by omega) h2, zup_ne (by omega), zup_ne (by omega)]
theorem rHB_of {M M' : zMem} {ts : List Nat} {J : zJ} {B : Nat → T} (h : RD M ts J B) (hc : ∀ p, p < 4 → J 6 p = 1 → (sh (B p) 2 = true ∧ gT J (B p)) ∧ td (B p) 1 ≤ 76 ∧ tw (B p) 1 ≤ 150 ∧ J 1 p ≤ 8) (h2 : ∀ i, J 2 i < 8) (hk : ∀ a, 39 ≤ a ∧ a ≤ 49 → M' a = M a) : rHB M' J B := by
  obtain ⟨-, -, j300, ⟨-, -, j5, -⟩, ⟨-, r2, -, -⟩, -⟩ := h
  refine ⟨h2, fun p hp h6 => ?_⟩
  obtain ⟨c1, c2, c3, c4⟩ := hc p hp h6
  obtain ⟨k1, k2, k3, k4, k5, k6, k7, k8⟩ := j5 p hp
  obtain ⟨lo, hi, b1, -, b3⟩ := r2 p hp h6
  obtain ⟨x1, x2, x3, x4⟩ := Rep_2 c1.1 (Or.inl rfl) b3
  have hsame : rSame M M' (lo + 1) hi := fun i _ _ => ⟨by rw [hk 39 (by omega)], by rw [hk 40 (by omega)], by rw [hk 41 (by omega)], by rw [hk 42 (by omega)], by rw [hk 43 (by omega)], by rw [hk 44 (by omega)]⟩
  refine ⟨c1, c2, c3, ⟨lo, hi, by rw [hk 46 (by omega)]; exact x1, by omega, x2, ?_⟩, by rw [hk 47 (by omega)]; exact k4, c4, fun i hi => by rw [hk 49 (by omega)]; exact k7 i (by omega) hi, by rw [hk 48 (by omega)]; exact (k6 h6).2⟩
  rw [hk 41 (by omega)]
  exact Rep_same hsame (by omega) x4
theorem rWork {M M1 : zMem} {ts : List Nat} {J : zJ} {B : Nat → T} {G C nm : Nat → Int32} (h : RD M ts J B) (hk0 : ∀ a, ¬ a = 34 → M1 a = M a) (hk34 : ∀ j, ¬ j = 28 → M1 34 j = M 34 j) (hc : ∀ p, p < 4 → J 6 p = 1 → (sh (B p) 2 = true ∧ gT J (B p)) ∧ td (B p) 1 ≤ 76 ∧ tw (B p) 1 ≤ 150 ∧ J 1 p ≤ 8) (h2 : ∀ i, J 2 i < 8) (s4 : sh (B 4) 2 = true) (g4 : gT J (B 4)) (d4 : td (B 4) 1 ≤ 76) (w4 : tw (B 4) 1 ≤ 150) (hG : ∀ i, i < 8 → M1 36 i = G i) (hC : ∀ i, i < 16 → M1 37 i = C i) :
    ∃ M' N0, (∀ N, N0 ≤ N → F_R_work_p8 N N M1 0 = some (1, M')) ∧ rRz M' (evN J B 301 0 0 (B 4) 1 (zS0 G C nm)) ∧ (∀ a, ¬ a = 34 → (a < 53 ∨ 60 < a) → M' a = M1 a) ∧ ∀ j, ¬ r7 j → M' 34 j = M1 34 j := by
  obtain ⟨Ma, x1, x2, -, x4, x5⟩ := rCp 16 0 M1 rfl (fun j hj => by omega)
  let M0 : zMem := zup (zup (zup (zup (zup (zup (zup (zup Ma 34 33 0) 34 35 0) 34 38 0) 57 0 (-1)) 34 39 0) 34 40 0) 34 42 0) 34 45 (-4)
  have kA : ∀ a, a ≠ 34 → a ≠ 57 → a ≠ 59 → a ≠ 60 → M0 a = M1 a := fun a q1 q2 q3 q4 => by
    show zup (zup (zup (zup (zup (zup (zup (zup Ma 34 33 0) 34 35 0) 34 38 0) 57 0 (-1)) 34 39 0) 34 40 0) 34 42 0) 34 45 (-4) a = _
    rw [zup_ne q1, zup_ne q1, zup_ne q1, zup_ne q1, zup_ne q2, zup_ne q1, zup_ne q1, zup_ne q1, x2 a q3 q4]
  have k34 : ∀ j, ¬ r7 j → M0 34 j = M1 34 j := fun j q => by
    show zup (zup (zup (zup (zup (zup (zup (zup Ma 34 33 0) 34 35 0) 34 38 0) 57 0 (-1)) 34 39 0) 34 40 0) 34 42 0) 34 45 (-4) 34 j = _
    have q' : ¬ j = 33 ∧ ¬ j = 35 ∧ ¬ j = 38 ∧ ¬ j = 39 ∧ ¬ j = 40 ∧ ¬ j = 42 ∧ ¬ j = 45 := by unfold r7 at q; omega
    rw [z34 (by omega), z34 (by omega), z34 (by omega), z34 (by omega), zup_ne (by omega), z34 (by omega), z34 (by omega), z34 (by omega), x2 34 (by omega) (by omega)]
  have k59 : ∀ i, i < 8 → M0 59 i = G i := fun i hi => by
    show zup (zup (zup (zup (zup (zup (zup (zup Ma 34 33 0) 34 35 0) 34 38 0) 57 0 (-1)) 34 39 0) 34 40 0) 34 42 0) 34 45 (-4) 59 i = _
    rw [zup_ne (by omega), zup_ne (by omega), zup_ne (by omega), zup_ne (by omega), zup_ne (by omega), zup_ne (by omega), zup_ne (by omega), zup_ne (by omega), x5 i hi, hG i hi]
  have k60 : ∀ i, i < 16 → M0 60 i = C i := fun i hi => by
    show zup (zup (zup (zup (zup (zup (zup (zup Ma 34 33 0) 34 35 0) 34 38 0) 57 0 (-1)) 34 39 0) 34 40 0) 34 42 0) 34 45 (-4) 60 i = _
    rw [zup_ne (by omega), zup_ne (by omega), zup_ne (by omega), zup_ne (by omega), zup_ne (by omega), zup_ne (by omega), zup_ne (by omega), zup_ne (by omega), x4 i (by omega) hi, hC i hi]
  have k57 : M0 57 0 = -1 := by
    show zup (zup (zup (zup (zup (zup (zup (zup Ma 34 33 0) 34 35 0) 34 38 0) 57 0 (-1)) 34 39 0) 34 40 0) 34 42 0) 34 45 (-4) 57 0 = _
    rw [zup_ne (by omega), zup_ne (by omega), zup_ne (by omega), zup_ne (by omega), zup_self, pk_us]
  have m0 : rM M0 M0 (fun _ => 0) (M0 57) (zS0 G C nm) 0 [] [] := by
    refine ⟨⟨k59, k60, fun i (hi : i < 0) => by omega, ?_, ?_, ?_, Nat.zero_le _, Nat.zero_le _, Nat.zero_le _⟩, ⟨?_, ?_⟩, ⟨?_, trivial⟩, ⟨?_, trivial⟩, fun q => by omega, fun i h8 hi => by omega, fun i hi => rfl, fun a _ _ => rfl, fun j _ => rfl⟩
    · show zup (zup (zup (zup (zup (zup (zup (zup Ma 34 33 0) 34 35 0) 34 38 0) 57 0 (-1)) 34 39 0) 34 40 0) 34 42 0) 34 45 (-4) 34 42 = nI 0
      rw [z34 (by omega), zup_self, pk_us]; rfl
    · show zup (zup (zup (zup (zup (zup (zup (zup Ma 34 33 0) 34 35 0) 34 38 0) 57 0 (-1)) 34 39 0) 34 40 0) 34 42 0) 34 45 (-4) 34 40 = nI 0
      rw [z34 (by omega), z34 (by omega), zup_self, pk_us]; rfl
    · show zup (zup (zup (zup (zup (zup (zup (zup Ma 34 33 0) 34 35 0) 34 38 0) 57 0 (-1)) 34 39 0) 34 40 0) 34 42 0) 34 45 (-4) 34 39 = nI 0
      rw [z34 (by omega), z34 (by omega), z34 (by omega), zup_self, pk_us]; rfl
    · show zup (zup (zup (zup (zup (zup (zup (zup Ma 34 33 0) 34 35 0) 34 38 0) 57 0 (-1)) 34 39 0) 34 40 0) 34 42 0) 34 45 (-4) 34 38 = nI 0
      rw [z34 (by omega), z34 (by omega), z34 (by omega), z34 (by omega), zup_ne (by omega), zup_self, pk_us]; rfl
    · show zup (zup (zup (zup (zup (zup (zup (zup Ma 34 33 0) 34 35 0) 34 38 0) 57 0 (-1)) 34 39 0) 34 40 0) 34 42 0) 34 45 (-4) 34 45 = -4
      rw [zup_self, pk_us]
    · show zup (zup (zup (zup (zup (zup (zup (zup Ma 34 33 0) 34 35 0) 34 38 0) 57 0 (-1)) 34 39 0) 34 40 0) 34 42 0) 34 45 (-4) 34 33 = nI 0
      rw [z34 (by omega), z34 (by omega), z34 (by omega), z34 (by omega), zup_ne (by omega), z34 (by omega), z34 (by omega), zup_self, pk_us]; rfl
    · show zup (zup (zup (zup (zup (zup (zup (zup Ma 34 33 0) 34 35 0) 34 38 0) 57 0 (-1)) 34 39 0) 34 40 0) 34 42 0) 34 45 (-4) 34 35 = nI 0
      rw [z34 (by omega), z34 (by omega), z34 (by omega), z34 (by omega), zup_ne (by omega), z34 (by omega), zup_self, pk_us]; rfl
  have kM : ∀ a, 39 ≤ a ∧ a ≤ 49 → M0 a = M a := fun a q => by rw [kA a (by omega) (by omega) (by omega) (by omega), hk0 a (by omega)]
  have hB := rHB_of h hc h2 kM
  have hRD := h
  obtain ⟨-, -, j300, -, ⟨-, -, r3, -⟩, h70, -⟩ := hRD
  obtain ⟨lo, hi, b1, -, b3⟩ := r3 h70
  obtain ⟨y1, y2, y3, y4⟩ := Rep_2 s4 (Or.inl rfl) b3
  have hsame : rSame M M0 (lo + 1) hi := fun i _ _ => ⟨by rw [kM 39 (by omega)], by rw [kM 40 (by omega)], by rw [kM 41 (by omega)], by rw [kM 42 (by omega)], by rw [kM 43 (by omega)], by rw [kM 44 (by omega)]⟩
  have y5 := Rep_same hsame (by omega) y4
  obtain ⟨c, e1, e2⟩ := Rep_1 (st := 7) y5 (by omega) (by omega)
  obtain ⟨M2, w1, w2⟩ := gWait (x := M 41 lo) (st := 7) (c := c) m0 (by simp) e1
  have run := (rEvN hB 301).2 (B 4) s4 g4 0 0 M2 (fun _ => 0) (M0 57) (zS0 G C nm) [] [] [] [] (lo + 1) hi (M 41 lo) c _ (by omega) (by omega) (Or.inl ⟨k57, rfl⟩) y5 e1 e2 (by omega) w2 (by show 0 + tw (B 4) 1 ≤ 160 * 1; omega) (by show 0 + td (B 4) 1 ≤ 76 * 1; omega) (Or.inl rfl)
  have r6 := evN6 (J := J) (B := B) 301 0 0 (B 4) 1 (zS0 G C nm)
  generalize evN J B 301 0 0 (B 4) 1 (zS0 G C nm) = r at *
  obtain ⟨i1, M3, k3, i2, i4, i5, i6⟩ := run
  have px : ∀ k, k < 1000 → rX M0 M3 r.2.2 k → (∀ N n, F_R_work_p67 N (n + 1) M3 = some (1, zup M3 34 45 (nI k))) := fun k hk q N n => by
    have ne : ¬ nI k = (-4 : Int32) := fun z => absurd (show nI k < 0 by rw [z]; decide) (nI_pos (n := k) (by omega))
    have p77 : F_R_work_p77 N M3 = some (1, zup M3 34 45 (nI k)) := by
      unfold F_R_work_p77 F_R_work_p86
      rw [q.2.1, if_neg ne, zset_eq]
    rw [F_R_work_p67, q.2.1, if_neg ne, p77]
    split <;> rfl
  have up : ∀ k, (rDt M3 r.2.2 ∧ rFr M0 M3) → rX M0 (zup M3 34 45 (nI k)) r.2.2 k := fun k q => by
    obtain ⟨⟨a1, a2, a3, a4, a5, a6, a7⟩, f1, f2⟩ := q
    refine ⟨⟨fun i hi => ?_, fun i hi => ?_, fun i hi => ?_, ?_, ?_, ?_, a7⟩, ?_, fun a q1 q2 => ?_, fun j q => ?_⟩
    · rw [zup_ne (by omega)]; exact a1 i hi
    · rw [zup_ne (by omega)]; exact a2 i hi
    · rw [zup_ne (by omega)]; exact a3 i hi
    · rw [z34 (by omega)]; exact a4
    · rw [z34 (by omega)]; exact a5
    · rw [z34 (by omega)]; exact a6
    · rw [zup_self, pk_us]
    · rw [zup_ne q1]; exact f1 a q1 q2
    · rw [z34 (fun z => q (by unfold r7; omega))]; exact f2 j q
  have fin : ∃ M4, (∀ N n, F_R_work_p67 N (n + 1) M3 = some (1, M4)) ∧ rX M0 M4 r.2.2 (zEnd r) := by
    unfold zEnd
    by_cases q0 : r.1 = 0
    · have i4 := i4 q0
      rw [if_pos (by omega)]
      refine ⟨_, fun N n => ?_, up 0 ⟨i4.1, i4.2.2.2.2.2.2.2⟩⟩
      have e33 : M3 34 33 = nI 0 := i4.2.2.1.1
      rw [F_R_work_p67, e33, if_pos (show nI 0 ≤ 0 by decide)]
      unfold F_R_work_p77 F_R_work_p86
      rw [i4.2.1.2, if_pos rfl, zset_eq]
      rfl
    · by_cases q1 : r.1 = 1
      · rw [if_pos (by omega)]
        have x := (i5 q1).1 rfl
        exact ⟨_, px 0 (by omega) x, up 0 ⟨x.1, x.2.2⟩⟩
      · rw [if_neg (by omega)]
        have x := i6 (by omega)
        exact ⟨_, fun N n => px (r.1 - 2) (by omega) x N n, up (r.1 - 2) ⟨x.1, x.2.2⟩⟩
  obtain ⟨M4, z1, z2, z3, z4, z5⟩ := fin
  refine ⟨M4, k3 + 5000, fun N hN => ?_, ⟨z2, z3⟩, fun a q1 q2 => ?_, fun j q => ?_⟩
  · show F_R_work_p8 N N M1 (nI 0) = _
    rw [x1 N N (by omega)]
    obtain ⟨n, rfl⟩ : ∃ n, N = n + 20 := ⟨N - 20, by omega⟩
    rw [show n + 20 - 16 = (n + 3) + 1 by omega, F_R_work_p8, if_pos (show (16 : Int32) ≤ nI 16 by decide)]
    rw [zset_eq, zset_eq, zset_eq, show (0 : Int32) = nI 0 from rfl, zix_nI _ (by omega) (by omega), nI_clamp (by omega), zset_eq, zset_eq, zset_eq, zset_eq, zset_eq]
    show zix (M0 34 24) 400 (zbv (F_R_wait M0 (M0 41 (M0 34 24).toNatClampNeg) 7) fun M19 => F_R_work_p67 (n + 20) (n + 20) M19) = _
    have e24 : M0 34 24 = nI lo := by rw [k34 24 (by unfold r7; omega), hk34 24 (by omega)]; exact y1
    rw [e24, zix_nI _ (by omega) (by omega), nI_clamp (by omega), kM 41 (by omega), w1, zbv_some]
    have := i2 (n + 20) (n + 20 - k3) (by omega)
    rw [show n + 20 - k3 + k3 = n + 20 by omega] at this
    rw [this]
    obtain ⟨m, hm⟩ : ∃ m, n + 20 - k3 = m + 1 := ⟨n + 19 - k3, by omega⟩
    rw [hm]
    exact z1 _ m
  · rw [z4 a q1 q2]
    exact kA a q1 (by omega) (by omega) (by omega)
  · rw [z5 j q]
    exact k34 j q
