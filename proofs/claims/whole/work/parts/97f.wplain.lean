/-! the plain form is written -/
section WQ
variable {M0 : zMem} {ts : List Nat} {J : zJ} {B : Nat → T}
theorem rWrite {M : zMem} {t : T} {lo hi : Nat} {r : Int32} {e : List Nat} (hst : wSt M0 M [] e) (hs : sh t 2 = true) (h4 : hi ≤ 400) (hr : Rep M0 t 2 lo hi r) (he : e.length + (Wr t 5).length ≤ 160) : ∃ M' N0, (∀ N, N0 ≤ N → F_R_write N M r = some M') ∧ wSt M0 M' [] (e ++ Wr t 5) := by
  obtain ⟨i, rfl, hi4, -, hw⟩ := pK_of (pAll (tsz t) t (Nat.le_refl _)).2.1 hs _ _ _ h4 hr
  have e5 : M 34 5 = 0 := hst.1
  have hM : zup M 34 5 0 = M := by
    funext a j
    rw [zup_ap]
    by_cases c : a = 34
    · rw [if_pos c]
      by_cases c2 : j = 5
      · rw [if_pos c2, c, c2, e5]
      · rw [if_neg c2]
    · rw [if_neg c]
  obtain ⟨M2, a1, a2⟩ := rTask (6000 + i) hst.1 hst.2.1 (by simp)
  obtain ⟨M3, k, b1, b2⟩ := hw M2 [] e (wSt_push hst a2) (by simp <;> omega) he
  refine ⟨M3, k + 1, fun N hN => ?_, b2⟩
  unfold F_R_write
  rw [zset_eq, hM, show (6000 : Int32) = nI 6000 from rfl, nI_add, a1, zbv_some]
  obtain ⟨n, hn⟩ : ∃ n, N = (n + 1) + k := ⟨N - k - 1, by omega⟩
  have := b1 N (n + 1)
  rw [← hn] at this
  rw [this, F_R_write_p8, if_pos (show M3 34 5 ≤ 0 by rw [show M3 34 5 = nI 0 from b2.1]; decide)]
theorem hdW_in : ∀ (f a : Nat), (hdW (tok ts) f a).length < f → a + (hdW (tok ts) f a).length < ts.length
  | 0, a, h => by omega
  | f + 1, a, h => by
    simp only [hdW] at h ⊢
    by_cases c : tok ts a = 171
    · rw [if_pos c]
      exact tok_in (pl := a) (by rw [c]; decide)
    · rw [if_neg c] at h ⊢
      simp only [List.length_cons] at h ⊢
      have := hdW_in f (a + 1) (by omega)
      omega
theorem rTx_at {M : zMem} (h : rTx M ts) {a : Nat} (ha : a < ts.length) : M 35 a = nI (tok ts a) ∧ tok ts a < 174 := by
  obtain ⟨t, t1, t2, t3⟩ := h.2.2 a ha
  have e : tok ts a = t := by unfold tok; rw [List.getD_eq_getElem?_getD, t1]; rfl
  rw [e]
  exact ⟨t3, t2⟩
def wFin (N : Nat) (rec : zMem → Int32 → Option (Int32 × zMem)) (M : zMem) (d : Nat) : Option (Int32 × zMem) :=
  zbv (F_R_emit M (171 : Int32)) fun M2 => zix (nI d) 30 (zbv (F_R_write N M2 (M2 51 (nI d).toNatClampNeg)) fun M5 => zbv (F_R_emit M5 (163 : Int32)) fun M7 => rec M7 (nI d + (1 : Int32)))
theorem rHeadW (hx : rTx M0 ts) (d : Nat) : ∀ (f a : Nat) (M : zMem) (e : List Nat), wSt M0 M [] e → (hdW (tok ts) f a).length < f → e.length + (hdW (tok ts) f a).length < 160 → ∃ M', wSt M0 M' [] (e ++ hdW (tok ts) f a) ∧ ∀ N rec n, (hdW (tok ts) f a).length < n → F_R_writePlain_p20 N rec n M (nI d) (nI a) = wFin N rec M' d
  | 0, a, M, e, _, h, _ => by omega
  | f + 1, a, M, e, hst, h, he => by
    have hin := hdW_in (ts := ts) (f + 1) a h
    have hl := hx.2.1
    have h35 : M 35 a = nI (tok ts a) := by
      rw [hst.2.2.2.2.1 35 (by omega) (by omega) (by omega)]
      exact (rTx_at hx (by omega)).1
    have ht := (rTx_at hx (show a < ts.length by omega)).2
    simp only [hdW] at h he ⊢
    by_cases c : tok ts a = 171
    · rw [if_pos c]
      refine ⟨M, by rw [List.append_nil]; exact hst, fun N rec n hn => ?_⟩
      obtain ⟨n, rfl⟩ : ∃ n', n = n' + 1 := ⟨n - 1, by omega⟩
      rw [F_R_writePlain_p20, zix_nI _ (by omega) (by omega), nI_clamp (by omega), h35, c, if_pos (show nI 171 = 171 from rfl)]
      rfl
    · rw [if_neg c] at h he ⊢
      simp only [List.length_cons] at h he ⊢
      obtain ⟨M1, a1, a2⟩ := wEmit (y := tok ts a) hst (by omega)
      obtain ⟨M', b1, b2⟩ := rHeadW hx d f (a + 1) M1 (e ++ [tok ts a]) a2 (by omega) (by simp <;> omega)
      refine ⟨M', by rw [List.append_assoc] at b1; exact b1, fun N rec n hn => ?_⟩
      obtain ⟨n, rfl⟩ : ∃ n', n = n' + 1 := ⟨n - 1, by omega⟩
      rw [F_R_writePlain_p20, zix_nI _ (by omega) (by omega), nI_clamp (by omega), h35, if_neg (show ¬ nI (tok ts a) = 171 from nIne (c := 171) (by omega) (by omega) c), zix_nI _ (by omega) (by omega), a1, zbv_some, nI_1, b2 N rec n (by omega)]
theorem pw_mono (tx : Nat → Nat) : ∀ (d k : Nat), (pw tx J B d).length ≤ (pw tx J B (d + k)).length
  | d, 0 => Nat.le_refl _
  | d, k + 1 => by
    refine Nat.le_trans (pw_mono tx d k) ?_
    show _ ≤ (pw tx J B (d + k) ++ _).length
    rw [List.length_append]
    omega
theorem rPlain (h : RD M0 ts J B) (hB : ∀ d, d < J 4 3 → sh (B (10 + d)) 2 = true) (h4 : sh (B 4) 2 = true) (hlen : (pfW (tok ts) J B).length ≤ 150) : ∀ (k d : Nat) (M : zMem), d + k = J 4 3 → wSt M0 M [] (pw (tok ts) J B d) → ∃ M' N0, (∀ N, N0 ≤ N → ∀ n, k < n → F_R_writePlain_p11 N n M (nI d) = some (1, M')) ∧ wSt M0 M' [] (pfW (tok ts) J B)
  | 0, d, M, hd, hst => by
    obtain ⟨h1, h2, h3, ⟨⟨j1, j2, j3', j4, j5, j6, j27⟩, -⟩, ⟨r1, r2, r3, r4⟩, h70, iv, h6, h50⟩ := h
    have hl := h1.2.1
    have hd : d = J 4 3 := by omega
    subst hd
    have el : (pw (tok ts) J B (J 4 3)).length + ((Wr (B 4) 5).length + 2) ≤ 150 := by
      have := hlen
      unfold pfW at this
      simp only [List.length_append, List.length_cons, List.length_nil] at this
      omega
    obtain ⟨M1, a1, a2⟩ := wEmit (y := 171) hst (by omega)
    obtain ⟨lo, hi, b1, b2, b3⟩ := r3 h70
    obtain ⟨M2, N0, c1, c2⟩ := rWrite a2 h4 (by omega) b3 (by simp <;> omega)
    obtain ⟨M3, d1, d2⟩ := wEmit (y := 163) c2 (by simp <;> omega)
    refine ⟨M3, N0, fun N hN n hn => ?_, ?_⟩
    · obtain ⟨n, rfl⟩ : ∃ n', n = n' + 1 := ⟨n - 1, by omega⟩
      have e24 : M1 34 24 = M0 34 24 := a2.2.2.2.2.2 24 (by omega) (by omega)
      rw [F_R_writePlain_p11, hst.2.2.2.2.2 27 (by omega) (by omega), j27, if_pos (nI_le (Nat.le_refl _) (by omega)), show F_R_emit M (171 : Int32) = some M1 from a1, zbv_some, e24, c1 N hN, zbv_some, show F_R_emit M2 (163 : Int32) = some M3 from d1, zbv_some]
    · unfold pfW
      simpa using d2
  | k + 1, d, M, hd, hst => by
    obtain ⟨h1, h2, h3, ⟨⟨j1, j2, j3', j4, j5, j6, j27⟩, ⟨j7, j8, j9⟩, jp, j50⟩, ⟨r1, r2, r3, r4⟩, h70, iv, h6, h50⟩ := id h
    have hl := h1.2.1
    have hd3 : d < J 4 3 := by omega
    obtain ⟨hw, hhw⟩ : ∃ hw, hw = hdW (tok ts) 150 (J 5 d) := ⟨_, rfl⟩
    have el : (pw (tok ts) J B d).length + (hw.length + ((Wr (B (10 + d)) 5).length + 2)) ≤ 148 := by
      have q1 := pw_mono (J := J) (B := B) (tok ts) (d + 1) k
      rw [show d + 1 + k = J 4 3 by omega] at q1
      have q2 : pw (tok ts) J B (d + 1) = pw (tok ts) J B d ++ (hdW (tok ts) 150 (J 5 d) ++ (171 :: (Wr (B (10 + d)) 5 ++ [163]))) := rfl
      rw [q2, ← hhw] at q1
      unfold pfW at hlen
      simp only [List.length_append, List.length_cons, List.length_nil] at hlen q1
      omega
    obtain ⟨M1, a1, a2⟩ := rHeadW h1 d 150 (J 5 d) M _ hst (by rw [← hhw]; omega) (by rw [← hhw]; omega)
    rw [← hhw] at a1 a2
    obtain ⟨M2, b1, b2⟩ := wEmit (y := 171) a1 (by simp <;> omega)
    obtain ⟨lo, hi, c1, c2, c3⟩ := r1 d hd3
    obtain ⟨M3, N1, d1, d2⟩ := rWrite b2 (hB d hd3) (by omega) c3 (by simp <;> omega)
    obtain ⟨M4, e1, e2⟩ := wEmit (y := 163) d2 (by simp <;> omega)
    obtain ⟨M', N0, f1, f2⟩ := rPlain h hB h4 hlen k (d + 1) M4 (by omega) (by
      show wSt M0 M4 [] (pw (tok ts) J B d ++ (hdW (tok ts) 150 (J 5 d) ++ (171 :: (Wr (B (10 + d)) 5 ++ [163]))))
      rw [← hhw]
      simpa using e2)
    refine ⟨M', N0 + N1 + 151, fun N hN n hn => ?_, f2⟩
    obtain ⟨n, rfl⟩ : ∃ n', n = n' + 1 := ⟨n - 1, by omega⟩
    have e50 : M 50 d = nI (J 5 d) := by
      rw [hst.2.2.2.2.1 50 (by omega) (by omega) (by omega)]
      exact j50 d (by omega) (by omega)
    have e51 : M2 51 d = M0 51 d := by rw [b2.2.2.2.2.1 51 (by omega) (by omega) (by omega)]
    rw [F_R_writePlain_p11, hst.2.2.2.2.2 27 (by omega) (by omega), j27, if_neg (nI_ge hd3 (by omega)), zix_nI _ (by omega) (by omega), nI_clamp (by omega), e50, a2 N _ N (by omega)]
    unfold wFin
    rw [show F_R_emit M1 (171 : Int32) = some M2 from b1, zbv_some, zix_nI _ (by omega) (by omega), nI_clamp (by omega), e51, d1 N (by omega), zbv_some, show F_R_emit M3 (163 : Int32) = some M4 from e1, zbv_some, nI_1, f1 N (by omega) n (by omega)]
/-- the reference's plain form of a program that it has read -/
theorem rPlainAll (h : RD M0 ts J B) (hB : ∀ d, d < J 4 3 → sh (B (10 + d)) 2 = true) (h4 : sh (B 4) 2 = true) (hlen : (pfW (tok ts) J B).length ≤ 150) : ∃ M' N0, (∀ N, N0 ≤ N → F_R_writePlain_p11 N N (zup M0 34 30 0) 0 = some (1, M')) ∧ M' 34 30 = nI (pfW (tok ts) J B).length ∧ (∀ i (h : i < (pfW (tok ts) J B).length), M' 52 i = nI (pfW (tok ts) J B)[i]) ∧ (∀ a, a ≠ 34 → a ≠ 38 → a ≠ 52 → M' a = M0 a) ∧ ∀ j, j ≠ 5 → j ≠ 30 → M' 34 j = M0 34 j := by
  have h5 : M0 34 5 = 0 := h.2.2.2.2.2.2.2.2
  have hst : wSt M0 (zup M0 34 30 0) [] (pw (tok ts) J B 0) := ⟨by rw [zup_ap, if_pos rfl, if_neg (by omega)]; exact h5, trivial, by rw [zup_ap, if_pos rfl, if_pos rfl]; rfl, fun i hi => absurd hi (by simp [pw]), fun a q1 q2 q3 => by funext j; rw [zup_ap, if_neg q1], fun j q1 q2 => by rw [zup_ap, if_pos rfl, if_neg q2]⟩
  obtain ⟨M', N0, a1, a2⟩ := rPlain h hB h4 hlen (J 4 3) 0 _ (by omega) hst
  exact ⟨M', N0 + J 4 3 + 1, fun N hN => a1 N (by omega) N (by omega), a2.2.2.1, a2.2.2.2.1, a2.2.2.2.2.1, a2.2.2.2.2.2⟩
end WQ
