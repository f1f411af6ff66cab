/-! THE CLASS READS A TEXT AS Z DOES: any token; all tokens -/
section HI
variable {M M' : zMem} {tx : Nat → Nat} {N n len pl t nx a : Nat} {J J' : zJ} {B : Nat → T}
theorem cHead (hp : pl < len) (hl : len ≤ 150) (h1 : M 1 pl = nI t) (htx : tx pl = t) (ht : t < 174) (hn : nx ≤ 8) (hb : zBd pl (nx, [], [], J, B)) (h : Hz M tx pl (nx, [], [], J, B)) : cNext N n M tx len nx pl (zStep t pl (nx, [], [], J, B)) := by
  have hpl : pl < 150 := by omega
  have g5 : ∀ p, J 1 p ≤ pl - 1 := hb.2.2.2.2.1
  -- one token more in the head
  have go : ∀ {nx' k : Nat}, t = k → nx' ≤ 8 → F_Pars_acceptInHead M (nI nx) (nI t) (nI pl) = some (nI nx', M) → (t ≠ 171 ∧ t ≠ 121 ∧ isOp t = false) → nx' ≠ 0 → (nx' = 1 → nx = 0) → (2 ≤ nx' → 2 ≤ nx) → cNext N n M tx len nx pl (some (nx', [], [], J, B)) := by
    intro nx' k _ h8 e a1 a2 a3 a4
    refine ⟨M, ?_, Cz_h h8 (zNil_h (by show nx' ≤ 9; omega)) (Hz_tok hpl htx a1 h a2 a3 a4), kR.refl M⟩
    rw [cHd hp hl hn h1 e, cGo (by omega)]
  have no : F_Pars_acceptInHead M (nI nx) (nI t) (nI pl) = some (-1, M) → cNext N n M tx len nx pl none := by
    intro e
    exact ⟨M, by rw [cHd hp hl hn h1 e, cRef], kR.refl M⟩
  have te : ∀ {k : Nat}, t = k → nI t = nI k := fun q => by rw [q]
  have tn : ∀ {k : Nat}, k < 1000 → ¬ t = k → ¬ nI t = nI k := fun hk q => nIne (by omega) hk q
  have beg : ∀ {nx0 : Nat}, nx = nx0 → 2 ≤ nx → F_Pars_acceptInHead M (nI nx) (nI t) (nI pl) = F_Pars_beginBody M (nI t) → cNext N n M tx len nx pl (if t = 171 then some (9, [], [(14, 0, [.var 99])], ndn J 1, B) else none) := by
    intro nx0 _ h2 e
    by_cases q : t = 171
    · rw [if_pos q]
      obtain ⟨M2, e2, b1, b2⟩ := cBeg hpl htx h2 h q
      refine ⟨M2, ?_, ⟨zNil_h (by show (9 : Nat) ≤ 9; omega), ?_⟩, b2⟩
      · rw [cHd hp hl hn h1 (e.trans e2), cGo (by omega)]
      · rw [if_neg (show ¬ (9 : Nat) = 24 by decide), if_neg (show ¬ (9 : Nat) ≤ 8 by decide)]
        exact b1
    · rw [if_neg q]
      exact no (e.trans (cBegNo (by omega) q).1)
  have nam : ∀ {x nx' : Nat}, (x = 220 ∧ nx' = 5) ∨ (x = 221 ∧ nx' = 8) → 2 ≤ nx → F_Pars_acceptInHead M (nI nx) (nI t) (nI pl) = (if x = 220 then F_Pars_parameter M (nI t) (nI pl) else F_Pars_local M (nI t) (nI pl)) → cNext N n M tx len nx pl (zHead x nx' t pl J B) := by
    intro x nx' hx h2 e
    have := cNames hx h2 hpl htx ht g5 h
    unfold zHead
    generalize sNames x t pl J = o at this
    cases o with
    | none => exact no (e.trans this)
    | some J1 =>
      obtain ⟨M2, e2, b1, b2⟩ := this
      refine ⟨M2, ?_, Cz_h (by show nx' ≤ 8; omega) (zNil_h (by show nx' ≤ 9; omega)) b1, b2⟩
      rw [cHd hp hl hn h1 (e.trans e2), cGo (by omega)]
  have acc := accH (M := M) (t := t) (pl := pl) nx hn
  rcases (show nx = 0 ∨ nx = 1 ∨ nx = 2 ∨ nx = 3 ∨ nx = 4 ∨ nx = 5 ∨ nx = 6 ∨ nx = 7 ∨ nx = 8 by omega) with rfl | rfl | rfl | rfl | rfl | rfl | rfl | rfl | rfl
  · show cNext N n M tx len 0 pl (if t = 170 then _ else if t = 171 then _ else _)
    rw [if_pos rfl] at acc
    by_cases q : t = 170
    · rw [if_pos q]
      exact go q (by omega) (by rw [acc, if_pos (show nI t = (170 : Int32) from te (k := 170) q)]; rfl) ⟨by omega, by omega, by rw [q]; rfl⟩ (by omega) (fun _ => rfl) (fun z => by omega)
    · rw [if_neg q]
      rw [if_neg (show ¬ nI t = (170 : Int32) from tn (k := 170) (by omega) q)] at acc
      by_cases q2 : t = 171
      · rw [if_pos q2]
        obtain ⟨M2, e2, b1, b2⟩ := cMain hpl htx h q2
        refine ⟨M2, ?_, ⟨zNil_h (by show (9 : Nat) ≤ 9; omega), ?_⟩, b2⟩
        · rw [cHd hp hl hn h1 (acc.trans e2), cGo (by omega)]
        · rw [if_neg (show ¬ (9 : Nat) = 24 by decide), if_neg (show ¬ (9 : Nat) ≤ 8 by decide)]
          exact b1
      · rw [if_neg q2]
        exact no (acc.trans (cBegNo (by omega) q2).2)
  · rw [if_neg (by omega), if_pos rfl] at acc
    show cNext N n M tx len 1 pl (zHead 219 2 t pl J B)
    have := cName hpl htx ht h
    unfold zHead
    generalize sNames 219 t pl J = o at this
    cases o with
    | none => exact no (acc.trans this)
    | some J1 =>
      obtain ⟨M2, e2, b1, b2⟩ := this
      refine ⟨M2, ?_, Cz_h (by show 2 ≤ 8; omega) (zNil_h (by show 2 ≤ 9; omega)) b1, b2⟩
      rw [cHd hp hl hn h1 (acc.trans e2), cGo (by omega)]
  · rw [if_neg (by omega), if_neg (by omega), if_pos rfl] at acc
    show cNext N n M tx len 2 pl (if t = 122 then _ else _)
    by_cases q : t = 122
    · rw [if_pos q]
      exact go q (by omega) (by rw [acc, if_pos (show nI t = (122 : Int32) from te (k := 122) q)]; rfl) ⟨by omega, by omega, by rw [q]; rfl⟩ (by omega) (fun z => by omega) (fun z => by omega)
    · rw [if_neg q]
      exact no (by rw [acc, if_neg (show ¬ nI t = (122 : Int32) from tn (k := 122) (by omega) q)])
  · rw [if_neg (by omega), if_neg (by omega), if_neg (by omega), if_pos rfl] at acc
    show cNext N n M tx len 3 pl (if t = 123 then _ else _)
    by_cases q : t = 123
    · rw [if_pos q]
      exact go q (by omega) (by rw [acc, if_pos (show nI t = (123 : Int32) from te (k := 123) q)]; rfl) ⟨by omega, by omega, by rw [q]; rfl⟩ (by omega) (fun z => by omega) (fun z => by omega)
    · rw [if_neg q]
      exact nam (Or.inl ⟨rfl, rfl⟩) (by omega) (by rw [acc, if_neg (show ¬ nI t = (123 : Int32) from tn (k := 123) (by omega) q), if_pos rfl])
  · rw [if_neg (by omega), if_neg (by omega), if_neg (by omega), if_neg (by omega), if_pos rfl] at acc
    exact nam (Or.inl ⟨rfl, rfl⟩) (by omega) (by rw [acc, if_pos rfl])
  · rw [if_neg (by omega), if_neg (by omega), if_neg (by omega), if_neg (by omega), if_neg (by omega), if_pos rfl] at acc
    show cNext N n M tx len 5 pl (if t = 124 then _ else if t = 123 then _ else _)
    by_cases q : t = 124
    · rw [if_pos q]
      exact go q (by omega) (by rw [acc, if_pos (show nI t = (124 : Int32) from te (k := 124) q)]; rfl) ⟨by omega, by omega, by rw [q]; rfl⟩ (by omega) (fun z => by omega) (fun z => by omega)
    · rw [if_neg q]
      rw [if_neg (show ¬ nI t = (124 : Int32) from tn (k := 124) (by omega) q)] at acc
      by_cases q2 : t = 123
      · rw [if_pos q2]
        exact go q2 (by omega) (by rw [acc, if_pos (show nI t = (123 : Int32) from te (k := 123) q2)]; rfl) ⟨by omega, by omega, by rw [q2]; rfl⟩ (by omega) (fun z => by omega) (fun z => by omega)
      · rw [if_neg q2]
        exact no (by rw [acc, if_neg (show ¬ nI t = (123 : Int32) from tn (k := 123) (by omega) q2)])
  · rw [if_neg (by omega), if_neg (by omega), if_neg (by omega), if_neg (by omega), if_neg (by omega), if_neg (by omega), if_pos rfl] at acc
    show cNext N n M tx len 6 pl (if t = 172 then _ else _)
    by_cases q : t = 172
    · rw [if_pos q]
      exact go q (by omega) (by rw [acc, if_pos (show nI t = (172 : Int32) from te (k := 172) q)]; rfl) ⟨by omega, by omega, by rw [q]; rfl⟩ (by omega) (fun z => by omega) (fun z => by omega)
    · rw [if_neg q]
      exact beg rfl (by omega) (by rw [acc, if_neg (show ¬ nI t = (172 : Int32) from tn (k := 172) (by omega) q)])
  · rw [if_neg (by omega), if_neg (by omega), if_neg (by omega), if_neg (by omega), if_neg (by omega), if_neg (by omega), if_neg (by omega), if_pos rfl] at acc
    exact nam (Or.inr ⟨rfl, rfl⟩) (by omega) (by rw [acc, if_neg (by omega)])
  · rw [if_neg (by omega), if_neg (by omega), if_neg (by omega), if_neg (by omega), if_neg (by omega), if_neg (by omega), if_neg (by omega), if_neg (by omega)] at acc
    show cNext N n M tx len 8 pl (if t = 124 then _ else _)
    by_cases q : t = 124
    · rw [if_pos q]
      exact go q (by omega) (by rw [acc, if_pos (show nI t = (124 : Int32) from te (k := 124) q)]; rfl) ⟨by omega, by omega, by rw [q]; rfl⟩ (by omega) (fun z => by omega) (fun z => by omega)
    · rw [if_neg q]
      exact beg rfl (by omega) (by rw [acc, if_neg (show ¬ nI t = (124 : Int32) from tn (k := 124) (by omega) q)])
theorem cAny {z : zZ} (hN : 300 < N) (hp : pl < len) (hl : len ≤ 150) (h1 : M 1 pl = nI t) (htx : tx pl = t) (ht : t < 174) (hg : zGd z) (hb : zBd pl z) (h : Cz M tx pl z) : cNext N n M tx len z.1 pl (zStep t pl z) := by
  obtain ⟨nx, cs, fs, J, B⟩ := z
  obtain ⟨hnil, h⟩ := h
  have hnx : nx ≤ 24 := zGd_nx hg
  show cNext N n M tx len nx pl _
  by_cases c24 : nx = 24
  · subst c24
    rw [if_pos rfl] at h
    obtain ⟨c, fl, cl, ow, s, k1, -⟩ := h
    have e : kTok 24 t (nI pl) ([], c, [], fl, cl, ow) = (99, [], c, [], fl, cl, ow) := by
      rw [kTok_n (by omega)]
      rfl
    obtain ⟨M', e1, k2, k3⟩ := cTok (n := n) (nx := 24) hN k1 (fun z => by omega) h1 ht hp hl (by omega) (by omega) (by rw [e]; exact Or.inl rfl)
    rw [e, if_pos rfl] at e1
    exact ⟨M', e1, kR_of k3⟩
  · rw [if_neg c24] at h
    by_cases c8 : nx ≤ 8
    · have h : Hz M tx pl (nx, cs, fs, J, B) := by
        have h : (if nx ≤ 8 then Hz M tx pl (nx, cs, fs, J, B) else _) := h
        rw [if_pos c8] at h
        exact h
      have hg2 := hg
      simp only [zGd] at hg2
      rw [if_pos (Or.inl c8)] at hg2
      obtain ⟨rfl, rfl⟩ := hg2
      exact cHead hp hl h1 htx ht c8 hb h
    · have h : Bz M tx pl (nx, cs, fs, J, B) := by
        have h : (if nx ≤ 8 then Hz M tx pl (nx, cs, fs, J, B) else Bz M tx pl (nx, cs, fs, J, B)) := h
        rw [if_neg c8] at h
        exact h
      exact cBody hN h1 htx ht hp hl (by omega) c24 hg hb hnil h
/-- all tokens -/
theorem cRd {ts : List Nat} (hN : 300 < N) (hl : ts.length ≤ 150) : ∀ (r : List Nat) (pl : Nat) (z : zZ) (M : zMem) (n : Nat), (∀ i, tok ts (pl + i) = r.getD i 999) → pl + r.length = ts.length → (∀ t ∈ r, t < 174) → (∀ i, i < ts.length → M 1 i = nI (tok ts i)) → zGd z → zBd pl z → Cz M (tok ts) pl z → r.length < n →
    match zRd r pl z with
    | .inl q => ∃ M', F_Pars_read_p10 N n M (nI ts.length) (nI z.1) (nI pl) = some (zup M' 14 1 (nI q)) ∧ kR M M'
    | .inr z' => ∃ M', F_Pars_read_p10 N n M (nI ts.length) (nI z.1) (nI pl) = F_Pars_read_p56 N M' (nI ts.length) (nI z'.1) ∧ Cz M' (tok ts) ts.length z' ∧ kR M M' ∧ zGd z' ∧ zBd ts.length z'
  | [], pl, z, M, n, h1, h2, h3, h4, h5, h6, h7, h8 => by
    obtain ⟨n, rfl⟩ : ∃ n', n = n' + 1 := ⟨n - 1, by simp at h8; omega⟩
    have e : pl = ts.length := by simpa using h2
    subst e
    refine ⟨M, ?_, h7, kR.refl M, h5, h6⟩
    rw [F_Pars_read_p10, if_pos (nI_le (Nat.le_refl _) (by omega))]
  | t :: r, pl, z, M, n, h1, h2, h3, h4, h5, h6, h7, h8 => by
    simp only [List.length_cons] at h2 h8
    obtain ⟨n, rfl⟩ : ∃ n', n = n' + 1 := ⟨n - 1, by omega⟩
    have t0 : tok ts pl = t := by have := h1 0; simpa using this
    have lt : t < 174 := h3 t (by simp)
    have hs := cAny (N := N) (n := n) (tx := tok ts) (len := ts.length) hN (by omega) hl (by rw [h4 pl (by omega), t0]) t0 lt h5 h6 h7
    show match (match zStep t pl z with | some z' => zRd r (pl + 1) z' | none => .inl pl) with | .inl q => _ | .inr z' => _
    have hok := zStep_ok (t := t) (pl := pl) (z := z) (by omega) h5 h6
    generalize zStep t pl z = o at hs hok
    cases o with
    | none => exact hs
    | some z1 =>
      obtain ⟨M1, e1, c1, k1⟩ := hs
      obtain ⟨w1, w2⟩ := hok z1 rfl
      have ih := cRd hN hl r (pl + 1) z1 M1 n (fun i => by have := h1 (i + 1); rw [show pl + 1 + i = pl + (i + 1) by omega, this]; simp) (by omega) (fun t ht => h3 t (by simp [ht])) (fun i hi => by rw [k1.1 1 (by omega)]; exact h4 i hi) w1 w2 c1 (by omega)
      revert ih
      show (match zRd r (pl + 1) z1 with | .inl q => _ | .inr z' => _) → match zRd r (pl + 1) z1 with | .inl q => _ | .inr z' => _
      cases zRd r (pl + 1) z1 with
      | inl q =>
        rintro ⟨M', a1, a2⟩
        exact ⟨M', e1.trans a1, k1.trans a2⟩
      | inr z' =>
        rintro ⟨M', a1, a2, a3, a4⟩
        exact ⟨M', e1.trans a1, a2, k1.trans a3, a4⟩
end HI
