/-! WHAT HOLDS BETWEEN THE CALLS -/
theorem PQ_same {M M2 : zMem} {ts : List Nat} (h : ∀ a, 4 ≤ a ∧ a < 27 → M2 a = M a) (g : PQ M ts) : PQ M2 ts := by
  intro p o gg B
  have k := g p o gg B
  have e4 := h 4 (by omega)
  have e5 := h 5 (by omega)
  have e6 := h 6 (by omega)
  have e7 := h 7 (by omega)
  have e9 := h 9 (by omega)
  have e10 := h 10 (by omega)
  have e11 := h 11 (by omega)
  have e14 := h 14 (by omega)
  have e19 := h 19 (by omega)
  have e20 := h 20 (by omega)
  simp only [PRes, plL, Co, cCD, e4, e5, e6, e7, e9, e10, e11, e14, e19, e20]
  exact k
/-- the class's last run is what evN says, whatever the reference has left over -/
def cRan (M : zMem) (ts : List Nat) : Prop := ∃ nm : Nat → Int32, ∀ p o g (B : Nat → T) z, zRd ts 0 (z0 p o g B) = .inr z → z.1 = 24 → cRes M (evN z.2.2.2.1 z.2.2.2.2 301 0 0 (z.2.2.2.2 4) 1 (zS0 (M 2) (M 3) nm))
theorem cRan_same {M M2 : zMem} {ts : List Nat} (h : ∀ a, a < 34 → M2 a = M a) (g : cRan M ts) : cRan M2 ts := by
  obtain ⟨nm, k⟩ := g
  refine ⟨nm, fun p o gg B z h1 h2 => ?_⟩
  have k := k p o gg B z h1 h2
  have e2 := h 2 (by omega)
  have e3 := h 3 (by omega)
  have e27 := h 27 (by omega)
  have e28 := h 28 (by omega)
  have e29 := h 29 (by omega)
  have e30 := h 30 (by omega)
  rw [e2, e3]
  simp only [cRes, cDt, e27, e28, e29, e30]
  exact k
def Iv (M : zMem) (ts : List Nat) : Prop := iT M ts.length ∧ rTx M ts ∧ rG M ∧ (M 14 3 = 0 → PQ M ts) ∧ (M 27 7 = 0 → M 14 3 = 0 ∧ M 14 1 = -4 ∧ M 14 2 = -4 ∧ cRan M ts)
def Inv (M : zMem) : Prop := ∃ ts, Iv M ts
theorem Iv_ref {M M2 : zMem} {ts : List Nat} (h : Iv M ts) (hk : ∀ a, okR a → M2 a = M a) (h1 : rTx M2 ts) (h2 : rG M2) : Iv M2 ts := by
  obtain ⟨⟨a1, a2, a3, a4, a5, a6⟩, b1, b2, b3, b4⟩ := h
  have lt : ∀ a, a < 34 → M2 a = M a := fun a q => hk a (Or.inl q)
  refine ⟨⟨a1, by rw [lt 0 (by omega)]; exact a2, h1.1, fun i hi => ?_, fun g hg => ?_, fun i hi => ?_⟩, h1, h2, fun q => ?_, fun q => ?_⟩
  · rw [lt 1 (by omega), hk 35 (Or.inr (Or.inl rfl))]; exact a4 i hi
  · rw [lt 2 (by omega), hk 36 (Or.inr (Or.inr (Or.inl rfl)))]; exact a5 g hg
  · rw [lt 3 (by omega), hk 37 (Or.inr (Or.inr (Or.inr rfl)))]; exact a6 i hi
  · rw [lt 14 (by omega)] at q
    exact PQ_same (fun a q => lt a (by omega)) (b3 q)
  · rw [lt 27 (by omega)] at q
    rw [lt 14 (by omega)]
    obtain ⟨x1, x2, x3, x4⟩ := b4 q
    exact ⟨x1, x2, x3, cRan_same lt x4⟩
theorem Iv_tok {M : zMem} {ts : List Nat} (h : Iv M ts) : ts.length ≤ 150 ∧ (∀ t ∈ ts, t < 174) ∧ ∀ i, i < ts.length → M 1 i = nI (tok ts i) := by
  obtain ⟨⟨a1, a2, a3, a4, a5, a6⟩, ⟨b1, b2, b3⟩, -⟩ := h
  refine ⟨b2, fun t ht => ?_, fun i hi => ?_⟩
  · obtain ⟨i, hi, e⟩ := List.getElem_of_mem ht
    obtain ⟨t', e1, e2, -⟩ := b3 i hi
    rw [List.getElem?_eq_getElem hi] at e1
    have := Option.some.inj e1
    omega
  · obtain ⟨t', e1, e2, e3⟩ := b3 i hi
    rw [(a4 i hi).1, e3]
    unfold tok
    rw [List.getD_eq_getElem?_getD, e1]
    rfl
/-- the class has read the text -/
theorem Iv_rd {M : zMem} {ts : List Nat} (h : Iv M ts) {N : Nat} (hN : 300 < N) : ∃ Mf, F_Pars_read N M (M 0 5) = some Mf ∧ Iv Mf ts ∧ Mf 14 3 = 0 ∧ PQ Mf ts ∧ (∀ a, a ≤ 3 ∨ 25 ≤ a → Mf a = M a) := by
  have h0 := h
  obtain ⟨⟨a1, a2, a3, a4, a5, a6⟩, b1, b2, b3, b4⟩ := h
  obtain ⟨t1, t2, t3⟩ := Iv_tok h0
  by_cases q : M 14 3 = 0
  · refine ⟨M, ?_, h0, q, b3 q, fun _ _ => rfl⟩
    unfold F_Pars_read
    rw [if_pos q]
  · obtain ⟨Mf, f1, f2, f3, f4⟩ := cReadAll hN t1 t2 t3 q
    refine ⟨Mf, by rw [a2]; exact f1, ⟨⟨a1, by rw [f2 0 (by omega)]; exact a2, by rw [f2 34 (by omega)]; exact a3, fun i hi => ?_, fun g hg => ?_, fun i hi => ?_⟩, rTx_keep (f2 35 (by omega)) (by rw [f2 34 (by omega)]) b1, ?_, fun _ => f4, fun w => ?_⟩, f3, f4, f2⟩
    · rw [f2 1 (by omega), f2 35 (by omega)]; exact a4 i hi
    · rw [f2 2 (by omega), f2 36 (by omega)]; exact a5 g hg
    · rw [f2 3 (by omega), f2 37 (by omega)]; exact a6 i hi
    · obtain ⟨p, o, g, x1, x2, x3, x4, x5, x6⟩ := b2
      exact ⟨p, o, g, x1, x2, x3, by rw [f2 34 (by omega)]; exact x4, by rw [f2 34 (by omega)]; exact x5, by rw [f2 34 (by omega)]; exact x6⟩
    · rw [f2 27 (by omega)] at w
      exact absurd (b4 w).1 q
theorem zAns_c {ts : List Nat} {p o g : Nat} {B : Nat → T} (hl : ts.length ≤ 150) : (∃ z, zRd ts 0 (z0 p o g B) = .inr z ∧ z.1 = 24 ∧ zAns ts (zRd ts 0 (z0 p o g B)) = -4) ∨ ((∀ z, zRd ts 0 (z0 p o g B) = .inr z → ¬ z.1 = 24) ∧ ¬ zAns ts (zRd ts 0 (z0 p o g B)) = -4) := by
  have ne : ∀ k, k ≤ 150 → ¬ nI k = (-4 : Int32) := fun k hk z => absurd (show nI k < 0 by rw [z]; decide) (nI_pos (n := k) (by omega))
  cases hz : zRd ts 0 (z0 p o g B) with
  | inl q =>
    have := zRd_inl ts 0 _ q hz
    exact Or.inr ⟨fun z w => (by cases w), ne q (by omega)⟩
  | inr z =>
    by_cases c : z.1 = 24
    · exact Or.inl ⟨z, rfl, c, if_pos c⟩
    · refine Or.inr ⟨fun z' w => by cases w; exact c, ?_⟩
      show ¬ (if z.1 = 24 then (-4 : Int32) else nI ts.length) = -4
      rw [if_neg c]
      exact ne _ hl
/-- the reference reads the text -/
theorem Iv_R {M : zMem} {ts : List Nat} (h : Iv M ts) (B : Nat → T) : ∃ p o g M' N0, (∀ N, N0 ≤ N → F_R_readText N M = some (zAns ts (zRd ts 0 (z0 p o g B)), M')) ∧ Iv M' ts ∧ (∀ a, okR a → M' a = M a) ∧ ∀ z, zRd ts 0 (z0 p o g B) = .inr z → z.1 = 24 → RD M' ts z.2.2.2.1 z.2.2.2.2 := by
  obtain ⟨p, o, g, x1, x2, x3, x4, x5, x6⟩ := h.2.2.1
  obtain ⟨M', N0, f1, f2, f3, f4⟩ := rReadD h.2.1 x1 x2 x3 x4 x5 x6 B
  have fr : ∀ a, okR a → M' a = M a := fun a q => W_R_readText _ (f1 N0 (Nat.le_refl _)) a q
  exact ⟨p, o, g, M', N0, f1, Iv_ref h fr f2 f3, fr, f4⟩
section OB
variable {I : zMem → Prop} {Yc Yr : zY} {dc dr : Nat}
theorem ob0 (h : ∀ M, I M → ∃ r M1 M2, zGo Yc dc 0 (zal Yc [.inr 0]) [] M (some r) M1 ∧ zGo Yr dr 0 (zal Yr [.inr 34]) [] M1 (some r) M2 ∧ I M2) : zOb I Yc dc Yr dr 0 := fun M hM av ha => by
  match av, ha with
  | [], _ => exact h M hM
theorem ob1 (h : ∀ M x, I M → ∃ r M1 M2, zGo Yc dc 0 (zal Yc [.inr 0, .inl x]) [] M (some r) M1 ∧ zGo Yr dr 0 (zal Yr [.inr 34, .inl x]) [] M1 (some r) M2 ∧ I M2) : zOb I Yc dc Yr dr 1 := fun M hM av ha => by
  match av, ha with
  | [x], _ => exact h M x hM
theorem ob2 (h : ∀ M x y, I M → ∃ r M1 M2, zGo Yc dc 0 (zal Yc [.inr 0, .inl x, .inl y]) [] M (some r) M1 ∧ zGo Yr dr 0 (zal Yr [.inr 34, .inl x, .inl y]) [] M1 (some r) M2 ∧ I M2) : zOb I Yc dc Yr dr 2 := fun M hM av ha => by
  match av, ha with
  | [x, y], _ => exact h M x y hM
theorem ob4 (h : ∀ M x y z w, I M → ∃ r M1 M2, zGo Yc dc 0 (zal Yc [.inr 0, .inl x, .inl y, .inl z, .inl w]) [] M (some r) M1 ∧ zGo Yr dr 0 (zal Yr [.inr 34, .inl x, .inl y, .inl z, .inl w]) [] M1 (some r) M2 ∧ I M2) : zOb I Yc dc Yr dr 4 := fun M hM av ha => by
  match av, ha with
  | [x, y, z, w], _ => exact h M x y z w hM
end OB
theorem Iv_0 : Inv zM0 := by
  refine ⟨[], ⟨by simp, rfl, rfl, fun i hi => absurd hi (by simp), fun g _ => rfl, fun i _ => rfl⟩, ⟨rfl, by simp, fun i hi => absurd hi (by simp)⟩, ⟨0, 0, 0, by omega, by omega, by omega, rfl, rfl, rfl⟩, fun q => ?_, fun q => ?_⟩
  · exact absurd (show zM0 14 3 = 1 from rfl) (by rw [q]; decide)
  · exact absurd (show zM0 27 7 = 1 from rfl) (by rw [q]; decide)
theorem ob104 : zOb Inv Y_L_tokens 0 Y_R_tokens 0 0 := ob0 fun M ⟨ts, h⟩ => by
  obtain ⟨e1, e2⟩ := eTokens h.1
  exact ⟨nI ts.length, M, M, G_L_tokens (y := (nI ts.length, M)) e1, G_R_tokens (y := (nI ts.length, M)) e2, ts, h⟩
theorem ob118 : zOb Inv Y_L_prepare 0 Y_R_prepare 0 2 := ob2 fun M x y h => by
  obtain ⟨r, e1, e2⟩ := ePrepare (M := M) (a := x) (b := y)
  exact ⟨r, M, M, G_L_prepare (y := (r, M)) e1, G_R_prepare (y := (r, M)) e2, h⟩
theorem ob105 : zOb Inv Y_L_wrongAt 6 Y_R_wrongAt 5 0 := ob0 fun M ⟨ts, h⟩ => by
  obtain ⟨N, hN⟩ : ∃ N, 300 < N := ⟨301, by omega⟩
  obtain ⟨Mf, f1, f2, f3, f4, -⟩ := Iv_rd h hN
  obtain ⟨p, o, g, M', N0, g1, g2, -, -⟩ := Iv_R f2 (fun _ => .num 0)
  refine ⟨Mf 14 1, Mf, M', G_L_wrongAt (N := N) (y := (Mf 14 1, Mf)) ?_, G_R_wrongAt (N := N0) (y := (Mf 14 1, M')) ?_, ts, g2⟩
  · unfold F_L_wrongAt
    rw [f1, zbv_some]
  · unfold F_R_wrongAt
    rw [g1 N0 (Nat.le_refl _), zbi_some, (f4 p o g (fun _ => .num 0)).1]
