def zDv (z : zZ) : Prop := zID (inP z.1 z.2.2.1) z.2.2.2.1
theorem sFin3_k {J : zJ} {B : Nat → T} {tr : List T} {a i : Nat} (h : a = 1 ∨ a = 2 ∨ (a = 4 ∧ i ≠ 3)) : (sFin 3000 tr J B).2.1 a i = J a i := by
  show (if J 4 2 = 0 then _ else _ : List T × zJ × (Nat → T)).2.1 a i = _
  split
  · show jup (jup (jup J 4 3 (J 4 3 + 1)) 3 (J 4 0) (J 4 1)) 6 (J 4 0) 1 a i = _
    rw [jup_ne (by omega), jup_ne (by omega), jup_ne (by omega)]
  · show jup J 4 3 (J 4 3 + 1) a i = _
    rw [jup_ne (by omega)]
theorem sFin2_k {J : zJ} {B : Nat → T} {tr : List T} {a i : Nat} (h : a ≠ 7) : (sFin 2000 tr J B).2.1 a i = J a i := by
  show jup J 7 0 1 a i = _
  rw [jup_ne (by omega)]
theorem zDv_head {t pl nx : Nat} {J : zJ} {B : Nat → T} {z' : zZ} (hn : nx ≤ 8) (h : zIv (nx, [], [], J, B)) (g : zDv (nx, [], [], J, B)) (e : zStep t pl (nx, [], [], J, B) = some z') : zDv z' := by
  obtain ⟨-, h⟩ := h
  have h : zIJ (inP nx []) J B := h
  have g : zID (inP nx []) J := g
  have hip := inP_h hn
  have go : ∀ {nx' : Nat}, nx' ≤ 8 → (2 ≤ nx' → 2 ≤ nx) → zDv (nx', [], [], J, B) := fun q1 q2 => zID_A g (fun _ => ⟨rfl, rfl⟩) rfl rfl rfl rfl (fun q => hip.mpr (q2 ((inP_h q1).mp q)))
  have i9 : ∀ {k : Nat}, inP 9 [(k, 0, [.var 99])] → k = 14 := fun {k} q => by
    have : bot [(k, 0, [.var 99])] = k := rfl
    unfold inP at q
    rw [this] at q
    omega
  have beg : ∀ {k : Nat}, (k = 14 → 2 ≤ nx) → zDv (9, [], [(k, 0, [.var 99])], ndn J 1, B) := fun q => by
    have hA : jA J (ndn J 1) := (jA.refl J).ndn
    exact zID_A g (fun i => ⟨hA 1 i (by omega), hA 2 i (by omega)⟩) (hA 4 0 (by omega)) (hA 4 1 (by omega)) (hA 4 2 (by omega)) (hA 4 4 (by omega)) (fun w => hip.mpr (q (i9 w)))
  have nm : ∀ {x nx' : Nat}, x = 220 ∨ x = 221 → 2 ≤ nx → zHead x nx' t pl J B = some z' → zDv z' := by
    intro x nx' q1 q2 q5
    obtain ⟨J1, e1, rfl⟩ := zHead_some q5
    exact zID_name q1 (hip.mpr q2) g h e1
  have nn : (none : Option zZ) = some z' → zDv z' := fun q => nomatch q
  have ic : ∀ {c : Prop} [Decidable c] {a b : Option zZ}, (a = some z' → zDv z') → (b = some z' → zDv z') → (if c then a else b) = some z' → zDv z' := by
    intro c _ a b q1 q2 q3
    by_cases w : c
    · rw [if_pos w] at q3; exact q1 q3
    · rw [if_neg w] at q3; exact q2 q3
  have ss : ∀ {z : zZ}, zDv z → some z = some z' → zDv z' := fun q1 q2 => by cases q2; exact q1
  have cs : nx = 0 ∨ nx = 1 ∨ nx = 2 ∨ nx = 3 ∨ nx = 4 ∨ nx = 5 ∨ nx = 6 ∨ nx = 7 ∨ nx = 8 := by omega
  rcases cs with rfl | rfl | rfl | rfl | rfl | rfl | rfl | rfl | rfl
  · exact ic (ss (go (by omega) (by omega))) (ic (ss (beg (by omega))) nn) e
  · obtain ⟨J1, e1, rfl⟩ := zHead_some (show zHead 219 2 t pl J B = some z' from e)
    exact zID_proc g h e1
  · exact ic (ss (go (by omega) (by omega))) nn e
  · exact ic (ss (go (by omega) (by omega))) (nm (by omega) (by omega)) e
  · exact nm (by omega) (by omega) e
  · exact ic (ss (go (by omega) (by omega))) (ic (ss (go (by omega) (by omega))) nn) e
  · exact ic (ss (go (by omega) (by omega))) (ic (ss (beg (by omega))) nn) e
  · exact nm (by omega) (by omega) e
  · exact ic (ss (go (by omega) (by omega))) (ic (ss (beg (by omega))) nn) e
theorem zDv_step {t pl : Nat} {z z' : zZ} (hp : pl < 150) (hg : zGd z) (hb : zBd pl z) (h : zIv z) (g : zDv z) (e : zStep t pl z = some z') : zDv z' := by
  obtain ⟨nx, cs, fs, J, B⟩ := z
  by_cases c : nx ≤ 8
  · have hg' := hg
    simp only [zGd] at hg'
    rw [if_pos (Or.inl c)] at hg'
    obtain ⟨rfl, rfl⟩ := hg'
    exact zDv_head c h g e
  · obtain ⟨J1, hJ, q⟩ := zStepJ (show 9 ≤ nx by omega) z' e
    obtain ⟨b1, b2, b3⟩ := zStepB (show 9 ≤ nx by omega) hg rfl z' e
    have g0 : zID (inP nx fs) J := g
    have g1 : zID (inP nx fs) J1 := zID_A g0 (fun i => ⟨hJ 1 i (by omega), hJ 2 i (by omega)⟩) (hJ 4 0 (by omega)) (hJ 4 1 (by omega)) (hJ 4 2 (by omega)) (hJ 4 4 (by omega)) (fun w => w)
    obtain ⟨nx', cs', fs', J', B'⟩ := z'
    rcases q with ⟨q1, q2, q3⟩ | ⟨tr, ⟨q1, q2⟩ | ⟨q1, q2⟩⟩
    · have h9 : 9 ≤ nx' := q1
      have bb : bot fs' = bot fs := b3 (show nx' ≠ 0 by omega) q2
      have hJB : J' = J1 := congrArg Prod.fst q3
      subst hJB
      refine zID_A g1 (fun _ => ⟨rfl, rfl⟩) rfl rfl rfl rfl fun (w : inP nx' fs') => ?_
      unfold inP at w ⊢
      rw [bb] at w
      omega
    · have q1 : nx' = 0 := q1
      subst q1
      have hJB : J' = (sFin 3000 tr J1 B).2.1 := congrArg Prod.fst q2
      subst hJB
      exact zID_A g1 (fun i => ⟨sFin3_k (by omega), sFin3_k (by omega)⟩) (sFin3_k (by omega)) (sFin3_k (by omega)) (sFin3_k (by omega)) (sFin3_k (by omega)) fun (w : inP 0 fs') => by unfold inP at w; omega
    · have hJB : J' = (sFin 2000 tr J1 B).2.1 := congrArg Prod.fst q2
      subst hJB
      have q1 : nx' = 24 := q1
      subst q1
      have k2 : ∀ a i, a ≠ 7 → (sFin 2000 tr J1 B).2.1 a i = J1 a i := fun a i q => sFin2_k (J := J1) (B := B) (tr := tr) q
      refine zID_A g1 (fun i => ⟨k2 1 i (by omega), k2 2 i (by omega)⟩) (k2 4 0 (by omega)) (k2 4 1 (by omega)) (k2 4 2 (by omega)) (k2 4 4 (by omega)) fun (w : inP 24 fs') => ?_
      obtain ⟨k1, -⟩ := zStep_ok (t := t) hp hg hb _ e
      simp only [zGd] at k1
      rw [if_pos (Or.inr trivial)] at k1
      rw [k1.2] at w
      have : bot [] = 0 := rfl
      unfold inP at w
      omega
theorem zDv_rd : ∀ (r : List Nat) (pl : Nat) (z z' : zZ), pl + r.length ≤ 150 → zGd z → zBd pl z → zIv z → zDv z → zRd r pl z = .inr z' → zDv z'
  | [], pl, z, z', _, _, _, _, h, e => by cases e; exact h
  | t :: r, pl, z, z', hl, hg, hb, h, g, e => by
    simp only [List.length_cons] at hl
    have e : (match zStep t pl z with | some z1 => zRd r (pl + 1) z1 | none => .inl pl) = .inr z' := e
    cases s : zStep t pl z with
    | none => rw [s] at e; cases e
    | some z1 =>
      rw [s] at e
      obtain ⟨k1, k2⟩ := zStep_ok (t := t) (by omega) hg hb z1 s
      exact zDv_rd r (pl + 1) z1 z' (by omega) k1 k2 (zIv_step (by omega) hg hb h s) (zDv_step (by omega) hg hb h g s) e
/-- at a program's end with no fault in heads: the parameters of each proc differ -/
theorem zDist {ts : List Nat} {p o g : Nat} {B : Nat → T} {z : zZ} (hl : ts.length ≤ 150) (e : zRd ts 0 (z0 p o g B) = .inr z) : z.2.2.2.1 4 4 = 0 → ∀ p i j, i < j → j < z.2.2.2.1 1 p → z.2.2.2.1 2 (8 * p + i) ≠ z.2.2.2.1 2 (8 * p + j) := by
  refine (zDv_rd ts 0 (z0 p o g B) z (by omega) z0_ok.1 z0_ok.2 zIv_0 ?_ e).2
  have e1 : ∀ q, sJ0 p o g 1 q = 0 := fun q => by unfold sJ0; rw [if_neg (by omega), if_neg (by omega), if_neg (by omega)]
  refine ⟨fun _ (w : inP 0 []) => by unfold inP at w; omega, fun _ q i j _ (w : j < sJ0 p o g 1 q) => ?_⟩
  rw [e1] at w
  omega
