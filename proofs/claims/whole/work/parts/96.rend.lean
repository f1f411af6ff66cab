theorem inP_h {nx : Nat} (h : nx ≤ 8) : inP nx [] ↔ 2 ≤ nx := by
  unfold inP
  constructor
  · rintro (q | q)
    · exact q.1
    · omega
  · exact fun q => Or.inl ⟨q, h⟩
theorem zIJ_ip {ip ip' : Prop} {J : zJ} {B : Nat → T} (hi : ip ↔ ip') (h : zIJ ip J B) : zIJ ip' J B := zIJ_A h (jA.refl J) hi
theorem zHead_some {x nx t pl : Nat} {J : zJ} {B : Nat → T} {z' : zZ} (e : zHead x nx t pl J B = some z') : ∃ J1, sNames x t pl J = some J1 ∧ z' = (nx, [], [], J1, B) := by
  unfold zHead at e
  cases s : sNames x t pl J with
  | none => rw [s] at e; cases e
  | some J1 => rw [s] at e; exact ⟨J1, rfl, (Option.some.inj e).symm⟩
theorem zIv_head {t pl nx : Nat} {J : zJ} {B : Nat → T} {z' : zZ} (hn : nx ≤ 8) (hb : zBd pl (nx, [], [], J, B)) (h : zIv (nx, [], [], J, B)) (e : zStep t pl (nx, [], [], J, B) = some z') : zIv z' := by
  obtain ⟨-, h⟩ := h
  have h : zIJ (inP nx []) J B := h
  have hip := inP_h hn
  have go : ∀ {nx' : Nat}, nx' ≤ 8 → (2 ≤ nx ↔ 2 ≤ nx') → zIv (nx', [], [], J, B) := fun q1 q2 => ⟨fun (q : _ = 24) => by omega, zIJ_ip (hip.trans (q2.trans (inP_h q1).symm)) h⟩
  have i9 : ∀ {k : Nat}, inP 9 [(k, 0, [.var 99])] ↔ k = 14 := fun {k} => by
    have : bot [(k, 0, [.var 99])] = k := rfl
    unfold inP
    rw [this]
    omega
  have beg : ∀ {k : Nat}, (2 ≤ nx ↔ k = 14) → zIv (9, [], [(k, 0, [.var 99])], ndn J 1, B) := fun q => ⟨fun (q : 9 = 24) => by omega, zIJ_A h (jA.refl J).ndn (hip.trans (q.trans i9.symm))⟩
  have nm : ∀ {x nx' : Nat}, x = 220 ∨ x = 221 → 2 ≤ nx → 2 ≤ nx' → nx' ≤ 8 → zHead x nx' t pl J B = some z' → zIv z' := by
    intro x nx' q1 q2 q3 q4 q5
    obtain ⟨J1, e1, rfl⟩ := zHead_some q5
    exact ⟨fun (q : nx' = 24) => by omega, zIJ_name q1 (hip.mpr q2) ((inP_h q4).mpr q3) (hb.2.2.2.2.2 (hip.mpr q2)).2 h e1⟩
  have nn : (none : Option zZ) = some z' → zIv z' := fun q => nomatch q
  have ic : ∀ {c : Prop} [Decidable c] {a b : Option zZ}, (a = some z' → zIv z') → (b = some z' → zIv z') → (if c then a else b) = some z' → zIv z' := by
    intro c _ a b q1 q2 q3
    by_cases w : c
    · rw [if_pos w] at q3; exact q1 q3
    · rw [if_neg w] at q3; exact q2 q3
  have ss : ∀ {z : zZ}, zIv z → some z = some z' → zIv z' := fun q1 q2 => by cases q2; exact q1
  have cs : nx = 0 ∨ nx = 1 ∨ nx = 2 ∨ nx = 3 ∨ nx = 4 ∨ nx = 5 ∨ nx = 6 ∨ nx = 7 ∨ nx = 8 := by omega
  rcases cs with rfl | rfl | rfl | rfl | rfl | rfl | rfl | rfl | rfl
  · exact ic (ss (go (by omega) (by omega))) (ic (ss (beg (by omega))) nn) e
  · obtain ⟨J1, e1, rfl⟩ := zHead_some (show zHead 219 2 t pl J B = some z' from e)
    exact ⟨fun (q : 2 = 24) => by omega, zIJ_proc (fun q => by have := hip.mp q; omega) ((inP_h (by omega)).mpr (Nat.le_refl _)) h e1⟩
  · exact ic (ss (go (by omega) (by omega))) nn e
  · exact ic (ss (go (by omega) (by omega))) (nm (by omega) (by omega) (by omega) (by omega)) e
  · exact nm (by omega) (by omega) (by omega) (by omega) e
  · exact ic (ss (go (by omega) (by omega))) (ic (ss (go (by omega) (by omega))) nn) e
  · exact ic (ss (go (by omega) (by omega))) (ic (ss (beg (by omega))) nn) e
  · exact nm (by omega) (by omega) (by omega) (by omega) e
  · exact ic (ss (go (by omega) (by omega))) (ic (ss (beg (by omega))) nn) e
theorem zIv_step {t pl : Nat} {z z' : zZ} (hp : pl < 150) (hg : zGd z) (hb : zBd pl z) (h : zIv z) (e : zStep t pl z = some z') : zIv z' := by
  obtain ⟨nx, cs, fs, J, B⟩ := z
  by_cases c : nx ≤ 8
  · have hg' := hg
    simp only [zGd] at hg'
    rw [if_pos (Or.inl c)] at hg'
    obtain ⟨rfl, rfl⟩ := hg'
    exact zIv_head c hb h e
  · obtain ⟨J1, hJ, q⟩ := zStepJ (show 9 ≤ nx by omega) z' e
    obtain ⟨b1, b2, b3⟩ := zStepB (show 9 ≤ nx by omega) hg rfl z' e
    obtain ⟨k1, -⟩ := zStep_ok (t := t) hp hg hb z' e
    have hi : inP nx fs ↔ bot fs = 14 := by unfold inP; omega
    have h0 : zIJ (inP nx fs) J B := h.2
    obtain ⟨nx', cs', fs', J', B'⟩ := z'
    rcases q with ⟨q1, q2, q3⟩ | ⟨tr, ⟨q1, q2⟩ | ⟨q1, q2⟩⟩
    · have h9 : 9 ≤ nx' := q1
      have q2 : nx' ≠ 24 := q2
      have bb : bot fs' = bot fs := b3 (show nx' ≠ 0 by omega) q2
      have hJB : J' = J1 ∧ B' = B := ⟨congrArg Prod.fst q3, congrArg Prod.snd q3⟩
      obtain ⟨rfl, rfl⟩ := hJB
      refine ⟨fun (q : nx' = 24) => absurd q q2, zIJ_A h0 hJ ?_⟩
      show inP nx fs ↔ inP nx' fs'
      rw [hi]
      unfold inP
      rw [bb]
      omega
    · have q1 : nx' = 0 := q1
      subst q1
      have hJB : J' = (sFin 3000 tr J1 B).2.1 ∧ B' = (sFin 3000 tr J1 B).2.2 := ⟨congrArg Prod.fst q2, congrArg Prod.snd q2⟩
      obtain ⟨rfl, rfl⟩ := hJB
      refine ⟨fun (q : 0 = 24) => by omega, ?_⟩
      have := zIJ_fin3 (tr := tr) (hi.mpr (b1 rfl)) (zIJ_A h0 hJ Iff.rfl)
      refine zIJ_ip ?_ this
      show False ↔ inP 0 fs'
      exact ⟨False.elim, fun q => by unfold inP at q; omega⟩
    · have q1 : nx' = 24 := q1
      subst q1
      have hJB : J' = (sFin 2000 tr J1 B).2.1 ∧ B' = (sFin 2000 tr J1 B).2.2 := ⟨congrArg Prod.fst q2, congrArg Prod.snd q2⟩
      obtain ⟨rfl, rfl⟩ := hJB
      have b15 : bot fs = 15 := b2 rfl
      obtain ⟨w1, w2⟩ := zIJ_fin2 (tr := tr) (ip := inP nx fs) (fun q => by have := hi.mp q; omega) (zIJ_A h0 hJ Iff.rfl)
      refine ⟨fun _ => w2, zIJ_ip ?_ w1⟩
      show False ↔ inP 24 fs'
      have k1' := k1
      simp only [zGd] at k1'
      rw [if_pos (Or.inr trivial)] at k1'
      rw [k1'.2]
      have : bot [] = 0 := rfl
      exact ⟨False.elim, fun q => by unfold inP at q; omega⟩
theorem zIv_rd : ∀ (r : List Nat) (pl : Nat) (z z' : zZ), pl + r.length ≤ 150 → zGd z → zBd pl z → zIv z → zRd r pl z = .inr z' → zIv z'
  | [], pl, z, z', _, _, _, h, e => by cases e; exact h
  | t :: r, pl, z, z', hl, hg, hb, h, e => by
    simp only [List.length_cons] at hl
    have e : (match zStep t pl z with | some z1 => zRd r (pl + 1) z1 | none => .inl pl) = .inr z' := e
    cases s : zStep t pl z with
    | none => rw [s] at e; cases e
    | some z1 =>
      rw [s] at e
      obtain ⟨k1, k2⟩ := zStep_ok (t := t) (by omega) hg hb z1 s
      exact zIv_rd r (pl + 1) z1 z' (by omega) k1 k2 (zIv_step (by omega) hg hb h s) e
theorem zIv_0 {p o g : Nat} {B : Nat → T} : zIv (z0 p o g B) := by
  refine ⟨fun (q : 0 = 24) => by omega, ?_⟩
  have ip : ¬ inP 0 [] := by unfold inP; omega
  show zIJ (inP 0 []) (sJ0 p o g) B
  have e : ∀ a i, a ≠ 4 → sJ0 p o g a i = 0 := fun a i q => by unfold sJ0; rw [if_neg (by omega), if_neg (by omega), if_neg (by omega)]
  refine ⟨fun q hq => ?_, fun q _ hq => ?_, fun _ q => ?_, fun _ f => absurd f ip, fun f => absurd f ip, fun i => ?_, fun q _ => ?_, fun q => ?_, fun q => ?_⟩
  · rw [e 0 q (by omega)] at hq; omega
  · rw [e 6 q (by omega)] at hq; omega
  · rw [e 1 q (by omega)]; omega
  · rw [e 2 i (by omega)]; omega
  · rw [e 1 q (by omega)]
  · rw [e 0 q (by omega)]; omega
  · rw [e 3 q (by omega)]; omega
/-- the reference has read a program -/
def RD (M : zMem) (ts : List Nat) (J : zJ) (B : Nat → T) : Prop := rTx M ts ∧ M 34 14 = nI (J 4 5) ∧ J 4 5 ≤ 300 ∧ rJ M J ∧ rB M J B (J 4 5) ∧ J 7 0 = 1 ∧ zIJ False J B ∧ 6 * J 4 3 ≤ ts.length ∧ M 34 5 = 0
theorem rReadD {M : zMem} {ts : List Nat} (h : rTx M ts) {p o g : Nat} (hp : p < 4) (ho : o < 256) (hg : g ≤ 1) (h21 : M 34 21 = nI p) (h22 : M 34 22 = nI o) (h23 : M 34 23 = nI g) (B : Nat → T) :
    ∃ M' N0, (∀ N, N0 ≤ N → F_R_readText N M = some (zAns ts (zRd ts 0 (z0 p o g B)), M')) ∧ rTx M' ts ∧ rG M' ∧ ∀ z, zRd ts 0 (z0 p o g B) = .inr z → z.1 = 24 → RD M' ts z.2.2.2.1 z.2.2.2.2 := by
  obtain ⟨M', N0, h1, h2, h3, h4⟩ := rRead h hp ho hg h21 h22 h23 B
  have hl := h.2.1
  refine ⟨M', N0, h1, h2, h3, fun z hz h24 => ?_⟩
  obtain ⟨base, g1, g2, g3⟩ := h4 z hz h24
  have iv := zIv_rd ts 0 (z0 p o g B) z (by omega) z0_ok.1 z0_ok.2 zIv_0 hz
  obtain ⟨nx, cs, fs, J, B'⟩ := z
  have h24 : nx = 24 := h24
  subst h24
  simp only [zGd] at g2
  rw [if_pos (Or.inr trivial)] at g2
  obtain ⟨rfl, rfl⟩ := g2
  have g1 : RP M' ts ts.length ([], [], J, B') base := g1
  obtain ⟨a1, a2, a3, a4, a5, a6, ⟨b1, b2, b3, b4, b5⟩, c1, c2⟩ := g1
  have b5 : base = J 4 5 := b5
  subst b5
  have g3' := g3.2.2.1
  have d0 : dF [] = 0 := rfl
  have g3' : J 4 5 + dF [] ≤ 2 * ts.length := g3'
  have g4 : 6 * J 4 3 + hd 24 [] ≤ ts.length := g3.2.2.2.1
  refine ⟨h2, b3, show J 4 5 ≤ 300 by omega, c1, c2, iv.1 rfl, zIJ_ip ?_ iv.2, show 6 * J 4 3 ≤ ts.length by omega, a5⟩
  show inP 24 [] ↔ False
  have : bot [] = 0 := rfl
  exact ⟨fun q => by unfold inP at q; omega, False.elim⟩
theorem rFind {M : zMem} {ts : List Nat} {J : zJ} {B : Nat → T} (h : RD M ts J B) (hB : ∀ d, d < J 4 3 → sh (B (10 + d)) 2 = true) (h4 : sh (B 4) 2 = true) (hq : ∀ q c, allC J B q c → q / 4 < 150) : ∃ v, (∀ N, 402 < N → F_R_findFault_p8 N N M 0 = some (v, zup M 34 28 v)) ∧ FS J (allC J B) v := by
  obtain ⟨h1, h2, h3, ⟨j1, ⟨j2, j3, j4⟩, j5, j6⟩, ⟨r1, r2, r3, r4⟩, h70, iv, -⟩ := h
  have hH : (∀ i, i < J 4 5 → M 39 i = 3 → ∃ q c, allC J B q c ∧ nodC M i q c (J 4 5)) ∧ ∀ q c, allC J B q c → q / 4 < 150 ∧ ∃ i, i < J 4 5 ∧ nodC M i q c (J 4 5) := by
    refine ⟨fun i hi h39 => ?_, fun q c hqc => ⟨hq q c hqc, ?_⟩⟩
    · obtain ⟨t, lo, hi', n, a1, a2, a3, a4, a5, a6⟩ := r4 i hi
      rcases a1 with ⟨d, d1, rfl⟩ | ⟨-, rfl⟩
      · obtain ⟨q, c, x1, x2⟩ := (Rep_RC ⟨2, hB d d1⟩ a3).1 i a4 a5 h39
        exact ⟨q, c, Or.inl ⟨d, d1, x1⟩, nodC_le a6 x2⟩
      · obtain ⟨q, c, x1, x2⟩ := (Rep_RC ⟨2, h4⟩ a3).1 i a4 a5 h39
        exact ⟨q, c, Or.inr x1, nodC_le a6 x2⟩
    · rcases hqc with ⟨d, d1, x⟩ | x
      · obtain ⟨lo, hi, b1, b2, b3⟩ := r1 d d1
        obtain ⟨i, y1, y2, y3⟩ := (Rep_RC ⟨2, hB d d1⟩ b3).2 q c x
        exact ⟨i, by omega, nodC_le b1 y3⟩
      · obtain ⟨lo, hi, b1, b2, b3⟩ := r3 h70
        obtain ⟨i, y1, y2, y3⟩ := (Rep_RC ⟨2, h4⟩ b3).2 q c x
        exact ⟨i, by omega, nodC_le b1 y3⟩
  have hp : ∀ p, p < 4 → J 0 p ≤ 1 ∧ (M 46 p = -2 ↔ J 0 p = 0) ∧ M 47 p = nI (J 1 p) := by
    intro p hp
    obtain ⟨k1, k2, k3, k4, k5, k6, -⟩ := j5 p hp
    refine ⟨k1, ⟨fun q => ?_, k2⟩, k4⟩
    by_cases z : J 0 p = 0
    · exact z
    · exfalso
      have j6p : J 6 p = 1 := by
        rcases iv.1 p (by omega) with y | y
        · exact y
        · exact y.1.elim
      obtain ⟨lo, hi, b1, b2, b3⟩ := r2 p hp j6p
      have := (isL_lo b2 b3).2.1
      rw [this] at q
      have l2 := (isL_lo b2 b3).1
      have q2 := congrArg Int32.toInt q
      rw [nI_toInt (by omega)] at q2
      have : (-2 : Int32).toInt = -2 := by decide
      omega
  have hF : FS J (fun q c => allC J B q c ∧ ∃ j, j < 0 ∧ nodC M j q c (J 4 5)) (M 34 28) := by
    rw [j2]
    by_cases z : J 4 4 = 0
    · rw [if_pos z]
      exact Or.inl ⟨rfl, z, fun q c y => by obtain ⟨-, j, y, -⟩ := y; omega⟩
    · rw [if_neg z]
      refine Or.inr ⟨J 4 4 - 1, rfl, by omega, Or.inl (by omega), fun _ => by omega, fun q c y => ?_⟩
      obtain ⟨-, j, y, -⟩ := y
      omega
  obtain ⟨v, e1, e2⟩ := rFaults (N := 500) (by omega) (by omega) M hH hp (J 4 5) 0 500 M (by omega) (by omega) h2 (fun _ _ => rfl) hF
  refine ⟨v, fun N hN => ?_, e2⟩
  obtain ⟨w, f1, f2⟩ := rFaults (N := N) hN (by omega) M hH hp (J 4 5) 0 N M (by omega) (by omega) h2 (fun _ _ => rfl) hF
  rw [FS_uniq e2 f2]
  exact f1
