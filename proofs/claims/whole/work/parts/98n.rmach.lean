/-! THE REFERENCE'S RUN: its state against a state of the trees' run. W: what waits (code, height), vs: values, the top first -/
def rDt (M : zMem) (s : zE) : Prop := (∀ i, i < 8 → M 59 i = s.1 0 i) ∧ (∀ i, i < 16 → M 60 i = s.1 1 i) ∧ (∀ i, i < s.2.2.2 → M 58 i = s.1 4 i) ∧ M 34 42 = nI s.2.2.2 ∧ M 34 40 = nI s.2.1 ∧ M 34 39 = nI s.2.2.1 ∧ s.2.2.2 ≤ 20 ∧ s.2.1 ≤ 300 ∧ s.2.2.1 ≤ 20
def rWt (M : zMem) : List (Nat × Nat) → Prop
  | [] => True
  | w :: r => M 53 r.length = nI w.1 ∧ M 54 r.length = nI w.2 ∧ rWt M r
def rVs (M : zMem) : List Int32 → Prop
  | [] => True
  | v :: r => M 55 r.length = v ∧ rVs M r
def r7 (j : Nat) : Prop := j = 33 ∨ j = 35 ∨ j = 38 ∨ j = 39 ∨ j = 40 ∨ j = 42 ∨ j = 45
def rFr (M0 M : zMem) : Prop := (∀ a, a ≠ 34 → (a < 53 ∨ 60 < a) → M a = M0 a) ∧ ∀ j, ¬ r7 j → M 34 j = M0 34 j
def rM (M0 M : zMem) (L P : Nat → Int32) (s : zE) (d : Nat) (W : List (Nat × Nat)) (vs : List Int32) : Prop :=
  rDt M s ∧ (M 34 38 = nI d ∧ M 34 45 = -4) ∧ (M 34 33 = nI W.length ∧ rWt M W) ∧ (M 34 35 = nI vs.length ∧ rVs M vs) ∧ (0 < d → ∀ i, i < 8 → M 56 (8 * d + i) = s.1 2 i) ∧ (∀ i, 8 ≤ i → i < 8 * d → M 56 i = L i) ∧ (∀ i, i ≤ d → M 57 i = P i) ∧ rFr M0 M
def rX (M0 M : zMem) (s : zE) (k : Nat) : Prop := rDt M s ∧ M 34 45 = nI k ∧ rFr M0 M
theorem rWt_same {M M' : zMem} : ∀ {W : List (Nat × Nat)}, (∀ i, i < W.length → M' 53 i = M 53 i ∧ M' 54 i = M 54 i) → rWt M W → rWt M' W
  | [], _, _ => trivial
  | w :: r, h, g => by
    obtain ⟨e1, e2⟩ := h r.length (by simp)
    exact ⟨by rw [e1]; exact g.1, by rw [e2]; exact g.2.1, rWt_same (fun i hi => h i (by simp; omega)) g.2.2⟩
theorem rVs_same {M M' : zMem} : ∀ {vs : List Int32}, (∀ i, i < vs.length → M' 55 i = M 55 i) → rVs M vs → rVs M' vs
  | [], _, _ => trivial
  | v :: r, h, g => ⟨by rw [h r.length (by simp)]; exact g.1, rVs_same (fun i hi => h i (by simp; omega)) g.2⟩
def rS (M M' : zMem) (k : Nat) : Prop := ∀ N n, 4000 ≤ N → F_R_work_p67 N (n + k) M = F_R_work_p67 N n M'
theorem rS_refl (M : zMem) : rS M M 0 := fun N n _ => rfl
theorem rS_trans {M M1 M2 : zMem} {k l : Nat} (h : rS M M1 k) (g : rS M1 M2 l) : rS M M2 (k + l) := fun N n hN => by
  rw [show n + (k + l) = (n + l) + k by omega, h N (n + l) hN, g N n hN]
section RM
variable {M0 M M' : zMem} {L P : Nat → Int32} {s s' : zE} {d c : Nat} {W W' : List (Nat × Nat)} {vs vs' : List Int32} {v : Int32} {w : Nat × Nat}
theorem rS_1 (h : rM M0 M L P s d (w :: W) vs) (hW : W.length < 3600) (g : ∀ N, 4000 ≤ N → F_R_goOn N M = some M') : rS M M' 1 := fun N n hN => by
  have h33 : M 34 33 = nI (W.length + 1) := h.2.2.1.1
  rw [F_R_work_p67, h33, if_neg (show ¬ nI (W.length + 1) ≤ 0 from nI_ge (a := 0) (b := W.length + 1) (by omega) (by omega)), h.2.1.2, if_pos rfl, g N hN, zbv_some]
theorem rM_w (h : rM M0 M L P s d W vs) (hk : ∀ a j, a ≠ 53 → a ≠ 54 → ¬ (a = 34 ∧ j = 33) → M' a j = M a j) (h33 : M' 34 33 = nI W'.length) (hW : rWt M' W') : rM M0 M' L P s d W' vs := by
  obtain ⟨⟨a1, a2, a3, a4, a5, a6, a7⟩, ⟨b1, b2⟩, -, ⟨b3, b4⟩, c1, c2, c3, f1, f2⟩ := h
  refine ⟨⟨fun i hi => ?_, fun i hi => ?_, fun i hi => ?_, ?_, ?_, ?_, a7⟩, ⟨?_, ?_⟩, ⟨h33, hW⟩, ⟨?_, rVs_same (fun i _ => ?_) b4⟩, fun q i hi => ?_, fun i h8 hi => ?_, fun i hi => ?_, fun a q1 q2 => ?_, fun j q => ?_⟩
  · rw [hk 59 i (by omega) (by omega) (by omega)]; exact a1 i hi
  · rw [hk 60 i (by omega) (by omega) (by omega)]; exact a2 i hi
  · rw [hk 58 i (by omega) (by omega) (by omega)]; exact a3 i hi
  · rw [hk 34 42 (by omega) (by omega) (by omega)]; exact a4
  · rw [hk 34 40 (by omega) (by omega) (by omega)]; exact a5
  · rw [hk 34 39 (by omega) (by omega) (by omega)]; exact a6
  · rw [hk 34 38 (by omega) (by omega) (by omega)]; exact b1
  · rw [hk 34 45 (by omega) (by omega) (by omega)]; exact b2
  · rw [hk 34 35 (by omega) (by omega) (by omega)]; exact b3
  · rw [hk 55 i (by omega) (by omega) (by omega)]
  · rw [hk 56 _ (by omega) (by omega) (by omega)]; exact c1 q i hi
  · rw [hk 56 _ (by omega) (by omega) (by omega)]; exact c2 i h8 hi
  · rw [hk 57 _ (by omega) (by omega) (by omega)]; exact c3 i hi
  · rw [← f1 a q1 q2]; funext j; exact hk a j (by omega) (by omega) (by omega)
  · rw [← f2 j q]; exact hk 34 j (by omega) (by omega) (fun z => q (by unfold r7; omega))
theorem rM_v (h : rM M0 M L P s d W vs) (hk : ∀ a j, a ≠ 55 → ¬ (a = 34 ∧ j = 35) → M' a j = M a j) (h35 : M' 34 35 = nI vs'.length) (hV : rVs M' vs') : rM M0 M' L P s d W vs' := by
  obtain ⟨⟨a1, a2, a3, a4, a5, a6, a7⟩, ⟨b1, b2⟩, ⟨b3, b4⟩, -, c1, c2, c3, f1, f2⟩ := h
  refine ⟨⟨fun i hi => ?_, fun i hi => ?_, fun i hi => ?_, ?_, ?_, ?_, a7⟩, ⟨?_, ?_⟩, ⟨?_, rWt_same (fun i _ => ?_) b4⟩, ⟨h35, hV⟩, fun q i hi => ?_, fun i h8 hi => ?_, fun i hi => ?_, fun a q1 q2 => ?_, fun j q => ?_⟩
  · rw [hk 59 i (by omega) (by omega)]; exact a1 i hi
  · rw [hk 60 i (by omega) (by omega)]; exact a2 i hi
  · rw [hk 58 i (by omega) (by omega)]; exact a3 i hi
  · rw [hk 34 42 (by omega) (by omega)]; exact a4
  · rw [hk 34 40 (by omega) (by omega)]; exact a5
  · rw [hk 34 39 (by omega) (by omega)]; exact a6
  · rw [hk 34 38 (by omega) (by omega)]; exact b1
  · rw [hk 34 45 (by omega) (by omega)]; exact b2
  · rw [hk 34 33 (by omega) (by omega)]; exact b3
  · exact ⟨hk 53 i (by omega) (by omega), hk 54 i (by omega) (by omega)⟩
  · rw [hk 56 _ (by omega) (by omega)]; exact c1 q i hi
  · rw [hk 56 _ (by omega) (by omega)]; exact c2 i h8 hi
  · rw [hk 57 _ (by omega) (by omega)]; exact c3 i hi
  · rw [← f1 a q1 q2]; funext j; exact hk a j (by omega) (by omega)
  · rw [← f2 j q]; exact hk 34 j (by omega) (fun z => q (by unfold r7; omega))
theorem rM_s (h : rM M0 M L P s d W vs) (hd : rDt M' s') (hk : ∀ j, j = 33 ∨ j = 35 ∨ j = 38 ∨ j = 45 → M' 34 j = M 34 j) (h5 : M' 53 = M 53 ∧ M' 54 = M 54 ∧ M' 55 = M 55 ∧ M' 57 = M 57) (h56 : 0 < d → ∀ i, i < 8 → M' 56 (8 * d + i) = s'.1 2 i) (hl : ∀ i, 8 ≤ i → i < 8 * d → M' 56 i = M 56 i) (hf : ∀ a, a ≠ 34 → (a < 53 ∨ 60 < a) → M' a = M a) (hf2 : ∀ j, ¬ r7 j → M' 34 j = M 34 j) : rM M0 M' L P s' d W vs := by
  obtain ⟨-, ⟨b1, b2⟩, ⟨b3, b4⟩, ⟨b5, b6⟩, c1, c2, c3, f1, f2⟩ := h
  obtain ⟨h53, h54, h55, h57⟩ := h5
  exact ⟨hd, ⟨by rw [hk 38 (by omega)]; exact b1, by rw [hk 45 (by omega)]; exact b2⟩, ⟨by rw [hk 33 (by omega)]; exact b3, rWt_same (fun i _ => ⟨by rw [h53], by rw [h54]⟩) b4⟩, ⟨by rw [hk 35 (by omega)]; exact b5, rVs_same (fun i _ => by rw [h55]) b6⟩, h56, fun i h8 hi => by rw [hl i h8 hi]; exact c2 i h8 hi, fun i hi => by rw [h57]; exact c3 i hi, fun a q1 q2 => by rw [hf a q1 q2]; exact f1 a q1 q2, fun j q => by rw [hf2 j q]; exact f2 j q⟩
theorem rM_ext (h : rM M0 M L P s d W vs) (h1 : ∀ a i, a ≠ 2 ∨ (0 < d ∧ i < 8) → s'.1 a i = s.1 a i) (h2 : s'.2 = s.2) : rM M0 M L P s' d W vs := by
  obtain ⟨⟨a1, a2, a3, a4⟩, b, c1, c2, c3, c4⟩ := h
  refine ⟨⟨fun i hi => ?_, fun i hi => ?_, fun i hi => ?_, ?_⟩, b, c1, c2, fun q i hi => ?_, c4⟩
  · rw [h1 0 i (Or.inl (by omega))]; exact a1 i hi
  · rw [h1 1 i (Or.inl (by omega))]; exact a2 i hi
  · rw [h1 4 i (Or.inl (by omega))]; exact a3 i (by rw [h2] at hi; exact hi)
  · rw [h2]; exact a4
  · rw [h1 2 i (Or.inr ⟨q, hi⟩)]; exact c3 q i hi
theorem z34 {j i : Nat} {w : Int32} (h : j ≠ i) : zup M 34 i w 34 j = M 34 j := by rw [zup_ap, if_pos rfl, if_neg h]
/-- one more waits -/
theorem gWait {x st : Int32} (h : rM M0 M L P s d W vs) (hW : W.length < 3599) (hx : (8 : Int32) * (x + 1) + st = nI c) : ∃ M', F_R_wait M x st = some M' ∧ rM M0 M' L P s d ((c, vs.length) :: W) vs := by
  have h33 := h.2.2.1.1
  have h35 := h.2.2.2.1.1
  refine ⟨zup (zup (zup M 53 W.length (nI c)) 54 W.length (nI vs.length)) 34 33 (nI (W.length + 1)), ?_, rM_w h (fun a j q1 q2 q3 => ?_) ?_ ⟨?_, ?_, rWt_same (fun i hi => ⟨?_, ?_⟩) h.2.2.1.2⟩⟩
  · unfold F_R_wait
    have e1 : zup M 53 W.length (nI c) 34 33 = nI W.length := by rw [zup_ne (by omega)]; exact h33
    have e2 : zup M 53 W.length (nI c) 34 35 = nI vs.length := by rw [zup_ne (by omega)]; exact h35
    have e3 : zup (zup M 53 W.length (nI c)) 54 W.length (nI vs.length) 34 33 = nI W.length := by rw [zup_ne (by omega), zup_ne (by omega)]; exact h33
    rw [h33, zix_nI _ (by omega) (by omega), nI_clamp (by omega), hx, zset_eq, e1, zix_nI _ (by omega) (by omega), nI_clamp (by omega), e2, zset_eq, zset_eq, e3, nI_1]
  · rw [zup_ap]
    by_cases q : a = 34
    · rw [if_pos q, if_neg (fun y => q3 ⟨q, y⟩), zup_ne q2, zup_ne q1]
    · rw [if_neg q, zup_ne q2, zup_ne q1]
  · rw [zup_self, pk_us]; rfl
  · rw [zup_ne (by omega), zup_ne (by omega), zup_self, pk_us]
  · rw [zup_ne (by omega), zup_self, pk_us]
  · rw [zup_ne (by omega), zup_ne (by omega), zup_ap, if_pos rfl, if_neg (by omega)]
  · rw [zup_ne (by omega), zup_ap, if_pos rfl, if_neg (by omega), zup_ne (by omega)]
theorem gHold (h : rM M0 M L P s d W vs) (hv : vs.length < 3600) (v : Int32) : ∃ M', F_R_hold M v = some M' ∧ rM M0 M' L P s d W (v :: vs) := by
  have h35 := h.2.2.2.1.1
  refine ⟨zup (zup M 55 vs.length v) 34 35 (nI (vs.length + 1)), ?_, rM_v h (fun a j q1 q2 => ?_) ?_ ⟨?_, rVs_same (fun i hi => ?_) h.2.2.2.1.2⟩⟩
  · unfold F_R_hold
    have e : zup M 55 vs.length v 34 35 = nI vs.length := by rw [zup_ne (by omega)]; exact h35
    rw [h35, zix_nI _ hv (by omega), nI_clamp (by omega), zset_eq, zset_eq, e, nI_1]
  · rw [zup_ap]
    by_cases q : a = 34
    · rw [if_pos q, if_neg (fun y => q2 ⟨q, y⟩), zup_ne q1]
    · rw [if_neg q, zup_ne q1]
  · rw [zup_self, pk_us]; rfl
  · rw [zup_ne (by omega), zup_self, pk_us]
  · rw [zup_ne (by omega), zup_ap, if_pos rfl, if_neg (by omega)]
theorem gRel (h : rM M0 M L P s d W (v :: vs)) (hv : vs.length < 3600) : ∃ M', F_R_release M = some (v, M') ∧ rM M0 M' L P s d W vs := by
  have h35 : M 34 35 = nI (vs.length + 1) := h.2.2.2.1.1
  refine ⟨zup M 34 35 (nI vs.length), ?_, rM_v h (fun a j q1 q2 => ?_) ?_ (rVs_same (fun i hi => ?_) h.2.2.2.1.2.2)⟩
  · unfold F_R_release
    have e : zup M 34 35 (nI vs.length) 34 35 = nI vs.length := by rw [zup_self, pk_us]
    rw [h35, show nI (vs.length + 1) - 1 = nI vs.length from nI_pred _, zset_eq, e, zix_nI _ hv (by omega), nI_clamp (by omega), zup_ne (by omega), h.2.2.2.1.2.1]
  · rw [zup_ap]
    by_cases q : a = 34
    · rw [if_pos q, if_neg (fun y => q2 ⟨q, y⟩)]
    · rw [if_neg q]
  · rw [zup_self, pk_us]
  · rw [zup_ne (by omega)]
/-- it ends -/
theorem gEnd45 (h : rM M0 M L P s d W vs) (k : Nat) : rX M0 (zup M 34 45 (nI k)) s k := by
  obtain ⟨a1, a2, a3, a4, a5, a6, a7⟩ := h.1
  obtain ⟨f1, f2⟩ := h.2.2.2.2.2.2.2
  refine ⟨⟨fun i hi => ?_, fun i hi => ?_, fun i hi => ?_, ?_, ?_, ?_, a7⟩, ?_, fun a q1 q2 => ?_, fun j q => ?_⟩
  · rw [zup_ne (by omega)]; exact a1 i hi
  · rw [zup_ne (by omega)]; exact a2 i hi
  · rw [zup_ne (by omega)]; exact a3 i hi
  · rw [z34 (by omega)]; exact a4
  · rw [z34 (by omega)]; exact a5
  · rw [z34 (by omega)]; exact a6
  · rw [zup_self, pk_us]
  · rw [zup_ne q1]; exact f1 a q1 q2
  · rw [z34 (fun z => q (by unfold r7; omega))]; exact f2 j q
theorem gTurn (h : rM M0 M L P s d W vs) : (s.2.1 = 300 → ∃ M', F_R_takeTurn M = some (0, M') ∧ rX M0 M' s 1) ∧ (¬ s.2.1 = 300 → ∃ M', F_R_takeTurn M = some (1, M') ∧ rM M0 M' L P (vTurn s) d W vs) := by
  obtain ⟨a1, a2, a3, a4, a5, a6, a7, a8, a9⟩ := h.1
  constructor
  · intro q
    refine ⟨_, ?_, gEnd45 h 1⟩
    unfold F_R_takeTurn
    rw [a5, q, if_pos (show nI 300 = (300 : Int32) from rfl), zset_eq]
    rfl
  · intro q
    refine ⟨zup M 34 40 (nI (s.2.1 + 1)), ?_, rM_s h ⟨fun i hi => ?_, fun i hi => ?_, fun i hi => ?_, ?_, ?_, ?_, a7, ?_, a9⟩ (fun j hj => z34 (by omega)) ⟨zup_ne (by omega), zup_ne (by omega), zup_ne (by omega), zup_ne (by omega)⟩ (fun q i hi => ?_) (fun i h8 hi => ?_) (fun a q1 q2 => zup_ne q1) (fun j q => z34 (fun z => q (by unfold r7; omega)))⟩
    · unfold F_R_takeTurn
      rw [a5, if_neg (show ¬ nI s.2.1 = (300 : Int32) from nIne (c := 300) (by omega) (by omega) q), zset_eq, nI_1]
    · rw [zup_ne (by omega)]; exact a1 i hi
    · rw [zup_ne (by omega)]; exact a2 i hi
    · rw [zup_ne (by omega)]; exact a3 i hi
    · rw [z34 (by omega)]; exact a4
    · rw [zup_self, pk_us]; rfl
    · rw [z34 (by omega)]; exact a6
    · show s.2.1 + 1 ≤ 300; omega
    · rw [zup_ne (by omega)]; exact h.2.2.2.2.1 q i hi
    · rw [zup_ne (by omega)]
/-- the top is taken off -/
theorem gPop (h : rM M0 M L P s d (w :: W) vs) (hW : W.length < 3600) : rM M0 (zup M 34 33 (nI W.length)) L P s d W vs := by
  refine rM_w h (fun a j q1 q2 q3 => ?_) ?_ (rWt_same (fun i hi => ?_) h.2.2.1.2.2.2)
  · rw [zup_ap]
    by_cases q : a = 34
    · rw [if_pos q, if_neg (fun y => q3 ⟨q, y⟩)]
    · rw [if_neg q]
  · rw [zup_self, pk_us]
  · rw [zup_ne (by omega), zup_ne (by omega)]; exact ⟨rfl, rfl⟩
end RM
