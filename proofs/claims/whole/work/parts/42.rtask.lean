/-! THE REFERENCE'S TASKS: its array of tasks as a list -/
def rTk (M : zMem) : List Nat → Prop
  | [] => True
  | x :: l => M 38 l.length = nI x ∧ rTk M l
theorem rTk_congr {M M' : zMem} : ∀ {l : List Nat}, (∀ i, i < l.length → M' 38 i = M 38 i) → rTk M l → rTk M' l
  | [], _, _ => trivial
  | x :: l, h, hr => ⟨by rw [h l.length (by simp)]; exact hr.1, rTk_congr (fun i hi => h i (by simp; omega)) hr.2⟩
/-- tasks ks pushed on l: nothing else changes -/
def rPush (M M' : zMem) (ks l : List Nat) : Prop := M' 34 5 = nI (ks ++ l).length ∧ rTk M' (ks ++ l) ∧ (∀ a, a ≠ 38 → a ≠ 34 → M' a = M a) ∧ ∀ j, j ≠ 5 → M' 34 j = M 34 j
theorem rPush.trans {M M1 M2 : zMem} {a b l : List Nat} (h1 : rPush M M1 a l) (h2 : rPush M1 M2 b (a ++ l)) : rPush M M2 (b ++ a) l := by
  refine ⟨by rw [List.append_assoc]; exact h2.1, by rw [List.append_assoc]; exact h2.2.1, fun x p q => ?_, fun j hj => ?_⟩
  · rw [h2.2.2.1 x p q, h1.2.2.1 x p q]
  · rw [h2.2.2.2 j hj, h1.2.2.2 j hj]
theorem rTask {M : zMem} {l : List Nat} (x : Nat) (h0 : M 34 5 = nI l.length) (h1 : rTk M l) (hl : l.length < 1600) : ∃ M', F_R_task M (nI x) = some M' ∧ rPush M M' [x] l := by
  refine ⟨zup (zup M 38 l.length (nI x)) 34 5 (nI (l.length + 1)), ?_, ?_⟩
  · unfold F_R_task
    rw [h0, zix_nI _ hl (by omega), zset_eq, zset_eq, nI_clamp (by omega)]
    have e : zup M 38 l.length (nI x) 34 5 = nI l.length := by rw [zup_ap]; simp [h0]
    rw [e, show nI l.length + 1 = nI (l.length + 1) from nI_1 _]
  · refine ⟨?_, ?_, fun a p q => ?_, fun j hj => ?_⟩
    · simp [zup_ap]
    · refine ⟨by simp [zup_ap], rTk_congr (fun i hi => ?_) h1⟩
      simp [zup_ap]
      intro e
      have : i < l.length := hi
      omega
    · funext i
      simp [zup_ap, p, q]
    · simp [zup_ap, hj]
theorem nI_ge0 {x : Nat} (h : x < 2 ^ 31) : ¬ nI x < 0 := nI_pos h
section RTO
variable {M : zMem} {l : List Nat}
theorem rTasks1 (a : Nat) (h0 : M 34 5 = nI l.length) (h1 : rTk M l) (hl : l.length + 1 ≤ 1600) : ∃ M', F_R_tasksOf M (nI a) (-1) (-1) (-1) = some M' ∧ rPush M M' [a] l := by
  obtain ⟨M1, e1, p1⟩ := rTask a h0 h1 (by omega)
  refine ⟨M1, ?_, p1⟩
  simp [F_R_tasksOf, F_R_tasksOf_p5, F_R_tasksOf_p10, F_R_tasksOf_p15, e1, zbv_some]
theorem rTasks2 (a b : Nat) (h0 : M 34 5 = nI l.length) (h1 : rTk M l) (hl : l.length + 2 ≤ 1600) (hb : b < 2 ^ 31) : ∃ M', F_R_tasksOf M (nI a) (nI b) (-1) (-1) = some M' ∧ rPush M M' [a, b] l := by
  obtain ⟨M1, e1, p1⟩ := rTask b h0 h1 (by omega)
  obtain ⟨M2, e2, p2⟩ := rTask a p1.1 p1.2.1 (by simp; omega)
  refine ⟨M2, ?_, p1.trans p2⟩
  simp [F_R_tasksOf, F_R_tasksOf_p5, F_R_tasksOf_p10, F_R_tasksOf_p15, nI_ge0 hb, e1, e2, zbv_some]
theorem rTasks3 (a b c : Nat) (h0 : M 34 5 = nI l.length) (h1 : rTk M l) (hl : l.length + 3 ≤ 1600) (hb : b < 2 ^ 31) (hc : c < 2 ^ 31) : ∃ M', F_R_tasksOf M (nI a) (nI b) (nI c) (-1) = some M' ∧ rPush M M' [a, b, c] l := by
  obtain ⟨M0, e0, p0⟩ := rTask c h0 h1 (by omega)
  obtain ⟨M1, e1, p1⟩ := rTask b p0.1 p0.2.1 (by simp; omega)
  obtain ⟨M2, e2, p2⟩ := rTask a p1.1 p1.2.1 (by simp; omega)
  refine ⟨M2, ?_, p0.trans (p1.trans p2)⟩
  simp [F_R_tasksOf, F_R_tasksOf_p5, F_R_tasksOf_p10, F_R_tasksOf_p15, nI_ge0 hb, nI_ge0 hc, e0, e1, e2, zbv_some]
theorem rTasks4 (a b c d : Nat) (h0 : M 34 5 = nI l.length) (h1 : rTk M l) (hl : l.length + 4 ≤ 1600) (hb : b < 2 ^ 31) (hc : c < 2 ^ 31) (hd : d < 2 ^ 31) : ∃ M', F_R_tasksOf M (nI a) (nI b) (nI c) (nI d) = some M' ∧ rPush M M' [a, b, c, d] l := by
  obtain ⟨M0, e0, p0⟩ := rTask d h0 h1 (by omega)
  obtain ⟨M1, e1, p1⟩ := rTask c p0.1 p0.2.1 (by simp; omega)
  obtain ⟨M2, e2, p2⟩ := rTask b p1.1 p1.2.1 (by simp; omega)
  obtain ⟨M3, e3, p3⟩ := rTask a p2.1 p2.2.1 (by simp; omega)
  refine ⟨M3, ?_, p0.trans (p1.trans (p2.trans p3))⟩
  simp [F_R_tasksOf, F_R_tasksOf_p5, F_R_tasksOf_p10, F_R_tasksOf_p15, nI_ge0 hb, nI_ge0 hc, nI_ge0 hd, e0, e1, e2, e3, zbv_some]
end RTO
/-- the token as the reference sees it: -1 where there is none (999) -/
def tv (t : Nat) : Int32 := if t = 999 then -1 else nI t
def tok (ts : List Nat) (pl : Nat) : Nat := ts.getD pl 999
theorem tv_eq {t c : Nat} (ht : t < 2 ^ 31) (hc : c < 999) : tv t = nI c ↔ t = c := by
  unfold tv
  by_cases h : t = 999
  · rw [if_pos h]
    constructor
    · intro e
      exfalso
      have h1 := congrArg Int32.toInt e
      rw [nI_toInt (by omega)] at h1
      have h2 : (-1 : Int32).toInt = -1 := by decide
      omega
    · intro e
      omega
  · rw [if_neg h]
    exact nI_eq ht (by omega)
theorem tv_lt {t c : Nat} (ht : t < 2 ^ 31) (hc : c < 999) : tv t < nI c ↔ t < c ∨ t = 999 := by
  unfold tv
  by_cases h : t = 999
  · rw [if_pos h]
    have h2 : (-1 : Int32).toInt = -1 := by decide
    rw [Int32.lt_iff_toInt_lt, nI_toInt (by omega), h2]
    constructor
    · intro _; exact Or.inr h
    · intro _; omega
  · rw [if_neg h, nI_ltI ht (by omega)]
    omega
theorem tv_gt {t c : Nat} (ht : t < 2 ^ 31) (hc : c < 999) : nI c < tv t ↔ c < t ∧ t ≠ 999 := by
  unfold tv
  by_cases h : t = 999
  · rw [if_pos h]
    have h2 : (-1 : Int32).toInt = -1 := by decide
    rw [Int32.lt_iff_toInt_lt, nI_toInt (by omega), h2]
    constructor
    · intro _; omega
    · intro q; exact absurd h q.2
  · rw [if_neg h, nI_ltI (by omega) ht]
    omega
def b2i (b : Bool) : Int32 := if b then 1 else 0
theorem rIsIn (M : zMem) {t lo hi : Nat} (ht : t < 2 ^ 31) (h1 : lo < 999) (h2 : hi < 999) : F_R_isIn M (tv t) (nI lo) (nI hi) = some (b2i (decide (lo ≤ t) && decide (t ≤ hi)), M) := by
  unfold F_R_isIn b2i
  by_cases c1 : tv t < nI lo
  · rw [if_pos c1]
    rcases (tv_lt ht h1).mp c1 with q | q
    · simp [show ¬ lo ≤ t by omega]
    · simp [show ¬ t ≤ hi by omega]
  · rw [if_neg c1]
    have n1 : ¬ (t < lo ∨ t = 999) := fun q => c1 ((tv_lt ht h1).mpr q)
    by_cases c2 : nI hi < tv t
    · rw [if_pos c2]
      have := (tv_gt ht h2).mp c2
      simp [show ¬ t ≤ hi by omega]
    · rw [if_neg c2]
      have n2 : ¬ (hi < t ∧ t ≠ 999) := fun q => c2 ((tv_gt ht h2).mpr q)
      simp [show lo ≤ t by omega, show t ≤ hi by omega]
theorem rIsInN (M : zMem) {t lo hi : Nat} (ht : t < 2 ^ 31) (h1 : lo < 2 ^ 31) (h2 : hi < 2 ^ 31) : F_R_isIn M (nI t) (nI lo) (nI hi) = some (b2i (decide (lo ≤ t) && decide (t ≤ hi)), M) := by
  unfold F_R_isIn b2i
  simp only [nI_ltI ht h1, nI_ltI h2 ht]
  by_cases c1 : t < lo
  · simp [c1, show ¬ lo ≤ t by omega]
  · by_cases c2 : hi < t
    · simp [c1, c2, show ¬ t ≤ hi by omega]
    · simp [c1, c2, show lo ≤ t by omega, show t ≤ hi by omega]
