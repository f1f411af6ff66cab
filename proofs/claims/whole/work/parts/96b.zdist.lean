/-! where no head is at fault, the parameters of a proc differ -/
def zID (ip : Prop) (J : zJ) : Prop := (J 4 4 = 0 → ip → J 4 2 = 0 → ∀ i, i < J 1 (J 4 0) → J 4 1 / 2 ^ (J 2 (8 * J 4 0 + i)) % 2 = 1) ∧ (J 4 4 = 0 → ∀ p i j, i < j → j < J 1 p → J 2 (8 * p + i) ≠ J 2 (8 * p + j))
theorem bit_up : ∀ m, m < 256 → ∀ b, b < 8 → ((m ||| 2 ^ b) / 2 ^ b % 2 = 1) ∧ ∀ x, x < 8 → m / 2 ^ x % 2 = 1 → (m ||| 2 ^ b) / 2 ^ x % 2 = 1 := by decide +kernel
theorem zID_A {ip ip' : Prop} {J J' : zJ} (h : zID ip J) (e0 : ∀ i, J' 1 i = J 1 i ∧ J' 2 i = J 2 i) (e1 : J' 4 0 = J 4 0) (e2 : J' 4 1 = J 4 1) (e3 : J' 4 2 = J 4 2) (e4 : J' 4 4 = J 4 4) (hi : ip' → ip) : zID ip' J' := by
  refine ⟨fun q1 q2 q3 i q4 => ?_, fun q1 p i j q2 q3 => ?_⟩
  · rw [e4] at q1
    rw [e3] at q3
    rw [e1, (e0 _).1] at q4
    rw [e2, (e0 _).2, e1]
    exact h.1 q1 (hi q2) q3 i q4
  · rw [e4] at q1
    rw [(e0 _).1] at q3
    rw [(e0 _).2, (e0 _).2]
    exact h.2 q1 p i j q2 q3
theorem sNames_219 {J J' : zJ} {t pl : Nat} (e : sNames 219 t pl J = some J') : (∀ i, J' 1 i = J 1 i ∧ J' 2 i = J 2 i) ∧ J' 4 2 = J 0 (J' 4 0) ∧ (J' 4 4 = 0 → J 4 4 = 0) := by
  unfold sNames at e
  rw [if_pos rfl] at e
  by_cases c : isProcName t = true
  · rw [if_pos c] at e
    have e := Option.some.inj e
    subst e
    refine ⟨fun i => ⟨?_, ?_⟩, ?_, ?_⟩
    · rw [sFault_ap, if_neg (by omega)]; rfl
    · rw [sFault_ap, if_neg (by omega)]; rfl
    · rw [sFault_ap, if_neg (by omega), sFault_ap, if_neg (by omega)]; rfl
    · rw [sFault_ap, if_pos ⟨rfl, rfl⟩]
      split
      · omega
      · exact fun q => q
  · rw [if_neg c] at e
    cases e
theorem zID_proc {J J' : zJ} {B : Nat → T} {t pl : Nat} {ip ip' : Prop} (h : zID ip J) (hj : zIJ ip J B) (e : sNames 219 t pl J = some J') : zID ip' J' := by
  obtain ⟨e1, e2, e3⟩ := sNames_219 e
  refine ⟨fun q1 _ q3 i q4 => ?_, fun q1 p i j q2 q3 => ?_⟩
  · rw [e2] at q3
    rw [(e1 _).1, hj.2.2.2.2.2.2.1 _ q3] at q4
    omega
  · rw [(e1 _).1] at q3
    rw [(e1 _).2, (e1 _).2]
    exact h.2 (e3 q1) p i j q2 q3
theorem zID_name {J J' : zJ} {B : Nat → T} {x t pl : Nat} {ip ip' : Prop} (hx : x = 220 ∨ x = 221) (hip : ip) (h : zID ip J) (hj : zIJ ip J B) (e : sNames x t pl J = some J') : zID ip' J' := by
  obtain ⟨-, -, h3, h4, h5, h6, -⟩ := hj
  obtain ⟨m1, m2⟩ := h5 hip
  unfold sNames at e
  rw [if_neg (by omega)] at e
  by_cases c : isName t = true
  · rw [if_pos c] at e
    obtain ⟨b, hb⟩ : ∃ b, b = t - 100 := ⟨_, rfl⟩
    have hb8 : b < 8 := by
      simp [isName] at c
      omega
    rw [← hb] at e
    obtain ⟨n1, n2, n3⟩ := pc_new (J 4 1) m1 b hb8
    obtain ⟨u1, u2⟩ := bit_up (J 4 1) m1 b hb8
    obtain ⟨J1, hJ1⟩ : ∃ J1, J1 = sFault J (J 4 1 / 2 ^ b % 2 == 1) pl := ⟨_, rfl⟩
    have k1 : ∀ a i, ¬ (a = 4 ∧ i = 4) → J1 a i = J a i := fun a i q => by rw [hJ1, sFault_ap, if_neg q]
    have k4 : J1 4 4 = 0 → J 4 4 = 0 ∧ (J 4 1 / 2 ^ b % 2 == 1) = false := by
      rw [hJ1, sFault_ap, if_pos ⟨rfl, rfl⟩]
      intro q
      split at q
      · omega
      · rename_i w
        refine ⟨q, ?_⟩
        cases v : (J 4 1 / 2 ^ b % 2 == 1) with
        | false => rfl
        | true => exact absurd ⟨v, q⟩ w
    have e := (Option.some.inj e).symm
    rw [← hJ1] at e
    by_cases c2 : x = 220 ∧ J 4 2 = 0
    · rw [if_pos c2] at e
      obtain ⟨y, hy⟩ : ∃ y, y = 8 * J 4 0 + (if J1 1 (J 4 0) < 7 then J1 1 (J 4 0) else 7) := ⟨_, rfl⟩
      rw [← hy, k1 1 (J 4 0) (by omega)] at e
      rw [k1 1 (J 4 0) (by omega)] at hy
      have z : ∀ a i, J' a i = if a = 4 ∧ i = 1 then J 4 1 ||| 2 ^ b else if a = 1 ∧ i = J 4 0 then J 1 (J 4 0) + 1 else if a = 2 ∧ i = y then b else J1 a i := fun a i => by rw [e]; rfl
      have z44 : J' 4 4 = J1 4 4 := by rw [z, if_neg (by omega), if_neg (by omega), if_neg (by omega)]
      have z40 : J' 4 0 = J 4 0 := by rw [z, if_neg (by omega), if_neg (by omega), if_neg (by omega), k1 4 0 (by omega)]
      have z41 : J' 4 1 = J 4 1 ||| 2 ^ b := by rw [z, if_pos ⟨rfl, rfl⟩]
      have z1 : ∀ q, J' 1 q = if q = J 4 0 then J 1 (J 4 0) + 1 else J 1 q := fun q => by
        rw [z, if_neg (by omega)]
        by_cases w : q = J 4 0
        · rw [if_pos ⟨rfl, w⟩, if_pos w]
        · rw [if_neg (by omega), if_neg (by omega), if_neg w, k1 1 q (by omega)]
      have z2 : ∀ q, J' 2 q = if q = y then b else J 2 q := fun q => by
        rw [z, if_neg (by omega), if_neg (by omega)]
        by_cases w : q = y
        · rw [if_pos ⟨rfl, w⟩, if_pos w]
        · rw [if_neg (by omega), if_neg w, k1 2 q (by omega)]
      have y7 : J 4 4 = 0 → (J 4 1 / 2 ^ b % 2 == 1) = false → J 1 (J 4 0) ≤ 7 ∧ y = 8 * J 4 0 + J 1 (J 4 0) := by
        intro v1 v2
        have a1 := h4 v1 hip c2.2
        have a2 := pc_le (J 4 1 ||| 2 ^ b)
        rw [n3 v2] at a2
        refine ⟨by omega, ?_⟩
        rw [hy]
        split <;> omega
      refine ⟨fun q1 _ _ i q4 => ?_, fun q1 p i j q2 q3 => ?_⟩
      · rw [z44] at q1
        obtain ⟨w1, w2⟩ := k4 q1
        obtain ⟨y1, y2⟩ := y7 w1 w2
        rw [z40, z1, if_pos rfl] at q4
        rw [z41, z40, z2]
        by_cases w : i = J 1 (J 4 0)
        · rw [if_pos (by omega)]; exact u1
        · rw [if_neg (by omega)]
          exact u2 _ (h6 _) (h.1 w1 hip c2.2 i (by omega))
      · rw [z44] at q1
        obtain ⟨w1, w2⟩ := k4 q1
        obtain ⟨y1, y2⟩ := y7 w1 w2
        have p8 := h3 w1 p
        rw [z1] at q3
        rw [z2, z2]
        by_cases w : p = J 4 0
        · rw [if_pos w] at q3
          subst w
          rw [if_neg (by omega)]
          by_cases w3 : j = J 1 (J 4 0)
          · rw [if_pos (by omega)]
            intro w4
            have := h.1 w1 hip c2.2 i (by omega)
            rw [w4] at this
            simp [this] at w2
          · rw [if_neg (by omega)]
            exact h.2 w1 _ i j q2 (by omega)
        · rw [if_neg w] at q3
          rw [if_neg (by omega), if_neg (by omega)]
          exact h.2 w1 p i j q2 q3
    · rw [if_neg c2] at e
      have z : ∀ a i, J' a i = if a = 4 ∧ i = 1 then J 4 1 ||| 2 ^ b else J1 a i := fun a i => by rw [e]; rfl
      have zk : ∀ a i, ¬ (a = 4 ∧ i = 1) → ¬ (a = 4 ∧ i = 4) → J' a i = J a i := fun a i q3 q4 => by rw [z, if_neg q3, k1 a i q4]
      have z44 : J' 4 4 = J1 4 4 := by rw [z, if_neg (by omega)]
      have z41 : J' 4 1 = J 4 1 ||| 2 ^ b := by rw [z, if_pos ⟨rfl, rfl⟩]
      refine ⟨fun q1 _ q3 i q4 => ?_, fun q1 p i j q2 q3 => ?_⟩
      · rw [z44] at q1
        rw [zk 4 2 (by omega) (by omega)] at q3
        rw [zk 4 0 (by omega) (by omega), zk 1 _ (by omega) (by omega)] at q4
        rw [z41, zk 4 0 (by omega) (by omega), zk 2 _ (by omega) (by omega)]
        exact u2 _ (h6 _) (h.1 (k4 q1).1 hip q3 i q4)
      · rw [z44] at q1
        rw [zk 1 _ (by omega) (by omega)] at q3
        rw [zk 2 _ (by omega) (by omega), zk 2 _ (by omega) (by omega)]
        exact h.2 (k4 q1).1 p i j q2 q3
  · rw [if_neg c] at e
    cases e
