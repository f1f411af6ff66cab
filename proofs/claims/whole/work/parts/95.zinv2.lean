theorem sFault_ap (J : zJ) (b : Bool) (pl a i : Nat) : sFault J b pl a i = if a = 4 ∧ i = 4 then (if b = true ∧ J 4 4 = 0 then pl + 1 else J 4 4) else J a i := by
  unfold sFault
  by_cases c : b = true ∧ J 4 4 = 0
  · rw [if_pos (by simp [c]), if_pos c]; rfl
  · rw [if_neg (by simpa using c), if_neg c]
    by_cases q : a = 4 ∧ i = 4
    · rw [if_pos q, q.1, q.2]
    · rw [if_neg q]
theorem jup_ne {J : zJ} {a i v b j : Nat} (h : ¬ (b = a ∧ j = i)) : jup J a i v b j = J b j := if_neg h
theorem jup_eq {J : zJ} {a i v : Nat} : jup J a i v a i = v := if_pos ⟨rfl, rfl⟩
theorem bup_ne {B : Nat → T} {i j : Nat} {t : T} (h : ¬ j = i) : bup B i t j = B j := if_neg h
theorem bup_eq {B : Nat → T} {i : Nat} {t : T} : bup B i t i = t := if_pos rfl
theorem zIJ_fin3 {J : zJ} {B : Nat → T} {tr : List T} {ip : Prop} (hip : ip) (h : zIJ ip J B) : zIJ False (sFin 3000 tr J B).2.1 (sFin 3000 tr J B).2.2 := by
  obtain ⟨h1, h2, h3, h4, h5, h6, h7, h8, h9⟩ := h
  obtain ⟨m1, m2⟩ := h5 hip
  by_cases c : J 4 2 = 0
  · have e : (sFin 3000 tr J B).2 = (jup (jup (jup J 4 3 (J 4 3 + 1)) 3 (J 4 0) (J 4 1)) 6 (J 4 0) 1, bup (bup B (10 + J 4 3) (tr.headD (.var 99))) (J 4 0) (tr.headD (.var 99))) := by
      show (if J 4 2 = 0 then _ else _ : List T × zJ × (Nat → T)).2 = _
      rw [if_pos c]
    rw [e]
    show zIJ False (jup (jup (jup J 4 3 (J 4 3 + 1)) 3 (J 4 0) (J 4 1)) 6 (J 4 0) 1) (bup (bup B (10 + J 4 3) (tr.headD (.var 99))) (J 4 0) (tr.headD (.var 99)))
    refine ⟨fun p q => ?_, fun p hp q => ?_, fun q p => ?_, fun _ f => f.elim, fun f => f.elim, fun i => ?_, fun p q => ?_, fun p => ?_, fun p => ?_⟩
    · rw [jup_ne (by omega), jup_ne (by omega), jup_ne (by omega)] at q
      left
      by_cases z : p = J 4 0
      · rw [z]; exact jup_eq
      · rw [jup_ne (by omega), jup_ne (by omega), jup_ne (by omega)]
        rcases h1 p q with y | y
        · exact y
        · exact absurd y.2.1 z
    · rw [show (jup (jup (jup J 4 3 (J 4 3 + 1)) 3 (J 4 0) (J 4 1)) 6 (J 4 0) 1) 4 3 = J 4 3 + 1 by rw [jup_ne (by omega), jup_ne (by omega)]; exact jup_eq]
      by_cases z : p = J 4 0
      · refine ⟨J 4 3, by omega, ?_⟩
        show bup (bup B _ _) (J 4 0) _ p = bup (bup B _ _) (J 4 0) _ (10 + J 4 3)
        rw [z, bup_eq, bup_ne (by omega), bup_eq]
      · rw [jup_ne (by omega), jup_ne (by omega), jup_ne (by omega)] at q
        obtain ⟨d, d1, d2⟩ := h2 p hp q
        refine ⟨d, by omega, ?_⟩
        show bup (bup B _ _) (J 4 0) _ p = bup (bup B _ _) (J 4 0) _ (10 + d)
        rw [bup_ne z, bup_ne (by omega), bup_ne (by omega), bup_ne (by omega), d2]
    · rw [jup_ne (by omega), jup_ne (by omega), jup_ne (by omega)] at q
      rw [jup_ne (by omega), jup_ne (by omega), jup_ne (by omega)]
      exact h3 q p
    · rw [jup_ne (by omega), jup_ne (by omega), jup_ne (by omega)]; exact h6 i
    · rw [jup_ne (by omega), jup_ne (by omega), jup_ne (by omega)] at q ⊢; exact h7 p q
    · rw [jup_ne (by omega), jup_ne (by omega), jup_ne (by omega)]; exact h8 p
    · rw [jup_ne (by omega)]
      by_cases z : p = J 4 0
      · rw [z, jup_eq]; exact m1
      · rw [jup_ne (by omega), jup_ne (by omega)]; exact h9 p
  · have e : (sFin 3000 tr J B).2 = (jup J 4 3 (J 4 3 + 1), bup B (10 + J 4 3) (tr.headD (.var 99))) := by
      show (if J 4 2 = 0 then _ else _ : List T × zJ × (Nat → T)).2 = _
      rw [if_neg c]
    rw [e]
    show zIJ False (jup J 4 3 (J 4 3 + 1)) (bup B (10 + J 4 3) (tr.headD (.var 99)))
    refine ⟨fun p q => ?_, fun p hp q => ?_, fun q p => ?_, fun _ f => f.elim, fun f => f.elim, fun i => ?_, fun p q => ?_, fun p => ?_, fun p => ?_⟩
    · rw [jup_ne (by omega)] at q
      rw [jup_ne (by omega)]
      rcases h1 p q with y | y
      · exact Or.inl y
      · exact absurd y.2.2 c
    · rw [jup_ne (by omega)] at q
      rw [jup_eq]
      obtain ⟨d, d1, d2⟩ := h2 p hp q
      refine ⟨d, by omega, ?_⟩
      show bup B _ _ p = bup B _ _ (10 + d)
      rw [bup_ne (by omega), bup_ne (by omega), d2]
    · rw [jup_ne (by omega)] at q
      rw [jup_ne (by omega)]
      exact h3 q p
    · rw [jup_ne (by omega)]; exact h6 i
    · rw [jup_ne (by omega)] at q ⊢; exact h7 p q
    · rw [jup_ne (by omega)]; exact h8 p
    · rw [jup_ne (by omega)]; exact h9 p
theorem zIJ_fin2 {J : zJ} {B : Nat → T} {tr : List T} {ip : Prop} (hip : ¬ ip) (h : zIJ ip J B) : zIJ False (sFin 2000 tr J B).2.1 (sFin 2000 tr J B).2.2 ∧ (sFin 2000 tr J B).2.1 7 0 = 1 := by
  obtain ⟨h1, h2, h3, h4, h5, h6, h7, h8, h9⟩ := h
  have e : (sFin 2000 tr J B).2 = (jup J 7 0 1, bup B 4 (tr.headD (.var 99))) := rfl
  rw [e]
  show zIJ False (jup J 7 0 1) (bup B 4 (tr.headD (.var 99))) ∧ jup J 7 0 1 7 0 = 1
  refine ⟨⟨fun p q => ?_, fun p hp q => ?_, fun q p => ?_, fun _ f => f.elim, fun f => f.elim, fun i => ?_, fun p q => ?_, fun p => ?_, fun p => ?_⟩, jup_eq⟩
  · rw [jup_ne (by omega)] at q
    rw [jup_ne (by omega)]
    rcases h1 p q with y | y
    · exact Or.inl y
    · exact absurd y.1 hip
  · rw [jup_ne (by omega)] at q
    rw [jup_ne (by omega)]
    obtain ⟨d, d1, d2⟩ := h2 p hp q
    refine ⟨d, by omega, ?_⟩
    show bup B _ _ p = bup B _ _ (10 + d)
    rw [bup_ne (by omega), bup_ne (by omega), d2]
  · rw [jup_ne (by omega)] at q
    rw [jup_ne (by omega)]
    exact h3 q p
  · rw [jup_ne (by omega)]; exact h6 i
  · rw [jup_ne (by omega)] at q ⊢; exact h7 p q
  · rw [jup_ne (by omega)]; exact h8 p
  · rw [jup_ne (by omega)]; exact h9 p
theorem zIJ_proc {J J' : zJ} {B : Nat → T} {t pl : Nat} {ip ip' : Prop} (hip : ¬ ip) (hip' : ip') (h : zIJ ip J B) (e : sNames 219 t pl J = some J') : zIJ ip' J' B := by
  obtain ⟨h1, h2, h3, h4, h5, h6, h7, h8, h9⟩ := h
  unfold sNames at e
  rw [if_pos rfl] at e
  by_cases c : isProcName t = true
  · rw [if_pos c] at e
    have hp : t - 110 < 4 := by
      simp [isProcName] at c
      omega
    obtain ⟨p, hpp⟩ : ∃ p, p = t - 110 := ⟨_, rfl⟩
    rw [← hpp] at e hp
    have e := Option.some.inj e
    subst e
    have z : ∀ a i, sFault (jup (jup (jup (jup (jup (jup J 4 0 p) 4 2 (J 0 p)) 0 p 1) 4 1 0) 5 (J 4 3) (pl - 1)) 9 0 (J 4 3 + 1)) (J 0 p == 1) pl a i = if a = 4 ∧ i = 4 then (if J 0 p = 1 ∧ J 4 4 = 0 then pl + 1 else J 4 4) else if a = 9 ∧ i = 0 then J 4 3 + 1 else if a = 5 ∧ i = J 4 3 then pl - 1 else if a = 4 ∧ i = 1 then 0 else if a = 0 ∧ i = p then 1 else if a = 4 ∧ i = 2 then J 0 p else if a = 4 ∧ i = 0 then p else J a i := by
      intro a i
      rw [sFault_ap]
      by_cases q : a = 4 ∧ i = 4
      · rw [if_pos q, if_pos q]
        have : jup (jup (jup (jup (jup (jup J 4 0 p) 4 2 (J 0 p)) 0 p 1) 4 1 0) 5 (J 4 3) (pl - 1)) 9 0 (J 4 3 + 1) 4 4 = J 4 4 := by
          rw [jup_ne (by omega), jup_ne (by omega), jup_ne (by omega), jup_ne (by omega), jup_ne (by omega), jup_ne (by omega)]
        rw [this]
        simp
      · rw [if_neg q, if_neg q]
        rfl
    have z0 : ∀ i, i ≠ p → sFault (jup (jup (jup (jup (jup (jup J 4 0 p) 4 2 (J 0 p)) 0 p 1) 4 1 0) 5 (J 4 3) (pl - 1)) 9 0 (J 4 3 + 1)) (J 0 p == 1) pl 0 i = J 0 i := fun i q => by rw [z, if_neg (by omega), if_neg (by omega), if_neg (by omega), if_neg (by omega), if_neg (by omega), if_neg (by omega), if_neg (by omega)]
    have zp : sFault (jup (jup (jup (jup (jup (jup J 4 0 p) 4 2 (J 0 p)) 0 p 1) 4 1 0) 5 (J 4 3) (pl - 1)) 9 0 (J 4 3 + 1)) (J 0 p == 1) pl 0 p = 1 := by rw [z, if_neg (by omega), if_neg (by omega), if_neg (by omega), if_neg (by omega), if_pos ⟨rfl, rfl⟩]
    have zk : ∀ a i, a = 1 ∨ a = 2 ∨ a = 3 ∨ a = 6 ∨ (a = 4 ∧ i = 3) → sFault (jup (jup (jup (jup (jup (jup J 4 0 p) 4 2 (J 0 p)) 0 p 1) 4 1 0) 5 (J 4 3) (pl - 1)) 9 0 (J 4 3 + 1)) (J 0 p == 1) pl a i = J a i := fun a i q => by rw [z, if_neg (by omega), if_neg (by omega), if_neg (by omega), if_neg (by omega), if_neg (by omega), if_neg (by omega), if_neg (by omega)]
    have z40 : sFault (jup (jup (jup (jup (jup (jup J 4 0 p) 4 2 (J 0 p)) 0 p 1) 4 1 0) 5 (J 4 3) (pl - 1)) 9 0 (J 4 3 + 1)) (J 0 p == 1) pl 4 0 = p := by rw [z, if_neg (by omega), if_neg (by omega), if_neg (by omega), if_neg (by omega), if_neg (by omega), if_neg (by omega), if_pos ⟨rfl, rfl⟩]
    have z41 : sFault (jup (jup (jup (jup (jup (jup J 4 0 p) 4 2 (J 0 p)) 0 p 1) 4 1 0) 5 (J 4 3) (pl - 1)) 9 0 (J 4 3 + 1)) (J 0 p == 1) pl 4 1 = 0 := by rw [z, if_neg (by omega), if_neg (by omega), if_neg (by omega), if_pos ⟨rfl, rfl⟩]
    have z42 : sFault (jup (jup (jup (jup (jup (jup J 4 0 p) 4 2 (J 0 p)) 0 p 1) 4 1 0) 5 (J 4 3) (pl - 1)) 9 0 (J 4 3 + 1)) (J 0 p == 1) pl 4 2 = J 0 p := by rw [z, if_neg (by omega), if_neg (by omega), if_neg (by omega), if_neg (by omega), if_neg (by omega), if_pos ⟨rfl, rfl⟩]
    have z44 : sFault (jup (jup (jup (jup (jup (jup J 4 0 p) 4 2 (J 0 p)) 0 p 1) 4 1 0) 5 (J 4 3) (pl - 1)) 9 0 (J 4 3 + 1)) (J 0 p == 1) pl 4 4 = 0 → J 4 4 = 0 := by
      rw [z, if_pos ⟨rfl, rfl⟩]
      split
      · omega
      · exact fun q => q
    generalize sFault (jup (jup (jup (jup (jup (jup J 4 0 p) 4 2 (J 0 p)) 0 p 1) 4 1 0) 5 (J 4 3) (pl - 1)) 9 0 (J 4 3 + 1)) (J 0 p == 1) pl = J' at z0 zp zk z40 z41 z42 z44 ⊢
    have main : ∀ q, J' 0 q = 1 → J' 6 q = 1 ∨ (q = J' 4 0 ∧ J' 4 2 = 0) := by
      intro q hq
      rw [zk 6 q (by omega), z40, z42]
      by_cases y : q = p
      · subst y
        have := h8 q
        by_cases w : J 0 q = 1
        · rcases h1 q w with v | v
          · exact Or.inl v
          · exact absurd v.1 hip
        · exact Or.inr ⟨rfl, by omega⟩
      · rw [z0 q y] at hq
        rcases h1 q hq with v | v
        · exact Or.inl v
        · exact absurd v.1 hip
    refine ⟨fun q hq => ?_, fun q hq hq6 => ?_, fun q0 q => ?_, fun q0 _ q2 => ?_, fun _ => ?_, fun i => ?_, fun q hq => ?_, fun q => ?_, fun q => ?_⟩
    · rcases main q hq with y | y
      · exact Or.inl y
      · exact Or.inr ⟨hip', y⟩
    · rw [zk 6 q (by omega)] at hq6
      rw [zk 4 3 (by omega)]
      exact h2 q hq hq6
    · rw [zk 1 q (by omega)]
      exact h3 (z44 q0) q
    · rw [zk 1 _ (by omega), z40]
      rw [z42] at q2
      rw [h7 p q2]
      exact Nat.zero_le _
    · rw [z41, z40]
      exact ⟨by omega, hp⟩
    · rw [zk 2 i (by omega)]; exact h6 i
    · rw [zk 1 q (by omega)]
      by_cases y : q = p
      · subst y; omega
      · rw [z0 q y] at hq; exact h7 q hq
    · by_cases y : q = p
      · subst y; omega
      · rw [z0 q y]; exact h8 q
    · rw [zk 3 q (by omega)]; exact h9 q
  · rw [if_neg c] at e
    cases e
theorem zIJ_name {J J' : zJ} {B : Nat → T} {x t pl : Nat} {ip ip' : Prop} (hx : x = 220 ∨ x = 221) (hip : ip) (hip' : ip') (h1p : J 0 (J 4 0) = 1) (h : zIJ ip J B) (e : sNames x t pl J = some J') : zIJ ip' J' B := by
  obtain ⟨h1, h2, h3, h4, h5, h6, h7, h8, h9⟩ := h
  obtain ⟨m1, m2⟩ := h5 hip
  unfold sNames at e
  rw [if_neg (by omega)] at e
  by_cases c : isName t = true
  · rw [if_pos c] at e
    obtain ⟨b, hb⟩ : ∃ b, b = t - 100 := ⟨_, rfl⟩
    have hb8 : b < 8 := by
      simp [isName] at c
      omega
    rw [← hb] at e
    obtain ⟨n1, n2, n3⟩ := pc_new (J 4 1) m1 b hb8
    obtain ⟨J1, hJ1⟩ : ∃ J1, J1 = sFault J (J 4 1 / 2 ^ b % 2 == 1) pl := ⟨_, rfl⟩
    have k1 : ∀ a i, ¬ (a = 4 ∧ i = 4) → J1 a i = J a i := fun a i q => by rw [hJ1, sFault_ap, if_neg q]
    have k4 : J1 4 4 = 0 → J 4 4 = 0 ∧ (J 4 1 / 2 ^ b % 2 == 1) = false := by
      rw [hJ1, sFault_ap, if_pos ⟨rfl, rfl⟩]
      intro q
      split at q
      · omega
      · rename_i w
        refine ⟨q, ?_⟩
        cases v : (J 4 1 / 2 ^ b % 2 == 1) with
        | false => rfl
        | true => exact absurd ⟨v, q⟩ w
    have e := (Option.some.inj e).symm
    rw [← hJ1] at e
    by_cases c2 : x = 220 ∧ J 4 2 = 0
    · rw [if_pos c2] at e
      obtain ⟨y, hy⟩ : ∃ y, y = 8 * J 4 0 + (if J1 1 (J 4 0) < 7 then J1 1 (J 4 0) else 7) := ⟨_, rfl⟩
      rw [← hy, k1 1 (J 4 0) (by omega)] at e
      have z : ∀ a i, J' a i = if a = 4 ∧ i = 1 then J 4 1 ||| 2 ^ b else if a = 1 ∧ i = J 4 0 then J 1 (J 4 0) + 1 else if a = 2 ∧ i = y then b else J1 a i := fun a i => by rw [e]; rfl
      have zk : ∀ a i, a ≠ 1 → a ≠ 2 → ¬ (a = 4 ∧ i = 1) → ¬ (a = 4 ∧ i = 4) → J' a i = J a i := fun a i q1 q2 q3 q4 => by rw [z, if_neg q3, if_neg (by omega), if_neg (by omega), k1 a i q4]
      have z44 : J' 4 4 = J1 4 4 := by rw [z, if_neg (by omega), if_neg (by omega), if_neg (by omega)]
      have z41 : J' 4 1 = J 4 1 ||| 2 ^ b := by rw [z, if_pos ⟨rfl, rfl⟩]
      have z1 : ∀ q, J' 1 q = if q = J 4 0 then J 1 (J 4 0) + 1 else J 1 q := fun q => by
        rw [z, if_neg (by omega)]
        by_cases w : q = J 4 0
        · rw [if_pos ⟨rfl, w⟩, if_pos w]
        · rw [if_neg (by omega), if_neg (by omega), if_neg w, k1 1 q (by omega)]
      refine ⟨fun q hq => ?_, fun q hq hq6 => ?_, fun q0 q => ?_, fun q0 _ q2 => ?_, fun _ => ?_, fun i => ?_, fun q hq => ?_, fun q => ?_, fun q => ?_⟩
      · rw [zk 0 q (by omega) (by omega) (by omega) (by omega)] at hq
        rw [zk 6 q (by omega) (by omega) (by omega) (by omega), zk 4 0 (by omega) (by omega) (by omega) (by omega), zk 4 2 (by omega) (by omega) (by omega) (by omega)]
        rcases h1 q hq with v | v
        · exact Or.inl v
        · exact Or.inr ⟨hip', v.2⟩
      · rw [zk 6 q (by omega) (by omega) (by omega) (by omega)] at hq6
        rw [zk 4 3 (by omega) (by omega) (by omega) (by omega)]
        exact h2 q hq hq6
      · rw [z44] at q0
        obtain ⟨v1, v2⟩ := k4 q0
        rw [z1]
        split
        · have := h4 v1 hip c2.2
          have := pc_le (J 4 1 ||| 2 ^ b)
          rw [n3 v2] at this
          omega
        · exact h3 v1 q
      · rw [z44] at q0
        obtain ⟨v1, v2⟩ := k4 q0
        rw [zk 4 0 (by omega) (by omega) (by omega) (by omega), z1, if_pos rfl, z41, n3 v2]
        have := h4 v1 hip c2.2
        omega
      · rw [zk 4 0 (by omega) (by omega) (by omega) (by omega), z41]
        exact ⟨n1, m2⟩
      · rw [z, if_neg (by omega), if_neg (by omega)]
        split
        · exact hb8
        · rw [k1 2 i (by omega)]; exact h6 i
      · rw [zk 0 q (by omega) (by omega) (by omega) (by omega)] at hq
        rw [z1]
        split
        · rename_i w
          rw [w] at hq
          omega
        · exact h7 q hq
      · rw [zk 0 q (by omega) (by omega) (by omega) (by omega)]; exact h8 q
      · rw [zk 3 q (by omega) (by omega) (by omega) (by omega)]; exact h9 q
    · rw [if_neg c2] at e
      have z : ∀ a i, J' a i = if a = 4 ∧ i = 1 then J 4 1 ||| 2 ^ b else J1 a i := fun a i => by rw [e]; rfl
      have zk : ∀ a i, ¬ (a = 4 ∧ i = 1) → ¬ (a = 4 ∧ i = 4) → J' a i = J a i := fun a i q3 q4 => by rw [z, if_neg q3, k1 a i q4]
      have z44 : J' 4 4 = J1 4 4 := by rw [z, if_neg (by omega)]
      have z41 : J' 4 1 = J 4 1 ||| 2 ^ b := by rw [z, if_pos ⟨rfl, rfl⟩]
      refine ⟨fun q hq => ?_, fun q hq hq6 => ?_, fun q0 q => ?_, fun q0 _ q2 => ?_, fun _ => ?_, fun i => ?_, fun q hq => ?_, fun q => ?_, fun q => ?_⟩
      · rw [zk 0 q (by omega) (by omega)] at hq
        rw [zk 6 q (by omega) (by omega), zk 4 0 (by omega) (by omega), zk 4 2 (by omega) (by omega)]
        rcases h1 q hq with v | v
        · exact Or.inl v
        · exact Or.inr ⟨hip', v.2⟩
      · rw [zk 6 q (by omega) (by omega)] at hq6
        rw [zk 4 3 (by omega) (by omega)]
        exact h2 q hq hq6
      · rw [z44] at q0
        rw [zk 1 q (by omega) (by omega)]
        exact h3 (k4 q0).1 q
      · rw [z44] at q0
        rw [zk 4 2 (by omega) (by omega)] at q2
        rw [zk 4 0 (by omega) (by omega), zk 1 _ (by omega) (by omega), z41]
        have := h4 (k4 q0).1 hip q2
        omega
      · rw [zk 4 0 (by omega) (by omega), z41]
        exact ⟨n1, m2⟩
      · rw [zk 2 i (by omega) (by omega)]; exact h6 i
      · rw [zk 0 q (by omega) (by omega)] at hq
        rw [zk 1 q (by omega) (by omega)]
        exact h7 q hq
      · rw [zk 0 q (by omega) (by omega)]; exact h8 q
      · rw [zk 3 q (by omega) (by omega)]; exact h9 q
  · rw [if_neg c] at e
    cases e
