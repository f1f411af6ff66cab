/-! THE CLASS READS A TEXT AS Z DOES: the relation at a token -/
/-- the words of the first d procs -/
def hdW (tx : Nat → Nat) : Nat → Nat → List Nat
  | 0, _ => []
  | n + 1, a => if tx a = 171 then [] else tx a :: hdW tx n (a + 1)
def pw (tx : Nat → Nat) (J : zJ) (B : Nat → T) : Nat → List Nat
  | 0 => []
  | d + 1 => pw tx J B d ++ (hdW tx 150 (J 5 d) ++ (171 :: (Wr (B (10 + d)) 5 ++ [163])))
def Hd (B : Nat → T) (d q c : Nat) : Prop := ∃ d', d' < d ∧ hasC (B (10 + d')) q c
def PRm (M : zMem) (J : zJ) (pl : Nat) : Prop :=
  (∀ p, p < 4 → (J 0 p ≤ 1 ∧ (J 0 p = 0 → J 1 p = 0)) ∧ M 8 p = nI (J 0 p) ∧ (J 0 p = 1 → M 10 p = nI (J 1 p) ∧ ∀ i, i < 8 → i < J 1 p → J 1 p ≤ 8 → M 11 (8 * p + i) = nI (J 2 (8 * p + i)))) ∧ M 7 9 = (if J 4 4 = 0 then -4 else nI (J 4 4 - 1)) ∧ J 4 4 ≤ pl
def IPm (M : zMem) (J : zJ) : Prop := M 7 7 = (if J 4 2 = 0 then nI (J 4 0) else -1) ∧ M 7 8 = nI (J 4 1) ∧ J 4 0 < 4 ∧ J 4 1 < 256 ∧ J 0 (J 4 0) = 1
/-- a finished proc or main: its list l has its code from s on -/
def Bo (c : zC) (m : Nat) (l : T) (s e : Nat) : Prop := ∃ h, Cm c.2.1 c.2.2 (kOwn (nI m)) l 1 s h ∧ c.2.1 h = 1 ∧ c.2.2 h = 0 ∧ c.2.1 (h + 1) = 26 ∧ h + 2 ≤ e
def Dn (tx : Nat → Nat) (c : zC) (fl : Nat → Int32) (cl : (Nat → Int32) × (Nat → Int32)) (en : Nat → Int32) (J : zJ) (B : Nat → T) (e a : Nat) : Prop :=
  (∀ p, p < 4 → J 6 p = 1 → J 0 p = 1 ∧ sh (B p) 2 = true ∧ ∃ s, en p = nI s ∧ Bo c (J 3 p) (B p) s e) ∧ Fo tx fl 0 a 1 (pw tx J B (J 4 3)) 1 ∧ CaH cl.1 cl.2 (Hd B (J 4 3)) 0 a ∧ ∀ d, d < J 4 3 → sh (B (10 + d)) 2 = true
/-- the tokens of a proc's head -/
def Hh (tx : Nat → Nat) (fl : Nat → Int32) (ca : Nat → Int32) (a b : Nat) : Prop := a ≤ b ∧ ∀ i, a ≤ i → i < b → tx i ≠ 171 ∧ tx i ≠ 121 ∧ isOp (tx i) = false ∧ fl i = 0 ∧ ca i = -1
section DN
variable {tx : Nat → Nat} {c c' : zC} {fl fl' : Nat → Int32} {cl cl' : (Nat → Int32) × (Nat → Int32)} {en en' : Nat → Int32} {J : zJ} {B : Nat → T} {e e' a b : Nat}
theorem Bo_same {m s : Nat} {l : T} (hc : ∀ i, i < e → c'.2.1 i = c.2.1 i ∧ c'.2.2 i = c.2.2 i) (he : e ≤ e') (h : Bo c m l s e) : Bo c' m l s e' := by
  obtain ⟨h', h1, h2, h3, h4, h5⟩ := h
  exact ⟨h', Cm_same (fun i _ q => hc i (by omega)) (by omega) h1, (hc h' (by omega)).1.trans h2, (hc h' (by omega)).2.trans h3, (hc (h' + 1) (by omega)).1.trans h4, by omega⟩
theorem Dn_same (hc : ∀ i, i < e → c'.2.1 i = c.2.1 i ∧ c'.2.2 i = c.2.2 i) (hf : ∀ i, i < a → fl' i = fl i ∧ cl'.1 i = cl.1 i ∧ cl'.2 i = cl.2 i) (he : e ≤ e') (hen : ∀ p, J 6 p = 1 → en' p = en p) (h : Dn tx c fl cl en J B e a) : Dn tx c' fl' cl' en' J B e' a := by
  obtain ⟨h1, h2, h3, h4⟩ := h
  refine ⟨fun p hp h6 => ?_, Fo_same (fun i _ q => (hf i q).1) h2, CaH_same (fun i _ q => (hf i q).2) h3, h4⟩
  obtain ⟨a1, a2, s, a3, a4⟩ := h1 p hp h6
  exact ⟨a1, a2, s, by rw [hen p h6]; exact a3, Bo_same hc he a4⟩
theorem Hh_Fo : ∀ (n a : Nat), (∀ i, a ≤ i → i < a + n → tx i ≠ 171 ∧ tx i ≠ 121 ∧ isOp (tx i) = false ∧ fl i = 0) → tx (a + n) = 171 → ∀ f, n < f → Fo tx fl a (a + n) 1 (hdW tx f a) 1
  | 0, a, _, hb, f, hf => by
    obtain ⟨f, rfl⟩ : ∃ f', f = f' + 1 := ⟨f - 1, by omega⟩
    have hb : tx a = 171 := hb
    rw [hdW, if_pos hb]
    exact Fo_nil
  | n + 1, a, h, hb, f, hf => by
    obtain ⟨f, rfl⟩ : ∃ f', f = f' + 1 := ⟨f - 1, by omega⟩
    obtain ⟨h1, h2, h3, h4⟩ := h a (by omega) (by omega)
    rw [hdW, if_neg h1]
    have := Hh_Fo n (a + 1) (fun i q1 q2 => h i (by omega) (by omega)) (by rw [show a + 1 + n = a + (n + 1) by omega]; exact hb) f (by omega)
    rw [show a + 1 + n = a + (n + 1) by omega] at this
    exact Fo_cat (Fo_plain (p := 1) rfl h4 h2 h3 (by omega)) this
theorem Hh_all (h : Hh tx fl cl.1 a b) (hb : tx b = 171) (h150 : b < 150) : Fo tx fl a b 1 (hdW tx 150 a) 1 ∧ CaH cl.1 cl.2 (fun _ _ => False) a b := by
  have h0 := h.1
  have := Hh_Fo (fl := fl) (b - a) a (fun i q1 q2 => by obtain ⟨x1, x2, x3, x4, -⟩ := h.2 i q1 (by omega); exact ⟨x1, x2, x3, x4⟩) (by rw [show a + (b - a) = b by omega]; exact hb) 150 (by omega)
  rw [show a + (b - a) = b by omega] at this
  exact ⟨this, h0, fun _ _ z => z.elim, fun i q1 q2 => Or.inl (h.2 i q1 q2).2.2.2.2⟩
theorem pw_congr {J J' : zJ} {B B' : Nat → T} : ∀ (d : Nat), (∀ i, i < d → J' 5 i = J 5 i ∧ B' (10 + i) = B (10 + i)) → pw tx J' B' d = pw tx J B d
  | 0, _ => rfl
  | d + 1, h => by
    simp only [pw]
    rw [pw_congr d (fun i q => h i (by omega)), (h d (by omega)).1, (h d (by omega)).2]
end DN
/-- what a body needs to know of its place -/
def BC (M : zMem) (tx : Nat → Nat) (J : zJ) (k e0 b0 a : Nat) (D0 : zD) (ow : Int32) : Prop :=
  tx b0 = 171 ∧ b0 < 150 ∧ ((k = 14 ∧ IPm M J ∧ (J 4 2 = 0 → M 9 (J 4 0) = nI e0 ∧ J 6 (J 4 0) ≠ 1) ∧ ow = nI (J 4 1) ∧ J 5 (J 4 3) = a ∧ Hh tx D0.2.1 D0.2.2.1 a b0) ∨ (k = 15 ∧ ow = 0 ∧ M 7 6 = nI e0 ∧ a = b0))
def Bz (M : zMem) (tx : Nat → Nat) (pl : Nat) (z : zZ) : Prop :=
  ∃ K D0 e0 b0 a, cK M K ∧ RK (kOwn K.2.2.2.2.2) tx e0 b0 D0 pl z.1 z.2.1 z.2.2.1 K ∧ PRm M z.2.2.2.1 pl ∧ Dn tx D0.1 D0.2.1 D0.2.2 (M 9) z.2.2.2.1 z.2.2.2.2 e0 a ∧ BC M tx z.2.2.2.1 (bot z.2.2.1) e0 b0 a D0 K.2.2.2.2.2
def Hz (M : zMem) (tx : Nat → Nat) (pl : Nat) (z : zZ) : Prop :=
  ∃ c fl cl ow a, cK M ([], c, [], fl, cl, ow) ∧ c.1 ≤ 2 * pl ∧ (∀ i, pl ≤ i → i < 150 → fl i = 0 ∧ cl.1 i = -1) ∧ PRm M z.2.2.2.1 pl ∧ Dn tx c fl cl (M 9) z.2.2.2.1 z.2.2.2.2 c.1 a ∧ Hh tx fl cl.1 a pl ∧
    (z.1 = 0 → pl = a) ∧ (z.1 = 1 → pl = a + 1) ∧ (2 ≤ z.1 → IPm M z.2.2.2.1 ∧ z.2.2.2.1 5 (z.2.2.2.1 4 3) = a ∧ (z.2.2.2.1 4 2 = 0 → z.2.2.2.1 6 (z.2.2.2.1 4 0) ≠ 1))
/-- a program has been read -/
def Ez (M : zMem) (tx : Nat → Nat) (pl : Nat) (J : zJ) (B : Nat → T) : Prop :=
  ∃ c fl cl ow s, cK M ([], c, [], fl, cl, ow) ∧ PRm M J pl ∧ (∀ p, p < 4 → J 6 p = 1 → J 0 p = 1 ∧ sh (B p) 2 = true ∧ ∃ s, M 9 p = nI s ∧ Bo c (J 3 p) (B p) s c.1) ∧ (∀ d, d < J 4 3 → sh (B (10 + d)) 2 = true) ∧ sh (B 4) 2 = true ∧ M 7 6 = nI s ∧ Bo c 0 (B 4) s c.1 ∧
    Fo tx fl 0 pl 1 (pw tx J B (J 4 3) ++ (171 :: (Wr (B 4) 5 ++ [163]))) 1 ∧ CaH cl.1 cl.2 (fun q x => Hd B (J 4 3) q x ∨ hasC (B 4) q x) 0 pl ∧ ∀ i, pl ≤ i → i < 150 → cl.1 i = -1
def Cz (M : zMem) (tx : Nat → Nat) (pl : Nat) (z : zZ) : Prop := zNil z ∧ if z.1 = 24 then Ez M tx pl z.2.2.2.1 z.2.2.2.2 else if z.1 ≤ 8 then Hz M tx pl z else Bz M tx pl z
theorem PRm_same {M M' : zMem} {J J' : zJ} {pl pl' : Nat} (h : PRm M J pl) (h7 : M' 7 9 = M 7 9) (h8 : M' 8 = M 8) (h10 : M' 10 = M 10) (h11 : M' 11 = M 11) (hJ : ∀ i, J' 0 i = J 0 i ∧ J' 1 i = J 1 i ∧ J' 2 i = J 2 i) (h44 : J' 4 4 = J 4 4) (hpl : pl ≤ pl') : PRm M' J' pl' := by
  obtain ⟨h1, h2, h3⟩ := h
  refine ⟨fun p hp => ?_, by rw [h7, h44]; exact h2, by rw [h44]; omega⟩
  obtain ⟨a1, a2, a3⟩ := h1 p hp
  rw [(hJ p).1, h8, h10, (hJ p).2.1]
  exact ⟨a1, a2, fun q => ⟨(a3 q).1, fun i q1 q2 q3 => by rw [h11, (hJ _).2.2]; exact (a3 q).2 i q1 q2 q3⟩⟩
theorem kEnd_nx (K : zKK) : 9 ≤ (kEnd K).1 ∧ (kEnd K).1 ≤ 20 := by
  unfold kEnd
  generalize kOps 150 0 K = K2
  obtain ⟨pd, c, os, fl, cl, ow⟩ := K2
  unfold kEnd2
  simp only
  repeat' split
  all_goals exact ⟨Nat.le_of_ble_eq_true rfl, Nat.le_of_ble_eq_true rfl⟩
section CT
variable {M : zMem} {K : zKK} {N n len nx pl t : Nat}
/-- the loop's body behind the end of an expression -/
theorem cP32 {q : Nat × zKK} (hN : 300 < N) (h : cK M K) (h23 : nx = 23 → K.2.2.1 ≠ []) (ht : t < 174) (hn : 9 ≤ nx) (hn2 : nx < 1000) (hq : kAcc nx t (nI pl) K = q) (hq2 : q.1 = 99 ∨ q.1 ≤ 24) : ∃ M', F_Pars_read_p32 N (F_Pars_read_p10 N n) M (nI len) (nI nx) (nI pl) (nI t) = (if q.1 = 99 then some (zup M' 14 1 (nI pl)) else F_Pars_read_p10 N n M' (nI len) (nI q.1) (nI (pl + 1))) ∧ cK M' q.2 ∧ cKeep M M' := by
  obtain ⟨M', e, k1, k2⟩ := cAcc (t := t) (nx := nx) (x := nI pl) hN h h23 (by omega) hn2
  rw [hq] at e k1
  refine ⟨M', ?_, k1, k2⟩
  unfold F_Pars_read_p32
  rw [if_pos (show (8 : Int32) < nI nx from nI_lt (a := 8) (by omega) (by omega)), e, zbi_some]
  unfold F_Pars_read_p46
  by_cases c : q.1 = 99
  · rw [if_pos c, c, if_pos (show nxI 99 = -1 from rfl), zset_eq]
  · have e1 : nxI q.1 = nI q.1 := if_neg c
    have ne : ¬ nI q.1 = (-1 : Int32) := by
      intro z
      have := congrArg Int32.toInt z
      rw [nI_toInt (by omega)] at this
      have : (-1 : Int32).toInt = -1 := by decide
      omega
    rw [if_neg c, e1, if_neg ne, nI_1]
theorem cTok (hN : 300 < N) (h : cK M K) (h23 : nx = 23 → K.2.2.1 ≠ []) (h1 : M 1 pl = nI t) (ht : t < 174) (hp : pl < len) (hl : len ≤ 150) (hn : 9 ≤ nx) (hn2 : nx < 1000) (hq : (kTok nx t (nI pl) K).1 = 99 ∨ (kTok nx t (nI pl) K).1 ≤ 24) : ∃ M', F_Pars_read_p10 N (n + 1) M (nI len) (nI nx) (nI pl) = (if (kTok nx t (nI pl) K).1 = 99 then some (zup M' 14 1 (nI pl)) else F_Pars_read_p10 N n M' (nI len) (nI (kTok nx t (nI pl) K).1) (nI (pl + 1))) ∧ cK M' (kTok nx t (nI pl) K).2 ∧ cKeep M M' := by
  rw [F_Pars_read_p10, if_neg (nI_ge hp (by omega)), if_neg (show ¬ (150 : Int32) ≤ nI pl from nI_ge (b := 150) (by omega) (by omega)), zix_nI _ (by omega) (by omega), nI_clamp (by omega), h1]
  by_cases c23 : nx = 23
  · subst c23
    rw [if_pos (show nI 23 = (23 : Int32) from rfl)]
    obtain ⟨pd, c, os, fl, cl, ow⟩ := K
    obtain ⟨M1, e1, k1, k2⟩ := cOfOp h (nI t)
    rw [e1, zbi_some]
    by_cases hb : isBin t = true
    · have eo : kOfOp (nI t) = nI (zLev t) := by rw [kOfOp_z t ht, if_pos hb]
      have ne : ¬ kOfOp (nI t) = (-1 : Int32) := by
        rw [eo]
        intro z
        have := congrArg Int32.toInt z
        have z3 := zLev_le t
        rw [nI_toInt (by omega)] at this
        have : (-1 : Int32).toInt = -1 := by decide
        omega
      rw [if_neg ne]
      have eq : kTok 23 t (nI pl) (pd, c, os, fl, cl, ow) = kAcc 23 t (nI pl) (pd, c, os, fl, cl, ow) := by
        unfold kTok
        rw [if_neg (fun z => by rw [hb] at z; exact absurd z.2 (by decide))]
      rw [eq] at hq ⊢
      obtain ⟨M2, e2, k3, k4⟩ := cP32 (n := n) (len := len) hN k1 h23 ht hn hn2 rfl hq
      exact ⟨M2, e2, k3, k2.trans k4⟩
    · have hbf : isBin t = false := by simpa using hb
      have eo : kOfOp (nI t) = -1 := by rw [kOfOp_z t ht, if_neg hb]
      rw [if_pos eo]
      obtain ⟨M2, e2, k3, k4⟩ := cEnd (N := N) (by omega) k1 (h23 rfl)
      obtain ⟨x1, x2⟩ := kEnd_nx (pd, c, os, fl, cl, ow)
      have e3 : nxI (kEnd (pd, c, os, fl, cl, ow)).1 = nI (kEnd (pd, c, os, fl, cl, ow)).1 := if_neg (by omega)
      rw [e2, zbi_some, e3]
      have eq : kTok 23 t (nI pl) (pd, c, os, fl, cl, ow) = kAcc (kEnd (pd, c, os, fl, cl, ow)).1 t (nI pl) (kEnd (pd, c, os, fl, cl, ow)).2 := by
        unfold kTok
        rw [if_pos ⟨rfl, hbf⟩]
      rw [eq] at hq ⊢
      obtain ⟨M3, e4, k5, k6⟩ := cP32 (n := n) (len := len) hN k3 (fun z => by omega) ht x1 (by omega) rfl hq
      exact ⟨M3, e4, k5, k2.trans (k4.trans k6)⟩
  · rw [if_neg (show ¬ nI nx = (23 : Int32) from nIne hn2 (c := 23) (by omega) c23)]
    rw [kTok_n c23] at hq ⊢
    exact cP32 hN h h23 ht hn hn2 rfl hq
end CT
