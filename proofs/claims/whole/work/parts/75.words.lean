/-! THE PLAIN FORM: what is written of a tree (Wr), and the text with tokens left out (Fo) -/
def isEn (t : Nat) : Bool := t == 163 || t == 173 || t == 162 || t == 167
def isOp (t : Nat) : Bool := t == 171 || t == 161 || t == 162 || t == 165 || t == 166
/-- one token behind the state p (0: the last kept opens statements, 1: another, 2: another and a semicolon that waits); o: it is left out -/
def f1 (p t : Nat) (o : Bool) : List Nat × Nat :=
  if o = true then (if p = 2 then (if (isEn t || t == 121) = true then ([], 1) else ([121], 1)) else ([], p))
  else if t = 121 then (if p = 0 then ([], 0) else ([], 2))
  else if isEn t = true then ([t], if isOp t = true then 0 else 1)
  else ((if p = 2 then [121, t] else [t]), if isOp t = true then 0 else 1)
def fdn (tx : Nat → Nat) (fl : Nat → Int32) : Nat → Nat → Nat → List Nat × Nat
  | 0, _, p => ([], p)
  | n + 1, a, p => ((f1 p (tx a) (decide (¬ fl a = 0))).1 ++ (fdn tx fl n (a + 1) (f1 p (tx a) (decide (¬ fl a = 0))).2).1, (fdn tx fl n (a + 1) (f1 p (tx a) (decide (¬ fl a = 0))).2).2)
def Fo (tx : Nat → Nat) (fl : Nat → Int32) (a b p : Nat) (w : List Nat) (p' : Nat) : Prop := a ≤ b ∧ fdn tx fl (b - a) a p = (w, p')
section FO
variable {tx : Nat → Nat} {fl fl' : Nat → Int32} {a b c p p1 p2 : Nat} {w w1 w2 : List Nat}
theorem Fo_nil : Fo tx fl a a p [] p := ⟨Nat.le_refl _, by rw [Nat.sub_self]; rfl⟩
theorem fdn_add : ∀ (n m a p : Nat), fdn tx fl (n + m) a p = ((fdn tx fl n a p).1 ++ (fdn tx fl m (a + n) (fdn tx fl n a p).2).1, (fdn tx fl m (a + n) (fdn tx fl n a p).2).2)
  | 0, m, a, p => by simp [fdn]
  | n + 1, m, a, p => by
    rw [show n + 1 + m = (n + m) + 1 by omega]
    simp only [fdn]
    rw [fdn_add n m, show a + 1 + n = a + (n + 1) by omega]
    simp [List.append_assoc]
theorem Fo_cat (h : Fo tx fl a b p w1 p1) (g : Fo tx fl b c p1 w2 p2) : Fo tx fl a c p (w1 ++ w2) p2 := by
  refine ⟨Nat.le_trans h.1 g.1, ?_⟩
  have h1 := h.1
  have g1 := g.1
  rw [show c - a = (b - a) + (c - b) by omega, fdn_add, h.2, show a + (b - a) = b by omega, g.2]
theorem Fo_one (h : f1 p (tx a) (decide (¬ fl a = 0)) = (w, p1)) : Fo tx fl a (a + 1) p w p1 := by
  refine ⟨by omega, ?_⟩
  rw [show a + 1 - a = 1 by omega]
  show ((f1 p (tx a) (decide (¬ fl a = 0))).1 ++ [], (f1 p (tx a) (decide (¬ fl a = 0))).2) = (w, p1)
  rw [h, List.append_nil]
theorem fdn_same : ∀ (n a p : Nat), (∀ i, a ≤ i → i < a + n → fl' i = fl i) → fdn tx fl' n a p = fdn tx fl n a p
  | 0, a, p, _ => rfl
  | n + 1, a, p, h => by
    simp only [fdn]
    rw [h a (by omega) (by omega)]
    rw [fdn_same n (a + 1) _ (fun i h1 h2 => h i (by omega) (by omega))]
theorem Fo_same (hs : ∀ i, a ≤ i → i < b → fl' i = fl i) (h : Fo tx fl a b p w p1) : Fo tx fl' a b p w p1 := by
  have h1 := h.1
  exact ⟨h.1, by rw [fdn_same _ _ _ (fun i q1 q2 => hs i q1 (by omega))]; exact h.2⟩
/-- a token that is kept, no semicolon, nothing waits -/
theorem Fo_tok {t : Nat} (ht : tx a = t) (hf : fl a = 0) (h1 : ¬ t = 121) (hp : ¬ p = 2) : Fo tx fl a (a + 1) p [t] (if isOp t = true then 0 else 1) := by
  apply Fo_one
  rw [ht, hf]
  simp only [f1]
  rw [if_neg (by simp), if_neg h1]
  by_cases c : isEn t = true
  · rw [if_pos c]
  · rw [if_neg c, if_neg hp]
theorem Fo_plain {t : Nat} (ht : tx a = t) (hf : fl a = 0) (h1 : ¬ t = 121) (ho : isOp t = false) (hp : ¬ p = 2) : Fo tx fl a (a + 1) p [t] 1 := by
  have := Fo_tok (p := p) ht hf h1 hp
  rw [ho] at this
  exact this
theorem Fo_out {t : Nat} (ht : tx a = t) (hf : ¬ fl a = 0) (hp : ¬ p = 2) : Fo tx fl a (a + 1) p [] p := by
  apply Fo_one
  simp only [f1]
  rw [if_pos (by simp [hf]), if_neg hp]
def pre (p : Nat) : List Nat := if p = 2 then [121] else []
/-- the first token of a statement -/
theorem Fo_first {t : Nat} (ht : tx a = t) (hf : fl a = 0) (h1 : ¬ t = 121) (he : isEn t = false) : Fo tx fl a (a + 1) p (pre p ++ [t]) (if isOp t = true then 0 else 1) := by
  apply Fo_one
  rw [ht, hf]
  simp only [f1]
  rw [if_neg (by simp), if_neg h1, if_neg (by simp [he])]
  unfold pre
  by_cases c : p = 2
  · rw [if_pos c, if_pos c]; rfl
  · rw [if_neg c, if_neg c]; rfl
/-- the token that ends statements: what waits is dropped -/
theorem Fo_en {t : Nat} (ht : tx a = t) (hf : fl a = 0) (he : isEn t = true) : Fo tx fl a (a + 1) p [t] (if isOp t = true then 0 else 1) := by
  apply Fo_one
  rw [ht, hf]
  have h1 : ¬ t = 121 := by intro q; subst q; simp [isEn] at he
  simp only [f1]
  rw [if_neg (by simp), if_neg h1, if_pos he]
theorem Fo_semi (ht : tx a = 121) (hf : fl a = 0) : Fo tx fl a (a + 1) p [] (if p = 0 then 0 else 2) := by
  apply Fo_one
  rw [ht, hf]
  simp only [f1]
  rw [if_neg (by simp)]
  by_cases c : p = 0
  · simp [c]
  · simp [c]
end FO
def isNil : T → Bool
  | .var x => (x : Nat) == 99
  | _ => false
def tlev : T → Nat
  | .mulL k _ => if isRel k = true then 0 else if k = 6 ∨ k = 130 ∨ k = 131 ∨ k = 151 then 1 else if 100 < k then 2 else 3
  | _ => 3
def lmin (n : Nat) : Nat := if zLev n = 0 then 1 else zLev n
def brk (c : Prop) [Decidable c] (w : List Nat) : List Nat := if c then 122 :: (w ++ [123]) else w
/-- modes: 0 to 3 an expression at this strength (0: a statement too); 4 expressions with commas, 5 statements with semicolons, 6 what follows the first part of an if, 7 list and rest; 10 + k: the pair of k -/
def Wr : T → Nat → List Nat
  | .num k, _ => [k]
  | .var x, m => if m ≤ 3 then [100 + (x : Nat)] else if m = 6 ∧ (x : Nat) = 99 then [162] else []
  | .add a b, m =>
    if m = 4 then Wr a 0 ++ (if isNil b = true then [] else 124 :: Wr b 4)
    else if m = 5 then Wr a 0 ++ (if isNil b = true then [] else 121 :: Wr b 5)
    else if m = 6 then 162 :: (Wr a 0 ++ (if isNil b = true then [] else 121 :: Wr b 5))
    else if m = 7 then Wr a 5 ++ Wr b 6
    else if m = 31 then [108, 125] ++ (Wr a 0 ++ ([126, 120] ++ Wr b 0))
    else if m = 35 then 164 :: (Wr a 0 ++ (165 :: (Wr b 5 ++ [163])))
    else if m = 36 then 166 :: (Wr a 5 ++ (167 :: Wr b 0))
    else if m = 37 then Wr a 0 ++ (161 :: Wr b 7)
    else Wr a (lmin (m - 10)) ++ ((m - 10) :: Wr b (zLev (m - 10) + 1))
  | .mulL k s, m =>
    if k = 2 then [108, 125] ++ (Wr s 0 ++ [126])
    else if k = 5 then 152 :: Wr s 3
    else if k = 6 then brk (1 < m) (131 :: Wr s 2)
    else if 200 ≤ k then [100 + (k - 200), 120] ++ Wr s 0
    else if k = 22 then Wr s 0
    else if k = 23 then 169 :: Wr s 0
    else if k = 24 then 168 :: Wr s 0
    else if k = 27 then (if m = 6 then 173 :: Wr s 37 else 160 :: (Wr s 37 ++ [163]))
    else if k = 21 ∨ k = 25 ∨ k = 26 then Wr s (10 + k)
    else brk (zLev k < m) (Wr s (10 + k))
  | .mulR s q, _ => [110 + q % 4, 122] ++ (Wr s 4 ++ [123])
theorem Wr_add5 (a b : T) : Wr (.add a b) 5 = Wr a 0 ++ (if isNil b = true then [] else 121 :: Wr b 5) := rfl
theorem Wr_add4 (a b : T) : Wr (.add a b) 4 = Wr a 0 ++ (if isNil b = true then [] else 124 :: Wr b 4) := rfl
theorem tlev_L (k : Nat) (s : T) : tlev (.mulL k s) = if isRel k = true then 0 else if k = 6 ∨ k = 130 ∨ k = 131 ∨ k = 151 then 1 else if 100 < k then 2 else 3 := rfl
theorem tlev_bin {k : Nat} {s : T} (h : isBin k = true) : tlev (.mulL k s) = zLev k := by
  obtain ⟨h1, h2⟩ := isBin_n h
  rw [tlev_L]
  unfold zLev
  rw [if_neg (show ¬ k = 9 by omega), if_neg (show ¬ k = 8 by omega)]
  by_cases r : isRel k = true
  · rw [if_pos r, if_pos r]
  · rw [if_neg r, if_neg r]
    by_cases r2 : k = 130 ∨ k = 131 ∨ k = 151
    · rw [if_pos r2, if_pos (Or.inr r2)]
    · rw [if_neg r2, if_neg (by omega), if_pos (by omega)]
theorem Wr_bin {k : Nat} {s : T} {m : Nat} (h : isBin k = true) : Wr (.mulL k s) m = brk (zLev k < m) (Wr s (10 + k)) := by
  obtain ⟨h1, h2⟩ := isBin_n h
  simp only [Wr]
  rw [if_neg (by omega), if_neg (by omega), if_neg (by omega), if_neg (by omega), if_neg (by omega), if_neg (by omega), if_neg (by omega), if_neg (by omega), if_neg (by omega)]
theorem Wr_pair {a b : T} {k : Nat} (h : isBin k = true) : Wr (.add a b) (10 + k) = Wr a (lmin k) ++ (k :: Wr b (zLev k + 1)) := by
  obtain ⟨h1, h2⟩ := isBin_n h
  simp only [Wr]
  rw [if_neg (by omega), if_neg (by omega), if_neg (by omega), if_neg (by omega), if_neg (by omega), if_neg (by omega), if_neg (by omega), if_neg (by omega), show 10 + k - 10 = k by omega]
theorem W_lev {e : T} {m : Nat} (h : sh e 0 = true) (hm : m ≤ 3) : Wr e m = brk (tlev e < m) (Wr e 0) := by
  have n3 : ¬ 3 < m := by omega
  cases e with
  | num k => simp [Wr, tlev, brk, n3]
  | var x => simp [Wr, tlev, brk, n3, hm]
  | add a b => simp [sh] at h
  | mulR s q => simp [Wr, tlev, brk, n3]
  | mulL k s =>
    simp [sh] at h
    rcases h with ⟨h, -⟩ | ⟨h, -⟩
    · rcases h with (rfl | rfl) | rfl
      · simp [Wr, tlev, brk, n3, isRel]
      · simp [Wr, tlev, brk, n3, isRel]
      · simp [Wr, tlev, brk, isRel]
    · rw [tlev_bin h, Wr_bin h, Wr_bin h]
      simp [brk]
theorem isNil_snoc (l s : T) : isNil (snoc l s) = false := by cases l <;> rfl
/-- a statement comes to a list, an expression to the arguments -/
theorem W_snoc5 {s : T} : ∀ {l : T}, sh l 2 = true → Wr (snoc l s) 5 = Wr l 5 ++ ((if isNil l = true then [] else [121]) ++ Wr s 0)
  | .add a b, h => by
    simp [sh] at h
    show Wr (.add a (snoc b s)) 5 = _
    rw [Wr_add5, Wr_add5, isNil_snoc, W_snoc5 h.2]
    cases hb : isNil b with
    | true =>
      have : Wr b 5 = [] := by
        cases b with
        | var x => simp [Wr]
        | _ => simp [isNil] at hb
      simp [this, isNil]
    | false => simp [isNil, List.append_assoc]
  | .var x, h => by
    simp [sh] at h
    simp [snoc, Wr, isNil, h]
  | .num k, h => by simp [sh] at h
  | .mulL k a, h => by simp [sh] at h
  | .mulR a k, h => by simp [sh] at h
theorem W_snoc4 {s : T} : ∀ {l : T}, sh l 4 = true → Wr (snoc l s) 4 = Wr l 4 ++ ((if isNil l = true then [] else [124]) ++ Wr s 0)
  | .add a b, h => by
    simp [sh] at h
    show Wr (.add a (snoc b s)) 4 = _
    rw [Wr_add4, Wr_add4, isNil_snoc, W_snoc4 h.2]
    cases hb : isNil b with
    | true =>
      have : Wr b 4 = [] := by
        cases b with
        | var x => simp [Wr]
        | _ => simp [isNil] at hb
      simp [this, isNil]
    | false => simp [isNil, List.append_assoc]
  | .var x, h => by
    simp [sh] at h
    simp [snoc, Wr, isNil, h]
  | .num k, h => by simp [sh] at h
  | .mulL k a, h => by simp [sh] at h
  | .mulR a k, h => by simp [sh] at h
/-! CALLS in trees -/
def tlen : T → Nat
  | .add _ b => tlen b + 1
  | _ => 0
theorem tlen_snoc (s : T) : ∀ l : T, tlen (snoc l s) = tlen l + 1
  | .add a b => by simp only [snoc, tlen]; rw [tlen_snoc s b]
  | .var x => rfl
  | .num k => rfl
  | .mulL k a => rfl
  | .mulR a k => rfl
def hasC : T → Nat → Nat → Prop
  | .num _, _, _ => False
  | .var _, _, _ => False
  | .add a b, q, c => hasC a q c ∨ hasC b q c
  | .mulL _ s, q, c => hasC s q c
  | .mulR s q', q, c => (q = q' ∧ c = tlen s) ∨ hasC s q c
def hasT (ts : List T) (q c : Nat) : Prop := ∃ t, t ∈ ts ∧ hasC t q c
theorem hasC_snoc {s : T} {q c : Nat} : ∀ {l : T} {m : Nat}, (m = 2 ∨ m = 4) → sh l m = true → (hasC (snoc l s) q c ↔ hasC l q c ∨ hasC s q c)
  | .add a b, m, hm, h => by
    have hb : ∃ m', (m' = 2 ∨ m' = 4) ∧ sh b m' = true := by
      rcases hm with rfl | rfl
      · simp [sh] at h; exact ⟨2, Or.inl rfl, h.2⟩
      · simp [sh] at h; exact ⟨4, Or.inr rfl, h.2⟩
    obtain ⟨m', h1, h2⟩ := hb
    simp only [snoc, hasC]
    rw [hasC_snoc h1 h2]
    constructor
    · rintro (q | q | q)
      · exact Or.inl (Or.inl q)
      · exact Or.inl (Or.inr q)
      · exact Or.inr q
    · rintro ((q | q) | q)
      · exact Or.inl q
      · exact Or.inr (Or.inl q)
      · exact Or.inr (Or.inr q)
  | .var x, m, hm, h => by simp [snoc, hasC]
  | .num k, m, hm, h => by rcases hm with rfl | rfl <;> simp [sh] at h
  | .mulL k a, m, hm, h => by rcases hm with rfl | rfl <;> simp [sh] at h
  | .mulR a k, m, hm, h => by rcases hm with rfl | rfl <;> simp [sh] at h
/-- the calls H stand in the tokens a .. b - 1, and no others -/
def CaH (ca ac : Nat → Int32) (H : Nat → Nat → Prop) (a b : Nat) : Prop := a ≤ b ∧ (∀ q c, H q c → a ≤ q / 4 ∧ q / 4 < b ∧ ca (q / 4) = nI (q % 4) ∧ ac (q / 4) = nI c) ∧ ∀ i, a ≤ i → i < b → ca i = -1 ∨ ∃ q c, H q c ∧ q / 4 = i
section CA
variable {ca ac ca' ac' : Nat → Int32} {H H1 H2 : Nat → Nat → Prop} {a b m : Nat}
theorem CaH_cat (h1 : CaH ca ac H1 a m) (h2 : CaH ca ac H2 m b) (hh : ∀ q c, H q c ↔ H1 q c ∨ H2 q c) : CaH ca ac H a b := by
  obtain ⟨l1, a1, b1⟩ := h1
  obtain ⟨l2, a2, b2⟩ := h2
  refine ⟨by omega, fun q c h => ?_, fun i g1 g2 => ?_⟩
  · rcases (hh q c).mp h with h | h
    · obtain ⟨x1, x2, x3, x4⟩ := a1 q c h
      exact ⟨x1, by omega, x3, x4⟩
    · obtain ⟨x1, x2, x3, x4⟩ := a2 q c h
      exact ⟨by omega, x2, x3, x4⟩
  · by_cases c : i < m
    · rcases b1 i g1 c with x | ⟨q, c, x1, x2⟩
      · exact Or.inl x
      · exact Or.inr ⟨q, c, (hh q c).mpr (Or.inl x1), x2⟩
    · rcases b2 i (by omega) g2 with x | ⟨q, c, x1, x2⟩
      · exact Or.inl x
      · exact Or.inr ⟨q, c, (hh q c).mpr (Or.inr x1), x2⟩
theorem CaH_one (h : ca a = -1) : CaH ca ac (fun _ _ => False) a (a + 1) := ⟨by omega, fun _ _ h => h.elim, fun i h1 h2 => Or.inl (by rw [show i = a by omega]; exact h)⟩
theorem CaH_nil : CaH ca ac (fun _ _ => False) a a := ⟨by omega, fun _ _ h => h.elim, fun i h1 h2 => by omega⟩
theorem CaH_ext (h : CaH ca ac H a b) (hb : ca b = -1) : CaH ca ac H a (b + 1) := CaH_cat h (CaH_one hb) (fun q c => by simp)
theorem CaH_iff (h : CaH ca ac H1 a b) (hh : ∀ q c, H q c ↔ H1 q c) : CaH ca ac H a b := CaH_cat h CaH_nil (fun q c => by rw [hh q c]; simp)
theorem CaH_same (hs : ∀ i, a ≤ i → i < b → ca' i = ca i ∧ ac' i = ac i) (h : CaH ca ac H a b) : CaH ca' ac' H a b := by
  obtain ⟨l, h1, h2⟩ := h
  refine ⟨l, fun q c g => ?_, fun i g1 g2 => ?_⟩
  · obtain ⟨x1, x2, x3, x4⟩ := h1 q c g
    obtain ⟨e1, e2⟩ := hs _ x1 x2
    exact ⟨x1, x2, e1.trans x3, e2.trans x4⟩
  · rcases h2 i g1 g2 with x | x
    · exact Or.inl ((hs i g1 g2).1.trans x)
    · exact Or.inr x
end CA
