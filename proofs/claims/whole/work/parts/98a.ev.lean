/-! WHAT A RUN DOES, on trees. A state: values (0 globals, 1 cells, 2 the call's names, 4 outs), turns, most, how many outs.
    A result: 0 done, 1 returned, 2 + k stopped with the ending k; its values; the state -/
abbrev zE : Type := zMem × Nat × Nat × Nat
abbrev zR : Type := Nat × List Int32 × zE
def rb (r : zR) (f : List Int32 → zE → zR) : zR := if r.1 = 0 then f r.2.1 r.2.2 else r
def vTurn (s : zE) : zE := (s.1, s.2.1 + 1, s.2.2)
def vSet (a i : Nat) (v : Int32) (s : zE) : zE := (zup s.1 a i v, s.2)
def vGet (mk x : Nat) (s : zE) : Int32 := if kOwn (nI mk) x = true then s.1 2 x else s.1 0 x
def vPut (mk x : Nat) (v : Int32) (s : zE) : zE := if kOwn (nI mk) x = true then vSet 2 x v s else vSet 0 x v s
def v1 (l : List Int32) : Int32 := l.headD 0
def v2 (l : List Int32) : Int32 := (l.drop 1).headD 0
def vIx (v : Int32) : Nat := (v &&& 15).toNatClampNeg
def bI (b : Bool) : Int32 := if b = true then 1 else 0
/-- an operator that is no AND, OR: none where it divides by zero -/
def eBin (k : Nat) (a b : Int32) : Option Int32 :=
  if k = 133 then (if b = 0 then none else some (a / b))
  else if k = 134 then (if b = 0 then none else some (a - a / b * b))
  else if k = 130 then some (a + b) else if k = 131 then some (a - b) else if k = 132 then some (a * b)
  else if k = 140 then some (bI (decide (a = b))) else if k = 141 then some (bI (decide (¬ a = b)))
  else if k = 142 then some (bI (decide (¬ b ≤ a))) else if k = 143 then some (bI (decide (¬ b < a)))
  else if k = 144 then some (bI (decide (¬ a ≤ b))) else some (bI (decide (¬ a < b)))
def nz (v : Int32) : Int32 := if v = 0 then 0 else 1
/-- the names of a call: the values of its arguments, else 0 -/
def vPar (J : zJ) (p : Nat) : Nat → List Int32 → (Nat → Int32) → Nat → Int32
  | _, [], f => f
  | i, v :: r, f => vPar J p (i + 1) r (fun j => if j = J 2 (8 * p + i) then v else f j)
def vIn (s : zE) (f : Nat → Int32) (d : Nat) : zE := ((fun a i => if a = 2 then f i else s.1 a i), s.2.1, (if s.2.2.1 < d then d else s.2.2.1), s.2.2.2)
def vOut (s0 s : zE) : zE := ((fun a i => if a = 2 then s0.1 2 i else s.1 a i), s.2)
/-- rec: depth, names' mask, tree, mode, state -/
abbrev zRec : Type := Nat → Nat → T → Nat → zE → zR
def evT (rec : zRec) (J : zJ) (B : Nat → T) (d mk : Nat) : T → Nat → zE → zR
  | .num k, _, s => (0, [nI k], s)
  | .var x, _, s => if (x : Nat) = 99 ∨ (x : Nat) = 98 then (0, [], s) else (0, [vGet mk x s], s)
  | .add a b, m, s =>
    if m = 1 ∨ m = 2 then rb (evT rec J B d mk a 0 s) fun l s1 => rb (evT rec J B d mk b 1 s1) fun l' s2 => (0, l ++ l', s2)
    else if m = 5 then rb (evT rec J B d mk a 0 s) fun l s1 => rb (evT rec J B d mk b 0 s1) fun l' s2 => (0, l ++ l', s2)
    else if m = 150 then rb (evT rec J B d mk a 0 s) fun l s1 => if v1 l = 0 then (0, [0], s1) else rb (evT rec J B d mk b 0 s1) fun l' s2 => (0, [nz (v1 l')], s2)
    else if m = 151 then rb (evT rec J B d mk a 0 s) fun l s1 => if v1 l = 0 then rb (evT rec J B d mk b 0 s1) fun l' s2 => (0, [nz (v1 l')], s2) else (0, [1], s1)
    else if m = 25 then rb (evT rec J B d mk a 0 s) fun l s1 => if v1 l = 0 then (0, [], s1) else if s1.2.1 = 300 then (3, [], s1) else rb (evT rec J B d mk b 1 (vTurn s1)) fun _ s2 => rec d mk (.add a b) 25 s2
    else if m = 26 then (if s.2.1 = 300 then (3, [], s) else rb (evT rec J B d mk a 1 (vTurn s)) fun _ s1 => rb (evT rec J B d mk b 0 s1) fun l s2 => if v1 l = 0 then rec d mk (.add a b) 26 s2 else (0, [], s2))
    else if m = 27 then rb (evT rec J B d mk a 0 s) fun l s1 => if v1 l = 0 then evT rec J B d mk b 280 s1 else evT rec J B d mk b 281 s1
    else if m = 281 then evT rec J B d mk a 1 s
    else evT rec J B d mk b 2 s
  | .mulL k e, _, s =>
    if k = 2 then rb (evT rec J B d mk e 0 s) fun l s1 => (0, [s1.1 1 (vIx (v1 l))], s1)
    else if k = 5 then rb (evT rec J B d mk e 0 s) fun l s1 => (0, [if v1 l = 0 then 1 else 0], s1)
    else if k = 6 then rb (evT rec J B d mk e 0 s) fun l s1 => (0, [0 - v1 l], s1)
    else if 200 ≤ k then rb (evT rec J B d mk e 0 s) fun l s1 => (0, [], vPut mk (k - 200) (v1 l) s1)
    else if k = 22 then rb (evT rec J B d mk e 0 s) fun _ s1 => (0, [], s1)
    else if k = 23 then rb (evT rec J B d mk e 0 s) fun l s1 => if s1.2.2.2 = 20 then (5, [], s1) else (0, [], (zup s1.1 4 s1.2.2.2 (v1 l), s1.2.1, s1.2.2.1, s1.2.2.2 + 1))
    else if k = 24 then rb (evT rec J B d mk e 0 s) fun l s1 => (1, [v1 l], s1)
    else if k = 21 then rb (evT rec J B d mk e 5 s) fun l s1 => (0, [], vSet 1 (vIx (v1 l)) (v2 l) s1)
    else if k = 25 ∨ k = 26 ∨ k = 27 ∨ k = 150 ∨ k = 151 then evT rec J B d mk e k s
    else rb (evT rec J B d mk e 5 s) fun l s1 => match eBin k (v1 l) (v2 l) with
      | some v => (0, [v], s1)
      | none => (6, [], s1)
  | .mulR e q, _, s => rb (evT rec J B d mk e 1 s) fun l s1 =>
    if s1.2.1 = 300 then (3, [], s1) else if d = 20 then (4, [], vTurn s1)
    else (let r := rec (d + 1) (J 3 (q % 4)) (B (q % 4)) 1 (vIn (vTurn s1) (vPar J (q % 4) 0 l (fun _ => 0)) (d + 1))
          if r.1 = 0 then (0, [0], vOut s1 r.2.2) else if r.1 = 1 then (0, r.2.1, vOut s1 r.2.2) else r)
def evN (J : zJ) (B : Nat → T) : Nat → zRec
  | 0 => fun _ _ _ _ s => (0, [], s)
  | n + 1 => fun d mk t m s => evT (evN J B n) J B d mk t m s
theorem rb_0 {r : zR} {f : List Int32 → zE → zR} (h : r.1 = 0) : rb r f = f r.2.1 r.2.2 := if_pos h
theorem rb_n {r : zR} {f : List Int32 → zE → zR} (h : ¬ r.1 = 0) : rb r f = r := if_neg h
/-- how many operands an evaluation holds at once -/
def td : T → Nat → Nat
  | .num _, _ => 1
  | .var x, _ => if (x : Nat) = 99 ∨ (x : Nat) = 98 then 0 else 1
  | .add a b, m =>
    if m = 4 then max (td a 0) (1 + td b 4)
    else if m = 5 then max (td a 0) (1 + td b 0)
    else max (td a 0) (max (td b 0) (max (td a 1) (td b 1)))
  | .mulL k s, _ => if k = 21 ∨ (130 ≤ k ∧ k < 152) then td s 5 else td s 0
  | .mulR s _, _ => max 1 (td s 4)
