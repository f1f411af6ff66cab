/-! THE READER AS A LIST MACHINE: tasks, a pile of trees, the procs' numbers J and trees B.
    Trees: .num k number; .var x name (x < 8), .var 99 the empty list, .var 98 no else; .add a r: a, then r (lists, pairs);
    .mulL k e: 2 cell, 5 not, 6 minus, 130.. operators of a pair, 200 + x assignment, 21 store, 22 call, 23 put, 24 return, 25 while, 26 repeat, 27 if;
    .mulR args q: call of proc q % 4, whose name stands at token q / 4 -/
def snoc : T → T → T
  | .add a r, s => .add a (snoc r s)
  | _, s => .add s (.var 99)
def grow (a e : T) : T := match a with
  | .mulR s q => .mulR (snoc s e) q
  | l => snoc l e
abbrev zJ : Type := Nat → Nat → Nat
def jup (J : zJ) (a i v : Nat) : zJ := fun b j => if b = a ∧ j = i then v else J b j
def bup (B : Nat → T) (i : Nat) (t : T) : Nat → T := fun j => if j = i then t else B j
/-- tasks, pile, numbers, trees -/
abbrev zS : Type := List Nat × List T × zJ × (Nat → T)
def nd1 (J : zJ) : zJ := jup J 4 5 (J 4 5 + 1)
def isName (t : Nat) : Bool := 100 ≤ t && t ≤ 107
def isProcName (t : Nat) : Bool := 110 ≤ t && t ≤ 113
def begStmt (t : Nat) : Bool := (100 ≤ t && t ≤ 108) || (110 ≤ t && t ≤ 113) || t == 160 || t == 164 || t == 166 || t == 168 || t == 169
def isRel (t : Nat) : Bool := 140 ≤ t && t ≤ 145
/-- the tasks that 200 .. 223 become; none: it is done with nothing -/
def sParts (x t : Nat) : List Nat :=
  if x = 200 then (if t = 170 then [201, 200] else [171, 205, 163, 2000])
  else if x = 201 then [170, 219, 122, 202, 204, 171, 205, 163, 3000]
  else if x = 202 then (if isName t then [220, 203, 123] else [123])
  else if x = 203 then (if t = 124 then [124, 220, 203] else [])
  else if x = 204 then (if t = 172 then [172, 221, 222] else [])
  else if x = 222 then (if t = 124 then [124, 221, 222] else [])
  else if x = 206 then (if t = 121 then [121, 223, 206] else [])
  else if x = 223 then (if begStmt t then [207, 4000] else [])
  else []
def sStmt (t : Nat) : List Nat :=
  if isName t then [t, 120, 208, 20000 + (t - 100)]
  else if t = 108 then [108, 125, 208, 126, 120, 208, 21000]
  else if isProcName t then [215, 22000]
  else if t = 169 then [169, 208, 23000]
  else if t = 168 then [168, 208, 24000]
  else if t = 164 then [164, 208, 165, 205, 163, 25000]
  else if t = 166 then [166, 205, 167, 208, 26000]
  else [160, 208, 161, 205, 218, 163]
def sExpr (x t : Nat) : List Nat :=
  if x = 208 then [210, 209]
  else if x = 209 then (if isRel t then [t, 210, 5000 + t] else [])
  else if x = 210 then (if t = 130 then [130, 212, 211] else if t = 131 then [131, 212, 6000, 211] else [212, 211])
  else if x = 211 then (if t = 130 ∨ t = 131 ∨ t = 151 then [t, 212, 5000 + t, 211] else [])
  else if x = 212 then [214, 213]
  else (if (132 ≤ t ∧ t ≤ 134) ∨ t = 150 then [t, 214, 5000 + t, 213] else [])
/-- a finished piece: what 1000 and more do to the pile and the trees -/
def sFin (x : Nat) (P : List T) (J : zJ) (B : Nat → T) : List T × zJ × (Nat → T) :=
  let k := x / 1000
  let n := x % 1000
  if k = 2 then (P.drop 1, jup J 7 0 1, bup B 4 (P.headD (.var 99)))
  else if k = 3 then
    (let l := P.headD (.var 99)
     let d := J 4 3
     let B1 := bup B (10 + d) l
     let J1 := jup J 4 3 (d + 1)
     if J 4 2 = 0 then (P.drop 1, jup (jup J1 3 (J 4 0) (J 4 1)) 6 (J 4 0) 1, bup B1 (J 4 0) l) else (P.drop 1, J1, B1))
  else match P with
    | e :: P1 =>
      if k = 6 then (.mulL 6 e :: P1, nd1 J, B)
      else if k = 7 then (.mulL 2 e :: P1, nd1 J, B)
      else if k = 8 then (.mulL 5 e :: P1, nd1 J, B)
      else if k = 20 then (.mulL (200 + n) e :: P1, nd1 J, B)
      else if k = 22 then (.mulL 22 e :: P1, nd1 J, B)
      else if k = 23 then (.mulL 23 e :: P1, nd1 J, B)
      else if k = 24 then (.mulL 24 e :: P1, nd1 J, B)
      else match P1 with
        | a :: P2 =>
          if k = 4 then (grow a e :: P2, J, B)
          else if k = 5 then (.mulL n (.add a e) :: P2, nd1 J, B)
          else if k = 9 then (grow a e :: P2, J, B)
          else if k = 21 then (.mulL 21 (.add a e) :: P2, nd1 J, B)
          else if k = 25 then (.mulL 25 (.add a e) :: P2, nd1 J, B)
          else if k = 26 then (.mulL 26 (.add a e) :: P2, nd1 J, B)
          else match P2 with
            | c :: P3 => (.mulL 27 (.add c (.add a e)) :: P3, nd1 J, B)
            | [] => (P, J, B)
        | [] => (P, J, B)
    | [] => (P, J, B)
def sFault (J : zJ) (b : Bool) (pl : Nat) : zJ := if b && J 4 4 == 0 then jup J 4 4 (pl + 1) else J
def sNames (x t pl : Nat) (J : zJ) : Option zJ :=
  if x = 219 then
    (if isProcName t then
      (let p := t - 110
       let ag := J 0 p
       some (sFault (jup (jup (jup (jup (jup (jup J 4 0 p) 4 2 ag) 0 p 1) 4 1 0) 5 (J 4 3) (pl - 1)) 9 0 (J 4 3 + 1)) (ag == 1) pl))
     else none)
  else if isName t then
    (let b := t - 100
     let J1 := sFault J (J 4 1 / 2 ^ b % 2 == 1) pl
     let p := J 4 0
     let J2 := if x = 220 ∧ J 4 2 = 0 then jup (jup J1 2 (8 * p + (if J1 1 p < 7 then J1 1 p else 7)) b) 1 p (J1 1 p + 1) else J1
     some (jup J2 4 1 (J 4 1 ||| 2 ^ b)))
  else none
/-- one step at the token t (999: no token) with the number pl: the new state, and whether the token is taken -/
def sStep (t pl : Nat) : zS → Option (zS × Bool)
  | ([], P, J, B) => some (([], P, J, B), false)
  | (x :: tk, P, J, B) =>
    if x < 200 then (if t = x then some ((tk, P, J, B), true) else none)
    else if 1000 ≤ x then some ((tk, sFin x P J B), false)
    else if 219 ≤ x ∧ x ≤ 221 then (match sNames x t pl J with | some J1 => some ((tk, P, J1, B), true) | none => none)
    else if x = 207 then some ((sStmt t ++ tk, P, J, B), false)
    else if x = 218 then
      (if t = 173 then some (([173, 208, 161, 205, 218, 27000] ++ tk, P, J, B), false)
       else if t = 162 then some (([162, 205, 27000] ++ tk, P, J, B), false)
       else some ((27000 :: tk, .var 98 :: P, J, B), false))
    else if x = 214 then
      (if t < 100 then some ((tk, .num t :: P, nd1 J, B), true)
       else if t ≤ 107 then some ((tk, .var (t - 100 : Nat) :: P, nd1 J, B), true)
       else if t = 108 then some (([108, 125, 208, 126, 7000] ++ tk, P, J, B), false)
       else if isProcName t then some ((215 :: tk, P, J, B), false)
       else if t = 122 then some (([122, 208, 123] ++ tk, P, J, B), false)
       else if t = 152 then some (([152, 214, 8000] ++ tk, P, J, B), false)
       else none)
    else if x = 215 then (if isProcName t then some (([122, 216] ++ tk, .mulR (.var 99) (t - 110 + 4 * pl) :: P, nd1 J, B), true) else none)
    else if x = 216 then (if t = 123 then some ((123 :: tk, P, J, B), false) else some (([208, 9000, 217, 123] ++ tk, P, J, B), false))
    else if x = 217 then (if t = 124 then some (([124, 208, 9000, 217] ++ tk, P, J, B), false) else some ((tk, P, J, B), false))
    else if 208 ≤ x ∧ x ≤ 213 then some ((sExpr x t ++ tk, P, J, B), false)
    else if x = 205 then some (([223, 206] ++ tk, .var 99 :: P, nd1 J, B), false)
    else some ((sParts x t ++ tk, P, J, B), false)
