/-! THE READING AS A MACHINE OF FRAMES (Z): what the class waits for, the expression just read, what has begun and not ended, numbers J and trees B as S has them.
    A frame: (kind as in the class, number, the trees that S has on its pile for it, the last first) -/
abbrev zF : Type := Nat × Nat × List T
abbrev zZ : Type := Nat × List T × List zF × zJ × (Nat → T)
def zLev (n : Nat) : Nat := if n = 9 then 3 else if n = 8 then 1 else if isRel n then 0 else if n = 130 ∨ n = 131 ∨ n = 151 then 1 else 2
def isTerm (n : Nat) : Bool := (decide (132 ≤ n) && decide (n ≤ 134)) || n == 150
def isSimp (n : Nat) : Bool := n == 130 || n == 131 || n == 151
def isBin (n : Nat) : Bool := isRel n || isSimp n || isTerm n
/-- shapes: 0 expression, 1 statement, 2 list, 3 what follows the first part of an if, 4 arguments; pairs 5 (0,0), 6 (0,2), 7 (2,0), 8 (0,9), 9 (2,3) -/
def sh : T → Nat → Bool
  | .num k, m => m == 0 && decide (k < 100)
  | .var x, m => (m == 0 && decide ((x : Nat) < 8)) || ((m == 2 || m == 3 || m == 4) && decide ((x : Nat) = 99)) || (m == 3 && decide ((x : Nat) = 98))
  | .add a b, m => ((m == 2 || m == 3) && sh a 1 && sh b 2) || (m == 4 && sh a 0 && sh b 4) || (m == 5 && sh a 0 && sh b 0) || (m == 6 && sh a 0 && sh b 2) || (m == 7 && sh a 2 && sh b 0) || (m == 8 && sh a 0 && sh b 9) || (m == 9 && sh a 2 && sh b 3)
  | .mulL k s, m => (m == 0 && (k == 2 || k == 5 || k == 6) && sh s 0) || (m == 0 && isBin k && sh s 5) || (m == 1 && ((decide (200 ≤ k) && decide (k < 208)) || k == 23 || k == 24) && sh s 0) || (m == 1 && k == 22 && isCall s && sh s 0) || (m == 1 && k == 21 && sh s 5) || (m == 1 && k == 25 && sh s 6) || (m == 1 && k == 26 && sh s 7) || ((m == 1 || m == 3) && k == 27 && sh s 8)
  | .mulR s _, m => m == 0 && sh s 4
def zOpF (n : Nat) (ts : List T) (e : T) : T := if n = 9 then .mulL 5 e else if n = 8 then .mulL 6 e else .mulL n (.add (ts.headD (.var 99)) e)
/-- pending operators of at least this level end -/
def zOps (m : Nat) : List zF → T → List zF × T
  | [], e => ([], e)
  | (k, n, ts) :: r, e => if k = 1 ∧ m ≤ zLev n then zOps m r (zOpF n ts e) else ((k, n, ts) :: r, e)
def ndn (J : zJ) (n : Nat) : zJ := jup J 4 5 (J 4 5 + n)
def addSt : List zF → T → List zF
  | (k, n, l :: ts) :: r, s => (k, n, snoc l s :: ts) :: r
  | r, _ => r
def mkIf : List T → T → T
  | l :: c :: r, e => mkIf r (.mulL 27 (.add c (.add l e)))
  | _, e => e
def zLast (n : Nat) (ts : List T) (e : T) : T :=
  if n = 21000 then .mulL 21 (.add (ts.headD (.var 99)) e) else if n = 26000 then .mulL 26 (.add (ts.headD (.var 99)) e)
  else if n = 23000 then .mulL 23 e else if n = 24000 then .mulL 24 e else .mulL (200 + (n - 20000)) e
def zStEnd (t : Nat) (fs : List zF) (J : zJ) (B : Nat → T) : Option zZ :=
  if t = 121 then some (9, [], fs, J, B) else match fs with
  | [] => none
  | (k, _, ts) :: r =>
    if k = 12 then
      (if t = 163 then some (10, [], addSt r (mkIf ts (.var 98)), ndn J (ts.length / 2), B)
       else if t = 173 then some (21, [], (11, 0, ts) :: r, J, B)
       else if t = 162 then some (9, [], (13, 0, .var 99 :: ts) :: r, ndn J 1, B) else none)
    else if k = 13 then (if t = 163 then some (10, [], addSt r (mkIf (ts.drop 1) (ts.headD (.var 99))), ndn J (ts.length / 2), B) else none)
    else if k = 9 then (if t = 163 then some (10, [], addSt r (.mulL 25 (.add ((ts.drop 1).headD (.var 99)) (ts.headD (.var 99)))), ndn J 1, B) else none)
    else if k = 10 then (if t = 167 then some (21, [], (7, 26000, ts) :: r, J, B) else none)
    else if k = 14 then (if t = 163 then some (0, [], [], (sFin 3000 ts J B).2.1, (sFin 3000 ts J B).2.2) else none)
    else (if t = 163 then some (24, [], [], (sFin 2000 ts J B).2.1, (sFin 2000 ts J B).2.2) else none)
def zCall (fs : List zF) (J : zJ) (B : Nat → T) : Option zZ := match fs with
  | [] => none
  | (k, _, ts) :: r => if k = 4 then some (23, [ts.headD (.var 99)], r, J, B) else some (10, [], addSt r (.mulL 22 (ts.headD (.var 99))), ndn J 1, B)
/-- an expression has ended, no operator follows: what has to -/
def zAfter (t : Nat) (e : T) (fs : List zF) (J : zJ) (B : Nat → T) : Option zZ := match fs with
  | [] => none
  | (k, n, ts) :: r =>
    if k = 2 then (if t = 123 then some (23, [e], r, J, B) else none)
    else if k = 3 then (if t = 126 then some (23, [.mulL 2 e], r, ndn J 1, B) else none)
    else if k = 4 ∨ k = 5 then
      (if t = 124 then some (21, [], (k, n, [grow (ts.headD (.var 99)) e]) :: r, J, B)
       else if t = 123 then zCall ((k, n, [grow (ts.headD (.var 99)) e]) :: r) J B else none)
    else if k = 6 then (if t = 126 then some (11, [], (7, 21000, [e]) :: r, J, B) else none)
    else if k = 8 then (if t = 165 then some (9, [], (9, 0, [.var 99, e]) :: r, ndn J 1, B) else none)
    else if k = 11 then (if t = 161 then some (9, [], (12, 0, .var 99 :: e :: ts) :: r, ndn J 1, B) else none)
    else zStEnd t (addSt r (zLast n ts e)) (ndn J 1) B
def zFactor (t pl : Nat) (fs : List zF) (J : zJ) (B : Nat → T) : Option zZ :=
  if t < 100 then some (23, [.num t], fs, ndn J 1, B)
  else if t ≤ 107 then some (23, [.var (t - 100 : Nat)], fs, ndn J 1, B)
  else if t = 108 then some (15, [], (3, 0, []) :: fs, J, B)
  else if isProcName t then some (17, [], (4, pl, [.mulR (.var 99) (t - 110 + 4 * pl)]) :: fs, ndn J 1, B)
  else if t = 122 then some (21, [], (2, pl, []) :: fs, J, B)
  else if t = 152 then some (22, [], (1, 9, []) :: fs, J, B)
  else none
def zExpr (t pl : Nat) (fs : List zF) (J : zJ) (B : Nat → T) : Option zZ :=
  if t = 130 then some (22, [], fs, J, B) else if t = 131 then some (22, [], (1, 8, []) :: fs, J, B) else zFactor t pl fs J B
def zStBegin (t pl : Nat) (fs : List zF) (J : zJ) (B : Nat → T) : Option zZ :=
  if isName t then some (11, [], (7, 20000 + (t - 100), []) :: fs, J, B)
  else if t = 108 then some (15, [], (6, 0, []) :: fs, J, B)
  else if isProcName t then some (17, [], (5, pl, [.mulR (.var 99) (t - 110 + 4 * pl)]) :: fs, ndn J 1, B)
  else if t = 169 then some (21, [], (7, 23000, []) :: fs, J, B)
  else if t = 168 then some (21, [], (7, 24000, []) :: fs, J, B)
  else if t = 164 then some (21, [], (8, 0, []) :: fs, J, B)
  else if t = 166 then some (9, [], (10, 0, [.var 99]) :: fs, ndn J 1, B)
  else some (21, [], (11, 0, []) :: fs, J, B)
/-- how deep the first frame binds: 0 no operator, 1 relation .. 4 not -/
def tl : List zF → Nat
  | (k, n, _) :: _ => if k = 1 then zLev n + 1 else 0
  | [] => 0
def zOper (t : Nat) (e : T) (fs : List zF) (J : zJ) (B : Nat → T) : Option zZ :=
  let m := if isTerm t then 2 else 1
  let q := zOps m fs e
  let J1 := ndn J (fs.length - q.1.length)
  if isRel t then (if tl q.1 = 0 then some (21, [], (1, t, [q.2]) :: q.1, J1, B) else none) else some (22, [], (1, t, [q.2]) :: q.1, J1, B)
def zHead (x nx t pl : Nat) (J : zJ) (B : Nat → T) : Option zZ := match sNames x t pl J with
  | some J1 => some (nx, [], [], J1, B)
  | none => none
def zStep (t pl : Nat) : zZ → Option zZ
  | (nx, cs, fs, J, B) =>
    if nx = 0 then (if t = 170 then some (1, [], [], J, B) else if t = 171 then some (9, [], [(15, 0, [.var 99])], ndn J 1, B) else none)
    else if nx = 1 then zHead 219 2 t pl J B
    else if nx = 2 then (if t = 122 then some (3, [], [], J, B) else none)
    else if nx = 3 then (if t = 123 then some (6, [], [], J, B) else zHead 220 5 t pl J B)
    else if nx = 4 then zHead 220 5 t pl J B
    else if nx = 5 then (if t = 124 then some (4, [], [], J, B) else if t = 123 then some (6, [], [], J, B) else none)
    else if nx = 6 then (if t = 172 then some (7, [], [], J, B) else if t = 171 then some (9, [], [(14, 0, [.var 99])], ndn J 1, B) else none)
    else if nx = 7 then zHead 221 8 t pl J B
    else if nx = 8 then (if t = 124 then some (7, [], [], J, B) else if t = 171 then some (9, [], [(14, 0, [.var 99])], ndn J 1, B) else none)
    else if nx = 9 then (if begStmt t then zStBegin t pl fs J B else zStEnd t fs J B)
    else if nx = 10 then zStEnd t fs J B
    else if nx = 11 then (if t = 120 then some (21, [], fs, J, B) else none)
    else if nx = 15 then (if t = 125 then some (21, [], fs, J, B) else none)
    else if nx = 17 then (if t = 122 then some (18, [], fs, J, B) else none)
    else if nx = 18 then (if t = 123 then zCall fs J B else zExpr t pl fs J B)
    else if nx = 21 then zExpr t pl fs J B
    else if nx = 22 then zFactor t pl fs J B
    else if nx = 23 then
      (let e := cs.headD (.var 99)
       if isBin t then zOper t e fs J B
       else (let q := zOps 0 fs e
             zAfter t q.2 q.1 (ndn J (fs.length - q.1.length)) B))
    else none
/-- S's tasks behind a factor (0), a term (1), a simple expression (2), an expression (3), in a body (4) -/
def rep27 (n : Nat) : List Nat := List.replicate n 27000
def af : List zF → Nat → List Nat
  | [], _ => []
  | (k, n, ts) :: r, m =>
    if k = 1 then
      (if n = 9 then 8000 :: af r 0
       else if n = 8 then (if m = 0 then [213, 6000, 211] else [6000, 211]) ++ af r 2
       else if zLev n = 2 then (5000 + n) :: 213 :: af r 1
       else if zLev n = 1 then (if m = 0 then [213, 5000 + n, 211] else [5000 + n, 211]) ++ af r 2
       else (if m = 0 then [213, 211, 5000 + n] else if m = 1 then [211, 5000 + n] else [5000 + n]) ++ af r 3)
    else (if m = 0 then [213, 211, 209] else if m = 1 then [211, 209] else if m = 2 then [209] else []) ++
      (if k = 2 then 123 :: af r 0
       else if k = 3 then 126 :: 7000 :: af r 0
       else if k = 4 then 9000 :: 217 :: 123 :: af r 0
       else if k = 5 then [9000, 217, 123, 22000, 4000, 206] ++ af r 4
       else if k = 6 then [126, 120, 208, 21000, 4000, 206] ++ af r 4
       else if k = 7 then [n, 4000, 206] ++ af r 4
       else if k = 8 then [165, 205, 163, 25000, 4000, 206] ++ af r 4
       else if k = 11 then [161, 205, 218] ++ rep27 (ts.length / 2) ++ [163, 4000, 206] ++ af r 4
       else if k = 9 then [163, 25000, 4000, 206] ++ af r 4
       else if k = 10 then [167, 208, 26000, 4000, 206] ++ af r 4
       else if k = 12 then 218 :: rep27 (ts.length / 2 - 1) ++ [163, 4000, 206] ++ af r 4
       else if k = 13 then rep27 (ts.length / 2) ++ [163, 4000, 206] ++ af r 4
       else if k = 14 then [163, 3000, 200] else [163, 2000])
def ac : List zF → List Nat
  | (k, _, _) :: r => if k = 4 then af r 0 else [22000, 4000, 206] ++ af r 4
  | [] => []
def tkB : List Nat := [171, 205, 163, 3000, 200]
def tk (nx : Nat) (fs : List zF) : List Nat :=
  if nx = 0 then [200] else if nx = 1 then [219, 122, 202, 204] ++ tkB else if nx = 2 then [122, 202, 204] ++ tkB else if nx = 3 then [202, 204] ++ tkB
  else if nx = 4 then [220, 203, 123, 204] ++ tkB else if nx = 5 then [203, 123, 204] ++ tkB else if nx = 6 then 204 :: tkB
  else if nx = 7 then [221, 222] ++ tkB else if nx = 8 then 222 :: tkB
  else if nx = 9 then 223 :: 206 :: af fs 4 else if nx = 10 then 206 :: af fs 4
  else if nx = 11 then 120 :: 208 :: af fs 3 else if nx = 15 then 125 :: 208 :: af fs 3
  else if nx = 17 then 122 :: 216 :: ac fs else if nx = 18 then 216 :: ac fs
  else if nx = 21 then 210 :: af fs 2 else if nx = 22 then 214 :: af fs 0 else if nx = 23 then af fs 0 else []
def flat : List zF → List T
  | [] => []
  | (_, _, ts) :: r => ts ++ flat r
def sOf : zZ → zS
  | (nx, cs, fs, J, B) => (tk nx fs, cs ++ flat fs, J, B)
/-- which frames there can be -/
def wfI : List T → Bool
  | [] => true
  | [_] => false
  | l :: c :: r => sh l 2 && sh c 0 && wfI r
def wfF (k n : Nat) (ts : List T) : Prop :=
  if k = 1 then ((n = 8 ∨ n = 9) ∧ ts = []) ∨ (isBin n = true ∧ ∃ x, ts = [x] ∧ sh x 0 = true)
  else if k = 2 then ts = [] else if k = 3 ∨ k = 6 ∨ k = 8 then ts = [] ∧ n = 0
  else if k = 4 ∨ k = 5 then n < 150 ∧ ∃ s q, ts = [.mulR s q] ∧ sh s 4 = true ∧ q / 4 = n
  else if k = 7 then ((20000 ≤ n ∧ n < 20008 ∨ n = 23000 ∨ n = 24000) ∧ ts = []) ∨ (n = 21000 ∧ ∃ x, ts = [x] ∧ sh x 0 = true) ∨ (n = 26000 ∧ ∃ x, ts = [x] ∧ sh x 2 = true)
  else if k = 9 then n = 0 ∧ ∃ l c, ts = [l, c] ∧ sh l 2 = true ∧ sh c 0 = true
  else if k = 11 then n = 0 ∧ wfI ts = true
  else if k = 12 then n = 0 ∧ ∃ l c r, ts = l :: c :: r ∧ sh l 2 = true ∧ sh c 0 = true ∧ wfI r = true
  else if k = 13 then n = 0 ∧ ∃ l r, ts = l :: r ∧ sh l 2 = true ∧ wfI r = true ∧ r ≠ []
  else n = 0 ∧ ∃ l, ts = [l] ∧ sh l 2 = true
def wfz : List zF → Bool → Prop
  | [], _ => False
  | (k, n, ts) :: r, true => wfF k n ts ∧ ((k = 1 ∧ wfz r true ∧ (tl r ≤ zLev n ∨ (n = 9 ∧ tl r = 4))) ∨ ((k = 2 ∨ k = 3 ∨ k = 4) ∧ wfz r true) ∨ ((k = 5 ∨ k = 6 ∨ k = 7 ∨ k = 8 ∨ k = 11) ∧ wfz r false))
  | (k, n, ts) :: r, false => wfF k n ts ∧ (((k = 9 ∨ k = 10 ∨ k = 12 ∨ k = 13) ∧ wfz r false) ∨ ((k = 14 ∨ k = 15) ∧ r = []))
def tp : List zF → Nat
  | (k, _, _) :: _ => k
  | [] => 0
def zGd : zZ → Prop
  | (nx, cs, fs, _, _) =>
    if nx ≤ 8 ∨ nx = 24 then cs = [] ∧ fs = []
    else if nx = 9 ∨ nx = 10 then cs = [] ∧ wfz fs false
    else if nx = 23 then wfz fs true ∧ ∃ e, cs = [e] ∧ sh e 0 = true
    else cs = [] ∧ wfz fs true ∧ ((nx = 11 ∧ tp fs = 7) ∨ (nx = 15 ∧ (tp fs = 3 ∨ tp fs = 6)) ∨ ((nx = 17 ∨ nx = 18) ∧ (tp fs = 4 ∨ tp fs = 5)) ∨ (nx = 21 ∧ tl fs ≤ 1) ∨ nx = 22)
def bot : List zF → Nat
  | [] => 0
  | (k, _, _) :: r => if r = [] then k else bot r
def dF : List zF → Nat
  | [] => 0
  | (_, _, ts) :: r => 1 + ts.length / 2 + dF r
def hd (nx : Nat) (fs : List zF) : Nat := if nx ≤ 3 then nx else if nx ≤ 5 then 3 else if nx ≤ 8 then 4 else if bot fs = 14 then 5 else 0
def inP (nx : Nat) (fs : List zF) : Prop := (2 ≤ nx ∧ nx ≤ 8) ∨ (9 ≤ nx ∧ bot fs = 14)
/-- the bounds, behind pl tokens -/
def zBd (pl : Nat) : zZ → Prop
  | (nx, cs, fs, J, _) => fs.length ≤ pl ∧ (flat fs).length + cs.length ≤ pl ∧ J 4 5 + dF fs ≤ 2 * pl ∧ 6 * J 4 3 + hd nx fs ≤ pl ∧ (∀ p, J 1 p ≤ pl - 1) ∧ (inP nx fs → J 4 3 < J 9 0 ∧ J 0 (J 4 0) = 1)
