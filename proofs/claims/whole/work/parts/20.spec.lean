/-! THE STATE, as mathematics: numbers by (row, place) as the reference has its rows; counts; turns; trace; wires' letters; who is held; who waits; what is to be done.
A letter: its sort (0 a message, 1 an answer to HOME, 2 of a WHEN, 3 an answer to ASKER), its PROMISE, the THING and the PROMISE it goes to, two numbers. -/
abbrev zL : Type := Nat × Nat × Option Nat × Option Nat × Int32 × Int32
abbrev zS : Type := (Nat → Nat → Int32) × (Nat → Nat) × Int32 × Int64 × (Nat → List zL) × (Nat → List Nat) × (Nat → List Nat) × List (Nat × Int32 × Int32)
def z_F (S : zS) : Nat → Nat → Int32 := S.1
def z_N (S : zS) : Nat → Nat := S.2.1
def z_u (S : zS) : Int32 := S.2.2.1
def z_r (S : zS) : Int64 := S.2.2.2.1
def z_W (S : zS) : Nat → List zL := S.2.2.2.2.1
def z_H (S : zS) : Nat → List Nat := S.2.2.2.2.2.1
def z_Q (S : zS) : Nat → List Nat := S.2.2.2.2.2.2.1
def z_D (S : zS) : List (Nat × Int32 × Int32) := S.2.2.2.2.2.2.2
def zs_F (S : zS) (k i : Nat) (v : Int32) : zS := (xu_2 (z_F S) k i v, z_N S, z_u S, z_r S, z_W S, z_H S, z_Q S, z_D S)
def zs_N (S : zS) (k n : Nat) : zS := (z_F S, va_up (z_N S) k n, z_u S, z_r S, z_W S, z_H S, z_Q S, z_D S)
def zs_u (S : zS) (v : Int32) : zS := (z_F S, z_N S, v, z_r S, z_W S, z_H S, z_Q S, z_D S)
def zs_r (S : zS) (v : Int64) : zS := (z_F S, z_N S, z_u S, v, z_W S, z_H S, z_Q S, z_D S)
def zs_W (S : zS) (w : Nat) (l : List zL) : zS := (z_F S, z_N S, z_u S, z_r S, va_up (z_W S) w l, z_H S, z_Q S, z_D S)
def zs_D (S : zS) (d : List (Nat × Int32 × Int32)) : zS := (z_F S, z_N S, z_u S, z_r S, z_W S, z_H S, z_Q S, d)
/-- where the message of p is: neither held nor waiting any more -/
def z_w (S : zS) (p : Nat) (v : Int32) : zS := (xu_2 (z_F S) 16 p v, z_N S, z_u S, z_r S, z_W S, (fun t => (z_H S t).filter (fun q => !(q == p))), (fun t => (z_Q S t).filter (fun q => !(q == p))), z_D S)
/-- the message of p is held by t -/
def z_hold (S : zS) (p t : Nat) : zS := (xu_2 (xu_2 (z_F S) 16 p 1) 8 t (z_F S 8 t + 1), z_N S, z_u S, z_r S, z_W S, va_up (z_H S) t (z_H S t ++ [p]), z_Q S, z_D S)
/-- the message of p waits for q -/
def z_wait (S : zS) (p q : Nat) : zS := (xu_2 (z_F S) 16 p 2, z_N S, z_u S, z_r S, z_W S, z_H S, va_up (z_Q S) q (z_Q S q ++ [p]), z_D S)
def z_hs (S : zS) (t : Nat) : Nat := (z_F S 1 t).toNatClampNeg
def z_ak (S : zS) (p : Nat) : Nat := (z_F S 9 p).toNatClampNeg
def z_hm (S : zS) (p : Nat) : Nat := (z_F S 10 p).toNatClampNeg
def z_post (S : zS) (w : Nat) (l : zL) : zS := zs_W S w (z_W S w ++ [l])
def z_due (S : zS) (p : Nat) (st v : Int32) : zS := zs_D S (z_D S ++ [(p, st, v)])
-- the reference's own functions, over such states
def z_sw (S : zS) (h t : Nat) (n : Int32) : zS := if z_F S 36 (4 * h + z_hs S t) = 0 then z_post S (4 * h + z_hs S t) (2, 0, some t, none, n, 0) else S
def z_pw (S : zS) (w : Nat) (st v : Int32) : zS := z_sw (zs_F S 26 w 1) (z_F S 24 w).toNatClampNeg (z_F S 25 w).toNatClampNeg (if st = 3 then -v else v)
def z_pws (S : zS) (p h : Nat) (st v : Int32) : zS := (List.range (z_N S 2)).foldl (fun S w => if z_F S 23 w = nI p ∧ z_F S 24 w = nI h ∧ z_F S 26 w = 0 then z_pw S w st v else S) S
def z_arr (S : zS) (p : Nat) (st v : Int32) : zS := z_pws (zs_F (zs_F S 13 p st) 14 p v) p (z_ak S p) st v
def z_ansH (S : zS) (h p : Nat) (st v : Int32) : zS := if z_F S 36 (4 * h + z_hm S p) = 0 then z_post (zs_F S 15 p (z_F S 15 p + 1)) (4 * h + z_hm S p) (1, p, none, none, st, v) else z_due (zs_F S 15 p (z_F S 15 p + 1)) p 3 1
def z_ansA (S : zS) (h p : Nat) (st v : Int32) : zS := if z_F S 36 (4 * h + z_ak S p) = 0 then z_post (zs_F S 15 p (z_F S 15 p + 1)) (4 * h + z_ak S p) (3, p, none, none, st, v) else z_arr (zs_F S 15 p (z_F S 15 p + 1)) p 3 1
def z_settle (S : zS) (p h : Nat) (st v : Int32) : zS := if h = z_hm S p then z_due (z_w S p 0) p st v else z_ansH (z_w S p 0) h p st v
/-- what MOVE took comes back -/
def z_unmove (S : zS) (p : Nat) : zS := if z_F S 20 p < 0 then S else zs_F (zs_F S 3 (z_F S 20 p).toNatClampNeg (z_F S 3 (z_F S 20 p).toNatClampNeg + z_F S 18 p)) 20 p (-1)
def z_lose (S : zS) (p h : Nat) : zS := z_settle (z_unmove S p) p h 3 1
def z_send (S : zS) (p h g : Nat) (th asked : Option Nat) : zS :=
  if z_F S 36 (4 * h + g) = 0 then z_post (z_w (zs_F S 15 p (z_F S 15 p + 1)) p 3) (4 * h + g) (0, p, th, asked, 0, 0) else z_lose (zs_F S 15 p (z_F S 15 p + 1)) p h
def z_sendT (S : zS) (p h t : Nat) : zS := z_send S p h (z_hs S t) (some t) none
def z_go (S : zS) (p h : Nat) (st v : Int32) : zS := if st = 2 then z_sendT S p h v.toNatClampNeg else z_settle S p h 3 (if st = 1 then 3 else v)
def z_gos (S : zS) (l : List Nat) (h : Nat) (st v : Int32) : zS := l.foldl (fun S q => z_go S q h st v) S
def z_one (S : zS) (p : Nat) (st v : Int32) : zS :=
  let S1 := zs_F (zs_F S 11 p st) 12 p v
  let S2 := z_gos S1 (z_Q S1 p) (z_hm S p) st v
  let S3 := if z_F S 9 p = z_F S 10 p then S2 else z_ansA S2 (z_hm S p) p st v
  z_pws S3 p (z_hm S p) st v
def z_all : Nat → zS → zS
  | 0, S => S
  | n + 1, S => match z_D S with
    | [] => S
    | d :: ds => z_all n (z_one (zs_D S ds) d.1 d.2.1 d.2.2)
-- hearing: hand is the message's promise (none: of a WHEN)
def z_answer (S : zS) (hand : Option Nat) (t : Nat) (st v : Int32) : zS := match hand with
  | none => S
  | some p => z_settle S p (z_hs S t) st v
def z_cell1 (S : zS) (hand : Option Nat) (t : Nat) (act n : Int32) : zS :=
  if act = 0 then z_answer S hand t 1 (z_F S 3 t)
  else if act = 1 then z_answer (zs_F S 3 t n) hand t 1 (z_F S 3 t)
  else if act = 2 then z_answer (zs_F S 3 t (z_F S 3 t + n)) hand t 1 (z_F S 3 t + n)
  else if act = 3 then z_answer (zs_F S 3 t (z_F S 3 t - n)) hand t 1 (z_F S 3 t - n)
  else if act = 7 then z_answer S hand t 2 (nI t)
  else z_answer S hand t 3 3
def z_cell (S : zS) (hand : Option Nat) (t : Nat) (act n : Int32) : zS := z_cell1 (zs_r S (z_r S + 1)) hand t act n
def z_move (S : zS) (p t : Nat) (n : Int32) : zS :=
  if ¬ z_F S 2 (z_F S 19 p).toNatClampNeg = 1 then z_settle S p (z_hs S t) 3 3
  else if z_F S 3 t < n then z_settle S p (z_hs S t) 3 2
  else z_sendT (zs_F (zs_F (zs_F S 3 t (z_F S 3 t - n)) 17 p 2) 20 p (nI t)) p (z_hs S t) (z_F S 19 p).toNatClampNeg
def z_purse1 (S : zS) (hand : Option Nat) (t : Nat) (act n : Int32) : zS :=
  if act = 1 ∨ ((act = 2 ∨ act = 3 ∨ act = 4) ∧ n < 0) then z_answer S hand t 3 3
  else if act = 3 ∧ z_F S 3 t < n then z_answer S hand t 3 2
  else if act = 4 then (match hand with
    | none => S
    | some p => z_move S p t n)
  else z_cell S hand t act n
def z_purse (S : zS) (hand : Option Nat) (t : Nat) (act n : Int32) : zS := z_purse1 (zs_r S (z_r S + 10)) hand t act n
/-- a new thing -/
def z_new (S : zS) (h k n g a : Int32) : zS :=
  let i := z_N S 0
  zs_N (zs_F (zs_F (zs_F (zs_F (zs_F (zs_F (zs_F (zs_F S 1 i h) 2 i k) 3 i n) 4 i g) 5 i a) 6 i 0) 7 i 0) 8 i 0) 0 (i + 1)
def z_maker1 (S : zS) (hand : Option Nat) (t : Nat) (act n : Int32) : zS :=
  if act = 0 then z_answer S hand t 1 (z_F S 3 t)
  else if act = 7 then z_answer S hand t 2 (nI t)
  else if ¬ act = 5 ∨ n < 0 ∨ 2 < n then z_answer S hand t 3 3
  else if z_N S 0 = 40 then z_answer S hand t 3 5
  else z_answer (z_new (zs_F S 3 t (z_F S 3 t + 1)) (z_F S 1 t) n 0 (-9) 0) hand t 2 (nI (z_N S 0))
def z_maker (S : zS) (hand : Option Nat) (t : Nat) (act n : Int32) : zS := z_maker1 (zs_r S (z_r S + 100)) hand t act n
def z_guard1 (S : zS) (hand : Option Nat) (t : Nat) (act n : Int32) : zS :=
  if ¬ z_F S 6 t = 0 then z_answer S hand t 3 4
  else if ((z_F S 5 t) >>> (act &&& 31)) &&& 1 = 0 then z_answer S hand t 3 3
  else match hand with
    | none => z_sw S (z_hs S t) (z_F S 4 t).toNatClampNeg n
    | some p => z_sendT S p (z_hs S t) (z_F S 4 t).toNatClampNeg
def z_guard (S : zS) (hand : Option Nat) (t : Nat) (act n : Int32) : zS := z_guard1 (zs_r S (z_r S + 1000)) hand t act n
def z_switch1 (S : zS) (hand : Option Nat) (t : Nat) (act n : Int32) : zS :=
  if ¬ z_F S 7 t = 0 then z_answer S hand t 3 4 else z_guard S hand t act n
def z_switch (S : zS) (hand : Option Nat) (t : Nat) (act n : Int32) : zS := z_switch1 (zs_r S (z_r S + 10000)) hand t act n
/-- all that t holds answer v -/
def z_free (S : zS) (t : Nat) (v : Int32) : zS := (z_H S t).foldl (fun S p => z_settle S p (z_hs S t) 1 v) (zs_F S 8 t 0)
def z_sumN (S : zS) (l : List Nat) : Int32 := (l.map (z_F S 18)).foldl (· + ·) 0
def z_joiner1 (S : zS) (hand : Option Nat) (t : Nat) (act : Int32) : zS :=
  if act = 6 then (match hand with
    | none => S
    | some p => if z_F (z_hold S p t) 8 t < z_F S 3 t then z_hold S p t else z_free (z_hold S p t) t (z_sumN (z_hold S p t) (z_H (z_hold S p t) t)))
  else if act = 0 then z_answer S hand t 1 (z_F S 8 t)
  else if act = 7 then z_answer S hand t 2 (nI t)
  else z_answer S hand t 3 3
def z_joiner (S : zS) (hand : Option Nat) (t : Nat) (act : Int32) : zS := z_joiner1 (zs_r S (z_r S + 100000)) hand t act
def z_sleeper1 (S : zS) (hand : Option Nat) (t : Nat) (act : Int32) : zS :=
  if act = 6 then (match hand with
    | none => S
    | some p => z_hold S p t)
  else z_joiner S hand t act
def z_sleeper (S : zS) (hand : Option Nat) (t : Nat) (act : Int32) : zS := z_sleeper1 (zs_r S (z_r S + 1000000)) hand t act
def z_hear1 (S : zS) (hand : Option Nat) (t : Nat) (act n : Int32) : zS :=
  if z_F S 2 t = 0 then z_cell S hand t act n
  else if z_F S 2 t = 1 then z_purse S hand t act n
  else if z_F S 2 t = 2 then z_maker S hand t act n
  else if z_F S 2 t = 3 then z_guard S hand t act n
  else if z_F S 2 t = 4 then z_switch S hand t act n
  else if z_F S 2 t = 5 then z_joiner S hand t act
  else z_sleeper S hand t act
def z_hear (S : zS) (hand : Option Nat) (t : Nat) (act n : Int32) : zS := z_hear1 (zs_u S (z_u S + 1)) hand t act n
/-- a letter comes to its end (it is off its wire already) -/
def z_come (S : zS) (l : zL) : zS :=
  if l.1 = 1 then z_due S l.2.1 l.2.2.2.2.1 l.2.2.2.2.2
  else if l.1 = 3 then z_arr S l.2.1 l.2.2.2.2.1 l.2.2.2.2.2
  else match l.2.2.1 with
    | some t => if l.1 = 0 then z_hear (zs_F S 20 l.2.1 (-1)) (some l.2.1) t (z_F S 17 l.2.1) (z_F S 18 l.2.1) else z_hear S none t 2 l.2.2.2.2.1
    | none => match l.2.2.2.1 with
      | none => S
      | some q => if z_F S 11 q = 0 then z_wait S l.2.1 q else z_go S l.2.1 (z_hm S q) (z_F S 11 q) (z_F S 12 q)
/-- a letter is lost -/
def z_lost (S : zS) (l : zL) (h : Nat) : zS := if l.1 = 0 then z_lose S l.2.1 h else if l.1 = 1 then z_due S l.2.1 3 1 else if l.1 = 3 then z_arr S l.2.1 3 1 else S
