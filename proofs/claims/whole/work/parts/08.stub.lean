abbrev mm_max (x y : Int32) : Int32 := if x < y then y else x
abbrev mm_min (x y : Int32) : Int32 := if y < x then y else x
def pX3_lies (x1 : Int32) (x2 : Int32) (x3 : Int32) : Int32 := if x1 < x2 then 0 else if x3 < x1 then 0 else 1
def clo_X3_lies (as : List mm_V) (z : mm_S) (kk : Option mm_V → mm_S → Option mm_R) : Option mm_R := mm_pi as fun a0 as => mm_pi as fun a1 as => mm_pi as fun a2 as => (match as with | [] => kk (some (mm_I (pX3_lies a0 a1 a2))) z | _ => none)
def pX3_isCell (x1 : Int32) : Int32 := (pX3_lies x1 0 35)
def clo_X3_isCell (as : List mm_V) (z : mm_S) (kk : Option mm_V → mm_S → Option mm_R) : Option mm_R := mm_pi as fun a0 as => (match as with | [] => kk (some (mm_I (pX3_isCell a0))) z | _ => none)
def pX3_isStuff (x1 : Int32) : Int32 := (pX3_lies x1 0 4)
def clo_X3_isStuff (as : List mm_V) (z : mm_S) (kk : Option mm_V → mm_S → Option mm_R) : Option mm_R := mm_pi as fun a0 as => (match as with | [] => kk (some (mm_I (pX3_isStuff a0))) z | _ => none)
def pX3_isKind (x1 : Int32) : Int32 := (pX3_lies x1 0 6)
def clo_X3_isKind (as : List mm_V) (z : mm_S) (kk : Option mm_V → mm_S → Option mm_R) : Option mm_R := mm_pi as fun a0 as => (match as with | [] => kk (some (mm_I (pX3_isKind a0))) z | _ => none)
def pX3_isSpot (x1 : Int32) : Int32 := (pX3_lies x1 0 9)
def clo_X3_isSpot (as : List mm_V) (z : mm_S) (kk : Option mm_V → mm_S → Option mm_R) : Option mm_R := mm_pi as fun a0 as => (match as with | [] => kk (some (mm_I (pX3_isSpot a0))) z | _ => none)
def pX3_isSheet (x1 : Int32) : Int32 := (pX3_lies x1 0 3)
def clo_X3_isSheet (as : List mm_V) (z : mm_S) (kk : Option mm_V → mm_S → Option mm_R) : Option mm_R := mm_pi as fun a0 as => (match as with | [] => kk (some (mm_I (pX3_isSheet a0))) z | _ => none)
def pX3_besides (x1 : Int64) : Int64 := let v1 : Int64 := ((x1 <<< (Int32.toInt64 6 &&& 63)) &&& 68719476735); let v2 : Int64 := (Int64.toUInt64 x1 >>> (Int64.toUInt64 (Int32.toInt64 6) &&& Int64.toUInt64 63)).toInt64; let v3 : Int64 := ((x1 &&& (-34905131041)) <<< (Int32.toInt64 1 &&& 63)); let v4 : Int64 := (Int64.toUInt64 (x1 &&& (-1090785346)) >>> (Int64.toUInt64 (Int32.toInt64 1) &&& Int64.toUInt64 63)).toInt64; (((v1 ||| v2) ||| v3) ||| v4)
def clo_X3_besides (as : List mm_V) (z : mm_S) (kk : Option mm_V → mm_S → Option mm_R) : Option mm_R := mm_pj as fun a0 as => (match as with | [] => kk (some (mm_J (pX3_besides a0))) z | _ => none)
def pX3_setOf (x1 : Int32) : Int64 := (1 <<< (Int32.toInt64 x1 &&& 63))
def clo_X3_setOf (as : List mm_V) (z : mm_S) (kk : Option mm_V → mm_S → Option mm_R) : Option mm_R := mm_pi as fun a0 as => (match as with | [] => kk (some (mm_J (pX3_setOf a0))) z | _ => none)
def pX3_has (x1 : Int64) (x2 : Int32) : Int32 := if (lg_cmp ((Int64.toUInt64 x1 >>> (Int64.toUInt64 (Int32.toInt64 x2) &&& Int64.toUInt64 63)).toInt64 &&& 1) 0) = 0 then 0 else 1
def clo_X3_has (as : List mm_V) (z : mm_S) (kk : Option mm_V → mm_S → Option mm_R) : Option mm_R := mm_pj as fun a0 as => mm_pi as fun a1 as => (match as with | [] => kk (some (mm_I (pX3_has a0 a1))) z | _ => none)
def pX3_carriesAs (x1 : Int32) (x2 : Int32) : Int32 := if x1 = 1 then (2 * (4 * x2)) else if x1 = 2 then ((2 * (4 * x2)) + 5) else if x1 = 3 then (((2 * (4 * x2)) + 5) + x2) else if x1 = 4 then ((4 * x2) / 2) else if x1 = 5 then 0 else (4 * x2)
def pX3_startsAs (x1 : Int32) : Int32 := if x1 = 2 then 1 else if x1 = 3 then 2 else if x1 = 4 then 2 else if x1 = 5 then 2 else 0
def clo_X3_startsAs (as : List mm_V) (z : mm_S) (kk : Option mm_V → mm_S → Option mm_R) : Option mm_R := mm_pi as fun a0 as => (match as with | [] => kk (some (mm_I (pX3_startsAs a0))) z | _ => none)
def pX3_hearsByAs (x1 : Int32) : Int32 := if x1 = 3 then 40 else if x1 = 4 then 30 else if x1 = 5 then 30 else if x1 = 6 then (-1) else 60
def clo_X3_hearsByAs (as : List mm_V) (z : mm_S) (kk : Option mm_V → mm_S → Option mm_R) : Option mm_R := mm_pi as fun a0 as => (match as with | [] => kk (some (mm_I (pX3_hearsByAs a0))) z | _ => none)
def pX3_lowestBits (x1 : Int32) (x2 : Int32) : Int32 := if x2 = 8 then (Int32.toInt8 x1).toInt32 else if x2 = 16 then (Int32.toInt16 x1).toInt32 else x1
def clo_X3_lowestBits (as : List mm_V) (z : mm_S) (kk : Option mm_V → mm_S → Option mm_R) : Option mm_R := mm_pi as fun a0 as => mm_pi as fun a1 as => (match as with | [] => kk (some (mm_I (pX3_lowestBits a0 a1))) z | _ => none)
def pX3_at (k : Nat) (i : Int32) (z : mm_S) : Int32 := if i < 0 then 0 else if Int32.ofNat (lenX k) ≤ i then 0 else z.1 k i.toNatClampNeg
theorem lenX_lt (k : Nat) : lenX k < 2 ^ 31 := sorry
def clo_X3_at (as : List mm_V) (z : mm_S) (kk : Option mm_V → mm_S → Option mm_R) : Option mm_R := mm_pr as fun t o0 as => bif Nat.beq t 10 then mm_pi as fun a1 as => (match as with | [] => kk (some (mm_I (pX3_at o0 a1 z))) z | _ => none) else none
def pX3_at14 (k : Nat) (i : Int32) : Int32 := if i < 0 then 0 else if Int32.ofNat (lenX k) ≤ i then 0 else roX k i.toNatClampNeg
def tX3_exchange (k : Nat) (i v : Int32) (z : mm_S) : Int32 × mm_S := if i < 0 then (0, z) else if i < Int32.ofNat (lenX k) then (z.1 k i.toNatClampNeg, (mm_ui z.1 k i.toNatClampNeg v, z.2)) else (0, z)
def clo_X3_exchange (as : List mm_V) (z : mm_S) (kk : Option mm_V → mm_S → Option mm_R) : Option mm_R := mm_pr as fun t o0 as => bif Nat.beq t 10 then mm_pi as fun a1 as => mm_pi as fun a2 as => (match as with | [] => kk (some (mm_I (tX3_exchange o0 a1 a2 z).1)) (tX3_exchange o0 a1 a2 z).2 | _ => none) else none
def pJ13_bitCount_95d88 (x1 : Int64) : Int32 := let v1 : Int64 := (x1 - ((Int64.toUInt64 x1 >>> (Int64.toUInt64 (Int32.toInt64 1) &&& Int64.toUInt64 63)).toInt64 &&& 6148914691236517205)); let v2 : Int64 := ((v1 &&& 3689348814741910323) + ((Int64.toUInt64 v1 >>> (Int64.toUInt64 (Int32.toInt64 2) &&& Int64.toUInt64 63)).toInt64 &&& 3689348814741910323)); let v3 : Int64 := ((v2 + (Int64.toUInt64 v2 >>> (Int64.toUInt64 (Int32.toInt64 4) &&& Int64.toUInt64 63)).toInt64) &&& 1085102592571150095); let v4 : Int64 := (v3 + (Int64.toUInt64 v3 >>> (Int64.toUInt64 (Int32.toInt64 8) &&& Int64.toUInt64 63)).toInt64); let v5 : Int64 := (v4 + (Int64.toUInt64 v4 >>> (Int64.toUInt64 (Int32.toInt64 16) &&& Int64.toUInt64 63)).toInt64); let v6 : Int64 := (v5 + (Int64.toUInt64 v5 >>> (Int64.toUInt64 (Int32.toInt64 32) &&& Int64.toUInt64 63)).toInt64); ((Int64.toInt32 v6) &&& 127)
def clo_J13_bitCount_95d88 (as : List mm_V) (z : mm_S) (kk : Option mm_V → mm_S → Option mm_R) : Option mm_R := mm_pj as fun a0 as => (match as with | [] => kk (some (mm_I (pJ13_bitCount_95d88 a0))) z | _ => none)
def pX0_kindOf (o : Nat) (x1 : Int32) (z : mm_S) : Int32 := (pX3_at (o + 4) x1 z)
def clo_X0_kindOf (as : List mm_V) (z : mm_S) (kk : Option mm_V → mm_S → Option mm_R) : Option mm_R := mm_pr as fun t o0 as => bif Nat.beq t 0 then mm_pi as fun a1 as => (match as with | [] => kk (some (mm_I (pX0_kindOf o0 a1 z))) z | _ => none) else none
def pX0_placeOf (o : Nat) (x1 : Int32) (z : mm_S) : Int32 := (pX3_at (o + 5) x1 z)
def clo_X0_placeOf (as : List mm_V) (z : mm_S) (kk : Option mm_V → mm_S → Option mm_R) : Option mm_R := mm_pr as fun t o0 as => bif Nat.beq t 0 then mm_pi as fun a1 as => (match as with | [] => kk (some (mm_I (pX0_placeOf o0 a1 z))) z | _ => none) else none
def pX0_forceOf (o : Nat) (x1 : Int32) (z : mm_S) : Int32 := (pX3_at (o + 6) x1 z)
def clo_X0_forceOf (as : List mm_V) (z : mm_S) (kk : Option mm_V → mm_S → Option mm_R) : Option mm_R := mm_pr as fun t o0 as => bif Nat.beq t 0 then mm_pi as fun a1 as => (match as with | [] => kk (some (mm_I (pX0_forceOf o0 a1 z))) z | _ => none) else none
def pX0_carriesOf (o : Nat) (x1 : Int32) (z : mm_S) : Int32 := (pX3_carriesAs (pX0_kindOf o x1 z) (pX0_forceOf o x1 z))
def clo_X0_carriesOf (as : List mm_V) (z : mm_S) (kk : Option mm_V → mm_S → Option mm_R) : Option mm_R := mm_pr as fun t o0 as => bif Nat.beq t 0 then mm_pi as fun a1 as => (match as with | [] => kk (some (mm_I (pX0_carriesOf o0 a1 z))) z | _ => none) else none
def pX1_cellsOf (o : Nat) (i : Int32) (z : mm_S) : Int64 := if i < 0 then 0 else if 5 ≤ i then 0 else z.2 (o + 1) i.toNatClampNeg
def clo_X1_cellsOf (as : List mm_V) (z : mm_S) (kk : Option mm_V → mm_S → Option mm_R) : Option mm_R := mm_pr as fun t o0 as => bif Nat.beq t 1 then mm_pi as fun a1 as => (match as with | [] => kk (some (mm_J (pX1_cellsOf o0 a1 z))) z | _ => none) else none
def st_at (f : Nat → Int64) (c : Int32) : Nat → Nat → Int32
  | 0, _ => 0
  | k + 1, j => if pX3_has (f j) c = 0 then st_at f c k (j + 1) else nI j
def pX1_stuffAt (o : Nat) (c : Int32) (z : mm_S) : Int32 := st_at (z.2 (o + 1)) c 5 0
def clo_X1_stuffAt (as : List mm_V) (z : mm_S) (kk : Option mm_V → mm_S → Option mm_R) : Option mm_R := mm_pr as fun t o0 as => bif Nat.beq t 1 then mm_pi as fun a1 as => (match as with | [] => kk (some (mm_I (pX1_stuffAt o0 a1 z))) z | _ => none) else none
def pX1_paceOf (o : Nat) (x1 : Int32) (z : mm_S) : Int32 := (pX3_at14 46 (pX1_stuffAt o x1 z))
def clo_X1_paceOf (as : List mm_V) (z : mm_S) (kk : Option mm_V → mm_S → Option mm_R) : Option mm_R := mm_pr as fun t o0 as => bif Nat.beq t 1 then mm_pi as fun a1 as => (match as with | [] => kk (some (mm_I (pX1_paceOf o0 a1 z))) z | _ => none) else none
def pX1_dryCells (o : Nat) (z : mm_S) : Int64 := (68719476735 &&& (((pX1_cellsOf o 3 z) ||| (pX3_besides (pX1_cellsOf o 3 z))) ^^^ (-1)))
def clo_X1_dryCells (as : List mm_V) (z : mm_S) (kk : Option mm_V → mm_S → Option mm_R) : Option mm_R := mm_pr as fun t o0 as => bif Nat.beq t 1 then (match as with | [] => kk (some (mm_J (pX1_dryCells o0 z))) z | _ => none) else none
def pX0_holes (o : Nat) (z : mm_S) : Int32 := (pJ13_bitCount_95d88 (pX1_cellsOf (o + 1) 2 z))
def clo_X0_holes (as : List mm_V) (z : mm_S) (kk : Option mm_V → mm_S → Option mm_R) : Option mm_R := mm_pr as fun t o0 as => bif Nat.beq t 0 then (match as with | [] => kk (some (mm_I (pX0_holes o0 z))) z | _ => none) else none
def pX0_heardBy (o : Nat) (x1 : Int32) (x2 : Int32) (z : mm_S) : Int32 := if x2 = (-1) then (-1) else if x2 ≤ (pX0_carriesOf o x1 z) then (x2 + (pX3_startsAs (pX0_kindOf o x1 z))) else (-1)
def tJ7_fill_d0a16 (x : Nat) (v : Int64) (z : mm_S) : mm_S := (z.1, mm_rw z.2 x (mm_fr (lenX x) v (z.2 x)))
def clo_J7_fill_d0a16 (as : List mm_V) (z : mm_S) (kk : Option mm_V → mm_S → Option mm_R) : Option mm_R := mm_pr as fun t o0 as => bif Nat.beq t 11 then mm_pj as fun a1 as => (match as with | [] => kk none (tJ7_fill_d0a16 o0 a1 z) | _ => none) else none
def tJ7_fill_53178 (x : Nat) (v : Int32) (z : mm_S) : mm_S := (mm_rw z.1 x (mm_fr (lenX x) v (z.1 x)), z.2)
def rk_tk (n : Nat) (c : Int32) (f : Nat → Int64) : Nat → Int64 := fun k => if k < n then f k &&& (pX3_setOf c ^^^ (-1)) else f k
def rk_pt (c v : Int32) (f : Nat → Int64) : Nat → Int64 := vp_updL (rk_tk 5 c f) v.toNatClampNeg (rk_tk 5 c f v.toNatClampNeg ||| pX3_setOf c)
def tX1_put (o : Nat) (c v : Int32) (z : mm_S) : mm_S := if pX3_isCell c = 0 then z else if pX3_isStuff v = 0 then z else (z.1, mm_rw z.2 (o + 1) (rk_pt c v (z.2 (o + 1))))
def clo_X1_put (as : List mm_V) (z : mm_S) (kk : Option mm_V → mm_S → Option mm_R) : Option mm_R := mm_pr as fun t o0 as => bif Nat.beq t 1 then mm_pi as fun a1 as => mm_pi as fun a2 as => (match as with | [] => kk none (tX1_put o0 a1 a2 z) | _ => none) else none
def tX1_knock (o : Nat) (x1 : Int32) (z : mm_S) : mm_S := let u1 := (tJ7_fill_d0a16 (o + 2) 0 z); let u2 : mm_S := (u1.1, (mm_ul u1.2 (o + 2) 0 ((pX3_setOf x1) &&& ((pX1_cellsOf o 2 u1) ^^^ (-1))))); ((mm_ui u2.1 o 3 0), (mm_ul u2.2 o 2 0))
def tX3_copyRow (a b : Nat) (z : mm_S) : mm_S := (mm_cp z.1 a b 0 0 (min (lenX a) (lenX b)), z.2)
def tX1_becomeRock (o q : Nat) (z : mm_S) : mm_S := (z.1, mm_cp z.2 (q + 1) (o + 1) 0 0 5)
def lX0_isUnsure (o : Nat) (x1 : Int32) (z : mm_S) (j : Nat) (s : Unit) : Unit ⊕ (Int32) := if (pX3_at (o + 7) (nI j) z) = x1 then .inr (1) else .inl ()
def pX0_isUnsure (o : Nat) (x1 : Int32) (z : mm_S) : Int32 := mm_lp (lX0_isUnsure o x1 z) (fun s => 0) (Int32.toNatClampNeg (z.1 o 6)) 0 ()
def clo_X0_isUnsure (as : List mm_V) (z : mm_S) (kk : Option mm_V → mm_S → Option mm_R) : Option mm_R := mm_pr as fun t o0 as => bif Nat.beq t 0 then mm_pi as fun a1 as => (match as with | [] => kk (some (mm_I (pX0_isUnsure o0 a1 z))) z | _ => none) else none
def lX0_heldSpots (o : Nat) (z : mm_S) (j : Nat) (s : Int32) : Int32 ⊕ (Int32) := if (pX3_at (o + 11) (nI j) z) = (-1) then .inl (s) else .inl ((s + 1))
def pX0_heldSpots (o : Nat) (z : mm_S) : Int32 := mm_lp (lX0_heldSpots o z) (fun s => s) 10 0 0
def clo_X0_heldSpots (as : List mm_V) (z : mm_S) (kk : Option mm_V → mm_S → Option mm_R) : Option mm_R := mm_pr as fun t o0 as => bif Nat.beq t 0 then (match as with | [] => kk (some (mm_I (pX0_heldSpots o0 z))) z | _ => none) else none
def lX0_mapCount (o : Nat) (z : mm_S) (j : Nat) (s : Int32) : Int32 ⊕ (Int32) := .inl ((s * 5))
def pX0_mapCount (o : Nat) (z : mm_S) : Int32 := mm_lp (lX0_mapCount o z) (fun s => s) (Int32.toNatClampNeg (z.1 o 6)) 0 1
def clo_X0_mapCount (as : List mm_V) (z : mm_S) (kk : Option mm_V → mm_S → Option mm_R) : Option mm_R := mm_pr as fun t o0 as => bif Nat.beq t 0 then (match as with | [] => kk (some (mm_I (pX0_mapCount o0 z))) z | _ => none) else none
def tX0_addCrew_49  (z : mm_S) : mm_S := z
def tX0_addCrew_39 (o : Nat) (z : mm_S) : mm_S := (tX0_addCrew_49  ((mm_ui z.1 o 4 ((z.1 o 4) + 1)), z.2))
def tX0_addCrew_26 (o : Nat) (y3 : Int32) (z : mm_S) : mm_S := let u3 := (tX3_exchange (o + 6) (z.1 o 4) y3 z); (tX0_addCrew_39 o u3.2)
def tX0_addCrew_13 (o : Nat) (y2 : Int32) (y3 : Int32) (z : mm_S) : mm_S := let u2 := (tX3_exchange (o + 5) (z.1 o 4) y2 z); (tX0_addCrew_26 o y3 u2.2)
def tX0_addCrew (o : Nat) (x1 : Int32) (x2 : Int32) (x3 : Int32) (z : mm_S) : mm_S := let u1 := (tX3_exchange (o + 4) (z.1 o 4) x1 z); (tX0_addCrew_13 o x2 x3 u1.2)
def clo_X0_addCrew (as : List mm_V) (z : mm_S) (kk : Option mm_V → mm_S → Option mm_R) : Option mm_R := mm_pr as fun t o0 as => bif Nat.beq t 0 then mm_pi as fun a1 as => mm_pi as fun a2 as => mm_pi as fun a3 as => (match as with | [] => kk none (tX0_addCrew o0 a1 a2 a3 z) | _ => none) else none
def tX0_addBook_49  (z : mm_S) : mm_S := z
def tX0_addBook_39 (o : Nat) (z : mm_S) : mm_S := (tX0_addBook_49  ((mm_ui z.1 o 10 ((z.1 o 10) + 1)), z.2))
def tX0_addBook_26 (o : Nat) (y3 : Int32) (z : mm_S) : mm_S := let u3 := (tX3_exchange (o + 10) (z.1 o 10) y3 z); (tX0_addBook_39 o u3.2)
def tX0_addBook_13 (o : Nat) (y2 : Int32) (y3 : Int32) (z : mm_S) : mm_S := let u2 := (tX3_exchange (o + 9) (z.1 o 10) y2 z); (tX0_addBook_26 o y3 u2.2)
def tX0_addBook (o : Nat) (x1 : Int32) (x2 : Int32) (x3 : Int32) (z : mm_S) : mm_S := let u1 := (tX3_exchange (o + 8) (z.1 o 10) x1 z); (tX0_addBook_13 o x2 x3 u1.2)
def clo_X0_addBook (as : List mm_V) (z : mm_S) (kk : Option mm_V → mm_S → Option mm_R) : Option mm_R := mm_pr as fun t o0 as => bif Nat.beq t 0 then mm_pi as fun a1 as => mm_pi as fun a2 as => mm_pi as fun a3 as => (match as with | [] => kk none (tX0_addBook o0 a1 a2 a3 z) | _ => none) else none
def tX0_addUnsure_23  (z : mm_S) : mm_S := z
def tX0_addUnsure_13 (o : Nat) (z : mm_S) : mm_S := (tX0_addUnsure_23  ((mm_ui z.1 o 6 ((z.1 o 6) + 1)), z.2))
def tX0_addUnsure (o : Nat) (x1 : Int32) (z : mm_S) : mm_S := let u1 := (tX3_exchange (o + 7) (z.1 o 6) x1 z); (tX0_addUnsure_13 o u1.2)
def clo_X0_addUnsure (as : List mm_V) (z : mm_S) (kk : Option mm_V → mm_S → Option mm_R) : Option mm_R := mm_pr as fun t o0 as => bif Nat.beq t 0 then mm_pi as fun a1 as => (match as with | [] => kk none (tX0_addUnsure o0 a1 z) | _ => none) else none
def tX0_draw_15 (o : Nat) (z : mm_S) : Int32 × mm_S := ((Int32.toUInt32 (z.1 o 13) >>> (Int32.toUInt32 8 &&& Int32.toUInt32 31)).toInt32, z)
def tX0_draw (o : Nat) (z : mm_S) : Int32 × mm_S := (tX0_draw_15 o ((mm_ui z.1 o 13 (((z.1 o 13) * 1103515245) + 12345)), z.2))
def tX0_goOneYear_32  (z : mm_S) : mm_S := z
def tX0_goOneYear_22 (o : Nat) (z : mm_S) : mm_S := (tX0_goOneYear_32  ((mm_ui z.1 o 12 ((z.1 o 12) + 1)), z.2))
def tX0_goOneYear_8 (o : Nat) (y1 : Int32) (z : mm_S) : mm_S := let u2 := (tX0_draw o z); let u3 := (tX1_put (o + 1) y1 (u2.1 - u2.1 / 5 * 5) u2.2); (tX0_goOneYear_22 o u3)
def tX0_goOneYear (o : Nat) (z : mm_S) : mm_S := let u1 := (tX0_draw o z); (tX0_goOneYear_8 o (u1.1 - u1.1 / 36 * 36) u1.2)
def clo_X0_goOneYear (as : List mm_V) (z : mm_S) (kk : Option mm_V → mm_S → Option mm_R) : Option mm_R := mm_pr as fun t o0 as => bif Nat.beq t 0 then (match as with | [] => kk none (tX0_goOneYear o0 z) | _ => none) else none
def tX0_become_139  (z : mm_S) : mm_S := z
def tX0_become_131 (o : Nat) (y1 : Nat) (z : mm_S) : mm_S := (tX0_become_139  ((mm_ui z.1 o 13 (z.1 y1 13)), z.2))
def tX0_become_123 (o : Nat) (y1 : Nat) (z : mm_S) : mm_S := (tX0_become_131 o y1 ((mm_ui z.1 o 12 (z.1 y1 12)), z.2))
def tX0_become_112 (o : Nat) (y1 : Nat) (z : mm_S) : mm_S := let u9 := (tX3_copyRow (y1 + 11) (o + 11) z); (tX0_become_123 o y1 u9)
def tX0_become_104 (o : Nat) (y1 : Nat) (z : mm_S) : mm_S := (tX0_become_112 o y1 ((mm_ui z.1 o 10 (z.1 y1 10)), z.2))
def tX0_become_93 (o : Nat) (y1 : Nat) (z : mm_S) : mm_S := let u8 := (tX3_copyRow (y1 + 10) (o + 10) z); (tX0_become_104 o y1 u8)
def tX0_become_82 (o : Nat) (y1 : Nat) (z : mm_S) : mm_S := let u7 := (tX3_copyRow (y1 + 9) (o + 9) z); (tX0_become_93 o y1 u7)
def tX0_become_71 (o : Nat) (y1 : Nat) (z : mm_S) : mm_S := let u6 := (tX3_copyRow (y1 + 8) (o + 8) z); (tX0_become_82 o y1 u6)
def tX0_become_63 (o : Nat) (y1 : Nat) (z : mm_S) : mm_S := (tX0_become_71 o y1 ((mm_ui z.1 o 6 (z.1 y1 6)), z.2))
def tX0_become_52 (o : Nat) (y1 : Nat) (z : mm_S) : mm_S := let u5 := (tX3_copyRow (y1 + 7) (o + 7) z); (tX0_become_63 o y1 u5)
def tX0_become_44 (o : Nat) (y1 : Nat) (z : mm_S) : mm_S := (tX0_become_52 o y1 ((mm_ui z.1 o 4 (z.1 y1 4)), z.2))
def tX0_become_33 (o : Nat) (y1 : Nat) (z : mm_S) : mm_S := let u4 := (tX3_copyRow (y1 + 6) (o + 6) z); (tX0_become_44 o y1 u4)
def tX0_become_22 (o : Nat) (y1 : Nat) (z : mm_S) : mm_S := let u3 := (tX3_copyRow (y1 + 5) (o + 5) z); (tX0_become_33 o y1 u3)
def tX0_become_11 (o : Nat) (y1 : Nat) (z : mm_S) : mm_S := let u2 := (tX3_copyRow (y1 + 4) (o + 4) z); (tX0_become_22 o y1 u2)
def tX0_become (o : Nat) (x1 : Nat) (z : mm_S) : mm_S := let u1 := (tX1_becomeRock (o + 1) (x1 + 1) z); (tX0_become_11 o x1 u1)
def clo_X0_become (as : List mm_V) (z : mm_S) (kk : Option mm_V → mm_S → Option mm_R) : Option mm_R := mm_pr as fun t o0 as => bif Nat.beq t 0 then mm_pr as fun t o1 as => bif Nat.beq t 0 then (match as with | [] => kk none (tX0_become o0 o1 z) | _ => none) else none else none
noncomputable def mm_fu : Nat := Classical.choose (p := fun n => n = 1000000) ⟨1000000, rfl⟩
theorem mm_fu_e : mm_fu = 1000000 := sorry
noncomputable def rk_sl (t : Int32) : Nat := Int32.toNatClampNeg (t &&& 7)
noncomputable def rk_in (t : Int32) (nx : Int64) (sets : Nat → Int64) : Nat → Nat → (Nat → Int64) → (Nat → Int64)
  | 0, _, g => g
  | k + 1, j, g => rk_in t nx sets k (j + 1) (if j = 2 then g else vp_updL g (rk_sl (t + pX3_at14 46 (nI j))) (g (rk_sl (t + pX3_at14 46 (nI j))) ||| (nx &&& sets j)))
noncomputable def rk_he (o : Nat) (t : Int32) (z : mm_S) : Int64 := z.2 (o + 2) (rk_sl t) &&& (z.2 o 2 ^^^ (-1))
noncomputable def rk_nx (o : Nat) (t : Int32) (z : mm_S) : Int64 := pX3_besides (rk_he o t z) &&& ((z.2 o 2 ||| rk_he o t z) ^^^ (-1))
noncomputable def tX1_cellsComeIntoAt (o : Nat) (t : Int32) (z : mm_S) : Int64 × mm_S :=
  if lg_cmp (rk_he o t z) 0 = 0 then (0, (z.1, mm_rw z.2 (o + 2) (vp_updL (z.2 (o + 2)) (rk_sl t) 0)))
  else (rk_he o t z, (if lg_cmp (rk_nx o t z) 0 = 0 then z.1 else mm_ui z.1 o 3 (t + 6),
    mm_rw (mm_rw z.2 o (vp_updL (z.2 o) 2 (z.2 o 2 ||| rk_he o t z))) (o + 2) (rk_in t (rk_nx o t z) (z.2 (o + 1)) 5 0 (vp_updL (z.2 (o + 2)) (rk_sl t) 0))))
theorem rk_in_s (t : Int32) (nx : Int64) (sets : Nat → Int64) : ∀ k j g, rk_in t nx sets (k + 1) j g = rk_in t nx sets k (j + 1) (if j = 2 then g else vp_updL g (rk_sl (t + pX3_at14 46 (nI j))) (g (rk_sl (t + pX3_at14 46 (nI j))) ||| (nx &&& sets j))) := sorry
noncomputable def sX1_timeBetween_34 (o : Nat) (y3 : Int32) (z : mm_S) : Option (Int32 × mm_S) := some (y3, z)
noncomputable def lX1_timeBetween_7 (o : Nat) (s : Int32 × Int32 × mm_S) : Option ((Int32 × Int32 × mm_S) ⊕ (Int32 × mm_S)) := if 216 < s.2.1 then some (.inr ((-1), s.2.2)) else if (s.2.2.1 o 3) < s.2.1 then some (.inr ((-1), s.2.2)) else let u2 := (tX1_cellsComeIntoAt o s.2.1 s.2.2); if (pX3_has u2.1 s.1) = 0 then some (.inl (s.1, (s.2.1 + 1), u2.2)) else ((sX1_timeBetween_34 o s.2.1 u2.2).map fun w => (Sum.inr w))
noncomputable def sX1_timeBetween_7 (o : Nat) (y2 : Int32) (y3 : Int32) (z : mm_S) : Option (Int32 × mm_S) := mm_wh (lX1_timeBetween_7 o ) mm_fu (y2, y3, z)
noncomputable def sX1_timeBetween_5 (o : Nat) (y2 : Int32) (z : mm_S) : Option (Int32 × mm_S) := (sX1_timeBetween_7 o y2 0 z)
noncomputable def sX1_timeBetween_0 (o : Nat) (x1 : Int32) (x2 : Int32) (z : mm_S) : Option (Int32 × mm_S) := let u1 := (tX1_knock o x1 z); (sX1_timeBetween_5 o x2 u1)
noncomputable def sX1_timeBetween (o : Nat) (x1 : Int32) (x2 : Int32) (z : mm_S) : Option (Int32 × mm_S) := sX1_timeBetween_0 o x1 x2 z
noncomputable def clo_X1_timeBetween (as : List mm_V) (z : mm_S) (kk : Option mm_V → mm_S → Option mm_R) : Option mm_R := mm_pr as fun t o0 as => bif Nat.beq t 1 then mm_pi as fun a1 as => mm_pi as fun a2 as => (match as with | [] => (sX1_timeBetween o0 a1 a2 z).bind fun q => kk (some (mm_I q.1)) q.2 | _ => none) else none
noncomputable def sX1_cellsWithin_39 (o : Nat)  (z : mm_S) : Option (Int64 × mm_S) := some ((z.2 o 2), z)
noncomputable def lX1_cellsWithin_7 (o : Nat) (s : Int32 × Int32 × mm_S) : Option ((Int32 × Int32 × mm_S) ⊕ (Int64 × mm_S)) := if 216 < s.2.1 then ((sX1_cellsWithin_39 o s.2.2).map fun w => (Sum.inr w)) else if (s.2.2.1 o 3) < s.2.1 then ((sX1_cellsWithin_39 o s.2.2).map fun w => (Sum.inr w)) else if s.1 < s.2.1 then ((sX1_cellsWithin_39 o s.2.2).map fun w => (Sum.inr w)) else let u2 := (tX1_cellsComeIntoAt o s.2.1 s.2.2); some (.inl (s.1, (s.2.1 + 1), u2.2))
noncomputable def sX1_cellsWithin_7 (o : Nat) (y2 : Int32) (y3 : Int32) (z : mm_S) : Option (Int64 × mm_S) := mm_wh (lX1_cellsWithin_7 o ) mm_fu (y2, y3, z)
noncomputable def sX1_cellsWithin_5 (o : Nat) (y2 : Int32) (z : mm_S) : Option (Int64 × mm_S) := (sX1_cellsWithin_7 o y2 0 z)
noncomputable def sX1_cellsWithin_0 (o : Nat) (x1 : Int32) (x2 : Int32) (z : mm_S) : Option (Int64 × mm_S) := let u1 := (tX1_knock o x1 z); (sX1_cellsWithin_5 o x2 u1)
noncomputable def sX1_cellsWithin (o : Nat) (x1 : Int32) (x2 : Int32) (z : mm_S) : Option (Int64 × mm_S) := sX1_cellsWithin_0 o x1 x2 z
noncomputable def clo_X1_cellsWithin (as : List mm_V) (z : mm_S) (kk : Option mm_V → mm_S → Option mm_R) : Option mm_R := mm_pr as fun t o0 as => bif Nat.beq t 1 then mm_pi as fun a1 as => mm_pi as fun a2 as => (match as with | [] => (sX1_cellsWithin o0 a1 a2 z).bind fun q => kk (some (mm_J q.1)) q.2 | _ => none) else none
noncomputable def sX0_unlikeCells_40 (o : Nat) (y1 : Nat) (y2 : Int32) (y3 : Int32) (w0 : Int32) (w1 : Int32) (z : mm_S) : Option ((Nat × Int32 × Int32 × mm_S) ⊕ (Int32 × mm_S)) := if w1 = w0 then some (.inl (y1, y2, (y3 + 1), z)) else some (.inl (y1, (y2 + 1), (y3 + 1), z))
noncomputable def sX0_unlikeCells_31 (o : Nat) (y1 : Nat) (y2 : Int32) (y3 : Int32) (y4 : Int32) (w0 : Int32) (z : mm_S) : Option ((Nat × Int32 × Int32 × mm_S) ⊕ (Int32 × mm_S)) := (sX0_unlikeCells_40 o y1 y2 y3 (pX1_stuffAt (y1 + 1) y4 z) w0 z)
noncomputable def lX0_unlikeCells_4 (o : Nat) (s : Nat × Int32 × Int32 × mm_S) : Option ((Nat × Int32 × Int32 × mm_S) ⊕ (Int32 × mm_S)) := if (s.2.2.2.1 o 6) ≤ s.2.2.1 then some (.inr (s.2.1, s.2.2.2)) else (sX0_unlikeCells_31 o s.1 s.2.1 s.2.2.1 (pX3_at (o + 7) s.2.2.1 s.2.2.2) (pX1_stuffAt (o + 1) (pX3_at (o + 7) s.2.2.1 s.2.2.2) s.2.2.2) s.2.2.2)
noncomputable def sX0_unlikeCells_4 (o : Nat) (y1 : Nat) (y2 : Int32) (y3 : Int32) (z : mm_S) : Option (Int32 × mm_S) := mm_wh (lX0_unlikeCells_4 o ) mm_fu (y1, y2, y3, z)
noncomputable def sX0_unlikeCells_0 (o : Nat) (x1 : Nat) (z : mm_S) : Option (Int32 × mm_S) := (sX0_unlikeCells_4 o x1 0 0 z)
noncomputable def sX0_unlikeCells (o : Nat) (x1 : Nat) (z : mm_S) : Option (Int32 × mm_S) := sX0_unlikeCells_0 o x1 z
noncomputable def sX4_finding_25 (y1 : Int32) (z : mm_S) : Option (Int32 × mm_S) := some (y1, z)
noncomputable def sX4_finding_15 (y1 : Int32) (z : mm_S) : Option (Int32 × mm_S) := (sX4_finding_25 y1 ((mm_ui z.1 4 0 ((z.1 4 0) + 1)), z.2))
noncomputable def sX4_finding_10 (y1 : Int32) (w0 : Int32) (w1 : Nat) (z : mm_S) : Option (Int32 × mm_S) := if w0 < 0 ∨ lenM w1 ≤ Int32.toNatClampNeg w0 then none else if w0 < 0 ∨ lenM w1 ≤ Int32.toNatClampNeg w0 then none else let u1 : mm_S := ((mm_ui z.1 w1 (Int32.toNatClampNeg w0) ((z.1 w1 (Int32.toNatClampNeg w0)) + 1)), z.2); (sX4_finding_15 y1 u1)
noncomputable def sX4_finding_0 (x1 : Int32) (z : mm_S) : Option (Int32 × mm_S) := (sX4_finding_10 x1 (((-1000001) - x1) + 1) 4 z)
noncomputable def sX4_finding (x1 : Int32) (z : mm_S) : Option (Int32 × mm_S) := sX4_finding_0 x1 z
noncomputable def clo_X4_finding (as : List mm_V) (z : mm_S) (kk : Option mm_V → mm_S → Option mm_R) : Option mm_R := mm_pr as fun t o0 as => bif Nat.beq t 4 then mm_pi as fun a1 as => (match as with | [] => (sX4_finding a1 z).bind fun q => kk (some (mm_I q.1)) q.2 | _ => none) else none
noncomputable def pX4_within (x1 : Int32) (x2 : Int32) (x3 : Int32) : Int32 := if x1 < x2 then 0 else if x3 < x1 then 0 else 1
noncomputable def clo_X4_within (as : List mm_V) (z : mm_S) (kk : Option mm_V → mm_S → Option mm_R) : Option mm_R := mm_pi as fun a0 as => mm_pi as fun a1 as => mm_pi as fun a2 as => (match as with | [] => kk (some (mm_I (pX4_within a0 a1 a2))) z | _ => none)
noncomputable def sX4_become_14 (y3 : Int32) (z : mm_S) : Option (Int32 × mm_S) := some (y3, z)
noncomputable def sX4_become_0 (x1 : Int32) (x2 : Int32) (z : mm_S) : Option (Int32 × mm_S) := if x1 < 0 ∨ 97 ≤ Int32.toNatClampNeg x1 then none else if x1 < 0 ∨ 97 ≤ Int32.toNatClampNeg x1 then none else (sX4_become_14 (z.1 1 (Int32.toNatClampNeg x1)) ((mm_ui z.1 1 (Int32.toNatClampNeg x1) x2), z.2))
noncomputable def sX4_become (x1 : Int32) (x2 : Int32) (z : mm_S) : Option (Int32 × mm_S) := sX4_become_0 x1 x2 z
noncomputable def clo_X4_become (as : List mm_V) (z : mm_S) (kk : Option mm_V → mm_S → Option mm_R) : Option mm_R := mm_pr as fun t o0 as => bif Nat.beq t 4 then mm_pi as fun a1 as => mm_pi as fun a2 as => (match as with | [] => (sX4_become a1 a2 z).bind fun q => kk (some (mm_I q.1)) q.2 | _ => none) else none
noncomputable def sX4_copyRow_14 (y0 : Nat) (y1 : Nat) (y2 : Int32) (z : mm_S) : Option ((Nat × Nat × Int32 × mm_S) ⊕ (mm_S)) := some (.inl (y0, y1, (y2 + 1), z))
noncomputable def lX4_copyRow_2 (s : Nat × Nat × Int32 × mm_S) : Option ((Nat × Nat × Int32 × mm_S) ⊕ (mm_S)) := if 97 ≤ s.2.2.1 then some (.inr (s.2.2.2)) else if s.2.2.1 < 0 ∨ lenM s.1 ≤ Int32.toNatClampNeg s.2.2.1 then none else if s.2.2.1 < 0 ∨ lenM s.2.1 ≤ Int32.toNatClampNeg s.2.2.1 then none else let u1 : mm_S := ((mm_ui s.2.2.2.1 s.2.1 (Int32.toNatClampNeg s.2.2.1) (s.2.2.2.1 s.1 (Int32.toNatClampNeg s.2.2.1))), s.2.2.2.2); (sX4_copyRow_14 s.1 s.2.1 s.2.2.1 u1)
noncomputable def sX4_copyRow_2 (y0 : Nat) (y1 : Nat) (y2 : Int32) (z : mm_S) : Option (mm_S) := mm_wh (lX4_copyRow_2 ) mm_fu (y0, y1, y2, z)
noncomputable def sX4_copyRow_0 (x1 : Nat) (x2 : Nat) (z : mm_S) : Option (mm_S) := (sX4_copyRow_2 x1 x2 0 z)
noncomputable def sX4_copyRow (x1 : Nat) (x2 : Nat) (z : mm_S) : Option (mm_S) := sX4_copyRow_0 x1 x2 z
noncomputable def clo_X4_copyRow (as : List mm_V) (z : mm_S) (kk : Option mm_V → mm_S → Option mm_R) : Option mm_R := mm_pr as fun t o0 as => bif Nat.beq t 10 then mm_pr as fun t o1 as => bif Nat.beq t 10 then (match as with | [] => (sX4_copyRow o0 o1 z).bind fun q => kk none q | _ => none) else none else none
noncomputable def sX4_putBack_11 (y1 : Int32) (z : mm_S) : Option (Int32 × mm_S) := some (y1, z)
noncomputable def sX4_putBack_0 (x1 : Int32) (z : mm_S) : Option (Int32 × mm_S) := (sX4_copyRow 3 1 z).bind fun q1 => (sX4_putBack_11 x1 q1)
noncomputable def sX4_putBack (x1 : Int32) (z : mm_S) : Option (Int32 × mm_S) := sX4_putBack_0 x1 z
noncomputable def clo_X4_putBack (as : List mm_V) (z : mm_S) (kk : Option mm_V → mm_S → Option mm_R) : Option mm_R := mm_pr as fun t o0 as => bif Nat.beq t 4 then mm_pi as fun a1 as => (match as with | [] => (sX4_putBack a1 z).bind fun q => kk (some (mm_I q.1)) q.2 | _ => none) else none
noncomputable def lX4_bits_4 (s : Int32 × Int64 × mm_S) : Option ((Int32 × Int64 × mm_S) ⊕ (Int32 × mm_S)) := if (lg_cmp s.2.1 0) = 0 then some (.inr (s.1, s.2.2)) else some (.inl ((s.1 + 1), (s.2.1 &&& (s.2.1 - 1)), s.2.2))
noncomputable def sX4_bits_4 (y2 : Int32) (y3 : Int64) (z : mm_S) : Option (Int32 × mm_S) := mm_wh (lX4_bits_4 ) mm_fu (y2, y3, z)
noncomputable def sX4_bits_0 (x1 : Int64) (z : mm_S) : Option (Int32 × mm_S) := (sX4_bits_4 0 x1 z)
noncomputable def sX4_bits (x1 : Int64) (z : mm_S) : Option (Int32 × mm_S) := sX4_bits_0 x1 z
noncomputable def clo_X4_bits (as : List mm_V) (z : mm_S) (kk : Option mm_V → mm_S → Option mm_R) : Option mm_R := mm_pj as fun a0 as => (match as with | [] => (sX4_bits a0 z).bind fun q => kk (some (mm_I q.1)) q.2 | _ => none)
noncomputable def pX4_isCell (x1 : Int32) : Int32 := (pX4_within x1 0 35)
noncomputable def clo_X4_isCell (as : List mm_V) (z : mm_S) (kk : Option mm_V → mm_S → Option mm_R) : Option mm_R := mm_pi as fun a0 as => (match as with | [] => kk (some (mm_I (pX4_isCell a0))) z | _ => none)
noncomputable def pX4_isStuff (x1 : Int32) : Int32 := (pX4_within x1 0 4)
noncomputable def clo_X4_isStuff (as : List mm_V) (z : mm_S) (kk : Option mm_V → mm_S → Option mm_R) : Option mm_R := mm_pi as fun a0 as => (match as with | [] => kk (some (mm_I (pX4_isStuff a0))) z | _ => none)
noncomputable def pX4_isCrew (x1 : Int32) (z : mm_S) : Int32 := (pX4_within x1 0 ((z.1 1 1) - 1))
noncomputable def clo_X4_isCrew (as : List mm_V) (z : mm_S) (kk : Option mm_V → mm_S → Option mm_R) : Option mm_R := mm_pr as fun t o0 as => bif Nat.beq t 4 then mm_pi as fun a1 as => (match as with | [] => kk (some (mm_I (pX4_isCrew a1 z))) z | _ => none) else none
noncomputable def pX4_isKind (x1 : Int32) : Int32 := (pX4_within x1 0 6)
noncomputable def clo_X4_isKind (as : List mm_V) (z : mm_S) (kk : Option mm_V → mm_S → Option mm_R) : Option mm_R := mm_pi as fun a0 as => (match as with | [] => kk (some (mm_I (pX4_isKind a0))) z | _ => none)
noncomputable def pX4_at (x1 : Int32) (x2 : Int32) : Int32 := ((51 + (3 * x1)) + x2)
noncomputable def clo_X4_at (as : List mm_V) (z : mm_S) (kk : Option mm_V → mm_S → Option mm_R) : Option mm_R := mm_pi as fun a0 as => mm_pi as fun a1 as => (match as with | [] => kk (some (mm_I (pX4_at a0 a1))) z | _ => none)
noncomputable def sX4_crewIs_0 (x1 : Int32) (x2 : Int32) (z : mm_S) : Option (Int32 × mm_S) := if (pX4_at x1 x2) < 0 ∨ 97 ≤ Int32.toNatClampNeg (pX4_at x1 x2) then none else some ((z.1 1 (Int32.toNatClampNeg (pX4_at x1 x2))), z)
noncomputable def sX4_crewIs (x1 : Int32) (x2 : Int32) (z : mm_S) : Option (Int32 × mm_S) := sX4_crewIs_0 x1 x2 z
noncomputable def clo_X4_crewIs (as : List mm_V) (z : mm_S) (kk : Option mm_V → mm_S → Option mm_R) : Option mm_R := mm_pr as fun t o0 as => bif Nat.beq t 4 then mm_pi as fun a1 as => mm_pi as fun a2 as => (match as with | [] => (sX4_crewIs a1 a2 z).bind fun q => kk (some (mm_I q.1)) q.2 | _ => none) else none
noncomputable def sX4_stuffIs_0 (x1 : Int32) (z : mm_S) : Option (Int32 × mm_S) := if (15 + x1) < 0 ∨ 97 ≤ Int32.toNatClampNeg (15 + x1) then none else some ((z.1 1 (Int32.toNatClampNeg (15 + x1))), z)
noncomputable def sX4_stuffIs (x1 : Int32) (z : mm_S) : Option (Int32 × mm_S) := sX4_stuffIs_0 x1 z
noncomputable def clo_X4_stuffIs (as : List mm_V) (z : mm_S) (kk : Option mm_V → mm_S → Option mm_R) : Option mm_R := mm_pr as fun t o0 as => bif Nat.beq t 4 then mm_pi as fun a1 as => (match as with | [] => (sX4_stuffIs a1 z).bind fun q => kk (some (mm_I q.1)) q.2 | _ => none) else none
noncomputable def lV_X4_stuff : List (Nat × (List mm_V → mm_S → (Option mm_V → mm_S → Option mm_R) → Option mm_R)) := [(121, clo_X4_become), (124, clo_X4_finding)]
noncomputable def mV_X4_stuff (k : Nat) (as : List mm_V) (z : mm_S) (kk : Option mm_V → mm_S → Option mm_R) : Option mm_R := match mm_at lV_X4_stuff k with
  | some f => f as z kk
  | none => none
noncomputable def arV_X4_stuff (k : Nat) : Nat := (mm_at [(121, 3), (124, 2)] k).getD 0
noncomputable def lS_X4_stuff : List (Nat × (List mm_V → mm_S → (Option mm_V → mm_S → Option mm_R) → Option mm_R)) := [(114, clo_X4_isCell), (118, clo_X4_isStuff)]
noncomputable def mS_X4_stuff (k : Nat) (as : List mm_V) (z : mm_S) (kk : Option mm_V → mm_S → Option mm_R) : Option mm_R := match mm_at lS_X4_stuff k with
  | some f => f as z kk
  | none => none
noncomputable def arS_X4_stuff (k : Nat) : Nat := (mm_at [(114, 1), (118, 1)] k).getD 0
def ct_X4_stuff : List (Nat × List Nat) := [(26, [0])]
noncomputable def go_X4_stuff : Nat → mm_K := mm_go (fun k => mm_at flX4 k) (fun k => mm_at clX4 k) (fun k => mm_at glX4 k) arV_X4_stuff arS_X4_stuff mV_X4_stuff mS_X4_stuff lenM roM snM 3 0 tbX4_stuff ct_X4_stuff
def rm_X4_stuff : Room := { frames := 2, cells := 0, slots := 0, locals := 42 }
noncomputable def f_X4_stuff (as : List mm_V) (z : mm_S) (o : mm_R) : Prop := (as.map mm_cat).sum ≤ 3 ∧ ∃ n, go_X4_stuff n 0 (mm_ar 0 as) [] z = some o
theorem M_X4_stuff : mm_M lyTM lyFA lenM snM 22 22 17 roM rsA nfA nmA [] yX4_stuff cX4_stuff 3 (some .int) rm_X4_stuff f_X4_stuff := sorry
noncomputable def sX4_stuff_26  (z : mm_S) : Option (Int32 × mm_S) := (sX4_finding (-1000001) z).bind fun q2 => some (q2.1, q2.2)
noncomputable def sX4_stuff_0 (x1 : Int32) (x2 : Int32) (z : mm_S) : Option (Int32 × mm_S) := if (pX4_isCell x1) = 0 then (sX4_stuff_26 z) else if (pX4_isStuff x2) = 0 then (sX4_stuff_26 z) else (sX4_become (15 + x1) x2 z).bind fun q1 => some (q1.1, q1.2)
noncomputable def sX4_stuff (x1 : Int32) (x2 : Int32) (z : mm_S) : Option (Int32 × mm_S) := sX4_stuff_0 x1 x2 z
theorem sp_X4_stuff (x1 : Int32) (x2 : Int32) (z : mm_S) (hk : ∀ v ∈ [mm_P 4 0, mm_I x1, mm_I x2], mm_ok 22 lyTM 22 17 v) (q : Int32 × mm_S) (hq : sX4_stuff x1 x2 z = some q) : f_X4_stuff [mm_P 4 0, mm_I x1, mm_I x2] z (some (mm_I q.1), q.2) := sorry
noncomputable def sX4_comes_54 (y4 : Int32) (z : mm_S) : Option (Int32 × mm_S) := some (y4, z)
noncomputable def sX4_comes_44 (y4 : Int32) (z : mm_S) : Option (Int32 × mm_S) := (sX4_comes_54 y4 ((mm_ui z.1 1 1 ((z.1 1 1) + 1)), z.2))
noncomputable def sX4_comes_32 (y3 : Int32) (y4 : Int32) (z : mm_S) : Option (Int32 × mm_S) := if (pX4_at y4 2) < 0 ∨ 97 ≤ Int32.toNatClampNeg (pX4_at y4 2) then none else (sX4_comes_44 y4 ((mm_ui z.1 1 (Int32.toNatClampNeg (pX4_at y4 2)) y3), z.2))
noncomputable def sX4_comes_20 (y2 : Int32) (y3 : Int32) (y4 : Int32) (z : mm_S) : Option (Int32 × mm_S) := if (pX4_at y4 1) < 0 ∨ 97 ≤ Int32.toNatClampNeg (pX4_at y4 1) then none else (sX4_comes_32 y3 y4 ((mm_ui z.1 1 (Int32.toNatClampNeg (pX4_at y4 1)) y2), z.2))
noncomputable def sX4_comes_0 (x1 : Int32) (x2 : Int32) (x3 : Int32) (z : mm_S) : Option (Int32 × mm_S) := if (pX4_at (z.1 1 1) 0) < 0 ∨ 97 ≤ Int32.toNatClampNeg (pX4_at (z.1 1 1) 0) then none else (sX4_comes_20 x2 x3 (z.1 1 1) ((mm_ui z.1 1 (Int32.toNatClampNeg (pX4_at (z.1 1 1) 0)) x1), z.2))
noncomputable def sX4_comes (x1 : Int32) (x2 : Int32) (x3 : Int32) (z : mm_S) : Option (Int32 × mm_S) := sX4_comes_0 x1 x2 x3 z
noncomputable def clo_X4_comes (as : List mm_V) (z : mm_S) (kk : Option mm_V → mm_S → Option mm_R) : Option mm_R := mm_pr as fun t o0 as => bif Nat.beq t 4 then mm_pi as fun a1 as => mm_pi as fun a2 as => mm_pi as fun a3 as => (match as with | [] => (sX4_comes a1 a2 a3 z).bind fun q => kk (some (mm_I q.1)) q.2 | _ => none) else none
noncomputable def lV_X4_crew : List (Nat × (List mm_V → mm_S → (Option mm_V → mm_S → Option mm_R) → Option mm_R)) := [(124, clo_X4_finding), (132, clo_X4_comes)]
noncomputable def mV_X4_crew (k : Nat) (as : List mm_V) (z : mm_S) (kk : Option mm_V → mm_S → Option mm_R) : Option mm_R := match mm_at lV_X4_crew k with
  | some f => f as z kk
  | none => none
noncomputable def arV_X4_crew (k : Nat) : Nat := (mm_at [(124, 2), (132, 4)] k).getD 0
noncomputable def lS_X4_crew : List (Nat × (List mm_V → mm_S → (Option mm_V → mm_S → Option mm_R) → Option mm_R)) := [(114, clo_X4_isCell), (128, clo_X4_isKind)]
noncomputable def mS_X4_crew (k : Nat) (as : List mm_V) (z : mm_S) (kk : Option mm_V → mm_S → Option mm_R) : Option mm_R := match mm_at lS_X4_crew k with
  | some f => f as z kk
  | none => none
noncomputable def arS_X4_crew (k : Nat) : Nat := (mm_at [(114, 1), (128, 1)] k).getD 0
def ct_X4_crew : List (Nat × List Nat) := [(21, [0, 1, 2]), (41, [0, 1, 2])]
noncomputable def go_X4_crew : Nat → mm_K := mm_go (fun k => mm_at flX4 k) (fun k => mm_at clX4 k) (fun k => mm_at glX4 k) arV_X4_crew arS_X4_crew mV_X4_crew mS_X4_crew lenM roM snM 3 0 tbX4_crew ct_X4_crew
def rm_X4_crew : Room := { frames := 2, cells := 0, slots := 0, locals := 45 }
noncomputable def f_X4_crew (as : List mm_V) (z : mm_S) (o : mm_R) : Prop := (as.map mm_cat).sum ≤ 3 ∧ ∃ n, go_X4_crew n 0 (mm_ar 0 as) [] z = some o
theorem M_X4_crew : mm_M lyTM lyFA lenM snM 22 22 17 roM rsA nfA nmA [] yX4_crew cX4_crew 3 (some .int) rm_X4_crew f_X4_crew := sorry
noncomputable def sX4_crew_41 (y1 : Int32) (y2 : Int32) (z : mm_S) : Option (Int32 × mm_S) := (sX4_comes y1 y2 6 z).bind fun q4 => some (q4.1, q4.2)
noncomputable def sX4_crew_21 (y1 : Int32) (y2 : Int32) (z : mm_S) : Option (Int32 × mm_S) := if (z.1 1 1) = 6 then (sX4_finding (-1000002) z).bind fun q3 => some (q3.1, q3.2) else (sX4_crew_41 y1 y2 z)
noncomputable def sX4_crew_0 (x1 : Int32) (x2 : Int32) (z : mm_S) : Option (Int32 × mm_S) := if (pX4_isKind x1) = 0 then (sX4_finding (-1000001) z).bind fun q1 => some (q1.1, q1.2) else if (pX4_isCell x2) = 0 then (sX4_finding (-1000001) z).bind fun q2 => some (q2.1, q2.2) else (sX4_crew_21 x1 x2 z)
noncomputable def sX4_crew (x1 : Int32) (x2 : Int32) (z : mm_S) : Option (Int32 × mm_S) := sX4_crew_0 x1 x2 z
theorem sp_X4_crew (x1 : Int32) (x2 : Int32) (z : mm_S) (hk : ∀ v ∈ [mm_P 4 0, mm_I x1, mm_I x2], mm_ok 22 lyTM 22 17 v) (q : Int32 × mm_S) (hq : sX4_crew x1 x2 z = some q) : f_X4_crew [mm_P 4 0, mm_I x1, mm_I x2] z (some (mm_I q.1), q.2) := sorry
noncomputable def pX4_above (x1 : Int32) : Int32 := if x1 = 0 then (-1) else if x1 = 2 then 1 else if x1 = 3 then 2 else if x1 = 5 then 4 else 0
noncomputable def lX4_isUnder_2 (s : Int32 × Int32 × mm_S) : Option ((Int32 × Int32 × mm_S) ⊕ (Int32 × mm_S)) := if s.2.1 < 0 then if s.2.1 < 0 then some (.inr (0, s.2.2)) else some (.inr (1, s.2.2)) else if s.2.1 = s.1 then if s.2.1 < 0 then some (.inr (0, s.2.2)) else some (.inr (1, s.2.2)) else some (.inl (s.1, (pX4_above s.2.1), s.2.2))
noncomputable def sX4_isUnder_2 (y1 : Int32) (y2 : Int32) (z : mm_S) : Option (Int32 × mm_S) := mm_wh (lX4_isUnder_2 ) mm_fu (y1, y2, z)
noncomputable def sX4_isUnder_0 (x1 : Int32) (x2 : Int32) (z : mm_S) : Option (Int32 × mm_S) := (sX4_isUnder_2 x2 x1 z)
noncomputable def sX4_isUnder (x1 : Int32) (x2 : Int32) (z : mm_S) : Option (Int32 × mm_S) := sX4_isUnder_0 x1 x2 z
noncomputable def clo_X4_isUnder (as : List mm_V) (z : mm_S) (kk : Option mm_V → mm_S → Option mm_R) : Option mm_R := mm_pi as fun a0 as => mm_pi as fun a1 as => (match as with | [] => (sX4_isUnder a0 a1 z).bind fun q => kk (some (mm_I q.1)) q.2 | _ => none)
noncomputable def sX4_carries_7 (y1 : Int32) (y2 : Int32) (z : mm_S) : Option (Int32 × mm_S) := (sX4_crewIs y1 0 z).bind fun q2 => if q2.1 = 1 then some ((8 * y2), q2.2) else if q2.1 = 2 then some (((8 * y2) + 5), q2.2) else if q2.1 = 3 then some (((9 * y2) + 5), q2.2) else if q2.1 = 4 then some ((2 * y2), q2.2) else if q2.1 = 5 then some (0, q2.2) else some ((4 * y2), q2.2)
noncomputable def sX4_carries_0 (x1 : Int32) (z : mm_S) : Option (Int32 × mm_S) := (sX4_crewIs x1 2 z).bind fun q1 => (sX4_carries_7 x1 q1.1 q1.2)
noncomputable def sX4_carries (x1 : Int32) (z : mm_S) : Option (Int32 × mm_S) := sX4_carries_0 x1 z
noncomputable def clo_X4_carries (as : List mm_V) (z : mm_S) (kk : Option mm_V → mm_S → Option mm_R) : Option mm_R := mm_pr as fun t o0 as => bif Nat.beq t 4 then mm_pi as fun a1 as => (match as with | [] => (sX4_carries a1 z).bind fun q => kk (some (mm_I q.1)) q.2 | _ => none) else none
noncomputable def sX4_starts_29  (z : mm_S) : Option (Int32 × mm_S) := some (2, z)
noncomputable def sX4_starts_7 (y2 : Int32) (z : mm_S) : Option (Int32 × mm_S) := if y2 = 2 then some (1, z) else if y2 = 3 then (sX4_starts_29 z) else (sX4_isUnder y2 4 z).bind fun q2 => if q2.1 = 0 then some (0, q2.2) else (sX4_starts_29 q2.2)
noncomputable def sX4_starts_0 (x1 : Int32) (z : mm_S) : Option (Int32 × mm_S) := (sX4_crewIs x1 0 z).bind fun q1 => (sX4_starts_7 q1.1 q1.2)
noncomputable def sX4_starts (x1 : Int32) (z : mm_S) : Option (Int32 × mm_S) := sX4_starts_0 x1 z
noncomputable def clo_X4_starts (as : List mm_V) (z : mm_S) (kk : Option mm_V → mm_S → Option mm_R) : Option mm_R := mm_pr as fun t o0 as => bif Nat.beq t 4 then mm_pi as fun a1 as => (match as with | [] => (sX4_starts a1 z).bind fun q => kk (some (mm_I q.1)) q.2 | _ => none) else none
noncomputable def sX4_hearsBy_35  (z : mm_S) : Option (Int32 × mm_S) := some (30, z)
noncomputable def sX4_hearsBy_7 (y2 : Int32) (z : mm_S) : Option (Int32 × mm_S) := if y2 = 6 then some ((-1), z) else if y2 = 3 then some (40, z) else (sX4_isUnder y2 4 z).bind fun q2 => if q2.1 = 0 then some (60, q2.2) else (sX4_hearsBy_35 q2.2)
noncomputable def sX4_hearsBy_0 (x1 : Int32) (z : mm_S) : Option (Int32 × mm_S) := (sX4_crewIs x1 0 z).bind fun q1 => (sX4_hearsBy_7 q1.1 q1.2)
noncomputable def sX4_hearsBy (x1 : Int32) (z : mm_S) : Option (Int32 × mm_S) := sX4_hearsBy_0 x1 z
noncomputable def clo_X4_hearsBy (as : List mm_V) (z : mm_S) (kk : Option mm_V → mm_S → Option mm_R) : Option mm_R := mm_pr as fun t o0 as => bif Nat.beq t 4 then mm_pi as fun a1 as => (match as with | [] => (sX4_hearsBy a1 z).bind fun q => kk (some (mm_I q.1)) q.2 | _ => none) else none
noncomputable def lV_X4_of : List (Nat × (List mm_V → mm_S → (Option mm_V → mm_S → Option mm_R) → Option mm_R)) := [(124, clo_X4_finding), (139, clo_X4_crewIs), (146, clo_X4_isCrew), (149, clo_X4_carries), (152, clo_X4_starts), (155, clo_X4_hearsBy)]
noncomputable def mV_X4_of (k : Nat) (as : List mm_V) (z : mm_S) (kk : Option mm_V → mm_S → Option mm_R) : Option mm_R := match mm_at lV_X4_of k with
  | some f => f as z kk
  | none => none
noncomputable def arV_X4_of (k : Nat) : Nat := (mm_at [(124, 2), (139, 3), (146, 2), (149, 2), (152, 2), (155, 2)] k).getD 0
noncomputable def lS_X4_of : List (Nat × (List mm_V → mm_S → (Option mm_V → mm_S → Option mm_R) → Option mm_R)) := [(106, clo_X4_within)]
noncomputable def mS_X4_of (k : Nat) (as : List mm_V) (z : mm_S) (kk : Option mm_V → mm_S → Option mm_R) : Option mm_R := match mm_at lS_X4_of k with
  | some f => f as z kk
  | none => none
noncomputable def arS_X4_of (k : Nat) : Nat := (mm_at [(106, 3)] k).getD 0
def ct_X4_of : List (Nat × List Nat) := [(24, [0, 1, 2]), (38, [0, 1, 2]), (51, [0, 1, 2]), (64, [0, 1])]
noncomputable def go_X4_of : Nat → mm_K := mm_go (fun k => mm_at flX4 k) (fun k => mm_at clX4 k) (fun k => mm_at glX4 k) arV_X4_of arS_X4_of mV_X4_of mS_X4_of lenM roM snM 3 0 tbX4_of ct_X4_of
def rm_X4_of : Room := { frames := 3, cells := 0, slots := 0, locals := 65 }
noncomputable def f_X4_of (as : List mm_V) (z : mm_S) (o : mm_R) : Prop := (as.map mm_cat).sum ≤ 3 ∧ ∃ n, go_X4_of n 0 (mm_ar 0 as) [] z = some o
theorem M_X4_of : mm_M lyTM lyFA lenM snM 22 22 17 roM rsA nfA nmA [] yX4_of cX4_of 3 (some .int) rm_X4_of f_X4_of := sorry
noncomputable def sX4_of_64 (y1 : Int32) (z : mm_S) : Option (Int32 × mm_S) := (sX4_hearsBy y1 z).bind fun q6 => some (q6.1, q6.2)
noncomputable def sX4_of_51 (y1 : Int32) (y2 : Int32) (z : mm_S) : Option (Int32 × mm_S) := if y2 = 4 then (sX4_starts y1 z).bind fun q5 => some (q5.1, q5.2) else (sX4_of_64 y1 z)
noncomputable def sX4_of_38 (y1 : Int32) (y2 : Int32) (z : mm_S) : Option (Int32 × mm_S) := if y2 = 3 then (sX4_carries y1 z).bind fun q4 => some (q4.1, q4.2) else (sX4_of_51 y1 y2 z)
noncomputable def sX4_of_24 (y1 : Int32) (y2 : Int32) (z : mm_S) : Option (Int32 × mm_S) := if 3 ≤ y2 then (sX4_of_38 y1 y2 z) else (sX4_crewIs y1 y2 z).bind fun q3 => some (q3.1, q3.2)
noncomputable def sX4_of_0 (x1 : Int32) (x2 : Int32) (z : mm_S) : Option (Int32 × mm_S) := if (pX4_isCrew x1 z) = 0 then (sX4_finding (-1000001) z).bind fun q1 => some (q1.1, q1.2) else if (pX4_within x2 0 5) = 0 then (sX4_finding (-1000001) z).bind fun q2 => some (q2.1, q2.2) else (sX4_of_24 x1 x2 z)
noncomputable def sX4_of (x1 : Int32) (x2 : Int32) (z : mm_S) : Option (Int32 × mm_S) := sX4_of_0 x1 x2 z
theorem sp_X4_of (x1 : Int32) (x2 : Int32) (z : mm_S) (hk : ∀ v ∈ [mm_P 4 0, mm_I x1, mm_I x2], mm_ok 22 lyTM 22 17 v) (q : Int32 × mm_S) (hq : sX4_of x1 x2 z = some q) : f_X4_of [mm_P 4 0, mm_I x1, mm_I x2] z (some (mm_I q.1), q.2) := sorry
noncomputable def lV_X4_change : List (Nat × (List mm_V → mm_S → (Option mm_V → mm_S → Option mm_R) → Option mm_R)) := [(121, clo_X4_become), (124, clo_X4_finding), (146, clo_X4_isCrew)]
noncomputable def mV_X4_change (k : Nat) (as : List mm_V) (z : mm_S) (kk : Option mm_V → mm_S → Option mm_R) : Option mm_R := match mm_at lV_X4_change k with
  | some f => f as z kk
  | none => none
noncomputable def arV_X4_change (k : Nat) : Nat := (mm_at [(121, 3), (124, 2), (146, 2)] k).getD 0
noncomputable def lS_X4_change : List (Nat × (List mm_V → mm_S → (Option mm_V → mm_S → Option mm_R) → Option mm_R)) := [(106, clo_X4_within), (110, clo_X4_at), (114, clo_X4_isCell), (128, clo_X4_isKind)]
noncomputable def mS_X4_change (k : Nat) (as : List mm_V) (z : mm_S) (kk : Option mm_V → mm_S → Option mm_R) : Option mm_R := match mm_at lS_X4_change k with
  | some f => f as z kk
  | none => none
noncomputable def arS_X4_change (k : Nat) : Nat := (mm_at [(106, 3), (110, 2), (114, 1), (128, 1)] k).getD 0
def ct_X4_change : List (Nat × List Nat) := [(71, [0])]
noncomputable def go_X4_change : Nat → mm_K := mm_go (fun k => mm_at flX4 k) (fun k => mm_at clX4 k) (fun k => mm_at glX4 k) arV_X4_change arS_X4_change mV_X4_change mS_X4_change lenM roM snM 5 0 tbX4_change ct_X4_change
def rm_X4_change : Room := { frames := 2, cells := 0, slots := 0, locals := 43 }
noncomputable def f_X4_change (as : List mm_V) (z : mm_S) (o : mm_R) : Prop := (as.map mm_cat).sum ≤ 5 ∧ ∃ n, go_X4_change n 0 (mm_ar 0 as) [] z = some o
theorem M_X4_change : mm_M lyTM lyFA lenM snM 22 22 17 roM rsA nfA nmA [] yX4_change cX4_change 5 (some .int) rm_X4_change f_X4_change := sorry
noncomputable def sX4_change_71  (z : mm_S) : Option (Int32 × mm_S) := (sX4_finding (-1000001) z).bind fun q8 => some (q8.1, q8.2)
noncomputable def sX4_change_0 (x1 : Int32) (x2 : Int32) (x3 : Int32) (z : mm_S) : Option (Int32 × mm_S) := if x2 = 0 then if (pX4_isKind x3) = 0 then if x2 = 1 then if (pX4_isCell x3) = 0 then if x2 = 2 then if (pX4_within x3 1 20) = 0 then if (pX4_isCrew x1 z) = 0 then (sX4_change_71 z) else (sX4_change_71 z) else if (pX4_isCrew x1 z) = 0 then (sX4_change_71 z) else (sX4_become (pX4_at x1 x2) x3 z).bind fun q7 => some (q7.1, q7.2) else if (pX4_isCrew x1 z) = 0 then (sX4_change_71 z) else (sX4_change_71 z) else if (pX4_isCrew x1 z) = 0 then (sX4_change_71 z) else (sX4_become (pX4_at x1 x2) x3 z).bind fun q6 => some (q6.1, q6.2) else if x2 = 2 then if (pX4_within x3 1 20) = 0 then if (pX4_isCrew x1 z) = 0 then (sX4_change_71 z) else (sX4_change_71 z) else if (pX4_isCrew x1 z) = 0 then (sX4_change_71 z) else (sX4_become (pX4_at x1 x2) x3 z).bind fun q5 => some (q5.1, q5.2) else if (pX4_isCrew x1 z) = 0 then (sX4_change_71 z) else (sX4_change_71 z) else if (pX4_isCrew x1 z) = 0 then (sX4_change_71 z) else (sX4_become (pX4_at x1 x2) x3 z).bind fun q4 => some (q4.1, q4.2) else if x2 = 1 then if (pX4_isCell x3) = 0 then if x2 = 2 then if (pX4_within x3 1 20) = 0 then if (pX4_isCrew x1 z) = 0 then (sX4_change_71 z) else (sX4_change_71 z) else if (pX4_isCrew x1 z) = 0 then (sX4_change_71 z) else (sX4_become (pX4_at x1 x2) x3 z).bind fun q3 => some (q3.1, q3.2) else if (pX4_isCrew x1 z) = 0 then (sX4_change_71 z) else (sX4_change_71 z) else if (pX4_isCrew x1 z) = 0 then (sX4_change_71 z) else (sX4_become (pX4_at x1 x2) x3 z).bind fun q2 => some (q2.1, q2.2) else if x2 = 2 then if (pX4_within x3 1 20) = 0 then if (pX4_isCrew x1 z) = 0 then (sX4_change_71 z) else (sX4_change_71 z) else if (pX4_isCrew x1 z) = 0 then (sX4_change_71 z) else (sX4_become (pX4_at x1 x2) x3 z).bind fun q1 => some (q1.1, q1.2) else if (pX4_isCrew x1 z) = 0 then (sX4_change_71 z) else (sX4_change_71 z)
noncomputable def sX4_change (x1 : Int32) (x2 : Int32) (x3 : Int32) (z : mm_S) : Option (Int32 × mm_S) := sX4_change_0 x1 x2 x3 z
theorem sp_X4_change (x1 : Int32) (x2 : Int32) (x3 : Int32) (z : mm_S) (hk : ∀ v ∈ [mm_P 4 0, mm_I x1, mm_I x2, mm_I x3], mm_ok 22 lyTM 22 17 v) (q : Int32 × mm_S) (hq : sX4_change x1 x2 x3 z = some q) : f_X4_change [mm_P 4 0, mm_I x1, mm_I x2, mm_I x3] z (some (mm_I q.1), q.2) := sorry
noncomputable def sX4_cellsOf_33 (y1 : Int32) (y2 : Int64) (y4 : Int32) (z : mm_S) : Option ((Int32 × Int64 × Int32 × mm_S) ⊕ (Int64 × mm_S)) := some (.inl (y1, y2, (y4 + 1), z))
noncomputable def lX4_cellsOf_5 (s : Int32 × Int64 × Int32 × mm_S) : Option ((Int32 × Int64 × Int32 × mm_S) ⊕ (Int64 × mm_S)) := if 36 ≤ s.2.2.1 then some (.inr (s.2.1, s.2.2.2)) else (sX4_stuffIs s.2.2.1 s.2.2.2).bind fun q1 => if q1.1 = s.1 then let v2 : Int64 := (s.2.1 ||| (1 <<< (Int32.toInt64 s.2.2.1 &&& 63))); (sX4_cellsOf_33 s.1 v2 s.2.2.1 q1.2) else (sX4_cellsOf_33 s.1 (s.2.1 ||| 0) s.2.2.1 q1.2)
noncomputable def sX4_cellsOf_5 (y1 : Int32) (y2 : Int64) (y4 : Int32) (z : mm_S) : Option (Int64 × mm_S) := mm_wh (lX4_cellsOf_5 ) mm_fu (y1, y2, y4, z)
noncomputable def sX4_cellsOf_0 (x1 : Int32) (z : mm_S) : Option (Int64 × mm_S) := (sX4_cellsOf_5 x1 0 0 z)
noncomputable def sX4_cellsOf (x1 : Int32) (z : mm_S) : Option (Int64 × mm_S) := sX4_cellsOf_0 x1 z
noncomputable def clo_X4_cellsOf (as : List mm_V) (z : mm_S) (kk : Option mm_V → mm_S → Option mm_R) : Option mm_R := mm_pr as fun t o0 as => bif Nat.beq t 4 then mm_pi as fun a1 as => (match as with | [] => (sX4_cellsOf a1 z).bind fun q => kk (some (mm_J q.1)) q.2 | _ => none) else none
noncomputable def lV_X4_cells : List (Nat × (List mm_V → mm_S → (Option mm_V → mm_S → Option mm_R) → Option mm_R)) := [(124, clo_X4_finding), (161, clo_X4_cellsOf)]
noncomputable def mV_X4_cells (k : Nat) (as : List mm_V) (z : mm_S) (kk : Option mm_V → mm_S → Option mm_R) : Option mm_R := match mm_at lV_X4_cells k with
  | some f => f as z kk
  | none => none
noncomputable def arV_X4_cells (k : Nat) : Nat := (mm_at [(124, 2), (161, 2)] k).getD 0
noncomputable def lS_X4_cells : List (Nat × (List mm_V → mm_S → (Option mm_V → mm_S → Option mm_R) → Option mm_R)) := [(118, clo_X4_isStuff)]
noncomputable def mS_X4_cells (k : Nat) (as : List mm_V) (z : mm_S) (kk : Option mm_V → mm_S → Option mm_R) : Option mm_R := match mm_at lS_X4_cells k with
  | some f => f as z kk
  | none => none
noncomputable def arS_X4_cells (k : Nat) : Nat := (mm_at [(118, 1)] k).getD 0
def ct_X4_cells : List (Nat × List Nat) := [(15, [0])]
noncomputable def go_X4_cells : Nat → mm_K := mm_go (fun k => mm_at flX4 k) (fun k => mm_at clX4 k) (fun k => mm_at glX4 k) arV_X4_cells arS_X4_cells mV_X4_cells mS_X4_cells lenM roM snM 2 2 tbX4_cells ct_X4_cells
def rm_X4_cells : Room := { frames := 2, cells := 0, slots := 0, locals := 45 }
noncomputable def f_X4_cells (as : List mm_V) (z : mm_S) (o : mm_R) : Prop := (as.map mm_cat).sum ≤ 2 ∧ ∃ n, go_X4_cells n 0 (mm_ar 0 as) [] z = some o
theorem M_X4_cells : mm_M lyTM lyFA lenM snM 22 22 17 roM rsA nfA nmA [] yX4_cells cX4_cells 2 (some .long) rm_X4_cells f_X4_cells := sorry
noncomputable def sX4_cells_15  (z : mm_S) : Option (Int64 × mm_S) := (sX4_finding (-1000001) z).bind fun q2 => some ((Int32.toInt64 q2.1), q2.2)
noncomputable def sX4_cells_0 (x1 : Int32) (z : mm_S) : Option (Int64 × mm_S) := if (pX4_isStuff x1) = 0 then (sX4_cells_15 z) else (sX4_cellsOf x1 z).bind fun q1 => some (q1.1, q1.2)
noncomputable def sX4_cells (x1 : Int32) (z : mm_S) : Option (Int64 × mm_S) := sX4_cells_0 x1 z
theorem sp_X4_cells (x1 : Int32) (z : mm_S) (hk : ∀ v ∈ [mm_P 4 0, mm_I x1], mm_ok 22 lyTM 22 17 v) (q : Int64 × mm_S) (hq : sX4_cells x1 z = some q) : f_X4_cells [mm_P 4 0, mm_I x1] z (some (mm_J q.1), q.2) := sorry
noncomputable def lX4_isUnsure_4 (s : Int32 × Int32 × Int32 × mm_S) : Option ((Int32 × Int32 × Int32 × mm_S) ⊕ (Int32 × mm_S)) := if (s.2.2.2.1 1 3) ≤ s.2.2.1 then if s.2.1 = 0 then some (.inr (0, s.2.2.2)) else if s.2.1 = 1 then some (.inr (1, s.2.2.2)) else none else if s.2.1 = 0 then if (69 + s.2.2.1) < 0 ∨ 97 ≤ Int32.toNatClampNeg (69 + s.2.2.1) then none else if (s.2.2.2.1 1 (Int32.toNatClampNeg (69 + s.2.2.1))) = s.1 then some (.inl (s.1, 1, (s.2.2.1 + 1), s.2.2.2)) else some (.inl (s.1, 0, (s.2.2.1 + 1), s.2.2.2)) else some (.inl (s.1, 1, (s.2.2.1 + 1), s.2.2.2))
noncomputable def sX4_isUnsure_4 (y1 : Int32) (y2 : Int32) (y3 : Int32) (z : mm_S) : Option (Int32 × mm_S) := mm_wh (lX4_isUnsure_4 ) mm_fu (y1, y2, y3, z)
noncomputable def sX4_isUnsure_0 (x1 : Int32) (z : mm_S) : Option (Int32 × mm_S) := (sX4_isUnsure_4 x1 0 0 z)
noncomputable def sX4_isUnsure (x1 : Int32) (z : mm_S) : Option (Int32 × mm_S) := sX4_isUnsure_0 x1 z
noncomputable def clo_X4_isUnsure (as : List mm_V) (z : mm_S) (kk : Option mm_V → mm_S → Option mm_R) : Option mm_R := mm_pr as fun t o0 as => bif Nat.beq t 4 then mm_pi as fun a1 as => (match as with | [] => (sX4_isUnsure a1 z).bind fun q => kk (some (mm_I q.1)) q.2 | _ => none) else none
noncomputable def sX4_getsUnsure_25  (z : mm_S) : Option (Int32 × mm_S) := some ((z.1 1 3), z)
noncomputable def sX4_getsUnsure_15  (z : mm_S) : Option (Int32 × mm_S) := (sX4_getsUnsure_25 ((mm_ui z.1 1 3 ((z.1 1 3) + 1)), z.2))
noncomputable def sX4_getsUnsure_0 (x1 : Int32) (z : mm_S) : Option (Int32 × mm_S) := if (69 + (z.1 1 3)) < 0 ∨ 97 ≤ Int32.toNatClampNeg (69 + (z.1 1 3)) then none else (sX4_getsUnsure_15 ((mm_ui z.1 1 (Int32.toNatClampNeg (69 + (z.1 1 3))) x1), z.2))
noncomputable def sX4_getsUnsure (x1 : Int32) (z : mm_S) : Option (Int32 × mm_S) := sX4_getsUnsure_0 x1 z
noncomputable def clo_X4_getsUnsure (as : List mm_V) (z : mm_S) (kk : Option mm_V → mm_S → Option mm_R) : Option mm_R := mm_pr as fun t o0 as => bif Nat.beq t 4 then mm_pi as fun a1 as => (match as with | [] => (sX4_getsUnsure a1 z).bind fun q => kk (some (mm_I q.1)) q.2 | _ => none) else none
noncomputable def lV_X4_unsure : List (Nat × (List mm_V → mm_S → (Option mm_V → mm_S → Option mm_R) → Option mm_R)) := [(124, clo_X4_finding), (165, clo_X4_isUnsure), (169, clo_X4_getsUnsure)]
noncomputable def mV_X4_unsure (k : Nat) (as : List mm_V) (z : mm_S) (kk : Option mm_V → mm_S → Option mm_R) : Option mm_R := match mm_at lV_X4_unsure k with
  | some f => f as z kk
  | none => none
noncomputable def arV_X4_unsure (k : Nat) : Nat := (mm_at [(124, 2), (165, 2), (169, 2)] k).getD 0
noncomputable def lS_X4_unsure : List (Nat × (List mm_V → mm_S → (Option mm_V → mm_S → Option mm_R) → Option mm_R)) := [(114, clo_X4_isCell)]
noncomputable def mS_X4_unsure (k : Nat) (as : List mm_V) (z : mm_S) (kk : Option mm_V → mm_S → Option mm_R) : Option mm_R := match mm_at lS_X4_unsure k with
  | some f => f as z kk
  | none => none
noncomputable def arS_X4_unsure (k : Nat) : Nat := (mm_at [(114, 1)] k).getD 0
def ct_X4_unsure : List (Nat × List Nat) := [(14, [0, 1]), (22, [0]), (29, [0, 1]), (48, [0, 1])]
noncomputable def go_X4_unsure : Nat → mm_K := mm_go (fun k => mm_at flX4 k) (fun k => mm_at clX4 k) (fun k => mm_at glX4 k) arV_X4_unsure arS_X4_unsure mV_X4_unsure mS_X4_unsure lenM roM snM 2 0 tbX4_unsure ct_X4_unsure
def rm_X4_unsure : Room := { frames := 2, cells := 0, slots := 0, locals := 42 }
noncomputable def f_X4_unsure (as : List mm_V) (z : mm_S) (o : mm_R) : Prop := (as.map mm_cat).sum ≤ 2 ∧ ∃ n, go_X4_unsure n 0 (mm_ar 0 as) [] z = some o
theorem M_X4_unsure : mm_M lyTM lyFA lenM snM 22 22 17 roM rsA nfA nmA [] yX4_unsure cX4_unsure 2 (some .int) rm_X4_unsure f_X4_unsure := sorry
noncomputable def sX4_unsure_22  (z : mm_S) : Option (Int32 × mm_S) := (sX4_finding (-1000005) z).bind fun q4 => some (q4.1, q4.2)
noncomputable def sX4_unsure_48 (y1 : Int32) (z : mm_S) : Option (Int32 × mm_S) := (sX4_getsUnsure y1 z).bind fun q5 => some (q5.1, q5.2)
noncomputable def sX4_unsure_29 (y1 : Int32) (z : mm_S) : Option (Int32 × mm_S) := if (z.1 1 3) = 4 then (sX4_finding (-1000002) z).bind fun q3 => some (q3.1, q3.2) else (sX4_unsure_48 y1 z)
noncomputable def sX4_unsure_14 (y1 : Int32) (z : mm_S) : Option (Int32 × mm_S) := (sX4_isUnsure y1 z).bind fun q2 => if q2.1 = 0 then (sX4_unsure_29 y1 q2.2) else (sX4_unsure_22 q2.2)
noncomputable def sX4_unsure_0 (x1 : Int32) (z : mm_S) : Option (Int32 × mm_S) := if (pX4_isCell x1) = 0 then (sX4_finding (-1000001) z).bind fun q1 => some (q1.1, q1.2) else (sX4_unsure_14 x1 z)
noncomputable def sX4_unsure (x1 : Int32) (z : mm_S) : Option (Int32 × mm_S) := sX4_unsure_0 x1 z
theorem sp_X4_unsure (x1 : Int32) (z : mm_S) (hk : ∀ v ∈ [mm_P 4 0, mm_I x1], mm_ok 22 lyTM 22 17 v) (q : Int32 × mm_S) (hq : sX4_unsure x1 z = some q) : f_X4_unsure [mm_P 4 0, mm_I x1] z (some (mm_I q.1), q.2) := sorry
noncomputable def lV_X4_sure : List (Nat × (List mm_V → mm_S → (Option mm_V → mm_S → Option mm_R) → Option mm_R)) := [(121, clo_X4_become)]
noncomputable def mV_X4_sure (k : Nat) (as : List mm_V) (z : mm_S) (kk : Option mm_V → mm_S → Option mm_R) : Option mm_R := match mm_at lV_X4_sure k with
  | some f => f as z kk
  | none => none
noncomputable def arV_X4_sure (k : Nat) : Nat := (mm_at [(121, 3)] k).getD 0
noncomputable def lS_X4_sure : List (Nat × (List mm_V → mm_S → (Option mm_V → mm_S → Option mm_R) → Option mm_R)) := []
noncomputable def mS_X4_sure (k : Nat) (as : List mm_V) (z : mm_S) (kk : Option mm_V → mm_S → Option mm_R) : Option mm_R := match mm_at lS_X4_sure k with
  | some f => f as z kk
  | none => none
noncomputable def arS_X4_sure (k : Nat) : Nat := (mm_at [] k).getD 0
def ct_X4_sure : List (Nat × List Nat) := []
noncomputable def go_X4_sure : Nat → mm_K := mm_go (fun k => mm_at flX4 k) (fun k => mm_at clX4 k) (fun k => mm_at glX4 k) arV_X4_sure arS_X4_sure mV_X4_sure mS_X4_sure lenM roM snM 1 0 tbX4_sure ct_X4_sure
def rm_X4_sure : Room := { frames := 1, cells := 0, slots := 0, locals := 23 }
noncomputable def f_X4_sure (as : List mm_V) (z : mm_S) (o : mm_R) : Prop := (as.map mm_cat).sum ≤ 1 ∧ ∃ n, go_X4_sure n 0 (mm_ar 0 as) [] z = some o
theorem M_X4_sure : mm_M lyTM lyFA lenM snM 22 22 17 roM rsA nfA nmA [] yX4_sure cX4_sure 1 (some .int) rm_X4_sure f_X4_sure := sorry
noncomputable def sX4_sure_0  (z : mm_S) : Option (Int32 × mm_S) := (sX4_become 3 0 z).bind fun q1 => some (q1.1, q1.2)
noncomputable def sX4_sure  (z : mm_S) : Option (Int32 × mm_S) := sX4_sure_0  z
theorem sp_X4_sure  (z : mm_S) (hk : ∀ v ∈ [mm_P 4 0], mm_ok 22 lyTM 22 17 v) (q : Int32 × mm_S) (hq : sX4_sure  z = some q) : f_X4_sure [mm_P 4 0] z (some (mm_I q.1), q.2) := sorry
noncomputable def pX4_pace (x1 : Int32) : Int32 := if x1 = 0 then 2 else if x1 = 1 then 6 else if x1 = 3 then 3 else 1
noncomputable def clo_X4_pace (as : List mm_V) (z : mm_S) (kk : Option mm_V → mm_S → Option mm_R) : Option mm_R := mm_pi as fun a0 as => (match as with | [] => kk (some (mm_I (pX4_pace a0))) z | _ => none)
noncomputable def pX4_beside_49 (y2 : Int32) (y3 : Int32) (z : mm_S) : Int32 := if (pX4_within y2 0 5) = 0 then (-1) else if (pX4_within y3 0 5) = 0 then (-1) else ((6 * y2) + y3)
noncomputable def pX4_beside_24 (y0 : Int32) (y1 : Int32) (y2 : Int32) (z : mm_S) : Int32 := if y1 = 2 then (pX4_beside_49 y2 ((y0 - y0 / 6 * 6) + (-1)) z) else if y1 = 3 then (pX4_beside_49 y2 ((y0 - y0 / 6 * 6) + 1) z) else (pX4_beside_49 y2 ((y0 - y0 / 6 * 6) + 0) z)
noncomputable def pX4_beside (x1 : Int32) (x2 : Int32) (z : mm_S) : Int32 := if x2 = 0 then (pX4_beside_24 x1 x2 ((x1 / 6) + (-1)) z) else if x2 = 1 then (pX4_beside_24 x1 x2 ((x1 / 6) + 1) z) else (pX4_beside_24 x1 x2 ((x1 / 6) + 0) z)
noncomputable def clo_X4_beside (as : List mm_V) (z : mm_S) (kk : Option mm_V → mm_S → Option mm_R) : Option mm_R := mm_pi as fun a0 as => mm_pi as fun a1 as => (match as with | [] => kk (some (mm_I (pX4_beside a0 a1 z))) z | _ => none)
noncomputable def sX4_isHole_9  (z : mm_S) : Option (Int32 × mm_S) := some (1, z)
noncomputable def sX4_isHole_0 (x1 : Int32) (z : mm_S) : Option (Int32 × mm_S) := (sX4_stuffIs x1 z).bind fun q1 => if q1.1 = 2 then (sX4_isHole_9 q1.2) else some (0, q1.2)
noncomputable def sX4_isHole (x1 : Int32) (z : mm_S) : Option (Int32 × mm_S) := sX4_isHole_0 x1 z
noncomputable def clo_X4_isHole (as : List mm_V) (z : mm_S) (kk : Option mm_V → mm_S → Option mm_R) : Option mm_R := mm_pr as fun t o0 as => bif Nat.beq t 4 then mm_pi as fun a1 as => (match as with | [] => (sX4_isHole a1 z).bind fun q => kk (some (mm_I q.1)) q.2 | _ => none) else none
noncomputable def sX4_findTimes_17 (y1 : Int32) (y2 : Int32) (y3 : Nat) (y4 : Int32) (z : mm_S) : Option ((Int32 × Int32 × Nat × Int32 × mm_S) ⊕ (mm_S)) := some (.inl (y1, y2, y3, (y4 + 1), z))
noncomputable def sX4_findTimes_158 (y2 : Int32) (y3 : Nat) (y5 : Int32) (y6 : Int32) (z : mm_S) : Option ((Int32 × Nat × Int32 × Int32 × Int32 × mm_S) ⊕ ((Int32 × Nat × Int32 × Int32 × mm_S) ⊕ ((Int32 × Nat × Int32 × mm_S) ⊕ (mm_S)))) := some (.inl (y2, y3, 1, y5, (y6 + 1), z))
noncomputable def sX4_findTimes_135 (y2 : Int32) (y3 : Nat) (y4 : Int32) (y5 : Int32) (y6 : Int32) (y7 : Int32) (y8 : Int32) (z : mm_S) : Option ((Int32 × Nat × Int32 × Int32 × Int32 × mm_S) ⊕ ((Int32 × Nat × Int32 × Int32 × mm_S) ⊕ ((Int32 × Nat × Int32 × mm_S) ⊕ (mm_S)))) := if 10000 ≤ y8 then some (.inl (y2, y3, y4, y5, (y6 + 1), z)) else if y7 < 0 ∨ lenM y3 ≤ Int32.toNatClampNeg y7 then none else if (z.1 y3 (Int32.toNatClampNeg y7)) ≤ y8 then some (.inl (y2, y3, y4, y5, (y6 + 1), z)) else if y7 < 0 ∨ lenM y3 ≤ Int32.toNatClampNeg y7 then none else (sX4_findTimes_158 y2 y3 y5 y6 ((mm_ui z.1 y3 (Int32.toNatClampNeg y7) y8), z.2))
noncomputable def sX4_findTimes_104 (y2 : Int32) (y3 : Nat) (y4 : Int32) (y5 : Int32) (y6 : Int32) (y7 : Int32) (z : mm_S) : Option ((Int32 × Nat × Int32 × Int32 × Int32 × mm_S) ⊕ ((Int32 × Nat × Int32 × Int32 × mm_S) ⊕ ((Int32 × Nat × Int32 × mm_S) ⊕ (mm_S)))) := (sX4_findTimes_135 y2 y3 y4 y5 y6 y7 10000 z)
noncomputable def lX4_findTimes_65 (s : Int32 × Nat × Int32 × Int32 × Int32 × mm_S) : Option ((Int32 × Nat × Int32 × Int32 × Int32 × mm_S) ⊕ ((Int32 × Nat × Int32 × Int32 × mm_S) ⊕ ((Int32 × Nat × Int32 × mm_S) ⊕ (mm_S)))) := if 4 ≤ s.2.2.2.2.1 then some (.inr (.inl (s.1, s.2.1, s.2.2.1, (s.2.2.2.1 + 1), s.2.2.2.2.2))) else if s.2.2.2.1 < 0 ∨ lenM s.2.1 ≤ Int32.toNatClampNeg s.2.2.2.1 then none else if 10000 ≤ (s.2.2.2.2.2.1 s.2.1 (Int32.toNatClampNeg s.2.2.2.1)) then some (.inr (.inl (s.1, s.2.1, s.2.2.1, (s.2.2.2.1 + 1), s.2.2.2.2.2))) else if (pX4_beside s.2.2.2.1 s.2.2.2.2.1 s.2.2.2.2.2) < 0 then (sX4_findTimes_104 s.1 s.2.1 s.2.2.1 s.2.2.2.1 s.2.2.2.2.1 (pX4_beside s.2.2.2.1 s.2.2.2.2.1 s.2.2.2.2.2) s.2.2.2.2.2) else (sX4_isHole (pX4_beside s.2.2.2.1 s.2.2.2.2.1 s.2.2.2.2.2) s.2.2.2.2.2).bind fun q2 => if q2.1 = 0 then if s.2.2.2.1 < 0 ∨ lenM s.2.1 ≤ Int32.toNatClampNeg s.2.2.2.1 then none else if s.1 = 0 then (sX4_stuffIs s.2.2.2.1 q2.2).bind fun q3 => let v4 : Int32 := ((q2.2.1 s.2.1 (Int32.toNatClampNeg s.2.2.2.1)) + (pX4_pace q3.1)); (sX4_findTimes_135 s.1 s.2.1 s.2.2.1 s.2.2.2.1 s.2.2.2.2.1 (pX4_beside s.2.2.2.1 s.2.2.2.2.1 s.2.2.2.2.2) v4 q3.2) else (sX4_stuffIs (pX4_beside s.2.2.2.1 s.2.2.2.2.1 s.2.2.2.2.2) q2.2).bind fun q5 => let v6 : Int32 := ((q2.2.1 s.2.1 (Int32.toNatClampNeg s.2.2.2.1)) + (pX4_pace q5.1)); (sX4_findTimes_135 s.1 s.2.1 s.2.2.1 s.2.2.2.1 s.2.2.2.2.1 (pX4_beside s.2.2.2.1 s.2.2.2.2.1 s.2.2.2.2.2) v6 q5.2) else (sX4_findTimes_104 s.1 s.2.1 s.2.2.1 s.2.2.2.1 s.2.2.2.2.1 (pX4_beside s.2.2.2.1 s.2.2.2.2.1 s.2.2.2.2.2) q2.2)
noncomputable def sX4_findTimes_65 (y2 : Int32) (y3 : Nat) (y4 : Int32) (y5 : Int32) (y6 : Int32) (z : mm_S) : Option ((Int32 × Nat × Int32 × Int32 × mm_S) ⊕ ((Int32 × Nat × Int32 × mm_S) ⊕ (mm_S))) := mm_wh (lX4_findTimes_65 ) mm_fu (y2, y3, y4, y5, y6, z)
noncomputable def lX4_findTimes_55 (s : Int32 × Nat × Int32 × Int32 × mm_S) : Option ((Int32 × Nat × Int32 × Int32 × mm_S) ⊕ ((Int32 × Nat × Int32 × mm_S) ⊕ (mm_S))) := if 36 ≤ s.2.2.2.1 then some (.inr (.inl (s.1, s.2.1, s.2.2.1, s.2.2.2.2))) else (sX4_findTimes_65 s.1 s.2.1 s.2.2.1 s.2.2.2.1 0 s.2.2.2.2)
noncomputable def sX4_findTimes_55 (y2 : Int32) (y3 : Nat) (y4 : Int32) (y5 : Int32) (z : mm_S) : Option ((Int32 × Nat × Int32 × mm_S) ⊕ (mm_S)) := mm_wh (lX4_findTimes_55 ) mm_fu (y2, y3, y4, y5, z)
noncomputable def lX4_findTimes_44 (s : Int32 × Nat × Int32 × mm_S) : Option ((Int32 × Nat × Int32 × mm_S) ⊕ (mm_S)) := if s.2.2.1 = 0 then some (.inr (s.2.2.2)) else (sX4_findTimes_55 s.1 s.2.1 0 0 s.2.2.2)
noncomputable def sX4_findTimes_44 (y2 : Int32) (y3 : Nat) (y4 : Int32) (z : mm_S) : Option (mm_S) := mm_wh (lX4_findTimes_44 ) mm_fu (y2, y3, y4, z)
noncomputable def sX4_findTimes_41 (y2 : Int32) (y3 : Nat) (z : mm_S) : Option (mm_S) := (sX4_findTimes_44 y2 y3 1 z)
noncomputable def lX4_findTimes_3 (s : Int32 × Int32 × Nat × Int32 × mm_S) : Option ((Int32 × Int32 × Nat × Int32 × mm_S) ⊕ (mm_S)) := if 36 ≤ s.2.2.2.1 then (sX4_isHole s.1 s.2.2.2.2).bind fun q1 => if q1.1 = 0 then if s.1 < 0 ∨ lenM s.2.2.1 ≤ Int32.toNatClampNeg s.1 then none else ((sX4_findTimes_41 s.2.1 s.2.2.1 ((mm_ui q1.2.1 s.2.2.1 (Int32.toNatClampNeg s.1) 0), q1.2.2)).map fun w => (Sum.inr w)) else if s.1 < 0 ∨ lenM s.2.2.1 ≤ Int32.toNatClampNeg s.1 then none else ((sX4_findTimes_41 s.2.1 s.2.2.1 ((mm_ui q1.2.1 s.2.2.1 (Int32.toNatClampNeg s.1) 10000), q1.2.2)).map fun w => (Sum.inr w)) else if s.2.2.2.1 < 0 ∨ lenM s.2.2.1 ≤ Int32.toNatClampNeg s.2.2.2.1 then none else (sX4_findTimes_17 s.1 s.2.1 s.2.2.1 s.2.2.2.1 ((mm_ui s.2.2.2.2.1 s.2.2.1 (Int32.toNatClampNeg s.2.2.2.1) 10000), s.2.2.2.2.2))
noncomputable def sX4_findTimes_3 (y1 : Int32) (y2 : Int32) (y3 : Nat) (y4 : Int32) (z : mm_S) : Option (mm_S) := mm_wh (lX4_findTimes_3 ) mm_fu (y1, y2, y3, y4, z)
noncomputable def sX4_findTimes_0 (x1 : Int32) (x2 : Int32) (x3 : Nat) (z : mm_S) : Option (mm_S) := (sX4_findTimes_3 x1 x2 x3 0 z)
noncomputable def sX4_findTimes (x1 : Int32) (x2 : Int32) (x3 : Nat) (z : mm_S) : Option (mm_S) := sX4_findTimes_0 x1 x2 x3 z
noncomputable def clo_X4_findTimes (as : List mm_V) (z : mm_S) (kk : Option mm_V → mm_S → Option mm_R) : Option mm_R := mm_pr as fun t o0 as => bif Nat.beq t 4 then mm_pi as fun a1 as => mm_pi as fun a2 as => mm_pr as fun t o3 as => bif Nat.beq t 10 then (match as with | [] => (sX4_findTimes a1 a2 o3 z).bind fun q => kk none q | _ => none) else none else none
noncomputable def sX4_timeOf_10 (y2 : Int32) (z : mm_S) : Option (Int32 × mm_S) := if y2 < 0 ∨ 36 ≤ Int32.toNatClampNeg y2 then none else some ((z.1 5 (Int32.toNatClampNeg y2)), z)
noncomputable def sX4_timeOf_0 (x1 : Int32) (x2 : Int32) (z : mm_S) : Option (Int32 × mm_S) := (sX4_findTimes x1 1 5 z).bind fun q1 => (sX4_timeOf_10 x2 q1)
noncomputable def sX4_timeOf (x1 : Int32) (x2 : Int32) (z : mm_S) : Option (Int32 × mm_S) := sX4_timeOf_0 x1 x2 z
noncomputable def clo_X4_timeOf (as : List mm_V) (z : mm_S) (kk : Option mm_V → mm_S → Option mm_R) : Option mm_R := mm_pr as fun t o0 as => bif Nat.beq t 4 then mm_pi as fun a1 as => mm_pi as fun a2 as => (match as with | [] => (sX4_timeOf a1 a2 z).bind fun q => kk (some (mm_I q.1)) q.2 | _ => none) else none
noncomputable def sX4_told_20 (y1 : Int32) (z : mm_S) : Option (Int32 × mm_S) := some (y1, z)
noncomputable def sX4_told_0 (x1 : Int32) (z : mm_S) : Option (Int32 × mm_S) := if x1 < 0 then (sX4_finding (-1000004) z).bind fun q1 => some (q1.1, q1.2) else if x1 < 10000 then (sX4_told_20 x1 z) else (sX4_finding (-1000004) z).bind fun q2 => some (q2.1, q2.2)
noncomputable def sX4_told (x1 : Int32) (z : mm_S) : Option (Int32 × mm_S) := sX4_told_0 x1 z
noncomputable def clo_X4_told (as : List mm_V) (z : mm_S) (kk : Option mm_V → mm_S → Option mm_R) : Option mm_R := mm_pr as fun t o0 as => bif Nat.beq t 4 then mm_pi as fun a1 as => (match as with | [] => (sX4_told a1 z).bind fun q => kk (some (mm_I q.1)) q.2 | _ => none) else none
noncomputable def lV_X4_time : List (Nat × (List mm_V → mm_S → (Option mm_V → mm_S → Option mm_R) → Option mm_R)) := [(124, clo_X4_finding), (186, clo_X4_timeOf), (189, clo_X4_told)]
noncomputable def mV_X4_time (k : Nat) (as : List mm_V) (z : mm_S) (kk : Option mm_V → mm_S → Option mm_R) : Option mm_R := match mm_at lV_X4_time k with
  | some f => f as z kk
  | none => none
noncomputable def arV_X4_time (k : Nat) : Nat := (mm_at [(124, 2), (186, 3), (189, 2)] k).getD 0
noncomputable def lS_X4_time : List (Nat × (List mm_V → mm_S → (Option mm_V → mm_S → Option mm_R) → Option mm_R)) := [(114, clo_X4_isCell)]
noncomputable def mS_X4_time (k : Nat) (as : List mm_V) (z : mm_S) (kk : Option mm_V → mm_S → Option mm_R) : Option mm_R := match mm_at lS_X4_time k with
  | some f => f as z kk
  | none => none
noncomputable def arS_X4_time (k : Nat) : Nat := (mm_at [(114, 1)] k).getD 0
def ct_X4_time : List (Nat × List Nat) := [(27, [0])]
noncomputable def go_X4_time : Nat → mm_K := mm_go (fun k => mm_at flX4 k) (fun k => mm_at clX4 k) (fun k => mm_at glX4 k) arV_X4_time arS_X4_time mV_X4_time mS_X4_time lenM roM snM 3 0 tbX4_time ct_X4_time
def rm_X4_time : Room := { frames := 4, cells := 0, slots := 0, locals := 95 }
noncomputable def f_X4_time (as : List mm_V) (z : mm_S) (o : mm_R) : Prop := (as.map mm_cat).sum ≤ 3 ∧ ∃ n, go_X4_time n 0 (mm_ar 0 as) [] z = some o
theorem M_X4_time : mm_M lyTM lyFA lenM snM 22 22 17 roM rsA nfA nmA [] yX4_time cX4_time 3 (some .int) rm_X4_time f_X4_time := sorry
noncomputable def sX4_time_27  (z : mm_S) : Option (Int32 × mm_S) := (sX4_finding (-1000001) z).bind fun q3 => some (q3.1, q3.2)
noncomputable def sX4_time_0 (x1 : Int32) (x2 : Int32) (z : mm_S) : Option (Int32 × mm_S) := if (pX4_isCell x1) = 0 then (sX4_time_27 z) else if (pX4_isCell x2) = 0 then (sX4_time_27 z) else (sX4_timeOf x1 x2 z).bind fun q1 => (sX4_told q1.1 q1.2).bind fun q2 => some (q2.1, q2.2)
noncomputable def sX4_time (x1 : Int32) (x2 : Int32) (z : mm_S) : Option (Int32 × mm_S) := sX4_time_0 x1 x2 z
theorem sp_X4_time (x1 : Int32) (x2 : Int32) (z : mm_S) (hk : ∀ v ∈ [mm_P 4 0, mm_I x1, mm_I x2], mm_ok 22 lyTM 22 17 v) (q : Int32 × mm_S) (hq : sX4_time x1 x2 z = some q) : f_X4_time [mm_P 4 0, mm_I x1, mm_I x2] z (some (mm_I q.1), q.2) := sorry
noncomputable def sX4_findHeard_49 (y1 : Int32) (y2 : Nat) (y3 : Int32) (z : mm_S) : Option ((Int32 × Nat × Int32 × mm_S) ⊕ (mm_S)) := some (.inl (y1, y2, (y3 + 1), z))
noncomputable def lX4_findHeard_14 (s : Int32 × Nat × Int32 × mm_S) : Option ((Int32 × Nat × Int32 × mm_S) ⊕ (mm_S)) := if 36 ≤ s.2.2.1 then some (.inr (s.2.2.2)) else if s.2.2.1 < 0 ∨ lenM s.2.1 ≤ Int32.toNatClampNeg s.2.2.1 then none else (sX4_carries s.1 s.2.2.2).bind fun q3 => if (s.2.2.2.1 s.2.1 (Int32.toNatClampNeg s.2.2.1)) ≤ q3.1 then if s.2.2.1 < 0 ∨ lenM s.2.1 ≤ Int32.toNatClampNeg s.2.2.1 then none else (sX4_starts s.1 q3.2).bind fun q4 => if s.2.2.1 < 0 ∨ lenM s.2.1 ≤ Int32.toNatClampNeg s.2.2.1 then none else let u5 : mm_S := ((mm_ui q4.2.1 s.2.1 (Int32.toNatClampNeg s.2.2.1) ((q3.2.1 s.2.1 (Int32.toNatClampNeg s.2.2.1)) + q4.1)), q4.2.2); (sX4_findHeard_49 s.1 s.2.1 s.2.2.1 u5) else if s.2.2.1 < 0 ∨ lenM s.2.1 ≤ Int32.toNatClampNeg s.2.2.1 then none else (sX4_findHeard_49 s.1 s.2.1 s.2.2.1 ((mm_ui q3.2.1 s.2.1 (Int32.toNatClampNeg s.2.2.1) 10000), q3.2.2))
noncomputable def sX4_findHeard_14 (y1 : Int32) (y2 : Nat) (y3 : Int32) (z : mm_S) : Option (mm_S) := mm_wh (lX4_findHeard_14 ) mm_fu (y1, y2, y3, z)
noncomputable def sX4_findHeard_12 (y1 : Int32) (y2 : Nat) (z : mm_S) : Option (mm_S) := (sX4_findHeard_14 y1 y2 0 z)
noncomputable def sX4_findHeard_0 (x1 : Int32) (x2 : Nat) (z : mm_S) : Option (mm_S) := (sX4_crewIs x1 1 z).bind fun q1 => (sX4_findTimes q1.1 1 x2 q1.2).bind fun q2 => (sX4_findHeard_12 x1 x2 q2)
noncomputable def sX4_findHeard (x1 : Int32) (x2 : Nat) (z : mm_S) : Option (mm_S) := sX4_findHeard_0 x1 x2 z
noncomputable def clo_X4_findHeard (as : List mm_V) (z : mm_S) (kk : Option mm_V → mm_S → Option mm_R) : Option mm_R := mm_pr as fun t o0 as => bif Nat.beq t 4 then mm_pi as fun a1 as => mm_pr as fun t o2 as => bif Nat.beq t 10 then (match as with | [] => (sX4_findHeard a1 o2 z).bind fun q => kk none q | _ => none) else none else none
noncomputable def lV_X4_heard : List (Nat × (List mm_V → mm_S → (Option mm_V → mm_S → Option mm_R) → Option mm_R)) := [(124, clo_X4_finding), (146, clo_X4_isCrew), (189, clo_X4_told), (192, clo_X4_findHeard)]
noncomputable def mV_X4_heard (k : Nat) (as : List mm_V) (z : mm_S) (kk : Option mm_V → mm_S → Option mm_R) : Option mm_R := match mm_at lV_X4_heard k with
  | some f => f as z kk
  | none => none
noncomputable def arV_X4_heard (k : Nat) : Nat := (mm_at [(124, 2), (146, 2), (189, 2), (192, 3)] k).getD 0
noncomputable def lS_X4_heard : List (Nat × (List mm_V → mm_S → (Option mm_V → mm_S → Option mm_R) → Option mm_R)) := [(114, clo_X4_isCell)]
noncomputable def mS_X4_heard (k : Nat) (as : List mm_V) (z : mm_S) (kk : Option mm_V → mm_S → Option mm_R) : Option mm_R := match mm_at lS_X4_heard k with
  | some f => f as z kk
  | none => none
noncomputable def arS_X4_heard (k : Nat) : Nat := (mm_at [(114, 1)] k).getD 0
def ct_X4_heard : List (Nat × List Nat) := [(22, [0, 1, 2]), (31, [0, 2])]
noncomputable def go_X4_heard : Nat → mm_K := mm_go (fun k => mm_at flX4 k) (fun k => mm_at clX4 k) (fun k => mm_at glX4 k) arV_X4_heard arS_X4_heard mV_X4_heard mS_X4_heard lenM roM snM 3 0 tbX4_heard ct_X4_heard
def rm_X4_heard : Room := { frames := 4, cells := 0, slots := 0, locals := 96 }
noncomputable def f_X4_heard (as : List mm_V) (z : mm_S) (o : mm_R) : Prop := (as.map mm_cat).sum ≤ 3 ∧ ∃ n, go_X4_heard n 0 (mm_ar 0 as) [] z = some o
theorem M_X4_heard : mm_M lyTM lyFA lenM snM 22 22 17 roM rsA nfA nmA [] yX4_heard cX4_heard 3 (some .int) rm_X4_heard f_X4_heard := sorry
noncomputable def sX4_heard_31 (y2 : Int32) (z : mm_S) : Option (Int32 × mm_S) := if y2 < 0 ∨ 36 ≤ Int32.toNatClampNeg y2 then none else (sX4_told (z.1 7 (Int32.toNatClampNeg y2)) z).bind fun q4 => some (q4.1, q4.2)
noncomputable def sX4_heard_22 (y1 : Int32) (y2 : Int32) (z : mm_S) : Option (Int32 × mm_S) := (sX4_findHeard y1 7 z).bind fun q3 => (sX4_heard_31 y2 q3)
noncomputable def sX4_heard_0 (x1 : Int32) (x2 : Int32) (z : mm_S) : Option (Int32 × mm_S) := if (pX4_isCrew x1 z) = 0 then (sX4_finding (-1000001) z).bind fun q1 => some (q1.1, q1.2) else if (pX4_isCell x2) = 0 then (sX4_finding (-1000001) z).bind fun q2 => some (q2.1, q2.2) else (sX4_heard_22 x1 x2 z)
noncomputable def sX4_heard (x1 : Int32) (x2 : Int32) (z : mm_S) : Option (Int32 × mm_S) := sX4_heard_0 x1 x2 z
theorem sp_X4_heard (x1 : Int32) (x2 : Int32) (z : mm_S) (hk : ∀ v ∈ [mm_P 4 0, mm_I x1, mm_I x2], mm_ok 22 lyTM 22 17 v) (q : Int32 × mm_S) (hq : sX4_heard x1 x2 z = some q) : f_X4_heard [mm_P 4 0, mm_I x1, mm_I x2] z (some (mm_I q.1), q.2) := sorry
noncomputable def lX4_reachOf_14 (s : Int64 × Int32 × mm_S) : Option ((Int64 × Int32 × mm_S) ⊕ (Int64 × mm_S)) := if 36 ≤ s.2.1 then some (.inr (s.1, s.2.2)) else if s.2.1 < 0 ∨ 36 ≤ Int32.toNatClampNeg s.2.1 then none else if 10000 ≤ (s.2.2.1 7 (Int32.toNatClampNeg s.2.1)) then some (.inl ((s.1 ||| 0), (s.2.1 + 1), s.2.2)) else let v2 : Int64 := (s.1 ||| (1 <<< (Int32.toInt64 s.2.1 &&& 63))); some (.inl (v2, (s.2.1 + 1), s.2.2))
noncomputable def sX4_reachOf_14 (y2 : Int64) (y4 : Int32) (z : mm_S) : Option (Int64 × mm_S) := mm_wh (lX4_reachOf_14 ) mm_fu (y2, y4, z)
noncomputable def sX4_reachOf_9  (z : mm_S) : Option (Int64 × mm_S) := (sX4_reachOf_14 0 0 z)
noncomputable def sX4_reachOf_0 (x1 : Int32) (z : mm_S) : Option (Int64 × mm_S) := (sX4_findHeard x1 7 z).bind fun q1 => (sX4_reachOf_9 q1)
noncomputable def sX4_reachOf (x1 : Int32) (z : mm_S) : Option (Int64 × mm_S) := sX4_reachOf_0 x1 z
noncomputable def clo_X4_reachOf (as : List mm_V) (z : mm_S) (kk : Option mm_V → mm_S → Option mm_R) : Option mm_R := mm_pr as fun t o0 as => bif Nat.beq t 4 then mm_pi as fun a1 as => (match as with | [] => (sX4_reachOf a1 z).bind fun q => kk (some (mm_J q.1)) q.2 | _ => none) else none
noncomputable def lV_X4_reach : List (Nat × (List mm_V → mm_S → (Option mm_V → mm_S → Option mm_R) → Option mm_R)) := [(124, clo_X4_finding), (146, clo_X4_isCrew), (196, clo_X4_reachOf)]
noncomputable def mV_X4_reach (k : Nat) (as : List mm_V) (z : mm_S) (kk : Option mm_V → mm_S → Option mm_R) : Option mm_R := match mm_at lV_X4_reach k with
  | some f => f as z kk
  | none => none
noncomputable def arV_X4_reach (k : Nat) : Nat := (mm_at [(124, 2), (146, 2), (196, 2)] k).getD 0
noncomputable def lS_X4_reach : List (Nat × (List mm_V → mm_S → (Option mm_V → mm_S → Option mm_R) → Option mm_R)) := []
noncomputable def mS_X4_reach (k : Nat) (as : List mm_V) (z : mm_S) (kk : Option mm_V → mm_S → Option mm_R) : Option mm_R := match mm_at lS_X4_reach k with
  | some f => f as z kk
  | none => none
noncomputable def arS_X4_reach (k : Nat) : Nat := (mm_at [] k).getD 0
def ct_X4_reach : List (Nat × List Nat) := [(16, [0])]
noncomputable def go_X4_reach : Nat → mm_K := mm_go (fun k => mm_at flX4 k) (fun k => mm_at clX4 k) (fun k => mm_at glX4 k) arV_X4_reach arS_X4_reach mV_X4_reach mS_X4_reach lenM roM snM 2 2 tbX4_reach ct_X4_reach
def rm_X4_reach : Room := { frames := 5, cells := 0, slots := 0, locals := 120 }
noncomputable def f_X4_reach (as : List mm_V) (z : mm_S) (o : mm_R) : Prop := (as.map mm_cat).sum ≤ 2 ∧ ∃ n, go_X4_reach n 0 (mm_ar 0 as) [] z = some o
theorem M_X4_reach : mm_M lyTM lyFA lenM snM 22 22 17 roM rsA nfA nmA [] yX4_reach cX4_reach 2 (some .long) rm_X4_reach f_X4_reach := sorry
noncomputable def sX4_reach_16  (z : mm_S) : Option (Int64 × mm_S) := (sX4_finding (-1000001) z).bind fun q2 => some ((Int32.toInt64 q2.1), q2.2)
noncomputable def sX4_reach_0 (x1 : Int32) (z : mm_S) : Option (Int64 × mm_S) := if (pX4_isCrew x1 z) = 0 then (sX4_reach_16 z) else (sX4_reachOf x1 z).bind fun q1 => some (q1.1, q1.2)
noncomputable def sX4_reach (x1 : Int32) (z : mm_S) : Option (Int64 × mm_S) := sX4_reach_0 x1 z
theorem sp_X4_reach (x1 : Int32) (z : mm_S) (hk : ∀ v ∈ [mm_P 4 0, mm_I x1], mm_ok 22 lyTM 22 17 v) (q : Int64 × mm_S) (hq : sX4_reach x1 z = some q) : f_X4_reach [mm_P 4 0, mm_I x1] z (some (mm_J q.1), q.2) := sorry
noncomputable def sX4_doesHear_28  (z : mm_S) : Option (Int32 × mm_S) := some (1, z)
noncomputable def sX4_doesHear_9 (y1 : Int32) (z : mm_S) : Option (Int32 × mm_S) := (sX4_crewIs y1 1 z).bind fun q2 => if q2.1 < 0 ∨ 36 ≤ Int32.toNatClampNeg q2.1 then none else (sX4_hearsBy y1 q2.2).bind fun q3 => if q3.1 < (q2.2.1 7 (Int32.toNatClampNeg q2.1)) then some (0, q3.2) else (sX4_doesHear_28 q3.2)
noncomputable def sX4_doesHear_0 (x1 : Int32) (x2 : Int32) (z : mm_S) : Option (Int32 × mm_S) := (sX4_findHeard x2 7 z).bind fun q1 => (sX4_doesHear_9 x1 q1)
noncomputable def sX4_doesHear (x1 : Int32) (x2 : Int32) (z : mm_S) : Option (Int32 × mm_S) := sX4_doesHear_0 x1 x2 z
noncomputable def clo_X4_doesHear (as : List mm_V) (z : mm_S) (kk : Option mm_V → mm_S → Option mm_R) : Option mm_R := mm_pr as fun t o0 as => bif Nat.beq t 4 then mm_pi as fun a1 as => mm_pi as fun a2 as => (match as with | [] => (sX4_doesHear a1 a2 z).bind fun q => kk (some (mm_I q.1)) q.2 | _ => none) else none
noncomputable def lV_X4_hears : List (Nat × (List mm_V → mm_S → (Option mm_V → mm_S → Option mm_R) → Option mm_R)) := [(124, clo_X4_finding), (146, clo_X4_isCrew), (199, clo_X4_doesHear)]
noncomputable def mV_X4_hears (k : Nat) (as : List mm_V) (z : mm_S) (kk : Option mm_V → mm_S → Option mm_R) : Option mm_R := match mm_at lV_X4_hears k with
  | some f => f as z kk
  | none => none
noncomputable def arV_X4_hears (k : Nat) : Nat := (mm_at [(124, 2), (146, 2), (199, 3)] k).getD 0
noncomputable def lS_X4_hears : List (Nat × (List mm_V → mm_S → (Option mm_V → mm_S → Option mm_R) → Option mm_R)) := []
noncomputable def mS_X4_hears (k : Nat) (as : List mm_V) (z : mm_S) (kk : Option mm_V → mm_S → Option mm_R) : Option mm_R := match mm_at lS_X4_hears k with
  | some f => f as z kk
  | none => none
noncomputable def arS_X4_hears (k : Nat) : Nat := (mm_at [] k).getD 0
def ct_X4_hears : List (Nat × List Nat) := [(15, [0, 1]), (19, [0, 1, 2, 3]), (53, [0, 1, 2, 3])]
noncomputable def go_X4_hears : Nat → mm_K := mm_go (fun k => mm_at flX4 k) (fun k => mm_at clX4 k) (fun k => mm_at glX4 k) arV_X4_hears arS_X4_hears mV_X4_hears mS_X4_hears lenM roM snM 4 0 tbX4_hears ct_X4_hears
def rm_X4_hears : Room := { frames := 5, cells := 0, slots := 0, locals := 118 }
noncomputable def f_X4_hears (as : List mm_V) (z : mm_S) (o : mm_R) : Prop := (as.map mm_cat).sum ≤ 4 ∧ ∃ n, go_X4_hears n 0 (mm_ar 0 as) [] z = some o
theorem M_X4_hears : mm_M lyTM lyFA lenM snM 22 22 17 roM rsA nfA nmA [] yX4_hears cX4_hears 4 (some .int) rm_X4_hears f_X4_hears := sorry
noncomputable def sX4_hears_53 (y1 : Int32) (y2 : Int32) (y3 : Int32) (z : mm_S) : Option ((Int32 × Int32 × Int32 × mm_S) ⊕ (Int32 × mm_S)) := some (.inl (y1, y2, (y3 + 1), z))
noncomputable def lX4_hears_19 (s : Int32 × Int32 × Int32 × mm_S) : Option ((Int32 × Int32 × Int32 × mm_S) ⊕ (Int32 × mm_S)) := if (s.2.2.2.1 1 1) ≤ s.2.2.1 then some (.inr (s.2.1, s.2.2.2)) else if s.2.2.1 = s.1 then (sX4_hears_53 s.1 (s.2.1 ||| 0) s.2.2.1 s.2.2.2) else (sX4_doesHear s.1 s.2.2.1 s.2.2.2).bind fun q2 => if q2.1 = 0 then (sX4_hears_53 s.1 (s.2.1 ||| 0) s.2.2.1 q2.2) else (sX4_hears_53 s.1 (s.2.1 ||| (1 <<< (s.2.2.1 &&& 31))) s.2.2.1 q2.2)
noncomputable def sX4_hears_19 (y1 : Int32) (y2 : Int32) (y3 : Int32) (z : mm_S) : Option (Int32 × mm_S) := mm_wh (lX4_hears_19 ) mm_fu (y1, y2, y3, z)
noncomputable def sX4_hears_15 (y1 : Int32) (z : mm_S) : Option (Int32 × mm_S) := (sX4_hears_19 y1 0 0 z)
noncomputable def sX4_hears_0 (x1 : Int32) (z : mm_S) : Option (Int32 × mm_S) := if (pX4_isCrew x1 z) = 0 then (sX4_finding (-1000001) z).bind fun q1 => some (q1.1, q1.2) else (sX4_hears_15 x1 z)
noncomputable def sX4_hears (x1 : Int32) (z : mm_S) : Option (Int32 × mm_S) := sX4_hears_0 x1 z
theorem sp_X4_hears (x1 : Int32) (z : mm_S) (hk : ∀ v ∈ [mm_P 4 0, mm_I x1], mm_ok 22 lyTM 22 17 v) (q : Int32 × mm_S) (hq : sX4_hears x1 z = some q) : f_X4_hears [mm_P 4 0, mm_I x1] z (some (mm_I q.1), q.2) := sorry
noncomputable def sX4_echoOf_67  (z : mm_S) : Option (Int32 × mm_S) := some (10000, z)
noncomputable def lX4_echoOf_7 (s : Int32 × Int32 × Int32 × Int32 × mm_S) : Option ((Int32 × Int32 × Int32 × Int32 × mm_S) ⊕ (Int32 × mm_S)) := if 4 ≤ s.2.2.2.1 then (sX4_carries s.1 s.2.2.2.2).bind fun q1 => if (s.2.2.1 + 1) ≤ q1.1 then (sX4_starts s.1 q1.2).bind fun q2 => some (.inr (((s.2.2.1 + 1) + q2.1), q2.2)) else ((sX4_echoOf_67 q1.2).map fun w => (Sum.inr w)) else if 0 ≤ (pX4_beside s.2.1 s.2.2.2.1 s.2.2.2.2) then if (pX4_beside s.2.1 s.2.2.2.1 s.2.2.2.2) < 0 ∨ 36 ≤ Int32.toNatClampNeg (pX4_beside s.2.1 s.2.2.2.1 s.2.2.2.2) then none else if (pX4_beside s.2.1 s.2.2.2.1 s.2.2.2.2) < 0 ∨ 36 ≤ Int32.toNatClampNeg (pX4_beside s.2.1 s.2.2.2.1 s.2.2.2.2) then none else let v3 : Int32 := (mm_min s.2.2.1 ((s.2.2.2.2.1 5 (Int32.toNatClampNeg (pX4_beside s.2.1 s.2.2.2.1 s.2.2.2.2))) + (s.2.2.2.2.1 6 (Int32.toNatClampNeg (pX4_beside s.2.1 s.2.2.2.1 s.2.2.2.2))))); some (.inl (s.1, s.2.1, v3, (s.2.2.2.1 + 1), s.2.2.2.2)) else some (.inl (s.1, s.2.1, s.2.2.1, (s.2.2.2.1 + 1), s.2.2.2.2))
noncomputable def sX4_echoOf_7 (y1 : Int32) (y2 : Int32) (y3 : Int32) (y4 : Int32) (z : mm_S) : Option (Int32 × mm_S) := mm_wh (lX4_echoOf_7 ) mm_fu (y1, y2, y3, y4, z)
noncomputable def sX4_echoOf_0 (x1 : Int32) (x2 : Int32) (z : mm_S) : Option (Int32 × mm_S) := (sX4_echoOf_7 x1 x2 10000 0 z)
noncomputable def sX4_echoOf (x1 : Int32) (x2 : Int32) (z : mm_S) : Option (Int32 × mm_S) := sX4_echoOf_0 x1 x2 z
noncomputable def clo_X4_echoOf (as : List mm_V) (z : mm_S) (kk : Option mm_V → mm_S → Option mm_R) : Option mm_R := mm_pr as fun t o0 as => bif Nat.beq t 4 then mm_pi as fun a1 as => mm_pi as fun a2 as => (match as with | [] => (sX4_echoOf a1 a2 z).bind fun q => kk (some (mm_I q.1)) q.2 | _ => none) else none
noncomputable def sX4_findBoth_25  (z : mm_S) : Option (mm_S) := some (z)
noncomputable def sX4_findBoth_15 (y2 : Int32) (z : mm_S) : Option (mm_S) := (sX4_findTimes y2 0 6 z).bind fun q3 => (sX4_findBoth_25 q3)
noncomputable def sX4_findBoth_0 (x1 : Int32) (x2 : Int32) (z : mm_S) : Option (mm_S) := (sX4_crewIs x1 1 z).bind fun q1 => (sX4_findTimes q1.1 1 5 q1.2).bind fun q2 => (sX4_findBoth_15 x2 q2)
noncomputable def sX4_findBoth (x1 : Int32) (x2 : Int32) (z : mm_S) : Option (mm_S) := sX4_findBoth_0 x1 x2 z
noncomputable def clo_X4_findBoth (as : List mm_V) (z : mm_S) (kk : Option mm_V → mm_S → Option mm_R) : Option mm_R := mm_pr as fun t o0 as => bif Nat.beq t 4 then mm_pi as fun a1 as => mm_pi as fun a2 as => (match as with | [] => (sX4_findBoth a1 a2 z).bind fun q => kk none q | _ => none) else none
noncomputable def lV_X4_echo : List (Nat × (List mm_V → mm_S → (Option mm_V → mm_S → Option mm_R) → Option mm_R)) := [(124, clo_X4_finding), (146, clo_X4_isCrew), (172, clo_X4_isHole), (189, clo_X4_told), (207, clo_X4_findBoth), (211, clo_X4_echoOf)]
noncomputable def mV_X4_echo (k : Nat) (as : List mm_V) (z : mm_S) (kk : Option mm_V → mm_S → Option mm_R) : Option mm_R := match mm_at lV_X4_echo k with
  | some f => f as z kk
  | none => none
noncomputable def arV_X4_echo (k : Nat) : Nat := (mm_at [(124, 2), (146, 2), (172, 2), (189, 2), (207, 3), (211, 3)] k).getD 0
noncomputable def lS_X4_echo : List (Nat × (List mm_V → mm_S → (Option mm_V → mm_S → Option mm_R) → Option mm_R)) := [(114, clo_X4_isCell)]
noncomputable def mS_X4_echo (k : Nat) (as : List mm_V) (z : mm_S) (kk : Option mm_V → mm_S → Option mm_R) : Option mm_R := match mm_at lS_X4_echo k with
  | some f => f as z kk
  | none => none
noncomputable def arS_X4_echo (k : Nat) : Nat := (mm_at [(114, 1)] k).getD 0
def ct_X4_echo : List (Nat × List Nat) := [(29, [0, 1, 2, 3]), (37, [0]), (44, [0, 1, 2, 3]), (50, [0, 1, 3])]
noncomputable def go_X4_echo : Nat → mm_K := mm_go (fun k => mm_at flX4 k) (fun k => mm_at clX4 k) (fun k => mm_at glX4 k) arV_X4_echo arS_X4_echo mV_X4_echo mS_X4_echo lenM roM snM 4 0 tbX4_echo ct_X4_echo
def rm_X4_echo : Room := { frames := 4, cells := 0, slots := 0, locals := 95 }
noncomputable def f_X4_echo (as : List mm_V) (z : mm_S) (o : mm_R) : Prop := (as.map mm_cat).sum ≤ 4 ∧ ∃ n, go_X4_echo n 0 (mm_ar 0 as) [] z = some o
theorem M_X4_echo : mm_M lyTM lyFA lenM snM 22 22 17 roM rsA nfA nmA [] yX4_echo cX4_echo 4 (some .int) rm_X4_echo f_X4_echo := sorry
noncomputable def sX4_echo_37  (z : mm_S) : Option (Int32 × mm_S) := (sX4_finding (-1000005) z).bind fun q6 => some (q6.1, q6.2)
noncomputable def sX4_echo_50 (y1 : Int32) (y3 : Int32) (z : mm_S) : Option (Int32 × mm_S) := (sX4_echoOf y1 y3 z).bind fun q7 => (sX4_told q7.1 q7.2).bind fun q8 => some (q8.1, q8.2)
noncomputable def sX4_echo_44 (y1 : Int32) (y2 : Int32) (y3 : Int32) (z : mm_S) : Option (Int32 × mm_S) := (sX4_findBoth y1 y2 z).bind fun q5 => (sX4_echo_50 y1 y3 q5)
noncomputable def sX4_echo_29 (y1 : Int32) (y2 : Int32) (y3 : Int32) (z : mm_S) : Option (Int32 × mm_S) := (sX4_isHole y3 z).bind fun q4 => if q4.1 = 0 then (sX4_echo_37 q4.2) else (sX4_echo_44 y1 y2 y3 q4.2)
noncomputable def sX4_echo_0 (x1 : Int32) (x2 : Int32) (x3 : Int32) (z : mm_S) : Option (Int32 × mm_S) := if (pX4_isCrew x1 z) = 0 then (sX4_finding (-1000001) z).bind fun q1 => some (q1.1, q1.2) else if (pX4_isCell x2) = 0 then (sX4_finding (-1000001) z).bind fun q2 => some (q2.1, q2.2) else if (pX4_isCell x3) = 0 then (sX4_finding (-1000001) z).bind fun q3 => some (q3.1, q3.2) else (sX4_echo_29 x1 x2 x3 z)
noncomputable def sX4_echo (x1 : Int32) (x2 : Int32) (x3 : Int32) (z : mm_S) : Option (Int32 × mm_S) := sX4_echo_0 x1 x2 x3 z
theorem sp_X4_echo (x1 : Int32) (x2 : Int32) (x3 : Int32) (z : mm_S) (hk : ∀ v ∈ [mm_P 4 0, mm_I x1, mm_I x2, mm_I x3], mm_ok 22 lyTM 22 17 v) (q : Int32 × mm_S) (hq : sX4_echo x1 x2 x3 z = some q) : f_X4_echo [mm_P 4 0, mm_I x1, mm_I x2, mm_I x3] z (some (mm_I q.1), q.2) := sorry
noncomputable def lV_X4_chord : List (Nat × (List mm_V → mm_S → (Option mm_V → mm_S → Option mm_R) → Option mm_R)) := [(124, clo_X4_finding), (146, clo_X4_isCrew), (172, clo_X4_isHole), (189, clo_X4_told), (207, clo_X4_findBoth), (211, clo_X4_echoOf)]
noncomputable def mV_X4_chord (k : Nat) (as : List mm_V) (z : mm_S) (kk : Option mm_V → mm_S → Option mm_R) : Option mm_R := match mm_at lV_X4_chord k with
  | some f => f as z kk
  | none => none
noncomputable def arV_X4_chord (k : Nat) : Nat := (mm_at [(124, 2), (146, 2), (172, 2), (189, 2), (207, 3), (211, 3)] k).getD 0
noncomputable def lS_X4_chord : List (Nat × (List mm_V → mm_S → (Option mm_V → mm_S → Option mm_R) → Option mm_R)) := [(106, clo_X4_within), (114, clo_X4_isCell), (202, mm_mn)]
noncomputable def mS_X4_chord (k : Nat) (as : List mm_V) (z : mm_S) (kk : Option mm_V → mm_S → Option mm_R) : Option mm_R := match mm_at lS_X4_chord k with
  | some f => f as z kk
  | none => none
noncomputable def arS_X4_chord (k : Nat) : Nat := (mm_at [(106, 3), (114, 1), (202, 2)] k).getD 0
def ct_X4_chord : List (Nat × List Nat) := [(32, [0, 1, 2, 3]), (38, [0, 1, 3]), (44, [0, 1, 3, 4, 5]), (66, [0, 1, 3, 4, 5, 6, 7]), (82, [0, 1, 3, 4, 5, 6, 7]), (92, [0, 1, 3, 4, 5, 6, 7])]
noncomputable def go_X4_chord : Nat → mm_K := mm_go (fun k => mm_at flX4 k) (fun k => mm_at clX4 k) (fun k => mm_at glX4 k) arV_X4_chord arS_X4_chord mV_X4_chord mS_X4_chord lenM roM snM 9 0 tbX4_chord ct_X4_chord
def rm_X4_chord : Room := { frames := 4, cells := 0, slots := 0, locals := 95 }
noncomputable def f_X4_chord (as : List mm_V) (z : mm_S) (o : mm_R) : Prop := (as.map mm_cat).sum ≤ 9 ∧ ∃ n, go_X4_chord n 0 (mm_ar 0 as) [] z = some o
theorem M_X4_chord : mm_M lyTM lyFA lenM snM 22 22 17 roM rsA nfA nmA [] yX4_chord cX4_chord 9 (some .int) rm_X4_chord f_X4_chord := sorry
noncomputable def sX4_chord_82 (y1 : Int32) (y3 : Int32) (y4 : Int32) (y5 : Int32) (y6 : Int32) (y7 : Int32) (z : mm_S) : Option ((Int32 × Int32 × Int32 × Int32 × Int32 × Int32 × mm_S) ⊕ ((Int32 × Int32 × Int32 × Int32 × mm_S) ⊕ (Int32 × mm_S))) := (sX4_echoOf y1 y7 z).bind fun q8 => if q8.1 ≤ y4 then some (.inl (y1, y3, y4, y5, y6, (y7 + 1), q8.2)) else some (.inl (y1, y3, y4, y5, (mm_min y6 q8.1), (y7 + 1), q8.2))
noncomputable def sX4_chord_92 (y1 : Int32) (y3 : Int32) (y4 : Int32) (y5 : Int32) (y6 : Int32) (y7 : Int32) (z : mm_S) : Option ((Int32 × Int32 × Int32 × Int32 × Int32 × Int32 × mm_S) ⊕ ((Int32 × Int32 × Int32 × Int32 × mm_S) ⊕ (Int32 × mm_S))) := if 10000 ≤ y4 then some (.inl (y1, y3, y4, y5, y6, (y7 + 1), z)) else some (.inl (y1, y3, y4, y5, (mm_min y6 10000), (y7 + 1), z))
noncomputable def lX4_chord_66 (s : Int32 × Int32 × Int32 × Int32 × Int32 × Int32 × mm_S) : Option ((Int32 × Int32 × Int32 × Int32 × Int32 × Int32 × mm_S) ⊕ ((Int32 × Int32 × Int32 × Int32 × mm_S) ⊕ (Int32 × mm_S))) := if 36 ≤ s.2.2.2.2.2.1 then some (.inr (.inl (s.1, s.2.1, s.2.2.2.2.1, (s.2.2.2.1 + 1), s.2.2.2.2.2.2))) else (sX4_isHole s.2.2.2.2.2.1 s.2.2.2.2.2.2).bind fun q7 => if q7.1 = 0 then (sX4_chord_92 s.1 s.2.1 s.2.2.1 s.2.2.2.1 s.2.2.2.2.1 s.2.2.2.2.2.1 q7.2) else (sX4_chord_82 s.1 s.2.1 s.2.2.1 s.2.2.2.1 s.2.2.2.2.1 s.2.2.2.2.2.1 q7.2)
noncomputable def sX4_chord_66 (y1 : Int32) (y3 : Int32) (y4 : Int32) (y5 : Int32) (y6 : Int32) (y7 : Int32) (z : mm_S) : Option ((Int32 × Int32 × Int32 × Int32 × mm_S) ⊕ (Int32 × mm_S)) := mm_wh (lX4_chord_66 ) mm_fu (y1, y3, y4, y5, y6, y7, z)
noncomputable def lX4_chord_44 (s : Int32 × Int32 × Int32 × Int32 × mm_S) : Option ((Int32 × Int32 × Int32 × Int32 × mm_S) ⊕ (Int32 × mm_S)) := if s.2.1 < s.2.2.2.1 then (sX4_told s.2.2.1 s.2.2.2.2).bind fun q5 => some (.inr (q5.1, q5.2)) else if 10000 ≤ s.2.2.1 then (sX4_told s.2.2.1 s.2.2.2.2).bind fun q6 => some (.inr (q6.1, q6.2)) else (sX4_chord_66 s.1 s.2.1 s.2.2.1 s.2.2.2.1 10000 0 s.2.2.2.2)
noncomputable def sX4_chord_44 (y1 : Int32) (y3 : Int32) (y4 : Int32) (y5 : Int32) (z : mm_S) : Option (Int32 × mm_S) := mm_wh (lX4_chord_44 ) mm_fu (y1, y3, y4, y5, z)
noncomputable def sX4_chord_38 (y1 : Int32) (y3 : Int32) (z : mm_S) : Option (Int32 × mm_S) := (sX4_chord_44 y1 y3 (-1) 0 z)
noncomputable def sX4_chord_32 (y1 : Int32) (y2 : Int32) (y3 : Int32) (z : mm_S) : Option (Int32 × mm_S) := (sX4_findBoth y1 y2 z).bind fun q4 => (sX4_chord_38 y1 y3 q4)
noncomputable def sX4_chord_0 (x1 : Int32) (x2 : Int32) (x3 : Int32) (z : mm_S) : Option (Int32 × mm_S) := if (pX4_isCrew x1 z) = 0 then (sX4_finding (-1000001) z).bind fun q1 => some (q1.1, q1.2) else if (pX4_isCell x2) = 0 then (sX4_finding (-1000001) z).bind fun q2 => some (q2.1, q2.2) else if (pX4_within x3 0 35) = 0 then (sX4_finding (-1000001) z).bind fun q3 => some (q3.1, q3.2) else (sX4_chord_32 x1 x2 x3 z)
noncomputable def sX4_chord (x1 : Int32) (x2 : Int32) (x3 : Int32) (z : mm_S) : Option (Int32 × mm_S) := sX4_chord_0 x1 x2 x3 z
theorem sp_X4_chord (x1 : Int32) (x2 : Int32) (x3 : Int32) (z : mm_S) (hk : ∀ v ∈ [mm_P 4 0, mm_I x1, mm_I x2, mm_I x3], mm_ok 22 lyTM 22 17 v) (q : Int32 × mm_S) (hq : sX4_chord x1 x2 x3 z = some q) : f_X4_chord [mm_P 4 0, mm_I x1, mm_I x2, mm_I x3] z (some (mm_I q.1), q.2) := sorry
noncomputable def lV_X4_last : List (Nat × (List mm_V → mm_S → (Option mm_V → mm_S → Option mm_R) → Option mm_R)) := [(124, clo_X4_finding), (139, clo_X4_crewIs), (146, clo_X4_isCrew), (149, clo_X4_carries), (158, clo_X4_stuffIs), (181, clo_X4_findTimes)]
noncomputable def mV_X4_last (k : Nat) (as : List mm_V) (z : mm_S) (kk : Option mm_V → mm_S → Option mm_R) : Option mm_R := match mm_at lV_X4_last k with
  | some f => f as z kk
  | none => none
noncomputable def arV_X4_last (k : Nat) : Nat := (mm_at [(124, 2), (139, 3), (146, 2), (149, 2), (158, 2), (181, 4)] k).getD 0
noncomputable def lS_X4_last : List (Nat × (List mm_V → mm_S → (Option mm_V → mm_S → Option mm_R) → Option mm_R)) := [(114, clo_X4_isCell), (175, clo_X4_beside), (178, clo_X4_pace), (202, mm_mn)]
noncomputable def mS_X4_last (k : Nat) (as : List mm_V) (z : mm_S) (kk : Option mm_V → mm_S → Option mm_R) : Option mm_R := match mm_at lS_X4_last k with
  | some f => f as z kk
  | none => none
noncomputable def arS_X4_last (k : Nat) : Nat := (mm_at [(114, 1), (175, 2), (178, 1), (202, 2)] k).getD 0
def ct_X4_last : List (Nat × List Nat) := [(22, [0, 1, 2]), (37, [0, 1, 2]), (51, [0]), (58, [0, 1, 2]), (68, [0]), (75, [0, 2]), (81, [0, 2, 3, 4]), (125, [0, 2, 3, 4, 5])]
noncomputable def go_X4_last : Nat → mm_K := mm_go (fun k => mm_at flX4 k) (fun k => mm_at clX4 k) (fun k => mm_at glX4 k) arV_X4_last arS_X4_last mV_X4_last mS_X4_last lenM roM snM 7 0 tbX4_last ct_X4_last
def rm_X4_last : Room := { frames := 3, cells := 0, slots := 0, locals := 73 }
noncomputable def f_X4_last (as : List mm_V) (z : mm_S) (o : mm_R) : Prop := (as.map mm_cat).sum ≤ 7 ∧ ∃ n, go_X4_last n 0 (mm_ar 0 as) [] z = some o
theorem M_X4_last : mm_M lyTM lyFA lenM snM 22 22 17 roM rsA nfA nmA [] yX4_last cX4_last 7 (some .int) rm_X4_last f_X4_last := sorry
noncomputable def sX4_last_51  (z : mm_S) : Option (Int32 × mm_S) := (sX4_finding (-1000004) z).bind fun q7 => some (q7.1, q7.2)
noncomputable def sX4_last_68  (z : mm_S) : Option (Int32 × mm_S) := (sX4_finding (-1000005) z).bind fun q8 => some (q8.1, q8.2)
noncomputable def sX4_last_125 (y2 : Int32) (y3 : Int32) (y4 : Int32) (y5 : Int32) (z : mm_S) : Option ((Int32 × Int32 × Int32 × mm_S) ⊕ (Int32 × mm_S)) := some (.inl (y2, (mm_min y3 y5), (y4 + 1), z))
noncomputable def lX4_last_81 (s : Int32 × Int32 × Int32 × mm_S) : Option ((Int32 × Int32 × Int32 × mm_S) ⊕ (Int32 × mm_S)) := if 4 ≤ s.2.2.1 then some (.inr (s.2.1, s.2.2.2)) else if (pX4_beside s.1 s.2.2.1 s.2.2.2) < 0 then some (.inl (s.1, s.2.1, (s.2.2.1 + 1), s.2.2.2)) else if (pX4_beside s.1 s.2.2.1 s.2.2.2) < 0 ∨ 36 ≤ Int32.toNatClampNeg (pX4_beside s.1 s.2.2.1 s.2.2.2) then none else (sX4_stuffIs s.1 s.2.2.2).bind fun q9 => if s.1 < 0 ∨ 36 ≤ Int32.toNatClampNeg s.1 then none else if ((s.2.2.2.1 5 (Int32.toNatClampNeg (pX4_beside s.1 s.2.2.1 s.2.2.2))) + (pX4_pace q9.1)) = (q9.2.1 5 (Int32.toNatClampNeg s.1)) then (sX4_last_125 s.1 s.2.1 s.2.2.1 (pX4_beside s.1 s.2.2.1 s.2.2.2) q9.2) else some (.inl (s.1, s.2.1, (s.2.2.1 + 1), q9.2))
noncomputable def sX4_last_81 (y2 : Int32) (y3 : Int32) (y4 : Int32) (z : mm_S) : Option (Int32 × mm_S) := mm_wh (lX4_last_81 ) mm_fu (y2, y3, y4, z)
noncomputable def sX4_last_75 (y2 : Int32) (z : mm_S) : Option (Int32 × mm_S) := (sX4_last_81 y2 36 0 z)
noncomputable def sX4_last_58 (y1 : Int32) (y2 : Int32) (z : mm_S) : Option (Int32 × mm_S) := (sX4_crewIs y1 1 z).bind fun q6 => if y2 = q6.1 then (sX4_last_68 q6.2) else (sX4_last_75 y2 q6.2)
noncomputable def sX4_last_37 (y1 : Int32) (y2 : Int32) (z : mm_S) : Option (Int32 × mm_S) := if y2 < 0 ∨ 36 ≤ Int32.toNatClampNeg y2 then none else (sX4_carries y1 z).bind fun q5 => if (z.1 5 (Int32.toNatClampNeg y2)) ≤ q5.1 then (sX4_last_58 y1 y2 q5.2) else (sX4_last_51 q5.2)
noncomputable def sX4_last_22 (y1 : Int32) (y2 : Int32) (z : mm_S) : Option (Int32 × mm_S) := (sX4_crewIs y1 1 z).bind fun q3 => (sX4_findTimes q3.1 1 5 q3.2).bind fun q4 => (sX4_last_37 y1 y2 q4)
noncomputable def sX4_last_0 (x1 : Int32) (x2 : Int32) (z : mm_S) : Option (Int32 × mm_S) := if (pX4_isCrew x1 z) = 0 then (sX4_finding (-1000001) z).bind fun q1 => some (q1.1, q1.2) else if (pX4_isCell x2) = 0 then (sX4_finding (-1000001) z).bind fun q2 => some (q2.1, q2.2) else (sX4_last_22 x1 x2 z)
noncomputable def sX4_last (x1 : Int32) (x2 : Int32) (z : mm_S) : Option (Int32 × mm_S) := sX4_last_0 x1 x2 z
theorem sp_X4_last (x1 : Int32) (x2 : Int32) (z : mm_S) (hk : ∀ v ∈ [mm_P 4 0, mm_I x1, mm_I x2], mm_ok 22 lyTM 22 17 v) (q : Int32 × mm_S) (hq : sX4_last x1 x2 z = some q) : f_X4_last [mm_P 4 0, mm_I x1, mm_I x2] z (some (mm_I q.1), q.2) := sorry
noncomputable def lV_X4_many : List (Nat × (List mm_V → mm_S → (Option mm_V → mm_S → Option mm_R) → Option mm_R)) := [(124, clo_X4_finding), (196, clo_X4_reachOf)]
noncomputable def mV_X4_many (k : Nat) (as : List mm_V) (z : mm_S) (kk : Option mm_V → mm_S → Option mm_R) : Option mm_R := match mm_at lV_X4_many k with
  | some f => f as z kk
  | none => none
noncomputable def arV_X4_many (k : Nat) : Nat := (mm_at [(124, 2), (196, 2)] k).getD 0
noncomputable def lS_X4_many : List (Nat × (List mm_V → mm_S → (Option mm_V → mm_S → Option mm_R) → Option mm_R)) := [(114, clo_X4_isCell)]
noncomputable def mS_X4_many (k : Nat) (as : List mm_V) (z : mm_S) (kk : Option mm_V → mm_S → Option mm_R) : Option mm_R := match mm_at lS_X4_many k with
  | some f => f as z kk
  | none => none
noncomputable def arS_X4_many (k : Nat) : Nat := (mm_at [(114, 1)] k).getD 0
def ct_X4_many : List (Nat × List Nat) := [(14, [0, 1]), (18, [0, 1, 2, 3]), (50, [0, 1, 2, 3])]
noncomputable def go_X4_many : Nat → mm_K := mm_go (fun k => mm_at flX4 k) (fun k => mm_at clX4 k) (fun k => mm_at glX4 k) arV_X4_many arS_X4_many mV_X4_many mS_X4_many lenM roM snM 4 0 tbX4_many ct_X4_many
def rm_X4_many : Room := { frames := 5, cells := 0, slots := 0, locals := 120 }
noncomputable def f_X4_many (as : List mm_V) (z : mm_S) (o : mm_R) : Prop := (as.map mm_cat).sum ≤ 4 ∧ ∃ n, go_X4_many n 0 (mm_ar 0 as) [] z = some o
theorem M_X4_many : mm_M lyTM lyFA lenM snM 22 22 17 roM rsA nfA nmA [] yX4_many cX4_many 4 (some .int) rm_X4_many f_X4_many := sorry
noncomputable def sX4_many_50 (y1 : Int32) (y2 : Int32) (y3 : Int32) (z : mm_S) : Option ((Int32 × Int32 × Int32 × mm_S) ⊕ (Int32 × mm_S)) := some (.inl (y1, y2, (y3 + 1), z))
noncomputable def lX4_many_18 (s : Int32 × Int32 × Int32 × mm_S) : Option ((Int32 × Int32 × Int32 × mm_S) ⊕ (Int32 × mm_S)) := if (s.2.2.2.1 1 1) ≤ s.2.2.1 then some (.inr (s.2.1, s.2.2.2)) else (sX4_reachOf s.2.2.1 s.2.2.2).bind fun q2 => if (lg_cmp ((q2.1 >>> (Int32.toInt64 s.1 &&& 63)) &&& 1) 1) = 0 then (sX4_many_50 s.1 (s.2.1 + 1) s.2.2.1 q2.2) else (sX4_many_50 s.1 (s.2.1 + 0) s.2.2.1 q2.2)
noncomputable def sX4_many_18 (y1 : Int32) (y2 : Int32) (y3 : Int32) (z : mm_S) : Option (Int32 × mm_S) := mm_wh (lX4_many_18 ) mm_fu (y1, y2, y3, z)
noncomputable def sX4_many_14 (y1 : Int32) (z : mm_S) : Option (Int32 × mm_S) := (sX4_many_18 y1 0 0 z)
noncomputable def sX4_many_0 (x1 : Int32) (z : mm_S) : Option (Int32 × mm_S) := if (pX4_isCell x1) = 0 then (sX4_finding (-1000001) z).bind fun q1 => some (q1.1, q1.2) else (sX4_many_14 x1 z)
noncomputable def sX4_many (x1 : Int32) (z : mm_S) : Option (Int32 × mm_S) := sX4_many_0 x1 z
theorem sp_X4_many (x1 : Int32) (z : mm_S) (hk : ∀ v ∈ [mm_P 4 0, mm_I x1], mm_ok 22 lyTM 22 17 v) (q : Int32 × mm_S) (hq : sX4_many x1 z = some q) : f_X4_many [mm_P 4 0, mm_I x1] z (some (mm_I q.1), q.2) := sorry
noncomputable def sX4_silentNow_38 (y1 : Int64) (y3 : Int32) (z : mm_S) : Option ((Int64 × Int32 × mm_S) ⊕ (Int64 × mm_S)) := some (.inl (y1, (y3 + 1), z))
noncomputable def lX4_silentNow_16 (s : Int64 × Int32 × mm_S) : Option ((Int64 × Int32 × mm_S) ⊕ (Int64 × mm_S)) := if (s.2.2.1 1 1) ≤ s.2.1 then some (.inr (s.1, s.2.2)) else (sX4_reachOf s.2.1 s.2.2).bind fun q2 => (sX4_silentNow_38 (s.1 &&& (q2.1 ^^^ (-1))) s.2.1 q2.2)
noncomputable def sX4_silentNow_16 (y1 : Int64) (y3 : Int32) (z : mm_S) : Option (Int64 × mm_S) := mm_wh (lX4_silentNow_16 ) mm_fu (y1, y3, z)
noncomputable def sX4_silentNow_14 (y1 : Int64) (z : mm_S) : Option (Int64 × mm_S) := (sX4_silentNow_16 y1 0 z)
noncomputable def sX4_silentNow_0  (z : mm_S) : Option (Int64 × mm_S) := (sX4_cellsOf 2 z).bind fun q1 => (sX4_silentNow_14 (68719476735 &&& (q1.1 ^^^ (-1))) q1.2)
noncomputable def sX4_silentNow  (z : mm_S) : Option (Int64 × mm_S) := sX4_silentNow_0  z
noncomputable def clo_X4_silentNow (as : List mm_V) (z : mm_S) (kk : Option mm_V → mm_S → Option mm_R) : Option mm_R := mm_pr as fun t o0 as => bif Nat.beq t 4 then (match as with | [] => (sX4_silentNow z).bind fun q => kk (some (mm_J q.1)) q.2 | _ => none) else none
noncomputable def lV_X4_silent : List (Nat × (List mm_V → mm_S → (Option mm_V → mm_S → Option mm_R) → Option mm_R)) := [(218, clo_X4_silentNow)]
noncomputable def mV_X4_silent (k : Nat) (as : List mm_V) (z : mm_S) (kk : Option mm_V → mm_S → Option mm_R) : Option mm_R := match mm_at lV_X4_silent k with
  | some f => f as z kk
  | none => none
noncomputable def arV_X4_silent (k : Nat) : Nat := (mm_at [(218, 1)] k).getD 0
noncomputable def lS_X4_silent : List (Nat × (List mm_V → mm_S → (Option mm_V → mm_S → Option mm_R) → Option mm_R)) := []
noncomputable def mS_X4_silent (k : Nat) (as : List mm_V) (z : mm_S) (kk : Option mm_V → mm_S → Option mm_R) : Option mm_R := match mm_at lS_X4_silent k with
  | some f => f as z kk
  | none => none
noncomputable def arS_X4_silent (k : Nat) : Nat := (mm_at [] k).getD 0
def ct_X4_silent : List (Nat × List Nat) := []
noncomputable def go_X4_silent : Nat → mm_K := mm_go (fun k => mm_at flX4 k) (fun k => mm_at clX4 k) (fun k => mm_at glX4 k) arV_X4_silent arS_X4_silent mV_X4_silent mS_X4_silent lenM roM snM 1 2 tbX4_silent ct_X4_silent
def rm_X4_silent : Room := { frames := 6, cells := 0, slots := 0, locals := 143 }
noncomputable def f_X4_silent (as : List mm_V) (z : mm_S) (o : mm_R) : Prop := (as.map mm_cat).sum ≤ 1 ∧ ∃ n, go_X4_silent n 0 (mm_ar 0 as) [] z = some o
theorem M_X4_silent : mm_M lyTM lyFA lenM snM 22 22 17 roM rsA nfA nmA [] yX4_silent cX4_silent 1 (some .long) rm_X4_silent f_X4_silent := sorry
noncomputable def sX4_silent_0  (z : mm_S) : Option (Int64 × mm_S) := (sX4_silentNow  z).bind fun q1 => some (q1.1, q1.2)
noncomputable def sX4_silent  (z : mm_S) : Option (Int64 × mm_S) := sX4_silent_0  z
theorem sp_X4_silent  (z : mm_S) (hk : ∀ v ∈ [mm_P 4 0], mm_ok 22 lyTM 22 17 v) (q : Int64 × mm_S) (hq : sX4_silent  z = some q) : f_X4_silent [mm_P 4 0] z (some (mm_J q.1), q.2) := sorry
noncomputable def sX4_areTwo_0 (x1 : Int32) (x2 : Int32) (z : mm_S) : Option (Int32 × mm_S) := if (pX4_isCrew x1 z) = 0 then some (0, z) else if (pX4_isCrew x2 z) = 0 then some (0, z) else if x1 = x2 then some (0, z) else some (1, z)
noncomputable def sX4_areTwo (x1 : Int32) (x2 : Int32) (z : mm_S) : Option (Int32 × mm_S) := sX4_areTwo_0 x1 x2 z
noncomputable def clo_X4_areTwo (as : List mm_V) (z : mm_S) (kk : Option mm_V → mm_S → Option mm_R) : Option mm_R := mm_pr as fun t o0 as => bif Nat.beq t 4 then mm_pi as fun a1 as => mm_pi as fun a2 as => (match as with | [] => (sX4_areTwo a1 a2 z).bind fun q => kk (some (mm_I q.1)) q.2 | _ => none) else none
noncomputable def lV_X4_lag : List (Nat × (List mm_V → mm_S → (Option mm_V → mm_S → Option mm_R) → Option mm_R)) := [(124, clo_X4_finding), (192, clo_X4_findHeard), (222, clo_X4_areTwo)]
noncomputable def mV_X4_lag (k : Nat) (as : List mm_V) (z : mm_S) (kk : Option mm_V → mm_S → Option mm_R) : Option mm_R := match mm_at lV_X4_lag k with
  | some f => f as z kk
  | none => none
noncomputable def arV_X4_lag (k : Nat) : Nat := (mm_at [(124, 2), (192, 3), (222, 3)] k).getD 0
noncomputable def lS_X4_lag : List (Nat × (List mm_V → mm_S → (Option mm_V → mm_S → Option mm_R) → Option mm_R)) := [(114, clo_X4_isCell)]
noncomputable def mS_X4_lag (k : Nat) (as : List mm_V) (z : mm_S) (kk : Option mm_V → mm_S → Option mm_R) : Option mm_R := match mm_at lS_X4_lag k with
  | some f => f as z kk
  | none => none
noncomputable def arS_X4_lag (k : Nat) : Nat := (mm_at [(114, 1)] k).getD 0
def ct_X4_lag : List (Nat × List Nat) := [(9, [0, 1, 2, 3]), (23, [0, 1, 2, 3]), (32, [0, 2, 3]), (41, [0, 3])]
noncomputable def go_X4_lag : Nat → mm_K := mm_go (fun k => mm_at flX4 k) (fun k => mm_at clX4 k) (fun k => mm_at glX4 k) arV_X4_lag arS_X4_lag mV_X4_lag mS_X4_lag lenM roM snM 5 0 tbX4_lag ct_X4_lag
def rm_X4_lag : Room := { frames := 4, cells := 0, slots := 0, locals := 96 }
noncomputable def f_X4_lag (as : List mm_V) (z : mm_S) (o : mm_R) : Prop := (as.map mm_cat).sum ≤ 5 ∧ ∃ n, go_X4_lag n 0 (mm_ar 0 as) [] z = some o
theorem M_X4_lag : mm_M lyTM lyFA lenM snM 22 22 17 roM rsA nfA nmA [] yX4_lag cX4_lag 5 (some .int) rm_X4_lag f_X4_lag := sorry
noncomputable def sX4_lag_41 (y3 : Int32) (z : mm_S) : Option (Int32 × mm_S) := if y3 < 0 ∨ 36 ≤ Int32.toNatClampNeg y3 then none else if 10000 ≤ (z.1 7 (Int32.toNatClampNeg y3)) then (sX4_finding (-1000004) z).bind fun q6 => some (q6.1, q6.2) else if y3 < 0 ∨ 36 ≤ Int32.toNatClampNeg y3 then none else if 10000 ≤ (z.1 8 (Int32.toNatClampNeg y3)) then (sX4_finding (-1000004) z).bind fun q7 => some (q7.1, q7.2) else if y3 < 0 ∨ 36 ≤ Int32.toNatClampNeg y3 then none else if y3 < 0 ∨ 36 ≤ Int32.toNatClampNeg y3 then none else some (((z.1 8 (Int32.toNatClampNeg y3)) - (z.1 7 (Int32.toNatClampNeg y3))), z)
noncomputable def sX4_lag_32 (y2 : Int32) (y3 : Int32) (z : mm_S) : Option (Int32 × mm_S) := (sX4_findHeard y2 8 z).bind fun q5 => (sX4_lag_41 y3 q5)
noncomputable def sX4_lag_23 (y1 : Int32) (y2 : Int32) (y3 : Int32) (z : mm_S) : Option (Int32 × mm_S) := (sX4_findHeard y1 7 z).bind fun q4 => (sX4_lag_32 y2 y3 q4)
noncomputable def sX4_lag_9 (y1 : Int32) (y2 : Int32) (y3 : Int32) (z : mm_S) : Option (Int32 × mm_S) := if (pX4_isCell y3) = 0 then (sX4_finding (-1000001) z).bind fun q3 => some (q3.1, q3.2) else (sX4_lag_23 y1 y2 y3 z)
noncomputable def sX4_lag_0 (x1 : Int32) (x2 : Int32) (x3 : Int32) (z : mm_S) : Option (Int32 × mm_S) := (sX4_areTwo x1 x2 z).bind fun q1 => if q1.1 = 0 then (sX4_finding (-1000001) q1.2).bind fun q2 => some (q2.1, q2.2) else (sX4_lag_9 x1 x2 x3 q1.2)
noncomputable def sX4_lag (x1 : Int32) (x2 : Int32) (x3 : Int32) (z : mm_S) : Option (Int32 × mm_S) := sX4_lag_0 x1 x2 x3 z
theorem sp_X4_lag (x1 : Int32) (x2 : Int32) (x3 : Int32) (z : mm_S) (hk : ∀ v ∈ [mm_P 4 0, mm_I x1, mm_I x2, mm_I x3], mm_ok 22 lyTM 22 17 v) (q : Int32 × mm_S) (hq : sX4_lag x1 x2 x3 z = some q) : f_X4_lag [mm_P 4 0, mm_I x1, mm_I x2, mm_I x3] z (some (mm_I q.1), q.2) := sorry
noncomputable def lV_X4_apart : List (Nat × (List mm_V → mm_S → (Option mm_V → mm_S → Option mm_R) → Option mm_R)) := [(124, clo_X4_finding), (192, clo_X4_findHeard), (222, clo_X4_areTwo)]
noncomputable def mV_X4_apart (k : Nat) (as : List mm_V) (z : mm_S) (kk : Option mm_V → mm_S → Option mm_R) : Option mm_R := match mm_at lV_X4_apart k with
  | some f => f as z kk
  | none => none
noncomputable def arV_X4_apart (k : Nat) : Nat := (mm_at [(124, 2), (192, 3), (222, 3)] k).getD 0
noncomputable def lS_X4_apart : List (Nat × (List mm_V → mm_S → (Option mm_V → mm_S → Option mm_R) → Option mm_R)) := [(106, clo_X4_within)]
noncomputable def mS_X4_apart (k : Nat) (as : List mm_V) (z : mm_S) (kk : Option mm_V → mm_S → Option mm_R) : Option mm_R := match mm_at lS_X4_apart k with
  | some f => f as z kk
  | none => none
noncomputable def arS_X4_apart (k : Nat) : Nat := (mm_at [(106, 3)] k).getD 0
def ct_X4_apart : List (Nat × List Nat) := [(9, [0]), (16, [0, 1, 2]), (25, [0, 2]), (34, [0]), (40, [0, 3, 4])]
noncomputable def go_X4_apart : Nat → mm_K := mm_go (fun k => mm_at flX4 k) (fun k => mm_at clX4 k) (fun k => mm_at glX4 k) arV_X4_apart arS_X4_apart mV_X4_apart mS_X4_apart lenM roM snM 7 0 tbX4_apart ct_X4_apart
def rm_X4_apart : Room := { frames := 4, cells := 0, slots := 0, locals := 96 }
noncomputable def f_X4_apart (as : List mm_V) (z : mm_S) (o : mm_R) : Prop := (as.map mm_cat).sum ≤ 7 ∧ ∃ n, go_X4_apart n 0 (mm_ar 0 as) [] z = some o
theorem M_X4_apart : mm_M lyTM lyFA lenM snM 22 22 17 roM rsA nfA nmA [] yX4_apart cX4_apart 7 (some .int) rm_X4_apart f_X4_apart := sorry
noncomputable def sX4_apart_9  (z : mm_S) : Option (Int32 × mm_S) := (sX4_finding (-1000001) z).bind fun q3 => some (q3.1, q3.2)
noncomputable def lX4_apart_40 (s : Int32 × Int32 × mm_S) : Option ((Int32 × Int32 × mm_S) ⊕ (Int32 × mm_S)) := if 36 ≤ s.2.1 then some (.inr (s.1, s.2.2)) else if s.2.1 < 0 ∨ 36 ≤ Int32.toNatClampNeg s.2.1 then none else if s.2.1 < 0 ∨ 36 ≤ Int32.toNatClampNeg s.2.1 then none else let v5 : Int32 := ((s.2.2.1 7 (Int32.toNatClampNeg s.2.1)) - (s.2.2.1 8 (Int32.toNatClampNeg s.2.1))); if s.2.1 < 0 ∨ 36 ≤ Int32.toNatClampNeg s.2.1 then none else if 10000 ≤ (s.2.2.1 7 (Int32.toNatClampNeg s.2.1)) then some (.inl ((s.1 &&& (-1)), (s.2.1 + 1), s.2.2)) else if s.2.1 < 0 ∨ 36 ≤ Int32.toNatClampNeg s.2.1 then none else if 10000 ≤ (s.2.2.1 8 (Int32.toNatClampNeg s.2.1)) then some (.inl ((s.1 &&& (-1)), (s.2.1 + 1), s.2.2)) else if (pX4_within v5 0 30) = 0 then some (.inl ((s.1 &&& (-1)), (s.2.1 + 1), s.2.2)) else some (.inl ((s.1 &&& ((1 <<< (v5 &&& 31)) ^^^ (-1))), (s.2.1 + 1), s.2.2))
noncomputable def sX4_apart_40 (y3 : Int32) (y4 : Int32) (z : mm_S) : Option (Int32 × mm_S) := mm_wh (lX4_apart_40 ) mm_fu (y3, y4, z)
noncomputable def sX4_apart_34  (z : mm_S) : Option (Int32 × mm_S) := (sX4_apart_40 2147483647 0 z)
noncomputable def sX4_apart_25 (y2 : Int32) (z : mm_S) : Option (Int32 × mm_S) := (sX4_findHeard y2 8 z).bind fun q4 => (sX4_apart_34 q4)
noncomputable def sX4_apart_16 (y1 : Int32) (y2 : Int32) (z : mm_S) : Option (Int32 × mm_S) := (sX4_findHeard y1 7 z).bind fun q2 => (sX4_apart_25 y2 q2)
noncomputable def sX4_apart_0 (x1 : Int32) (x2 : Int32) (z : mm_S) : Option (Int32 × mm_S) := (sX4_areTwo x1 x2 z).bind fun q1 => if q1.1 = 0 then (sX4_apart_9 q1.2) else (sX4_apart_16 x1 x2 q1.2)
noncomputable def sX4_apart (x1 : Int32) (x2 : Int32) (z : mm_S) : Option (Int32 × mm_S) := sX4_apart_0 x1 x2 z
theorem sp_X4_apart (x1 : Int32) (x2 : Int32) (z : mm_S) (hk : ∀ v ∈ [mm_P 4 0, mm_I x1, mm_I x2], mm_ok 22 lyTM 22 17 v) (q : Int32 × mm_S) (hq : sX4_apart x1 x2 z = some q) : f_X4_apart [mm_P 4 0, mm_I x1, mm_I x2] z (some (mm_I q.1), q.2) := sorry
noncomputable def lV_X4_from : List (Nat × (List mm_V → mm_S → (Option mm_V → mm_S → Option mm_R) → Option mm_R)) := [(124, clo_X4_finding), (139, clo_X4_crewIs), (181, clo_X4_findTimes), (222, clo_X4_areTwo)]
noncomputable def mV_X4_from (k : Nat) (as : List mm_V) (z : mm_S) (kk : Option mm_V → mm_S → Option mm_R) : Option mm_R := match mm_at lV_X4_from k with
  | some f => f as z kk
  | none => none
noncomputable def arV_X4_from (k : Nat) : Nat := (mm_at [(124, 2), (139, 3), (181, 4), (222, 3)] k).getD 0
noncomputable def lS_X4_from : List (Nat × (List mm_V → mm_S → (Option mm_V → mm_S → Option mm_R) → Option mm_R)) := [(106, clo_X4_within)]
noncomputable def mS_X4_from (k : Nat) (as : List mm_V) (z : mm_S) (kk : Option mm_V → mm_S → Option mm_R) : Option mm_R := match mm_at lS_X4_from k with
  | some f => f as z kk
  | none => none
noncomputable def arS_X4_from (k : Nat) : Nat := (mm_at [(106, 3)] k).getD 0
def ct_X4_from : List (Nat × List Nat) := [(9, [0, 1, 2, 3]), (28, [0, 1, 2, 3]), (43, [0, 2, 3]), (58, [0, 3]), (64, [0, 3, 4, 6])]
noncomputable def go_X4_from : Nat → mm_K := mm_go (fun k => mm_at flX4 k) (fun k => mm_at clX4 k) (fun k => mm_at glX4 k) arV_X4_from arS_X4_from mV_X4_from mS_X4_from lenM roM snM 8 2 tbX4_from ct_X4_from
def rm_X4_from : Room := { frames := 3, cells := 0, slots := 0, locals := 73 }
noncomputable def f_X4_from (as : List mm_V) (z : mm_S) (o : mm_R) : Prop := (as.map mm_cat).sum ≤ 8 ∧ ∃ n, go_X4_from n 0 (mm_ar 0 as) [] z = some o
theorem M_X4_from : mm_M lyTM lyFA lenM snM 22 22 17 roM rsA nfA nmA [] yX4_from cX4_from 8 (some .long) rm_X4_from f_X4_from := sorry
noncomputable def lX4_from_64 (s : Int32 × Int64 × Int32 × mm_S) : Option ((Int32 × Int64 × Int32 × mm_S) ⊕ (Int64 × mm_S)) := if 36 ≤ s.2.2.1 then some (.inr (s.2.1, s.2.2.2)) else if s.2.2.1 < 0 ∨ 36 ≤ Int32.toNatClampNeg s.2.2.1 then none else if 10000 ≤ (s.2.2.2.1 5 (Int32.toNatClampNeg s.2.2.1)) then some (.inl (s.1, (s.2.1 ||| 0), (s.2.2.1 + 1), s.2.2.2)) else if s.2.2.1 < 0 ∨ 36 ≤ Int32.toNatClampNeg s.2.2.1 then none else if 10000 ≤ (s.2.2.2.1 6 (Int32.toNatClampNeg s.2.2.1)) then some (.inl (s.1, (s.2.1 ||| 0), (s.2.2.1 + 1), s.2.2.2)) else if s.2.2.1 < 0 ∨ 36 ≤ Int32.toNatClampNeg s.2.2.1 then none else if s.2.2.1 < 0 ∨ 36 ≤ Int32.toNatClampNeg s.2.2.1 then none else if ((s.2.2.2.1 6 (Int32.toNatClampNeg s.2.2.1)) - (s.2.2.2.1 5 (Int32.toNatClampNeg s.2.2.1))) = s.1 then let v8 : Int64 := (s.2.1 ||| (1 <<< (Int32.toInt64 s.2.2.1 &&& 63))); some (.inl (s.1, v8, (s.2.2.1 + 1), s.2.2.2)) else some (.inl (s.1, (s.2.1 ||| 0), (s.2.2.1 + 1), s.2.2.2))
noncomputable def sX4_from_64 (y3 : Int32) (y4 : Int64) (y6 : Int32) (z : mm_S) : Option (Int64 × mm_S) := mm_wh (lX4_from_64 ) mm_fu (y3, y4, y6, z)
noncomputable def sX4_from_58 (y3 : Int32) (z : mm_S) : Option (Int64 × mm_S) := (sX4_from_64 y3 0 0 z)
noncomputable def sX4_from_43 (y2 : Int32) (y3 : Int32) (z : mm_S) : Option (Int64 × mm_S) := (sX4_crewIs y2 1 z).bind fun q6 => (sX4_findTimes q6.1 0 6 q6.2).bind fun q7 => (sX4_from_58 y3 q7)
noncomputable def sX4_from_28 (y1 : Int32) (y2 : Int32) (y3 : Int32) (z : mm_S) : Option (Int64 × mm_S) := (sX4_crewIs y1 1 z).bind fun q4 => (sX4_findTimes q4.1 0 5 q4.2).bind fun q5 => (sX4_from_43 y2 y3 q5)
noncomputable def sX4_from_9 (y1 : Int32) (y2 : Int32) (y3 : Int32) (z : mm_S) : Option (Int64 × mm_S) := if (pX4_within y3 (-60) 60) = 0 then (sX4_finding (-1000001) z).bind fun q3 => some ((Int32.toInt64 q3.1), q3.2) else (sX4_from_28 y1 y2 y3 z)
noncomputable def sX4_from_0 (x1 : Int32) (x2 : Int32) (x3 : Int32) (z : mm_S) : Option (Int64 × mm_S) := (sX4_areTwo x1 x2 z).bind fun q1 => if q1.1 = 0 then (sX4_finding (-1000001) q1.2).bind fun q2 => some ((Int32.toInt64 q2.1), q2.2) else (sX4_from_9 x1 x2 x3 q1.2)
noncomputable def sX4_from (x1 : Int32) (x2 : Int32) (x3 : Int32) (z : mm_S) : Option (Int64 × mm_S) := sX4_from_0 x1 x2 x3 z
theorem sp_X4_from (x1 : Int32) (x2 : Int32) (x3 : Int32) (z : mm_S) (hk : ∀ v ∈ [mm_P 4 0, mm_I x1, mm_I x2, mm_I x3], mm_ok 22 lyTM 22 17 v) (q : Int64 × mm_S) (hq : sX4_from x1 x2 x3 z = some q) : f_X4_from [mm_P 4 0, mm_I x1, mm_I x2, mm_I x3] z (some (mm_J q.1), q.2) := sorry
noncomputable def lV_X4_middle : List (Nat × (List mm_V → mm_S → (Option mm_V → mm_S → Option mm_R) → Option mm_R)) := [(124, clo_X4_finding), (139, clo_X4_crewIs), (181, clo_X4_findTimes)]
noncomputable def mV_X4_middle (k : Nat) (as : List mm_V) (z : mm_S) (kk : Option mm_V → mm_S → Option mm_R) : Option mm_R := match mm_at lV_X4_middle k with
  | some f => f as z kk
  | none => none
noncomputable def arV_X4_middle (k : Nat) : Nat := (mm_at [(124, 2), (139, 3), (181, 4)] k).getD 0
noncomputable def lS_X4_middle : List (Nat × (List mm_V → mm_S → (Option mm_V → mm_S → Option mm_R) → Option mm_R)) := [(226, mm_mx)]
noncomputable def mS_X4_middle (k : Nat) (as : List mm_V) (z : mm_S) (kk : Option mm_V → mm_S → Option mm_R) : Option mm_R := match mm_at lS_X4_middle k with
  | some f => f as z kk
  | none => none
noncomputable def arS_X4_middle (k : Nat) : Nat := (mm_at [(226, 2)] k).getD 0
def ct_X4_middle : List (Nat × List Nat) := [(16, [0]), (18, [0, 1]), (31, [0, 1]), (39, [0, 1]), (64, [0, 1]), (66, [0, 1, 2]), (93, [0, 1, 2]), (109, [0, 1, 2])]
noncomputable def go_X4_middle : Nat → mm_K := mm_go (fun k => mm_at flX4 k) (fun k => mm_at clX4 k) (fun k => mm_at glX4 k) arV_X4_middle arS_X4_middle mV_X4_middle mS_X4_middle lenM roM snM 3 0 tbX4_middle ct_X4_middle
def rm_X4_middle : Room := { frames := 3, cells := 0, slots := 0, locals := 73 }
noncomputable def f_X4_middle (as : List mm_V) (z : mm_S) (o : mm_R) : Prop := (as.map mm_cat).sum ≤ 3 ∧ ∃ n, go_X4_middle n 0 (mm_ar 0 as) [] z = some o
theorem M_X4_middle : mm_M lyTM lyFA lenM snM 22 22 17 roM rsA nfA nmA [] yX4_middle cX4_middle 3 (some .int) rm_X4_middle f_X4_middle := sorry
noncomputable def sX4_middle_31 (y1 : Int32) (z : mm_S) : Option ((Int32 × mm_S) ⊕ (Int32 × mm_S)) := some (.inl ((y1 + 1), z))
noncomputable def sX4_middle_93 (y1 : Int32) (y2 : Int32) (z : mm_S) : Option ((Int32 × Int32 × mm_S) ⊕ ((Int32 × mm_S) ⊕ (Int32 × mm_S))) := some (.inl (y1, (y2 + 1), z))
noncomputable def lX4_middle_66 (s : Int32 × Int32 × mm_S) : Option ((Int32 × Int32 × mm_S) ⊕ ((Int32 × mm_S) ⊕ (Int32 × mm_S))) := if 36 ≤ s.2.1 then some (.inr (.inl ((s.1 + 1), s.2.2))) else if s.2.1 < 0 ∨ 36 ≤ Int32.toNatClampNeg s.2.1 then none else if s.2.1 < 0 ∨ 36 ≤ Int32.toNatClampNeg s.2.1 then none else if s.2.1 < 0 ∨ 36 ≤ Int32.toNatClampNeg s.2.1 then none else let u5 : mm_S := ((mm_ui s.2.2.1 9 (Int32.toNatClampNeg s.2.1) (mm_max (s.2.2.1 9 (Int32.toNatClampNeg s.2.1)) (s.2.2.1 5 (Int32.toNatClampNeg s.2.1)))), s.2.2.2); (sX4_middle_93 s.1 s.2.1 u5)
noncomputable def sX4_middle_66 (y1 : Int32) (y2 : Int32) (z : mm_S) : Option ((Int32 × mm_S) ⊕ (Int32 × mm_S)) := mm_wh (lX4_middle_66 ) mm_fu (y1, y2, z)
noncomputable def sX4_middle_64 (y1 : Int32) (z : mm_S) : Option ((Int32 × mm_S) ⊕ (Int32 × mm_S)) := (sX4_middle_66 y1 0 z)
noncomputable def lX4_middle_109 (s : Int32 × Int32 × mm_S) : Option ((Int32 × Int32 × mm_S) ⊕ (Int32 × mm_S)) := if 36 ≤ s.2.1 then if s.1 < 0 ∨ 36 ≤ Int32.toNatClampNeg s.1 then none else if 10000 ≤ (s.2.2.1 9 (Int32.toNatClampNeg s.1)) then (sX4_finding (-1000004) s.2.2).bind fun q4 => some (.inr (q4.1, q4.2)) else some (.inr (s.1, s.2.2)) else if s.2.1 < 0 ∨ 36 ≤ Int32.toNatClampNeg s.2.1 then none else if s.1 < 0 ∨ 36 ≤ Int32.toNatClampNeg s.1 then none else if (s.2.2.1 9 (Int32.toNatClampNeg s.1)) ≤ (s.2.2.1 9 (Int32.toNatClampNeg s.2.1)) then some (.inl (s.1, (s.2.1 + 1), s.2.2)) else some (.inl (s.2.1, (s.2.1 + 1), s.2.2))
noncomputable def sX4_middle_109 (y1 : Int32) (y2 : Int32) (z : mm_S) : Option (Int32 × mm_S) := mm_wh (lX4_middle_109 ) mm_fu (y1, y2, z)
noncomputable def lX4_middle_39 (s : Int32 × mm_S) : Option ((Int32 × mm_S) ⊕ (Int32 × mm_S)) := if (s.2.1 1 1) ≤ s.1 then ((sX4_middle_109 0 1 s.2).map fun w => (Sum.inr w)) else (sX4_crewIs s.1 1 s.2).bind fun q2 => (sX4_findTimes q2.1 1 5 q2.2).bind fun q3 => (sX4_middle_64 s.1 q3)
noncomputable def sX4_middle_39 (y1 : Int32) (z : mm_S) : Option (Int32 × mm_S) := mm_wh (lX4_middle_39 ) mm_fu (y1, z)
noncomputable def lX4_middle_18 (s : Int32 × mm_S) : Option ((Int32 × mm_S) ⊕ (Int32 × mm_S)) := if 36 ≤ s.1 then ((sX4_middle_39 0 s.2).map fun w => (Sum.inr w)) else if s.1 < 0 ∨ 36 ≤ Int32.toNatClampNeg s.1 then none else (sX4_middle_31 s.1 ((mm_ui s.2.1 9 (Int32.toNatClampNeg s.1) 0), s.2.2))
noncomputable def sX4_middle_18 (y1 : Int32) (z : mm_S) : Option (Int32 × mm_S) := mm_wh (lX4_middle_18 ) mm_fu (y1, z)
noncomputable def sX4_middle_16  (z : mm_S) : Option (Int32 × mm_S) := (sX4_middle_18 0 z)
noncomputable def sX4_middle_0  (z : mm_S) : Option (Int32 × mm_S) := if (z.1 1 1) = 0 then (sX4_finding (-1000001) z).bind fun q1 => some (q1.1, q1.2) else (sX4_middle_16 z)
noncomputable def sX4_middle  (z : mm_S) : Option (Int32 × mm_S) := sX4_middle_0  z
theorem sp_X4_middle  (z : mm_S) (hk : ∀ v ∈ [mm_P 4 0], mm_ok 22 lyTM 22 17 v) (q : Int32 × mm_S) (hq : sX4_middle  z = some q) : f_X4_middle [mm_P 4 0] z (some (mm_I q.1), q.2) := sorry
noncomputable def sX4_heardBy_36 (y1 : Int32) (y2 : Int32) (y3 : Int32) (z : mm_S) : Option ((Int32 × Int32 × Int32 × mm_S) ⊕ (Int32 × mm_S)) := some (.inl (y1, y2, (y3 + 1), z))
noncomputable def lX4_heardBy_4 (s : Int32 × Int32 × Int32 × mm_S) : Option ((Int32 × Int32 × Int32 × mm_S) ⊕ (Int32 × mm_S)) := if (s.2.2.2.1 1 1) ≤ s.2.2.1 then some (.inr (s.2.1, s.2.2.2)) else if s.2.2.1 = s.1 then (sX4_heardBy_36 s.1 (s.2.1 + 0) s.2.2.1 s.2.2.2) else (sX4_doesHear s.2.2.1 s.1 s.2.2.2).bind fun q1 => if q1.1 = 0 then (sX4_heardBy_36 s.1 (s.2.1 + 0) s.2.2.1 q1.2) else (sX4_heardBy_36 s.1 (s.2.1 + 1) s.2.2.1 q1.2)
noncomputable def sX4_heardBy_4 (y1 : Int32) (y2 : Int32) (y3 : Int32) (z : mm_S) : Option (Int32 × mm_S) := mm_wh (lX4_heardBy_4 ) mm_fu (y1, y2, y3, z)
noncomputable def sX4_heardBy_0 (x1 : Int32) (z : mm_S) : Option (Int32 × mm_S) := (sX4_heardBy_4 x1 0 0 z)
noncomputable def sX4_heardBy (x1 : Int32) (z : mm_S) : Option (Int32 × mm_S) := sX4_heardBy_0 x1 z
noncomputable def clo_X4_heardBy (as : List mm_V) (z : mm_S) (kk : Option mm_V → mm_S → Option mm_R) : Option mm_R := mm_pr as fun t o0 as => bif Nat.beq t 4 then mm_pi as fun a1 as => (match as with | [] => (sX4_heardBy a1 z).bind fun q => kk (some (mm_I q.1)) q.2 | _ => none) else none
noncomputable def lV_X4_kindFor : List (Nat × (List mm_V → mm_S → (Option mm_V → mm_S → Option mm_R) → Option mm_R)) := [(124, clo_X4_finding), (139, clo_X4_crewIs), (146, clo_X4_isCrew), (229, clo_X4_heardBy)]
noncomputable def mV_X4_kindFor (k : Nat) (as : List mm_V) (z : mm_S) (kk : Option mm_V → mm_S → Option mm_R) : Option mm_R := match mm_at lV_X4_kindFor k with
  | some f => f as z kk
  | none => none
noncomputable def arV_X4_kindFor (k : Nat) : Nat := (mm_at [(124, 2), (139, 3), (146, 2), (229, 2)] k).getD 0
noncomputable def lS_X4_kindFor : List (Nat × (List mm_V → mm_S → (Option mm_V → mm_S → Option mm_R) → Option mm_R)) := [(110, clo_X4_at), (226, mm_mx)]
noncomputable def mS_X4_kindFor (k : Nat) (as : List mm_V) (z : mm_S) (kk : Option mm_V → mm_S → Option mm_R) : Option mm_R := match mm_at lS_X4_kindFor k with
  | some f => f as z kk
  | none => none
noncomputable def arS_X4_kindFor (k : Nat) : Nat := (mm_at [(110, 2), (226, 2)] k).getD 0
def ct_X4_kindFor : List (Nat × List Nat) := [(15, [0, 1]), (22, [0, 1, 2]), (30, [0, 1, 2, 3, 4, 5]), (49, [0, 1, 2, 3, 4, 5]), (56, [0, 1, 2, 3, 4, 5, 6]), (96, [3])]
noncomputable def go_X4_kindFor : Nat → mm_K := mm_go (fun k => mm_at flX4 k) (fun k => mm_at clX4 k) (fun k => mm_at glX4 k) arV_X4_kindFor arS_X4_kindFor mV_X4_kindFor mS_X4_kindFor lenM roM snM 7 0 tbX4_kindFor ct_X4_kindFor
def rm_X4_kindFor : Room := { frames := 6, cells := 0, slots := 0, locals := 141 }
noncomputable def f_X4_kindFor (as : List mm_V) (z : mm_S) (o : mm_R) : Prop := (as.map mm_cat).sum ≤ 7 ∧ ∃ n, go_X4_kindFor n 0 (mm_ar 0 as) [] z = some o
theorem M_X4_kindFor : mm_M lyTM lyFA lenM snM 22 22 17 roM rsA nfA nmA [] yX4_kindFor cX4_kindFor 7 (some .int) rm_X4_kindFor f_X4_kindFor := sorry
noncomputable def sX4_kindFor_56 (y1 : Int32) (y2 : Int32) (y3 : Int32) (y4 : Int32) (y5 : Int32) (y6 : Int32) (z : mm_S) : Option ((Int32 × Int32 × Int32 × Int32 × Int32 × mm_S) ⊕ (Int32 × mm_S)) := if y6 ≤ y4 then some (.inl (y1, y2, y3, (mm_max y4 y6), (y5 + 1), z)) else some (.inl (y1, y2, y5, (mm_max y4 y6), (y5 + 1), z))
noncomputable def sX4_kindFor_49 (y1 : Int32) (y2 : Int32) (y3 : Int32) (y4 : Int32) (y5 : Int32) (z : mm_S) : Option ((Int32 × Int32 × Int32 × Int32 × Int32 × mm_S) ⊕ (Int32 × mm_S)) := (sX4_heardBy y1 z).bind fun q3 => (sX4_kindFor_56 y1 y2 y3 y4 y5 q3.1 q3.2)
noncomputable def sX4_kindFor_96 (y3 : Int32) (z : mm_S) : Option (Int32 × mm_S) := some (y3, z)
noncomputable def lX4_kindFor_30 (s : Int32 × Int32 × Int32 × Int32 × Int32 × mm_S) : Option ((Int32 × Int32 × Int32 × Int32 × Int32 × mm_S) ⊕ (Int32 × mm_S)) := if 6 < s.2.2.2.2.1 then if (pX4_at s.1 0) < 0 ∨ 97 ≤ Int32.toNatClampNeg (pX4_at s.1 0) then none else ((sX4_kindFor_96 s.2.2.1 ((mm_ui s.2.2.2.2.2.1 1 (Int32.toNatClampNeg (pX4_at s.1 0)) s.2.1), s.2.2.2.2.2.2)).map fun w => (Sum.inr w)) else if (pX4_at s.1 0) < 0 ∨ 97 ≤ Int32.toNatClampNeg (pX4_at s.1 0) then none else (sX4_kindFor_49 s.1 s.2.1 s.2.2.1 s.2.2.2.1 s.2.2.2.2.1 ((mm_ui s.2.2.2.2.2.1 1 (Int32.toNatClampNeg (pX4_at s.1 0)) s.2.2.2.2.1), s.2.2.2.2.2.2))
noncomputable def sX4_kindFor_30 (y1 : Int32) (y2 : Int32) (y3 : Int32) (y4 : Int32) (y5 : Int32) (z : mm_S) : Option (Int32 × mm_S) := mm_wh (lX4_kindFor_30 ) mm_fu (y1, y2, y3, y4, y5, z)
noncomputable def sX4_kindFor_22 (y1 : Int32) (y2 : Int32) (z : mm_S) : Option (Int32 × mm_S) := (sX4_kindFor_30 y1 y2 (-1) (-1) 0 z)
noncomputable def sX4_kindFor_15 (y1 : Int32) (z : mm_S) : Option (Int32 × mm_S) := (sX4_crewIs y1 0 z).bind fun q2 => (sX4_kindFor_22 y1 q2.1 q2.2)
noncomputable def sX4_kindFor_0 (x1 : Int32) (z : mm_S) : Option (Int32 × mm_S) := if (pX4_isCrew x1 z) = 0 then (sX4_finding (-1000001) z).bind fun q1 => some (q1.1, q1.2) else (sX4_kindFor_15 x1 z)
noncomputable def sX4_kindFor (x1 : Int32) (z : mm_S) : Option (Int32 × mm_S) := sX4_kindFor_0 x1 z
theorem sp_X4_kindFor (x1 : Int32) (z : mm_S) (hk : ∀ v ∈ [mm_P 4 0, mm_I x1], mm_ok 22 lyTM 22 17 v) (q : Int32 × mm_S) (hq : sX4_kindFor x1 z = some q) : f_X4_kindFor [mm_P 4 0, mm_I x1] z (some (mm_I q.1), q.2) := sorry
noncomputable def lV_X4_place : List (Nat × (List mm_V → mm_S → (Option mm_V → mm_S → Option mm_R) → Option mm_R)) := [(124, clo_X4_finding), (139, clo_X4_crewIs), (146, clo_X4_isCrew), (196, clo_X4_reachOf)]
noncomputable def mV_X4_place (k : Nat) (as : List mm_V) (z : mm_S) (kk : Option mm_V → mm_S → Option mm_R) : Option mm_R := match mm_at lV_X4_place k with
  | some f => f as z kk
  | none => none
noncomputable def arV_X4_place (k : Nat) : Nat := (mm_at [(124, 2), (139, 3), (146, 2), (196, 2)] k).getD 0
noncomputable def lS_X4_place : List (Nat × (List mm_V → mm_S → (Option mm_V → mm_S → Option mm_R) → Option mm_R)) := [(110, clo_X4_at), (226, mm_mx), (232, clo_X4_bits)]
noncomputable def mS_X4_place (k : Nat) (as : List mm_V) (z : mm_S) (kk : Option mm_V → mm_S → Option mm_R) : Option mm_R := match mm_at lS_X4_place k with
  | some f => f as z kk
  | none => none
noncomputable def arS_X4_place (k : Nat) : Nat := (mm_at [(110, 2), (226, 2), (232, 1)] k).getD 0
def ct_X4_place : List (Nat × List Nat) := [(15, [0, 1]), (22, [0, 1, 2]), (30, [0, 1, 2, 3, 4, 5]), (49, [0, 1, 2, 3, 4, 5]), (59, [0, 1, 2, 3, 4, 5, 6]), (99, [3])]
noncomputable def go_X4_place : Nat → mm_K := mm_go (fun k => mm_at flX4 k) (fun k => mm_at clX4 k) (fun k => mm_at glX4 k) arV_X4_place arS_X4_place mV_X4_place mS_X4_place lenM roM snM 7 0 tbX4_place ct_X4_place
def rm_X4_place : Room := { frames := 5, cells := 0, slots := 0, locals := 120 }
noncomputable def f_X4_place (as : List mm_V) (z : mm_S) (o : mm_R) : Prop := (as.map mm_cat).sum ≤ 7 ∧ ∃ n, go_X4_place n 0 (mm_ar 0 as) [] z = some o
theorem M_X4_place : mm_M lyTM lyFA lenM snM 22 22 17 roM rsA nfA nmA [] yX4_place cX4_place 7 (some .int) rm_X4_place f_X4_place := sorry
noncomputable def sX4_place_59 (y1 : Int32) (y2 : Int32) (y3 : Int32) (y4 : Int32) (y5 : Int32) (y6 : Int32) (z : mm_S) : Option ((Int32 × Int32 × Int32 × Int32 × Int32 × mm_S) ⊕ (Int32 × mm_S)) := if y6 ≤ y4 then some (.inl (y1, y2, y3, (mm_max y4 y6), (y5 + 1), z)) else some (.inl (y1, y2, y5, (mm_max y4 y6), (y5 + 1), z))
noncomputable def sX4_place_49 (y1 : Int32) (y2 : Int32) (y3 : Int32) (y4 : Int32) (y5 : Int32) (z : mm_S) : Option ((Int32 × Int32 × Int32 × Int32 × Int32 × mm_S) ⊕ (Int32 × mm_S)) := (sX4_reachOf y1 z).bind fun q3 => (sX4_bits q3.1 q3.2).bind fun q4 => (sX4_place_59 y1 y2 y3 y4 y5 q4.1 q4.2)
noncomputable def sX4_place_99 (y3 : Int32) (z : mm_S) : Option (Int32 × mm_S) := some (y3, z)
noncomputable def lX4_place_30 (s : Int32 × Int32 × Int32 × Int32 × Int32 × mm_S) : Option ((Int32 × Int32 × Int32 × Int32 × Int32 × mm_S) ⊕ (Int32 × mm_S)) := if 36 ≤ s.2.2.2.2.1 then if (pX4_at s.1 1) < 0 ∨ 97 ≤ Int32.toNatClampNeg (pX4_at s.1 1) then none else ((sX4_place_99 s.2.2.1 ((mm_ui s.2.2.2.2.2.1 1 (Int32.toNatClampNeg (pX4_at s.1 1)) s.2.1), s.2.2.2.2.2.2)).map fun w => (Sum.inr w)) else if (pX4_at s.1 1) < 0 ∨ 97 ≤ Int32.toNatClampNeg (pX4_at s.1 1) then none else (sX4_place_49 s.1 s.2.1 s.2.2.1 s.2.2.2.1 s.2.2.2.2.1 ((mm_ui s.2.2.2.2.2.1 1 (Int32.toNatClampNeg (pX4_at s.1 1)) s.2.2.2.2.1), s.2.2.2.2.2.2))
noncomputable def sX4_place_30 (y1 : Int32) (y2 : Int32) (y3 : Int32) (y4 : Int32) (y5 : Int32) (z : mm_S) : Option (Int32 × mm_S) := mm_wh (lX4_place_30 ) mm_fu (y1, y2, y3, y4, y5, z)
noncomputable def sX4_place_22 (y1 : Int32) (y2 : Int32) (z : mm_S) : Option (Int32 × mm_S) := (sX4_place_30 y1 y2 (-1) (-1) 0 z)
noncomputable def sX4_place_15 (y1 : Int32) (z : mm_S) : Option (Int32 × mm_S) := (sX4_crewIs y1 1 z).bind fun q2 => (sX4_place_22 y1 q2.1 q2.2)
noncomputable def sX4_place_0 (x1 : Int32) (z : mm_S) : Option (Int32 × mm_S) := if (pX4_isCrew x1 z) = 0 then (sX4_finding (-1000001) z).bind fun q1 => some (q1.1, q1.2) else (sX4_place_15 x1 z)
noncomputable def sX4_place (x1 : Int32) (z : mm_S) : Option (Int32 × mm_S) := sX4_place_0 x1 z
theorem sp_X4_place (x1 : Int32) (z : mm_S) (hk : ∀ v ∈ [mm_P 4 0, mm_I x1], mm_ok 22 lyTM 22 17 v) (q : Int32 × mm_S) (hq : sX4_place x1 z = some q) : f_X4_place [mm_P 4 0, mm_I x1] z (some (mm_I q.1), q.2) := sorry
noncomputable def sX4_enters_51  (z : mm_S) : Option (Int32 × mm_S) := some ((z.1 1 2), z)
noncomputable def sX4_enters_41  (z : mm_S) : Option (Int32 × mm_S) := (sX4_enters_51 ((mm_ui z.1 1 2 ((z.1 1 2) + 1)), z.2))
noncomputable def sX4_enters_31 (y3 : Int32) (y4 : Int32) (z : mm_S) : Option (Int32 × mm_S) := if (y4 + 2) < 0 ∨ 97 ≤ Int32.toNatClampNeg (y4 + 2) then none else (sX4_enters_41 ((mm_ui z.1 1 (Int32.toNatClampNeg (y4 + 2)) y3), z.2))
noncomputable def sX4_enters_21 (y2 : Int32) (y3 : Int32) (y4 : Int32) (z : mm_S) : Option (Int32 × mm_S) := if (y4 + 1) < 0 ∨ 97 ≤ Int32.toNatClampNeg (y4 + 1) then none else (sX4_enters_31 y3 y4 ((mm_ui z.1 1 (Int32.toNatClampNeg (y4 + 1)) y2), z.2))
noncomputable def sX4_enters_0 (x1 : Int32) (x2 : Int32) (x3 : Int32) (z : mm_S) : Option (Int32 × mm_S) := if (73 + (3 * (z.1 1 2))) < 0 ∨ 97 ≤ Int32.toNatClampNeg (73 + (3 * (z.1 1 2))) then none else (sX4_enters_21 x2 x3 (73 + (3 * (z.1 1 2))) ((mm_ui z.1 1 (Int32.toNatClampNeg (73 + (3 * (z.1 1 2)))) x1), z.2))
noncomputable def sX4_enters (x1 : Int32) (x2 : Int32) (x3 : Int32) (z : mm_S) : Option (Int32 × mm_S) := sX4_enters_0 x1 x2 x3 z
noncomputable def clo_X4_enters (as : List mm_V) (z : mm_S) (kk : Option mm_V → mm_S → Option mm_R) : Option mm_R := mm_pr as fun t o0 as => bif Nat.beq t 4 then mm_pi as fun a1 as => mm_pi as fun a2 as => mm_pi as fun a3 as => (match as with | [] => (sX4_enters a1 a2 a3 z).bind fun q => kk (some (mm_I q.1)) q.2 | _ => none) else none
noncomputable def lV_X4_book : List (Nat × (List mm_V → mm_S → (Option mm_V → mm_S → Option mm_R) → Option mm_R)) := [(124, clo_X4_finding), (236, clo_X4_enters)]
noncomputable def mV_X4_book (k : Nat) (as : List mm_V) (z : mm_S) (kk : Option mm_V → mm_S → Option mm_R) : Option mm_R := match mm_at lV_X4_book k with
  | some f => f as z kk
  | none => none
noncomputable def arV_X4_book (k : Nat) : Nat := (mm_at [(124, 2), (236, 4)] k).getD 0
noncomputable def lS_X4_book : List (Nat × (List mm_V → mm_S → (Option mm_V → mm_S → Option mm_R) → Option mm_R)) := [(106, clo_X4_within), (114, clo_X4_isCell)]
noncomputable def mS_X4_book (k : Nat) (as : List mm_V) (z : mm_S) (kk : Option mm_V → mm_S → Option mm_R) : Option mm_R := match mm_at lS_X4_book k with
  | some f => f as z kk
  | none => none
noncomputable def arS_X4_book (k : Nat) : Nat := (mm_at [(106, 3), (114, 1)] k).getD 0
def ct_X4_book : List (Nat × List Nat) := [(31, [0, 1, 2, 3]), (51, [0, 1, 2, 3])]
noncomputable def go_X4_book : Nat → mm_K := mm_go (fun k => mm_at flX4 k) (fun k => mm_at clX4 k) (fun k => mm_at glX4 k) arV_X4_book arS_X4_book mV_X4_book mS_X4_book lenM roM snM 4 0 tbX4_book ct_X4_book
def rm_X4_book : Room := { frames := 2, cells := 0, slots := 0, locals := 42 }
noncomputable def f_X4_book (as : List mm_V) (z : mm_S) (o : mm_R) : Prop := (as.map mm_cat).sum ≤ 4 ∧ ∃ n, go_X4_book n 0 (mm_ar 0 as) [] z = some o
theorem M_X4_book : mm_M lyTM lyFA lenM snM 22 22 17 roM rsA nfA nmA [] yX4_book cX4_book 4 (some .int) rm_X4_book f_X4_book := sorry
noncomputable def sX4_book_51 (y1 : Int32) (y2 : Int32) (y3 : Int32) (z : mm_S) : Option (Int32 × mm_S) := (sX4_enters y1 y2 y3 z).bind fun q5 => some (q5.1, q5.2)
noncomputable def sX4_book_31 (y1 : Int32) (y2 : Int32) (y3 : Int32) (z : mm_S) : Option (Int32 × mm_S) := if (z.1 1 2) = 8 then (sX4_finding (-1000002) z).bind fun q4 => some (q4.1, q4.2) else (sX4_book_51 y1 y2 y3 z)
noncomputable def sX4_book_0 (x1 : Int32) (x2 : Int32) (x3 : Int32) (z : mm_S) : Option (Int32 × mm_S) := if (pX4_isCell x1) = 0 then (sX4_finding (-1000001) z).bind fun q1 => some (q1.1, q1.2) else if (pX4_isCell x2) = 0 then (sX4_finding (-1000001) z).bind fun q2 => some (q2.1, q2.2) else if (pX4_within x3 0 99) = 0 then (sX4_finding (-1000001) z).bind fun q3 => some (q3.1, q3.2) else (sX4_book_31 x1 x2 x3 z)
noncomputable def sX4_book (x1 : Int32) (x2 : Int32) (x3 : Int32) (z : mm_S) : Option (Int32 × mm_S) := sX4_book_0 x1 x2 x3 z
theorem sp_X4_book (x1 : Int32) (x2 : Int32) (x3 : Int32) (z : mm_S) (hk : ∀ v ∈ [mm_P 4 0, mm_I x1, mm_I x2, mm_I x3], mm_ok 22 lyTM 22 17 v) (q : Int32 × mm_S) (hq : sX4_book x1 x2 x3 z = some q) : f_X4_book [mm_P 4 0, mm_I x1, mm_I x2, mm_I x3] z (some (mm_I q.1), q.2) := sorry
noncomputable def sX0_heardAt_0 (o : Nat) (x1 : Int32) (x2 : Int32) (z : mm_S) : Option (Int32 × mm_S) := (sX1_timeBetween (o + 1) (pX0_placeOf o x1 z) x2 z).bind fun q1 => some ((pX0_heardBy o x1 q1.1 q1.2), q1.2)
noncomputable def sX0_heardAt (o : Nat) (x1 : Int32) (x2 : Int32) (z : mm_S) : Option (Int32 × mm_S) := sX0_heardAt_0 o x1 x2 z
noncomputable def clo_X0_heardAt (as : List mm_V) (z : mm_S) (kk : Option mm_V → mm_S → Option mm_R) : Option mm_R := mm_pr as fun t o0 as => bif Nat.beq t 0 then mm_pi as fun a1 as => mm_pi as fun a2 as => (match as with | [] => (sX0_heardAt o0 a1 a2 z).bind fun q => kk (some (mm_I q.1)) q.2 | _ => none) else none
noncomputable def sX1_timesFrom_72 (o : Nat) (y2 : Nat) (y3 : Int32) (y4 : Int64) (y6 : Int32) (z : mm_S) : Option ((Nat × Int32 × Int64 × Int32 × mm_S) ⊕ ((Nat × Int32 × mm_S) ⊕ (mm_S))) := some (.inl (y2, y3, y4, (y6 + 1), z))
noncomputable def lX1_timesFrom_37 (o : Nat) (s : Nat × Int32 × Int64 × Int32 × mm_S) : Option ((Nat × Int32 × Int64 × Int32 × mm_S) ⊕ ((Nat × Int32 × mm_S) ⊕ (mm_S))) := if 36 ≤ s.2.2.2.1 then some (.inr (.inl (s.1, (s.2.1 + 1), s.2.2.2.2))) else if (lg_cmp (Int64.toUInt64 s.2.2.1 >>> (Int64.toUInt64 (Int32.toInt64 s.2.2.2.1) &&& Int64.toUInt64 63)).toInt64 0) = 0 then some (.inr (.inl (s.1, (s.2.1 + 1), s.2.2.2.2))) else if (pX3_has s.2.2.1 s.2.2.2.1) = 0 then (sX1_timesFrom_72 o s.1 s.2.1 s.2.2.1 s.2.2.2.1 s.2.2.2.2) else let u4 := (tX3_exchange s.1 s.2.2.2.1 s.2.1 s.2.2.2.2); (sX1_timesFrom_72 o s.1 s.2.1 s.2.2.1 s.2.2.2.1 u4.2)
noncomputable def sX1_timesFrom_37 (o : Nat) (y2 : Nat) (y3 : Int32) (y4 : Int64) (y6 : Int32) (z : mm_S) : Option ((Nat × Int32 × mm_S) ⊕ (mm_S)) := mm_wh (lX1_timesFrom_37 o ) mm_fu (y2, y3, y4, y6, z)
noncomputable def sX1_timesFrom_34 (o : Nat) (y2 : Nat) (y3 : Int32) (y4 : Int64) (z : mm_S) : Option ((Nat × Int32 × mm_S) ⊕ (mm_S)) := (sX1_timesFrom_37 o y2 y3 y4 0 z)
noncomputable def lX1_timesFrom_12 (o : Nat) (s : Nat × Int32 × mm_S) : Option ((Nat × Int32 × mm_S) ⊕ (mm_S)) := if 216 < s.2.1 then some (.inr (s.2.2)) else if (s.2.2.1 o 3) < s.2.1 then some (.inr (s.2.2)) else let u3 := (tX1_cellsComeIntoAt o s.2.1 s.2.2); (sX1_timesFrom_34 o s.1 s.2.1 u3.1 u3.2)
noncomputable def sX1_timesFrom_12 (o : Nat) (y2 : Nat) (y3 : Int32) (z : mm_S) : Option (mm_S) := mm_wh (lX1_timesFrom_12 o ) mm_fu (y2, y3, z)
noncomputable def sX1_timesFrom_10 (o : Nat) (y2 : Nat) (z : mm_S) : Option (mm_S) := (sX1_timesFrom_12 o y2 0 z)
noncomputable def sX1_timesFrom_5 (o : Nat) (y1 : Int32) (y2 : Nat) (z : mm_S) : Option (mm_S) := let u2 := (tX1_knock o y1 z); (sX1_timesFrom_10 o y2 u2)
noncomputable def sX1_timesFrom_0 (o : Nat) (x1 : Int32) (x2 : Nat) (z : mm_S) : Option (mm_S) := let u1 := (tJ7_fill_53178 x2 (-1) z); (sX1_timesFrom_5 o x1 x2 u1)
noncomputable def sX1_timesFrom (o : Nat) (x1 : Int32) (x2 : Nat) (z : mm_S) : Option (mm_S) := sX1_timesFrom_0 o x1 x2 z
noncomputable def clo_X1_timesFrom (as : List mm_V) (z : mm_S) (kk : Option mm_V → mm_S → Option mm_R) : Option mm_R := mm_pr as fun t o0 as => bif Nat.beq t 1 then mm_pi as fun a1 as => mm_pr as fun t o2 as => bif Nat.beq t 10 then (match as with | [] => (sX1_timesFrom o0 a1 o2 z).bind fun q => kk none q | _ => none) else none else none
noncomputable def sX0_fillHeard_37 (o : Nat) (y1 : Int32) (y2 : Nat) (y3 : Int32) (z : mm_S) : Option ((Int32 × Nat × Int32 × mm_S) ⊕ (mm_S)) := some (.inl (y1, y2, (y3 + 1), z))
noncomputable def lX0_fillHeard_15 (o : Nat) (s : Int32 × Nat × Int32 × mm_S) : Option ((Int32 × Nat × Int32 × mm_S) ⊕ (mm_S)) := if 36 ≤ s.2.2.1 then some (.inr (s.2.2.2)) else let u2 := (tX3_exchange s.2.1 s.2.2.1 (pX0_heardBy o s.1 (pX3_at s.2.1 s.2.2.1 s.2.2.2) s.2.2.2) s.2.2.2); (sX0_fillHeard_37 o s.1 s.2.1 s.2.2.1 u2.2)
noncomputable def sX0_fillHeard_15 (o : Nat) (y1 : Int32) (y2 : Nat) (y3 : Int32) (z : mm_S) : Option (mm_S) := mm_wh (lX0_fillHeard_15 o ) mm_fu (y1, y2, y3, z)
noncomputable def sX0_fillHeard_13 (o : Nat) (y1 : Int32) (y2 : Nat) (z : mm_S) : Option (mm_S) := (sX0_fillHeard_15 o y1 y2 0 z)
noncomputable def sX0_fillHeard_0 (o : Nat) (x1 : Int32) (x2 : Nat) (z : mm_S) : Option (mm_S) := (sX1_timesFrom (o + 1) (pX0_placeOf o x1 z) x2 z).bind fun q1 => (sX0_fillHeard_13 o x1 x2 q1)
noncomputable def sX0_fillHeard (o : Nat) (x1 : Int32) (x2 : Nat) (z : mm_S) : Option (mm_S) := sX0_fillHeard_0 o x1 x2 z
noncomputable def clo_X0_fillHeard (as : List mm_V) (z : mm_S) (kk : Option mm_V → mm_S → Option mm_R) : Option mm_R := mm_pr as fun t o0 as => bif Nat.beq t 0 then mm_pi as fun a1 as => mm_pr as fun t o2 as => bif Nat.beq t 10 then (match as with | [] => (sX0_fillHeard o0 a1 o2 z).bind fun q => kk none q | _ => none) else none else none
noncomputable def sX0_reachOf_0 (o : Nat) (x1 : Int32) (z : mm_S) : Option (Int64 × mm_S) := (sX1_cellsWithin (o + 1) (pX0_placeOf o x1 z) (pX0_carriesOf o x1 z) z).bind fun q1 => some (q1.1, q1.2)
noncomputable def sX0_reachOf (o : Nat) (x1 : Int32) (z : mm_S) : Option (Int64 × mm_S) := sX0_reachOf_0 o x1 z
noncomputable def clo_X0_reachOf (as : List mm_V) (z : mm_S) (kk : Option mm_V → mm_S → Option mm_R) : Option mm_R := mm_pr as fun t o0 as => bif Nat.beq t 0 then mm_pi as fun a1 as => (match as with | [] => (sX0_reachOf o0 a1 z).bind fun q => kk (some (mm_J q.1)) q.2 | _ => none) else none
noncomputable def sX0_silentCells_27 (o : Nat) (y1 : Int64) (y3 : Int32) (z : mm_S) : Option ((Int64 × Int32 × mm_S) ⊕ (Int64 × mm_S)) := some (.inl (y1, (y3 + 1), z))
noncomputable def lX0_silentCells_11 (o : Nat) (s : Int64 × Int32 × mm_S) : Option ((Int64 × Int32 × mm_S) ⊕ (Int64 × mm_S)) := if (s.2.2.1 o 4) ≤ s.2.1 then some (.inr ((68719476735 &&& (s.1 ^^^ (-1))), s.2.2)) else (sX0_reachOf o s.2.1 s.2.2).bind fun q1 => (sX0_silentCells_27 o (s.1 ||| q1.1) s.2.1 q1.2)
noncomputable def sX0_silentCells_11 (o : Nat) (y1 : Int64) (y3 : Int32) (z : mm_S) : Option (Int64 × mm_S) := mm_wh (lX0_silentCells_11 o ) mm_fu (y1, y3, z)
noncomputable def sX0_silentCells_0 (o : Nat)  (z : mm_S) : Option (Int64 × mm_S) := (sX0_silentCells_11 o (pX1_cellsOf (o + 1) 2 z) 0 z)
noncomputable def sX0_silentCells (o : Nat)  (z : mm_S) : Option (Int64 × mm_S) := sX0_silentCells_0 o  z
noncomputable def clo_X0_silentCells (as : List mm_V) (z : mm_S) (kk : Option mm_V → mm_S → Option mm_R) : Option mm_R := mm_pr as fun t o0 as => bif Nat.beq t 0 then (match as with | [] => (sX0_silentCells o0 z).bind fun q => kk (some (mm_J q.1)) q.2 | _ => none) else none
noncomputable def lX0_mapNow_9 (o : Nat) (s : Int32 × Int32 × mm_S) : Option ((Int32 × Int32 × mm_S) ⊕ (Int32 × mm_S)) := if s.2.1 < 0 then some (.inr (s.1, s.2.2)) else let v1 : Int32 := ((s.1 * 5) + (pX1_stuffAt (o + 1) (pX3_at (o + 7) s.2.1 s.2.2) s.2.2)); let v2 : Int32 := (s.2.1 + (-1)); some (.inl (v1, v2, s.2.2))
noncomputable def sX0_mapNow_9 (o : Nat) (y1 : Int32) (y2 : Int32) (z : mm_S) : Option (Int32 × mm_S) := mm_wh (lX0_mapNow_9 o ) mm_fu (y1, y2, z)
noncomputable def sX0_mapNow_0 (o : Nat)  (z : mm_S) : Option (Int32 × mm_S) := (sX0_mapNow_9 o 0 ((z.1 o 6) - 1) z)
noncomputable def sX0_mapNow (o : Nat)  (z : mm_S) : Option (Int32 × mm_S) := sX0_mapNow_0 o  z
noncomputable def clo_X0_mapNow (as : List mm_V) (z : mm_S) (kk : Option mm_V → mm_S → Option mm_R) : Option mm_R := mm_pr as fun t o0 as => bif Nat.beq t 0 then (match as with | [] => (sX0_mapNow o0 z).bind fun q => kk (some (mm_I q.1)) q.2 | _ => none) else none
noncomputable def sX0_layMap_30 (o : Nat) (y2 : Int32) (y3 : Int32) (z : mm_S) : Option ((Int32 × Int32 × mm_S) ⊕ (mm_S)) := some (.inl ((y2 / 5), (y3 + 1), z))
noncomputable def lX0_layMap_4 (o : Nat) (s : Int32 × Int32 × mm_S) : Option ((Int32 × Int32 × mm_S) ⊕ (mm_S)) := if (s.2.2.1 o 6) ≤ s.2.1 then some (.inr (s.2.2)) else let u1 := (tX1_put (o + 1) (pX3_at (o + 7) s.2.1 s.2.2) (s.1 - s.1 / 5 * 5) s.2.2); (sX0_layMap_30 o s.1 s.2.1 u1)
noncomputable def sX0_layMap_4 (o : Nat) (y2 : Int32) (y3 : Int32) (z : mm_S) : Option (mm_S) := mm_wh (lX0_layMap_4 o ) mm_fu (y2, y3, z)
noncomputable def sX0_layMap_0 (o : Nat) (x1 : Int32) (z : mm_S) : Option (mm_S) := (sX0_layMap_4 o x1 0 z)
noncomputable def sX0_layMap (o : Nat) (x1 : Int32) (z : mm_S) : Option (mm_S) := sX0_layMap_0 o x1 z
noncomputable def clo_X0_layMap (as : List mm_V) (z : mm_S) (kk : Option mm_V → mm_S → Option mm_R) : Option mm_R := mm_pr as fun t o0 as => bif Nat.beq t 0 then mm_pi as fun a1 as => (match as with | [] => (sX0_layMap o0 a1 z).bind fun q => kk none q | _ => none) else none
noncomputable def sX0_firstWrong_34 (o : Nat) (y1 : Int32) (y2 : Int32) (z : mm_S) : Option ((Int32 × mm_S) ⊕ (Int32 × mm_S)) := if y2 = (-1) then if 99 = (pX3_at (o + 10) y1 z) then some (.inl ((y1 + 1), z)) else some (.inr (y1, z)) else if (mm_min y2 99) = (pX3_at (o + 10) y1 z) then some (.inl ((y1 + 1), z)) else some (.inr (y1, z))
noncomputable def lX0_firstWrong_2 (o : Nat) (s : Int32 × mm_S) : Option ((Int32 × mm_S) ⊕ (Int32 × mm_S)) := if (s.2.1 o 10) ≤ s.1 then some (.inr ((-1), s.2)) else (sX1_timeBetween (o + 1) (pX3_at (o + 8) s.1 s.2) (pX3_at (o + 9) s.1 s.2) s.2).bind fun q1 => (sX0_firstWrong_34 o s.1 q1.1 q1.2)
noncomputable def sX0_firstWrong_2 (o : Nat) (y1 : Int32) (z : mm_S) : Option (Int32 × mm_S) := mm_wh (lX0_firstWrong_2 o ) mm_fu (y1, z)
noncomputable def sX0_firstWrong_0 (o : Nat)  (z : mm_S) : Option (Int32 × mm_S) := (sX0_firstWrong_2 o 0 z)
noncomputable def sX0_firstWrong (o : Nat)  (z : mm_S) : Option (Int32 × mm_S) := sX0_firstWrong_0 o  z
noncomputable def clo_X0_firstWrong (as : List mm_V) (z : mm_S) (kk : Option mm_V → mm_S → Option mm_R) : Option mm_R := mm_pr as fun t o0 as => bif Nat.beq t 0 then (match as with | [] => (sX0_firstWrong o0 z).bind fun q => kk (some (mm_I q.1)) q.2 | _ => none) else none
noncomputable def sX1_timesTo_54 (o : Nat) (y2 : Nat) (y3 : Int32) (y4 : Int32) (z : mm_S) : Option ((Nat × Int32 × Int32 × mm_S) ⊕ (mm_S)) := some (.inl (y2, y3, (y4 + 1), z))
noncomputable def lX1_timesTo_15 (o : Nat) (s : Nat × Int32 × Int32 × mm_S) : Option ((Nat × Int32 × Int32 × mm_S) ⊕ (mm_S)) := if 36 ≤ s.2.2.1 then some (.inr (s.2.2.2)) else if (pX3_at s.1 s.2.2.1 s.2.2.2) = (-1) then (sX1_timesTo_54 o s.1 s.2.1 s.2.2.1 s.2.2.2) else let u2 := (tX3_exchange s.1 s.2.2.1 (((pX3_at s.1 s.2.2.1 s.2.2.2) + s.2.1) - (pX1_paceOf o s.2.2.1 s.2.2.2)) s.2.2.2); (sX1_timesTo_54 o s.1 s.2.1 s.2.2.1 u2.2)
noncomputable def sX1_timesTo_15 (o : Nat) (y2 : Nat) (y3 : Int32) (y4 : Int32) (z : mm_S) : Option (mm_S) := mm_wh (lX1_timesTo_15 o ) mm_fu (y2, y3, y4, z)
noncomputable def sX1_timesTo_6 (o : Nat) (y1 : Int32) (y2 : Nat) (z : mm_S) : Option (mm_S) := (sX1_timesTo_15 o y2 (pX1_paceOf o y1 z) 0 z)
noncomputable def sX1_timesTo_0 (o : Nat) (x1 : Int32) (x2 : Nat) (z : mm_S) : Option (mm_S) := (sX1_timesFrom o x1 x2 z).bind fun q1 => (sX1_timesTo_6 o x1 x2 q1)
noncomputable def sX1_timesTo (o : Nat) (x1 : Int32) (x2 : Nat) (z : mm_S) : Option (mm_S) := sX1_timesTo_0 o x1 x2 z
noncomputable def clo_X1_timesTo (as : List mm_V) (z : mm_S) (kk : Option mm_V → mm_S → Option mm_R) : Option mm_R := mm_pr as fun t o0 as => bif Nat.beq t 1 then mm_pi as fun a1 as => mm_pr as fun t o2 as => bif Nat.beq t 10 then (match as with | [] => (sX1_timesTo o0 a1 o2 z).bind fun q => kk none q | _ => none) else none else none
noncomputable def sX2_add_23  (z : mm_S) : Option (mm_S) := some (z)
noncomputable def sX2_add_13  (z : mm_S) : Option (mm_S) := (sX2_add_23 ((mm_ui z.1 37 1 ((z.1 37 1) + 1)), z.2))
noncomputable def sX2_add_0 (x1 : Int32) (z : mm_S) : Option (mm_S) := let u1 := (tX3_exchange 38 (z.1 37 1) x1 z); (sX2_add_13 u1.2)
noncomputable def sX2_add (x1 : Int32) (z : mm_S) : Option (mm_S) := sX2_add_0 x1 z
noncomputable def clo_X2_add (as : List mm_V) (z : mm_S) (kk : Option mm_V → mm_S → Option mm_R) : Option mm_R := mm_pr as fun t o0 as => bif Nat.beq t 2 then mm_pi as fun a1 as => (match as with | [] => (sX2_add a1 z).bind fun q => kk none q | _ => none) else none
noncomputable def pX2_isLetter (x1 : Int32) (z : mm_S) : Int32 := if x1 < 97 then 0 else if 122 < x1 then 0 else 1
noncomputable def sX2_endWord_38  (z : mm_S) : Option ((mm_S) ⊕ (mm_S)) := some (.inl z)
noncomputable def sX2_endWord_22 (w0 : Int32) (z : mm_S) : Option ((mm_S) ⊕ (mm_S)) := if (pX2_isLetter w0 z) = 0 then some (.inr (z)) else (sX2_endWord_38 ((mm_ui z.1 37 4 ((z.1 37 4) + 1)), z.2))
noncomputable def lX2_endWord_0 (s : mm_S) : Option ((mm_S) ⊕ (mm_S)) := if (s.1 37 1) ≤ (s.1 37 4) then some (.inr (s)) else (sX2_endWord_22 (pX3_at 38 (s.1 37 4) s) s)
noncomputable def sX2_endWord_0  (z : mm_S) : Option (mm_S) := mm_wh (lX2_endWord_0 ) mm_fu z
noncomputable def sX2_endWord  (z : mm_S) : Option (mm_S) := sX2_endWord_0  z
noncomputable def pX2_isDigit (x1 : Int32) (z : mm_S) : Int32 := if x1 < 48 then 0 else if 57 < x1 then 0 else 1
noncomputable def sX2_endNumber_77  (z : mm_S) : Option ((mm_S) ⊕ (mm_S)) := some (.inl z)
noncomputable def sX2_endNumber_67  (z : mm_S) : Option ((mm_S) ⊕ (mm_S)) := (sX2_endNumber_77 ((mm_ui z.1 37 4 ((z.1 37 4) + 1)), z.2))
noncomputable def sX2_endNumber_27 (w0 : Int32) (z : mm_S) : Option ((mm_S) ⊕ (mm_S)) := if (pX2_isDigit w0 z) = 0 then some (.inr (z)) else let u1 : mm_S := ((mm_ui z.1 37 5 (mm_min (((z.1 37 5) * 10) + ((pX3_at 38 (z.1 37 4) z) - 48)) 1000)), z.2); (sX2_endNumber_67 u1)
noncomputable def lX2_endNumber_5 (s : mm_S) : Option ((mm_S) ⊕ (mm_S)) := if (s.1 37 1) ≤ (s.1 37 4) then some (.inr (s)) else (sX2_endNumber_27 (pX3_at 38 (s.1 37 4) s) s)
noncomputable def sX2_endNumber_5  (z : mm_S) : Option (mm_S) := mm_wh (lX2_endNumber_5 ) mm_fu z
noncomputable def sX2_endNumber_0  (z : mm_S) : Option (mm_S) := (sX2_endNumber_5 ((mm_ui z.1 37 5 0), z.2))
noncomputable def sX2_endNumber  (z : mm_S) : Option (mm_S) := sX2_endNumber_0  z
noncomputable def sX2_nextToken_45  (z : mm_S) : Option ((mm_S) ⊕ (mm_S)) := some (.inl z)
noncomputable def sX2_nextToken_150  (z : mm_S) : Option (mm_S) := some (z)
noncomputable def sX2_nextToken_84  (z : mm_S) : Option (mm_S) := (sX2_nextToken_150 z)
noncomputable def sX2_nextToken_103  (z : mm_S) : Option (mm_S) := (sX2_nextToken_150 z)
noncomputable def sX2_nextToken_99  (z : mm_S) : Option (mm_S) := (sX2_endWord  z).bind fun q2 => (sX2_nextToken_103 q2)
noncomputable def sX2_nextToken_122  (z : mm_S) : Option (mm_S) := (sX2_nextToken_150 z)
noncomputable def sX2_nextToken_118  (z : mm_S) : Option (mm_S) := (sX2_endNumber  z).bind fun q1 => (sX2_nextToken_122 q1)
noncomputable def sX2_nextToken_140  (z : mm_S) : Option (mm_S) := (sX2_nextToken_150 ((mm_ui z.1 37 4 ((z.1 37 3) + 1)), z.2))
noncomputable def sX2_nextToken_68 (y1 : Int32) (z : mm_S) : Option (mm_S) := if (z.1 37 3) < (z.1 37 1) then if (pX2_isLetter y1 z) = 0 then if (pX2_isDigit y1 z) = 0 then if y1 = 59 then (sX2_nextToken_140 ((mm_ui z.1 37 2 3), z.2)) else (sX2_nextToken_140 ((mm_ui z.1 37 2 4), z.2)) else (sX2_nextToken_118 ((mm_ui z.1 37 2 2), z.2)) else (sX2_nextToken_99 ((mm_ui z.1 37 2 1), z.2)) else (sX2_nextToken_84 ((mm_ui z.1 37 2 0), z.2))
noncomputable def sX2_nextToken_56  (z : mm_S) : Option (mm_S) := (sX2_nextToken_68 (pX3_at 38 (z.1 37 3) z) z)
noncomputable def lX2_nextToken_8 (s : mm_S) : Option ((mm_S) ⊕ (mm_S)) := if (s.1 37 1) ≤ (s.1 37 3) then ((sX2_nextToken_56 ((mm_ui s.1 37 4 (s.1 37 3)), s.2)).map fun w => (Sum.inr w)) else if (pX3_at 38 (s.1 37 3) s) = 32 then (sX2_nextToken_45 ((mm_ui s.1 37 3 ((s.1 37 3) + 1)), s.2)) else ((sX2_nextToken_56 ((mm_ui s.1 37 4 (s.1 37 3)), s.2)).map fun w => (Sum.inr w))
noncomputable def sX2_nextToken_8  (z : mm_S) : Option (mm_S) := mm_wh (lX2_nextToken_8 ) mm_fu z
noncomputable def sX2_nextToken_0  (z : mm_S) : Option (mm_S) := (sX2_nextToken_8 ((mm_ui z.1 37 3 (z.1 37 4)), z.2))
noncomputable def sX2_nextToken  (z : mm_S) : Option (mm_S) := sX2_nextToken_0  z
noncomputable def pX2_isNumber (x1 : Int32) (x2 : Int32) (z : mm_S) : Int32 := if (z.1 37 2) = 2 then if (pX3_lies (z.1 37 5) x1 x2) = 0 then 0 else 1 else 0
noncomputable def sX2_readHeard_83  (z : mm_S) : Option (Int32 × mm_S) := some (1, z)
noncomputable def sX2_readHeard_79  (z : mm_S) : Option (Int32 × mm_S) := (sX2_nextToken  z).bind fun q5 => (sX2_readHeard_83 q5)
noncomputable def sX2_readHeard_57 (y1 : Nat) (y2 : Int32) (y3 : Int32) (z : mm_S) : Option (Int32 × mm_S) := if (pX2_isNumber 0 99 z) = 0 then some (0, z) else let u4 := (tX0_addBook y1 y2 y3 (z.1 37 5) z); (sX2_readHeard_79 u4)
noncomputable def sX2_readHeard_36 (y1 : Nat) (y2 : Int32) (z : mm_S) : Option (Int32 × mm_S) := if (pX2_isNumber 0 35 z) = 0 then some (0, z) else (sX2_nextToken  z).bind fun q3 => (sX2_readHeard_57 y1 y2 (z.1 37 5) q3)
noncomputable def sX2_readHeard_15 (y1 : Nat) (z : mm_S) : Option (Int32 × mm_S) := if (pX2_isNumber 0 35 z) = 0 then some (0, z) else (sX2_nextToken  z).bind fun q2 => (sX2_readHeard_36 y1 (z.1 37 5) q2)
noncomputable def sX2_readHeard_0 (x1 : Nat) (z : mm_S) : Option (Int32 × mm_S) := if (z.1 x1 10) < 8 then (sX2_nextToken  z).bind fun q1 => (sX2_readHeard_15 x1 q1) else some (0, z)
noncomputable def sX2_readHeard (x1 : Nat) (z : mm_S) : Option (Int32 × mm_S) := sX2_readHeard_0 x1 z
noncomputable def sX2_readUnsure_49  (z : mm_S) : Option (Int32 × mm_S) := some (1, z)
noncomputable def sX2_readUnsure_45  (z : mm_S) : Option (Int32 × mm_S) := (sX2_nextToken  z).bind fun q3 => (sX2_readUnsure_49 q3)
noncomputable def sX2_readUnsure_14 (y1 : Nat) (z : mm_S) : Option (Int32 × mm_S) := if (pX2_isNumber 0 35 z) = 0 then some (0, z) else if (pX0_isUnsure y1 (z.1 37 5) z) = 0 then let u2 := (tX0_addUnsure y1 (z.1 37 5) z); (sX2_readUnsure_45 u2) else some (0, z)
noncomputable def sX2_readUnsure_0 (x1 : Nat) (z : mm_S) : Option (Int32 × mm_S) := if (z.1 x1 6) < 4 then (sX2_nextToken  z).bind fun q1 => (sX2_readUnsure_14 x1 q1) else some (0, z)
noncomputable def sX2_readUnsure (x1 : Nat) (z : mm_S) : Option (Int32 × mm_S) := sX2_readUnsure_0 x1 z
noncomputable def sX3_finding_19 (y1 : Int32) (z : mm_S) : Option (Int32 × mm_S) := some (((-1000001) - y1), z)
noncomputable def sX3_finding_0 (x1 : Int32) (z : mm_S) : Option (Int32 × mm_S) := let u1 := (tX3_exchange 42 x1 ((pX3_at 42 x1 z) + 1) z); (sX3_finding_19 x1 u1.2)
noncomputable def sX3_finding (x1 : Int32) (z : mm_S) : Option (Int32 × mm_S) := sX3_finding_0 x1 z
noncomputable def clo_X3_finding (as : List mm_V) (z : mm_S) (kk : Option mm_V → mm_S → Option mm_R) : Option mm_R := mm_pr as fun t o0 as => bif Nat.beq t 3 then mm_pi as fun a1 as => (match as with | [] => (sX3_finding a1 z).bind fun q => kk (some (mm_I q.1)) q.2 | _ => none) else none
noncomputable def lV_X3_stuff : List (Nat × (List mm_V → mm_S → (Option mm_V → mm_S → Option mm_R) → Option mm_R)) := [(59, clo_X3_finding), (67, clo_X1_stuffAt), (72, clo_X1_put)]
noncomputable def mV_X3_stuff (k : Nat) (as : List mm_V) (z : mm_S) (kk : Option mm_V → mm_S → Option mm_R) : Option mm_R := match mm_at lV_X3_stuff k with
  | some f => f as z kk
  | none => none
noncomputable def arV_X3_stuff (k : Nat) : Nat := (mm_at [(59, 2), (67, 2), (72, 3)] k).getD 0
noncomputable def lS_X3_stuff : List (Nat × (List mm_V → mm_S → (Option mm_V → mm_S → Option mm_R) → Option mm_R)) := [(52, clo_X3_isCell), (56, clo_X3_isStuff)]
noncomputable def mS_X3_stuff (k : Nat) (as : List mm_V) (z : mm_S) (kk : Option mm_V → mm_S → Option mm_R) : Option mm_R := match mm_at lS_X3_stuff k with
  | some f => f as z kk
  | none => none
noncomputable def arS_X3_stuff (k : Nat) : Nat := (mm_at [(52, 1), (56, 1)] k).getD 0
def ct_X3_stuff : List (Nat × List Nat) := [(20, [0, 1, 2]), (44, [3])]
noncomputable def go_X3_stuff : Nat → mm_K := mm_go (fun k => mm_at flX3 k) (fun k => mm_at clX3 k) (fun k => mm_at glX3 k) arV_X3_stuff arS_X3_stuff mV_X3_stuff mS_X3_stuff lenX roX snX 4 0 tbX3_stuff ct_X3_stuff
def rm_X3_stuff : Room := { frames := 3, cells := 0, slots := 0, locals := 65 }
noncomputable def f_X3_stuff (as : List mm_V) (z : mm_S) (o : mm_R) : Prop := (as.map mm_cat).sum ≤ 4 ∧ ∃ n, go_X3_stuff n 0 (mm_ar 0 as) [] z = some o
theorem M_X3_stuff : mm_M lyTX lyFA lenX snX 46 48 17 roX rsA nfA nmA ssX yX3_stuff cX3_stuff 4 (some .int) rm_X3_stuff f_X3_stuff := sorry
noncomputable def sX3_stuff_44 (y3 : Int32) (z : mm_S) : Option (Int32 × mm_S) := some (y3, z)
noncomputable def sX3_stuff_20 (y1 : Int32) (y2 : Int32) (z : mm_S) : Option (Int32 × mm_S) := let u3 := (tX1_put 2 y1 y2 z); (sX3_stuff_44 (pX1_stuffAt 2 y1 z) u3)
noncomputable def sX3_stuff_0 (x1 : Int32) (x2 : Int32) (z : mm_S) : Option (Int32 × mm_S) := if (pX3_isCell x1) = 0 then (sX3_finding 0 z).bind fun q1 => some (q1.1, q1.2) else if (pX3_isStuff x2) = 0 then (sX3_finding 0 z).bind fun q2 => some (q2.1, q2.2) else (sX3_stuff_20 x1 x2 z)
noncomputable def sX3_stuff (x1 : Int32) (x2 : Int32) (z : mm_S) : Option (Int32 × mm_S) := sX3_stuff_0 x1 x2 z
theorem sp_X3_stuff (x1 : Int32) (x2 : Int32) (z : mm_S) (hk : ∀ v ∈ [mm_P 3 0, mm_I x1, mm_I x2], mm_ok 46 lyTX 48 17 v) (q : Int32 × mm_S) (hq : sX3_stuff x1 x2 z = some q) : f_X3_stuff [mm_P 3 0, mm_I x1, mm_I x2] z (some (mm_I q.1), q.2) := sorry
noncomputable def lV_X3_crew : List (Nat × (List mm_V → mm_S → (Option mm_V → mm_S → Option mm_R) → Option mm_R)) := [(59, clo_X3_finding), (83, clo_X0_addCrew)]
noncomputable def mV_X3_crew (k : Nat) (as : List mm_V) (z : mm_S) (kk : Option mm_V → mm_S → Option mm_R) : Option mm_R := match mm_at lV_X3_crew k with
  | some f => f as z kk
  | none => none
noncomputable def arV_X3_crew (k : Nat) : Nat := (mm_at [(59, 2), (83, 4)] k).getD 0
noncomputable def lS_X3_crew : List (Nat × (List mm_V → mm_S → (Option mm_V → mm_S → Option mm_R) → Option mm_R)) := [(52, clo_X3_isCell), (76, clo_X3_isKind)]
noncomputable def mS_X3_crew (k : Nat) (as : List mm_V) (z : mm_S) (kk : Option mm_V → mm_S → Option mm_R) : Option mm_R := match mm_at lS_X3_crew k with
  | some f => f as z kk
  | none => none
noncomputable def arS_X3_crew (k : Nat) : Nat := (mm_at [(52, 1), (76, 1)] k).getD 0
def ct_X3_crew : List (Nat × List Nat) := [(20, [0, 1, 2]), (38, [0, 1, 2]), (49, [0])]
noncomputable def go_X3_crew : Nat → mm_K := mm_go (fun k => mm_at flX3 k) (fun k => mm_at clX3 k) (fun k => mm_at glX3 k) arV_X3_crew arS_X3_crew mV_X3_crew mS_X3_crew lenX roX snX 3 0 tbX3_crew ct_X3_crew
def rm_X3_crew : Room := { frames := 2, cells := 0, slots := 0, locals := 46 }
noncomputable def f_X3_crew (as : List mm_V) (z : mm_S) (o : mm_R) : Prop := (as.map mm_cat).sum ≤ 3 ∧ ∃ n, go_X3_crew n 0 (mm_ar 0 as) [] z = some o
theorem M_X3_crew : mm_M lyTX lyFA lenX snX 46 48 17 roX rsA nfA nmA ssX yX3_crew cX3_crew 3 (some .int) rm_X3_crew f_X3_crew := sorry
noncomputable def sX3_crew_49  (z : mm_S) : Option (Int32 × mm_S) := some (((z.1 1 4) - 1), z)
noncomputable def sX3_crew_38 (y1 : Int32) (y2 : Int32) (z : mm_S) : Option (Int32 × mm_S) := let u4 := (tX0_addCrew 1 y1 y2 6 z); (sX3_crew_49 u4)
noncomputable def sX3_crew_20 (y1 : Int32) (y2 : Int32) (z : mm_S) : Option (Int32 × mm_S) := if (z.1 1 4) < 6 then (sX3_crew_38 y1 y2 z) else (sX3_finding 1 z).bind fun q3 => some (q3.1, q3.2)
noncomputable def sX3_crew_0 (x1 : Int32) (x2 : Int32) (z : mm_S) : Option (Int32 × mm_S) := if (pX3_isKind x1) = 0 then (sX3_finding 0 z).bind fun q1 => some (q1.1, q1.2) else if (pX3_isCell x2) = 0 then (sX3_finding 0 z).bind fun q2 => some (q2.1, q2.2) else (sX3_crew_20 x1 x2 z)
noncomputable def sX3_crew (x1 : Int32) (x2 : Int32) (z : mm_S) : Option (Int32 × mm_S) := sX3_crew_0 x1 x2 z
theorem sp_X3_crew (x1 : Int32) (x2 : Int32) (z : mm_S) (hk : ∀ v ∈ [mm_P 3 0, mm_I x1, mm_I x2], mm_ok 46 lyTX 48 17 v) (q : Int32 × mm_S) (hq : sX3_crew x1 x2 z = some q) : f_X3_crew [mm_P 3 0, mm_I x1, mm_I x2] z (some (mm_I q.1), q.2) := sorry
noncomputable def pX3_isCrew (x1 : Int32) (z : mm_S) : Int32 := (pX3_lies x1 0 ((z.1 1 4) - 1))
noncomputable def clo_X3_isCrew (as : List mm_V) (z : mm_S) (kk : Option mm_V → mm_S → Option mm_R) : Option mm_R := mm_pr as fun t o0 as => bif Nat.beq t 3 then mm_pi as fun a1 as => (match as with | [] => kk (some (mm_I (pX3_isCrew a1 z))) z | _ => none) else none
noncomputable def lV_X3_of : List (Nat × (List mm_V → mm_S → (Option mm_V → mm_S → Option mm_R) → Option mm_R)) := [(59, clo_X3_finding), (87, clo_X3_isCrew), (90, clo_X0_kindOf), (93, clo_X0_placeOf), (96, clo_X0_forceOf), (99, clo_X0_carriesOf)]
noncomputable def mV_X3_of (k : Nat) (as : List mm_V) (z : mm_S) (kk : Option mm_V → mm_S → Option mm_R) : Option mm_R := match mm_at lV_X3_of k with
  | some f => f as z kk
  | none => none
noncomputable def arV_X3_of (k : Nat) : Nat := (mm_at [(59, 2), (87, 2), (90, 2), (93, 2), (96, 2), (99, 2)] k).getD 0
noncomputable def lS_X3_of : List (Nat × (List mm_V → mm_S → (Option mm_V → mm_S → Option mm_R) → Option mm_R)) := [(102, clo_X3_startsAs), (105, clo_X3_hearsByAs)]
noncomputable def mS_X3_of (k : Nat) (as : List mm_V) (z : mm_S) (kk : Option mm_V → mm_S → Option mm_R) : Option mm_R := match mm_at lS_X3_of k with
  | some f => f as z kk
  | none => none
noncomputable def arS_X3_of (k : Nat) : Nat := (mm_at [(102, 1), (105, 1)] k).getD 0
def ct_X3_of : List (Nat × List Nat) := [(14, [0, 1, 2])]
noncomputable def go_X3_of : Nat → mm_K := mm_go (fun k => mm_at flX3 k) (fun k => mm_at clX3 k) (fun k => mm_at glX3 k) arV_X3_of arS_X3_of mV_X3_of mS_X3_of lenX roX snX 3 0 tbX3_of ct_X3_of
def rm_X3_of : Room := { frames := 3, cells := 0, slots := 0, locals := 63 }
noncomputable def f_X3_of (as : List mm_V) (z : mm_S) (o : mm_R) : Prop := (as.map mm_cat).sum ≤ 3 ∧ ∃ n, go_X3_of n 0 (mm_ar 0 as) [] z = some o
theorem M_X3_of : mm_M lyTX lyFA lenX snX 46 48 17 roX rsA nfA nmA ssX yX3_of cX3_of 3 (some .int) rm_X3_of f_X3_of := sorry
noncomputable def sX3_of_14 (y1 : Int32) (y2 : Int32) (z : mm_S) : Option (Int32 × mm_S) := if y2 = 0 then some ((pX0_kindOf 1 y1 z), z) else if y2 = 1 then some ((pX0_placeOf 1 y1 z), z) else if y2 = 2 then some ((pX0_forceOf 1 y1 z), z) else if y2 = 3 then some ((pX0_carriesOf 1 y1 z), z) else if y2 = 4 then some ((pX3_startsAs (pX0_kindOf 1 y1 z)), z) else if y2 = 5 then some ((pX3_hearsByAs (pX0_kindOf 1 y1 z)), z) else (sX3_finding 0 z).bind fun q2 => some (q2.1, q2.2)
noncomputable def sX3_of_0 (x1 : Int32) (x2 : Int32) (z : mm_S) : Option (Int32 × mm_S) := if (pX3_isCrew x1 z) = 0 then (sX3_finding 0 z).bind fun q1 => some (q1.1, q1.2) else (sX3_of_14 x1 x2 z)
noncomputable def sX3_of (x1 : Int32) (x2 : Int32) (z : mm_S) : Option (Int32 × mm_S) := sX3_of_0 x1 x2 z
theorem sp_X3_of (x1 : Int32) (x2 : Int32) (z : mm_S) (hk : ∀ v ∈ [mm_P 3 0, mm_I x1, mm_I x2], mm_ok 46 lyTX 48 17 v) (q : Int32 × mm_S) (hq : sX3_of x1 x2 z = some q) : f_X3_of [mm_P 3 0, mm_I x1, mm_I x2] z (some (mm_I q.1), q.2) := sorry
noncomputable def lV_X3_change : List (Nat × (List mm_V → mm_S → (Option mm_V → mm_S → Option mm_R) → Option mm_R)) := [(59, clo_X3_finding), (87, clo_X3_isCrew)]
noncomputable def mV_X3_change (k : Nat) (as : List mm_V) (z : mm_S) (kk : Option mm_V → mm_S → Option mm_R) : Option mm_R := match mm_at lV_X3_change k with
  | some f => f as z kk
  | none => none
noncomputable def arV_X3_change (k : Nat) : Nat := (mm_at [(59, 2), (87, 2)] k).getD 0
noncomputable def lS_X3_change : List (Nat × (List mm_V → mm_S → (Option mm_V → mm_S → Option mm_R) → Option mm_R)) := [(52, clo_X3_isCell), (76, clo_X3_isKind), (111, clo_X3_exchange), (118, clo_X3_lies)]
noncomputable def mS_X3_change (k : Nat) (as : List mm_V) (z : mm_S) (kk : Option mm_V → mm_S → Option mm_R) : Option mm_R := match mm_at lS_X3_change k with
  | some f => f as z kk
  | none => none
noncomputable def arS_X3_change (k : Nat) : Nat := (mm_at [(52, 1), (76, 1), (111, 3), (118, 3)] k).getD 0
def ct_X3_change : List (Nat × List Nat) := [(14, [0, 1, 2, 3]), (38, [0, 1, 2, 3]), (63, [0, 1, 2, 3]), (91, [0])]
noncomputable def go_X3_change : Nat → mm_K := mm_go (fun k => mm_at flX3 k) (fun k => mm_at clX3 k) (fun k => mm_at glX3 k) arV_X3_change arS_X3_change mV_X3_change mS_X3_change lenX roX snX 4 0 tbX3_change ct_X3_change
def rm_X3_change : Room := { frames := 2, cells := 0, slots := 0, locals := 44 }
noncomputable def f_X3_change (as : List mm_V) (z : mm_S) (o : mm_R) : Prop := (as.map mm_cat).sum ≤ 4 ∧ ∃ n, go_X3_change n 0 (mm_ar 0 as) [] z = some o
theorem M_X3_change : mm_M lyTX lyFA lenX snX 46 48 17 roX rsA nfA nmA ssX yX3_change cX3_change 4 (some .int) rm_X3_change f_X3_change := sorry
noncomputable def sX3_change_91  (z : mm_S) : Option (Int32 × mm_S) := (sX3_finding 0 z).bind fun q5 => some (q5.1, q5.2)
noncomputable def sX3_change_63 (y1 : Int32) (y2 : Int32) (y3 : Int32) (z : mm_S) : Option (Int32 × mm_S) := if y2 = 2 then if (pX3_lies y3 1 20) = 0 then (sX3_change_91 z) else let u4 := (tX3_exchange 7 y1 y3 z); some (u4.1, u4.2) else (sX3_change_91 z)
noncomputable def sX3_change_38 (y1 : Int32) (y2 : Int32) (y3 : Int32) (z : mm_S) : Option (Int32 × mm_S) := if y2 = 1 then if (pX3_isCell y3) = 0 then (sX3_change_63 y1 y2 y3 z) else let u3 := (tX3_exchange 6 y1 y3 z); some (u3.1, u3.2) else (sX3_change_63 y1 y2 y3 z)
noncomputable def sX3_change_14 (y1 : Int32) (y2 : Int32) (y3 : Int32) (z : mm_S) : Option (Int32 × mm_S) := if y2 = 0 then if (pX3_isKind y3) = 0 then (sX3_change_38 y1 y2 y3 z) else let u2 := (tX3_exchange 5 y1 y3 z); some (u2.1, u2.2) else (sX3_change_38 y1 y2 y3 z)
noncomputable def sX3_change_0 (x1 : Int32) (x2 : Int32) (x3 : Int32) (z : mm_S) : Option (Int32 × mm_S) := if (pX3_isCrew x1 z) = 0 then (sX3_finding 0 z).bind fun q1 => some (q1.1, q1.2) else (sX3_change_14 x1 x2 x3 z)
noncomputable def sX3_change (x1 : Int32) (x2 : Int32) (x3 : Int32) (z : mm_S) : Option (Int32 × mm_S) := sX3_change_0 x1 x2 x3 z
theorem sp_X3_change (x1 : Int32) (x2 : Int32) (x3 : Int32) (z : mm_S) (hk : ∀ v ∈ [mm_P 3 0, mm_I x1, mm_I x2, mm_I x3], mm_ok 46 lyTX 48 17 v) (q : Int32 × mm_S) (hq : sX3_change x1 x2 x3 z = some q) : f_X3_change [mm_P 3 0, mm_I x1, mm_I x2, mm_I x3] z (some (mm_I q.1), q.2) := sorry
noncomputable def lV_X3_cells : List (Nat × (List mm_V → mm_S → (Option mm_V → mm_S → Option mm_R) → Option mm_R)) := [(59, clo_X3_finding), (125, clo_X1_cellsOf)]
noncomputable def mV_X3_cells (k : Nat) (as : List mm_V) (z : mm_S) (kk : Option mm_V → mm_S → Option mm_R) : Option mm_R := match mm_at lV_X3_cells k with
  | some f => f as z kk
  | none => none
noncomputable def arV_X3_cells (k : Nat) : Nat := (mm_at [(59, 2), (125, 2)] k).getD 0
noncomputable def lS_X3_cells : List (Nat × (List mm_V → mm_S → (Option mm_V → mm_S → Option mm_R) → Option mm_R)) := [(56, clo_X3_isStuff)]
noncomputable def mS_X3_cells (k : Nat) (as : List mm_V) (z : mm_S) (kk : Option mm_V → mm_S → Option mm_R) : Option mm_R := match mm_at lS_X3_cells k with
  | some f => f as z kk
  | none => none
noncomputable def arS_X3_cells (k : Nat) : Nat := (mm_at [(56, 1)] k).getD 0
def ct_X3_cells : List (Nat × List Nat) := []
noncomputable def go_X3_cells : Nat → mm_K := mm_go (fun k => mm_at flX3 k) (fun k => mm_at clX3 k) (fun k => mm_at glX3 k) arV_X3_cells arS_X3_cells mV_X3_cells mS_X3_cells lenX roX snX 2 2 tbX3_cells ct_X3_cells
def rm_X3_cells : Room := { frames := 2, cells := 0, slots := 0, locals := 44 }
noncomputable def f_X3_cells (as : List mm_V) (z : mm_S) (o : mm_R) : Prop := (as.map mm_cat).sum ≤ 2 ∧ ∃ n, go_X3_cells n 0 (mm_ar 0 as) [] z = some o
theorem M_X3_cells : mm_M lyTX lyFA lenX snX 46 48 17 roX rsA nfA nmA ssX yX3_cells cX3_cells 2 (some .long) rm_X3_cells f_X3_cells := sorry
noncomputable def sX3_cells_0 (x1 : Int32) (z : mm_S) : Option (Int64 × mm_S) := if (pX3_isStuff x1) = 0 then (sX3_finding 0 z).bind fun q1 => some ((Int32.toInt64 q1.1), q1.2) else some ((pX1_cellsOf 2 x1 z), z)
noncomputable def sX3_cells (x1 : Int32) (z : mm_S) : Option (Int64 × mm_S) := sX3_cells_0 x1 z
theorem sp_X3_cells (x1 : Int32) (z : mm_S) (hk : ∀ v ∈ [mm_P 3 0, mm_I x1], mm_ok 46 lyTX 48 17 v) (q : Int64 × mm_S) (hq : sX3_cells x1 z = some q) : f_X3_cells [mm_P 3 0, mm_I x1] z (some (mm_J q.1), q.2) := sorry
noncomputable def lV_X3_unsure : List (Nat × (List mm_V → mm_S → (Option mm_V → mm_S → Option mm_R) → Option mm_R)) := [(59, clo_X3_finding), (129, clo_X0_isUnsure), (135, clo_X0_addUnsure)]
noncomputable def mV_X3_unsure (k : Nat) (as : List mm_V) (z : mm_S) (kk : Option mm_V → mm_S → Option mm_R) : Option mm_R := match mm_at lV_X3_unsure k with
  | some f => f as z kk
  | none => none
noncomputable def arV_X3_unsure (k : Nat) : Nat := (mm_at [(59, 2), (129, 2), (135, 2)] k).getD 0
noncomputable def lS_X3_unsure : List (Nat × (List mm_V → mm_S → (Option mm_V → mm_S → Option mm_R) → Option mm_R)) := [(52, clo_X3_isCell)]
noncomputable def mS_X3_unsure (k : Nat) (as : List mm_V) (z : mm_S) (kk : Option mm_V → mm_S → Option mm_R) : Option mm_R := match mm_at lS_X3_unsure k with
  | some f => f as z kk
  | none => none
noncomputable def arS_X3_unsure (k : Nat) : Nat := (mm_at [(52, 1)] k).getD 0
def ct_X3_unsure : List (Nat × List Nat) := [(13, [0, 1]), (30, [0, 1]), (47, [0, 1]), (55, [0])]
noncomputable def go_X3_unsure : Nat → mm_K := mm_go (fun k => mm_at flX3 k) (fun k => mm_at clX3 k) (fun k => mm_at glX3 k) arV_X3_unsure arS_X3_unsure mV_X3_unsure mS_X3_unsure lenX roX snX 2 0 tbX3_unsure ct_X3_unsure
def rm_X3_unsure : Room := { frames := 2, cells := 0, slots := 0, locals := 44 }
noncomputable def f_X3_unsure (as : List mm_V) (z : mm_S) (o : mm_R) : Prop := (as.map mm_cat).sum ≤ 2 ∧ ∃ n, go_X3_unsure n 0 (mm_ar 0 as) [] z = some o
theorem M_X3_unsure : mm_M lyTX lyFA lenX snX 46 48 17 roX rsA nfA nmA ssX yX3_unsure cX3_unsure 2 (some .int) rm_X3_unsure f_X3_unsure := sorry
noncomputable def sX3_unsure_55  (z : mm_S) : Option (Int32 × mm_S) := some ((z.1 1 6), z)
noncomputable def sX3_unsure_47 (y1 : Int32) (z : mm_S) : Option (Int32 × mm_S) := let u4 := (tX0_addUnsure 1 y1 z); (sX3_unsure_55 u4)
noncomputable def sX3_unsure_30 (y1 : Int32) (z : mm_S) : Option (Int32 × mm_S) := if (z.1 1 6) < 4 then (sX3_unsure_47 y1 z) else (sX3_finding 1 z).bind fun q3 => some (q3.1, q3.2)
noncomputable def sX3_unsure_13 (y1 : Int32) (z : mm_S) : Option (Int32 × mm_S) := if (pX0_isUnsure 1 y1 z) = 0 then (sX3_unsure_30 y1 z) else (sX3_finding 4 z).bind fun q2 => some (q2.1, q2.2)
noncomputable def sX3_unsure_0 (x1 : Int32) (z : mm_S) : Option (Int32 × mm_S) := if (pX3_isCell x1) = 0 then (sX3_finding 0 z).bind fun q1 => some (q1.1, q1.2) else (sX3_unsure_13 x1 z)
noncomputable def sX3_unsure (x1 : Int32) (z : mm_S) : Option (Int32 × mm_S) := sX3_unsure_0 x1 z
theorem sp_X3_unsure (x1 : Int32) (z : mm_S) (hk : ∀ v ∈ [mm_P 3 0, mm_I x1], mm_ok 46 lyTX 48 17 v) (q : Int32 × mm_S) (hq : sX3_unsure x1 z = some q) : f_X3_unsure [mm_P 3 0, mm_I x1] z (some (mm_I q.1), q.2) := sorry
noncomputable def lV_X3_sure : List (Nat × (List mm_V → mm_S → (Option mm_V → mm_S → Option mm_R) → Option mm_R)) := []
noncomputable def mV_X3_sure (k : Nat) (as : List mm_V) (z : mm_S) (kk : Option mm_V → mm_S → Option mm_R) : Option mm_R := match mm_at lV_X3_sure k with
  | some f => f as z kk
  | none => none
noncomputable def arV_X3_sure (k : Nat) : Nat := (mm_at [] k).getD 0
noncomputable def lS_X3_sure : List (Nat × (List mm_V → mm_S → (Option mm_V → mm_S → Option mm_R) → Option mm_R)) := []
noncomputable def mS_X3_sure (k : Nat) (as : List mm_V) (z : mm_S) (kk : Option mm_V → mm_S → Option mm_R) : Option mm_R := match mm_at lS_X3_sure k with
  | some f => f as z kk
  | none => none
noncomputable def arS_X3_sure (k : Nat) : Nat := (mm_at [] k).getD 0
def ct_X3_sure : List (Nat × List Nat) := [(16, [1])]
noncomputable def go_X3_sure : Nat → mm_K := mm_go (fun k => mm_at flX3 k) (fun k => mm_at clX3 k) (fun k => mm_at glX3 k) arV_X3_sure arS_X3_sure mV_X3_sure mS_X3_sure lenX roX snX 2 0 tbX3_sure ct_X3_sure
def rm_X3_sure : Room := { frames := 0, cells := 0, slots := 0, locals := 0 }
noncomputable def f_X3_sure (as : List mm_V) (z : mm_S) (o : mm_R) : Prop := (as.map mm_cat).sum ≤ 2 ∧ ∃ n, go_X3_sure n 0 (mm_ar 0 as) [] z = some o
theorem M_X3_sure : mm_M lyTX lyFA lenX snX 46 48 17 roX rsA nfA nmA ssX yX3_sure cX3_sure 2 (some .int) rm_X3_sure f_X3_sure := sorry
noncomputable def sX3_sure_16 (y1 : Int32) (z : mm_S) : Option (Int32 × mm_S) := some (y1, z)
noncomputable def sX3_sure_0  (z : mm_S) : Option (Int32 × mm_S) := (sX3_sure_16 (z.1 1 6) ((mm_ui z.1 1 6 0), z.2))
noncomputable def sX3_sure  (z : mm_S) : Option (Int32 × mm_S) := sX3_sure_0  z
theorem sp_X3_sure  (z : mm_S) (hk : ∀ v ∈ [mm_P 3 0], mm_ok 46 lyTX 48 17 v) (q : Int32 × mm_S) (hq : sX3_sure  z = some q) : f_X3_sure [mm_P 3 0] z (some (mm_I q.1), q.2) := sorry
noncomputable def sX3_orNone_13 (y1 : Int32) (z : mm_S) : Option (Int32 × mm_S) := some (y1, z)
noncomputable def sX3_orNone_0 (x1 : Int32) (z : mm_S) : Option (Int32 × mm_S) := if x1 = (-1) then (sX3_finding 3 z).bind fun q1 => some (q1.1, q1.2) else (sX3_orNone_13 x1 z)
noncomputable def sX3_orNone (x1 : Int32) (z : mm_S) : Option (Int32 × mm_S) := sX3_orNone_0 x1 z
noncomputable def clo_X3_orNone (as : List mm_V) (z : mm_S) (kk : Option mm_V → mm_S → Option mm_R) : Option mm_R := mm_pr as fun t o0 as => bif Nat.beq t 3 then mm_pi as fun a1 as => (match as with | [] => (sX3_orNone a1 z).bind fun q => kk (some (mm_I q.1)) q.2 | _ => none) else none
noncomputable def lV_X3_time : List (Nat × (List mm_V → mm_S → (Option mm_V → mm_S → Option mm_R) → Option mm_R)) := [(59, clo_X3_finding), (139, clo_X1_timeBetween), (143, clo_X3_orNone)]
noncomputable def mV_X3_time (k : Nat) (as : List mm_V) (z : mm_S) (kk : Option mm_V → mm_S → Option mm_R) : Option mm_R := match mm_at lV_X3_time k with
  | some f => f as z kk
  | none => none
noncomputable def arV_X3_time (k : Nat) : Nat := (mm_at [(59, 2), (139, 3), (143, 2)] k).getD 0
noncomputable def lS_X3_time : List (Nat × (List mm_V → mm_S → (Option mm_V → mm_S → Option mm_R) → Option mm_R)) := [(52, clo_X3_isCell)]
noncomputable def mS_X3_time (k : Nat) (as : List mm_V) (z : mm_S) (kk : Option mm_V → mm_S → Option mm_R) : Option mm_R := match mm_at lS_X3_time k with
  | some f => f as z kk
  | none => none
noncomputable def arS_X3_time (k : Nat) : Nat := (mm_at [(52, 1)] k).getD 0
def ct_X3_time : List (Nat × List Nat) := [(20, [0, 1, 2])]
noncomputable def go_X3_time : Nat → mm_K := mm_go (fun k => mm_at flX3 k) (fun k => mm_at clX3 k) (fun k => mm_at glX3 k) arV_X3_time arS_X3_time mV_X3_time mS_X3_time lenX roX snX 3 0 tbX3_time ct_X3_time
def rm_X3_time : Room := { frames := 3, cells := 0, slots := 0, locals := 79 }
noncomputable def f_X3_time (as : List mm_V) (z : mm_S) (o : mm_R) : Prop := (as.map mm_cat).sum ≤ 3 ∧ ∃ n, go_X3_time n 0 (mm_ar 0 as) [] z = some o
theorem M_X3_time : mm_M lyTX lyFA lenX snX 46 48 17 roX rsA nfA nmA ssX yX3_time cX3_time 3 (some .int) rm_X3_time f_X3_time := sorry
noncomputable def sX3_time_20 (y1 : Int32) (y2 : Int32) (z : mm_S) : Option (Int32 × mm_S) := (sX1_timeBetween 2 y1 y2 z).bind fun q3 => (sX3_orNone q3.1 q3.2).bind fun q4 => some (q4.1, q4.2)
noncomputable def sX3_time_0 (x1 : Int32) (x2 : Int32) (z : mm_S) : Option (Int32 × mm_S) := if (pX3_isCell x1) = 0 then (sX3_finding 0 z).bind fun q1 => some (q1.1, q1.2) else if (pX3_isCell x2) = 0 then (sX3_finding 0 z).bind fun q2 => some (q2.1, q2.2) else (sX3_time_20 x1 x2 z)
noncomputable def sX3_time (x1 : Int32) (x2 : Int32) (z : mm_S) : Option (Int32 × mm_S) := sX3_time_0 x1 x2 z
theorem sp_X3_time (x1 : Int32) (x2 : Int32) (z : mm_S) (hk : ∀ v ∈ [mm_P 3 0, mm_I x1, mm_I x2], mm_ok 46 lyTX 48 17 v) (q : Int32 × mm_S) (hq : sX3_time x1 x2 z = some q) : f_X3_time [mm_P 3 0, mm_I x1, mm_I x2] z (some (mm_I q.1), q.2) := sorry
noncomputable def lV_X3_heard : List (Nat × (List mm_V → mm_S → (Option mm_V → mm_S → Option mm_R) → Option mm_R)) := [(59, clo_X3_finding), (87, clo_X3_isCrew), (143, clo_X3_orNone), (146, clo_X0_heardAt)]
noncomputable def mV_X3_heard (k : Nat) (as : List mm_V) (z : mm_S) (kk : Option mm_V → mm_S → Option mm_R) : Option mm_R := match mm_at lV_X3_heard k with
  | some f => f as z kk
  | none => none
noncomputable def arV_X3_heard (k : Nat) : Nat := (mm_at [(59, 2), (87, 2), (143, 2), (146, 3)] k).getD 0
noncomputable def lS_X3_heard : List (Nat × (List mm_V → mm_S → (Option mm_V → mm_S → Option mm_R) → Option mm_R)) := [(52, clo_X3_isCell)]
noncomputable def mS_X3_heard (k : Nat) (as : List mm_V) (z : mm_S) (kk : Option mm_V → mm_S → Option mm_R) : Option mm_R := match mm_at lS_X3_heard k with
  | some f => f as z kk
  | none => none
noncomputable def arS_X3_heard (k : Nat) : Nat := (mm_at [(52, 1)] k).getD 0
def ct_X3_heard : List (Nat × List Nat) := [(21, [0, 1, 2])]
noncomputable def go_X3_heard : Nat → mm_K := mm_go (fun k => mm_at flX3 k) (fun k => mm_at clX3 k) (fun k => mm_at glX3 k) arV_X3_heard arS_X3_heard mV_X3_heard mS_X3_heard lenX roX snX 3 0 tbX3_heard ct_X3_heard
def rm_X3_heard : Room := { frames := 5, cells := 0, slots := 0, locals := 107 }
noncomputable def f_X3_heard (as : List mm_V) (z : mm_S) (o : mm_R) : Prop := (as.map mm_cat).sum ≤ 3 ∧ ∃ n, go_X3_heard n 0 (mm_ar 0 as) [] z = some o
theorem M_X3_heard : mm_M lyTX lyFA lenX snX 46 48 17 roX rsA nfA nmA ssX yX3_heard cX3_heard 3 (some .int) rm_X3_heard f_X3_heard := sorry
noncomputable def sX3_heard_21 (y1 : Int32) (y2 : Int32) (z : mm_S) : Option (Int32 × mm_S) := (sX0_heardAt 1 y1 y2 z).bind fun q3 => (sX3_orNone q3.1 q3.2).bind fun q4 => some (q4.1, q4.2)
noncomputable def sX3_heard_0 (x1 : Int32) (x2 : Int32) (z : mm_S) : Option (Int32 × mm_S) := if (pX3_isCrew x1 z) = 0 then (sX3_finding 0 z).bind fun q1 => some (q1.1, q1.2) else if (pX3_isCell x2) = 0 then (sX3_finding 0 z).bind fun q2 => some (q2.1, q2.2) else (sX3_heard_21 x1 x2 z)
noncomputable def sX3_heard (x1 : Int32) (x2 : Int32) (z : mm_S) : Option (Int32 × mm_S) := sX3_heard_0 x1 x2 z
theorem sp_X3_heard (x1 : Int32) (x2 : Int32) (z : mm_S) (hk : ∀ v ∈ [mm_P 3 0, mm_I x1, mm_I x2], mm_ok 46 lyTX 48 17 v) (q : Int32 × mm_S) (hq : sX3_heard x1 x2 z = some q) : f_X3_heard [mm_P 3 0, mm_I x1, mm_I x2] z (some (mm_I q.1), q.2) := sorry
noncomputable def lV_X3_reach : List (Nat × (List mm_V → mm_S → (Option mm_V → mm_S → Option mm_R) → Option mm_R)) := [(59, clo_X3_finding), (87, clo_X3_isCrew), (149, clo_X0_reachOf)]
noncomputable def mV_X3_reach (k : Nat) (as : List mm_V) (z : mm_S) (kk : Option mm_V → mm_S → Option mm_R) : Option mm_R := match mm_at lV_X3_reach k with
  | some f => f as z kk
  | none => none
noncomputable def arV_X3_reach (k : Nat) : Nat := (mm_at [(59, 2), (87, 2), (149, 2)] k).getD 0
noncomputable def lS_X3_reach : List (Nat × (List mm_V → mm_S → (Option mm_V → mm_S → Option mm_R) → Option mm_R)) := []
noncomputable def mS_X3_reach (k : Nat) (as : List mm_V) (z : mm_S) (kk : Option mm_V → mm_S → Option mm_R) : Option mm_R := match mm_at lS_X3_reach k with
  | some f => f as z kk
  | none => none
noncomputable def arS_X3_reach (k : Nat) : Nat := (mm_at [] k).getD 0
def ct_X3_reach : List (Nat × List Nat) := [(19, [0])]
noncomputable def go_X3_reach : Nat → mm_K := mm_go (fun k => mm_at flX3 k) (fun k => mm_at clX3 k) (fun k => mm_at glX3 k) arV_X3_reach arS_X3_reach mV_X3_reach mS_X3_reach lenX roX snX 2 2 tbX3_reach ct_X3_reach
def rm_X3_reach : Room := { frames := 4, cells := 0, slots := 0, locals := 100 }
noncomputable def f_X3_reach (as : List mm_V) (z : mm_S) (o : mm_R) : Prop := (as.map mm_cat).sum ≤ 2 ∧ ∃ n, go_X3_reach n 0 (mm_ar 0 as) [] z = some o
theorem M_X3_reach : mm_M lyTX lyFA lenX snX 46 48 17 roX rsA nfA nmA ssX yX3_reach cX3_reach 2 (some .long) rm_X3_reach f_X3_reach := sorry
noncomputable def sX3_reach_19  (z : mm_S) : Option (Int64 × mm_S) := (sX3_finding 0 z).bind fun q2 => some ((Int32.toInt64 q2.1), q2.2)
noncomputable def sX3_reach_0 (x1 : Int32) (z : mm_S) : Option (Int64 × mm_S) := if (pX3_isCrew x1 z) = 0 then (sX3_reach_19 z) else (sX0_reachOf 1 x1 z).bind fun q1 => some (q1.1, q1.2)
noncomputable def sX3_reach (x1 : Int32) (z : mm_S) : Option (Int64 × mm_S) := sX3_reach_0 x1 z
theorem sp_X3_reach (x1 : Int32) (z : mm_S) (hk : ∀ v ∈ [mm_P 3 0, mm_I x1], mm_ok 46 lyTX 48 17 v) (q : Int64 × mm_S) (hq : sX3_reach x1 z = some q) : f_X3_reach [mm_P 3 0, mm_I x1] z (some (mm_J q.1), q.2) := sorry
noncomputable def lV_X3_hears : List (Nat × (List mm_V → mm_S → (Option mm_V → mm_S → Option mm_R) → Option mm_R)) := [(59, clo_X3_finding), (87, clo_X3_isCrew), (90, clo_X0_kindOf), (93, clo_X0_placeOf), (146, clo_X0_heardAt)]
noncomputable def mV_X3_hears (k : Nat) (as : List mm_V) (z : mm_S) (kk : Option mm_V → mm_S → Option mm_R) : Option mm_R := match mm_at lV_X3_hears k with
  | some f => f as z kk
  | none => none
noncomputable def arV_X3_hears (k : Nat) : Nat := (mm_at [(59, 2), (87, 2), (90, 2), (93, 2), (146, 3)] k).getD 0
noncomputable def lS_X3_hears : List (Nat × (List mm_V → mm_S → (Option mm_V → mm_S → Option mm_R) → Option mm_R)) := [(105, clo_X3_hearsByAs)]
noncomputable def mS_X3_hears (k : Nat) (as : List mm_V) (z : mm_S) (kk : Option mm_V → mm_S → Option mm_R) : Option mm_R := match mm_at lS_X3_hears k with
  | some f => f as z kk
  | none => none
noncomputable def arS_X3_hears (k : Nat) : Nat := (mm_at [(105, 1)] k).getD 0
def ct_X3_hears : List (Nat × List Nat) := [(14, [0, 1]), (31, [0, 1, 2, 3, 4]), (62, [0, 1, 2, 3, 4, 5])]
noncomputable def go_X3_hears : Nat → mm_K := mm_go (fun k => mm_at flX3 k) (fun k => mm_at clX3 k) (fun k => mm_at glX3 k) arV_X3_hears arS_X3_hears mV_X3_hears mS_X3_hears lenX roX snX 6 0 tbX3_hears ct_X3_hears
def rm_X3_hears : Room := { frames := 5, cells := 0, slots := 0, locals := 107 }
noncomputable def f_X3_hears (as : List mm_V) (z : mm_S) (o : mm_R) : Prop := (as.map mm_cat).sum ≤ 6 ∧ ∃ n, go_X3_hears n 0 (mm_ar 0 as) [] z = some o
theorem M_X3_hears : mm_M lyTX lyFA lenX snX 46 48 17 roX rsA nfA nmA ssX yX3_hears cX3_hears 6 (some .int) rm_X3_hears f_X3_hears := sorry
noncomputable def sX3_hears_62 (y1 : Int32) (y2 : Int32) (y3 : Int32) (y4 : Int32) (y5 : Int32) (z : mm_S) : Option ((Int32 × Int32 × Int32 × Int32 × mm_S) ⊕ (Int32 × mm_S)) := if y4 = y1 then some (.inl (y1, y2, y3, (y4 + 1), z)) else if y5 = (-1) then some (.inl (y1, y2, y3, (y4 + 1), z)) else if y2 < y5 then some (.inl (y1, y2, y3, (y4 + 1), z)) else some (.inl (y1, y2, (y3 ||| (1 <<< (y4 &&& 31))), (y4 + 1), z))
noncomputable def lX3_hears_31 (s : Int32 × Int32 × Int32 × Int32 × mm_S) : Option ((Int32 × Int32 × Int32 × Int32 × mm_S) ⊕ (Int32 × mm_S)) := if (s.2.2.2.2.1 1 4) ≤ s.2.2.2.1 then some (.inr (s.2.2.1, s.2.2.2.2)) else (sX0_heardAt 1 s.2.2.2.1 (pX0_placeOf 1 s.1 s.2.2.2.2) s.2.2.2.2).bind fun q2 => (sX3_hears_62 s.1 s.2.1 s.2.2.1 s.2.2.2.1 q2.1 q2.2)
noncomputable def sX3_hears_31 (y1 : Int32) (y2 : Int32) (y3 : Int32) (y4 : Int32) (z : mm_S) : Option (Int32 × mm_S) := mm_wh (lX3_hears_31 ) mm_fu (y1, y2, y3, y4, z)
noncomputable def sX3_hears_14 (y1 : Int32) (z : mm_S) : Option (Int32 × mm_S) := (sX3_hears_31 y1 (pX3_hearsByAs (pX0_kindOf 1 y1 z)) 0 0 z)
noncomputable def sX3_hears_0 (x1 : Int32) (z : mm_S) : Option (Int32 × mm_S) := if (pX3_isCrew x1 z) = 0 then (sX3_finding 0 z).bind fun q1 => some (q1.1, q1.2) else (sX3_hears_14 x1 z)
noncomputable def sX3_hears (x1 : Int32) (z : mm_S) : Option (Int32 × mm_S) := sX3_hears_0 x1 z
theorem sp_X3_hears (x1 : Int32) (z : mm_S) (hk : ∀ v ∈ [mm_P 3 0, mm_I x1], mm_ok 46 lyTX 48 17 v) (q : Int32 × mm_S) (hq : sX3_hears x1 z = some q) : f_X3_hears [mm_P 3 0, mm_I x1] z (some (mm_I q.1), q.2) := sorry
noncomputable def sX3_listenForEchoes_37  (z : mm_S) : Option (mm_S) := some (z)
noncomputable def sX3_listenForEchoes_22 (y2 : Int32) (z : mm_S) : Option (mm_S) := (sX1_timesTo 2 y2 44 z).bind fun q2 => (sX3_listenForEchoes_37 q2)
noncomputable def sX3_listenForEchoes_0 (x1 : Int32) (x2 : Int32) (z : mm_S) : Option (mm_S) := (sX1_timesFrom 2 (pX0_placeOf 1 x1 z) 43 z).bind fun q1 => (sX3_listenForEchoes_22 x2 q1)
noncomputable def sX3_listenForEchoes (x1 : Int32) (x2 : Int32) (z : mm_S) : Option (mm_S) := sX3_listenForEchoes_0 x1 x2 z
noncomputable def clo_X3_listenForEchoes (as : List mm_V) (z : mm_S) (kk : Option mm_V → mm_S → Option mm_R) : Option mm_R := mm_pr as fun t o0 as => bif Nat.beq t 3 then mm_pi as fun a1 as => mm_pi as fun a2 as => (match as with | [] => (sX3_listenForEchoes a1 a2 z).bind fun q => kk none q | _ => none) else none
noncomputable def sX3_echoOf_95 (y1 : Int32) (y4 : Int64) (y6 : Int32) (y7 : Int32) (z : mm_S) : Option ((Int32 × Int64 × Int32 × Int32 × mm_S) ⊕ (Int32 × mm_S)) := some (.inl (y1, y4, y6, (y7 + 1), z))
noncomputable def sX3_echoOf_51 (y1 : Int32) (y4 : Int64) (y6 : Int32) (y7 : Int32) (y8 : Int32) (y9 : Int32) (w0 : Int32) (z : mm_S) : Option ((Int32 × Int64 × Int32 × Int32 × mm_S) ⊕ (Int32 × mm_S)) := if w0 = 0 then (sX3_echoOf_95 y1 y4 y6 y7 z) else if y8 = (-1) then (sX3_echoOf_95 y1 y4 y6 y7 z) else if y9 = (-1) then (sX3_echoOf_95 y1 y4 y6 y7 z) else if y6 = (-1) then (sX3_echoOf_95 y1 y4 ((y8 + y9) + 1) y7 z) else (sX3_echoOf_95 y1 y4 (mm_min y6 ((y8 + y9) + 1)) y7 z)
noncomputable def sX3_echoOf_44 (y1 : Int32) (y4 : Int64) (y6 : Int32) (y7 : Int32) (y8 : Int32) (y9 : Int32) (z : mm_S) : Option ((Int32 × Int64 × Int32 × Int32 × mm_S) ⊕ (Int32 × mm_S)) := (sX3_echoOf_51 y1 y4 y6 y7 y8 y9 (pX3_has y4 y7) z)
noncomputable def sX3_echoOf_33 (y1 : Int32) (y4 : Int64) (y6 : Int32) (y7 : Int32) (y8 : Int32) (z : mm_S) : Option ((Int32 × Int64 × Int32 × Int32 × mm_S) ⊕ (Int32 × mm_S)) := (sX3_echoOf_44 y1 y4 y6 y7 y8 (pX3_at 44 y7 z) z)
noncomputable def lX3_echoOf_15 (s : Int32 × Int64 × Int32 × Int32 × mm_S) : Option ((Int32 × Int64 × Int32 × Int32 × mm_S) ⊕ (Int32 × mm_S)) := if 36 ≤ s.2.2.2.1 then if s.2.2.1 = (-1) then some (.inr ((-1), s.2.2.2.2)) else if s.2.2.1 ≤ (pX0_carriesOf 1 s.1 s.2.2.2.2) then some (.inr ((s.2.2.1 + (pX3_startsAs (pX0_kindOf 1 s.1 s.2.2.2.2))), s.2.2.2.2)) else some (.inr ((-1), s.2.2.2.2)) else (sX3_echoOf_33 s.1 s.2.1 s.2.2.1 s.2.2.2.1 (pX3_at 43 s.2.2.2.1 s.2.2.2.2) s.2.2.2.2)
noncomputable def sX3_echoOf_15 (y1 : Int32) (y4 : Int64) (y6 : Int32) (y7 : Int32) (z : mm_S) : Option (Int32 × mm_S) := mm_wh (lX3_echoOf_15 ) mm_fu (y1, y4, y6, y7, z)
noncomputable def sX3_echoOf_9 (y1 : Int32) (y4 : Int64) (z : mm_S) : Option (Int32 × mm_S) := (sX3_echoOf_15 y1 y4 (-1) 0 z)
noncomputable def sX3_echoOf_0 (x1 : Int32) (x2 : Int32) (x3 : Int32) (z : mm_S) : Option (Int32 × mm_S) := (sX3_echoOf_9 x1 (pX3_besides (pX3_setOf x3)) z)
noncomputable def sX3_echoOf (x1 : Int32) (x2 : Int32) (x3 : Int32) (z : mm_S) : Option (Int32 × mm_S) := sX3_echoOf_0 x1 x2 x3 z
noncomputable def clo_X3_echoOf (as : List mm_V) (z : mm_S) (kk : Option mm_V → mm_S → Option mm_R) : Option mm_R := mm_pr as fun t o0 as => bif Nat.beq t 3 then mm_pi as fun a1 as => mm_pi as fun a2 as => mm_pi as fun a3 as => (match as with | [] => (sX3_echoOf a1 a2 a3 z).bind fun q => kk (some (mm_I q.1)) q.2 | _ => none) else none
noncomputable def lV_X3_echo : List (Nat × (List mm_V → mm_S → (Option mm_V → mm_S → Option mm_R) → Option mm_R)) := [(59, clo_X3_finding), (67, clo_X1_stuffAt), (87, clo_X3_isCrew), (143, clo_X3_orNone), (152, clo_X3_listenForEchoes), (155, clo_X3_echoOf)]
noncomputable def mV_X3_echo (k : Nat) (as : List mm_V) (z : mm_S) (kk : Option mm_V → mm_S → Option mm_R) : Option mm_R := match mm_at lV_X3_echo k with
  | some f => f as z kk
  | none => none
noncomputable def arV_X3_echo (k : Nat) : Nat := (mm_at [(59, 2), (67, 2), (87, 2), (143, 2), (152, 3), (155, 4)] k).getD 0
noncomputable def lS_X3_echo : List (Nat × (List mm_V → mm_S → (Option mm_V → mm_S → Option mm_R) → Option mm_R)) := [(52, clo_X3_isCell)]
noncomputable def mS_X3_echo (k : Nat) (as : List mm_V) (z : mm_S) (kk : Option mm_V → mm_S → Option mm_R) : Option mm_R := match mm_at lS_X3_echo k with
  | some f => f as z kk
  | none => none
noncomputable def arS_X3_echo (k : Nat) : Nat := (mm_at [(52, 1)] k).getD 0
def ct_X3_echo : List (Nat × List Nat) := [(5, [0, 1, 2, 3]), (12, [0, 1, 2, 3]), (19, [0, 1, 2, 3]), (28, [0, 1, 2, 3]), (39, [0, 1, 2, 3]), (49, [0, 1, 2, 3]), (55, [0, 1, 2, 3])]
noncomputable def go_X3_echo : Nat → mm_K := mm_go (fun k => mm_at flX3 k) (fun k => mm_at clX3 k) (fun k => mm_at glX3 k) arV_X3_echo arS_X3_echo mV_X3_echo mS_X3_echo lenX roX snX 4 0 tbX3_echo ct_X3_echo
def rm_X3_echo : Room := { frames := 5, cells := 0, slots := 0, locals := 128 }
noncomputable def f_X3_echo (as : List mm_V) (z : mm_S) (o : mm_R) : Prop := (as.map mm_cat).sum ≤ 4 ∧ ∃ n, go_X3_echo n 0 (mm_ar 0 as) [] z = some o
theorem M_X3_echo : mm_M lyTX lyFA lenX snX 46 48 17 roX rsA nfA nmA ssX yX3_echo cX3_echo 4 (some .int) rm_X3_echo f_X3_echo := sorry
noncomputable def sX3_echo_55 (y1 : Int32) (y2 : Int32) (y3 : Int32) (z : mm_S) : Option (Int32 × mm_S) := (sX3_echoOf y1 y2 y3 z).bind fun q6 => (sX3_orNone q6.1 q6.2).bind fun q7 => some (q7.1, q7.2)
noncomputable def sX3_echo_49 (y1 : Int32) (y2 : Int32) (y3 : Int32) (z : mm_S) : Option (Int32 × mm_S) := (sX3_listenForEchoes y1 y2 z).bind fun q5 => (sX3_echo_55 y1 y2 y3 q5)
noncomputable def sX3_echo_39 (y1 : Int32) (y2 : Int32) (y3 : Int32) (w0 : Int32) (z : mm_S) : Option (Int32 × mm_S) := if w0 = 2 then (sX3_echo_49 y1 y2 y3 z) else (sX3_finding 4 z).bind fun q4 => some (q4.1, q4.2)
noncomputable def sX3_echo_28 (y1 : Int32) (y2 : Int32) (y3 : Int32) (z : mm_S) : Option (Int32 × mm_S) := (sX3_echo_39 y1 y2 y3 (pX1_stuffAt 2 y3 z) z)
noncomputable def sX3_echo_19 (y1 : Int32) (y2 : Int32) (y3 : Int32) (w0 : Int32) (z : mm_S) : Option (Int32 × mm_S) := if w0 = 0 then (sX3_finding 0 z).bind fun q3 => some (q3.1, q3.2) else (sX3_echo_28 y1 y2 y3 z)
noncomputable def sX3_echo_12 (y1 : Int32) (y2 : Int32) (y3 : Int32) (w0 : Int32) (z : mm_S) : Option (Int32 × mm_S) := if w0 = 0 then (sX3_finding 0 z).bind fun q2 => some (q2.1, q2.2) else (sX3_echo_19 y1 y2 y3 (pX3_isCell y3) z)
noncomputable def sX3_echo_5 (y1 : Int32) (y2 : Int32) (y3 : Int32) (w0 : Int32) (z : mm_S) : Option (Int32 × mm_S) := if w0 = 0 then (sX3_finding 0 z).bind fun q1 => some (q1.1, q1.2) else (sX3_echo_12 y1 y2 y3 (pX3_isCell y2) z)
noncomputable def sX3_echo_0 (x1 : Int32) (x2 : Int32) (x3 : Int32) (z : mm_S) : Option (Int32 × mm_S) := (sX3_echo_5 x1 x2 x3 (pX3_isCrew x1 z) z)
noncomputable def sX3_echo (x1 : Int32) (x2 : Int32) (x3 : Int32) (z : mm_S) : Option (Int32 × mm_S) := sX3_echo_0 x1 x2 x3 z
theorem sp_X3_echo (x1 : Int32) (x2 : Int32) (x3 : Int32) (z : mm_S) (hk : ∀ v ∈ [mm_P 3 0, mm_I x1, mm_I x2, mm_I x3], mm_ok 46 lyTX 48 17 v) (q : Int32 × mm_S) (hq : sX3_echo x1 x2 x3 z = some q) : f_X3_echo [mm_P 3 0, mm_I x1, mm_I x2, mm_I x3] z (some (mm_I q.1), q.2) := sorry
noncomputable def sX3_echoBehind_39 (y1 : Int32) (y2 : Int32) (y3 : Int32) (y4 : Int32) (y5 : Int32) (y6 : Int32) (z : mm_S) : Option ((Int32 × Int32 × Int32 × Int32 × Int32 × mm_S) ⊕ (Int32 × mm_S)) := if y6 ≤ y1 then some (.inl (y1, y2, y3, y4, (y5 + 1), z)) else if y4 = (-1) then some (.inl (y1, y2, y3, y6, (y5 + 1), z)) else if y4 ≤ y6 then some (.inl (y1, y2, y3, y4, (y5 + 1), z)) else some (.inl (y1, y2, y3, y6, (y5 + 1), z))
noncomputable def sX3_echoBehind_25 (y1 : Int32) (y2 : Int32) (y3 : Int32) (y4 : Int32) (y5 : Int32) (w0 : Int32) (z : mm_S) : Option ((Int32 × Int32 × Int32 × Int32 × Int32 × mm_S) ⊕ (Int32 × mm_S)) := if w0 = 2 then (sX3_echoOf y2 y3 y5 z).bind fun q1 => (sX3_echoBehind_39 y1 y2 y3 y4 y5 q1.1 q1.2) else some (.inl (y1, y2, y3, y4, (y5 + 1), z))
noncomputable def lX3_echoBehind_6 (s : Int32 × Int32 × Int32 × Int32 × Int32 × mm_S) : Option ((Int32 × Int32 × Int32 × Int32 × Int32 × mm_S) ⊕ (Int32 × mm_S)) := if 36 ≤ s.2.2.2.2.1 then some (.inr (s.2.2.2.1, s.2.2.2.2.2)) else (sX3_echoBehind_25 s.1 s.2.1 s.2.2.1 s.2.2.2.1 s.2.2.2.2.1 (pX1_stuffAt 2 s.2.2.2.2.1 s.2.2.2.2.2) s.2.2.2.2.2)
noncomputable def sX3_echoBehind_6 (y1 : Int32) (y2 : Int32) (y3 : Int32) (y4 : Int32) (y5 : Int32) (z : mm_S) : Option (Int32 × mm_S) := mm_wh (lX3_echoBehind_6 ) mm_fu (y1, y2, y3, y4, y5, z)
noncomputable def sX3_echoBehind_0 (x1 : Int32) (x2 : Int32) (x3 : Int32) (z : mm_S) : Option (Int32 × mm_S) := (sX3_echoBehind_6 x1 x2 x3 (-1) 0 z)
noncomputable def sX3_echoBehind (x1 : Int32) (x2 : Int32) (x3 : Int32) (z : mm_S) : Option (Int32 × mm_S) := sX3_echoBehind_0 x1 x2 x3 z
noncomputable def clo_X3_echoBehind (as : List mm_V) (z : mm_S) (kk : Option mm_V → mm_S → Option mm_R) : Option mm_R := mm_pr as fun t o0 as => bif Nat.beq t 3 then mm_pi as fun a1 as => mm_pi as fun a2 as => mm_pi as fun a3 as => (match as with | [] => (sX3_echoBehind a1 a2 a3 z).bind fun q => kk (some (mm_I q.1)) q.2 | _ => none) else none
noncomputable def lV_X3_chord : List (Nat × (List mm_V → mm_S → (Option mm_V → mm_S → Option mm_R) → Option mm_R)) := [(59, clo_X3_finding), (87, clo_X3_isCrew), (152, clo_X3_listenForEchoes), (159, clo_X3_echoBehind)]
noncomputable def mV_X3_chord (k : Nat) (as : List mm_V) (z : mm_S) (kk : Option mm_V → mm_S → Option mm_R) : Option mm_R := match mm_at lV_X3_chord k with
  | some f => f as z kk
  | none => none
noncomputable def arV_X3_chord (k : Nat) : Nat := (mm_at [(59, 2), (87, 2), (152, 3), (159, 4)] k).getD 0
noncomputable def lS_X3_chord : List (Nat × (List mm_V → mm_S → (Option mm_V → mm_S → Option mm_R) → Option mm_R)) := [(52, clo_X3_isCell), (118, clo_X3_lies)]
noncomputable def mS_X3_chord (k : Nat) (as : List mm_V) (z : mm_S) (kk : Option mm_V → mm_S → Option mm_R) : Option mm_R := match mm_at lS_X3_chord k with
  | some f => f as z kk
  | none => none
noncomputable def arS_X3_chord (k : Nat) : Nat := (mm_at [(52, 1), (118, 3)] k).getD 0
def ct_X3_chord : List (Nat × List Nat) := [(31, [0, 1, 2, 3]), (37, [0, 1, 2, 3]), (43, [0, 1, 2, 3, 4, 5]), (59, [0, 1, 2, 3, 4, 5]), (71, [0, 1, 2, 3, 4, 5])]
noncomputable def go_X3_chord : Nat → mm_K := mm_go (fun k => mm_at flX3 k) (fun k => mm_at clX3 k) (fun k => mm_at glX3 k) arV_X3_chord arS_X3_chord mV_X3_chord mS_X3_chord lenX roX snX 6 0 tbX3_chord ct_X3_chord
def rm_X3_chord : Room := { frames := 5, cells := 0, slots := 0, locals := 128 }
noncomputable def f_X3_chord (as : List mm_V) (z : mm_S) (o : mm_R) : Prop := (as.map mm_cat).sum ≤ 6 ∧ ∃ n, go_X3_chord n 0 (mm_ar 0 as) [] z = some o
theorem M_X3_chord : mm_M lyTX lyFA lenX snX 46 48 17 roX rsA nfA nmA ssX yX3_chord cX3_chord 6 (some .int) rm_X3_chord f_X3_chord := sorry
noncomputable def sX3_chord_71 (y1 : Int32) (y2 : Int32) (y3 : Int32) (y4 : Int32) (y5 : Int32) (z : mm_S) : Option ((Int32 × Int32 × Int32 × Int32 × Int32 × mm_S) ⊕ (Int32 × mm_S)) := some (.inl (y1, y2, y3, y4, (y5 + 1), z))
noncomputable def sX3_chord_59 (y1 : Int32) (y2 : Int32) (y3 : Int32) (y4 : Int32) (y5 : Int32) (z : mm_S) : Option ((Int32 × Int32 × Int32 × Int32 × Int32 × mm_S) ⊕ (Int32 × mm_S)) := if y4 = (-1) then (sX3_finding 3 z).bind fun q6 => some (.inr (q6.1, q6.2)) else (sX3_chord_71 y1 y2 y3 y4 y5 z)
noncomputable def lX3_chord_43 (s : Int32 × Int32 × Int32 × Int32 × Int32 × mm_S) : Option ((Int32 × Int32 × Int32 × Int32 × Int32 × mm_S) ⊕ (Int32 × mm_S)) := if s.2.2.1 < s.2.2.2.2.1 then some (.inr (s.2.2.2.1, s.2.2.2.2.2)) else (sX3_echoBehind s.2.2.2.1 s.1 s.2.1 s.2.2.2.2.2).bind fun q5 => (sX3_chord_59 s.1 s.2.1 s.2.2.1 q5.1 s.2.2.2.2.1 q5.2)
noncomputable def sX3_chord_43 (y1 : Int32) (y2 : Int32) (y3 : Int32) (y4 : Int32) (y5 : Int32) (z : mm_S) : Option (Int32 × mm_S) := mm_wh (lX3_chord_43 ) mm_fu (y1, y2, y3, y4, y5, z)
noncomputable def sX3_chord_37 (y1 : Int32) (y2 : Int32) (y3 : Int32) (z : mm_S) : Option (Int32 × mm_S) := (sX3_chord_43 y1 y2 y3 (-1) 0 z)
noncomputable def sX3_chord_31 (y1 : Int32) (y2 : Int32) (y3 : Int32) (z : mm_S) : Option (Int32 × mm_S) := (sX3_listenForEchoes y1 y2 z).bind fun q4 => (sX3_chord_37 y1 y2 y3 q4)
noncomputable def sX3_chord_0 (x1 : Int32) (x2 : Int32) (x3 : Int32) (z : mm_S) : Option (Int32 × mm_S) := if (pX3_isCrew x1 z) = 0 then (sX3_finding 0 z).bind fun q1 => some (q1.1, q1.2) else if (pX3_isCell x2) = 0 then (sX3_finding 0 z).bind fun q2 => some (q2.1, q2.2) else if (pX3_lies x3 0 35) = 0 then (sX3_finding 0 z).bind fun q3 => some (q3.1, q3.2) else (sX3_chord_31 x1 x2 x3 z)
noncomputable def sX3_chord (x1 : Int32) (x2 : Int32) (x3 : Int32) (z : mm_S) : Option (Int32 × mm_S) := sX3_chord_0 x1 x2 x3 z
theorem sp_X3_chord (x1 : Int32) (x2 : Int32) (x3 : Int32) (z : mm_S) (hk : ∀ v ∈ [mm_P 3 0, mm_I x1, mm_I x2, mm_I x3], mm_ok 46 lyTX 48 17 v) (q : Int32 × mm_S) (hq : sX3_chord x1 x2 x3 z = some q) : f_X3_chord [mm_P 3 0, mm_I x1, mm_I x2, mm_I x3] z (some (mm_I q.1), q.2) := sorry
noncomputable def lV_X3_last : List (Nat × (List mm_V → mm_S → (Option mm_V → mm_S → Option mm_R) → Option mm_R)) := [(59, clo_X3_finding), (87, clo_X3_isCrew), (93, clo_X0_placeOf), (146, clo_X0_heardAt), (162, clo_X1_timesFrom), (170, clo_X1_paceOf)]
noncomputable def mV_X3_last (k : Nat) (as : List mm_V) (z : mm_S) (kk : Option mm_V → mm_S → Option mm_R) : Option mm_R := match mm_at lV_X3_last k with
  | some f => f as z kk
  | none => none
noncomputable def arV_X3_last (k : Nat) : Nat := (mm_at [(59, 2), (87, 2), (93, 2), (146, 3), (162, 3), (170, 2)] k).getD 0
noncomputable def lS_X3_last : List (Nat × (List mm_V → mm_S → (Option mm_V → mm_S → Option mm_R) → Option mm_R)) := [(52, clo_X3_isCell), (166, clo_X3_at), (173, clo_X3_setOf), (176, clo_X3_besides), (180, clo_X3_has)]
noncomputable def mS_X3_last (k : Nat) (as : List mm_V) (z : mm_S) (kk : Option mm_V → mm_S → Option mm_R) : Option mm_R := match mm_at lS_X3_last k with
  | some f => f as z kk
  | none => none
noncomputable def arS_X3_last (k : Nat) : Nat := (mm_at [(52, 1), (166, 2), (173, 1), (176, 1), (180, 2)] k).getD 0
def ct_X3_last : List (Nat × List Nat) := [(21, [0, 1, 2]), (34, [0]), (40, [0, 1, 2]), (58, [0, 1, 2]), (80, [0, 2]), (113, [0, 3, 4, 6])]
noncomputable def go_X3_last : Nat → mm_K := mm_go (fun k => mm_at flX3 k) (fun k => mm_at clX3 k) (fun k => mm_at glX3 k) arV_X3_last arS_X3_last mV_X3_last mS_X3_last lenX roX snX 7 0 tbX3_last ct_X3_last
def rm_X3_last : Room := { frames := 5, cells := 0, slots := 0, locals := 107 }
noncomputable def f_X3_last (as : List mm_V) (z : mm_S) (o : mm_R) : Prop := (as.map mm_cat).sum ≤ 7 ∧ ∃ n, go_X3_last n 0 (mm_ar 0 as) [] z = some o
theorem M_X3_last : mm_M lyTX lyFA lenX snX 46 48 17 roX rsA nfA nmA ssX yX3_last cX3_last 7 (some .int) rm_X3_last f_X3_last := sorry
noncomputable def sX3_last_34  (z : mm_S) : Option (Int32 × mm_S) := (sX3_finding 3 z).bind fun q5 => some (q5.1, q5.2)
noncomputable def lX3_last_113 (s : Int32 × Int64 × Int32 × mm_S) : Option ((Int32 × Int64 × Int32 × mm_S) ⊕ (Int32 × mm_S)) := if 36 ≤ s.2.2.1 then (sX3_finding 3 s.2.2.2).bind fun q7 => some (.inr (q7.1, q7.2)) else if (pX3_has s.2.1 s.2.2.1) = 0 then some (.inl (s.1, s.2.1, (s.2.2.1 + 1), s.2.2.2)) else if (pX3_at 43 s.2.2.1 s.2.2.2) = s.1 then some (.inr (s.2.2.1, s.2.2.2)) else some (.inl (s.1, s.2.1, (s.2.2.1 + 1), s.2.2.2))
noncomputable def sX3_last_113 (y3 : Int32) (y4 : Int64) (y6 : Int32) (z : mm_S) : Option (Int32 × mm_S) := mm_wh (lX3_last_113 ) mm_fu (y3, y4, y6, z)
noncomputable def sX3_last_80 (y2 : Int32) (z : mm_S) : Option (Int32 × mm_S) := (sX3_last_113 ((pX3_at 43 y2 z) - (pX1_paceOf 2 y2 z)) (pX3_besides (pX3_setOf y2)) 0 z)
noncomputable def sX3_last_58 (y1 : Int32) (y2 : Int32) (z : mm_S) : Option (Int32 × mm_S) := (sX1_timesFrom 2 (pX0_placeOf 1 y1 z) 43 z).bind fun q6 => (sX3_last_80 y2 q6)
noncomputable def sX3_last_40 (y1 : Int32) (y2 : Int32) (z : mm_S) : Option (Int32 × mm_S) := if (pX0_placeOf 1 y1 z) = y2 then (sX3_finding 4 z).bind fun q4 => some (q4.1, q4.2) else (sX3_last_58 y1 y2 z)
noncomputable def sX3_last_21 (y1 : Int32) (y2 : Int32) (z : mm_S) : Option (Int32 × mm_S) := (sX0_heardAt 1 y1 y2 z).bind fun q3 => if q3.1 = (-1) then (sX3_last_34 q3.2) else (sX3_last_40 y1 y2 q3.2)
noncomputable def sX3_last_0 (x1 : Int32) (x2 : Int32) (z : mm_S) : Option (Int32 × mm_S) := if (pX3_isCrew x1 z) = 0 then (sX3_finding 0 z).bind fun q1 => some (q1.1, q1.2) else if (pX3_isCell x2) = 0 then (sX3_finding 0 z).bind fun q2 => some (q2.1, q2.2) else (sX3_last_21 x1 x2 z)
noncomputable def sX3_last (x1 : Int32) (x2 : Int32) (z : mm_S) : Option (Int32 × mm_S) := sX3_last_0 x1 x2 z
theorem sp_X3_last (x1 : Int32) (x2 : Int32) (z : mm_S) (hk : ∀ v ∈ [mm_P 3 0, mm_I x1, mm_I x2], mm_ok 46 lyTX 48 17 v) (q : Int32 × mm_S) (hq : sX3_last x1 x2 z = some q) : f_X3_last [mm_P 3 0, mm_I x1, mm_I x2] z (some (mm_I q.1), q.2) := sorry
noncomputable def lV_X3_many : List (Nat × (List mm_V → mm_S → (Option mm_V → mm_S → Option mm_R) → Option mm_R)) := [(59, clo_X3_finding), (146, clo_X0_heardAt)]
noncomputable def mV_X3_many (k : Nat) (as : List mm_V) (z : mm_S) (kk : Option mm_V → mm_S → Option mm_R) : Option mm_R := match mm_at lV_X3_many k with
  | some f => f as z kk
  | none => none
noncomputable def arV_X3_many (k : Nat) : Nat := (mm_at [(59, 2), (146, 3)] k).getD 0
noncomputable def lS_X3_many : List (Nat × (List mm_V → mm_S → (Option mm_V → mm_S → Option mm_R) → Option mm_R)) := [(52, clo_X3_isCell)]
noncomputable def mS_X3_many (k : Nat) (as : List mm_V) (z : mm_S) (kk : Option mm_V → mm_S → Option mm_R) : Option mm_R := match mm_at lS_X3_many k with
  | some f => f as z kk
  | none => none
noncomputable def arS_X3_many (k : Nat) : Nat := (mm_at [(52, 1)] k).getD 0
def ct_X3_many : List (Nat × List Nat) := [(13, [0, 1]), (17, [0, 1, 2, 3]), (41, [0, 1, 2, 3])]
noncomputable def go_X3_many : Nat → mm_K := mm_go (fun k => mm_at flX3 k) (fun k => mm_at clX3 k) (fun k => mm_at glX3 k) arV_X3_many arS_X3_many mV_X3_many mS_X3_many lenX roX snX 4 0 tbX3_many ct_X3_many
def rm_X3_many : Room := { frames := 5, cells := 0, slots := 0, locals := 107 }
noncomputable def f_X3_many (as : List mm_V) (z : mm_S) (o : mm_R) : Prop := (as.map mm_cat).sum ≤ 4 ∧ ∃ n, go_X3_many n 0 (mm_ar 0 as) [] z = some o
theorem M_X3_many : mm_M lyTX lyFA lenX snX 46 48 17 roX rsA nfA nmA ssX yX3_many cX3_many 4 (some .int) rm_X3_many f_X3_many := sorry
noncomputable def sX3_many_41 (y1 : Int32) (y2 : Int32) (y3 : Int32) (z : mm_S) : Option ((Int32 × Int32 × Int32 × mm_S) ⊕ (Int32 × mm_S)) := some (.inl (y1, (y2 + 1), (y3 + 1), z))
noncomputable def lX3_many_17 (s : Int32 × Int32 × Int32 × mm_S) : Option ((Int32 × Int32 × Int32 × mm_S) ⊕ (Int32 × mm_S)) := if (s.2.2.2.1 1 4) ≤ s.2.2.1 then some (.inr (s.2.1, s.2.2.2)) else (sX0_heardAt 1 s.2.2.1 s.1 s.2.2.2).bind fun q2 => if q2.1 = (-1) then some (.inl (s.1, s.2.1, (s.2.2.1 + 1), q2.2)) else (sX3_many_41 s.1 s.2.1 s.2.2.1 q2.2)
noncomputable def sX3_many_17 (y1 : Int32) (y2 : Int32) (y3 : Int32) (z : mm_S) : Option (Int32 × mm_S) := mm_wh (lX3_many_17 ) mm_fu (y1, y2, y3, z)
noncomputable def sX3_many_13 (y1 : Int32) (z : mm_S) : Option (Int32 × mm_S) := (sX3_many_17 y1 0 0 z)
noncomputable def sX3_many_0 (x1 : Int32) (z : mm_S) : Option (Int32 × mm_S) := if (pX3_isCell x1) = 0 then (sX3_finding 0 z).bind fun q1 => some (q1.1, q1.2) else (sX3_many_13 x1 z)
noncomputable def sX3_many (x1 : Int32) (z : mm_S) : Option (Int32 × mm_S) := sX3_many_0 x1 z
theorem sp_X3_many (x1 : Int32) (z : mm_S) (hk : ∀ v ∈ [mm_P 3 0, mm_I x1], mm_ok 46 lyTX 48 17 v) (q : Int32 × mm_S) (hq : sX3_many x1 z = some q) : f_X3_many [mm_P 3 0, mm_I x1] z (some (mm_I q.1), q.2) := sorry
noncomputable def lV_X3_silent : List (Nat × (List mm_V → mm_S → (Option mm_V → mm_S → Option mm_R) → Option mm_R)) := [(184, clo_X0_silentCells)]
noncomputable def mV_X3_silent (k : Nat) (as : List mm_V) (z : mm_S) (kk : Option mm_V → mm_S → Option mm_R) : Option mm_R := match mm_at lV_X3_silent k with
  | some f => f as z kk
  | none => none
noncomputable def arV_X3_silent (k : Nat) : Nat := (mm_at [(184, 1)] k).getD 0
noncomputable def lS_X3_silent : List (Nat × (List mm_V → mm_S → (Option mm_V → mm_S → Option mm_R) → Option mm_R)) := []
noncomputable def mS_X3_silent (k : Nat) (as : List mm_V) (z : mm_S) (kk : Option mm_V → mm_S → Option mm_R) : Option mm_R := match mm_at lS_X3_silent k with
  | some f => f as z kk
  | none => none
noncomputable def arS_X3_silent (k : Nat) : Nat := (mm_at [] k).getD 0
def ct_X3_silent : List (Nat × List Nat) := []
noncomputable def go_X3_silent : Nat → mm_K := mm_go (fun k => mm_at flX3 k) (fun k => mm_at clX3 k) (fun k => mm_at glX3 k) arV_X3_silent arS_X3_silent mV_X3_silent mS_X3_silent lenX roX snX 1 2 tbX3_silent ct_X3_silent
def rm_X3_silent : Room := { frames := 5, cells := 0, slots := 0, locals := 123 }
noncomputable def f_X3_silent (as : List mm_V) (z : mm_S) (o : mm_R) : Prop := (as.map mm_cat).sum ≤ 1 ∧ ∃ n, go_X3_silent n 0 (mm_ar 0 as) [] z = some o
theorem M_X3_silent : mm_M lyTX lyFA lenX snX 46 48 17 roX rsA nfA nmA ssX yX3_silent cX3_silent 1 (some .long) rm_X3_silent f_X3_silent := sorry
noncomputable def sX3_silent_0  (z : mm_S) : Option (Int64 × mm_S) := (sX0_silentCells 1 z).bind fun q1 => some (q1.1, q1.2)
noncomputable def sX3_silent  (z : mm_S) : Option (Int64 × mm_S) := sX3_silent_0  z
theorem sp_X3_silent  (z : mm_S) (hk : ∀ v ∈ [mm_P 3 0], mm_ok 46 lyTX 48 17 v) (q : Int64 × mm_S) (hq : sX3_silent  z = some q) : f_X3_silent [mm_P 3 0] z (some (mm_J q.1), q.2) := sorry
noncomputable def pX3_areTwoCrews (x1 : Int32) (x2 : Int32) (z : mm_S) : Int32 := if (pX3_isCrew x1 z) = 0 then 0 else if (pX3_isCrew x2 z) = 0 then 0 else if x1 = x2 then 0 else 1
noncomputable def clo_X3_areTwoCrews (as : List mm_V) (z : mm_S) (kk : Option mm_V → mm_S → Option mm_R) : Option mm_R := mm_pr as fun t o0 as => bif Nat.beq t 3 then mm_pi as fun a1 as => mm_pi as fun a2 as => (match as with | [] => kk (some (mm_I (pX3_areTwoCrews a1 a2 z))) z | _ => none) else none
noncomputable def lV_X3_lag : List (Nat × (List mm_V → mm_S → (Option mm_V → mm_S → Option mm_R) → Option mm_R)) := [(59, clo_X3_finding), (146, clo_X0_heardAt), (188, clo_X3_areTwoCrews)]
noncomputable def mV_X3_lag (k : Nat) (as : List mm_V) (z : mm_S) (kk : Option mm_V → mm_S → Option mm_R) : Option mm_R := match mm_at lV_X3_lag k with
  | some f => f as z kk
  | none => none
noncomputable def arV_X3_lag (k : Nat) : Nat := (mm_at [(59, 2), (146, 3), (188, 3)] k).getD 0
noncomputable def lS_X3_lag : List (Nat × (List mm_V → mm_S → (Option mm_V → mm_S → Option mm_R) → Option mm_R)) := [(52, clo_X3_isCell)]
noncomputable def mS_X3_lag (k : Nat) (as : List mm_V) (z : mm_S) (kk : Option mm_V → mm_S → Option mm_R) : Option mm_R := match mm_at lS_X3_lag k with
  | some f => f as z kk
  | none => none
noncomputable def arS_X3_lag (k : Nat) : Nat := (mm_at [(52, 1)] k).getD 0
def ct_X3_lag : List (Nat × List Nat) := [(22, [0, 1, 2, 3]), (33, [0, 2, 3, 4]), (44, [0, 4, 5]), (62, [4, 5])]
noncomputable def go_X3_lag : Nat → mm_K := mm_go (fun k => mm_at flX3 k) (fun k => mm_at clX3 k) (fun k => mm_at glX3 k) arV_X3_lag arS_X3_lag mV_X3_lag mS_X3_lag lenX roX snX 6 0 tbX3_lag ct_X3_lag
def rm_X3_lag : Room := { frames := 5, cells := 0, slots := 0, locals := 107 }
noncomputable def f_X3_lag (as : List mm_V) (z : mm_S) (o : mm_R) : Prop := (as.map mm_cat).sum ≤ 6 ∧ ∃ n, go_X3_lag n 0 (mm_ar 0 as) [] z = some o
theorem M_X3_lag : mm_M lyTX lyFA lenX snX 46 48 17 roX rsA nfA nmA ssX yX3_lag cX3_lag 6 (some .int) rm_X3_lag f_X3_lag := sorry
noncomputable def sX3_lag_62 (y4 : Int32) (y5 : Int32) (z : mm_S) : Option (Int32 × mm_S) := some ((y5 - y4), z)
noncomputable def sX3_lag_44 (y4 : Int32) (y5 : Int32) (z : mm_S) : Option (Int32 × mm_S) := if y4 = (-1) then (sX3_finding 3 z).bind fun q5 => some (q5.1, q5.2) else if y5 = (-1) then (sX3_finding 3 z).bind fun q6 => some (q6.1, q6.2) else (sX3_lag_62 y4 y5 z)
noncomputable def sX3_lag_33 (y2 : Int32) (y3 : Int32) (y4 : Int32) (z : mm_S) : Option (Int32 × mm_S) := (sX0_heardAt 1 y2 y3 z).bind fun q4 => (sX3_lag_44 y4 q4.1 q4.2)
noncomputable def sX3_lag_22 (y1 : Int32) (y2 : Int32) (y3 : Int32) (z : mm_S) : Option (Int32 × mm_S) := (sX0_heardAt 1 y1 y3 z).bind fun q3 => (sX3_lag_33 y2 y3 q3.1 q3.2)
noncomputable def sX3_lag_0 (x1 : Int32) (x2 : Int32) (x3 : Int32) (z : mm_S) : Option (Int32 × mm_S) := if (pX3_areTwoCrews x1 x2 z) = 0 then (sX3_finding 0 z).bind fun q1 => some (q1.1, q1.2) else if (pX3_isCell x3) = 0 then (sX3_finding 0 z).bind fun q2 => some (q2.1, q2.2) else (sX3_lag_22 x1 x2 x3 z)
noncomputable def sX3_lag (x1 : Int32) (x2 : Int32) (x3 : Int32) (z : mm_S) : Option (Int32 × mm_S) := sX3_lag_0 x1 x2 x3 z
theorem sp_X3_lag (x1 : Int32) (x2 : Int32) (x3 : Int32) (z : mm_S) (hk : ∀ v ∈ [mm_P 3 0, mm_I x1, mm_I x2, mm_I x3], mm_ok 46 lyTX 48 17 v) (q : Int32 × mm_S) (hq : sX3_lag x1 x2 x3 z = some q) : f_X3_lag [mm_P 3 0, mm_I x1, mm_I x2, mm_I x3] z (some (mm_I q.1), q.2) := sorry
noncomputable def lV_X3_apart : List (Nat × (List mm_V → mm_S → (Option mm_V → mm_S → Option mm_R) → Option mm_R)) := [(59, clo_X3_finding), (188, clo_X3_areTwoCrews), (192, clo_X0_fillHeard)]
noncomputable def mV_X3_apart (k : Nat) (as : List mm_V) (z : mm_S) (kk : Option mm_V → mm_S → Option mm_R) : Option mm_R := match mm_at lV_X3_apart k with
  | some f => f as z kk
  | none => none
noncomputable def arV_X3_apart (k : Nat) : Nat := (mm_at [(59, 2), (188, 3), (192, 3)] k).getD 0
noncomputable def lS_X3_apart : List (Nat × (List mm_V → mm_S → (Option mm_V → mm_S → Option mm_R) → Option mm_R)) := [(118, clo_X3_lies), (166, clo_X3_at)]
noncomputable def mS_X3_apart (k : Nat) (as : List mm_V) (z : mm_S) (kk : Option mm_V → mm_S → Option mm_R) : Option mm_R := match mm_at lS_X3_apart k with
  | some f => f as z kk
  | none => none
noncomputable def arS_X3_apart (k : Nat) : Nat := (mm_at [(118, 3), (166, 2)] k).getD 0
def ct_X3_apart : List (Nat × List Nat) := [(6, [0, 1, 2]), (15, [0, 1, 2]), (27, [0, 2]), (39, [0]), (45, [0, 3, 4]), (63, [0, 3, 4, 5]), (74, [0, 3, 4, 5, 6]), (97, [0, 3, 4, 5, 6])]
noncomputable def go_X3_apart : Nat → mm_K := mm_go (fun k => mm_at flX3 k) (fun k => mm_at clX3 k) (fun k => mm_at glX3 k) arV_X3_apart arS_X3_apart mV_X3_apart mS_X3_apart lenX roX snX 7 0 tbX3_apart ct_X3_apart
def rm_X3_apart : Room := { frames := 5, cells := 0, slots := 0, locals := 108 }
noncomputable def f_X3_apart (as : List mm_V) (z : mm_S) (o : mm_R) : Prop := (as.map mm_cat).sum ≤ 7 ∧ ∃ n, go_X3_apart n 0 (mm_ar 0 as) [] z = some o
theorem M_X3_apart : mm_M lyTX lyFA lenX snX 46 48 17 roX rsA nfA nmA ssX yX3_apart cX3_apart 7 (some .int) rm_X3_apart f_X3_apart := sorry
noncomputable def sX3_apart_97 (y3 : Int32) (y4 : Int32) (y5 : Int32) (y6 : Int32) (w0 : Int32) (z : mm_S) : Option ((Int32 × Int32 × mm_S) ⊕ (Int32 × mm_S)) := if w0 = 0 then some (.inl (y3, (y4 + 1), z)) else let v4 : Int32 := (y3 &&& ((1 <<< ((y5 - y6) &&& 31)) ^^^ (-1))); some (.inl (v4, (y4 + 1), z))
noncomputable def sX3_apart_74 (y3 : Int32) (y4 : Int32) (y5 : Int32) (y6 : Int32) (z : mm_S) : Option ((Int32 × Int32 × mm_S) ⊕ (Int32 × mm_S)) := if y5 = (-1) then some (.inl (y3, (y4 + 1), z)) else if y6 = (-1) then some (.inl (y3, (y4 + 1), z)) else (sX3_apart_97 y3 y4 y5 y6 (pX3_lies (y5 - y6) 0 30) z)
noncomputable def sX3_apart_63 (y3 : Int32) (y4 : Int32) (y5 : Int32) (z : mm_S) : Option ((Int32 × Int32 × mm_S) ⊕ (Int32 × mm_S)) := (sX3_apart_74 y3 y4 y5 (pX3_at 44 y4 z) z)
noncomputable def lX3_apart_45 (s : Int32 × Int32 × mm_S) : Option ((Int32 × Int32 × mm_S) ⊕ (Int32 × mm_S)) := if 36 ≤ s.2.1 then some (.inr (s.1, s.2.2)) else (sX3_apart_63 s.1 s.2.1 (pX3_at 43 s.2.1 s.2.2) s.2.2)
noncomputable def sX3_apart_45 (y3 : Int32) (y4 : Int32) (z : mm_S) : Option (Int32 × mm_S) := mm_wh (lX3_apart_45 ) mm_fu (y3, y4, z)
noncomputable def sX3_apart_39  (z : mm_S) : Option (Int32 × mm_S) := (sX3_apart_45 2147483647 0 z)
noncomputable def sX3_apart_27 (y2 : Int32) (z : mm_S) : Option (Int32 × mm_S) := (sX0_fillHeard 1 y2 44 z).bind fun q3 => (sX3_apart_39 q3)
noncomputable def sX3_apart_15 (y1 : Int32) (y2 : Int32) (z : mm_S) : Option (Int32 × mm_S) := (sX0_fillHeard 1 y1 43 z).bind fun q2 => (sX3_apart_27 y2 q2)
noncomputable def sX3_apart_6 (y1 : Int32) (y2 : Int32) (w0 : Int32) (z : mm_S) : Option (Int32 × mm_S) := if w0 = 0 then (sX3_finding 0 z).bind fun q1 => some (q1.1, q1.2) else (sX3_apart_15 y1 y2 z)
noncomputable def sX3_apart_0 (x1 : Int32) (x2 : Int32) (z : mm_S) : Option (Int32 × mm_S) := (sX3_apart_6 x1 x2 (pX3_areTwoCrews x1 x2 z) z)
noncomputable def sX3_apart (x1 : Int32) (x2 : Int32) (z : mm_S) : Option (Int32 × mm_S) := sX3_apart_0 x1 x2 z
theorem sp_X3_apart (x1 : Int32) (x2 : Int32) (z : mm_S) (hk : ∀ v ∈ [mm_P 3 0, mm_I x1, mm_I x2], mm_ok 46 lyTX 48 17 v) (q : Int32 × mm_S) (hq : sX3_apart x1 x2 z = some q) : f_X3_apart [mm_P 3 0, mm_I x1, mm_I x2] z (some (mm_I q.1), q.2) := sorry
noncomputable def lV_X3_from : List (Nat × (List mm_V → mm_S → (Option mm_V → mm_S → Option mm_R) → Option mm_R)) := [(59, clo_X3_finding), (93, clo_X0_placeOf), (188, clo_X3_areTwoCrews), (196, clo_X1_timesTo)]
noncomputable def mV_X3_from (k : Nat) (as : List mm_V) (z : mm_S) (kk : Option mm_V → mm_S → Option mm_R) : Option mm_R := match mm_at lV_X3_from k with
  | some f => f as z kk
  | none => none
noncomputable def arV_X3_from (k : Nat) : Nat := (mm_at [(59, 2), (93, 2), (188, 3), (196, 3)] k).getD 0
noncomputable def lS_X3_from : List (Nat × (List mm_V → mm_S → (Option mm_V → mm_S → Option mm_R) → Option mm_R)) := [(118, clo_X3_lies), (166, clo_X3_at), (173, clo_X3_setOf)]
noncomputable def mS_X3_from (k : Nat) (as : List mm_V) (z : mm_S) (kk : Option mm_V → mm_S → Option mm_R) : Option mm_R := match mm_at lS_X3_from k with
  | some f => f as z kk
  | none => none
noncomputable def arS_X3_from (k : Nat) : Nat := (mm_at [(118, 3), (166, 2), (173, 1)] k).getD 0
def ct_X3_from : List (Nat × List Nat) := [(6, [0, 1, 2, 3]), (17, [0, 1, 2, 3]), (27, [0, 1, 2, 3]), (49, [0, 2, 3]), (71, [0, 3]), (77, [0, 3, 4, 6]), (95, [0, 3, 4, 6, 7]), (106, [0, 3, 4, 6, 7, 8])]
noncomputable def go_X3_from : Nat → mm_K := mm_go (fun k => mm_at flX3 k) (fun k => mm_at clX3 k) (fun k => mm_at glX3 k) arV_X3_from arS_X3_from mV_X3_from mS_X3_from lenX roX snX 9 2 tbX3_from ct_X3_from
def rm_X3_from : Room := { frames := 4, cells := 0, slots := 0, locals := 106 }
noncomputable def f_X3_from (as : List mm_V) (z : mm_S) (o : mm_R) : Prop := (as.map mm_cat).sum ≤ 9 ∧ ∃ n, go_X3_from n 0 (mm_ar 0 as) [] z = some o
theorem M_X3_from : mm_M lyTX lyFA lenX snX 46 48 17 roX rsA nfA nmA ssX yX3_from cX3_from 9 (some .long) rm_X3_from f_X3_from := sorry
noncomputable def sX3_from_106 (y3 : Int32) (y4 : Int64) (y6 : Int32) (y7 : Int32) (y8 : Int32) (z : mm_S) : Option ((Int32 × Int64 × Int32 × mm_S) ⊕ (Int64 × mm_S)) := if y7 = (-1) then some (.inl (y3, y4, (y6 + 1), z)) else if y8 = (-1) then some (.inl (y3, y4, (y6 + 1), z)) else if (y8 - y7) = y3 then some (.inl (y3, (y4 ||| (pX3_setOf y6)), (y6 + 1), z)) else some (.inl (y3, y4, (y6 + 1), z))
noncomputable def sX3_from_95 (y3 : Int32) (y4 : Int64) (y6 : Int32) (y7 : Int32) (z : mm_S) : Option ((Int32 × Int64 × Int32 × mm_S) ⊕ (Int64 × mm_S)) := (sX3_from_106 y3 y4 y6 y7 (pX3_at 44 y6 z) z)
noncomputable def lX3_from_77 (s : Int32 × Int64 × Int32 × mm_S) : Option ((Int32 × Int64 × Int32 × mm_S) ⊕ (Int64 × mm_S)) := if 36 ≤ s.2.2.1 then some (.inr (s.2.1, s.2.2.2)) else (sX3_from_95 s.1 s.2.1 s.2.2.1 (pX3_at 43 s.2.2.1 s.2.2.2) s.2.2.2)
noncomputable def sX3_from_77 (y3 : Int32) (y4 : Int64) (y6 : Int32) (z : mm_S) : Option (Int64 × mm_S) := mm_wh (lX3_from_77 ) mm_fu (y3, y4, y6, z)
noncomputable def sX3_from_71 (y3 : Int32) (z : mm_S) : Option (Int64 × mm_S) := (sX3_from_77 y3 0 0 z)
noncomputable def sX3_from_49 (y2 : Int32) (y3 : Int32) (z : mm_S) : Option (Int64 × mm_S) := (sX1_timesTo 2 (pX0_placeOf 1 y2 z) 44 z).bind fun q4 => (sX3_from_71 y3 q4)
noncomputable def sX3_from_27 (y1 : Int32) (y2 : Int32) (y3 : Int32) (z : mm_S) : Option (Int64 × mm_S) := (sX1_timesTo 2 (pX0_placeOf 1 y1 z) 43 z).bind fun q3 => (sX3_from_49 y2 y3 q3)
noncomputable def sX3_from_17 (y1 : Int32) (y2 : Int32) (y3 : Int32) (w0 : Int32) (z : mm_S) : Option (Int64 × mm_S) := if w0 = 0 then (sX3_finding 0 z).bind fun q2 => some ((Int32.toInt64 q2.1), q2.2) else (sX3_from_27 y1 y2 y3 z)
noncomputable def sX3_from_6 (y1 : Int32) (y2 : Int32) (y3 : Int32) (w0 : Int32) (z : mm_S) : Option (Int64 × mm_S) := if w0 = 0 then (sX3_finding 0 z).bind fun q1 => some ((Int32.toInt64 q1.1), q1.2) else (sX3_from_17 y1 y2 y3 (pX3_lies y3 (-60) 60) z)
noncomputable def sX3_from_0 (x1 : Int32) (x2 : Int32) (x3 : Int32) (z : mm_S) : Option (Int64 × mm_S) := (sX3_from_6 x1 x2 x3 (pX3_areTwoCrews x1 x2 z) z)
noncomputable def sX3_from (x1 : Int32) (x2 : Int32) (x3 : Int32) (z : mm_S) : Option (Int64 × mm_S) := sX3_from_0 x1 x2 x3 z
theorem sp_X3_from (x1 : Int32) (x2 : Int32) (x3 : Int32) (z : mm_S) (hk : ∀ v ∈ [mm_P 3 0, mm_I x1, mm_I x2, mm_I x3], mm_ok 46 lyTX 48 17 v) (q : Int64 × mm_S) (hq : sX3_from x1 x2 x3 z = some q) : f_X3_from [mm_P 3 0, mm_I x1, mm_I x2, mm_I x3] z (some (mm_J q.1), q.2) := sorry
noncomputable def sX3_fillLongestTimes_112 (y1 : Int32) (y2 : Int32) (z : mm_S) : Option ((Int32 × Int32 × mm_S) ⊕ ((Int32 × mm_S) ⊕ (mm_S))) := some (.inl (y1, (y2 + 1), z))
noncomputable def sX3_fillLongestTimes_70 (y1 : Int32) (y2 : Int32) (y3 : Int32) (y4 : Int32) (z : mm_S) : Option ((Int32 × Int32 × mm_S) ⊕ ((Int32 × mm_S) ⊕ (mm_S))) := if y3 = (-1) then let u3 := (tX3_exchange 44 y2 (-1) z); (sX3_fillLongestTimes_112 y1 y2 u3.2) else if y4 = (-1) then let u4 := (tX3_exchange 44 y2 (-1) z); (sX3_fillLongestTimes_112 y1 y2 u4.2) else let u5 := (tX3_exchange 44 y2 (mm_max y3 y4) z); (sX3_fillLongestTimes_112 y1 y2 u5.2)
noncomputable def sX3_fillLongestTimes_60 (y1 : Int32) (y2 : Int32) (y3 : Int32) (z : mm_S) : Option ((Int32 × Int32 × mm_S) ⊕ ((Int32 × mm_S) ⊕ (mm_S))) := (sX3_fillLongestTimes_70 y1 y2 y3 (pX3_at 44 y2 z) z)
noncomputable def lX3_fillLongestTimes_45 (s : Int32 × Int32 × mm_S) : Option ((Int32 × Int32 × mm_S) ⊕ ((Int32 × mm_S) ⊕ (mm_S))) := if 36 ≤ s.2.1 then some (.inr (.inl ((s.1 + 1), s.2.2))) else (sX3_fillLongestTimes_60 s.1 s.2.1 (pX3_at 43 s.2.1 s.2.2) s.2.2)
noncomputable def sX3_fillLongestTimes_45 (y1 : Int32) (y2 : Int32) (z : mm_S) : Option ((Int32 × mm_S) ⊕ (mm_S)) := mm_wh (lX3_fillLongestTimes_45 ) mm_fu (y1, y2, z)
noncomputable def sX3_fillLongestTimes_43 (y1 : Int32) (z : mm_S) : Option ((Int32 × mm_S) ⊕ (mm_S)) := (sX3_fillLongestTimes_45 y1 0 z)
noncomputable def lX3_fillLongestTimes_10 (s : Int32 × mm_S) : Option ((Int32 × mm_S) ⊕ (mm_S)) := if (s.2.1 1 4) ≤ s.1 then some (.inr (s.2)) else (sX1_timesFrom 2 (pX0_placeOf 1 s.1 s.2) 43 s.2).bind fun q2 => (sX3_fillLongestTimes_43 s.1 q2)
noncomputable def sX3_fillLongestTimes_10 (y1 : Int32) (z : mm_S) : Option (mm_S) := mm_wh (lX3_fillLongestTimes_10 ) mm_fu (y1, z)
noncomputable def sX3_fillLongestTimes_8  (z : mm_S) : Option (mm_S) := (sX3_fillLongestTimes_10 0 z)
noncomputable def sX3_fillLongestTimes_0  (z : mm_S) : Option (mm_S) := let u1 := (tJ7_fill_53178 44 0 z); (sX3_fillLongestTimes_8 u1)
noncomputable def sX3_fillLongestTimes  (z : mm_S) : Option (mm_S) := sX3_fillLongestTimes_0  z
noncomputable def clo_X3_fillLongestTimes (as : List mm_V) (z : mm_S) (kk : Option mm_V → mm_S → Option mm_R) : Option mm_R := mm_pr as fun t o0 as => bif Nat.beq t 3 then (match as with | [] => (sX3_fillLongestTimes z).bind fun q => kk none q | _ => none) else none
noncomputable def lV_X3_middle : List (Nat × (List mm_V → mm_S → (Option mm_V → mm_S → Option mm_R) → Option mm_R)) := [(59, clo_X3_finding), (143, clo_X3_orNone), (199, clo_X3_fillLongestTimes)]
noncomputable def mV_X3_middle (k : Nat) (as : List mm_V) (z : mm_S) (kk : Option mm_V → mm_S → Option mm_R) : Option mm_R := match mm_at lV_X3_middle k with
  | some f => f as z kk
  | none => none
noncomputable def arV_X3_middle (k : Nat) : Nat := (mm_at [(59, 2), (143, 2), (199, 1)] k).getD 0
noncomputable def lS_X3_middle : List (Nat × (List mm_V → mm_S → (Option mm_V → mm_S → Option mm_R) → Option mm_R)) := [(166, clo_X3_at)]
noncomputable def mS_X3_middle (k : Nat) (as : List mm_V) (z : mm_S) (kk : Option mm_V → mm_S → Option mm_R) : Option mm_R := match mm_at lS_X3_middle k with
  | some f => f as z kk
  | none => none
noncomputable def arS_X3_middle (k : Nat) : Nat := (mm_at [(166, 2)] k).getD 0
def ct_X3_middle : List (Nat × List Nat) := [(16, [0]), (26, [0, 1, 2]), (28, [0, 1, 2, 3]), (44, [0, 1, 2, 3, 4])]
noncomputable def go_X3_middle : Nat → mm_K := mm_go (fun k => mm_at flX3 k) (fun k => mm_at clX3 k) (fun k => mm_at glX3 k) arV_X3_middle arS_X3_middle mV_X3_middle mS_X3_middle lenX roX snX 5 0 tbX3_middle ct_X3_middle
def rm_X3_middle : Room := { frames := 4, cells := 0, slots := 0, locals := 107 }
noncomputable def f_X3_middle (as : List mm_V) (z : mm_S) (o : mm_R) : Prop := (as.map mm_cat).sum ≤ 5 ∧ ∃ n, go_X3_middle n 0 (mm_ar 0 as) [] z = some o
theorem M_X3_middle : mm_M lyTX lyFA lenX snX 46 48 17 roX rsA nfA nmA ssX yX3_middle cX3_middle 5 (some .int) rm_X3_middle f_X3_middle := sorry
noncomputable def sX3_middle_44 (y1 : Int32) (y2 : Int32) (y3 : Int32) (y4 : Int32) (z : mm_S) : Option ((Int32 × Int32 × Int32 × mm_S) ⊕ (Int32 × mm_S)) := if y4 = (-1) then some (.inl (y1, y2, (y3 + 1), z)) else if y2 ≤ y4 then some (.inl (y1, y2, (y3 + 1), z)) else some (.inl (y3, y4, (y3 + 1), z))
noncomputable def lX3_middle_28 (s : Int32 × Int32 × Int32 × mm_S) : Option ((Int32 × Int32 × Int32 × mm_S) ⊕ (Int32 × mm_S)) := if 36 ≤ s.2.2.1 then (sX3_orNone s.1 s.2.2.2).bind fun q3 => some (.inr (q3.1, q3.2)) else (sX3_middle_44 s.1 s.2.1 s.2.2.1 (pX3_at 44 s.2.2.1 s.2.2.2) s.2.2.2)
noncomputable def sX3_middle_28 (y1 : Int32) (y2 : Int32) (y3 : Int32) (z : mm_S) : Option (Int32 × mm_S) := mm_wh (lX3_middle_28 ) mm_fu (y1, y2, y3, z)
noncomputable def sX3_middle_26 (y1 : Int32) (y2 : Int32) (z : mm_S) : Option (Int32 × mm_S) := (sX3_middle_28 y1 y2 0 z)
noncomputable def sX3_middle_16  (z : mm_S) : Option (Int32 × mm_S) := (sX3_fillLongestTimes  z).bind fun q2 => (sX3_middle_26 (-1) 217 q2)
noncomputable def sX3_middle_0  (z : mm_S) : Option (Int32 × mm_S) := if (z.1 1 4) = 0 then (sX3_finding 0 z).bind fun q1 => some (q1.1, q1.2) else (sX3_middle_16 z)
noncomputable def sX3_middle  (z : mm_S) : Option (Int32 × mm_S) := sX3_middle_0  z
theorem sp_X3_middle  (z : mm_S) (hk : ∀ v ∈ [mm_P 3 0], mm_ok 46 lyTX 48 17 v) (q : Int32 × mm_S) (hq : sX3_middle  z = some q) : f_X3_middle [mm_P 3 0] z (some (mm_I q.1), q.2) := sorry
noncomputable def sX3_hearersAs_77 (y1 : Int32) (y2 : Int32) (y3 : Int32) (y4 : Int32) (y5 : Int32) (w0 : Int32) (w1 : Int32) (z : mm_S) : Option ((Int32 × Int32 × Int32 × Int32 × Int32 × mm_S) ⊕ (Int32 × mm_S)) := if (pX3_hearsByAs w0) < w1 then if y5 = y1 then some (.inl (y1, y2, y3, y4, (y5 + 1), z)) else some (.inl (y1, y2, y3, y4, (y5 + 1), z)) else if y5 = y1 then some (.inl (y1, y2, y3, y4, (y5 + 1), z)) else some (.inl (y1, y2, y3, (y4 + 1), (y5 + 1), z))
noncomputable def sX3_hearersAs_49 (y1 : Int32) (y2 : Int32) (y3 : Int32) (y4 : Int32) (y5 : Int32) (y6 : Int32) (z : mm_S) : Option ((Int32 × Int32 × Int32 × Int32 × Int32 × mm_S) ⊕ (Int32 × mm_S)) := if y6 = (-1) then if y5 = y1 then some (.inl (y1, y2, y3, y4, (y5 + 1), z)) else some (.inl (y1, y2, y3, y4, (y5 + 1), z)) else if y3 < y6 then if y5 = y1 then some (.inl (y1, y2, y3, y4, (y5 + 1), z)) else some (.inl (y1, y2, y3, y4, (y5 + 1), z)) else (sX3_hearersAs_77 y1 y2 y3 y4 y5 (pX0_kindOf 1 y5 z) (y6 + (pX3_startsAs y2)) z)
noncomputable def lX3_hearersAs_19 (s : Int32 × Int32 × Int32 × Int32 × Int32 × mm_S) : Option ((Int32 × Int32 × Int32 × Int32 × Int32 × mm_S) ⊕ (Int32 × mm_S)) := if (s.2.2.2.2.2.1 1 4) ≤ s.2.2.2.2.1 then some (.inr (s.2.2.2.1, s.2.2.2.2.2)) else (sX3_hearersAs_49 s.1 s.2.1 s.2.2.1 s.2.2.2.1 s.2.2.2.2.1 (pX3_at 43 (pX0_placeOf 1 s.2.2.2.2.1 s.2.2.2.2.2) s.2.2.2.2.2) s.2.2.2.2.2)
noncomputable def sX3_hearersAs_19 (y1 : Int32) (y2 : Int32) (y3 : Int32) (y4 : Int32) (y5 : Int32) (z : mm_S) : Option (Int32 × mm_S) := mm_wh (lX3_hearersAs_19 ) mm_fu (y1, y2, y3, y4, y5, z)
noncomputable def sX3_hearersAs_13 (y1 : Int32) (y2 : Int32) (y3 : Int32) (z : mm_S) : Option (Int32 × mm_S) := (sX3_hearersAs_19 y1 y2 y3 0 0 z)
noncomputable def sX3_hearersAs_0 (x1 : Int32) (x2 : Int32) (z : mm_S) : Option (Int32 × mm_S) := (sX3_hearersAs_13 x1 x2 (pX3_carriesAs x2 (pX0_forceOf 1 x1 z)) z)
noncomputable def sX3_hearersAs (x1 : Int32) (x2 : Int32) (z : mm_S) : Option (Int32 × mm_S) := sX3_hearersAs_0 x1 x2 z
noncomputable def clo_X3_hearersAs (as : List mm_V) (z : mm_S) (kk : Option mm_V → mm_S → Option mm_R) : Option mm_R := mm_pr as fun t o0 as => bif Nat.beq t 3 then mm_pi as fun a1 as => mm_pi as fun a2 as => (match as with | [] => (sX3_hearersAs a1 a2 z).bind fun q => kk (some (mm_I q.1)) q.2 | _ => none) else none
noncomputable def lV_X3_kindFor : List (Nat × (List mm_V → mm_S → (Option mm_V → mm_S → Option mm_R) → Option mm_R)) := [(59, clo_X3_finding), (87, clo_X3_isCrew), (93, clo_X0_placeOf), (162, clo_X1_timesFrom), (202, clo_X3_hearersAs)]
noncomputable def mV_X3_kindFor (k : Nat) (as : List mm_V) (z : mm_S) (kk : Option mm_V → mm_S → Option mm_R) : Option mm_R := match mm_at lV_X3_kindFor k with
  | some f => f as z kk
  | none => none
noncomputable def arV_X3_kindFor (k : Nat) : Nat := (mm_at [(59, 2), (87, 2), (93, 2), (162, 3), (202, 3)] k).getD 0
noncomputable def lS_X3_kindFor : List (Nat × (List mm_V → mm_S → (Option mm_V → mm_S → Option mm_R) → Option mm_R)) := []
noncomputable def mS_X3_kindFor (k : Nat) (as : List mm_V) (z : mm_S) (kk : Option mm_V → mm_S → Option mm_R) : Option mm_R := match mm_at lS_X3_kindFor k with
  | some f => f as z kk
  | none => none
noncomputable def arS_X3_kindFor (k : Nat) : Nat := (mm_at [] k).getD 0
def ct_X3_kindFor : List (Nat × List Nat) := [(5, [0, 1]), (14, [0, 1]), (36, [0, 1]), (43, [0, 1, 2, 3, 4]), (59, [0, 1, 2, 3, 4, 5])]
noncomputable def go_X3_kindFor : Nat → mm_K := mm_go (fun k => mm_at flX3 k) (fun k => mm_at clX3 k) (fun k => mm_at glX3 k) arV_X3_kindFor arS_X3_kindFor mV_X3_kindFor mS_X3_kindFor lenX roX snX 6 0 tbX3_kindFor ct_X3_kindFor
def rm_X3_kindFor : Room := { frames := 3, cells := 0, slots := 0, locals := 82 }
noncomputable def f_X3_kindFor (as : List mm_V) (z : mm_S) (o : mm_R) : Prop := (as.map mm_cat).sum ≤ 6 ∧ ∃ n, go_X3_kindFor n 0 (mm_ar 0 as) [] z = some o
theorem M_X3_kindFor : mm_M lyTX lyFA lenX snX 46 48 17 roX rsA nfA nmA ssX yX3_kindFor cX3_kindFor 6 (some .int) rm_X3_kindFor f_X3_kindFor := sorry
noncomputable def sX3_kindFor_59 (y1 : Int32) (y2 : Int32) (y3 : Int32) (y4 : Int32) (y5 : Int32) (z : mm_S) : Option ((Int32 × Int32 × Int32 × Int32 × mm_S) ⊕ (Int32 × mm_S)) := if y5 ≤ y3 then some (.inl (y1, y2, y3, (y4 + 1), z)) else some (.inl (y1, y4, y5, (y4 + 1), z))
noncomputable def lX3_kindFor_43 (s : Int32 × Int32 × Int32 × Int32 × mm_S) : Option ((Int32 × Int32 × Int32 × Int32 × mm_S) ⊕ (Int32 × mm_S)) := if 7 ≤ s.2.2.2.1 then some (.inr (s.2.1, s.2.2.2.2)) else (sX3_hearersAs s.1 s.2.2.2.1 s.2.2.2.2).bind fun q3 => (sX3_kindFor_59 s.1 s.2.1 s.2.2.1 s.2.2.2.1 q3.1 q3.2)
noncomputable def sX3_kindFor_43 (y1 : Int32) (y2 : Int32) (y3 : Int32) (y4 : Int32) (z : mm_S) : Option (Int32 × mm_S) := mm_wh (lX3_kindFor_43 ) mm_fu (y1, y2, y3, y4, z)
noncomputable def sX3_kindFor_36 (y1 : Int32) (z : mm_S) : Option (Int32 × mm_S) := (sX3_kindFor_43 y1 0 (-1) 0 z)
noncomputable def sX3_kindFor_14 (y1 : Int32) (z : mm_S) : Option (Int32 × mm_S) := (sX1_timesFrom 2 (pX0_placeOf 1 y1 z) 43 z).bind fun q2 => (sX3_kindFor_36 y1 q2)
noncomputable def sX3_kindFor_5 (y1 : Int32) (w0 : Int32) (z : mm_S) : Option (Int32 × mm_S) := if w0 = 0 then (sX3_finding 0 z).bind fun q1 => some (q1.1, q1.2) else (sX3_kindFor_14 y1 z)
noncomputable def sX3_kindFor_0 (x1 : Int32) (z : mm_S) : Option (Int32 × mm_S) := (sX3_kindFor_5 x1 (pX3_isCrew x1 z) z)
noncomputable def sX3_kindFor (x1 : Int32) (z : mm_S) : Option (Int32 × mm_S) := sX3_kindFor_0 x1 z
theorem sp_X3_kindFor (x1 : Int32) (z : mm_S) (hk : ∀ v ∈ [mm_P 3 0, mm_I x1], mm_ok 46 lyTX 48 17 v) (q : Int32 × mm_S) (hq : sX3_kindFor x1 z = some q) : f_X3_kindFor [mm_P 3 0, mm_I x1] z (some (mm_I q.1), q.2) := sorry
noncomputable def lV_X3_place : List (Nat × (List mm_V → mm_S → (Option mm_V → mm_S → Option mm_R) → Option mm_R)) := [(59, clo_X3_finding), (87, clo_X3_isCrew), (99, clo_X0_carriesOf), (205, clo_X1_cellsWithin)]
noncomputable def mV_X3_place (k : Nat) (as : List mm_V) (z : mm_S) (kk : Option mm_V → mm_S → Option mm_R) : Option mm_R := match mm_at lV_X3_place k with
  | some f => f as z kk
  | none => none
noncomputable def arV_X3_place (k : Nat) : Nat := (mm_at [(59, 2), (87, 2), (99, 2), (205, 3)] k).getD 0
noncomputable def lS_X3_place : List (Nat × (List mm_V → mm_S → (Option mm_V → mm_S → Option mm_R) → Option mm_R)) := [(209, clo_J13_bitCount_95d88)]
noncomputable def mS_X3_place (k : Nat) (as : List mm_V) (z : mm_S) (kk : Option mm_V → mm_S → Option mm_R) : Option mm_R := match mm_at lS_X3_place k with
  | some f => f as z kk
  | none => none
noncomputable def arS_X3_place (k : Nat) : Nat := (mm_at [(209, 1)] k).getD 0
def ct_X3_place : List (Nat × List Nat) := [(5, [0, 1]), (14, [0, 1]), (21, [0, 1, 2, 3, 4]), (53, [0, 1, 2, 3, 4, 5])]
noncomputable def go_X3_place : Nat → mm_K := mm_go (fun k => mm_at flX3 k) (fun k => mm_at clX3 k) (fun k => mm_at glX3 k) arV_X3_place arS_X3_place mV_X3_place mS_X3_place lenX roX snX 6 0 tbX3_place ct_X3_place
def rm_X3_place : Room := { frames := 3, cells := 0, slots := 0, locals := 79 }
noncomputable def f_X3_place (as : List mm_V) (z : mm_S) (o : mm_R) : Prop := (as.map mm_cat).sum ≤ 6 ∧ ∃ n, go_X3_place n 0 (mm_ar 0 as) [] z = some o
theorem M_X3_place : mm_M lyTX lyFA lenX snX 46 48 17 roX rsA nfA nmA ssX yX3_place cX3_place 6 (some .int) rm_X3_place f_X3_place := sorry
noncomputable def sX3_place_53 (y1 : Int32) (y2 : Int32) (y3 : Int32) (y4 : Int32) (y5 : Int32) (z : mm_S) : Option ((Int32 × Int32 × Int32 × Int32 × mm_S) ⊕ (Int32 × mm_S)) := if y5 ≤ y3 then some (.inl (y1, y2, y3, (y4 + 1), z)) else some (.inl (y1, y4, y5, (y4 + 1), z))
noncomputable def lX3_place_21 (s : Int32 × Int32 × Int32 × Int32 × mm_S) : Option ((Int32 × Int32 × Int32 × Int32 × mm_S) ⊕ (Int32 × mm_S)) := if 36 ≤ s.2.2.2.1 then some (.inr (s.2.1, s.2.2.2.2)) else (sX1_cellsWithin 2 s.2.2.2.1 (pX0_carriesOf 1 s.1 s.2.2.2.2) s.2.2.2.2).bind fun q2 => (sX3_place_53 s.1 s.2.1 s.2.2.1 s.2.2.2.1 (pJ13_bitCount_95d88 q2.1) q2.2)
noncomputable def sX3_place_21 (y1 : Int32) (y2 : Int32) (y3 : Int32) (y4 : Int32) (z : mm_S) : Option (Int32 × mm_S) := mm_wh (lX3_place_21 ) mm_fu (y1, y2, y3, y4, z)
noncomputable def sX3_place_14 (y1 : Int32) (z : mm_S) : Option (Int32 × mm_S) := (sX3_place_21 y1 0 (-1) 0 z)
noncomputable def sX3_place_5 (y1 : Int32) (w0 : Int32) (z : mm_S) : Option (Int32 × mm_S) := if w0 = 0 then (sX3_finding 0 z).bind fun q1 => some (q1.1, q1.2) else (sX3_place_14 y1 z)
noncomputable def sX3_place_0 (x1 : Int32) (z : mm_S) : Option (Int32 × mm_S) := (sX3_place_5 x1 (pX3_isCrew x1 z) z)
noncomputable def sX3_place (x1 : Int32) (z : mm_S) : Option (Int32 × mm_S) := sX3_place_0 x1 z
theorem sp_X3_place (x1 : Int32) (z : mm_S) (hk : ∀ v ∈ [mm_P 3 0, mm_I x1], mm_ok 46 lyTX 48 17 v) (q : Int32 × mm_S) (hq : sX3_place x1 z = some q) : f_X3_place [mm_P 3 0, mm_I x1] z (some (mm_I q.1), q.2) := sorry
noncomputable def lV_X3_book : List (Nat × (List mm_V → mm_S → (Option mm_V → mm_S → Option mm_R) → Option mm_R)) := [(59, clo_X3_finding), (218, clo_X0_addBook)]
noncomputable def mV_X3_book (k : Nat) (as : List mm_V) (z : mm_S) (kk : Option mm_V → mm_S → Option mm_R) : Option mm_R := match mm_at lV_X3_book k with
  | some f => f as z kk
  | none => none
noncomputable def arV_X3_book (k : Nat) : Nat := (mm_at [(59, 2), (218, 4)] k).getD 0
noncomputable def lS_X3_book : List (Nat × (List mm_V → mm_S → (Option mm_V → mm_S → Option mm_R) → Option mm_R)) := [(52, clo_X3_isCell), (118, clo_X3_lies)]
noncomputable def mS_X3_book (k : Nat) (as : List mm_V) (z : mm_S) (kk : Option mm_V → mm_S → Option mm_R) : Option mm_R := match mm_at lS_X3_book k with
  | some f => f as z kk
  | none => none
noncomputable def arS_X3_book (k : Nat) : Nat := (mm_at [(52, 1), (118, 3)] k).getD 0
def ct_X3_book : List (Nat × List Nat) := [(4, [0, 1, 2, 3]), (11, [0, 1, 2, 3]), (21, [0, 1, 2, 3]), (30, [0, 1, 2, 3]), (48, [0, 1, 2, 3]), (58, [0])]
noncomputable def go_X3_book : Nat → mm_K := mm_go (fun k => mm_at flX3 k) (fun k => mm_at clX3 k) (fun k => mm_at glX3 k) arV_X3_book arS_X3_book mV_X3_book mS_X3_book lenX roX snX 4 0 tbX3_book ct_X3_book
def rm_X3_book : Room := { frames := 2, cells := 0, slots := 0, locals := 46 }
noncomputable def f_X3_book (as : List mm_V) (z : mm_S) (o : mm_R) : Prop := (as.map mm_cat).sum ≤ 4 ∧ ∃ n, go_X3_book n 0 (mm_ar 0 as) [] z = some o
theorem M_X3_book : mm_M lyTX lyFA lenX snX 46 48 17 roX rsA nfA nmA ssX yX3_book cX3_book 4 (some .int) rm_X3_book f_X3_book := sorry
noncomputable def sX3_book_58  (z : mm_S) : Option (Int32 × mm_S) := some ((z.1 1 10), z)
noncomputable def sX3_book_48 (y1 : Int32) (y2 : Int32) (y3 : Int32) (z : mm_S) : Option (Int32 × mm_S) := let u5 := (tX0_addBook 1 y1 y2 y3 z); (sX3_book_58 u5)
noncomputable def sX3_book_30 (y1 : Int32) (y2 : Int32) (y3 : Int32) (z : mm_S) : Option (Int32 × mm_S) := if (z.1 1 10) < 8 then (sX3_book_48 y1 y2 y3 z) else (sX3_finding 1 z).bind fun q4 => some (q4.1, q4.2)
noncomputable def sX3_book_21 (y1 : Int32) (y2 : Int32) (y3 : Int32) (w0 : Int32) (z : mm_S) : Option (Int32 × mm_S) := if w0 = 0 then (sX3_finding 0 z).bind fun q3 => some (q3.1, q3.2) else (sX3_book_30 y1 y2 y3 z)
noncomputable def sX3_book_11 (y1 : Int32) (y2 : Int32) (y3 : Int32) (w0 : Int32) (z : mm_S) : Option (Int32 × mm_S) := if w0 = 0 then (sX3_finding 0 z).bind fun q2 => some (q2.1, q2.2) else (sX3_book_21 y1 y2 y3 (pX3_lies y3 0 99) z)
noncomputable def sX3_book_4 (y1 : Int32) (y2 : Int32) (y3 : Int32) (w0 : Int32) (z : mm_S) : Option (Int32 × mm_S) := if w0 = 0 then (sX3_finding 0 z).bind fun q1 => some (q1.1, q1.2) else (sX3_book_11 y1 y2 y3 (pX3_isCell y2) z)
noncomputable def sX3_book_0 (x1 : Int32) (x2 : Int32) (x3 : Int32) (z : mm_S) : Option (Int32 × mm_S) := (sX3_book_4 x1 x2 x3 (pX3_isCell x1) z)
noncomputable def sX3_book (x1 : Int32) (x2 : Int32) (x3 : Int32) (z : mm_S) : Option (Int32 × mm_S) := sX3_book_0 x1 x2 x3 z
theorem sp_X3_book (x1 : Int32) (x2 : Int32) (x3 : Int32) (z : mm_S) (hk : ∀ v ∈ [mm_P 3 0, mm_I x1, mm_I x2, mm_I x3], mm_ok 46 lyTX 48 17 v) (q : Int32 × mm_S) (hq : sX3_book x1 x2 x3 z = some q) : f_X3_book [mm_P 3 0, mm_I x1, mm_I x2, mm_I x3] z (some (mm_I q.1), q.2) := sorry
noncomputable def lV_X3_burn : List (Nat × (List mm_V → mm_S → (Option mm_V → mm_S → Option mm_R) → Option mm_R)) := []
noncomputable def mV_X3_burn (k : Nat) (as : List mm_V) (z : mm_S) (kk : Option mm_V → mm_S → Option mm_R) : Option mm_R := match mm_at lV_X3_burn k with
  | some f => f as z kk
  | none => none
noncomputable def arV_X3_burn (k : Nat) : Nat := (mm_at [] k).getD 0
noncomputable def lS_X3_burn : List (Nat × (List mm_V → mm_S → (Option mm_V → mm_S → Option mm_R) → Option mm_R)) := []
noncomputable def mS_X3_burn (k : Nat) (as : List mm_V) (z : mm_S) (kk : Option mm_V → mm_S → Option mm_R) : Option mm_R := match mm_at lS_X3_burn k with
  | some f => f as z kk
  | none => none
noncomputable def arS_X3_burn (k : Nat) : Nat := (mm_at [] k).getD 0
def ct_X3_burn : List (Nat × List Nat) := [(16, [1])]
noncomputable def go_X3_burn : Nat → mm_K := mm_go (fun k => mm_at flX3 k) (fun k => mm_at clX3 k) (fun k => mm_at glX3 k) arV_X3_burn arS_X3_burn mV_X3_burn mS_X3_burn lenX roX snX 2 0 tbX3_burn ct_X3_burn
def rm_X3_burn : Room := { frames := 0, cells := 0, slots := 0, locals := 0 }
noncomputable def f_X3_burn (as : List mm_V) (z : mm_S) (o : mm_R) : Prop := (as.map mm_cat).sum ≤ 2 ∧ ∃ n, go_X3_burn n 0 (mm_ar 0 as) [] z = some o
theorem M_X3_burn : mm_M lyTX lyFA lenX snX 46 48 17 roX rsA nfA nmA ssX yX3_burn cX3_burn 2 (some .int) rm_X3_burn f_X3_burn := sorry
noncomputable def sX3_burn_16 (y1 : Int32) (z : mm_S) : Option (Int32 × mm_S) := some (y1, z)
noncomputable def sX3_burn_0  (z : mm_S) : Option (Int32 × mm_S) := (sX3_burn_16 (z.1 1 10) ((mm_ui z.1 1 10 0), z.2))
noncomputable def sX3_burn  (z : mm_S) : Option (Int32 × mm_S) := sX3_burn_0  z
theorem sp_X3_burn  (z : mm_S) (hk : ∀ v ∈ [mm_P 3 0], mm_ok 46 lyTX 48 17 v) (q : Int32 × mm_S) (hq : sX3_burn  z = some q) : f_X3_burn [mm_P 3 0] z (some (mm_I q.1), q.2) := sorry
noncomputable def lV_X3_wrong : List (Nat × (List mm_V → mm_S → (Option mm_V → mm_S → Option mm_R) → Option mm_R)) := [(143, clo_X3_orNone), (221, clo_X0_firstWrong)]
noncomputable def mV_X3_wrong (k : Nat) (as : List mm_V) (z : mm_S) (kk : Option mm_V → mm_S → Option mm_R) : Option mm_R := match mm_at lV_X3_wrong k with
  | some f => f as z kk
  | none => none
noncomputable def arV_X3_wrong (k : Nat) : Nat := (mm_at [(143, 2), (221, 1)] k).getD 0
noncomputable def lS_X3_wrong : List (Nat × (List mm_V → mm_S → (Option mm_V → mm_S → Option mm_R) → Option mm_R)) := []
noncomputable def mS_X3_wrong (k : Nat) (as : List mm_V) (z : mm_S) (kk : Option mm_V → mm_S → Option mm_R) : Option mm_R := match mm_at lS_X3_wrong k with
  | some f => f as z kk
  | none => none
noncomputable def arS_X3_wrong (k : Nat) : Nat := (mm_at [] k).getD 0
def ct_X3_wrong : List (Nat × List Nat) := []
noncomputable def go_X3_wrong : Nat → mm_K := mm_go (fun k => mm_at flX3 k) (fun k => mm_at clX3 k) (fun k => mm_at glX3 k) arV_X3_wrong arS_X3_wrong mV_X3_wrong mS_X3_wrong lenX roX snX 1 0 tbX3_wrong ct_X3_wrong
def rm_X3_wrong : Room := { frames := 4, cells := 0, slots := 0, locals := 102 }
noncomputable def f_X3_wrong (as : List mm_V) (z : mm_S) (o : mm_R) : Prop := (as.map mm_cat).sum ≤ 1 ∧ ∃ n, go_X3_wrong n 0 (mm_ar 0 as) [] z = some o
theorem M_X3_wrong : mm_M lyTX lyFA lenX snX 46 48 17 roX rsA nfA nmA ssX yX3_wrong cX3_wrong 1 (some .int) rm_X3_wrong f_X3_wrong := sorry
noncomputable def sX3_wrong_0  (z : mm_S) : Option (Int32 × mm_S) := (sX0_firstWrong 1 z).bind fun q1 => (sX3_orNone q1.1 q1.2).bind fun q2 => some (q2.1, q2.2)
noncomputable def sX3_wrong  (z : mm_S) : Option (Int32 × mm_S) := sX3_wrong_0  z
theorem sp_X3_wrong  (z : mm_S) (hk : ∀ v ∈ [mm_P 3 0], mm_ok 46 lyTX 48 17 v) (q : Int32 × mm_S) (hq : sX3_wrong  z = some q) : f_X3_wrong [mm_P 3 0] z (some (mm_I q.1), q.2) := sorry
noncomputable def sX3_beginMaps_11  (z : mm_S) : Option (Int32 × mm_S) := some ((pX0_mapCount 1 z), z)
noncomputable def sX3_beginMaps_0  (z : mm_S) : Option (Int32 × mm_S) := let u1 := (tX0_become 25 1 z); (sX3_beginMaps_11 u1)
noncomputable def sX3_beginMaps  (z : mm_S) : Option (Int32 × mm_S) := sX3_beginMaps_0  z
noncomputable def clo_X3_beginMaps (as : List mm_V) (z : mm_S) (kk : Option mm_V → mm_S → Option mm_R) : Option mm_R := mm_pr as fun t o0 as => bif Nat.beq t 3 then (match as with | [] => (sX3_beginMaps z).bind fun q => kk (some (mm_I q.1)) q.2 | _ => none) else none
noncomputable def sX3_draftFitsAs_19  (z : mm_S) : Option (Int32 × mm_S) := some (1, z)
noncomputable def sX3_draftFitsAs_15 (w0 : Int32) (z : mm_S) : Option (Int32 × mm_S) := if w0 = (-1) then (sX3_draftFitsAs_19 z) else some (0, z)
noncomputable def sX3_draftFitsAs_8  (z : mm_S) : Option (Int32 × mm_S) := (sX0_firstWrong 25 z).bind fun q2 => (sX3_draftFitsAs_15 q2.1 q2.2)
noncomputable def sX3_draftFitsAs_0 (x1 : Int32) (z : mm_S) : Option (Int32 × mm_S) := (sX0_layMap 25 x1 z).bind fun q1 => (sX3_draftFitsAs_8 q1)
noncomputable def sX3_draftFitsAs (x1 : Int32) (z : mm_S) : Option (Int32 × mm_S) := sX3_draftFitsAs_0 x1 z
noncomputable def clo_X3_draftFitsAs (as : List mm_V) (z : mm_S) (kk : Option mm_V → mm_S → Option mm_R) : Option mm_R := mm_pr as fun t o0 as => bif Nat.beq t 3 then mm_pi as fun a1 as => (match as with | [] => (sX3_draftFitsAs a1 z).bind fun q => kk (some (mm_I q.1)) q.2 | _ => none) else none
noncomputable def lV_X3_fits : List (Nat × (List mm_V → mm_S → (Option mm_V → mm_S → Option mm_R) → Option mm_R)) := [(225, clo_X3_beginMaps), (228, clo_X3_draftFitsAs)]
noncomputable def mV_X3_fits (k : Nat) (as : List mm_V) (z : mm_S) (kk : Option mm_V → mm_S → Option mm_R) : Option mm_R := match mm_at lV_X3_fits k with
  | some f => f as z kk
  | none => none
noncomputable def arV_X3_fits (k : Nat) : Nat := (mm_at [(225, 1), (228, 2)] k).getD 0
noncomputable def lS_X3_fits : List (Nat × (List mm_V → mm_S → (Option mm_V → mm_S → Option mm_R) → Option mm_R)) := []
noncomputable def mS_X3_fits (k : Nat) (as : List mm_V) (z : mm_S) (kk : Option mm_V → mm_S → Option mm_R) : Option mm_R := match mm_at lS_X3_fits k with
  | some f => f as z kk
  | none => none
noncomputable def arS_X3_fits (k : Nat) : Nat := (mm_at [] k).getD 0
def ct_X3_fits : List (Nat × List Nat) := [(7, [0, 1, 2]), (9, [0, 1, 2, 3]), (19, [0, 1, 2, 3]), (22, [0, 1, 2, 3])]
noncomputable def go_X3_fits : Nat → mm_K := mm_go (fun k => mm_at flX3 k) (fun k => mm_at clX3 k) (fun k => mm_at glX3 k) arV_X3_fits arS_X3_fits mV_X3_fits mS_X3_fits lenX roX snX 4 0 tbX3_fits ct_X3_fits
def rm_X3_fits : Room := { frames := 5, cells := 0, slots := 0, locals := 123 }
noncomputable def f_X3_fits (as : List mm_V) (z : mm_S) (o : mm_R) : Prop := (as.map mm_cat).sum ≤ 4 ∧ ∃ n, go_X3_fits n 0 (mm_ar 0 as) [] z = some o
theorem M_X3_fits : mm_M lyTX lyFA lenX snX 46 48 17 roX rsA nfA nmA ssX yX3_fits cX3_fits 4 (some .int) rm_X3_fits f_X3_fits := sorry
noncomputable def sX3_fits_22 (y1 : Int32) (y2 : Int32) (y3 : Int32) (z : mm_S) : Option ((Int32 × Int32 × Int32 × mm_S) ⊕ (Int32 × mm_S)) := some (.inl ((y1 + 1), y2, (y3 + 1), z))
noncomputable def sX3_fits_19 (y1 : Int32) (y2 : Int32) (y3 : Int32) (w0 : Int32) (z : mm_S) : Option ((Int32 × Int32 × Int32 × mm_S) ⊕ (Int32 × mm_S)) := if w0 = 0 then some (.inl (y1, y2, (y3 + 1), z)) else (sX3_fits_22 y1 y2 y3 z)
noncomputable def lX3_fits_9 (s : Int32 × Int32 × Int32 × mm_S) : Option ((Int32 × Int32 × Int32 × mm_S) ⊕ (Int32 × mm_S)) := if s.2.1 ≤ s.2.2.1 then some (.inr (s.1, s.2.2.2)) else (sX3_draftFitsAs s.2.2.1 s.2.2.2).bind fun q2 => (sX3_fits_19 s.1 s.2.1 s.2.2.1 q2.1 q2.2)
noncomputable def sX3_fits_9 (y1 : Int32) (y2 : Int32) (y3 : Int32) (z : mm_S) : Option (Int32 × mm_S) := mm_wh (lX3_fits_9 ) mm_fu (y1, y2, y3, z)
noncomputable def sX3_fits_7 (y1 : Int32) (y2 : Int32) (z : mm_S) : Option (Int32 × mm_S) := (sX3_fits_9 y1 y2 0 z)
noncomputable def sX3_fits_0  (z : mm_S) : Option (Int32 × mm_S) := (sX3_beginMaps  z).bind fun q1 => (sX3_fits_7 0 q1.1 q1.2)
noncomputable def sX3_fits  (z : mm_S) : Option (Int32 × mm_S) := sX3_fits_0  z
theorem sp_X3_fits  (z : mm_S) (hk : ∀ v ∈ [mm_P 3 0], mm_ok 46 lyTX 48 17 v) (q : Int32 × mm_S) (hq : sX3_fits  z = some q) : f_X3_fits [mm_P 3 0] z (some (mm_I q.1), q.2) := sorry
noncomputable def sX3_leastFit_20 (y2 : Int32) (z : mm_S) : Option (Int32 × mm_S) := some (y2, z)
noncomputable def sX3_leastFit_17 (y1 : Int32) (y2 : Int32) (w0 : Int32) (z : mm_S) : Option ((Int32 × Int32 × mm_S) ⊕ (Int32 × mm_S)) := if w0 = 0 then some (.inl (y1, (y2 + 1), z)) else ((sX3_leastFit_20 y2 z).map fun w => (Sum.inr w))
noncomputable def lX3_leastFit_7 (s : Int32 × Int32 × mm_S) : Option ((Int32 × Int32 × mm_S) ⊕ (Int32 × mm_S)) := if s.1 ≤ s.2.1 then some (.inr ((-1), s.2.2)) else (sX3_draftFitsAs s.2.1 s.2.2).bind fun q2 => (sX3_leastFit_17 s.1 s.2.1 q2.1 q2.2)
noncomputable def sX3_leastFit_7 (y1 : Int32) (y2 : Int32) (z : mm_S) : Option (Int32 × mm_S) := mm_wh (lX3_leastFit_7 ) mm_fu (y1, y2, z)
noncomputable def sX3_leastFit_5 (y1 : Int32) (z : mm_S) : Option (Int32 × mm_S) := (sX3_leastFit_7 y1 0 z)
noncomputable def sX3_leastFit_0  (z : mm_S) : Option (Int32 × mm_S) := (sX3_beginMaps  z).bind fun q1 => (sX3_leastFit_5 q1.1 q1.2)
noncomputable def sX3_leastFit  (z : mm_S) : Option (Int32 × mm_S) := sX3_leastFit_0  z
noncomputable def clo_X3_leastFit (as : List mm_V) (z : mm_S) (kk : Option mm_V → mm_S → Option mm_R) : Option mm_R := mm_pr as fun t o0 as => bif Nat.beq t 3 then (match as with | [] => (sX3_leastFit z).bind fun q => kk (some (mm_I q.1)) q.2 | _ => none) else none
noncomputable def sX3_nearestFit_40 (y1 : Int32) (y2 : Int32) (y3 : Int32) (y4 : Int32) (y5 : Int32) (z : mm_S) : Option ((Int32 × Int32 × Int32 × Int32 × mm_S) ⊕ (Int32 × mm_S)) := if y2 ≤ y5 then some (.inl (y1, y2, y3, (y4 + 1), z)) else some (.inl (y4, y5, y3, (y4 + 1), z))
noncomputable def sX3_nearestFit_27 (y1 : Int32) (y2 : Int32) (y3 : Int32) (y4 : Int32) (z : mm_S) : Option ((Int32 × Int32 × Int32 × Int32 × mm_S) ⊕ (Int32 × mm_S)) := (sX0_unlikeCells 25 1 z).bind fun q3 => (sX3_nearestFit_40 y1 y2 y3 y4 q3.1 q3.2)
noncomputable def sX3_nearestFit_24 (y1 : Int32) (y2 : Int32) (y3 : Int32) (y4 : Int32) (w0 : Int32) (z : mm_S) : Option ((Int32 × Int32 × Int32 × Int32 × mm_S) ⊕ (Int32 × mm_S)) := if w0 = 0 then some (.inl (y1, y2, y3, (y4 + 1), z)) else (sX3_nearestFit_27 y1 y2 y3 y4 z)
noncomputable def lX3_nearestFit_12 (s : Int32 × Int32 × Int32 × Int32 × mm_S) : Option ((Int32 × Int32 × Int32 × Int32 × mm_S) ⊕ (Int32 × mm_S)) := if s.2.2.1 ≤ s.2.2.2.1 then some (.inr (s.1, s.2.2.2.2)) else (sX3_draftFitsAs s.2.2.2.1 s.2.2.2.2).bind fun q2 => (sX3_nearestFit_24 s.1 s.2.1 s.2.2.1 s.2.2.2.1 q2.1 q2.2)
noncomputable def sX3_nearestFit_12 (y1 : Int32) (y2 : Int32) (y3 : Int32) (y4 : Int32) (z : mm_S) : Option (Int32 × mm_S) := mm_wh (lX3_nearestFit_12 ) mm_fu (y1, y2, y3, y4, z)
noncomputable def sX3_nearestFit_9 (y1 : Int32) (y2 : Int32) (y3 : Int32) (z : mm_S) : Option (Int32 × mm_S) := (sX3_nearestFit_12 y1 y2 y3 0 z)
noncomputable def sX3_nearestFit_0  (z : mm_S) : Option (Int32 × mm_S) := (sX3_beginMaps  z).bind fun q1 => (sX3_nearestFit_9 (-1) 5 q1.1 q1.2)
noncomputable def sX3_nearestFit  (z : mm_S) : Option (Int32 × mm_S) := sX3_nearestFit_0  z
noncomputable def clo_X3_nearestFit (as : List mm_V) (z : mm_S) (kk : Option mm_V → mm_S → Option mm_R) : Option mm_R := mm_pr as fun t o0 as => bif Nat.beq t 3 then (match as with | [] => (sX3_nearestFit z).bind fun q => kk (some (mm_I q.1)) q.2 | _ => none) else none
noncomputable def sX3_greatestFit_21 (y2 : Int32) (z : mm_S) : Option (Int32 × mm_S) := some (y2, z)
noncomputable def sX3_greatestFit_18 (y2 : Int32) (w0 : Int32) (z : mm_S) : Option ((Int32 × mm_S) ⊕ (Int32 × mm_S)) := if w0 = 0 then let v3 : Int32 := (y2 + (-1)); some (.inl (v3, z)) else ((sX3_greatestFit_21 y2 z).map fun w => (Sum.inr w))
noncomputable def lX3_greatestFit_9 (s : Int32 × mm_S) : Option ((Int32 × mm_S) ⊕ (Int32 × mm_S)) := if s.1 < 0 then some (.inr ((-1), s.2)) else (sX3_draftFitsAs s.1 s.2).bind fun q2 => (sX3_greatestFit_18 s.1 q2.1 q2.2)
noncomputable def sX3_greatestFit_9 (y2 : Int32) (z : mm_S) : Option (Int32 × mm_S) := mm_wh (lX3_greatestFit_9 ) mm_fu (y2, z)
noncomputable def sX3_greatestFit_5 (y1 : Int32) (z : mm_S) : Option (Int32 × mm_S) := (sX3_greatestFit_9 (y1 - 1) z)
noncomputable def sX3_greatestFit_0  (z : mm_S) : Option (Int32 × mm_S) := (sX3_beginMaps  z).bind fun q1 => (sX3_greatestFit_5 q1.1 q1.2)
noncomputable def sX3_greatestFit  (z : mm_S) : Option (Int32 × mm_S) := sX3_greatestFit_0  z
noncomputable def clo_X3_greatestFit (as : List mm_V) (z : mm_S) (kk : Option mm_V → mm_S → Option mm_R) : Option mm_R := mm_pr as fun t o0 as => bif Nat.beq t 3 then (match as with | [] => (sX3_greatestFit z).bind fun q => kk (some (mm_I q.1)) q.2 | _ => none) else none
noncomputable def lV_X3_map : List (Nat × (List mm_V → mm_S → (Option mm_V → mm_S → Option mm_R) → Option mm_R)) := [(59, clo_X3_finding), (143, clo_X3_orNone), (231, clo_X3_leastFit), (234, clo_X3_nearestFit), (237, clo_X3_greatestFit)]
noncomputable def mV_X3_map (k : Nat) (as : List mm_V) (z : mm_S) (kk : Option mm_V → mm_S → Option mm_R) : Option mm_R := match mm_at lV_X3_map k with
  | some f => f as z kk
  | none => none
noncomputable def arV_X3_map (k : Nat) : Nat := (mm_at [(59, 2), (143, 2), (231, 1), (234, 1), (237, 1)] k).getD 0
noncomputable def lS_X3_map : List (Nat × (List mm_V → mm_S → (Option mm_V → mm_S → Option mm_R) → Option mm_R)) := []
noncomputable def mS_X3_map (k : Nat) (as : List mm_V) (z : mm_S) (kk : Option mm_V → mm_S → Option mm_R) : Option mm_R := match mm_at lS_X3_map k with
  | some f => f as z kk
  | none => none
noncomputable def arS_X3_map (k : Nat) : Nat := (mm_at [] k).getD 0
def ct_X3_map : List (Nat × List Nat) := []
noncomputable def go_X3_map : Nat → mm_K := mm_go (fun k => mm_at flX3 k) (fun k => mm_at clX3 k) (fun k => mm_at glX3 k) arV_X3_map arS_X3_map mV_X3_map mS_X3_map lenX roX snX 2 0 tbX3_map ct_X3_map
def rm_X3_map : Room := { frames := 6, cells := 0, slots := 0, locals := 148 }
noncomputable def f_X3_map (as : List mm_V) (z : mm_S) (o : mm_R) : Prop := (as.map mm_cat).sum ≤ 2 ∧ ∃ n, go_X3_map n 0 (mm_ar 0 as) [] z = some o
theorem M_X3_map : mm_M lyTX lyFA lenX snX 46 48 17 roX rsA nfA nmA ssX yX3_map cX3_map 2 (some .int) rm_X3_map f_X3_map := sorry
noncomputable def sX3_map_0 (x1 : Int32) (z : mm_S) : Option (Int32 × mm_S) := if x1 = 0 then (sX3_leastFit  z).bind fun q6 => (sX3_orNone q6.1 q6.2).bind fun q7 => some (q7.1, q7.2) else if x1 = 1 then (sX3_nearestFit  z).bind fun q4 => (sX3_orNone q4.1 q4.2).bind fun q5 => some (q5.1, q5.2) else if x1 = 2 then (sX3_greatestFit  z).bind fun q2 => (sX3_orNone q2.1 q2.2).bind fun q3 => some (q3.1, q3.2) else (sX3_finding 0 z).bind fun q1 => some (q1.1, q1.2)
noncomputable def sX3_map (x1 : Int32) (z : mm_S) : Option (Int32 × mm_S) := sX3_map_0 x1 z
theorem sp_X3_map (x1 : Int32) (z : mm_S) (hk : ∀ v ∈ [mm_P 3 0, mm_I x1], mm_ok 46 lyTX 48 17 v) (q : Int32 × mm_S) (hq : sX3_map x1 z = some q) : f_X3_map [mm_P 3 0, mm_I x1] z (some (mm_I q.1), q.2) := sorry
noncomputable def lV_X3_may : List (Nat × (List mm_V → mm_S → (Option mm_V → mm_S → Option mm_R) → Option mm_R)) := [(59, clo_X3_finding), (67, clo_X1_stuffAt), (225, clo_X3_beginMaps), (228, clo_X3_draftFitsAs)]
noncomputable def mV_X3_may (k : Nat) (as : List mm_V) (z : mm_S) (kk : Option mm_V → mm_S → Option mm_R) : Option mm_R := match mm_at lV_X3_may k with
  | some f => f as z kk
  | none => none
noncomputable def arV_X3_may (k : Nat) : Nat := (mm_at [(59, 2), (67, 2), (225, 1), (228, 2)] k).getD 0
noncomputable def lS_X3_may : List (Nat × (List mm_V → mm_S → (Option mm_V → mm_S → Option mm_R) → Option mm_R)) := [(118, clo_X3_lies), (166, clo_X3_at)]
noncomputable def mS_X3_may (k : Nat) (as : List mm_V) (z : mm_S) (kk : Option mm_V → mm_S → Option mm_R) : Option mm_R := match mm_at lS_X3_may k with
  | some f => f as z kk
  | none => none
noncomputable def arS_X3_may (k : Nat) : Nat := (mm_at [(118, 3), (166, 2)] k).getD 0
def ct_X3_may : List (Nat × List Nat) := [(14, [0, 1]), (23, [0, 1]), (37, [0, 2, 3]), (43, [0, 2, 3, 4]), (46, [0, 2, 3, 4, 5]), (59, [0, 2, 3, 4, 5]), (62, [0, 2, 3, 4, 5])]
noncomputable def go_X3_may : Nat → mm_K := mm_go (fun k => mm_at flX3 k) (fun k => mm_at clX3 k) (fun k => mm_at glX3 k) arV_X3_may arS_X3_may mV_X3_may mS_X3_may lenX roX snX 6 0 tbX3_may ct_X3_may
def rm_X3_may : Room := { frames := 5, cells := 0, slots := 0, locals := 123 }
noncomputable def f_X3_may (as : List mm_V) (z : mm_S) (o : mm_R) : Prop := (as.map mm_cat).sum ≤ 6 ∧ ∃ n, go_X3_may n 0 (mm_ar 0 as) [] z = some o
theorem M_X3_may : mm_M lyTX lyFA lenX snX 46 48 17 roX rsA nfA nmA ssX yX3_may cX3_may 6 (some .int) rm_X3_may f_X3_may := sorry
noncomputable def sX3_may_62 (y2 : Int32) (y3 : Int32) (y4 : Int32) (y5 : Int32) (z : mm_S) : Option ((Int32 × Int32 × Int32 × Int32 × mm_S) ⊕ (Int32 × mm_S)) := let v4 : Int32 := (y2 ||| (1 <<< ((pX1_stuffAt 26 y3 z) &&& 31))); some (.inl (v4, y3, y4, (y5 + 1), z))
noncomputable def sX3_may_59 (y2 : Int32) (y3 : Int32) (y4 : Int32) (y5 : Int32) (w0 : Int32) (z : mm_S) : Option ((Int32 × Int32 × Int32 × Int32 × mm_S) ⊕ (Int32 × mm_S)) := if w0 = 0 then some (.inl (y2, y3, y4, (y5 + 1), z)) else (sX3_may_62 y2 y3 y4 y5 z)
noncomputable def lX3_may_46 (s : Int32 × Int32 × Int32 × Int32 × mm_S) : Option ((Int32 × Int32 × Int32 × Int32 × mm_S) ⊕ (Int32 × mm_S)) := if s.2.2.1 ≤ s.2.2.2.1 then some (.inr (s.1, s.2.2.2.2)) else (sX3_draftFitsAs s.2.2.2.1 s.2.2.2.2).bind fun q3 => (sX3_may_59 s.1 s.2.1 s.2.2.1 s.2.2.2.1 q3.1 q3.2)
noncomputable def sX3_may_46 (y2 : Int32) (y3 : Int32) (y4 : Int32) (y5 : Int32) (z : mm_S) : Option (Int32 × mm_S) := mm_wh (lX3_may_46 ) mm_fu (y2, y3, y4, y5, z)
noncomputable def sX3_may_43 (y2 : Int32) (y3 : Int32) (y4 : Int32) (z : mm_S) : Option (Int32 × mm_S) := (sX3_may_46 y2 y3 y4 0 z)
noncomputable def sX3_may_37 (y2 : Int32) (y3 : Int32) (z : mm_S) : Option (Int32 × mm_S) := (sX3_beginMaps  z).bind fun q2 => (sX3_may_43 y2 y3 q2.1 q2.2)
noncomputable def sX3_may_23 (y1 : Int32) (z : mm_S) : Option (Int32 × mm_S) := (sX3_may_37 0 (pX3_at 8 y1 z) z)
noncomputable def sX3_may_14 (y1 : Int32) (w0 : Int32) (z : mm_S) : Option (Int32 × mm_S) := if w0 = 0 then (sX3_finding 0 z).bind fun q1 => some (q1.1, q1.2) else (sX3_may_23 y1 z)
noncomputable def sX3_may_0 (x1 : Int32) (z : mm_S) : Option (Int32 × mm_S) := (sX3_may_14 x1 (pX3_lies x1 0 ((z.1 1 6) - 1)) z)
noncomputable def sX3_may (x1 : Int32) (z : mm_S) : Option (Int32 × mm_S) := sX3_may_0 x1 z
theorem sp_X3_may (x1 : Int32) (z : mm_S) (hk : ∀ v ∈ [mm_P 3 0, mm_I x1], mm_ok 46 lyTX 48 17 v) (q : Int32 × mm_S) (hq : sX3_may x1 z = some q) : f_X3_may [mm_P 3 0, mm_I x1] z (some (mm_I q.1), q.2) := sorry
noncomputable def lV_X3_lays : List (Nat × (List mm_V → mm_S → (Option mm_V → mm_S → Option mm_R) → Option mm_R)) := [(59, clo_X3_finding), (243, clo_X0_mapCount), (246, clo_X0_mapNow), (249, clo_X0_layMap)]
noncomputable def mV_X3_lays (k : Nat) (as : List mm_V) (z : mm_S) (kk : Option mm_V → mm_S → Option mm_R) : Option mm_R := match mm_at lV_X3_lays k with
  | some f => f as z kk
  | none => none
noncomputable def arV_X3_lays (k : Nat) : Nat := (mm_at [(59, 2), (243, 1), (246, 1), (249, 2)] k).getD 0
noncomputable def lS_X3_lays : List (Nat × (List mm_V → mm_S → (Option mm_V → mm_S → Option mm_R) → Option mm_R)) := [(118, clo_X3_lies)]
noncomputable def mS_X3_lays (k : Nat) (as : List mm_V) (z : mm_S) (kk : Option mm_V → mm_S → Option mm_R) : Option mm_R := match mm_at lS_X3_lays k with
  | some f => f as z kk
  | none => none
noncomputable def arS_X3_lays (k : Nat) : Nat := (mm_at [(118, 3)] k).getD 0
def ct_X3_lays : List (Nat × List Nat) := [(14, [0, 1]), (23, [0, 1]), (39, [0, 1]), (47, [0, 1, 2]), (55, [2])]
noncomputable def go_X3_lays : Nat → mm_K := mm_go (fun k => mm_at flX3 k) (fun k => mm_at clX3 k) (fun k => mm_at glX3 k) arV_X3_lays arS_X3_lays mV_X3_lays mS_X3_lays lenX roX snX 3 0 tbX3_lays ct_X3_lays
def rm_X3_lays : Room := { frames := 4, cells := 0, slots := 0, locals := 88 }
noncomputable def f_X3_lays (as : List mm_V) (z : mm_S) (o : mm_R) : Prop := (as.map mm_cat).sum ≤ 3 ∧ ∃ n, go_X3_lays n 0 (mm_ar 0 as) [] z = some o
theorem M_X3_lays : mm_M lyTX lyFA lenX snX 46 48 17 roX rsA nfA nmA ssX yX3_lays cX3_lays 3 (some .int) rm_X3_lays f_X3_lays := sorry
noncomputable def sX3_lays_55 (y2 : Int32) (z : mm_S) : Option (Int32 × mm_S) := some (y2, z)
noncomputable def sX3_lays_47 (y1 : Int32) (y2 : Int32) (z : mm_S) : Option (Int32 × mm_S) := (sX0_layMap 1 y1 z).bind fun q4 => (sX3_lays_55 y2 q4)
noncomputable def sX3_lays_39 (y1 : Int32) (z : mm_S) : Option (Int32 × mm_S) := (sX0_mapNow 1 z).bind fun q3 => (sX3_lays_47 y1 q3.1 q3.2)
noncomputable def sX3_lays_23 (y1 : Int32) (z : mm_S) : Option (Int32 × mm_S) := if (z.1 1 6) = 0 then (sX3_finding 4 z).bind fun q2 => some (q2.1, q2.2) else (sX3_lays_39 y1 z)
noncomputable def sX3_lays_14 (y1 : Int32) (w0 : Int32) (z : mm_S) : Option (Int32 × mm_S) := if w0 = 0 then (sX3_finding 0 z).bind fun q1 => some (q1.1, q1.2) else (sX3_lays_23 y1 z)
noncomputable def sX3_lays_0 (x1 : Int32) (z : mm_S) : Option (Int32 × mm_S) := (sX3_lays_14 x1 (pX3_lies x1 0 ((pX0_mapCount 1 z) - 1)) z)
noncomputable def sX3_lays (x1 : Int32) (z : mm_S) : Option (Int32 × mm_S) := sX3_lays_0 x1 z
theorem sp_X3_lays (x1 : Int32) (z : mm_S) (hk : ∀ v ∈ [mm_P 3 0, mm_I x1], mm_ok 46 lyTX 48 17 v) (q : Int32 × mm_S) (hq : sX3_lays x1 z = some q) : f_X3_lays [mm_P 3 0, mm_I x1] z (some (mm_I q.1), q.2) := sorry
noncomputable def sX3_markTimesOfCrews_70 (y1 : Int32) (z : mm_S) : Option ((Int32 × mm_S) ⊕ (mm_S)) := some (.inl ((y1 + 1), z))
noncomputable def sX3_markTimesOfCrews_52 (y1 : Int32) (y2 : Int32) (y3 : Int32) (w0 : Int32) (z : mm_S) : Option ((Int32 × mm_S) ⊕ (mm_S)) := if w0 = 0 then (sX3_markTimesOfCrews_70 y1 z) else if y3 < 0 ∨ 24 ≤ Int32.toNatClampNeg y3 then none else if y3 < 0 ∨ 24 ≤ Int32.toNatClampNeg y3 then none else let u2 : mm_S := (z.1, (mm_ul z.2 45 (Int32.toNatClampNeg y3) ((z.2 45 (Int32.toNatClampNeg y3)) ||| (1 <<< (Int32.toInt64 (y2 - y2 / 64 * 64) &&& 63))))); (sX3_markTimesOfCrews_70 y1 u2)
noncomputable def lX3_markTimesOfCrews_2 (s : Int32 × mm_S) : Option ((Int32 × mm_S) ⊕ (mm_S)) := if (s.2.1 1 4) ≤ s.1 then some (.inr (s.2)) else let v1 : Int32 := ((s.1 * 4) + (((pX3_at 43 (pX0_placeOf 1 s.1 s.2) s.2) + 1) / 64)); (sX3_markTimesOfCrews_52 s.1 ((pX3_at 43 (pX0_placeOf 1 s.1 s.2) s.2) + 1) v1 (pX3_lies v1 0 23) s.2)
noncomputable def sX3_markTimesOfCrews_2 (y1 : Int32) (z : mm_S) : Option (mm_S) := mm_wh (lX3_markTimesOfCrews_2 ) mm_fu (y1, z)
noncomputable def sX3_markTimesOfCrews_0  (z : mm_S) : Option (mm_S) := (sX3_markTimesOfCrews_2 0 z)
noncomputable def sX3_markTimesOfCrews  (z : mm_S) : Option (mm_S) := sX3_markTimesOfCrews_0  z
noncomputable def clo_X3_markTimesOfCrews (as : List mm_V) (z : mm_S) (kk : Option mm_V → mm_S → Option mm_R) : Option mm_R := mm_pr as fun t o0 as => bif Nat.beq t 3 then (match as with | [] => (sX3_markTimesOfCrews z).bind fun q => kk none q | _ => none) else none
noncomputable def sX3_crewOfMostTimes_50 (y1 : Int32) (y2 : Int32) (y3 : Int32) (y5 : Int32) (w0 : Int32) (w1 : Int32) (z : mm_S) : Option ((Int32 × Int32 × Int32 × Int32 × Int32 × mm_S) ⊕ ((Int32 × Int32 × Int32 × mm_S) ⊕ (Int32 × mm_S))) := if w0 = 0 then some (.inl (y1, y2, y3, (w1 + 0), (y5 + 1), z)) else if y5 < 0 ∨ 24 ≤ Int32.toNatClampNeg y5 then none else let v1 : Int32 := (w1 + (pJ13_bitCount_95d88 (z.2 45 (Int32.toNatClampNeg y5)))); some (.inl (y1, y2, y3, v1, (y5 + 1), z))
noncomputable def lX3_crewOfMostTimes_25 (s : Int32 × Int32 × Int32 × Int32 × Int32 × mm_S) : Option ((Int32 × Int32 × Int32 × Int32 × Int32 × mm_S) ⊕ ((Int32 × Int32 × Int32 × mm_S) ⊕ (Int32 × mm_S))) := if ((s.2.2.1 + 1) * 4) ≤ s.2.2.2.2.1 then if s.2.2.2.1 ≤ s.2.1 then some (.inr (.inl (s.1, s.2.1, (s.2.2.1 + 1), s.2.2.2.2.2))) else some (.inr (.inl (s.2.2.1, s.2.2.2.1, (s.2.2.1 + 1), s.2.2.2.2.2))) else (sX3_crewOfMostTimes_50 s.1 s.2.1 s.2.2.1 s.2.2.2.2.1 (pX3_lies s.2.2.2.2.1 0 23) s.2.2.2.1 s.2.2.2.2.2)
noncomputable def sX3_crewOfMostTimes_25 (y1 : Int32) (y2 : Int32) (y3 : Int32) (y4 : Int32) (y5 : Int32) (z : mm_S) : Option ((Int32 × Int32 × Int32 × mm_S) ⊕ (Int32 × mm_S)) := mm_wh (lX3_crewOfMostTimes_25 ) mm_fu (y1, y2, y3, y4, y5, z)
noncomputable def lX3_crewOfMostTimes_6 (s : Int32 × Int32 × Int32 × mm_S) : Option ((Int32 × Int32 × Int32 × mm_S) ⊕ (Int32 × mm_S)) := if (s.2.2.2.1 1 4) ≤ s.2.2.1 then some (.inr (s.1, s.2.2.2)) else (sX3_crewOfMostTimes_25 s.1 s.2.1 s.2.2.1 0 (s.2.2.1 * 4) s.2.2.2)
noncomputable def sX3_crewOfMostTimes_6 (y1 : Int32) (y2 : Int32) (y3 : Int32) (z : mm_S) : Option (Int32 × mm_S) := mm_wh (lX3_crewOfMostTimes_6 ) mm_fu (y1, y2, y3, z)
noncomputable def sX3_crewOfMostTimes_0  (z : mm_S) : Option (Int32 × mm_S) := (sX3_crewOfMostTimes_6 (-1) 0 0 z)
noncomputable def sX3_crewOfMostTimes  (z : mm_S) : Option (Int32 × mm_S) := sX3_crewOfMostTimes_0  z
noncomputable def clo_X3_crewOfMostTimes (as : List mm_V) (z : mm_S) (kk : Option mm_V → mm_S → Option mm_R) : Option mm_R := mm_pr as fun t o0 as => bif Nat.beq t 3 then (match as with | [] => (sX3_crewOfMostTimes z).bind fun q => kk (some (mm_I q.1)) q.2 | _ => none) else none
noncomputable def lV_X3_asks : List (Nat × (List mm_V → mm_S → (Option mm_V → mm_S → Option mm_R) → Option mm_R)) := [(59, clo_X3_finding), (143, clo_X3_orNone), (196, clo_X1_timesTo), (225, clo_X3_beginMaps), (228, clo_X3_draftFitsAs), (258, clo_X3_markTimesOfCrews), (261, clo_X3_crewOfMostTimes)]
noncomputable def mV_X3_asks (k : Nat) (as : List mm_V) (z : mm_S) (kk : Option mm_V → mm_S → Option mm_R) : Option mm_R := match mm_at lV_X3_asks k with
  | some f => f as z kk
  | none => none
noncomputable def arV_X3_asks (k : Nat) : Nat := (mm_at [(59, 2), (143, 2), (196, 3), (225, 1), (228, 2), (258, 1), (261, 1)] k).getD 0
noncomputable def lS_X3_asks : List (Nat × (List mm_V → mm_S → (Option mm_V → mm_S → Option mm_R) → Option mm_R)) := [(52, clo_X3_isCell), (252, clo_J7_fill_d0a16)]
noncomputable def mS_X3_asks (k : Nat) (as : List mm_V) (z : mm_S) (kk : Option mm_V → mm_S → Option mm_R) : Option mm_R := match mm_at lS_X3_asks k with
  | some f => f as z kk
  | none => none
noncomputable def arS_X3_asks (k : Nat) : Nat := (mm_at [(52, 1), (252, 2)] k).getD 0
def ct_X3_asks : List (Nat × List Nat) := [(4, [0, 1]), (13, [0, 1]), (21, [0, 1]), (26, [0, 1, 2]), (28, [0, 1, 2, 3]), (38, [0, 1, 2, 3]), (41, [0, 1, 2, 3]), (56, [0, 1, 2, 3]), (60, [0, 1, 2, 3])]
noncomputable def go_X3_asks : Nat → mm_K := mm_go (fun k => mm_at flX3 k) (fun k => mm_at clX3 k) (fun k => mm_at glX3 k) arV_X3_asks arS_X3_asks mV_X3_asks mS_X3_asks lenX roX snX 4 0 tbX3_asks ct_X3_asks
def rm_X3_asks : Room := { frames := 5, cells := 0, slots := 0, locals := 123 }
noncomputable def f_X3_asks (as : List mm_V) (z : mm_S) (o : mm_R) : Prop := (as.map mm_cat).sum ≤ 4 ∧ ∃ n, go_X3_asks n 0 (mm_ar 0 as) [] z = some o
theorem M_X3_asks : mm_M lyTX lyFA lenX snX 46 48 17 roX rsA nfA nmA ssX yX3_asks cX3_asks 4 (some .int) rm_X3_asks f_X3_asks := sorry
noncomputable def sX3_asks_60 (y1 : Int32) (y2 : Int32) (y3 : Int32) (z : mm_S) : Option ((Int32 × Int32 × Int32 × mm_S) ⊕ (Int32 × mm_S)) := some (.inl (y1, y2, (y3 + 1), z))
noncomputable def sX3_asks_56 (y1 : Int32) (y2 : Int32) (y3 : Int32) (z : mm_S) : Option ((Int32 × Int32 × Int32 × mm_S) ⊕ (Int32 × mm_S)) := (sX3_markTimesOfCrews  z).bind fun q8 => (sX3_asks_60 y1 y2 y3 q8)
noncomputable def sX3_asks_41 (y1 : Int32) (y2 : Int32) (y3 : Int32) (z : mm_S) : Option ((Int32 × Int32 × Int32 × mm_S) ⊕ (Int32 × mm_S)) := (sX1_timesTo 26 y1 43 z).bind fun q7 => (sX3_asks_56 y1 y2 y3 q7)
noncomputable def sX3_asks_38 (y1 : Int32) (y2 : Int32) (y3 : Int32) (w0 : Int32) (z : mm_S) : Option ((Int32 × Int32 × Int32 × mm_S) ⊕ (Int32 × mm_S)) := if w0 = 0 then (sX3_asks_60 y1 y2 y3 z) else (sX3_asks_41 y1 y2 y3 z)
noncomputable def lX3_asks_28 (s : Int32 × Int32 × Int32 × mm_S) : Option ((Int32 × Int32 × Int32 × mm_S) ⊕ (Int32 × mm_S)) := if s.2.1 ≤ s.2.2.1 then (sX3_crewOfMostTimes  s.2.2.2).bind fun q4 => (sX3_orNone q4.1 q4.2).bind fun q5 => some (.inr (q5.1, q5.2)) else (sX3_draftFitsAs s.2.2.1 s.2.2.2).bind fun q6 => (sX3_asks_38 s.1 s.2.1 s.2.2.1 q6.1 q6.2)
noncomputable def sX3_asks_28 (y1 : Int32) (y2 : Int32) (y3 : Int32) (z : mm_S) : Option (Int32 × mm_S) := mm_wh (lX3_asks_28 ) mm_fu (y1, y2, y3, z)
noncomputable def sX3_asks_26 (y1 : Int32) (y2 : Int32) (z : mm_S) : Option (Int32 × mm_S) := (sX3_asks_28 y1 y2 0 z)
noncomputable def sX3_asks_21 (y1 : Int32) (z : mm_S) : Option (Int32 × mm_S) := (sX3_beginMaps  z).bind fun q3 => (sX3_asks_26 y1 q3.1 q3.2)
noncomputable def sX3_asks_13 (y1 : Int32) (z : mm_S) : Option (Int32 × mm_S) := let u2 := (tJ7_fill_d0a16 45 0 z); (sX3_asks_21 y1 u2)
noncomputable def sX3_asks_4 (y1 : Int32) (w0 : Int32) (z : mm_S) : Option (Int32 × mm_S) := if w0 = 0 then (sX3_finding 0 z).bind fun q1 => some (q1.1, q1.2) else (sX3_asks_13 y1 z)
noncomputable def sX3_asks_0 (x1 : Int32) (z : mm_S) : Option (Int32 × mm_S) := (sX3_asks_4 x1 (pX3_isCell x1) z)
noncomputable def sX3_asks (x1 : Int32) (z : mm_S) : Option (Int32 × mm_S) := sX3_asks_0 x1 z
theorem sp_X3_asks (x1 : Int32) (z : mm_S) (hk : ∀ v ∈ [mm_P 3 0, mm_I x1], mm_ok 46 lyTX 48 17 v) (q : Int32 × mm_S) (hq : sX3_asks x1 z = some q) : f_X3_asks [mm_P 3 0, mm_I x1] z (some (mm_I q.1), q.2) := sorry
noncomputable def lX3_flood_6 (s : Int64 × Int64 × Int32 × mm_S) : Option ((Int64 × Int64 × Int32 × mm_S) ⊕ (Int64 × mm_S)) := if 36 ≤ s.2.2.1 then some (.inr (s.2.1, s.2.2.2)) else if (lg_cmp (s.2.1 ||| ((pX3_besides s.2.1) &&& s.1)) s.2.1) = 0 then some (.inr (s.2.1, s.2.2.2)) else some (.inl (s.1, (s.2.1 ||| ((pX3_besides s.2.1) &&& s.1)), (s.2.2.1 + 1), s.2.2.2))
noncomputable def sX3_flood_6 (y2 : Int64) (y4 : Int64) (y6 : Int32) (z : mm_S) : Option (Int64 × mm_S) := mm_wh (lX3_flood_6 ) mm_fu (y2, y4, y6, z)
noncomputable def sX3_flood_0 (x1 : Int64) (x2 : Int64) (z : mm_S) : Option (Int64 × mm_S) := (sX3_flood_6 x2 x1 0 z)
noncomputable def sX3_flood (x1 : Int64) (x2 : Int64) (z : mm_S) : Option (Int64 × mm_S) := sX3_flood_0 x1 x2 z
noncomputable def clo_X3_flood (as : List mm_V) (z : mm_S) (kk : Option mm_V → mm_S → Option mm_R) : Option mm_R := mm_pj as fun a0 as => mm_pj as fun a1 as => (match as with | [] => (sX3_flood a0 a1 z).bind fun q => kk (some (mm_J q.1)) q.2 | _ => none)
noncomputable def sX3_costOfWay_73 (y0 : Int64) (y5 : Int32) (y6 : Int64) (y8 : Int64) (y10 : Int64) (y12 : Int32) (z : mm_S) : Option ((Int64 × Int32 × Int64 × Int64 × Int64 × Int32 × mm_S) ⊕ (Int32 × mm_S)) := some (.inl (y0, y5, y6, y8, y10, (y12 + 1), z))
noncomputable def sX3_costOfWay_43 (y0 : Int64) (y5 : Int32) (y6 : Int64) (y8 : Int64) (y10 : Int64) (y12 : Int32) (w0 : Int32) (z : mm_S) : Option ((Int64 × Int32 × Int64 × Int64 × Int64 × Int32 × mm_S) ⊕ (Int32 × mm_S)) := if w0 = 0 then (sX3_flood (y10 ||| (((pX3_besides y10) ||| y6) &&& y0)) y8 z).bind fun q2 => (sX3_costOfWay_73 y0 y5 y6 y8 q2.1 y12 q2.2) else some (.inr (y12, z))
noncomputable def lX3_costOfWay_29 (s : Int64 × Int32 × Int64 × Int64 × Int64 × Int32 × mm_S) : Option ((Int64 × Int32 × Int64 × Int64 × Int64 × Int32 × mm_S) ⊕ (Int32 × mm_S)) := if 36 < s.2.2.2.2.2.1 then some (.inr ((-1), s.2.2.2.2.2.2)) else (sX3_costOfWay_43 s.1 s.2.1 s.2.2.1 s.2.2.2.1 s.2.2.2.2.1 s.2.2.2.2.2.1 (pX3_has s.2.2.2.2.1 s.2.1) s.2.2.2.2.2.2)
noncomputable def sX3_costOfWay_29 (y0 : Int64) (y5 : Int32) (y6 : Int64) (y8 : Int64) (y10 : Int64) (y12 : Int32) (z : mm_S) : Option (Int32 × mm_S) := mm_wh (lX3_costOfWay_29 ) mm_fu (y0, y5, y6, y8, y10, y12, z)
noncomputable def sX3_costOfWay_26 (y0 : Int64) (y5 : Int32) (y6 : Int64) (y8 : Int64) (y10 : Int64) (z : mm_S) : Option (Int32 × mm_S) := (sX3_costOfWay_29 y0 y5 y6 y8 y10 0 z)
noncomputable def sX3_costOfWay_0 (x1 : Int64) (x2 : Int64) (x3 : Int32) (x4 : Int32) (z : mm_S) : Option (Int32 × mm_S) := (sX3_flood (((pX3_setOf x3) &&& x1) &&& (x1 &&& x2)) (x1 &&& x2) z).bind fun q1 => (sX3_costOfWay_26 x1 x4 ((pX3_setOf x3) &&& x1) (x1 &&& x2) q1.1 q1.2)
noncomputable def sX3_costOfWay (x1 : Int64) (x2 : Int64) (x3 : Int32) (x4 : Int32) (z : mm_S) : Option (Int32 × mm_S) := sX3_costOfWay_0 x1 x2 x3 x4 z
noncomputable def clo_X3_costOfWay (as : List mm_V) (z : mm_S) (kk : Option mm_V → mm_S → Option mm_R) : Option mm_R := mm_pj as fun a0 as => mm_pj as fun a1 as => mm_pi as fun a2 as => mm_pi as fun a3 as => (match as with | [] => (sX3_costOfWay a0 a1 a2 a3 z).bind fun q => kk (some (mm_I q.1)) q.2 | _ => none)
noncomputable def lV_X3_dig : List (Nat × (List mm_V → mm_S → (Option mm_V → mm_S → Option mm_R) → Option mm_R)) := [(59, clo_X3_finding), (125, clo_X1_cellsOf), (143, clo_X3_orNone), (264, clo_X1_dryCells)]
noncomputable def mV_X3_dig (k : Nat) (as : List mm_V) (z : mm_S) (kk : Option mm_V → mm_S → Option mm_R) : Option mm_R := match mm_at lV_X3_dig k with
  | some f => f as z kk
  | none => none
noncomputable def arV_X3_dig (k : Nat) : Nat := (mm_at [(59, 2), (125, 2), (143, 2), (264, 1)] k).getD 0
noncomputable def lS_X3_dig : List (Nat × (List mm_V → mm_S → (Option mm_V → mm_S → Option mm_R) → Option mm_R)) := [(52, clo_X3_isCell), (267, clo_X3_costOfWay)]
noncomputable def mS_X3_dig (k : Nat) (as : List mm_V) (z : mm_S) (kk : Option mm_V → mm_S → Option mm_R) : Option mm_R := match mm_at lS_X3_dig k with
  | some f => f as z kk
  | none => none
noncomputable def arS_X3_dig (k : Nat) : Nat := (mm_at [(52, 1), (267, 4)] k).getD 0
def ct_X3_dig : List (Nat × List Nat) := [(4, [0, 1, 2]), (11, [0, 1, 2]), (20, [0, 1, 2])]
noncomputable def go_X3_dig : Nat → mm_K := mm_go (fun k => mm_at flX3 k) (fun k => mm_at clX3 k) (fun k => mm_at glX3 k) arV_X3_dig arS_X3_dig mV_X3_dig mS_X3_dig lenX roX snX 3 0 tbX3_dig ct_X3_dig
def rm_X3_dig : Room := { frames := 3, cells := 0, slots := 0, locals := 91 }
noncomputable def f_X3_dig (as : List mm_V) (z : mm_S) (o : mm_R) : Prop := (as.map mm_cat).sum ≤ 3 ∧ ∃ n, go_X3_dig n 0 (mm_ar 0 as) [] z = some o
theorem M_X3_dig : mm_M lyTX lyFA lenX snX 46 48 17 roX rsA nfA nmA ssX yX3_dig cX3_dig 3 (some .int) rm_X3_dig f_X3_dig := sorry
noncomputable def sX3_dig_20 (y1 : Int32) (y2 : Int32) (z : mm_S) : Option (Int32 × mm_S) := (sX3_costOfWay (pX1_dryCells 2 z) (pX1_cellsOf 2 2 z) y1 y2 z).bind fun q3 => (sX3_orNone q3.1 q3.2).bind fun q4 => some (q4.1, q4.2)
noncomputable def sX3_dig_11 (y1 : Int32) (y2 : Int32) (w0 : Int32) (z : mm_S) : Option (Int32 × mm_S) := if w0 = 0 then (sX3_finding 0 z).bind fun q2 => some (q2.1, q2.2) else (sX3_dig_20 y1 y2 z)
noncomputable def sX3_dig_4 (y1 : Int32) (y2 : Int32) (w0 : Int32) (z : mm_S) : Option (Int32 × mm_S) := if w0 = 0 then (sX3_finding 0 z).bind fun q1 => some (q1.1, q1.2) else (sX3_dig_11 y1 y2 (pX3_isCell y2) z)
noncomputable def sX3_dig_0 (x1 : Int32) (x2 : Int32) (z : mm_S) : Option (Int32 × mm_S) := (sX3_dig_4 x1 x2 (pX3_isCell x1) z)
noncomputable def sX3_dig (x1 : Int32) (x2 : Int32) (z : mm_S) : Option (Int32 × mm_S) := sX3_dig_0 x1 x2 z
theorem sp_X3_dig (x1 : Int32) (x2 : Int32) (z : mm_S) (hk : ∀ v ∈ [mm_P 3 0, mm_I x1, mm_I x2], mm_ok 46 lyTX 48 17 v) (q : Int32 × mm_S) (hq : sX3_dig x1 x2 z = some q) : f_X3_dig [mm_P 3 0, mm_I x1, mm_I x2] z (some (mm_I q.1), q.2) := sorry
noncomputable def lV_X3_safe : List (Nat × (List mm_V → mm_S → (Option mm_V → mm_S → Option mm_R) → Option mm_R)) := [(59, clo_X3_finding), (125, clo_X1_cellsOf), (143, clo_X3_orNone), (225, clo_X3_beginMaps), (228, clo_X3_draftFitsAs), (264, clo_X1_dryCells)]
noncomputable def mV_X3_safe (k : Nat) (as : List mm_V) (z : mm_S) (kk : Option mm_V → mm_S → Option mm_R) : Option mm_R := match mm_at lV_X3_safe k with
  | some f => f as z kk
  | none => none
noncomputable def arV_X3_safe (k : Nat) : Nat := (mm_at [(59, 2), (125, 2), (143, 2), (225, 1), (228, 2), (264, 1)] k).getD 0
noncomputable def lS_X3_safe : List (Nat × (List mm_V → mm_S → (Option mm_V → mm_S → Option mm_R) → Option mm_R)) := [(52, clo_X3_isCell), (267, clo_X3_costOfWay)]
noncomputable def mS_X3_safe (k : Nat) (as : List mm_V) (z : mm_S) (kk : Option mm_V → mm_S → Option mm_R) : Option mm_R := match mm_at lS_X3_safe k with
  | some f => f as z kk
  | none => none
noncomputable def arS_X3_safe (k : Nat) : Nat := (mm_at [(52, 1), (267, 4)] k).getD 0
def ct_X3_safe : List (Nat × List Nat) := [(4, [0, 1, 2]), (11, [0, 1, 2]), (20, [0, 1, 2]), (31, [0, 1, 2, 3]), (40, [0, 1, 2, 3, 5, 6]), (43, [0, 1, 2, 3, 5, 6, 7]), (56, [0, 1, 2, 3, 5, 6, 7]), (59, [0, 1, 2, 3, 6, 7]), (92, [0, 1, 2, 3])]
noncomputable def go_X3_safe : Nat → mm_K := mm_go (fun k => mm_at flX3 k) (fun k => mm_at clX3 k) (fun k => mm_at glX3 k) arV_X3_safe arS_X3_safe mV_X3_safe mS_X3_safe lenX roX snX 8 0 tbX3_safe ct_X3_safe
def rm_X3_safe : Room := { frames := 5, cells := 0, slots := 0, locals := 123 }
noncomputable def f_X3_safe (as : List mm_V) (z : mm_S) (o : mm_R) : Prop := (as.map mm_cat).sum ≤ 8 ∧ ∃ n, go_X3_safe n 0 (mm_ar 0 as) [] z = some o
theorem M_X3_safe : mm_M lyTX lyFA lenX snX 46 48 17 roX rsA nfA nmA ssX yX3_safe cX3_safe 8 (some .int) rm_X3_safe f_X3_safe := sorry
noncomputable def sX3_safe_59 (y1 : Int32) (y2 : Int32) (y3 : Int64) (y6 : Int32) (y7 : Int32) (z : mm_S) : Option ((Int32 × Int32 × Int64 × Int32 × Int32 × Int32 × mm_S) ⊕ (Int32 × mm_S)) := some (.inl (y1, y2, (y3 &&& (pX1_dryCells 26 z)), 1, y6, (y7 + 1), z))
noncomputable def sX3_safe_56 (y1 : Int32) (y2 : Int32) (y3 : Int64) (y5 : Int32) (y6 : Int32) (y7 : Int32) (w0 : Int32) (z : mm_S) : Option ((Int32 × Int32 × Int64 × Int32 × Int32 × Int32 × mm_S) ⊕ (Int32 × mm_S)) := if w0 = 0 then some (.inl (y1, y2, y3, y5, y6, (y7 + 1), z)) else (sX3_safe_59 y1 y2 y3 y6 y7 z)
noncomputable def sX3_safe_92 (y1 : Int32) (y2 : Int32) (y3 : Int64) (z : mm_S) : Option (Int32 × mm_S) := (sX3_costOfWay y3 (pX1_cellsOf 2 2 z) y1 y2 z).bind fun q6 => (sX3_orNone q6.1 q6.2).bind fun q7 => some (q7.1, q7.2)
noncomputable def lX3_safe_43 (s : Int32 × Int32 × Int64 × Int32 × Int32 × Int32 × mm_S) : Option ((Int32 × Int32 × Int64 × Int32 × Int32 × Int32 × mm_S) ⊕ (Int32 × mm_S)) := if s.2.2.2.2.1 ≤ s.2.2.2.2.2.1 then if s.2.2.2.1 = 0 then (sX3_finding 3 s.2.2.2.2.2.2).bind fun q4 => some (.inr (q4.1, q4.2)) else ((sX3_safe_92 s.1 s.2.1 s.2.2.1 s.2.2.2.2.2.2).map fun w => (Sum.inr w)) else (sX3_draftFitsAs s.2.2.2.2.2.1 s.2.2.2.2.2.2).bind fun q5 => (sX3_safe_56 s.1 s.2.1 s.2.2.1 s.2.2.2.1 s.2.2.2.2.1 s.2.2.2.2.2.1 q5.1 q5.2)
noncomputable def sX3_safe_43 (y1 : Int32) (y2 : Int32) (y3 : Int64) (y5 : Int32) (y6 : Int32) (y7 : Int32) (z : mm_S) : Option (Int32 × mm_S) := mm_wh (lX3_safe_43 ) mm_fu (y1, y2, y3, y5, y6, y7, z)
noncomputable def sX3_safe_40 (y1 : Int32) (y2 : Int32) (y3 : Int64) (y5 : Int32) (y6 : Int32) (z : mm_S) : Option (Int32 × mm_S) := (sX3_safe_43 y1 y2 y3 y5 y6 0 z)
noncomputable def sX3_safe_31 (y1 : Int32) (y2 : Int32) (y3 : Int64) (z : mm_S) : Option (Int32 × mm_S) := (sX3_beginMaps  z).bind fun q3 => (sX3_safe_40 y1 y2 y3 0 q3.1 q3.2)
noncomputable def sX3_safe_20 (y1 : Int32) (y2 : Int32) (z : mm_S) : Option (Int32 × mm_S) := (sX3_safe_31 y1 y2 (pX1_dryCells 2 z) z)
noncomputable def sX3_safe_11 (y1 : Int32) (y2 : Int32) (w0 : Int32) (z : mm_S) : Option (Int32 × mm_S) := if w0 = 0 then (sX3_finding 0 z).bind fun q2 => some (q2.1, q2.2) else (sX3_safe_20 y1 y2 z)
noncomputable def sX3_safe_4 (y1 : Int32) (y2 : Int32) (w0 : Int32) (z : mm_S) : Option (Int32 × mm_S) := if w0 = 0 then (sX3_finding 0 z).bind fun q1 => some (q1.1, q1.2) else (sX3_safe_11 y1 y2 (pX3_isCell y2) z)
noncomputable def sX3_safe_0 (x1 : Int32) (x2 : Int32) (z : mm_S) : Option (Int32 × mm_S) := (sX3_safe_4 x1 x2 (pX3_isCell x1) z)
noncomputable def sX3_safe (x1 : Int32) (x2 : Int32) (z : mm_S) : Option (Int32 × mm_S) := sX3_safe_0 x1 x2 z
theorem sp_X3_safe (x1 : Int32) (x2 : Int32) (z : mm_S) (hk : ∀ v ∈ [mm_P 3 0, mm_I x1, mm_I x2], mm_ok 46 lyTX 48 17 v) (q : Int32 × mm_S) (hq : sX3_safe x1 x2 z = some q) : f_X3_safe [mm_P 3 0, mm_I x1, mm_I x2] z (some (mm_I q.1), q.2) := sorry
noncomputable def lV_X3_ways : List (Nat × (List mm_V → mm_S → (Option mm_V → mm_S → Option mm_R) → Option mm_R)) := [(59, clo_X3_finding), (264, clo_X1_dryCells)]
noncomputable def mV_X3_ways (k : Nat) (as : List mm_V) (z : mm_S) (kk : Option mm_V → mm_S → Option mm_R) : Option mm_R := match mm_at lV_X3_ways k with
  | some f => f as z kk
  | none => none
noncomputable def arV_X3_ways (k : Nat) : Nat := (mm_at [(59, 2), (264, 1)] k).getD 0
noncomputable def lS_X3_ways : List (Nat × (List mm_V → mm_S → (Option mm_V → mm_S → Option mm_R) → Option mm_R)) := [(52, clo_X3_isCell), (173, clo_X3_setOf), (271, clo_X3_flood)]
noncomputable def mS_X3_ways (k : Nat) (as : List mm_V) (z : mm_S) (kk : Option mm_V → mm_S → Option mm_R) : Option mm_R := match mm_at lS_X3_ways k with
  | some f => f as z kk
  | none => none
noncomputable def arS_X3_ways (k : Nat) : Nat := (mm_at [(52, 1), (173, 1), (271, 2)] k).getD 0
def ct_X3_ways : List (Nat × List Nat) := [(4, [0, 1]), (14, [0, 1]), (25, [1, 2])]
noncomputable def go_X3_ways : Nat → mm_K := mm_go (fun k => mm_at flX3 k) (fun k => mm_at clX3 k) (fun k => mm_at glX3 k) arV_X3_ways arS_X3_ways mV_X3_ways mS_X3_ways lenX roX snX 4 2 tbX3_ways ct_X3_ways
def rm_X3_ways : Room := { frames := 2, cells := 0, slots := 0, locals := 57 }
noncomputable def f_X3_ways (as : List mm_V) (z : mm_S) (o : mm_R) : Prop := (as.map mm_cat).sum ≤ 4 ∧ ∃ n, go_X3_ways n 0 (mm_ar 0 as) [] z = some o
theorem M_X3_ways : mm_M lyTX lyFA lenX snX 46 48 17 roX rsA nfA nmA ssX yX3_ways cX3_ways 4 (some .long) rm_X3_ways f_X3_ways := sorry
noncomputable def sX3_ways_25 (y1 : Int32) (y2 : Int64) (z : mm_S) : Option (Int64 × mm_S) := (sX3_flood ((pX3_setOf y1) &&& y2) y2 z).bind fun q2 => some (q2.1, q2.2)
noncomputable def sX3_ways_14 (y1 : Int32) (z : mm_S) : Option (Int64 × mm_S) := (sX3_ways_25 y1 (pX1_dryCells 2 z) z)
noncomputable def sX3_ways_4 (y1 : Int32) (w0 : Int32) (z : mm_S) : Option (Int64 × mm_S) := if w0 = 0 then (sX3_finding 0 z).bind fun q1 => some ((Int32.toInt64 q1.1), q1.2) else (sX3_ways_14 y1 z)
noncomputable def sX3_ways_0 (x1 : Int32) (z : mm_S) : Option (Int64 × mm_S) := (sX3_ways_4 x1 (pX3_isCell x1) z)
noncomputable def sX3_ways (x1 : Int32) (z : mm_S) : Option (Int64 × mm_S) := sX3_ways_0 x1 z
theorem sp_X3_ways (x1 : Int32) (z : mm_S) (hk : ∀ v ∈ [mm_P 3 0, mm_I x1], mm_ok 46 lyTX 48 17 v) (q : Int64 × mm_S) (hq : sX3_ways x1 z = some q) : f_X3_ways [mm_P 3 0, mm_I x1] z (some (mm_J q.1), q.2) := sorry
noncomputable def lV_X3_years : List (Nat × (List mm_V → mm_S → (Option mm_V → mm_S → Option mm_R) → Option mm_R)) := [(59, clo_X3_finding), (278, clo_X0_goOneYear), (281, clo_X0_holes)]
noncomputable def mV_X3_years (k : Nat) (as : List mm_V) (z : mm_S) (kk : Option mm_V → mm_S → Option mm_R) : Option mm_R := match mm_at lV_X3_years k with
  | some f => f as z kk
  | none => none
noncomputable def arV_X3_years (k : Nat) : Nat := (mm_at [(59, 2), (278, 1), (281, 1)] k).getD 0
noncomputable def lS_X3_years : List (Nat × (List mm_V → mm_S → (Option mm_V → mm_S → Option mm_R) → Option mm_R)) := [(118, clo_X3_lies)]
noncomputable def mS_X3_years (k : Nat) (as : List mm_V) (z : mm_S) (kk : Option mm_V → mm_S → Option mm_R) : Option mm_R := match mm_at lS_X3_years k with
  | some f => f as z kk
  | none => none
noncomputable def arS_X3_years (k : Nat) : Nat := (mm_at [(118, 3)] k).getD 0
def ct_X3_years : List (Nat × List Nat) := [(7, [0, 1]), (16, [0, 1]), (37, [0, 1]), (39, [0, 1, 2]), (51, [0, 1, 2])]
noncomputable def go_X3_years : Nat → mm_K := mm_go (fun k => mm_at flX3 k) (fun k => mm_at clX3 k) (fun k => mm_at glX3 k) arV_X3_years arS_X3_years mV_X3_years mS_X3_years lenX roX snX 3 0 tbX3_years ct_X3_years
def rm_X3_years : Room := { frames := 4, cells := 0, slots := 0, locals := 86 }
noncomputable def f_X3_years (as : List mm_V) (z : mm_S) (o : mm_R) : Prop := (as.map mm_cat).sum ≤ 3 ∧ ∃ n, go_X3_years n 0 (mm_ar 0 as) [] z = some o
theorem M_X3_years : mm_M lyTX lyFA lenX snX 46 48 17 roX rsA nfA nmA ssX yX3_years cX3_years 3 (some .int) rm_X3_years f_X3_years := sorry
noncomputable def sX3_years_51 (y1 : Int32) (y2 : Int32) (z : mm_S) : Option ((Int32 × Int32 × mm_S) ⊕ (Int32 × mm_S)) := some (.inl (y1, (y2 + 1), z))
noncomputable def lX3_years_39 (s : Int32 × Int32 × mm_S) : Option ((Int32 × Int32 × mm_S) ⊕ (Int32 × mm_S)) := if s.1 ≤ s.2.1 then some (.inr ((pX0_holes 1 s.2.2), s.2.2)) else let u3 := (tX0_goOneYear 1 s.2.2); (sX3_years_51 s.1 s.2.1 u3)
noncomputable def sX3_years_39 (y1 : Int32) (y2 : Int32) (z : mm_S) : Option (Int32 × mm_S) := mm_wh (lX3_years_39 ) mm_fu (y1, y2, z)
noncomputable def sX3_years_37 (y1 : Int32) (z : mm_S) : Option (Int32 × mm_S) := (sX3_years_39 y1 0 z)
noncomputable def sX3_years_16 (y1 : Int32) (z : mm_S) : Option (Int32 × mm_S) := if ((z.1 1 12) + y1) ≤ 999 then (sX3_years_37 y1 z) else (sX3_finding 4 z).bind fun q2 => some (q2.1, q2.2)
noncomputable def sX3_years_7 (y1 : Int32) (w0 : Int32) (z : mm_S) : Option (Int32 × mm_S) := if w0 = 0 then (sX3_finding 0 z).bind fun q1 => some (q1.1, q1.2) else (sX3_years_16 y1 z)
noncomputable def sX3_years_0 (x1 : Int32) (z : mm_S) : Option (Int32 × mm_S) := (sX3_years_7 x1 (pX3_lies x1 1 60) z)
noncomputable def sX3_years (x1 : Int32) (z : mm_S) : Option (Int32 × mm_S) := sX3_years_0 x1 z
theorem sp_X3_years (x1 : Int32) (z : mm_S) (hk : ∀ v ∈ [mm_P 3 0, mm_I x1], mm_ok 46 lyTX 48 17 v) (q : Int32 × mm_S) (hq : sX3_years x1 z = some q) : f_X3_years [mm_P 3 0, mm_I x1] z (some (mm_I q.1), q.2) := sorry
noncomputable def lV_X3_ahead : List (Nat × (List mm_V → mm_S → (Option mm_V → mm_S → Option mm_R) → Option mm_R)) := [(59, clo_X3_finding), (139, clo_X1_timeBetween), (184, clo_X0_silentCells), (278, clo_X0_goOneYear), (281, clo_X0_holes), (284, clo_X0_become)]
noncomputable def mV_X3_ahead (k : Nat) (as : List mm_V) (z : mm_S) (kk : Option mm_V → mm_S → Option mm_R) : Option mm_R := match mm_at lV_X3_ahead k with
  | some f => f as z kk
  | none => none
noncomputable def arV_X3_ahead (k : Nat) : Nat := (mm_at [(59, 2), (139, 3), (184, 1), (278, 1), (281, 1), (284, 2)] k).getD 0
noncomputable def lS_X3_ahead : List (Nat × (List mm_V → mm_S → (Option mm_V → mm_S → Option mm_R) → Option mm_R)) := [(118, clo_X3_lies), (209, clo_J13_bitCount_95d88)]
noncomputable def mS_X3_ahead (k : Nat) (as : List mm_V) (z : mm_S) (kk : Option mm_V → mm_S → Option mm_R) : Option mm_R := match mm_at lS_X3_ahead k with
  | some f => f as z kk
  | none => none
noncomputable def arS_X3_ahead (k : Nat) : Nat := (mm_at [(118, 3), (209, 1)] k).getD 0
def ct_X3_ahead : List (Nat × List Nat) := [(7, [0, 1, 2]), (16, [0, 1, 2]), (25, [0, 1, 2]), (46, [0, 1, 2]), (57, [0, 1, 2]), (59, [0, 1, 2, 3]), (71, [0, 1, 2, 3])]
noncomputable def go_X3_ahead : Nat → mm_K := mm_go (fun k => mm_at flX3 k) (fun k => mm_at clX3 k) (fun k => mm_at glX3 k) arV_X3_ahead arS_X3_ahead mV_X3_ahead mS_X3_ahead lenX roX snX 4 0 tbX3_ahead ct_X3_ahead
def rm_X3_ahead : Room := { frames := 5, cells := 0, slots := 0, locals := 123 }
noncomputable def f_X3_ahead (as : List mm_V) (z : mm_S) (o : mm_R) : Prop := (as.map mm_cat).sum ≤ 4 ∧ ∃ n, go_X3_ahead n 0 (mm_ar 0 as) [] z = some o
theorem M_X3_ahead : mm_M lyTX lyFA lenX snX 46 48 17 roX rsA nfA nmA ssX yX3_ahead cX3_ahead 4 (some .int) rm_X3_ahead f_X3_ahead := sorry
noncomputable def sX3_ahead_71 (y1 : Int32) (y2 : Int32) (y3 : Int32) (z : mm_S) : Option ((Int32 × Int32 × Int32 × mm_S) ⊕ (Int32 × mm_S)) := some (.inl (y1, y2, (y3 + 1), z))
noncomputable def lX3_ahead_59 (s : Int32 × Int32 × Int32 × mm_S) : Option ((Int32 × Int32 × Int32 × mm_S) ⊕ (Int32 × mm_S)) := if s.1 ≤ s.2.2.1 then if s.2.1 = 0 then some (.inr ((pX0_holes 25 s.2.2.2), s.2.2.2)) else if s.2.1 = 1 then (sX0_silentCells 25 s.2.2.2).bind fun q6 => some (.inr ((pJ13_bitCount_95d88 q6.1), q6.2)) else (sX1_timeBetween 26 0 35 s.2.2.2).bind fun q5 => some (.inr (q5.1, q5.2)) else let u7 := (tX0_goOneYear 25 s.2.2.2); (sX3_ahead_71 s.1 s.2.1 s.2.2.1 u7)
noncomputable def sX3_ahead_59 (y1 : Int32) (y2 : Int32) (y3 : Int32) (z : mm_S) : Option (Int32 × mm_S) := mm_wh (lX3_ahead_59 ) mm_fu (y1, y2, y3, z)
noncomputable def sX3_ahead_57 (y1 : Int32) (y2 : Int32) (z : mm_S) : Option (Int32 × mm_S) := (sX3_ahead_59 y1 y2 0 z)
noncomputable def sX3_ahead_46 (y1 : Int32) (y2 : Int32) (z : mm_S) : Option (Int32 × mm_S) := let u4 := (tX0_become 25 1 z); (sX3_ahead_57 y1 y2 u4)
noncomputable def sX3_ahead_25 (y1 : Int32) (y2 : Int32) (z : mm_S) : Option (Int32 × mm_S) := if ((z.1 1 12) + y1) ≤ 999 then (sX3_ahead_46 y1 y2 z) else (sX3_finding 4 z).bind fun q3 => some (q3.1, q3.2)
noncomputable def sX3_ahead_16 (y1 : Int32) (y2 : Int32) (w0 : Int32) (z : mm_S) : Option (Int32 × mm_S) := if w0 = 0 then (sX3_finding 0 z).bind fun q2 => some (q2.1, q2.2) else (sX3_ahead_25 y1 y2 z)
noncomputable def sX3_ahead_7 (y1 : Int32) (y2 : Int32) (w0 : Int32) (z : mm_S) : Option (Int32 × mm_S) := if w0 = 0 then (sX3_finding 0 z).bind fun q1 => some (q1.1, q1.2) else (sX3_ahead_16 y1 y2 (pX3_lies y2 0 2) z)
noncomputable def sX3_ahead_0 (x1 : Int32) (x2 : Int32) (z : mm_S) : Option (Int32 × mm_S) := (sX3_ahead_7 x1 x2 (pX3_lies x1 0 60) z)
noncomputable def sX3_ahead (x1 : Int32) (x2 : Int32) (z : mm_S) : Option (Int32 × mm_S) := sX3_ahead_0 x1 x2 z
theorem sp_X3_ahead (x1 : Int32) (x2 : Int32) (z : mm_S) (hk : ∀ v ∈ [mm_P 3 0, mm_I x1, mm_I x2], mm_ok 46 lyTX 48 17 v) (q : Int32 × mm_S) (hq : sX3_ahead x1 x2 z = some q) : f_X3_ahead [mm_P 3 0, mm_I x1, mm_I x2] z (some (mm_I q.1), q.2) := sorry
noncomputable def lV_X3_when : List (Nat × (List mm_V → mm_S → (Option mm_V → mm_S → Option mm_R) → Option mm_R)) := [(59, clo_X3_finding), (87, clo_X3_isCrew), (146, clo_X0_heardAt), (278, clo_X0_goOneYear), (284, clo_X0_become)]
noncomputable def mV_X3_when (k : Nat) (as : List mm_V) (z : mm_S) (kk : Option mm_V → mm_S → Option mm_R) : Option mm_R := match mm_at lV_X3_when k with
  | some f => f as z kk
  | none => none
noncomputable def arV_X3_when (k : Nat) : Nat := (mm_at [(59, 2), (87, 2), (146, 3), (278, 1), (284, 2)] k).getD 0
noncomputable def lS_X3_when : List (Nat × (List mm_V → mm_S → (Option mm_V → mm_S → Option mm_R) → Option mm_R)) := [(52, clo_X3_isCell)]
noncomputable def mS_X3_when (k : Nat) (as : List mm_V) (z : mm_S) (kk : Option mm_V → mm_S → Option mm_R) : Option mm_R := match mm_at lS_X3_when k with
  | some f => f as z kk
  | none => none
noncomputable def arS_X3_when (k : Nat) : Nat := (mm_at [(52, 1)] k).getD 0
def ct_X3_when : List (Nat × List Nat) := [(5, [0, 1, 2]), (12, [0, 1, 2]), (21, [0, 1, 2]), (43, [0, 1, 2]), (53, [0, 1, 2, 3]), (64, [0, 1, 2, 3]), (67, [0, 1, 2, 3, 4]), (81, [0, 1, 2, 3, 4]), (90, [0, 1, 2, 3, 4]), (94, [4])]
noncomputable def go_X3_when : Nat → mm_K := mm_go (fun k => mm_at flX3 k) (fun k => mm_at clX3 k) (fun k => mm_at glX3 k) arV_X3_when arS_X3_when mV_X3_when mS_X3_when lenX roX snX 5 0 tbX3_when ct_X3_when
def rm_X3_when : Room := { frames := 5, cells := 0, slots := 0, locals := 107 }
noncomputable def f_X3_when (as : List mm_V) (z : mm_S) (o : mm_R) : Prop := (as.map mm_cat).sum ≤ 5 ∧ ∃ n, go_X3_when n 0 (mm_ar 0 as) [] z = some o
theorem M_X3_when : mm_M lyTX lyFA lenX snX 46 48 17 roX rsA nfA nmA ssX yX3_when cX3_when 5 (some .int) rm_X3_when f_X3_when := sorry
noncomputable def sX3_when_94 (y4 : Int32) (z : mm_S) : Option (Int32 × mm_S) := some (y4, z)
noncomputable def sX3_when_90 (y1 : Int32) (y2 : Int32) (y3 : Int32) (y4 : Int32) (w0 : Int32) (z : mm_S) : Option ((Int32 × Int32 × Int32 × Int32 × mm_S) ⊕ (Int32 × mm_S)) := if w0 = y3 then some (.inl (y1, y2, y3, (y4 + 1), z)) else ((sX3_when_94 y4 z).map fun w => (Sum.inr w))
noncomputable def sX3_when_81 (y1 : Int32) (y2 : Int32) (y3 : Int32) (y4 : Int32) (z : mm_S) : Option ((Int32 × Int32 × Int32 × Int32 × mm_S) ⊕ (Int32 × mm_S)) := (sX0_heardAt 25 y1 y2 z).bind fun q8 => (sX3_when_90 y1 y2 y3 y4 q8.1 q8.2)
noncomputable def lX3_when_67 (s : Int32 × Int32 × Int32 × Int32 × mm_S) : Option ((Int32 × Int32 × Int32 × Int32 × mm_S) ⊕ (Int32 × mm_S)) := if 60 < s.2.2.2.1 then (sX3_finding 3 s.2.2.2.2).bind fun q6 => some (.inr (q6.1, q6.2)) else let u7 := (tX0_goOneYear 25 s.2.2.2.2); (sX3_when_81 s.1 s.2.1 s.2.2.1 s.2.2.2.1 u7)
noncomputable def sX3_when_67 (y1 : Int32) (y2 : Int32) (y3 : Int32) (y4 : Int32) (z : mm_S) : Option (Int32 × mm_S) := mm_wh (lX3_when_67 ) mm_fu (y1, y2, y3, y4, z)
noncomputable def sX3_when_64 (y1 : Int32) (y2 : Int32) (y3 : Int32) (z : mm_S) : Option (Int32 × mm_S) := (sX3_when_67 y1 y2 y3 1 z)
noncomputable def sX3_when_53 (y1 : Int32) (y2 : Int32) (y3 : Int32) (z : mm_S) : Option (Int32 × mm_S) := let u5 := (tX0_become 25 1 z); (sX3_when_64 y1 y2 y3 u5)
noncomputable def sX3_when_43 (y1 : Int32) (y2 : Int32) (z : mm_S) : Option (Int32 × mm_S) := (sX0_heardAt 1 y1 y2 z).bind fun q4 => (sX3_when_53 y1 y2 q4.1 q4.2)
noncomputable def sX3_when_21 (y1 : Int32) (y2 : Int32) (z : mm_S) : Option (Int32 × mm_S) := if ((z.1 1 12) + 60) ≤ 999 then (sX3_when_43 y1 y2 z) else (sX3_finding 4 z).bind fun q3 => some (q3.1, q3.2)
noncomputable def sX3_when_12 (y1 : Int32) (y2 : Int32) (w0 : Int32) (z : mm_S) : Option (Int32 × mm_S) := if w0 = 0 then (sX3_finding 0 z).bind fun q2 => some (q2.1, q2.2) else (sX3_when_21 y1 y2 z)
noncomputable def sX3_when_5 (y1 : Int32) (y2 : Int32) (w0 : Int32) (z : mm_S) : Option (Int32 × mm_S) := if w0 = 0 then (sX3_finding 0 z).bind fun q1 => some (q1.1, q1.2) else (sX3_when_12 y1 y2 (pX3_isCell y2) z)
noncomputable def sX3_when_0 (x1 : Int32) (x2 : Int32) (z : mm_S) : Option (Int32 × mm_S) := (sX3_when_5 x1 x2 (pX3_isCrew x1 z) z)
noncomputable def sX3_when (x1 : Int32) (x2 : Int32) (z : mm_S) : Option (Int32 × mm_S) := sX3_when_0 x1 x2 z
theorem sp_X3_when (x1 : Int32) (x2 : Int32) (z : mm_S) (hk : ∀ v ∈ [mm_P 3 0, mm_I x1, mm_I x2], mm_ok 46 lyTX 48 17 v) (q : Int32 × mm_S) (hq : sX3_when x1 x2 z = some q) : f_X3_when [mm_P 3 0, mm_I x1, mm_I x2] z (some (mm_I q.1), q.2) := sorry
noncomputable def lV_X3_seed : List (Nat × (List mm_V → mm_S → (Option mm_V → mm_S → Option mm_R) → Option mm_R)) := []
noncomputable def mV_X3_seed (k : Nat) (as : List mm_V) (z : mm_S) (kk : Option mm_V → mm_S → Option mm_R) : Option mm_R := match mm_at lV_X3_seed k with
  | some f => f as z kk
  | none => none
noncomputable def arV_X3_seed (k : Nat) : Nat := (mm_at [] k).getD 0
noncomputable def lS_X3_seed : List (Nat × (List mm_V → mm_S → (Option mm_V → mm_S → Option mm_R) → Option mm_R)) := []
noncomputable def mS_X3_seed (k : Nat) (as : List mm_V) (z : mm_S) (kk : Option mm_V → mm_S → Option mm_R) : Option mm_R := match mm_at lS_X3_seed k with
  | some f => f as z kk
  | none => none
noncomputable def arS_X3_seed (k : Nat) : Nat := (mm_at [] k).getD 0
def ct_X3_seed : List (Nat × List Nat) := [(16, [2])]
noncomputable def go_X3_seed : Nat → mm_K := mm_go (fun k => mm_at flX3 k) (fun k => mm_at clX3 k) (fun k => mm_at glX3 k) arV_X3_seed arS_X3_seed mV_X3_seed mS_X3_seed lenX roX snX 3 0 tbX3_seed ct_X3_seed
def rm_X3_seed : Room := { frames := 0, cells := 0, slots := 0, locals := 0 }
noncomputable def f_X3_seed (as : List mm_V) (z : mm_S) (o : mm_R) : Prop := (as.map mm_cat).sum ≤ 3 ∧ ∃ n, go_X3_seed n 0 (mm_ar 0 as) [] z = some o
theorem M_X3_seed : mm_M lyTX lyFA lenX snX 46 48 17 roX rsA nfA nmA ssX yX3_seed cX3_seed 3 (some .int) rm_X3_seed f_X3_seed := sorry
noncomputable def sX3_seed_16 (y2 : Int32) (z : mm_S) : Option (Int32 × mm_S) := some (y2, z)
noncomputable def sX3_seed_0 (x1 : Int32) (z : mm_S) : Option (Int32 × mm_S) := (sX3_seed_16 (z.1 1 13) ((mm_ui z.1 1 13 x1), z.2))
noncomputable def sX3_seed (x1 : Int32) (z : mm_S) : Option (Int32 × mm_S) := sX3_seed_0 x1 z
theorem sp_X3_seed (x1 : Int32) (z : mm_S) (hk : ∀ v ∈ [mm_P 3 0, mm_I x1], mm_ok 46 lyTX 48 17 v) (q : Int32 × mm_S) (hq : sX3_seed x1 z = some q) : f_X3_seed [mm_P 3 0, mm_I x1] z (some (mm_I q.1), q.2) := sorry
noncomputable def lV_X3_feed : List (Nat × (List mm_V → mm_S → (Option mm_V → mm_S → Option mm_R) → Option mm_R)) := [(59, clo_X3_finding), (294, clo_X2_add)]
noncomputable def mV_X3_feed (k : Nat) (as : List mm_V) (z : mm_S) (kk : Option mm_V → mm_S → Option mm_R) : Option mm_R := match mm_at lV_X3_feed k with
  | some f => f as z kk
  | none => none
noncomputable def arV_X3_feed (k : Nat) : Nat := (mm_at [(59, 2), (294, 2)] k).getD 0
noncomputable def lS_X3_feed : List (Nat × (List mm_V → mm_S → (Option mm_V → mm_S → Option mm_R) → Option mm_R)) := [(118, clo_X3_lies)]
noncomputable def mS_X3_feed (k : Nat) (as : List mm_V) (z : mm_S) (kk : Option mm_V → mm_S → Option mm_R) : Option mm_R := match mm_at lS_X3_feed k with
  | some f => f as z kk
  | none => none
noncomputable def arS_X3_feed (k : Nat) : Nat := (mm_at [(118, 3)] k).getD 0
def ct_X3_feed : List (Nat × List Nat) := [(6, [0, 1, 2]), (15, [0, 1, 2]), (35, [0, 1, 2]), (39, [0, 1, 3])]
noncomputable def go_X3_feed : Nat → mm_K := mm_go (fun k => mm_at flX3 k) (fun k => mm_at clX3 k) (fun k => mm_at glX3 k) arV_X3_feed arS_X3_feed mV_X3_feed mS_X3_feed lenX roX snX 4 0 tbX3_feed ct_X3_feed
def rm_X3_feed : Room := { frames := 2, cells := 0, slots := 0, locals := 44 }
noncomputable def f_X3_feed (as : List mm_V) (z : mm_S) (o : mm_R) : Prop := (as.map mm_cat).sum ≤ 4 ∧ ∃ n, go_X3_feed n 0 (mm_ar 0 as) [] z = some o
theorem M_X3_feed : mm_M lyTX lyFA lenX snX 46 48 17 roX rsA nfA nmA ssX yX3_feed cX3_feed 4 (some .int) rm_X3_feed f_X3_feed := sorry
noncomputable def lX3_feed_39 (s : Int32 × Int32 × mm_S) : Option ((Int32 × Int32 × mm_S) ⊕ (Int32 × mm_S)) := if s.2.1 < 0 then some (.inr ((s.2.2.1 37 1), s.2.2)) else (sX2_add ((Int32.toUInt32 s.1 >>> (Int32.toUInt32 (8 * s.2.1) &&& Int32.toUInt32 31)).toInt32 &&& 255) s.2.2).bind fun q3 => let v4 : Int32 := (s.2.1 + Int32.ofInt (-1)); some (.inl (s.1, v4, q3))
noncomputable def sX3_feed_39 (y1 : Int32) (y3 : Int32) (z : mm_S) : Option (Int32 × mm_S) := mm_wh (lX3_feed_39 ) mm_fu (y1, y3, z)
noncomputable def sX3_feed_35 (y1 : Int32) (y2 : Int32) (z : mm_S) : Option (Int32 × mm_S) := (sX3_feed_39 y1 (y2 - 1) z)
noncomputable def sX3_feed_15 (y1 : Int32) (y2 : Int32) (z : mm_S) : Option (Int32 × mm_S) := if ((z.1 37 1) + y2) ≤ 120 then (sX3_feed_35 y1 y2 z) else (sX3_finding 1 z).bind fun q2 => some (q2.1, q2.2)
noncomputable def sX3_feed_6 (y1 : Int32) (y2 : Int32) (w0 : Int32) (z : mm_S) : Option (Int32 × mm_S) := if w0 = 0 then (sX3_finding 0 z).bind fun q1 => some (q1.1, q1.2) else (sX3_feed_15 y1 y2 z)
noncomputable def sX3_feed_0 (x1 : Int32) (x2 : Int32) (z : mm_S) : Option (Int32 × mm_S) := (sX3_feed_6 x1 x2 (pX3_lies x2 1 4) z)
noncomputable def sX3_feed (x1 : Int32) (x2 : Int32) (z : mm_S) : Option (Int32 × mm_S) := sX3_feed_0 x1 x2 z
theorem sp_X3_feed (x1 : Int32) (x2 : Int32) (z : mm_S) (hk : ∀ v ∈ [mm_P 3 0, mm_I x1, mm_I x2], mm_ok 46 lyTX 48 17 v) (q : Int32 × mm_S) (hq : sX3_feed x1 x2 z = some q) : f_X3_feed [mm_P 3 0, mm_I x1, mm_I x2] z (some (mm_I q.1), q.2) := sorry
noncomputable def lV_X3_wipe : List (Nat × (List mm_V → mm_S → (Option mm_V → mm_S → Option mm_R) → Option mm_R)) := []
noncomputable def mV_X3_wipe (k : Nat) (as : List mm_V) (z : mm_S) (kk : Option mm_V → mm_S → Option mm_R) : Option mm_R := match mm_at lV_X3_wipe k with
  | some f => f as z kk
  | none => none
noncomputable def arV_X3_wipe (k : Nat) : Nat := (mm_at [] k).getD 0
noncomputable def lS_X3_wipe : List (Nat × (List mm_V → mm_S → (Option mm_V → mm_S → Option mm_R) → Option mm_R)) := []
noncomputable def mS_X3_wipe (k : Nat) (as : List mm_V) (z : mm_S) (kk : Option mm_V → mm_S → Option mm_R) : Option mm_R := match mm_at lS_X3_wipe k with
  | some f => f as z kk
  | none => none
noncomputable def arS_X3_wipe (k : Nat) : Nat := (mm_at [] k).getD 0
def ct_X3_wipe : List (Nat × List Nat) := [(16, [1])]
noncomputable def go_X3_wipe : Nat → mm_K := mm_go (fun k => mm_at flX3 k) (fun k => mm_at clX3 k) (fun k => mm_at glX3 k) arV_X3_wipe arS_X3_wipe mV_X3_wipe mS_X3_wipe lenX roX snX 2 0 tbX3_wipe ct_X3_wipe
def rm_X3_wipe : Room := { frames := 0, cells := 0, slots := 0, locals := 0 }
noncomputable def f_X3_wipe (as : List mm_V) (z : mm_S) (o : mm_R) : Prop := (as.map mm_cat).sum ≤ 2 ∧ ∃ n, go_X3_wipe n 0 (mm_ar 0 as) [] z = some o
theorem M_X3_wipe : mm_M lyTX lyFA lenX snX 46 48 17 roX rsA nfA nmA ssX yX3_wipe cX3_wipe 2 (some .int) rm_X3_wipe f_X3_wipe := sorry
noncomputable def sX3_wipe_16 (y1 : Int32) (z : mm_S) : Option (Int32 × mm_S) := some (y1, z)
noncomputable def sX3_wipe_0  (z : mm_S) : Option (Int32 × mm_S) := (sX3_wipe_16 (z.1 37 1) ((mm_ui z.1 37 1 0), z.2))
noncomputable def sX3_wipe  (z : mm_S) : Option (Int32 × mm_S) := sX3_wipe_0  z
theorem sp_X3_wipe  (z : mm_S) (hk : ∀ v ∈ [mm_P 3 0], mm_ok 46 lyTX 48 17 v) (q : Int32 × mm_S) (hq : sX3_wipe  z = some q) : f_X3_wipe [mm_P 3 0] z (some (mm_I q.1), q.2) := sorry
noncomputable def lV_X3_hold : List (Nat × (List mm_V → mm_S → (Option mm_V → mm_S → Option mm_R) → Option mm_R)) := [(59, clo_X3_finding), (87, clo_X3_isCrew)]
noncomputable def mV_X3_hold (k : Nat) (as : List mm_V) (z : mm_S) (kk : Option mm_V → mm_S → Option mm_R) : Option mm_R := match mm_at lV_X3_hold k with
  | some f => f as z kk
  | none => none
noncomputable def arV_X3_hold (k : Nat) : Nat := (mm_at [(59, 2), (87, 2)] k).getD 0
noncomputable def lS_X3_hold : List (Nat × (List mm_V → mm_S → (Option mm_V → mm_S → Option mm_R) → Option mm_R)) := [(111, clo_X3_exchange), (301, clo_X3_isSpot)]
noncomputable def mS_X3_hold (k : Nat) (as : List mm_V) (z : mm_S) (kk : Option mm_V → mm_S → Option mm_R) : Option mm_R := match mm_at lS_X3_hold k with
  | some f => f as z kk
  | none => none
noncomputable def arS_X3_hold (k : Nat) : Nat := (mm_at [(111, 3), (301, 1)] k).getD 0
def ct_X3_hold : List (Nat × List Nat) := [(4, [0, 1, 2]), (17, [0, 1, 2]), (26, [0, 1, 2]), (39, [])]
noncomputable def go_X3_hold : Nat → mm_K := mm_go (fun k => mm_at flX3 k) (fun k => mm_at clX3 k) (fun k => mm_at glX3 k) arV_X3_hold arS_X3_hold mV_X3_hold mS_X3_hold lenX roX snX 3 0 tbX3_hold ct_X3_hold
def rm_X3_hold : Room := { frames := 2, cells := 0, slots := 0, locals := 44 }
noncomputable def f_X3_hold (as : List mm_V) (z : mm_S) (o : mm_R) : Prop := (as.map mm_cat).sum ≤ 3 ∧ ∃ n, go_X3_hold n 0 (mm_ar 0 as) [] z = some o
theorem M_X3_hold : mm_M lyTX lyFA lenX snX 46 48 17 roX rsA nfA nmA ssX yX3_hold cX3_hold 3 (some .int) rm_X3_hold f_X3_hold := sorry
noncomputable def sX3_hold_39  (z : mm_S) : Option (Int32 × mm_S) := some (1, z)
noncomputable def sX3_hold_26 (y1 : Int32) (y2 : Int32) (z : mm_S) : Option (Int32 × mm_S) := let u2 := (tX3_exchange 12 y1 y2 z); (sX3_hold_39 u2.2)
noncomputable def sX3_hold_17 (y1 : Int32) (y2 : Int32) (w0 : Int32) (z : mm_S) : Option (Int32 × mm_S) := if w0 = 0 then (sX3_finding 0 z).bind fun q3 => some (q3.1, q3.2) else (sX3_hold_26 y1 y2 z)
noncomputable def sX3_hold_4 (y1 : Int32) (y2 : Int32) (w0 : Int32) (z : mm_S) : Option (Int32 × mm_S) := if w0 = 0 then (sX3_finding 0 z).bind fun q1 => some (q1.1, q1.2) else if y2 = (-1) then (sX3_hold_26 y1 y2 z) else (sX3_hold_17 y1 y2 (pX3_isCrew y2 z) z)
noncomputable def sX3_hold_0 (x1 : Int32) (x2 : Int32) (z : mm_S) : Option (Int32 × mm_S) := (sX3_hold_4 x1 x2 (pX3_isSpot x1) z)
noncomputable def sX3_hold (x1 : Int32) (x2 : Int32) (z : mm_S) : Option (Int32 × mm_S) := sX3_hold_0 x1 x2 z
theorem sp_X3_hold (x1 : Int32) (x2 : Int32) (z : mm_S) (hk : ∀ v ∈ [mm_P 3 0, mm_I x1, mm_I x2], mm_ok 46 lyTX 48 17 v) (q : Int32 × mm_S) (hq : sX3_hold x1 x2 z = some q) : f_X3_hold [mm_P 3 0, mm_I x1, mm_I x2] z (some (mm_I q.1), q.2) := sorry
noncomputable def sX3_isOfKind_30 (y1 : Int32) (y2 : Int32) (y3 : Int32) (z : mm_S) : Option ((Int32 × Int32 × Int32 × mm_S) ⊕ (Int32 × mm_S)) := some (.inl (y1, y2, (y3 + 1), z))
noncomputable def lX3_isOfKind_4 (s : Int32 × Int32 × Int32 × mm_S) : Option ((Int32 × Int32 × Int32 × mm_S) ⊕ (Int32 × mm_S)) := if 7 ≤ s.2.2.1 then some (.inr (0, s.2.2.2)) else if s.2.1 = (-1) then some (.inr (0, s.2.2.2)) else if s.2.1 = s.1 then some (.inr (1, s.2.2.2)) else (sX3_isOfKind_30 s.1 (pX3_at14 47 s.2.1) s.2.2.1 s.2.2.2)
noncomputable def sX3_isOfKind_4 (y1 : Int32) (y2 : Int32) (y3 : Int32) (z : mm_S) : Option (Int32 × mm_S) := mm_wh (lX3_isOfKind_4 ) mm_fu (y1, y2, y3, z)
noncomputable def sX3_isOfKind_0 (x1 : Int32) (x2 : Int32) (z : mm_S) : Option (Int32 × mm_S) := (sX3_isOfKind_4 x2 x1 0 z)
noncomputable def sX3_isOfKind (x1 : Int32) (x2 : Int32) (z : mm_S) : Option (Int32 × mm_S) := sX3_isOfKind_0 x1 x2 z
noncomputable def clo_X3_isOfKind (as : List mm_V) (z : mm_S) (kk : Option mm_V → mm_S → Option mm_R) : Option mm_R := mm_pi as fun a0 as => mm_pi as fun a1 as => (match as with | [] => (sX3_isOfKind a0 a1 z).bind fun q => kk (some (mm_I q.1)) q.2 | _ => none)
noncomputable def lV_X3_as : List (Nat × (List mm_V → mm_S → (Option mm_V → mm_S → Option mm_R) → Option mm_R)) := [(59, clo_X3_finding), (90, clo_X0_kindOf)]
noncomputable def mV_X3_as (k : Nat) (as : List mm_V) (z : mm_S) (kk : Option mm_V → mm_S → Option mm_R) : Option mm_R := match mm_at lV_X3_as k with
  | some f => f as z kk
  | none => none
noncomputable def arV_X3_as (k : Nat) : Nat := (mm_at [(59, 2), (90, 2)] k).getD 0
noncomputable def lS_X3_as : List (Nat × (List mm_V → mm_S → (Option mm_V → mm_S → Option mm_R) → Option mm_R)) := [(76, clo_X3_isKind), (166, clo_X3_at), (301, clo_X3_isSpot), (307, clo_X3_isOfKind)]
noncomputable def mS_X3_as (k : Nat) (as : List mm_V) (z : mm_S) (kk : Option mm_V → mm_S → Option mm_R) : Option mm_R := match mm_at lS_X3_as k with
  | some f => f as z kk
  | none => none
noncomputable def arS_X3_as (k : Nat) : Nat := (mm_at [(76, 1), (166, 2), (301, 1), (307, 2)] k).getD 0
def ct_X3_as : List (Nat × List Nat) := [(4, [0, 1, 2]), (11, [0, 1, 2]), (20, [0, 1, 2]), (32, [0, 2, 3]), (43, [0, 2, 3]), (55, [0, 3]), (58, [3])]
noncomputable def go_X3_as : Nat → mm_K := mm_go (fun k => mm_at flX3 k) (fun k => mm_at clX3 k) (fun k => mm_at glX3 k) arV_X3_as arS_X3_as mV_X3_as mS_X3_as lenX roX snX 4 0 tbX3_as ct_X3_as
def rm_X3_as : Room := { frames := 2, cells := 0, slots := 0, locals := 44 }
noncomputable def f_X3_as (as : List mm_V) (z : mm_S) (o : mm_R) : Prop := (as.map mm_cat).sum ≤ 4 ∧ ∃ n, go_X3_as n 0 (mm_ar 0 as) [] z = some o
theorem M_X3_as : mm_M lyTX lyFA lenX snX 46 48 17 roX rsA nfA nmA ssX yX3_as cX3_as 4 (some .int) rm_X3_as f_X3_as := sorry
noncomputable def sX3_as_58 (y3 : Int32) (z : mm_S) : Option (Int32 × mm_S) := some (y3, z)
noncomputable def sX3_as_55 (y3 : Int32) (w0 : Int32) (z : mm_S) : Option (Int32 × mm_S) := if w0 = 0 then (sX3_finding 2 z).bind fun q5 => some (q5.1, q5.2) else (sX3_as_58 y3 z)
noncomputable def sX3_as_43 (y2 : Int32) (y3 : Int32) (z : mm_S) : Option (Int32 × mm_S) := (sX3_isOfKind (pX0_kindOf 1 y3 z) y2 z).bind fun q4 => (sX3_as_55 y3 q4.1 q4.2)
noncomputable def sX3_as_32 (y2 : Int32) (y3 : Int32) (z : mm_S) : Option (Int32 × mm_S) := if y3 = (-1) then (sX3_finding 5 z).bind fun q3 => some (q3.1, q3.2) else (sX3_as_43 y2 y3 z)
noncomputable def sX3_as_20 (y1 : Int32) (y2 : Int32) (z : mm_S) : Option (Int32 × mm_S) := (sX3_as_32 y2 (pX3_at 12 y1 z) z)
noncomputable def sX3_as_11 (y1 : Int32) (y2 : Int32) (w0 : Int32) (z : mm_S) : Option (Int32 × mm_S) := if w0 = 0 then (sX3_finding 0 z).bind fun q2 => some (q2.1, q2.2) else (sX3_as_20 y1 y2 z)
noncomputable def sX3_as_4 (y1 : Int32) (y2 : Int32) (w0 : Int32) (z : mm_S) : Option (Int32 × mm_S) := if w0 = 0 then (sX3_finding 0 z).bind fun q1 => some (q1.1, q1.2) else (sX3_as_11 y1 y2 (pX3_isKind y2) z)
noncomputable def sX3_as_0 (x1 : Int32) (x2 : Int32) (z : mm_S) : Option (Int32 × mm_S) := (sX3_as_4 x1 x2 (pX3_isSpot x1) z)
noncomputable def sX3_as (x1 : Int32) (x2 : Int32) (z : mm_S) : Option (Int32 × mm_S) := sX3_as_0 x1 x2 z
theorem sp_X3_as (x1 : Int32) (x2 : Int32) (z : mm_S) (hk : ∀ v ∈ [mm_P 3 0, mm_I x1, mm_I x2], mm_ok 46 lyTX 48 17 v) (q : Int32 × mm_S) (hq : sX3_as x1 x2 z = some q) : f_X3_as [mm_P 3 0, mm_I x1, mm_I x2] z (some (mm_I q.1), q.2) := sorry
noncomputable def lV_X3_sheet : List (Nat × (List mm_V → mm_S → (Option mm_V → mm_S → Option mm_R) → Option mm_R)) := [(59, clo_X3_finding)]
noncomputable def mV_X3_sheet (k : Nat) (as : List mm_V) (z : mm_S) (kk : Option mm_V → mm_S → Option mm_R) : Option mm_R := match mm_at lV_X3_sheet k with
  | some f => f as z kk
  | none => none
noncomputable def arV_X3_sheet (k : Nat) : Nat := (mm_at [(59, 2)] k).getD 0
noncomputable def lS_X3_sheet : List (Nat × (List mm_V → mm_S → (Option mm_V → mm_S → Option mm_R) → Option mm_R)) := [(111, clo_X3_exchange), (310, clo_X3_isSheet)]
noncomputable def mS_X3_sheet (k : Nat) (as : List mm_V) (z : mm_S) (kk : Option mm_V → mm_S → Option mm_R) : Option mm_R := match mm_at lS_X3_sheet k with
  | some f => f as z kk
  | none => none
noncomputable def arS_X3_sheet (k : Nat) : Nat := (mm_at [(111, 3), (310, 1)] k).getD 0
def ct_X3_sheet : List (Nat × List Nat) := [(4, [0, 1, 2, 3]), (35, [0, 1, 2, 3]), (46, [0, 1, 2, 3]), (58, [0, 1, 2, 3]), (79, [0, 1, 4]), (90, [0, 1, 4]), (93, [0, 1, 4, 5]), (116, [0, 1, 4, 5])]
noncomputable def go_X3_sheet : Nat → mm_K := mm_go (fun k => mm_at flX3 k) (fun k => mm_at clX3 k) (fun k => mm_at glX3 k) arV_X3_sheet arS_X3_sheet mV_X3_sheet mS_X3_sheet lenX roX snX 6 0 tbX3_sheet ct_X3_sheet
def rm_X3_sheet : Room := { frames := 2, cells := 0, slots := 0, locals := 44 }
noncomputable def f_X3_sheet (as : List mm_V) (z : mm_S) (o : mm_R) : Prop := (as.map mm_cat).sum ≤ 6 ∧ ∃ n, go_X3_sheet n 0 (mm_ar 0 as) [] z = some o
theorem M_X3_sheet : mm_M lyTX lyFA lenX snX 46 48 17 roX rsA nfA nmA ssX yX3_sheet cX3_sheet 6 (some .int) rm_X3_sheet f_X3_sheet := sorry
noncomputable def sX3_sheet_116 (y1 : Int32) (y4 : Int32) (y5 : Int32) (z : mm_S) : Option ((Int32 × Int32 × Int32 × mm_S) ⊕ (Int32 × mm_S)) := some (.inl (y1, y4, (y5 + 1), z))
noncomputable def lX3_sheet_93 (s : Int32 × Int32 × Int32 × mm_S) : Option ((Int32 × Int32 × Int32 × mm_S) ⊕ (Int32 × mm_S)) := if s.2.1 ≤ s.2.2.1 then some (.inr (s.2.1, s.2.2.2)) else let u8 := (tX3_exchange 41 ((s.1 * 40) + s.2.2.1) 0 s.2.2.2); (sX3_sheet_116 s.1 s.2.1 s.2.2.1 u8.2)
noncomputable def sX3_sheet_93 (y1 : Int32) (y4 : Int32) (y5 : Int32) (z : mm_S) : Option (Int32 × mm_S) := mm_wh (lX3_sheet_93 ) mm_fu (y1, y4, y5, z)
noncomputable def sX3_sheet_90 (y1 : Int32) (y4 : Int32) (z : mm_S) : Option (Int32 × mm_S) := (sX3_sheet_93 y1 y4 0 z)
noncomputable def sX3_sheet_79 (y1 : Int32) (y4 : Int32) (z : mm_S) : Option (Int32 × mm_S) := let u7 := (tX3_exchange 40 y1 y4 z); (sX3_sheet_90 y1 y4 u7.2)
noncomputable def sX3_sheet_58 (y1 : Int32) (y2 : Int32) (y3 : Int32) (z : mm_S) : Option (Int32 × mm_S) := if y2 = 0 then let u6 := (tX3_exchange 39 y1 y2 z); (sX3_sheet_79 y1 0 u6.2) else let u5 := (tX3_exchange 39 y1 y2 z); (sX3_sheet_79 y1 y3 u5.2)
noncomputable def sX3_sheet_46 (y1 : Int32) (y2 : Int32) (y3 : Int32) (z : mm_S) : Option (Int32 × mm_S) := if y3 ≤ 40 then (sX3_sheet_58 y1 y2 y3 z) else (sX3_finding 0 z).bind fun q4 => some (q4.1, q4.2)
noncomputable def sX3_sheet_35 (y1 : Int32) (y2 : Int32) (y3 : Int32) (z : mm_S) : Option (Int32 × mm_S) := if 0 ≤ y3 then (sX3_sheet_46 y1 y2 y3 z) else (sX3_finding 6 z).bind fun q3 => some (q3.1, q3.2)
noncomputable def sX3_sheet_4 (y1 : Int32) (y2 : Int32) (y3 : Int32) (w0 : Int32) (z : mm_S) : Option (Int32 × mm_S) := if w0 = 0 then (sX3_finding 0 z).bind fun q1 => some (q1.1, q1.2) else if y2 = 0 then (sX3_sheet_35 y1 y2 y3 z) else if y2 = 8 then (sX3_sheet_35 y1 y2 y3 z) else if y2 = 16 then (sX3_sheet_35 y1 y2 y3 z) else if y2 = 32 then (sX3_sheet_35 y1 y2 y3 z) else (sX3_finding 0 z).bind fun q2 => some (q2.1, q2.2)
noncomputable def sX3_sheet_0 (x1 : Int32) (x2 : Int32) (x3 : Int32) (z : mm_S) : Option (Int32 × mm_S) := (sX3_sheet_4 x1 x2 x3 (pX3_isSheet x1) z)
noncomputable def sX3_sheet (x1 : Int32) (x2 : Int32) (x3 : Int32) (z : mm_S) : Option (Int32 × mm_S) := sX3_sheet_0 x1 x2 x3 z
theorem sp_X3_sheet (x1 : Int32) (x2 : Int32) (x3 : Int32) (z : mm_S) (hk : ∀ v ∈ [mm_P 3 0, mm_I x1, mm_I x2, mm_I x3], mm_ok 46 lyTX 48 17 v) (q : Int32 × mm_S) (hq : sX3_sheet x1 x2 x3 z = some q) : f_X3_sheet [mm_P 3 0, mm_I x1, mm_I x2, mm_I x3] z (some (mm_I q.1), q.2) := sorry
noncomputable def pX3_isMissing (x1 : Int32) (z : mm_S) : Int32 := if (pX3_at 39 x1 z) = 0 then 1 else 0
noncomputable def clo_X3_isMissing (as : List mm_V) (z : mm_S) (kk : Option mm_V → mm_S → Option mm_R) : Option mm_R := mm_pr as fun t o0 as => bif Nat.beq t 3 then mm_pi as fun a1 as => (match as with | [] => kk (some (mm_I (pX3_isMissing a1 z))) z | _ => none) else none
noncomputable def lV_X3_write : List (Nat × (List mm_V → mm_S → (Option mm_V → mm_S → Option mm_R) → Option mm_R)) := [(59, clo_X3_finding), (313, clo_X3_isMissing)]
noncomputable def mV_X3_write (k : Nat) (as : List mm_V) (z : mm_S) (kk : Option mm_V → mm_S → Option mm_R) : Option mm_R := match mm_at lV_X3_write k with
  | some f => f as z kk
  | none => none
noncomputable def arV_X3_write (k : Nat) : Nat := (mm_at [(59, 2), (313, 2)] k).getD 0
noncomputable def lS_X3_write : List (Nat × (List mm_V → mm_S → (Option mm_V → mm_S → Option mm_R) → Option mm_R)) := [(111, clo_X3_exchange), (118, clo_X3_lies), (166, clo_X3_at), (310, clo_X3_isSheet), (316, clo_X3_lowestBits)]
noncomputable def mS_X3_write (k : Nat) (as : List mm_V) (z : mm_S) (kk : Option mm_V → mm_S → Option mm_R) : Option mm_R := match mm_at lS_X3_write k with
  | some f => f as z kk
  | none => none
noncomputable def arS_X3_write (k : Nat) : Nat := (mm_at [(111, 3), (118, 3), (166, 2), (310, 1), (316, 2)] k).getD 0
def ct_X3_write : List (Nat × List Nat) := [(4, [0, 1, 2, 3]), (13, [0, 1, 2, 3]), (18, [0, 1, 2, 3]), (27, [0, 1, 2, 3]), (42, [0, 1, 2, 3]), (51, [0, 1, 2, 3]), (77, [])]
noncomputable def go_X3_write : Nat → mm_K := mm_go (fun k => mm_at flX3 k) (fun k => mm_at clX3 k) (fun k => mm_at glX3 k) arV_X3_write arS_X3_write mV_X3_write mS_X3_write lenX roX snX 4 0 tbX3_write ct_X3_write
def rm_X3_write : Room := { frames := 2, cells := 0, slots := 0, locals := 44 }
noncomputable def f_X3_write (as : List mm_V) (z : mm_S) (o : mm_R) : Prop := (as.map mm_cat).sum ≤ 4 ∧ ∃ n, go_X3_write n 0 (mm_ar 0 as) [] z = some o
theorem M_X3_write : mm_M lyTX lyFA lenX snX 46 48 17 roX rsA nfA nmA ssX yX3_write cX3_write 4 (some .int) rm_X3_write f_X3_write := sorry
noncomputable def sX3_write_77  (z : mm_S) : Option (Int32 × mm_S) := some (1, z)
noncomputable def sX3_write_51 (y1 : Int32) (y2 : Int32) (y3 : Int32) (z : mm_S) : Option (Int32 × mm_S) := let u4 := (tX3_exchange 41 ((y1 * 40) + y2) (pX3_lowestBits y3 (pX3_at 39 y1 z)) z); (sX3_write_77 u4.2)
noncomputable def sX3_write_42 (y1 : Int32) (y2 : Int32) (y3 : Int32) (w0 : Int32) (z : mm_S) : Option (Int32 × mm_S) := if w0 = 0 then (sX3_finding 0 z).bind fun q3 => some (q3.1, q3.2) else (sX3_write_51 y1 y2 y3 z)
noncomputable def sX3_write_27 (y1 : Int32) (y2 : Int32) (y3 : Int32) (z : mm_S) : Option (Int32 × mm_S) := (sX3_write_42 y1 y2 y3 (pX3_lies y2 0 ((pX3_at 40 y1 z) - 1)) z)
noncomputable def sX3_write_18 (y1 : Int32) (y2 : Int32) (y3 : Int32) (w0 : Int32) (z : mm_S) : Option (Int32 × mm_S) := if w0 = 0 then (sX3_write_27 y1 y2 y3 z) else (sX3_finding 5 z).bind fun q2 => some (q2.1, q2.2)
noncomputable def sX3_write_13 (y1 : Int32) (y2 : Int32) (y3 : Int32) (z : mm_S) : Option (Int32 × mm_S) := (sX3_write_18 y1 y2 y3 (pX3_isMissing y1 z) z)
noncomputable def sX3_write_4 (y1 : Int32) (y2 : Int32) (y3 : Int32) (w0 : Int32) (z : mm_S) : Option (Int32 × mm_S) := if w0 = 0 then (sX3_finding 0 z).bind fun q1 => some (q1.1, q1.2) else (sX3_write_13 y1 y2 y3 z)
noncomputable def sX3_write_0 (x1 : Int32) (x2 : Int32) (x3 : Int32) (z : mm_S) : Option (Int32 × mm_S) := (sX3_write_4 x1 x2 x3 (pX3_isSheet x1) z)
noncomputable def sX3_write (x1 : Int32) (x2 : Int32) (x3 : Int32) (z : mm_S) : Option (Int32 × mm_S) := sX3_write_0 x1 x2 x3 z
theorem sp_X3_write (x1 : Int32) (x2 : Int32) (x3 : Int32) (z : mm_S) (hk : ∀ v ∈ [mm_P 3 0, mm_I x1, mm_I x2, mm_I x3], mm_ok 46 lyTX 48 17 v) (q : Int32 × mm_S) (hq : sX3_write x1 x2 x3 z = some q) : f_X3_write [mm_P 3 0, mm_I x1, mm_I x2, mm_I x3] z (some (mm_I q.1), q.2) := sorry
noncomputable def pX3_hasNumbers (x1 : Int32) (x2 : Int32) (x3 : Int32) (z : mm_S) : Int32 := if x2 < 0 then 0 else if x3 < 0 then 0 else if 0 < (lg_cmp ((Int32.toInt64 x2) + (Int32.toInt64 x3)) (Int32.toInt64 (pX3_at 40 x1 z))) then 0 else 1
noncomputable def clo_X3_hasNumbers (as : List mm_V) (z : mm_S) (kk : Option mm_V → mm_S → Option mm_R) : Option mm_R := mm_pr as fun t o0 as => bif Nat.beq t 3 then mm_pi as fun a1 as => mm_pi as fun a2 as => mm_pi as fun a3 as => (match as with | [] => kk (some (mm_I (pX3_hasNumbers a1 a2 a3 z))) z | _ => none) else none
noncomputable def lV_X3_copy : List (Nat × (List mm_V → mm_S → (Option mm_V → mm_S → Option mm_R) → Option mm_R)) := [(59, clo_X3_finding), (313, clo_X3_isMissing), (319, clo_X3_hasNumbers)]
noncomputable def mV_X3_copy (k : Nat) (as : List mm_V) (z : mm_S) (kk : Option mm_V → mm_S → Option mm_R) : Option mm_R := match mm_at lV_X3_copy k with
  | some f => f as z kk
  | none => none
noncomputable def arV_X3_copy (k : Nat) : Nat := (mm_at [(59, 2), (313, 2), (319, 4)] k).getD 0
noncomputable def lS_X3_copy : List (Nat × (List mm_V → mm_S → (Option mm_V → mm_S → Option mm_R) → Option mm_R)) := [(166, clo_X3_at), (310, clo_X3_isSheet), (322, (mm_ci lenX))]
noncomputable def mS_X3_copy (k : Nat) (as : List mm_V) (z : mm_S) (kk : Option mm_V → mm_S → Option mm_R) : Option mm_R := match mm_at lS_X3_copy k with
  | some f => f as z kk
  | none => none
noncomputable def arS_X3_copy (k : Nat) : Nat := (mm_at [(166, 2), (310, 1), (322, 5)] k).getD 0
def ct_X3_copy : List (Nat × List Nat) := [(4, [0, 1, 2, 3, 4, 5]), (11, [0, 1, 2, 3, 4, 5]), (20, [0, 1, 2, 3, 4, 5]), (25, [0, 1, 2, 3, 4, 5]), (33, [0, 1, 2, 3, 4, 5]), (42, [0, 1, 2, 3, 4, 5]), (67, [0, 1, 2, 3, 4, 5]), (75, [0, 1, 2, 3, 4, 5]), (87, [0, 1, 2, 3, 4, 5]), (96, [0, 1, 2, 3, 4, 5]), (122, [5])]
noncomputable def go_X3_copy : Nat → mm_K := mm_go (fun k => mm_at flX3 k) (fun k => mm_at clX3 k) (fun k => mm_at glX3 k) arV_X3_copy arS_X3_copy mV_X3_copy mS_X3_copy lenX roX snX 6 0 tbX3_copy ct_X3_copy
def rm_X3_copy : Room := { frames := 2, cells := 0, slots := 0, locals := 44 }
noncomputable def f_X3_copy (as : List mm_V) (z : mm_S) (o : mm_R) : Prop := (as.map mm_cat).sum ≤ 6 ∧ ∃ n, go_X3_copy n 0 (mm_ar 0 as) [] z = some o
theorem M_X3_copy : mm_M lyTX lyFA lenX snX 46 48 17 roX rsA nfA nmA ssX yX3_copy cX3_copy 6 (some .int) rm_X3_copy f_X3_copy := sorry
noncomputable def sX3_copy_122 (y5 : Int32) (z : mm_S) : Option (Int32 × mm_S) := some (y5, z)
noncomputable def sX3_copy_96 (y1 : Int32) (y2 : Int32) (y3 : Int32) (y4 : Int32) (y5 : Int32) (z : mm_S) : Option (Int32 × mm_S) := if (((y1 * 40) + y2) : Int32) < 0 ∨ (((y3 * 40) + y4) : Int32) < 0 ∨ (y5 : Int32) < 0 ∨ lenX 41 < Int32.toNatClampNeg ((y1 * 40) + y2) + Int32.toNatClampNeg y5 ∨ lenX 41 < Int32.toNatClampNeg ((y3 * 40) + y4) + Int32.toNatClampNeg y5 then none else let u8 : mm_S := (mm_cp z.1 41 41 (Int32.toNatClampNeg ((y1 * 40) + y2)) (Int32.toNatClampNeg ((y3 * 40) + y4)) (Int32.toNatClampNeg y5), z.2); (sX3_copy_122 y5 u8)
noncomputable def sX3_copy_87 (y1 : Int32) (y2 : Int32) (y3 : Int32) (y4 : Int32) (y5 : Int32) (w0 : Int32) (z : mm_S) : Option (Int32 × mm_S) := if w0 = 0 then (sX3_finding 0 z).bind fun q7 => some (q7.1, q7.2) else (sX3_copy_96 y1 y2 y3 y4 y5 z)
noncomputable def sX3_copy_75 (y1 : Int32) (y2 : Int32) (y3 : Int32) (y4 : Int32) (y5 : Int32) (w0 : Int32) (z : mm_S) : Option (Int32 × mm_S) := if w0 = 0 then (sX3_finding 0 z).bind fun q6 => some (q6.1, q6.2) else (sX3_copy_87 y1 y2 y3 y4 y5 (pX3_hasNumbers y3 y4 y5 z) z)
noncomputable def sX3_copy_67 (y1 : Int32) (y2 : Int32) (y3 : Int32) (y4 : Int32) (y5 : Int32) (z : mm_S) : Option (Int32 × mm_S) := (sX3_copy_75 y1 y2 y3 y4 y5 (pX3_hasNumbers y1 y2 y5 z) z)
noncomputable def sX3_copy_42 (y1 : Int32) (y2 : Int32) (y3 : Int32) (y4 : Int32) (y5 : Int32) (z : mm_S) : Option (Int32 × mm_S) := if (pX3_at 39 y1 z) = (pX3_at 39 y3 z) then (sX3_copy_67 y1 y2 y3 y4 y5 z) else (sX3_finding 2 z).bind fun q5 => some (q5.1, q5.2)
noncomputable def sX3_copy_33 (y1 : Int32) (y2 : Int32) (y3 : Int32) (y4 : Int32) (y5 : Int32) (w0 : Int32) (z : mm_S) : Option (Int32 × mm_S) := if w0 = 0 then (sX3_copy_42 y1 y2 y3 y4 y5 z) else (sX3_finding 5 z).bind fun q4 => some (q4.1, q4.2)
noncomputable def sX3_copy_25 (y1 : Int32) (y2 : Int32) (y3 : Int32) (y4 : Int32) (y5 : Int32) (w0 : Int32) (z : mm_S) : Option (Int32 × mm_S) := if w0 = 0 then (sX3_copy_33 y1 y2 y3 y4 y5 (pX3_isMissing y3 z) z) else (sX3_finding 5 z).bind fun q3 => some (q3.1, q3.2)
noncomputable def sX3_copy_20 (y1 : Int32) (y2 : Int32) (y3 : Int32) (y4 : Int32) (y5 : Int32) (z : mm_S) : Option (Int32 × mm_S) := (sX3_copy_25 y1 y2 y3 y4 y5 (pX3_isMissing y1 z) z)
noncomputable def sX3_copy_11 (y1 : Int32) (y2 : Int32) (y3 : Int32) (y4 : Int32) (y5 : Int32) (w0 : Int32) (z : mm_S) : Option (Int32 × mm_S) := if w0 = 0 then (sX3_finding 0 z).bind fun q2 => some (q2.1, q2.2) else (sX3_copy_20 y1 y2 y3 y4 y5 z)
noncomputable def sX3_copy_4 (y1 : Int32) (y2 : Int32) (y3 : Int32) (y4 : Int32) (y5 : Int32) (w0 : Int32) (z : mm_S) : Option (Int32 × mm_S) := if w0 = 0 then (sX3_finding 0 z).bind fun q1 => some (q1.1, q1.2) else (sX3_copy_11 y1 y2 y3 y4 y5 (pX3_isSheet y3) z)
noncomputable def sX3_copy_0 (x1 : Int32) (x2 : Int32) (x3 : Int32) (x4 : Int32) (x5 : Int32) (z : mm_S) : Option (Int32 × mm_S) := (sX3_copy_4 x1 x2 x3 x4 x5 (pX3_isSheet x1) z)
noncomputable def sX3_copy (x1 : Int32) (x2 : Int32) (x3 : Int32) (x4 : Int32) (x5 : Int32) (z : mm_S) : Option (Int32 × mm_S) := sX3_copy_0 x1 x2 x3 x4 x5 z
theorem sp_X3_copy (x1 : Int32) (x2 : Int32) (x3 : Int32) (x4 : Int32) (x5 : Int32) (z : mm_S) (hk : ∀ v ∈ [mm_P 3 0, mm_I x1, mm_I x2, mm_I x3, mm_I x4, mm_I x5], mm_ok 46 lyTX 48 17 v) (q : Int32 × mm_S) (hq : sX3_copy x1 x2 x3 x4 x5 z = some q) : f_X3_copy [mm_P 3 0, mm_I x1, mm_I x2, mm_I x3, mm_I x4, mm_I x5] z (some (mm_I q.1), q.2) := sorry
noncomputable def pX3_numberOf (x1 : Int32) (x2 : Int32) (z : mm_S) : Int32 := (pX3_at 41 ((x1 * 40) + x2) z)
noncomputable def clo_X3_numberOf (as : List mm_V) (z : mm_S) (kk : Option mm_V → mm_S → Option mm_R) : Option mm_R := mm_pr as fun t o0 as => bif Nat.beq t 3 then mm_pi as fun a1 as => mm_pi as fun a2 as => (match as with | [] => kk (some (mm_I (pX3_numberOf a1 a2 z))) z | _ => none) else none
noncomputable def lV_X3_load : List (Nat × (List mm_V → mm_S → (Option mm_V → mm_S → Option mm_R) → Option mm_R)) := [(59, clo_X3_finding), (72, clo_X1_put), (313, clo_X3_isMissing), (333, clo_X3_numberOf)]
noncomputable def mV_X3_load (k : Nat) (as : List mm_V) (z : mm_S) (kk : Option mm_V → mm_S → Option mm_R) : Option mm_R := match mm_at lV_X3_load k with
  | some f => f as z kk
  | none => none
noncomputable def arV_X3_load (k : Nat) : Nat := (mm_at [(59, 2), (72, 3), (313, 2), (333, 3)] k).getD 0
noncomputable def lS_X3_load : List (Nat × (List mm_V → mm_S → (Option mm_V → mm_S → Option mm_R) → Option mm_R)) := [(56, clo_X3_isStuff), (166, clo_X3_at), (310, clo_X3_isSheet), (328, mm_mn)]
noncomputable def mS_X3_load (k : Nat) (as : List mm_V) (z : mm_S) (kk : Option mm_V → mm_S → Option mm_R) : Option mm_R := match mm_at lS_X3_load k with
  | some f => f as z kk
  | none => none
noncomputable def arS_X3_load (k : Nat) : Nat := (mm_at [(56, 1), (166, 2), (310, 1), (328, 2)] k).getD 0
def ct_X3_load : List (Nat × List Nat) := [(4, [0, 1]), (13, [0, 1]), (18, [0, 1]), (27, [0, 1]), (41, [0, 1, 2]), (43, [0, 1, 2, 3]), (56, [0, 1, 2, 3, 4]), (61, [0, 1, 2, 3, 4]), (79, [0, 1, 2, 3])]
noncomputable def go_X3_load : Nat → mm_K := mm_go (fun k => mm_at flX3 k) (fun k => mm_at clX3 k) (fun k => mm_at glX3 k) arV_X3_load arS_X3_load mV_X3_load mS_X3_load lenX roX snX 5 0 tbX3_load ct_X3_load
def rm_X3_load : Room := { frames := 3, cells := 0, slots := 0, locals := 65 }
noncomputable def f_X3_load (as : List mm_V) (z : mm_S) (o : mm_R) : Prop := (as.map mm_cat).sum ≤ 5 ∧ ∃ n, go_X3_load n 0 (mm_ar 0 as) [] z = some o
theorem M_X3_load : mm_M lyTX lyFA lenX snX 46 48 17 roX rsA nfA nmA ssX yX3_load cX3_load 5 (some .int) rm_X3_load f_X3_load := sorry
noncomputable def sX3_load_79 (y1 : Int32) (y2 : Int32) (y3 : Int32) (z : mm_S) : Option ((Int32 × Int32 × Int32 × mm_S) ⊕ (Int32 × mm_S)) := some (.inl (y1, y2, (y3 + 1), z))
noncomputable def sX3_load_61 (y1 : Int32) (y2 : Int32) (y3 : Int32) (y4 : Int32) (w0 : Int32) (z : mm_S) : Option ((Int32 × Int32 × Int32 × mm_S) ⊕ (Int32 × mm_S)) := if w0 = 0 then some (.inr (y3, z)) else let u3 := (tX1_put 2 y3 y4 z); (sX3_load_79 y1 y2 y3 u3)
noncomputable def sX3_load_56 (y1 : Int32) (y2 : Int32) (y3 : Int32) (y4 : Int32) (z : mm_S) : Option ((Int32 × Int32 × Int32 × mm_S) ⊕ (Int32 × mm_S)) := (sX3_load_61 y1 y2 y3 y4 (pX3_isStuff y4) z)
noncomputable def lX3_load_43 (s : Int32 × Int32 × Int32 × mm_S) : Option ((Int32 × Int32 × Int32 × mm_S) ⊕ (Int32 × mm_S)) := if s.2.1 ≤ s.2.2.1 then some (.inr (s.2.1, s.2.2.2)) else (sX3_load_56 s.1 s.2.1 s.2.2.1 (pX3_numberOf s.1 s.2.2.1 s.2.2.2) s.2.2.2)
noncomputable def sX3_load_43 (y1 : Int32) (y2 : Int32) (y3 : Int32) (z : mm_S) : Option (Int32 × mm_S) := mm_wh (lX3_load_43 ) mm_fu (y1, y2, y3, z)
noncomputable def sX3_load_41 (y1 : Int32) (y2 : Int32) (z : mm_S) : Option (Int32 × mm_S) := (sX3_load_43 y1 y2 0 z)
noncomputable def sX3_load_27 (y1 : Int32) (z : mm_S) : Option (Int32 × mm_S) := (sX3_load_41 y1 (mm_min (pX3_at 40 y1 z) 36) z)
noncomputable def sX3_load_18 (y1 : Int32) (w0 : Int32) (z : mm_S) : Option (Int32 × mm_S) := if w0 = 0 then (sX3_load_27 y1 z) else (sX3_finding 5 z).bind fun q2 => some (q2.1, q2.2)
noncomputable def sX3_load_13 (y1 : Int32) (z : mm_S) : Option (Int32 × mm_S) := (sX3_load_18 y1 (pX3_isMissing y1 z) z)
noncomputable def sX3_load_4 (y1 : Int32) (w0 : Int32) (z : mm_S) : Option (Int32 × mm_S) := if w0 = 0 then (sX3_finding 0 z).bind fun q1 => some (q1.1, q1.2) else (sX3_load_13 y1 z)
noncomputable def sX3_load_0 (x1 : Int32) (z : mm_S) : Option (Int32 × mm_S) := (sX3_load_4 x1 (pX3_isSheet x1) z)
noncomputable def sX3_load (x1 : Int32) (z : mm_S) : Option (Int32 × mm_S) := sX3_load_0 x1 z
theorem sp_X3_load (x1 : Int32) (z : mm_S) (hk : ∀ v ∈ [mm_P 3 0, mm_I x1], mm_ok 46 lyTX 48 17 v) (q : Int32 × mm_S) (hq : sX3_load x1 z = some q) : f_X3_load [mm_P 3 0, mm_I x1] z (some (mm_I q.1), q.2) := sorry
noncomputable def lV_X3_judge : List (Nat × (List mm_V → mm_S → (Option mm_V → mm_S → Option mm_R) → Option mm_R)) := [(59, clo_X3_finding), (87, clo_X3_isCrew), (192, clo_X0_fillHeard), (313, clo_X3_isMissing), (333, clo_X3_numberOf)]
noncomputable def mV_X3_judge (k : Nat) (as : List mm_V) (z : mm_S) (kk : Option mm_V → mm_S → Option mm_R) : Option mm_R := match mm_at lV_X3_judge k with
  | some f => f as z kk
  | none => none
noncomputable def arV_X3_judge (k : Nat) : Nat := (mm_at [(59, 2), (87, 2), (192, 3), (313, 2), (333, 3)] k).getD 0
noncomputable def lS_X3_judge : List (Nat × (List mm_V → mm_S → (Option mm_V → mm_S → Option mm_R) → Option mm_R)) := [(166, clo_X3_at), (310, clo_X3_isSheet), (328, mm_mn)]
noncomputable def mS_X3_judge (k : Nat) (as : List mm_V) (z : mm_S) (kk : Option mm_V → mm_S → Option mm_R) : Option mm_R := match mm_at lS_X3_judge k with
  | some f => f as z kk
  | none => none
noncomputable def arS_X3_judge (k : Nat) : Nat := (mm_at [(166, 2), (310, 1), (328, 2)] k).getD 0
def ct_X3_judge : List (Nat × List Nat) := [(4, [0, 1, 2]), (13, [0, 1, 2]), (18, [0, 1, 2]), (27, [0, 1, 2]), (32, [0, 1, 2]), (41, [0, 1, 2]), (53, [0, 1]), (67, [0, 1, 3]), (70, [0, 1, 3, 4])]
noncomputable def go_X3_judge : Nat → mm_K := mm_go (fun k => mm_at flX3 k) (fun k => mm_at clX3 k) (fun k => mm_at glX3 k) arV_X3_judge arS_X3_judge mV_X3_judge mS_X3_judge lenX roX snX 5 0 tbX3_judge ct_X3_judge
def rm_X3_judge : Room := { frames := 5, cells := 0, slots := 0, locals := 108 }
noncomputable def f_X3_judge (as : List mm_V) (z : mm_S) (o : mm_R) : Prop := (as.map mm_cat).sum ≤ 5 ∧ ∃ n, go_X3_judge n 0 (mm_ar 0 as) [] z = some o
theorem M_X3_judge : mm_M lyTX lyFA lenX snX 46 48 17 roX rsA nfA nmA ssX yX3_judge cX3_judge 5 (some .int) rm_X3_judge f_X3_judge := sorry
noncomputable def lX3_judge_70 (s : Int32 × Int32 × Int32 × mm_S) : Option ((Int32 × Int32 × Int32 × mm_S) ⊕ (Int32 × mm_S)) := if s.2.1 ≤ s.2.2.1 then some (.inr (0, s.2.2.2)) else if (pX3_numberOf s.1 s.2.2.1 s.2.2.2) = (pX3_at 43 s.2.2.1 s.2.2.2) then some (.inl (s.1, s.2.1, (s.2.2.1 + 1), s.2.2.2)) else some (.inr ((1 + s.2.2.1), s.2.2.2))
noncomputable def sX3_judge_70 (y1 : Int32) (y3 : Int32) (y4 : Int32) (z : mm_S) : Option (Int32 × mm_S) := mm_wh (lX3_judge_70 ) mm_fu (y1, y3, y4, z)
noncomputable def sX3_judge_67 (y1 : Int32) (y3 : Int32) (z : mm_S) : Option (Int32 × mm_S) := (sX3_judge_70 y1 y3 0 z)
noncomputable def sX3_judge_53 (y1 : Int32) (z : mm_S) : Option (Int32 × mm_S) := (sX3_judge_67 y1 (mm_min (pX3_at 40 y1 z) 36) z)
noncomputable def sX3_judge_41 (y1 : Int32) (y2 : Int32) (z : mm_S) : Option (Int32 × mm_S) := (sX0_fillHeard 1 y2 43 z).bind fun q4 => (sX3_judge_53 y1 q4)
noncomputable def sX3_judge_32 (y1 : Int32) (y2 : Int32) (w0 : Int32) (z : mm_S) : Option (Int32 × mm_S) := if w0 = 0 then (sX3_finding 0 z).bind fun q3 => some (q3.1, q3.2) else (sX3_judge_41 y1 y2 z)
noncomputable def sX3_judge_27 (y1 : Int32) (y2 : Int32) (z : mm_S) : Option (Int32 × mm_S) := (sX3_judge_32 y1 y2 (pX3_isCrew y2 z) z)
noncomputable def sX3_judge_18 (y1 : Int32) (y2 : Int32) (w0 : Int32) (z : mm_S) : Option (Int32 × mm_S) := if w0 = 0 then (sX3_judge_27 y1 y2 z) else (sX3_finding 5 z).bind fun q2 => some (q2.1, q2.2)
noncomputable def sX3_judge_13 (y1 : Int32) (y2 : Int32) (z : mm_S) : Option (Int32 × mm_S) := (sX3_judge_18 y1 y2 (pX3_isMissing y1 z) z)
noncomputable def sX3_judge_4 (y1 : Int32) (y2 : Int32) (w0 : Int32) (z : mm_S) : Option (Int32 × mm_S) := if w0 = 0 then (sX3_finding 0 z).bind fun q1 => some (q1.1, q1.2) else (sX3_judge_13 y1 y2 z)
noncomputable def sX3_judge_0 (x1 : Int32) (x2 : Int32) (z : mm_S) : Option (Int32 × mm_S) := (sX3_judge_4 x1 x2 (pX3_isSheet x1) z)
noncomputable def sX3_judge (x1 : Int32) (x2 : Int32) (z : mm_S) : Option (Int32 × mm_S) := sX3_judge_0 x1 x2 z
theorem sp_X3_judge (x1 : Int32) (x2 : Int32) (z : mm_S) (hk : ∀ v ∈ [mm_P 3 0, mm_I x1, mm_I x2], mm_ok 46 lyTX 48 17 v) (q : Int32 × mm_S) (hq : sX3_judge x1 x2 z = some q) : f_X3_judge [mm_P 3 0, mm_I x1, mm_I x2] z (some (mm_I q.1), q.2) := sorry
noncomputable def lV_X3_image : List (Nat × (List mm_V → mm_S → (Option mm_V → mm_S → Option mm_R) → Option mm_R)) := [(284, clo_X0_become)]
noncomputable def mV_X3_image (k : Nat) (as : List mm_V) (z : mm_S) (kk : Option mm_V → mm_S → Option mm_R) : Option mm_R := match mm_at lV_X3_image k with
  | some f => f as z kk
  | none => none
noncomputable def arV_X3_image (k : Nat) : Nat := (mm_at [(284, 2)] k).getD 0
noncomputable def lS_X3_image : List (Nat × (List mm_V → mm_S → (Option mm_V → mm_S → Option mm_R) → Option mm_R)) := []
noncomputable def mS_X3_image (k : Nat) (as : List mm_V) (z : mm_S) (kk : Option mm_V → mm_S → Option mm_R) : Option mm_R := match mm_at lS_X3_image k with
  | some f => f as z kk
  | none => none
noncomputable def arS_X3_image (k : Nat) : Nat := (mm_at [] k).getD 0
def ct_X3_image : List (Nat × List Nat) := [(11, [0]), (16, [])]
noncomputable def go_X3_image : Nat → mm_K := mm_go (fun k => mm_at flX3 k) (fun k => mm_at clX3 k) (fun k => mm_at glX3 k) arV_X3_image arS_X3_image mV_X3_image mS_X3_image lenX roX snX 1 0 tbX3_image ct_X3_image
def rm_X3_image : Room := { frames := 3, cells := 0, slots := 0, locals := 68 }
noncomputable def f_X3_image (as : List mm_V) (z : mm_S) (o : mm_R) : Prop := (as.map mm_cat).sum ≤ 1 ∧ ∃ n, go_X3_image n 0 (mm_ar 0 as) [] z = some o
theorem M_X3_image : mm_M lyTX lyFA lenX snX 46 48 17 roX rsA nfA nmA ssX yX3_image cX3_image 1 (some .int) rm_X3_image f_X3_image := sorry
noncomputable def sX3_image_16  (z : mm_S) : Option (Int32 × mm_S) := some (1, z)
noncomputable def sX3_image_11  (z : mm_S) : Option (Int32 × mm_S) := (sX3_image_16 ((mm_ui z.1 0 2 1), z.2))
noncomputable def sX3_image_0  (z : mm_S) : Option (Int32 × mm_S) := let u1 := (tX0_become 13 1 z); (sX3_image_11 u1)
noncomputable def sX3_image  (z : mm_S) : Option (Int32 × mm_S) := sX3_image_0  z
theorem sp_X3_image  (z : mm_S) (hk : ∀ v ∈ [mm_P 3 0], mm_ok 46 lyTX 48 17 v) (q : Int32 × mm_S) (hq : sX3_image  z = some q) : f_X3_image [mm_P 3 0] z (some (mm_I q.1), q.2) := sorry
noncomputable def lV_X3_undo : List (Nat × (List mm_V → mm_S → (Option mm_V → mm_S → Option mm_R) → Option mm_R)) := [(59, clo_X3_finding), (284, clo_X0_become)]
noncomputable def mV_X3_undo (k : Nat) (as : List mm_V) (z : mm_S) (kk : Option mm_V → mm_S → Option mm_R) : Option mm_R := match mm_at lV_X3_undo k with
  | some f => f as z kk
  | none => none
noncomputable def arV_X3_undo (k : Nat) : Nat := (mm_at [(59, 2), (284, 2)] k).getD 0
noncomputable def lS_X3_undo : List (Nat × (List mm_V → mm_S → (Option mm_V → mm_S → Option mm_R) → Option mm_R)) := []
noncomputable def mS_X3_undo (k : Nat) (as : List mm_V) (z : mm_S) (kk : Option mm_V → mm_S → Option mm_R) : Option mm_R := match mm_at lS_X3_undo k with
  | some f => f as z kk
  | none => none
noncomputable def arS_X3_undo (k : Nat) : Nat := (mm_at [] k).getD 0
def ct_X3_undo : List (Nat × List Nat) := [(13, [0]), (24, [0])]
noncomputable def go_X3_undo : Nat → mm_K := mm_go (fun k => mm_at flX3 k) (fun k => mm_at clX3 k) (fun k => mm_at glX3 k) arV_X3_undo arS_X3_undo mV_X3_undo mS_X3_undo lenX roX snX 1 0 tbX3_undo ct_X3_undo
def rm_X3_undo : Room := { frames := 3, cells := 0, slots := 0, locals := 68 }
noncomputable def f_X3_undo (as : List mm_V) (z : mm_S) (o : mm_R) : Prop := (as.map mm_cat).sum ≤ 1 ∧ ∃ n, go_X3_undo n 0 (mm_ar 0 as) [] z = some o
theorem M_X3_undo : mm_M lyTX lyFA lenX snX 46 48 17 roX rsA nfA nmA ssX yX3_undo cX3_undo 1 (some .int) rm_X3_undo f_X3_undo := sorry
noncomputable def sX3_undo_24  (z : mm_S) : Option (Int32 × mm_S) := some ((z.1 1 12), z)
noncomputable def sX3_undo_13  (z : mm_S) : Option (Int32 × mm_S) := let u2 := (tX0_become 1 13 z); (sX3_undo_24 u2)
noncomputable def sX3_undo_0  (z : mm_S) : Option (Int32 × mm_S) := if (z.1 0 2) = 0 then (sX3_finding 3 z).bind fun q1 => some (q1.1, q1.2) else (sX3_undo_13 z)
noncomputable def sX3_undo  (z : mm_S) : Option (Int32 × mm_S) := sX3_undo_0  z
theorem sp_X3_undo  (z : mm_S) (hk : ∀ v ∈ [mm_P 3 0], mm_ok 46 lyTX 48 17 v) (q : Int32 × mm_S) (hq : sX3_undo  z = some q) : f_X3_undo [mm_P 3 0] z (some (mm_I q.1), q.2) := sorry
noncomputable def lV_X3_tear : List (Nat × (List mm_V → mm_S → (Option mm_V → mm_S → Option mm_R) → Option mm_R)) := []
noncomputable def mV_X3_tear (k : Nat) (as : List mm_V) (z : mm_S) (kk : Option mm_V → mm_S → Option mm_R) : Option mm_R := match mm_at lV_X3_tear k with
  | some f => f as z kk
  | none => none
noncomputable def arV_X3_tear (k : Nat) : Nat := (mm_at [] k).getD 0
noncomputable def lS_X3_tear : List (Nat × (List mm_V → mm_S → (Option mm_V → mm_S → Option mm_R) → Option mm_R)) := []
noncomputable def mS_X3_tear (k : Nat) (as : List mm_V) (z : mm_S) (kk : Option mm_V → mm_S → Option mm_R) : Option mm_R := match mm_at lS_X3_tear k with
  | some f => f as z kk
  | none => none
noncomputable def arS_X3_tear (k : Nat) : Nat := (mm_at [] k).getD 0
def ct_X3_tear : List (Nat × List Nat) := [(18, [1])]
noncomputable def go_X3_tear : Nat → mm_K := mm_go (fun k => mm_at flX3 k) (fun k => mm_at clX3 k) (fun k => mm_at glX3 k) arV_X3_tear arS_X3_tear mV_X3_tear mS_X3_tear lenX roX snX 2 0 tbX3_tear ct_X3_tear
def rm_X3_tear : Room := { frames := 0, cells := 0, slots := 0, locals := 0 }
noncomputable def f_X3_tear (as : List mm_V) (z : mm_S) (o : mm_R) : Prop := (as.map mm_cat).sum ≤ 2 ∧ ∃ n, go_X3_tear n 0 (mm_ar 0 as) [] z = some o
theorem M_X3_tear : mm_M lyTX lyFA lenX snX 46 48 17 roX rsA nfA nmA ssX yX3_tear cX3_tear 2 (some .int) rm_X3_tear f_X3_tear := sorry
noncomputable def sX3_tear_18 (y1 : Int32) (z : mm_S) : Option (Int32 × mm_S) := some (y1, z)
noncomputable def sX3_tear_0  (z : mm_S) : Option (Int32 × mm_S) := if (z.1 0 2) = 0 then (sX3_tear_18 0 ((mm_ui z.1 0 2 0), z.2)) else (sX3_tear_18 1 ((mm_ui z.1 0 2 0), z.2))
noncomputable def sX3_tear  (z : mm_S) : Option (Int32 × mm_S) := sX3_tear_0  z
theorem sp_X3_tear  (z : mm_S) (hk : ∀ v ∈ [mm_P 3 0], mm_ok 46 lyTX 48 17 v) (q : Int32 × mm_S) (hq : sX3_tear  z = some q) : f_X3_tear [mm_P 3 0] z (some (mm_I q.1), q.2) := sorry
noncomputable def lV_X3_count : List (Nat × (List mm_V → mm_S → (Option mm_V → mm_S → Option mm_R) → Option mm_R)) := [(59, clo_X3_finding), (281, clo_X0_holes), (340, clo_X0_heldSpots)]
noncomputable def mV_X3_count (k : Nat) (as : List mm_V) (z : mm_S) (kk : Option mm_V → mm_S → Option mm_R) : Option mm_R := match mm_at lV_X3_count k with
  | some f => f as z kk
  | none => none
noncomputable def arV_X3_count (k : Nat) : Nat := (mm_at [(59, 2), (281, 1), (340, 1)] k).getD 0
noncomputable def lS_X3_count : List (Nat × (List mm_V → mm_S → (Option mm_V → mm_S → Option mm_R) → Option mm_R)) := []
noncomputable def mS_X3_count (k : Nat) (as : List mm_V) (z : mm_S) (kk : Option mm_V → mm_S → Option mm_R) : Option mm_R := match mm_at lS_X3_count k with
  | some f => f as z kk
  | none => none
noncomputable def arS_X3_count (k : Nat) : Nat := (mm_at [] k).getD 0
def ct_X3_count : List (Nat × List Nat) := []
noncomputable def go_X3_count : Nat → mm_K := mm_go (fun k => mm_at flX3 k) (fun k => mm_at clX3 k) (fun k => mm_at glX3 k) arV_X3_count arS_X3_count mV_X3_count mS_X3_count lenX roX snX 2 0 tbX3_count ct_X3_count
def rm_X3_count : Room := { frames := 2, cells := 0, slots := 0, locals := 44 }
noncomputable def f_X3_count (as : List mm_V) (z : mm_S) (o : mm_R) : Prop := (as.map mm_cat).sum ≤ 2 ∧ ∃ n, go_X3_count n 0 (mm_ar 0 as) [] z = some o
theorem M_X3_count : mm_M lyTX lyFA lenX snX 46 48 17 roX rsA nfA nmA ssX yX3_count cX3_count 2 (some .int) rm_X3_count f_X3_count := sorry
noncomputable def sX3_count_0 (x1 : Int32) (z : mm_S) : Option (Int32 × mm_S) := if x1 = 0 then some ((z.1 1 12), z) else if x1 = 1 then some ((z.1 1 4), z) else if x1 = 2 then some ((pX0_holes 1 z), z) else if x1 = 3 then some ((z.1 1 10), z) else if x1 = 4 then some ((z.1 1 6), z) else if x1 = 5 then some ((z.1 37 1), z) else if x1 = 6 then some ((z.1 1 13), z) else if x1 = 7 then some ((pX0_heldSpots 1 z), z) else (sX3_finding 0 z).bind fun q1 => some (q1.1, q1.2)
noncomputable def sX3_count (x1 : Int32) (z : mm_S) : Option (Int32 × mm_S) := sX3_count_0 x1 z
theorem sp_X3_count (x1 : Int32) (z : mm_S) (hk : ∀ v ∈ [mm_P 3 0, mm_I x1], mm_ok 46 lyTX 48 17 v) (q : Int32 × mm_S) (hq : sX3_count x1 z = some q) : f_X3_count [mm_P 3 0, mm_I x1] z (some (mm_I q.1), q.2) := sorry
noncomputable def lV_X3_status : List (Nat × (List mm_V → mm_S → (Option mm_V → mm_S → Option mm_R) → Option mm_R)) := [(59, clo_X3_finding)]
noncomputable def mV_X3_status (k : Nat) (as : List mm_V) (z : mm_S) (kk : Option mm_V → mm_S → Option mm_R) : Option mm_R := match mm_at lV_X3_status k with
  | some f => f as z kk
  | none => none
noncomputable def arV_X3_status (k : Nat) : Nat := (mm_at [(59, 2)] k).getD 0
noncomputable def lS_X3_status : List (Nat × (List mm_V → mm_S → (Option mm_V → mm_S → Option mm_R) → Option mm_R)) := [(118, clo_X3_lies), (166, clo_X3_at)]
noncomputable def mS_X3_status (k : Nat) (as : List mm_V) (z : mm_S) (kk : Option mm_V → mm_S → Option mm_R) : Option mm_R := match mm_at lS_X3_status k with
  | some f => f as z kk
  | none => none
noncomputable def arS_X3_status (k : Nat) : Nat := (mm_at [(118, 3), (166, 2)] k).getD 0
def ct_X3_status : List (Nat × List Nat) := [(7, [0, 1]), (16, [0, 1]), (33, [0, 2, 3])]
noncomputable def go_X3_status : Nat → mm_K := mm_go (fun k => mm_at flX3 k) (fun k => mm_at clX3 k) (fun k => mm_at glX3 k) arV_X3_status arS_X3_status mV_X3_status mS_X3_status lenX roX snX 4 0 tbX3_status ct_X3_status
def rm_X3_status : Room := { frames := 2, cells := 0, slots := 0, locals := 44 }
noncomputable def f_X3_status (as : List mm_V) (z : mm_S) (o : mm_R) : Prop := (as.map mm_cat).sum ≤ 4 ∧ ∃ n, go_X3_status n 0 (mm_ar 0 as) [] z = some o
theorem M_X3_status : mm_M lyTX lyFA lenX snX 46 48 17 roX rsA nfA nmA ssX yX3_status cX3_status 4 (some .int) rm_X3_status f_X3_status := sorry
noncomputable def lX3_status_33 (s : Int32 × Int32 × mm_S) : Option ((Int32 × Int32 × mm_S) ⊕ (Int32 × mm_S)) := if 7 ≤ s.2.1 then some (.inr (s.1, s.2.2)) else some (.inl ((s.1 + (pX3_at 42 s.2.1 s.2.2)), (s.2.1 + 1), s.2.2))
noncomputable def sX3_status_33 (y2 : Int32) (y3 : Int32) (z : mm_S) : Option (Int32 × mm_S) := mm_wh (lX3_status_33 ) mm_fu (y2, y3, z)
noncomputable def sX3_status_16 (y1 : Int32) (z : mm_S) : Option (Int32 × mm_S) := if y1 < 0 then (sX3_status_33 0 0 z) else some ((pX3_at 42 y1 z), z)
noncomputable def sX3_status_7 (y1 : Int32) (w0 : Int32) (z : mm_S) : Option (Int32 × mm_S) := if w0 = 0 then (sX3_finding 0 z).bind fun q1 => some (q1.1, q1.2) else (sX3_status_16 y1 z)
noncomputable def sX3_status_0 (x1 : Int32) (z : mm_S) : Option (Int32 × mm_S) := (sX3_status_7 x1 (pX3_lies x1 (-1) 6) z)
noncomputable def sX3_status (x1 : Int32) (z : mm_S) : Option (Int32 × mm_S) := sX3_status_0 x1 z
theorem sp_X3_status (x1 : Int32) (z : mm_S) (hk : ∀ v ∈ [mm_P 3 0, mm_I x1], mm_ok 46 lyTX 48 17 v) (q : Int32 × mm_S) (hq : sX3_status x1 z = some q) : f_X3_status [mm_P 3 0, mm_I x1] z (some (mm_I q.1), q.2) := sorry
noncomputable def lV_X4_burn : List (Nat × (List mm_V → mm_S → (Option mm_V → mm_S → Option mm_R) → Option mm_R)) := [(121, clo_X4_become)]
noncomputable def mV_X4_burn (k : Nat) (as : List mm_V) (z : mm_S) (kk : Option mm_V → mm_S → Option mm_R) : Option mm_R := match mm_at lV_X4_burn k with
  | some f => f as z kk
  | none => none
noncomputable def arV_X4_burn (k : Nat) : Nat := (mm_at [(121, 3)] k).getD 0
noncomputable def lS_X4_burn : List (Nat × (List mm_V → mm_S → (Option mm_V → mm_S → Option mm_R) → Option mm_R)) := []
noncomputable def mS_X4_burn (k : Nat) (as : List mm_V) (z : mm_S) (kk : Option mm_V → mm_S → Option mm_R) : Option mm_R := match mm_at lS_X4_burn k with
  | some f => f as z kk
  | none => none
noncomputable def arS_X4_burn (k : Nat) : Nat := (mm_at [] k).getD 0
def ct_X4_burn : List (Nat × List Nat) := []
noncomputable def go_X4_burn : Nat → mm_K := mm_go (fun k => mm_at flX4 k) (fun k => mm_at clX4 k) (fun k => mm_at glX4 k) arV_X4_burn arS_X4_burn mV_X4_burn mS_X4_burn lenM roM snM 1 0 tbX4_burn ct_X4_burn
def rm_X4_burn : Room := { frames := 1, cells := 0, slots := 0, locals := 23 }
noncomputable def f_X4_burn (as : List mm_V) (z : mm_S) (o : mm_R) : Prop := (as.map mm_cat).sum ≤ 1 ∧ ∃ n, go_X4_burn n 0 (mm_ar 0 as) [] z = some o
theorem M_X4_burn : mm_M lyTM lyFA lenM snM 22 22 17 roM rsA nfA nmA [] yX4_burn cX4_burn 1 (some .int) rm_X4_burn f_X4_burn := sorry
noncomputable def sX4_burn_0  (z : mm_S) : Option (Int32 × mm_S) := (sX4_become 2 0 z).bind fun q1 => some (q1.1, q1.2)
noncomputable def sX4_burn  (z : mm_S) : Option (Int32 × mm_S) := sX4_burn_0  z
theorem sp_X4_burn  (z : mm_S) (hk : ∀ v ∈ [mm_P 4 0], mm_ok 22 lyTM 22 17 v) (q : Int32 × mm_S) (hq : sX4_burn  z = some q) : f_X4_burn [mm_P 4 0] z (some (mm_I q.1), q.2) := sorry
noncomputable def sX4_firstWrong_61 (y1 : Int32) (z : mm_S) : Option ((Int32 × mm_S) ⊕ (Int32 × mm_S)) := some (.inl ((y1 + 1), z))
noncomputable def lX4_firstWrong_2 (s : Int32 × mm_S) : Option ((Int32 × mm_S) ⊕ (Int32 × mm_S)) := if (s.2.1 1 2) ≤ s.1 then some (.inr (s.1, s.2)) else if (73 + (3 * s.1)) < 0 ∨ 97 ≤ Int32.toNatClampNeg (73 + (3 * s.1)) then none else if ((73 + (3 * s.1)) + 1) < 0 ∨ 97 ≤ Int32.toNatClampNeg ((73 + (3 * s.1)) + 1) then none else (sX4_timeOf (s.2.1 1 (Int32.toNatClampNeg (73 + (3 * s.1)))) (s.2.1 1 (Int32.toNatClampNeg ((73 + (3 * s.1)) + 1))) s.2).bind fun q1 => if ((73 + (3 * s.1)) + 2) < 0 ∨ 97 ≤ Int32.toNatClampNeg ((73 + (3 * s.1)) + 2) then none else if (mm_min 99 q1.1) = (q1.2.1 1 (Int32.toNatClampNeg ((73 + (3 * s.1)) + 2))) then (sX4_firstWrong_61 s.1 q1.2) else some (.inr (s.1, q1.2))
noncomputable def sX4_firstWrong_2 (y1 : Int32) (z : mm_S) : Option (Int32 × mm_S) := mm_wh (lX4_firstWrong_2 ) mm_fu (y1, z)
noncomputable def sX4_firstWrong_0  (z : mm_S) : Option (Int32 × mm_S) := (sX4_firstWrong_2 0 z)
noncomputable def sX4_firstWrong  (z : mm_S) : Option (Int32 × mm_S) := sX4_firstWrong_0  z
noncomputable def clo_X4_firstWrong (as : List mm_V) (z : mm_S) (kk : Option mm_V → mm_S → Option mm_R) : Option mm_R := mm_pr as fun t o0 as => bif Nat.beq t 4 then (match as with | [] => (sX4_firstWrong z).bind fun q => kk (some (mm_I q.1)) q.2 | _ => none) else none
noncomputable def sX4_doesFit_13  (z : mm_S) : Option (Int32 × mm_S) := some (1, z)
noncomputable def sX4_doesFit_0  (z : mm_S) : Option (Int32 × mm_S) := (sX4_firstWrong  z).bind fun q1 => if q1.1 = (q1.2.1 1 2) then (sX4_doesFit_13 q1.2) else some (0, q1.2)
noncomputable def sX4_doesFit  (z : mm_S) : Option (Int32 × mm_S) := sX4_doesFit_0  z
noncomputable def clo_X4_doesFit (as : List mm_V) (z : mm_S) (kk : Option mm_V → mm_S → Option mm_R) : Option mm_R := mm_pr as fun t o0 as => bif Nat.beq t 4 then (match as with | [] => (sX4_doesFit z).bind fun q => kk (some (mm_I q.1)) q.2 | _ => none) else none
noncomputable def lV_X4_wrong : List (Nat × (List mm_V → mm_S → (Option mm_V → mm_S → Option mm_R) → Option mm_R)) := [(124, clo_X4_finding), (239, clo_X4_firstWrong), (243, clo_X4_doesFit)]
noncomputable def mV_X4_wrong (k : Nat) (as : List mm_V) (z : mm_S) (kk : Option mm_V → mm_S → Option mm_R) : Option mm_R := match mm_at lV_X4_wrong k with
  | some f => f as z kk
  | none => none
noncomputable def arV_X4_wrong (k : Nat) : Nat := (mm_at [(124, 2), (239, 1), (243, 1)] k).getD 0
noncomputable def lS_X4_wrong : List (Nat × (List mm_V → mm_S → (Option mm_V → mm_S → Option mm_R) → Option mm_R)) := []
noncomputable def mS_X4_wrong (k : Nat) (as : List mm_V) (z : mm_S) (kk : Option mm_V → mm_S → Option mm_R) : Option mm_R := match mm_at lS_X4_wrong k with
  | some f => f as z kk
  | none => none
noncomputable def arS_X4_wrong (k : Nat) : Nat := (mm_at [] k).getD 0
def ct_X4_wrong : List (Nat × List Nat) := [(7, [0]), (16, [0])]
noncomputable def go_X4_wrong : Nat → mm_K := mm_go (fun k => mm_at flX4 k) (fun k => mm_at clX4 k) (fun k => mm_at glX4 k) arV_X4_wrong arS_X4_wrong mV_X4_wrong mS_X4_wrong lenM roM snM 1 0 tbX4_wrong ct_X4_wrong
def rm_X4_wrong : Room := { frames := 6, cells := 0, slots := 0, locals := 136 }
noncomputable def f_X4_wrong (as : List mm_V) (z : mm_S) (o : mm_R) : Prop := (as.map mm_cat).sum ≤ 1 ∧ ∃ n, go_X4_wrong n 0 (mm_ar 0 as) [] z = some o
theorem M_X4_wrong : mm_M lyTM lyFA lenM snM 22 22 17 roM rsA nfA nmA [] yX4_wrong cX4_wrong 1 (some .int) rm_X4_wrong f_X4_wrong := sorry
noncomputable def sX4_wrong_7  (z : mm_S) : Option (Int32 × mm_S) := (sX4_finding (-1000004) z).bind fun q3 => some (q3.1, q3.2)
noncomputable def sX4_wrong_16  (z : mm_S) : Option (Int32 × mm_S) := (sX4_firstWrong  z).bind fun q2 => some (q2.1, q2.2)
noncomputable def sX4_wrong_0  (z : mm_S) : Option (Int32 × mm_S) := (sX4_doesFit  z).bind fun q1 => if q1.1 = 0 then (sX4_wrong_16 q1.2) else (sX4_wrong_7 q1.2)
noncomputable def sX4_wrong  (z : mm_S) : Option (Int32 × mm_S) := sX4_wrong_0  z
theorem sp_X4_wrong  (z : mm_S) (hk : ∀ v ∈ [mm_P 4 0], mm_ok 22 lyTM 22 17 v) (q : Int32 × mm_S) (hq : sX4_wrong  z = some q) : f_X4_wrong [mm_P 4 0] z (some (mm_I q.1), q.2) := sorry
noncomputable def lX4_maps_4 (s : Int32 × Int32 × mm_S) : Option ((Int32 × Int32 × mm_S) ⊕ (Int32 × mm_S)) := if (s.2.2.1 1 3) ≤ s.2.1 then some (.inr (s.1, s.2.2)) else some (.inl ((s.1 * 5), (s.2.1 + 1), s.2.2))
noncomputable def sX4_maps_4 (y1 : Int32) (y2 : Int32) (z : mm_S) : Option (Int32 × mm_S) := mm_wh (lX4_maps_4 ) mm_fu (y1, y2, z)
noncomputable def sX4_maps_0  (z : mm_S) : Option (Int32 × mm_S) := (sX4_maps_4 1 0 z)
noncomputable def sX4_maps  (z : mm_S) : Option (Int32 × mm_S) := sX4_maps_0  z
noncomputable def clo_X4_maps (as : List mm_V) (z : mm_S) (kk : Option mm_V → mm_S → Option mm_R) : Option mm_R := mm_pr as fun t o0 as => bif Nat.beq t 4 then (match as with | [] => (sX4_maps z).bind fun q => kk (some (mm_I q.1)) q.2 | _ => none) else none
noncomputable def lX4_mapNow_11 (s : Int32 × Int32 × mm_S) : Option ((Int32 × Int32 × mm_S) ⊕ (Int32 × mm_S)) := if s.2.1 < 0 then some (.inr (s.1, s.2.2)) else if (69 + s.2.1) < 0 ∨ 97 ≤ Int32.toNatClampNeg (69 + s.2.1) then none else (sX4_stuffIs (s.2.2.1 1 (Int32.toNatClampNeg (69 + s.2.1))) s.2.2).bind fun q1 => let v2 : Int32 := (s.2.1 + (-1)); some (.inl (((5 * s.1) + q1.1), v2, q1.2))
noncomputable def sX4_mapNow_11 (y1 : Int32) (y2 : Int32) (z : mm_S) : Option (Int32 × mm_S) := mm_wh (lX4_mapNow_11 ) mm_fu (y1, y2, z)
noncomputable def sX4_mapNow_0  (z : mm_S) : Option (Int32 × mm_S) := (sX4_mapNow_11 0 ((z.1 1 3) - 1) z)
noncomputable def sX4_mapNow  (z : mm_S) : Option (Int32 × mm_S) := sX4_mapNow_0  z
noncomputable def clo_X4_mapNow (as : List mm_V) (z : mm_S) (kk : Option mm_V → mm_S → Option mm_R) : Option mm_R := mm_pr as fun t o0 as => bif Nat.beq t 4 then (match as with | [] => (sX4_mapNow z).bind fun q => kk (some (mm_I q.1)) q.2 | _ => none) else none
noncomputable def sX4_lay_34 (y2 : Int32) (y3 : Int32) (z : mm_S) : Option ((Int32 × Int32 × mm_S) ⊕ (mm_S)) := some (.inl ((y2 / 5), (y3 + 1), z))
noncomputable def lX4_lay_4 (s : Int32 × Int32 × mm_S) : Option ((Int32 × Int32 × mm_S) ⊕ (mm_S)) := if (s.2.2.1 1 3) ≤ s.2.1 then some (.inr (s.2.2)) else if (69 + s.2.1) < 0 ∨ 97 ≤ Int32.toNatClampNeg (69 + s.2.1) then none else if (15 + (s.2.2.1 1 (Int32.toNatClampNeg (69 + s.2.1)))) < 0 ∨ 97 ≤ Int32.toNatClampNeg (15 + (s.2.2.1 1 (Int32.toNatClampNeg (69 + s.2.1)))) then none else let u1 : mm_S := ((mm_ui s.2.2.1 1 (Int32.toNatClampNeg (15 + (s.2.2.1 1 (Int32.toNatClampNeg (69 + s.2.1))))) (s.1 - s.1 / 5 * 5)), s.2.2.2); (sX4_lay_34 s.1 s.2.1 u1)
noncomputable def sX4_lay_4 (y2 : Int32) (y3 : Int32) (z : mm_S) : Option (mm_S) := mm_wh (lX4_lay_4 ) mm_fu (y2, y3, z)
noncomputable def sX4_lay_0 (x1 : Int32) (z : mm_S) : Option (mm_S) := (sX4_lay_4 x1 0 z)
noncomputable def sX4_lay (x1 : Int32) (z : mm_S) : Option (mm_S) := sX4_lay_0 x1 z
noncomputable def clo_X4_lay (as : List mm_V) (z : mm_S) (kk : Option mm_V → mm_S → Option mm_R) : Option mm_R := mm_pr as fun t o0 as => bif Nat.beq t 4 then mm_pi as fun a1 as => (match as with | [] => (sX4_lay a1 z).bind fun q => kk none q | _ => none) else none
noncomputable def sX4_nextFit_26 (y2 : Int32) (y3 : Int32) (z : mm_S) : Option ((Int32 × Int32 × mm_S) ⊕ (Int32 × mm_S)) := if y3 = 0 then some (.inl ((y2 + 1), y3, z)) else some (.inl ((y2 + 0), y3, z))
noncomputable def sX4_nextFit_21 (y2 : Int32) (z : mm_S) : Option ((Int32 × Int32 × mm_S) ⊕ (Int32 × mm_S)) := (sX4_doesFit  z).bind fun q3 => (sX4_nextFit_26 y2 q3.1 q3.2)
noncomputable def sX4_nextFit_12 (y2 : Int32) (y3 : Int32) (z : mm_S) : Option ((Int32 × Int32 × mm_S) ⊕ (Int32 × mm_S)) := if y3 = 0 then (sX4_lay y2 z).bind fun q2 => (sX4_nextFit_21 y2 q2) else some (.inr (y2, z))
noncomputable def lX4_nextFit_4 (s : Int32 × Int32 × mm_S) : Option ((Int32 × Int32 × mm_S) ⊕ (Int32 × mm_S)) := (sX4_maps  s.2.2).bind fun q1 => if q1.1 ≤ s.1 then some (.inr (s.1, q1.2)) else (sX4_nextFit_12 s.1 s.2.1 q1.2)
noncomputable def sX4_nextFit_4 (y2 : Int32) (y3 : Int32) (z : mm_S) : Option (Int32 × mm_S) := mm_wh (lX4_nextFit_4 ) mm_fu (y2, y3, z)
noncomputable def sX4_nextFit_0 (x1 : Int32) (z : mm_S) : Option (Int32 × mm_S) := (sX4_nextFit_4 x1 0 z)
noncomputable def sX4_nextFit (x1 : Int32) (z : mm_S) : Option (Int32 × mm_S) := sX4_nextFit_0 x1 z
noncomputable def sX4_goThrough_41 (y1 : Int32) (y2 : Int32) (y3 : Int32) (z : mm_S) : Option ((Int32 × Int32 × Int32 × mm_S) ⊕ (mm_S)) := some (.inl (y1, y2, (y3 + 1), z))
noncomputable def sX4_goThrough_164 (y1 : Int32) (y2 : Int32) (y3 : Int32) (y4 : Int32) (y5 : Int32) (y6 : Int32) (z : mm_S) : Option ((Int32 × Int32 × Int32 × Int32 × Int32 × Int32 × mm_S) ⊕ ((Int32 × Int32 × Int32 × mm_S) ⊕ (mm_S))) := some (.inl (y1, y2, y3, y4, (y5 / 5), (y6 + 1), z))
noncomputable def sX4_goThrough_131 (y1 : Int32) (y2 : Int32) (y3 : Int32) (y4 : Int32) (y5 : Int32) (y6 : Int32) (y7 : Int32) (z : mm_S) : Option ((Int32 × Int32 × Int32 × Int32 × Int32 × Int32 × mm_S) ⊕ ((Int32 × Int32 × Int32 × mm_S) ⊕ (mm_S))) := if y7 = (y5 - y5 / 5 * 5) then if y6 < 0 ∨ 4 ≤ Int32.toNatClampNeg y6 then none else if y6 < 0 ∨ 4 ≤ Int32.toNatClampNeg y6 then none else let u9 : mm_S := ((mm_ui z.1 10 (Int32.toNatClampNeg y6) ((z.1 10 (Int32.toNatClampNeg y6)) ||| (1 <<< (y7 &&& 31)))), z.2); (sX4_goThrough_164 y1 y2 y3 (y4 + 0) y5 y6 u9) else if y6 < 0 ∨ 4 ≤ Int32.toNatClampNeg y6 then none else if y6 < 0 ∨ 4 ≤ Int32.toNatClampNeg y6 then none else let u8 : mm_S := ((mm_ui z.1 10 (Int32.toNatClampNeg y6) ((z.1 10 (Int32.toNatClampNeg y6)) ||| (1 <<< (y7 &&& 31)))), z.2); (sX4_goThrough_164 y1 y2 y3 (y4 + 1) y5 y6 u8)
noncomputable def sX4_goThrough_205 (y1 : Int32) (y2 : Int32) (y3 : Int32) (z : mm_S) : Option ((Int32 × Int32 × Int32 × mm_S) ⊕ (mm_S)) := some (.inl (y1, y2, y3, z))
noncomputable def sX4_goThrough_194 (y1 : Int32) (y3 : Int32) (y4 : Int32) (z : mm_S) : Option ((Int32 × Int32 × Int32 × mm_S) ⊕ (mm_S)) := (sX4_nextFit (y3 + 1) z).bind fun q7 => (sX4_goThrough_205 y1 y4 q7.1 q7.2)
noncomputable def lX4_goThrough_104 (s : Int32 × Int32 × Int32 × Int32 × Int32 × Int32 × mm_S) : Option ((Int32 × Int32 × Int32 × Int32 × Int32 × Int32 × mm_S) ⊕ ((Int32 × Int32 × Int32 × mm_S) ⊕ (mm_S))) := if (s.2.2.2.2.2.2.1 1 3) ≤ s.2.2.2.2.2.1 then if (s.2.2.2.2.2.2.1 0 12) < 0 then ((sX4_goThrough_194 s.1 s.2.2.1 s.2.2.2.1 ((mm_ui s.2.2.2.2.2.2.1 0 12 s.2.2.1), s.2.2.2.2.2.2.2)).map fun w => (Sum.inr w)) else if s.2.1 ≤ s.2.2.2.1 then (sX4_nextFit (s.2.2.1 + 1) s.2.2.2.2.2.2).bind fun q5 => ((sX4_goThrough_205 s.1 s.2.1 q5.1 q5.2).map fun w => (Sum.inr w)) else ((sX4_goThrough_194 s.1 s.2.2.1 s.2.2.2.1 ((mm_ui s.2.2.2.2.2.2.1 0 12 s.2.2.1), s.2.2.2.2.2.2.2)).map fun w => (Sum.inr w)) else if (69 + s.2.2.2.2.2.1) < 0 ∨ 97 ≤ Int32.toNatClampNeg (69 + s.2.2.2.2.2.1) then none else (sX4_stuffIs (s.2.2.2.2.2.2.1 1 (Int32.toNatClampNeg (69 + s.2.2.2.2.2.1))) s.2.2.2.2.2.2).bind fun q6 => (sX4_goThrough_131 s.1 s.2.1 s.2.2.1 s.2.2.2.1 s.2.2.2.2.1 s.2.2.2.2.2.1 q6.1 q6.2)
noncomputable def sX4_goThrough_104 (y1 : Int32) (y2 : Int32) (y3 : Int32) (y4 : Int32) (y5 : Int32) (y6 : Int32) (z : mm_S) : Option ((Int32 × Int32 × Int32 × mm_S) ⊕ (mm_S)) := mm_wh (lX4_goThrough_104 ) mm_fu (y1, y2, y3, y4, y5, y6, z)
noncomputable def sX4_goThrough_95 (y1 : Int32) (y2 : Int32) (y3 : Int32) (z : mm_S) : Option ((Int32 × Int32 × Int32 × mm_S) ⊕ (mm_S)) := (sX4_goThrough_104 y1 y2 y3 0 y1 0 z)
noncomputable def sX4_goThrough_90 (y1 : Int32) (y2 : Int32) (y3 : Int32) (z : mm_S) : Option ((Int32 × Int32 × Int32 × mm_S) ⊕ (mm_S)) := (sX4_goThrough_95 y1 y2 y3 ((mm_ui z.1 0 13 y3), z.2))
noncomputable def sX4_goThrough_71 (y1 : Int32) (y2 : Int32) (y3 : Int32) (z : mm_S) : Option ((Int32 × Int32 × Int32 × mm_S) ⊕ (mm_S)) := if 0 ≤ (z.1 0 11) then (sX4_goThrough_90 y1 y2 y3 ((mm_ui z.1 0 11 (z.1 0 11)), z.2)) else (sX4_goThrough_90 y1 y2 y3 ((mm_ui z.1 0 11 y3), z.2))
noncomputable def sX4_goThrough_61 (y1 : Int32) (y2 : Int32) (y3 : Int32) (z : mm_S) : Option ((Int32 × Int32 × Int32 × mm_S) ⊕ (mm_S)) := (sX4_goThrough_71 y1 y2 y3 ((mm_ui z.1 0 10 ((z.1 0 10) + 1)), z.2))
noncomputable def sX4_goThrough_213  (z : mm_S) : Option (mm_S) := some (z)
noncomputable def lX4_goThrough_53 (s : Int32 × Int32 × Int32 × mm_S) : Option ((Int32 × Int32 × Int32 × mm_S) ⊕ (mm_S)) := (sX4_maps  s.2.2.2).bind fun q3 => if q3.1 ≤ s.2.2.1 then (sX4_lay s.1 q3.2).bind fun q4 => ((sX4_goThrough_213 q4).map fun w => (Sum.inr w)) else (sX4_goThrough_61 s.1 s.2.1 s.2.2.1 q3.2)
noncomputable def sX4_goThrough_53 (y1 : Int32) (y2 : Int32) (y3 : Int32) (z : mm_S) : Option (mm_S) := mm_wh (lX4_goThrough_53 ) mm_fu (y1, y2, y3, z)
noncomputable def lX4_goThrough_29 (s : Int32 × Int32 × Int32 × mm_S) : Option ((Int32 × Int32 × Int32 × mm_S) ⊕ (mm_S)) := if 4 ≤ s.2.2.1 then (sX4_nextFit 0 s.2.2.2).bind fun q2 => ((sX4_goThrough_53 s.1 s.2.1 q2.1 q2.2).map fun w => (Sum.inr w)) else if s.2.2.1 < 0 ∨ 4 ≤ Int32.toNatClampNeg s.2.2.1 then none else (sX4_goThrough_41 s.1 s.2.1 s.2.2.1 ((mm_ui s.2.2.2.1 10 (Int32.toNatClampNeg s.2.2.1) 0), s.2.2.2.2))
noncomputable def sX4_goThrough_29 (y1 : Int32) (y2 : Int32) (y3 : Int32) (z : mm_S) : Option (mm_S) := mm_wh (lX4_goThrough_29 ) mm_fu (y1, y2, y3, z)
noncomputable def sX4_goThrough_25 (y1 : Int32) (z : mm_S) : Option (mm_S) := (sX4_goThrough_29 y1 0 0 z)
noncomputable def sX4_goThrough_20 (y1 : Int32) (z : mm_S) : Option (mm_S) := (sX4_goThrough_25 y1 ((mm_ui z.1 0 13 (-1)), z.2))
noncomputable def sX4_goThrough_15 (y1 : Int32) (z : mm_S) : Option (mm_S) := (sX4_goThrough_20 y1 ((mm_ui z.1 0 12 (-1)), z.2))
noncomputable def sX4_goThrough_10 (y1 : Int32) (z : mm_S) : Option (mm_S) := (sX4_goThrough_15 y1 ((mm_ui z.1 0 11 (-1)), z.2))
noncomputable def sX4_goThrough_5 (y1 : Int32) (z : mm_S) : Option (mm_S) := (sX4_goThrough_10 y1 ((mm_ui z.1 0 10 0), z.2))
noncomputable def sX4_goThrough_0  (z : mm_S) : Option (mm_S) := (sX4_mapNow  z).bind fun q1 => (sX4_goThrough_5 q1.1 q1.2)
noncomputable def sX4_goThrough  (z : mm_S) : Option (mm_S) := sX4_goThrough_0  z
noncomputable def clo_X4_goThrough (as : List mm_V) (z : mm_S) (kk : Option mm_V → mm_S → Option mm_R) : Option mm_R := mm_pr as fun t o0 as => bif Nat.beq t 4 then (match as with | [] => (sX4_goThrough z).bind fun q => kk none q | _ => none) else none
noncomputable def lV_X4_fits : List (Nat × (List mm_V → mm_S → (Option mm_V → mm_S → Option mm_R) → Option mm_R)) := [(273, clo_X4_goThrough)]
noncomputable def mV_X4_fits (k : Nat) (as : List mm_V) (z : mm_S) (kk : Option mm_V → mm_S → Option mm_R) : Option mm_R := match mm_at lV_X4_fits k with
  | some f => f as z kk
  | none => none
noncomputable def arV_X4_fits (k : Nat) : Nat := (mm_at [(273, 1)] k).getD 0
noncomputable def lS_X4_fits : List (Nat × (List mm_V → mm_S → (Option mm_V → mm_S → Option mm_R) → Option mm_R)) := []
noncomputable def mS_X4_fits (k : Nat) (as : List mm_V) (z : mm_S) (kk : Option mm_V → mm_S → Option mm_R) : Option mm_R := match mm_at lS_X4_fits k with
  | some f => f as z kk
  | none => none
noncomputable def arS_X4_fits (k : Nat) : Nat := (mm_at [] k).getD 0
def ct_X4_fits : List (Nat × List Nat) := [(4, [0])]
noncomputable def go_X4_fits : Nat → mm_K := mm_go (fun k => mm_at flX4 k) (fun k => mm_at clX4 k) (fun k => mm_at glX4 k) arV_X4_fits arS_X4_fits mV_X4_fits mS_X4_fits lenM roM snM 1 0 tbX4_fits ct_X4_fits
def rm_X4_fits : Room := { frames := 8, cells := 0, slots := 0, locals := 186 }
noncomputable def f_X4_fits (as : List mm_V) (z : mm_S) (o : mm_R) : Prop := (as.map mm_cat).sum ≤ 1 ∧ ∃ n, go_X4_fits n 0 (mm_ar 0 as) [] z = some o
theorem M_X4_fits : mm_M lyTM lyFA lenM snM 22 22 17 roM rsA nfA nmA [] yX4_fits cX4_fits 1 (some .int) rm_X4_fits f_X4_fits := sorry
noncomputable def sX4_fits_4  (z : mm_S) : Option (Int32 × mm_S) := some ((z.1 0 10), z)
noncomputable def sX4_fits_0  (z : mm_S) : Option (Int32 × mm_S) := (sX4_goThrough  z).bind fun q1 => (sX4_fits_4 q1)
noncomputable def sX4_fits  (z : mm_S) : Option (Int32 × mm_S) := sX4_fits_0  z
theorem sp_X4_fits  (z : mm_S) (hk : ∀ v ∈ [mm_P 4 0], mm_ok 22 lyTM 22 17 v) (q : Int32 × mm_S) (hq : sX4_fits  z = some q) : f_X4_fits [mm_P 4 0] z (some (mm_I q.1), q.2) := sorry
noncomputable def lV_X4_map : List (Nat × (List mm_V → mm_S → (Option mm_V → mm_S → Option mm_R) → Option mm_R)) := [(124, clo_X4_finding), (189, clo_X4_told), (273, clo_X4_goThrough)]
noncomputable def mV_X4_map (k : Nat) (as : List mm_V) (z : mm_S) (kk : Option mm_V → mm_S → Option mm_R) : Option mm_R := match mm_at lV_X4_map k with
  | some f => f as z kk
  | none => none
noncomputable def arV_X4_map (k : Nat) : Nat := (mm_at [(124, 2), (189, 2), (273, 1)] k).getD 0
noncomputable def lS_X4_map : List (Nat × (List mm_V → mm_S → (Option mm_V → mm_S → Option mm_R) → Option mm_R)) := [(106, clo_X4_within)]
noncomputable def mS_X4_map (k : Nat) (as : List mm_V) (z : mm_S) (kk : Option mm_V → mm_S → Option mm_R) : Option mm_R := match mm_at lS_X4_map k with
  | some f => f as z kk
  | none => none
noncomputable def arS_X4_map (k : Nat) : Nat := (mm_at [(106, 3)] k).getD 0
def ct_X4_map : List (Nat × List Nat) := [(16, [0, 1]), (20, [0, 1])]
noncomputable def go_X4_map : Nat → mm_K := mm_go (fun k => mm_at flX4 k) (fun k => mm_at clX4 k) (fun k => mm_at glX4 k) arV_X4_map arS_X4_map mV_X4_map mS_X4_map lenM roM snM 2 0 tbX4_map ct_X4_map
def rm_X4_map : Room := { frames := 8, cells := 0, slots := 0, locals := 186 }
noncomputable def f_X4_map (as : List mm_V) (z : mm_S) (o : mm_R) : Prop := (as.map mm_cat).sum ≤ 2 ∧ ∃ n, go_X4_map n 0 (mm_ar 0 as) [] z = some o
theorem M_X4_map : mm_M lyTM lyFA lenM snM 22 22 17 roM rsA nfA nmA [] yX4_map cX4_map 2 (some .int) rm_X4_map f_X4_map := sorry
noncomputable def sX4_map_20 (y1 : Int32) (z : mm_S) : Option (Int32 × mm_S) := if y1 = 0 then (sX4_told (z.1 0 11) z).bind fun q5 => some (q5.1, q5.2) else if y1 = 1 then (sX4_told (z.1 0 12) z).bind fun q4 => some (q4.1, q4.2) else (sX4_told (z.1 0 13) z).bind fun q3 => some (q3.1, q3.2)
noncomputable def sX4_map_16 (y1 : Int32) (z : mm_S) : Option (Int32 × mm_S) := (sX4_goThrough  z).bind fun q2 => (sX4_map_20 y1 q2)
noncomputable def sX4_map_0 (x1 : Int32) (z : mm_S) : Option (Int32 × mm_S) := if (pX4_within x1 0 2) = 0 then (sX4_finding (-1000001) z).bind fun q1 => some (q1.1, q1.2) else (sX4_map_16 x1 z)
noncomputable def sX4_map (x1 : Int32) (z : mm_S) : Option (Int32 × mm_S) := sX4_map_0 x1 z
theorem sp_X4_map (x1 : Int32) (z : mm_S) (hk : ∀ v ∈ [mm_P 4 0, mm_I x1], mm_ok 22 lyTM 22 17 v) (q : Int32 × mm_S) (hq : sX4_map x1 z = some q) : f_X4_map [mm_P 4 0, mm_I x1] z (some (mm_I q.1), q.2) := sorry
noncomputable def lV_X4_may : List (Nat × (List mm_V → mm_S → (Option mm_V → mm_S → Option mm_R) → Option mm_R)) := [(124, clo_X4_finding), (273, clo_X4_goThrough)]
noncomputable def mV_X4_may (k : Nat) (as : List mm_V) (z : mm_S) (kk : Option mm_V → mm_S → Option mm_R) : Option mm_R := match mm_at lV_X4_may k with
  | some f => f as z kk
  | none => none
noncomputable def arV_X4_may (k : Nat) : Nat := (mm_at [(124, 2), (273, 1)] k).getD 0
noncomputable def lS_X4_may : List (Nat × (List mm_V → mm_S → (Option mm_V → mm_S → Option mm_R) → Option mm_R)) := [(106, clo_X4_within)]
noncomputable def mS_X4_may (k : Nat) (as : List mm_V) (z : mm_S) (kk : Option mm_V → mm_S → Option mm_R) : Option mm_R := match mm_at lS_X4_may k with
  | some f => f as z kk
  | none => none
noncomputable def arS_X4_may (k : Nat) : Nat := (mm_at [(106, 3)] k).getD 0
def ct_X4_may : List (Nat × List Nat) := [(23, [0, 1]), (27, [0, 1])]
noncomputable def go_X4_may : Nat → mm_K := mm_go (fun k => mm_at flX4 k) (fun k => mm_at clX4 k) (fun k => mm_at glX4 k) arV_X4_may arS_X4_may mV_X4_may mS_X4_may lenM roM snM 2 0 tbX4_may ct_X4_may
def rm_X4_may : Room := { frames := 8, cells := 0, slots := 0, locals := 186 }
noncomputable def f_X4_may (as : List mm_V) (z : mm_S) (o : mm_R) : Prop := (as.map mm_cat).sum ≤ 2 ∧ ∃ n, go_X4_may n 0 (mm_ar 0 as) [] z = some o
theorem M_X4_may : mm_M lyTM lyFA lenM snM 22 22 17 roM rsA nfA nmA [] yX4_may cX4_may 2 (some .int) rm_X4_may f_X4_may := sorry
noncomputable def sX4_may_27 (y1 : Int32) (z : mm_S) : Option (Int32 × mm_S) := if y1 < 0 ∨ 4 ≤ Int32.toNatClampNeg y1 then none else some ((z.1 10 (Int32.toNatClampNeg y1)), z)
noncomputable def sX4_may_23 (y1 : Int32) (z : mm_S) : Option (Int32 × mm_S) := (sX4_goThrough  z).bind fun q2 => (sX4_may_27 y1 q2)
noncomputable def sX4_may_0 (x1 : Int32) (z : mm_S) : Option (Int32 × mm_S) := if (pX4_within x1 0 ((z.1 1 3) - 1)) = 0 then (sX4_finding (-1000001) z).bind fun q1 => some (q1.1, q1.2) else (sX4_may_23 x1 z)
noncomputable def sX4_may (x1 : Int32) (z : mm_S) : Option (Int32 × mm_S) := sX4_may_0 x1 z
theorem sp_X4_may (x1 : Int32) (z : mm_S) (hk : ∀ v ∈ [mm_P 4 0, mm_I x1], mm_ok 22 lyTM 22 17 v) (q : Int32 × mm_S) (hq : sX4_may x1 z = some q) : f_X4_may [mm_P 4 0, mm_I x1] z (some (mm_I q.1), q.2) := sorry
noncomputable def lV_X4_lays : List (Nat × (List mm_V → mm_S → (Option mm_V → mm_S → Option mm_R) → Option mm_R)) := [(124, clo_X4_finding), (247, clo_X4_maps), (250, clo_X4_lay), (254, clo_X4_mapNow)]
noncomputable def mV_X4_lays (k : Nat) (as : List mm_V) (z : mm_S) (kk : Option mm_V → mm_S → Option mm_R) : Option mm_R := match mm_at lV_X4_lays k with
  | some f => f as z kk
  | none => none
noncomputable def arV_X4_lays (k : Nat) : Nat := (mm_at [(124, 2), (247, 1), (250, 2), (254, 1)] k).getD 0
noncomputable def lS_X4_lays : List (Nat × (List mm_V → mm_S → (Option mm_V → mm_S → Option mm_R) → Option mm_R)) := [(106, clo_X4_within)]
noncomputable def mS_X4_lays (k : Nat) (as : List mm_V) (z : mm_S) (kk : Option mm_V → mm_S → Option mm_R) : Option mm_R := match mm_at lS_X4_lays k with
  | some f => f as z kk
  | none => none
noncomputable def arS_X4_lays (k : Nat) : Nat := (mm_at [(106, 3)] k).getD 0
def ct_X4_lays : List (Nat × List Nat) := [(14, [0]), (21, [0, 1]), (37, [0, 1]), (42, [0, 1, 2]), (47, [2])]
noncomputable def go_X4_lays : Nat → mm_K := mm_go (fun k => mm_at flX4 k) (fun k => mm_at clX4 k) (fun k => mm_at glX4 k) arV_X4_lays arS_X4_lays mV_X4_lays mS_X4_lays lenM roM snM 3 0 tbX4_lays ct_X4_lays
def rm_X4_lays : Room := { frames := 2, cells := 0, slots := 0, locals := 43 }
noncomputable def f_X4_lays (as : List mm_V) (z : mm_S) (o : mm_R) : Prop := (as.map mm_cat).sum ≤ 3 ∧ ∃ n, go_X4_lays n 0 (mm_ar 0 as) [] z = some o
theorem M_X4_lays : mm_M lyTM lyFA lenM snM 22 22 17 roM rsA nfA nmA [] yX4_lays cX4_lays 3 (some .int) rm_X4_lays f_X4_lays := sorry
noncomputable def sX4_lays_14  (z : mm_S) : Option (Int32 × mm_S) := (sX4_finding (-1000001) z).bind fun q3 => some (q3.1, q3.2)
noncomputable def sX4_lays_47 (y2 : Int32) (z : mm_S) : Option (Int32 × mm_S) := some (y2, z)
noncomputable def sX4_lays_42 (y1 : Int32) (y2 : Int32) (z : mm_S) : Option (Int32 × mm_S) := (sX4_lay y1 z).bind fun q5 => (sX4_lays_47 y2 q5)
noncomputable def sX4_lays_37 (y1 : Int32) (z : mm_S) : Option (Int32 × mm_S) := (sX4_mapNow  z).bind fun q4 => (sX4_lays_42 y1 q4.1 q4.2)
noncomputable def sX4_lays_21 (y1 : Int32) (z : mm_S) : Option (Int32 × mm_S) := if (z.1 1 3) = 0 then (sX4_finding (-1000005) z).bind fun q2 => some (q2.1, q2.2) else (sX4_lays_37 y1 z)
noncomputable def sX4_lays_0 (x1 : Int32) (z : mm_S) : Option (Int32 × mm_S) := (sX4_maps  z).bind fun q1 => if (pX4_within x1 0 (q1.1 - 1)) = 0 then (sX4_lays_14 q1.2) else (sX4_lays_21 x1 q1.2)
noncomputable def sX4_lays (x1 : Int32) (z : mm_S) : Option (Int32 × mm_S) := sX4_lays_0 x1 z
theorem sp_X4_lays (x1 : Int32) (z : mm_S) (hk : ∀ v ∈ [mm_P 4 0, mm_I x1], mm_ok 22 lyTM 22 17 v) (q : Int32 × mm_S) (hq : sX4_lays x1 z = some q) : f_X4_lays [mm_P 4 0, mm_I x1] z (some (mm_I q.1), q.2) := sorry
noncomputable def sX4_unlike_27 (y1 : Int32) (y2 : Int32) (y3 : Int32) (y4 : Int32) (y5 : Int32) (z : mm_S) : Option ((Int32 × Int32 × Int32 × Int32 × Int32 × mm_S) ⊕ (Int32 × mm_S)) := some (.inl (y1, y2, y3, y4, (y5 + 1), z))
noncomputable def sX4_unlike_106 (y1 : Int32) (y2 : Int32) (y3 : Int32) (y4 : Int32) (y5 : Int32) (z : mm_S) : Option ((Int32 × Int32 × Int32 × Int32 × Int32 × mm_S) ⊕ (Int32 × mm_S)) := some (.inl (y1, y2, y3, y4, y5, z))
noncomputable def sX4_unlike_96 (y1 : Int32) (y2 : Int32) (y3 : Int32) (y4 : Int32) (y5 : Int32) (z : mm_S) : Option ((Int32 × Int32 × Int32 × Int32 × Int32 × mm_S) ⊕ (Int32 × mm_S)) := (sX4_nextFit (y5 + 1) z).bind fun q7 => (sX4_unlike_106 y1 y2 y3 y4 q7.1 q7.2)
noncomputable def sX4_unlike_68 (y1 : Int32) (y2 : Int32) (y3 : Int32) (y4 : Int32) (y5 : Int32) (y6 : Int32) (z : mm_S) : Option ((Int32 × Int32 × Int32 × Int32 × Int32 × mm_S) ⊕ (Int32 × mm_S)) := if y6 < 0 ∨ 300 ≤ Int32.toNatClampNeg y6 then none else if (z.1 11 (Int32.toNatClampNeg y6)) = 0 then if y6 < 0 ∨ 300 ≤ Int32.toNatClampNeg y6 then none else (sX4_unlike_96 y1 y2 y3 (y4 + 1) y5 ((mm_ui z.1 11 (Int32.toNatClampNeg y6) 1), z.2)) else if y6 < 0 ∨ 300 ≤ Int32.toNatClampNeg y6 then none else (sX4_unlike_96 y1 y2 y3 (y4 + 0) y5 ((mm_ui z.1 11 (Int32.toNatClampNeg y6) 1), z.2))
noncomputable def sX4_unlike_49 (y1 : Int32) (y2 : Int32) (y3 : Int32) (y4 : Int32) (y5 : Int32) (z : mm_S) : Option ((Int32 × Int32 × Int32 × Int32 × Int32 × mm_S) ⊕ (Int32 × mm_S)) := (sX4_crewIs y1 1 z).bind fun q5 => (sX4_timeOf q5.1 y2 q5.2).bind fun q6 => (sX4_unlike_68 y1 y2 y3 y4 y5 (mm_min 299 q6.1) q6.2)
noncomputable def sX4_unlike_114 (y4 : Int32) (z : mm_S) : Option (Int32 × mm_S) := some (y4, z)
noncomputable def lX4_unlike_40 (s : Int32 × Int32 × Int32 × Int32 × Int32 × mm_S) : Option ((Int32 × Int32 × Int32 × Int32 × Int32 × mm_S) ⊕ (Int32 × mm_S)) := (sX4_maps  s.2.2.2.2.2).bind fun q3 => if q3.1 ≤ s.2.2.2.2.1 then (sX4_lay s.2.2.1 q3.2).bind fun q4 => ((sX4_unlike_114 s.2.2.2.1 q4).map fun w => (Sum.inr w)) else (sX4_unlike_49 s.1 s.2.1 s.2.2.1 s.2.2.2.1 s.2.2.2.2.1 q3.2)
noncomputable def sX4_unlike_40 (y1 : Int32) (y2 : Int32) (y3 : Int32) (y4 : Int32) (y5 : Int32) (z : mm_S) : Option (Int32 × mm_S) := mm_wh (lX4_unlike_40 ) mm_fu (y1, y2, y3, y4, y5, z)
noncomputable def lX4_unlike_11 (s : Int32 × Int32 × Int32 × Int32 × Int32 × mm_S) : Option ((Int32 × Int32 × Int32 × Int32 × Int32 × mm_S) ⊕ (Int32 × mm_S)) := if 300 ≤ s.2.2.2.2.1 then (sX4_nextFit 0 s.2.2.2.2.2).bind fun q2 => ((sX4_unlike_40 s.1 s.2.1 s.2.2.1 s.2.2.2.1 q2.1 q2.2).map fun w => (Sum.inr w)) else if s.2.2.2.2.1 < 0 ∨ 300 ≤ Int32.toNatClampNeg s.2.2.2.2.1 then none else (sX4_unlike_27 s.1 s.2.1 s.2.2.1 s.2.2.2.1 s.2.2.2.2.1 ((mm_ui s.2.2.2.2.2.1 11 (Int32.toNatClampNeg s.2.2.2.2.1) 0), s.2.2.2.2.2.2))
noncomputable def sX4_unlike_11 (y1 : Int32) (y2 : Int32) (y3 : Int32) (y4 : Int32) (y5 : Int32) (z : mm_S) : Option (Int32 × mm_S) := mm_wh (lX4_unlike_11 ) mm_fu (y1, y2, y3, y4, y5, z)
noncomputable def sX4_unlike_5 (y1 : Int32) (y2 : Int32) (y3 : Int32) (z : mm_S) : Option (Int32 × mm_S) := (sX4_unlike_11 y1 y2 y3 0 0 z)
noncomputable def sX4_unlike_0 (x1 : Int32) (x2 : Int32) (z : mm_S) : Option (Int32 × mm_S) := (sX4_mapNow  z).bind fun q1 => (sX4_unlike_5 x1 x2 q1.1 q1.2)
noncomputable def sX4_unlike (x1 : Int32) (x2 : Int32) (z : mm_S) : Option (Int32 × mm_S) := sX4_unlike_0 x1 x2 z
noncomputable def clo_X4_unlike (as : List mm_V) (z : mm_S) (kk : Option mm_V → mm_S → Option mm_R) : Option mm_R := mm_pr as fun t o0 as => bif Nat.beq t 4 then mm_pi as fun a1 as => mm_pi as fun a2 as => (match as with | [] => (sX4_unlike a1 a2 z).bind fun q => kk (some (mm_I q.1)) q.2 | _ => none) else none
noncomputable def lV_X4_asks : List (Nat × (List mm_V → mm_S → (Option mm_V → mm_S → Option mm_R) → Option mm_R)) := [(124, clo_X4_finding), (189, clo_X4_told), (276, clo_X4_unlike)]
noncomputable def mV_X4_asks (k : Nat) (as : List mm_V) (z : mm_S) (kk : Option mm_V → mm_S → Option mm_R) : Option mm_R := match mm_at lV_X4_asks k with
  | some f => f as z kk
  | none => none
noncomputable def arV_X4_asks (k : Nat) : Nat := (mm_at [(124, 2), (189, 2), (276, 3)] k).getD 0
noncomputable def lS_X4_asks : List (Nat × (List mm_V → mm_S → (Option mm_V → mm_S → Option mm_R) → Option mm_R)) := [(114, clo_X4_isCell), (226, mm_mx)]
noncomputable def mS_X4_asks (k : Nat) (as : List mm_V) (z : mm_S) (kk : Option mm_V → mm_S → Option mm_R) : Option mm_R := match mm_at lS_X4_asks k with
  | some f => f as z kk
  | none => none
noncomputable def arS_X4_asks (k : Nat) : Nat := (mm_at [(114, 1), (226, 2)] k).getD 0
def ct_X4_asks : List (Nat × List Nat) := [(14, [0, 1]), (21, [0, 1, 2, 3, 4]), (41, [0, 1, 2, 3, 4, 5])]
noncomputable def go_X4_asks : Nat → mm_K := mm_go (fun k => mm_at flX4 k) (fun k => mm_at clX4 k) (fun k => mm_at glX4 k) arV_X4_asks arS_X4_asks mV_X4_asks mS_X4_asks lenM roM snM 6 0 tbX4_asks ct_X4_asks
def rm_X4_asks : Room := { frames := 8, cells := 0, slots := 0, locals := 185 }
noncomputable def f_X4_asks (as : List mm_V) (z : mm_S) (o : mm_R) : Prop := (as.map mm_cat).sum ≤ 6 ∧ ∃ n, go_X4_asks n 0 (mm_ar 0 as) [] z = some o
theorem M_X4_asks : mm_M lyTM lyFA lenM snM 22 22 17 roM rsA nfA nmA [] yX4_asks cX4_asks 6 (some .int) rm_X4_asks f_X4_asks := sorry
noncomputable def sX4_asks_41 (y1 : Int32) (y2 : Int32) (y3 : Int32) (y4 : Int32) (y5 : Int32) (z : mm_S) : Option ((Int32 × Int32 × Int32 × Int32 × mm_S) ⊕ (Int32 × mm_S)) := if y5 ≤ y3 then some (.inl (y1, y2, (mm_max y3 y5), (y4 + 1), z)) else some (.inl (y1, y4, (mm_max y3 y5), (y4 + 1), z))
noncomputable def lX4_asks_21 (s : Int32 × Int32 × Int32 × Int32 × mm_S) : Option ((Int32 × Int32 × Int32 × Int32 × mm_S) ⊕ (Int32 × mm_S)) := if (s.2.2.2.2.1 1 1) ≤ s.2.2.2.1 then (sX4_told s.2.1 s.2.2.2.2).bind fun q2 => some (.inr (q2.1, q2.2)) else (sX4_unlike s.2.2.2.1 s.1 s.2.2.2.2).bind fun q3 => (sX4_asks_41 s.1 s.2.1 s.2.2.1 s.2.2.2.1 q3.1 q3.2)
noncomputable def sX4_asks_21 (y1 : Int32) (y2 : Int32) (y3 : Int32) (y4 : Int32) (z : mm_S) : Option (Int32 × mm_S) := mm_wh (lX4_asks_21 ) mm_fu (y1, y2, y3, y4, z)
noncomputable def sX4_asks_14 (y1 : Int32) (z : mm_S) : Option (Int32 × mm_S) := (sX4_asks_21 y1 (-1) 0 0 z)
noncomputable def sX4_asks_0 (x1 : Int32) (z : mm_S) : Option (Int32 × mm_S) := if (pX4_isCell x1) = 0 then (sX4_finding (-1000001) z).bind fun q1 => some (q1.1, q1.2) else (sX4_asks_14 x1 z)
noncomputable def sX4_asks (x1 : Int32) (z : mm_S) : Option (Int32 × mm_S) := sX4_asks_0 x1 z
theorem sp_X4_asks (x1 : Int32) (z : mm_S) (hk : ∀ v ∈ [mm_P 4 0, mm_I x1], mm_ok 22 lyTM 22 17 v) (q : Int32 × mm_S) (hq : sX4_asks x1 z = some q) : f_X4_asks [mm_P 4 0, mm_I x1] z (some (mm_I q.1), q.2) := sorry
noncomputable def sX4_dryNow_63 (y1 : Int64) (y3 : Int32) (y5 : Int32) (z : mm_S) : Option ((Int64 × Int32 × Int32 × Int32 × mm_S) ⊕ ((Int64 × Int32 × mm_S) ⊕ (Int64 × mm_S))) := some (.inl (y1, y3, 1, (y5 + 1), z))
noncomputable def lX4_dryNow_29 (s : Int64 × Int32 × Int32 × Int32 × mm_S) : Option ((Int64 × Int32 × Int32 × Int32 × mm_S) ⊕ ((Int64 × Int32 × mm_S) ⊕ (Int64 × mm_S))) := if 4 ≤ s.2.2.2.1 then if s.2.2.1 = 0 then some (.inr (.inl ((s.1 ||| 0), (s.2.1 + 1), s.2.2.2.2))) else let v2 : Int64 := (s.1 ||| (1 <<< (Int32.toInt64 s.2.1 &&& 63))); some (.inr (.inl (v2, (s.2.1 + 1), s.2.2.2.2))) else if s.2.2.1 = 0 then some (.inl (s.1, s.2.1, 0, (s.2.2.2.1 + 1), s.2.2.2.2)) else if (pX4_beside s.2.1 s.2.2.2.1 s.2.2.2.2) < 0 then (sX4_dryNow_63 s.1 s.2.1 s.2.2.2.1 s.2.2.2.2) else (sX4_stuffIs (pX4_beside s.2.1 s.2.2.2.1 s.2.2.2.2) s.2.2.2.2).bind fun q3 => if q3.1 = 3 then some (.inl (s.1, s.2.1, 0, (s.2.2.2.1 + 1), q3.2)) else (sX4_dryNow_63 s.1 s.2.1 s.2.2.2.1 q3.2)
noncomputable def sX4_dryNow_29 (y1 : Int64) (y3 : Int32) (y4 : Int32) (y5 : Int32) (z : mm_S) : Option ((Int64 × Int32 × mm_S) ⊕ (Int64 × mm_S)) := mm_wh (lX4_dryNow_29 ) mm_fu (y1, y3, y4, y5, z)
noncomputable def sX4_dryNow_19 (y1 : Int64) (y3 : Int32) (z : mm_S) : Option ((Int64 × Int32 × mm_S) ⊕ (Int64 × mm_S)) := (sX4_dryNow_29 y1 y3 1 0 z)
noncomputable def lX4_dryNow_4 (s : Int64 × Int32 × mm_S) : Option ((Int64 × Int32 × mm_S) ⊕ (Int64 × mm_S)) := if 36 ≤ s.2.1 then some (.inr (s.1, s.2.2)) else (sX4_stuffIs s.2.1 s.2.2).bind fun q1 => if q1.1 = 3 then (sX4_dryNow_29 s.1 s.2.1 0 0 q1.2) else (sX4_dryNow_19 s.1 s.2.1 q1.2)
noncomputable def sX4_dryNow_4 (y1 : Int64) (y3 : Int32) (z : mm_S) : Option (Int64 × mm_S) := mm_wh (lX4_dryNow_4 ) mm_fu (y1, y3, z)
noncomputable def sX4_dryNow_0  (z : mm_S) : Option (Int64 × mm_S) := (sX4_dryNow_4 0 0 z)
noncomputable def sX4_dryNow  (z : mm_S) : Option (Int64 × mm_S) := sX4_dryNow_0  z
noncomputable def clo_X4_dryNow (as : List mm_V) (z : mm_S) (kk : Option mm_V → mm_S → Option mm_R) : Option mm_R := mm_pr as fun t o0 as => bif Nat.beq t 4 then (match as with | [] => (sX4_dryNow z).bind fun q => kk (some (mm_J q.1)) q.2 | _ => none) else none
noncomputable def sX4_dryInAll_49 (y1 : Int32) (y2 : Int64) (y4 : Int32) (y5 : Int32) (z : mm_S) : Option ((Int32 × Int64 × Int32 × Int32 × mm_S) ⊕ (Int64 × mm_S)) := some (.inl (y1, y2, y4, y5, z))
noncomputable def sX4_dryInAll_36 (y1 : Int32) (y2 : Int64) (y5 : Int32) (z : mm_S) : Option ((Int32 × Int64 × Int32 × Int32 × mm_S) ⊕ (Int64 × mm_S)) := (sX4_nextFit (y5 + 1) z).bind fun q7 => (sX4_dryInAll_49 y1 y2 1 q7.1 q7.2)
noncomputable def sX4_dryInAll_29 (y1 : Int32) (y2 : Int64) (y5 : Int32) (z : mm_S) : Option ((Int32 × Int64 × Int32 × Int32 × mm_S) ⊕ (Int64 × mm_S)) := (sX4_dryNow  z).bind fun q6 => (sX4_dryInAll_36 y1 (y2 &&& q6.1) y5 q6.2)
noncomputable def sX4_dryInAll_57 (y2 : Int64) (y4 : Int32) (z : mm_S) : Option (Int64 × mm_S) := if y4 = 0 then some (0, z) else some (y2, z)
noncomputable def lX4_dryInAll_20 (s : Int32 × Int64 × Int32 × Int32 × mm_S) : Option ((Int32 × Int64 × Int32 × Int32 × mm_S) ⊕ (Int64 × mm_S)) := (sX4_maps  s.2.2.2.2).bind fun q4 => if q4.1 ≤ s.2.2.2.1 then (sX4_lay s.1 q4.2).bind fun q5 => ((sX4_dryInAll_57 s.2.1 s.2.2.1 q5).map fun w => (Sum.inr w)) else (sX4_dryInAll_29 s.1 s.2.1 s.2.2.2.1 q4.2)
noncomputable def sX4_dryInAll_20 (y1 : Int32) (y2 : Int64) (y4 : Int32) (y5 : Int32) (z : mm_S) : Option (Int64 × mm_S) := mm_wh (lX4_dryInAll_20 ) mm_fu (y1, y2, y4, y5, z)
noncomputable def sX4_dryInAll_10 (y1 : Int32) (y2 : Int64) (z : mm_S) : Option (Int64 × mm_S) := (sX4_nextFit 0 z).bind fun q3 => (sX4_dryInAll_20 y1 y2 0 q3.1 q3.2)
noncomputable def sX4_dryInAll_5 (y1 : Int32) (z : mm_S) : Option (Int64 × mm_S) := (sX4_dryNow  z).bind fun q2 => (sX4_dryInAll_10 y1 q2.1 q2.2)
noncomputable def sX4_dryInAll_0  (z : mm_S) : Option (Int64 × mm_S) := (sX4_mapNow  z).bind fun q1 => (sX4_dryInAll_5 q1.1 q1.2)
noncomputable def sX4_dryInAll  (z : mm_S) : Option (Int64 × mm_S) := sX4_dryInAll_0  z
noncomputable def clo_X4_dryInAll (as : List mm_V) (z : mm_S) (kk : Option mm_V → mm_S → Option mm_R) : Option mm_R := mm_pr as fun t o0 as => bif Nat.beq t 4 then (match as with | [] => (sX4_dryInAll z).bind fun q => kk (some (mm_J q.1)) q.2 | _ => none) else none
noncomputable def sX4_costOf_8  (z : mm_S) : Option (Int32 × mm_S) := some (0, z)
noncomputable def sX4_costOf_0 (x1 : Int32) (z : mm_S) : Option (Int32 × mm_S) := (sX4_isHole x1 z).bind fun q1 => if q1.1 = 0 then some (1, q1.2) else (sX4_costOf_8 q1.2)
noncomputable def sX4_costOf (x1 : Int32) (z : mm_S) : Option (Int32 × mm_S) := sX4_costOf_0 x1 z
noncomputable def sX4_findCosts_20 (y1 : Int32) (y2 : Int64) (y4 : Int32) (z : mm_S) : Option ((Int32 × Int64 × Int32 × mm_S) ⊕ (mm_S)) := some (.inl (y1, y2, (y4 + 1), z))
noncomputable def sX4_findCosts_185 (y2 : Int64) (y6 : Int32) (y7 : Int32) (z : mm_S) : Option ((Int64 × Int32 × Int32 × Int32 × mm_S) ⊕ ((Int64 × Int32 × Int32 × mm_S) ⊕ ((Int64 × Int32 × mm_S) ⊕ (mm_S)))) := some (.inl (y2, 1, y6, (y7 + 1), z))
noncomputable def sX4_findCosts_156 (y2 : Int64) (y5 : Int32) (y6 : Int32) (y7 : Int32) (y8 : Int32) (y9 : Int32) (z : mm_S) : Option ((Int64 × Int32 × Int32 × Int32 × mm_S) ⊕ ((Int64 × Int32 × Int32 × mm_S) ⊕ ((Int64 × Int32 × mm_S) ⊕ (mm_S)))) := if 10000 ≤ y9 then some (.inl (y2, y5, y6, (y7 + 1), z)) else if y8 < 0 ∨ 36 ≤ Int32.toNatClampNeg y8 then none else if (z.1 12 (Int32.toNatClampNeg y8)) ≤ y9 then some (.inl (y2, y5, y6, (y7 + 1), z)) else if y8 < 0 ∨ 36 ≤ Int32.toNatClampNeg y8 then none else (sX4_findCosts_185 y2 y6 y7 ((mm_ui z.1 12 (Int32.toNatClampNeg y8) y9), z.2))
noncomputable def lX4_findCosts_90 (s : Int64 × Int32 × Int32 × Int32 × mm_S) : Option ((Int64 × Int32 × Int32 × Int32 × mm_S) ⊕ ((Int64 × Int32 × Int32 × mm_S) ⊕ ((Int64 × Int32 × mm_S) ⊕ (mm_S)))) := if 4 ≤ s.2.2.2.1 then some (.inr (.inl (s.1, s.2.1, (s.2.2.1 + 1), s.2.2.2.2))) else if s.2.2.1 < 0 ∨ 36 ≤ Int32.toNatClampNeg s.2.2.1 then none else if 10000 ≤ (s.2.2.2.2.1 12 (Int32.toNatClampNeg s.2.2.1)) then some (.inr (.inl (s.1, s.2.1, (s.2.2.1 + 1), s.2.2.2.2))) else if (pX4_beside s.2.2.1 s.2.2.2.1 s.2.2.2.2) < 0 then (sX4_findCosts_156 s.1 s.2.1 s.2.2.1 s.2.2.2.1 (pX4_beside s.2.2.1 s.2.2.2.1 s.2.2.2.2) 10000 s.2.2.2.2) else if (lg_cmp ((s.1 >>> (Int32.toInt64 (pX4_beside s.2.2.1 s.2.2.2.1 s.2.2.2.2) &&& 63)) &&& 1) 0) = 0 then (sX4_findCosts_156 s.1 s.2.1 s.2.2.1 s.2.2.2.1 (pX4_beside s.2.2.1 s.2.2.2.1 s.2.2.2.2) 10000 s.2.2.2.2) else if s.2.2.1 < 0 ∨ 36 ≤ Int32.toNatClampNeg s.2.2.1 then none else (sX4_costOf (pX4_beside s.2.2.1 s.2.2.2.1 s.2.2.2.2) s.2.2.2.2).bind fun q2 => let v3 : Int32 := ((s.2.2.2.2.1 12 (Int32.toNatClampNeg s.2.2.1)) + q2.1); (sX4_findCosts_156 s.1 s.2.1 s.2.2.1 s.2.2.2.1 (pX4_beside s.2.2.1 s.2.2.2.1 s.2.2.2.2) v3 q2.2)
noncomputable def sX4_findCosts_90 (y2 : Int64) (y5 : Int32) (y6 : Int32) (y7 : Int32) (z : mm_S) : Option ((Int64 × Int32 × Int32 × mm_S) ⊕ ((Int64 × Int32 × mm_S) ⊕ (mm_S))) := mm_wh (lX4_findCosts_90 ) mm_fu (y2, y5, y6, y7, z)
noncomputable def lX4_findCosts_80 (s : Int64 × Int32 × Int32 × mm_S) : Option ((Int64 × Int32 × Int32 × mm_S) ⊕ ((Int64 × Int32 × mm_S) ⊕ (mm_S))) := if 36 ≤ s.2.2.1 then some (.inr (.inl (s.1, s.2.1, s.2.2.2))) else (sX4_findCosts_90 s.1 s.2.1 s.2.2.1 0 s.2.2.2)
noncomputable def sX4_findCosts_80 (y2 : Int64) (y5 : Int32) (y6 : Int32) (z : mm_S) : Option ((Int64 × Int32 × mm_S) ⊕ (mm_S)) := mm_wh (lX4_findCosts_80 ) mm_fu (y2, y5, y6, z)
noncomputable def lX4_findCosts_69 (s : Int64 × Int32 × mm_S) : Option ((Int64 × Int32 × mm_S) ⊕ (mm_S)) := if s.2.1 = 0 then some (.inr (s.2.2)) else (sX4_findCosts_80 s.1 0 0 s.2.2)
noncomputable def sX4_findCosts_69 (y2 : Int64) (y5 : Int32) (z : mm_S) : Option (mm_S) := mm_wh (lX4_findCosts_69 ) mm_fu (y2, y5, z)
noncomputable def sX4_findCosts_65 (y2 : Int64) (y4 : Int32) (z : mm_S) : Option (mm_S) := (sX4_findCosts_69 y2 y4 z)
noncomputable def lX4_findCosts_3 (s : Int32 × Int64 × Int32 × mm_S) : Option ((Int32 × Int64 × Int32 × mm_S) ⊕ (mm_S)) := if 36 ≤ s.2.2.1 then if (lg_cmp ((s.2.1 >>> (Int32.toInt64 s.1 &&& 63)) &&& 1) 1) = 0 then (sX4_costOf s.1 s.2.2.2).bind fun q1 => if s.1 < 0 ∨ 36 ≤ Int32.toNatClampNeg s.1 then none else ((sX4_findCosts_65 s.2.1 1 ((mm_ui q1.2.1 12 (Int32.toNatClampNeg s.1) q1.1), q1.2.2)).map fun w => (Sum.inr w)) else if s.1 < 0 ∨ 36 ≤ Int32.toNatClampNeg s.1 then none else ((sX4_findCosts_65 s.2.1 0 ((mm_ui s.2.2.2.1 12 (Int32.toNatClampNeg s.1) 10000), s.2.2.2.2)).map fun w => (Sum.inr w)) else if s.2.2.1 < 0 ∨ 36 ≤ Int32.toNatClampNeg s.2.2.1 then none else (sX4_findCosts_20 s.1 s.2.1 s.2.2.1 ((mm_ui s.2.2.2.1 12 (Int32.toNatClampNeg s.2.2.1) 10000), s.2.2.2.2))
noncomputable def sX4_findCosts_3 (y1 : Int32) (y2 : Int64) (y4 : Int32) (z : mm_S) : Option (mm_S) := mm_wh (lX4_findCosts_3 ) mm_fu (y1, y2, y4, z)
noncomputable def sX4_findCosts_0 (x1 : Int32) (x2 : Int64) (z : mm_S) : Option (mm_S) := (sX4_findCosts_3 x1 x2 0 z)
noncomputable def sX4_findCosts (x1 : Int32) (x2 : Int64) (z : mm_S) : Option (mm_S) := sX4_findCosts_0 x1 x2 z
noncomputable def clo_X4_findCosts (as : List mm_V) (z : mm_S) (kk : Option mm_V → mm_S → Option mm_R) : Option mm_R := mm_pr as fun t o0 as => bif Nat.beq t 4 then mm_pi as fun a1 as => mm_pj as fun a2 as => (match as with | [] => (sX4_findCosts a1 a2 z).bind fun q => kk none q | _ => none) else none
noncomputable def lV_X4_dig : List (Nat × (List mm_V → mm_S → (Option mm_V → mm_S → Option mm_R) → Option mm_R)) := [(124, clo_X4_finding), (189, clo_X4_told), (279, clo_X4_dryNow), (285, clo_X4_findCosts)]
noncomputable def mV_X4_dig (k : Nat) (as : List mm_V) (z : mm_S) (kk : Option mm_V → mm_S → Option mm_R) : Option mm_R := match mm_at lV_X4_dig k with
  | some f => f as z kk
  | none => none
noncomputable def arV_X4_dig (k : Nat) : Nat := (mm_at [(124, 2), (189, 2), (279, 1), (285, 3)] k).getD 0
noncomputable def lS_X4_dig : List (Nat × (List mm_V → mm_S → (Option mm_V → mm_S → Option mm_R) → Option mm_R)) := [(114, clo_X4_isCell)]
noncomputable def mS_X4_dig (k : Nat) (as : List mm_V) (z : mm_S) (kk : Option mm_V → mm_S → Option mm_R) : Option mm_R := match mm_at lS_X4_dig k with
  | some f => f as z kk
  | none => none
noncomputable def arS_X4_dig (k : Nat) : Nat := (mm_at [(114, 1)] k).getD 0
def ct_X4_dig : List (Nat × List Nat) := [(21, [0, 1, 2]), (30, [0, 2])]
noncomputable def go_X4_dig : Nat → mm_K := mm_go (fun k => mm_at flX4 k) (fun k => mm_at clX4 k) (fun k => mm_at glX4 k) arV_X4_dig arS_X4_dig mV_X4_dig mS_X4_dig lenM roM snM 3 0 tbX4_dig ct_X4_dig
def rm_X4_dig : Room := { frames := 4, cells := 0, slots := 0, locals := 92 }
noncomputable def f_X4_dig (as : List mm_V) (z : mm_S) (o : mm_R) : Prop := (as.map mm_cat).sum ≤ 3 ∧ ∃ n, go_X4_dig n 0 (mm_ar 0 as) [] z = some o
theorem M_X4_dig : mm_M lyTM lyFA lenM snM 22 22 17 roM rsA nfA nmA [] yX4_dig cX4_dig 3 (some .int) rm_X4_dig f_X4_dig := sorry
noncomputable def sX4_dig_30 (y2 : Int32) (z : mm_S) : Option (Int32 × mm_S) := if y2 < 0 ∨ 36 ≤ Int32.toNatClampNeg y2 then none else (sX4_told (z.1 12 (Int32.toNatClampNeg y2)) z).bind fun q5 => some (q5.1, q5.2)
noncomputable def sX4_dig_21 (y1 : Int32) (y2 : Int32) (z : mm_S) : Option (Int32 × mm_S) := (sX4_dryNow  z).bind fun q3 => (sX4_findCosts y1 q3.1 q3.2).bind fun q4 => (sX4_dig_30 y2 q4)
noncomputable def sX4_dig_0 (x1 : Int32) (x2 : Int32) (z : mm_S) : Option (Int32 × mm_S) := if (pX4_isCell x1) = 0 then (sX4_finding (-1000001) z).bind fun q1 => some (q1.1, q1.2) else if (pX4_isCell x2) = 0 then (sX4_finding (-1000001) z).bind fun q2 => some (q2.1, q2.2) else (sX4_dig_21 x1 x2 z)
noncomputable def sX4_dig (x1 : Int32) (x2 : Int32) (z : mm_S) : Option (Int32 × mm_S) := sX4_dig_0 x1 x2 z
theorem sp_X4_dig (x1 : Int32) (x2 : Int32) (z : mm_S) (hk : ∀ v ∈ [mm_P 4 0, mm_I x1, mm_I x2], mm_ok 22 lyTM 22 17 v) (q : Int32 × mm_S) (hq : sX4_dig x1 x2 z = some q) : f_X4_dig [mm_P 4 0, mm_I x1, mm_I x2] z (some (mm_I q.1), q.2) := sorry
noncomputable def lV_X4_safe : List (Nat × (List mm_V → mm_S → (Option mm_V → mm_S → Option mm_R) → Option mm_R)) := [(124, clo_X4_finding), (189, clo_X4_told), (285, clo_X4_findCosts), (289, clo_X4_dryInAll)]
noncomputable def mV_X4_safe (k : Nat) (as : List mm_V) (z : mm_S) (kk : Option mm_V → mm_S → Option mm_R) : Option mm_R := match mm_at lV_X4_safe k with
  | some f => f as z kk
  | none => none
noncomputable def arV_X4_safe (k : Nat) : Nat := (mm_at [(124, 2), (189, 2), (285, 3), (289, 1)] k).getD 0
noncomputable def lS_X4_safe : List (Nat × (List mm_V → mm_S → (Option mm_V → mm_S → Option mm_R) → Option mm_R)) := [(114, clo_X4_isCell)]
noncomputable def mS_X4_safe (k : Nat) (as : List mm_V) (z : mm_S) (kk : Option mm_V → mm_S → Option mm_R) : Option mm_R := match mm_at lS_X4_safe k with
  | some f => f as z kk
  | none => none
noncomputable def arS_X4_safe (k : Nat) : Nat := (mm_at [(114, 1)] k).getD 0
def ct_X4_safe : List (Nat × List Nat) := [(21, [0, 1, 2]), (30, [0, 2])]
noncomputable def go_X4_safe : Nat → mm_K := mm_go (fun k => mm_at flX4 k) (fun k => mm_at clX4 k) (fun k => mm_at glX4 k) arV_X4_safe arS_X4_safe mV_X4_safe mS_X4_safe lenM roM snM 3 0 tbX4_safe ct_X4_safe
def rm_X4_safe : Room := { frames := 8, cells := 0, slots := 0, locals := 184 }
noncomputable def f_X4_safe (as : List mm_V) (z : mm_S) (o : mm_R) : Prop := (as.map mm_cat).sum ≤ 3 ∧ ∃ n, go_X4_safe n 0 (mm_ar 0 as) [] z = some o
theorem M_X4_safe : mm_M lyTM lyFA lenM snM 22 22 17 roM rsA nfA nmA [] yX4_safe cX4_safe 3 (some .int) rm_X4_safe f_X4_safe := sorry
noncomputable def sX4_safe_30 (y2 : Int32) (z : mm_S) : Option (Int32 × mm_S) := if y2 < 0 ∨ 36 ≤ Int32.toNatClampNeg y2 then none else (sX4_told (z.1 12 (Int32.toNatClampNeg y2)) z).bind fun q5 => some (q5.1, q5.2)
noncomputable def sX4_safe_21 (y1 : Int32) (y2 : Int32) (z : mm_S) : Option (Int32 × mm_S) := (sX4_dryInAll  z).bind fun q3 => (sX4_findCosts y1 q3.1 q3.2).bind fun q4 => (sX4_safe_30 y2 q4)
noncomputable def sX4_safe_0 (x1 : Int32) (x2 : Int32) (z : mm_S) : Option (Int32 × mm_S) := if (pX4_isCell x1) = 0 then (sX4_finding (-1000001) z).bind fun q1 => some (q1.1, q1.2) else if (pX4_isCell x2) = 0 then (sX4_finding (-1000001) z).bind fun q2 => some (q2.1, q2.2) else (sX4_safe_21 x1 x2 z)
noncomputable def sX4_safe (x1 : Int32) (x2 : Int32) (z : mm_S) : Option (Int32 × mm_S) := sX4_safe_0 x1 x2 z
theorem sp_X4_safe (x1 : Int32) (x2 : Int32) (z : mm_S) (hk : ∀ v ∈ [mm_P 4 0, mm_I x1, mm_I x2], mm_ok 22 lyTM 22 17 v) (q : Int32 × mm_S) (hq : sX4_safe x1 x2 z = some q) : f_X4_safe [mm_P 4 0, mm_I x1, mm_I x2] z (some (mm_I q.1), q.2) := sorry
noncomputable def lV_X4_ways : List (Nat × (List mm_V → mm_S → (Option mm_V → mm_S → Option mm_R) → Option mm_R)) := [(124, clo_X4_finding), (279, clo_X4_dryNow), (285, clo_X4_findCosts)]
noncomputable def mV_X4_ways (k : Nat) (as : List mm_V) (z : mm_S) (kk : Option mm_V → mm_S → Option mm_R) : Option mm_R := match mm_at lV_X4_ways k with
  | some f => f as z kk
  | none => none
noncomputable def arV_X4_ways (k : Nat) : Nat := (mm_at [(124, 2), (279, 1), (285, 3)] k).getD 0
noncomputable def lS_X4_ways : List (Nat × (List mm_V → mm_S → (Option mm_V → mm_S → Option mm_R) → Option mm_R)) := [(114, clo_X4_isCell)]
noncomputable def mS_X4_ways (k : Nat) (as : List mm_V) (z : mm_S) (kk : Option mm_V → mm_S → Option mm_R) : Option mm_R := match mm_at lS_X4_ways k with
  | some f => f as z kk
  | none => none
noncomputable def arS_X4_ways (k : Nat) : Nat := (mm_at [(114, 1)] k).getD 0
def ct_X4_ways : List (Nat × List Nat) := [(15, [0, 1]), (24, [0]), (29, [0, 2, 4])]
noncomputable def go_X4_ways : Nat → mm_K := mm_go (fun k => mm_at flX4 k) (fun k => mm_at clX4 k) (fun k => mm_at glX4 k) arV_X4_ways arS_X4_ways mV_X4_ways mS_X4_ways lenM roM snM 5 2 tbX4_ways ct_X4_ways
def rm_X4_ways : Room := { frames := 4, cells := 0, slots := 0, locals := 92 }
noncomputable def f_X4_ways (as : List mm_V) (z : mm_S) (o : mm_R) : Prop := (as.map mm_cat).sum ≤ 5 ∧ ∃ n, go_X4_ways n 0 (mm_ar 0 as) [] z = some o
theorem M_X4_ways : mm_M lyTM lyFA lenM snM 22 22 17 roM rsA nfA nmA [] yX4_ways cX4_ways 5 (some .long) rm_X4_ways f_X4_ways := sorry
noncomputable def lX4_ways_29 (s : Int64 × Int32 × mm_S) : Option ((Int64 × Int32 × mm_S) ⊕ (Int64 × mm_S)) := if 36 ≤ s.2.1 then some (.inr (s.1, s.2.2)) else if s.2.1 < 0 ∨ 36 ≤ Int32.toNatClampNeg s.2.1 then none else if 10000 ≤ (s.2.2.1 12 (Int32.toNatClampNeg s.2.1)) then some (.inl ((s.1 ||| 0), (s.2.1 + 1), s.2.2)) else let v4 : Int64 := (s.1 ||| (1 <<< (Int32.toInt64 s.2.1 &&& 63))); some (.inl (v4, (s.2.1 + 1), s.2.2))
noncomputable def sX4_ways_29 (y2 : Int64) (y4 : Int32) (z : mm_S) : Option (Int64 × mm_S) := mm_wh (lX4_ways_29 ) mm_fu (y2, y4, z)
noncomputable def sX4_ways_24  (z : mm_S) : Option (Int64 × mm_S) := (sX4_ways_29 0 0 z)
noncomputable def sX4_ways_15 (y1 : Int32) (z : mm_S) : Option (Int64 × mm_S) := (sX4_dryNow  z).bind fun q2 => (sX4_findCosts y1 q2.1 q2.2).bind fun q3 => (sX4_ways_24 q3)
noncomputable def sX4_ways_0 (x1 : Int32) (z : mm_S) : Option (Int64 × mm_S) := if (pX4_isCell x1) = 0 then (sX4_finding (-1000001) z).bind fun q1 => some ((Int32.toInt64 q1.1), q1.2) else (sX4_ways_15 x1 z)
noncomputable def sX4_ways (x1 : Int32) (z : mm_S) : Option (Int64 × mm_S) := sX4_ways_0 x1 z
theorem sp_X4_ways (x1 : Int32) (z : mm_S) (hk : ∀ v ∈ [mm_P 4 0, mm_I x1], mm_ok 22 lyTM 22 17 v) (q : Int64 × mm_S) (hq : sX4_ways x1 z = some q) : f_X4_ways [mm_P 4 0, mm_I x1] z (some (mm_J q.1), q.2) := sorry
noncomputable def sX4_drawn_20 (y1 : Int32) (z : mm_S) : Option (Int32 × mm_S) := if y1 = 0 then none else some (((Int32.toUInt32 (z.1 1 4) >>> (Int32.toUInt32 8 &&& Int32.toUInt32 31)).toInt32 - (Int32.toUInt32 (z.1 1 4) >>> (Int32.toUInt32 8 &&& Int32.toUInt32 31)).toInt32 / y1 * y1), z)
noncomputable def sX4_drawn_0 (x1 : Int32) (z : mm_S) : Option (Int32 × mm_S) := (sX4_drawn_20 x1 ((mm_ui z.1 1 4 (((z.1 1 4) * 1103515245) + 12345)), z.2))
noncomputable def sX4_drawn (x1 : Int32) (z : mm_S) : Option (Int32 × mm_S) := sX4_drawn_0 x1 z
noncomputable def sX4_yearsGo_38 (y1 : Int32) (y2 : Int32) (z : mm_S) : Option ((Int32 × Int32 × mm_S) ⊕ (Int32 × mm_S)) := some (.inl (y1, (y2 + 1), z))
noncomputable def sX4_yearsGo_28 (y1 : Int32) (y2 : Int32) (z : mm_S) : Option ((Int32 × Int32 × mm_S) ⊕ (Int32 × mm_S)) := (sX4_yearsGo_38 y1 y2 ((mm_ui z.1 1 0 ((z.1 1 0) + 1)), z.2))
noncomputable def sX4_yearsGo_14 (y1 : Int32) (y2 : Int32) (y3 : Int32) (z : mm_S) : Option ((Int32 × Int32 × mm_S) ⊕ (Int32 × mm_S)) := (sX4_drawn 5 z).bind fun q4 => if (15 + y3) < 0 ∨ 97 ≤ Int32.toNatClampNeg (15 + y3) then none else (sX4_yearsGo_28 y1 y2 ((mm_ui q4.2.1 1 (Int32.toNatClampNeg (15 + y3)) q4.1), q4.2.2))
noncomputable def lX4_yearsGo_2 (s : Int32 × Int32 × mm_S) : Option ((Int32 × Int32 × mm_S) ⊕ (Int32 × mm_S)) := if s.1 ≤ s.2.1 then (sX4_cellsOf 2 s.2.2).bind fun q1 => (sX4_bits q1.1 q1.2).bind fun q2 => some (.inr (q2.1, q2.2)) else (sX4_drawn 36 s.2.2).bind fun q3 => (sX4_yearsGo_14 s.1 s.2.1 q3.1 q3.2)
noncomputable def sX4_yearsGo_2 (y1 : Int32) (y2 : Int32) (z : mm_S) : Option (Int32 × mm_S) := mm_wh (lX4_yearsGo_2 ) mm_fu (y1, y2, z)
noncomputable def sX4_yearsGo_0 (x1 : Int32) (z : mm_S) : Option (Int32 × mm_S) := (sX4_yearsGo_2 x1 0 z)
noncomputable def sX4_yearsGo (x1 : Int32) (z : mm_S) : Option (Int32 × mm_S) := sX4_yearsGo_0 x1 z
noncomputable def clo_X4_yearsGo (as : List mm_V) (z : mm_S) (kk : Option mm_V → mm_S → Option mm_R) : Option mm_R := mm_pr as fun t o0 as => bif Nat.beq t 4 then mm_pi as fun a1 as => (match as with | [] => (sX4_yearsGo a1 z).bind fun q => kk (some (mm_I q.1)) q.2 | _ => none) else none
noncomputable def sX4_isTooLate_0 (x1 : Int32) (z : mm_S) : Option (Int32 × mm_S) := if ((z.1 1 0) + x1) ≤ 999 then some (0, z) else some (1, z)
noncomputable def sX4_isTooLate (x1 : Int32) (z : mm_S) : Option (Int32 × mm_S) := sX4_isTooLate_0 x1 z
noncomputable def clo_X4_isTooLate (as : List mm_V) (z : mm_S) (kk : Option mm_V → mm_S → Option mm_R) : Option mm_R := mm_pr as fun t o0 as => bif Nat.beq t 4 then mm_pi as fun a1 as => (match as with | [] => (sX4_isTooLate a1 z).bind fun q => kk (some (mm_I q.1)) q.2 | _ => none) else none
noncomputable def lV_X4_years : List (Nat × (List mm_V → mm_S → (Option mm_V → mm_S → Option mm_R) → Option mm_R)) := [(124, clo_X4_finding), (296, clo_X4_isTooLate), (299, clo_X4_yearsGo)]
noncomputable def mV_X4_years (k : Nat) (as : List mm_V) (z : mm_S) (kk : Option mm_V → mm_S → Option mm_R) : Option mm_R := match mm_at lV_X4_years k with
  | some f => f as z kk
  | none => none
noncomputable def arV_X4_years (k : Nat) : Nat := (mm_at [(124, 2), (296, 2), (299, 2)] k).getD 0
noncomputable def lS_X4_years : List (Nat × (List mm_V → mm_S → (Option mm_V → mm_S → Option mm_R) → Option mm_R)) := [(106, clo_X4_within)]
noncomputable def mS_X4_years (k : Nat) (as : List mm_V) (z : mm_S) (kk : Option mm_V → mm_S → Option mm_R) : Option mm_R := match mm_at lS_X4_years k with
  | some f => f as z kk
  | none => none
noncomputable def arS_X4_years (k : Nat) : Nat := (mm_at [(106, 3)] k).getD 0
def ct_X4_years : List (Nat × List Nat) := [(17, [0, 1]), (25, [0]), (34, [0, 1])]
noncomputable def go_X4_years : Nat → mm_K := mm_go (fun k => mm_at flX4 k) (fun k => mm_at clX4 k) (fun k => mm_at glX4 k) arV_X4_years arS_X4_years mV_X4_years mS_X4_years lenM roM snM 2 0 tbX4_years ct_X4_years
def rm_X4_years : Room := { frames := 3, cells := 0, slots := 0, locals := 68 }
noncomputable def f_X4_years (as : List mm_V) (z : mm_S) (o : mm_R) : Prop := (as.map mm_cat).sum ≤ 2 ∧ ∃ n, go_X4_years n 0 (mm_ar 0 as) [] z = some o
theorem M_X4_years : mm_M lyTM lyFA lenM snM 22 22 17 roM rsA nfA nmA [] yX4_years cX4_years 2 (some .int) rm_X4_years f_X4_years := sorry
noncomputable def sX4_years_25  (z : mm_S) : Option (Int32 × mm_S) := (sX4_finding (-1000005) z).bind fun q4 => some (q4.1, q4.2)
noncomputable def sX4_years_34 (y1 : Int32) (z : mm_S) : Option (Int32 × mm_S) := (sX4_yearsGo y1 z).bind fun q3 => some (q3.1, q3.2)
noncomputable def sX4_years_17 (y1 : Int32) (z : mm_S) : Option (Int32 × mm_S) := (sX4_isTooLate y1 z).bind fun q2 => if q2.1 = 0 then (sX4_years_34 y1 q2.2) else (sX4_years_25 q2.2)
noncomputable def sX4_years_0 (x1 : Int32) (z : mm_S) : Option (Int32 × mm_S) := if (pX4_within x1 1 60) = 0 then (sX4_finding (-1000001) z).bind fun q1 => some (q1.1, q1.2) else (sX4_years_17 x1 z)
noncomputable def sX4_years (x1 : Int32) (z : mm_S) : Option (Int32 × mm_S) := sX4_years_0 x1 z
theorem sp_X4_years (x1 : Int32) (z : mm_S) (hk : ∀ v ∈ [mm_P 4 0, mm_I x1], mm_ok 22 lyTM 22 17 v) (q : Int32 × mm_S) (hq : sX4_years x1 z = some q) : f_X4_years [mm_P 4 0, mm_I x1] z (some (mm_I q.1), q.2) := sorry
noncomputable def lV_X4_ahead : List (Nat × (List mm_V → mm_S → (Option mm_V → mm_S → Option mm_R) → Option mm_R)) := [(124, clo_X4_finding), (186, clo_X4_timeOf), (218, clo_X4_silentNow), (296, clo_X4_isTooLate), (299, clo_X4_yearsGo), (302, clo_X4_putBack)]
noncomputable def mV_X4_ahead (k : Nat) (as : List mm_V) (z : mm_S) (kk : Option mm_V → mm_S → Option mm_R) : Option mm_R := match mm_at lV_X4_ahead k with
  | some f => f as z kk
  | none => none
noncomputable def arV_X4_ahead (k : Nat) : Nat := (mm_at [(124, 2), (186, 3), (218, 1), (296, 2), (299, 2), (302, 2)] k).getD 0
noncomputable def lS_X4_ahead : List (Nat × (List mm_V → mm_S → (Option mm_V → mm_S → Option mm_R) → Option mm_R)) := [(102, clo_X4_copyRow), (106, clo_X4_within), (232, clo_X4_bits)]
noncomputable def mS_X4_ahead (k : Nat) (as : List mm_V) (z : mm_S) (kk : Option mm_V → mm_S → Option mm_R) : Option mm_R := match mm_at lS_X4_ahead k with
  | some f => f as z kk
  | none => none
noncomputable def arS_X4_ahead (k : Nat) : Nat := (mm_at [(102, 2), (106, 3), (232, 1)] k).getD 0
def ct_X4_ahead : List (Nat × List Nat) := [(26, [0, 1, 2]), (34, [0]), (41, [0, 1, 2]), (52, [0, 1, 2]), (58, [0, 2, 3]), (67, [0, 2, 3, 4])]
noncomputable def go_X4_ahead : Nat → mm_K := mm_go (fun k => mm_at flX4 k) (fun k => mm_at clX4 k) (fun k => mm_at glX4 k) arV_X4_ahead arS_X4_ahead mV_X4_ahead mS_X4_ahead lenM roM snM 5 0 tbX4_ahead ct_X4_ahead
def rm_X4_ahead : Room := { frames := 6, cells := 0, slots := 0, locals := 143 }
noncomputable def f_X4_ahead (as : List mm_V) (z : mm_S) (o : mm_R) : Prop := (as.map mm_cat).sum ≤ 5 ∧ ∃ n, go_X4_ahead n 0 (mm_ar 0 as) [] z = some o
theorem M_X4_ahead : mm_M lyTM lyFA lenM snM 22 22 17 roM rsA nfA nmA [] yX4_ahead cX4_ahead 5 (some .int) rm_X4_ahead f_X4_ahead := sorry
noncomputable def sX4_ahead_34  (z : mm_S) : Option (Int32 × mm_S) := (sX4_finding (-1000005) z).bind fun q5 => some (q5.1, q5.2)
noncomputable def sX4_ahead_67 (y2 : Int32) (y3 : Int32) (y4 : Int32) (z : mm_S) : Option (Int32 × mm_S) := if y2 = 0 then (sX4_putBack y3 z).bind fun q13 => some (q13.1, q13.2) else if y2 = 1 then (sX4_silentNow  z).bind fun q10 => (sX4_bits q10.1 q10.2).bind fun q11 => (sX4_putBack q11.1 q11.2).bind fun q12 => some (q12.1, q12.2) else if 10000 ≤ y4 then (sX4_putBack (-1) z).bind fun q8 => some (q8.1, q8.2) else (sX4_putBack y4 z).bind fun q9 => some (q9.1, q9.2)
noncomputable def sX4_ahead_58 (y2 : Int32) (y3 : Int32) (z : mm_S) : Option (Int32 × mm_S) := (sX4_timeOf 0 35 z).bind fun q7 => (sX4_ahead_67 y2 y3 q7.1 q7.2)
noncomputable def sX4_ahead_52 (y1 : Int32) (y2 : Int32) (z : mm_S) : Option (Int32 × mm_S) := (sX4_yearsGo y1 z).bind fun q6 => (sX4_ahead_58 y2 q6.1 q6.2)
noncomputable def sX4_ahead_41 (y1 : Int32) (y2 : Int32) (z : mm_S) : Option (Int32 × mm_S) := (sX4_copyRow 1 3 z).bind fun q4 => (sX4_ahead_52 y1 y2 q4)
noncomputable def sX4_ahead_26 (y1 : Int32) (y2 : Int32) (z : mm_S) : Option (Int32 × mm_S) := (sX4_isTooLate y1 z).bind fun q3 => if q3.1 = 0 then (sX4_ahead_41 y1 y2 q3.2) else (sX4_ahead_34 q3.2)
noncomputable def sX4_ahead_0 (x1 : Int32) (x2 : Int32) (z : mm_S) : Option (Int32 × mm_S) := if (pX4_within x1 0 60) = 0 then (sX4_finding (-1000001) z).bind fun q1 => some (q1.1, q1.2) else if (pX4_within x2 0 2) = 0 then (sX4_finding (-1000001) z).bind fun q2 => some (q2.1, q2.2) else (sX4_ahead_26 x1 x2 z)
noncomputable def sX4_ahead (x1 : Int32) (x2 : Int32) (z : mm_S) : Option (Int32 × mm_S) := sX4_ahead_0 x1 x2 z
theorem sp_X4_ahead (x1 : Int32) (x2 : Int32) (z : mm_S) (hk : ∀ v ∈ [mm_P 4 0, mm_I x1, mm_I x2], mm_ok 22 lyTM 22 17 v) (q : Int32 × mm_S) (hq : sX4_ahead x1 x2 z = some q) : f_X4_ahead [mm_P 4 0, mm_I x1, mm_I x2] z (some (mm_I q.1), q.2) := sorry
noncomputable def lV_X4_when : List (Nat × (List mm_V → mm_S → (Option mm_V → mm_S → Option mm_R) → Option mm_R)) := [(124, clo_X4_finding), (146, clo_X4_isCrew), (192, clo_X4_findHeard), (296, clo_X4_isTooLate), (299, clo_X4_yearsGo), (302, clo_X4_putBack)]
noncomputable def mV_X4_when (k : Nat) (as : List mm_V) (z : mm_S) (kk : Option mm_V → mm_S → Option mm_R) : Option mm_R := match mm_at lV_X4_when k with
  | some f => f as z kk
  | none => none
noncomputable def arV_X4_when (k : Nat) : Nat := (mm_at [(124, 2), (146, 2), (192, 3), (296, 2), (299, 2), (302, 2)] k).getD 0
noncomputable def lS_X4_when : List (Nat × (List mm_V → mm_S → (Option mm_V → mm_S → Option mm_R) → Option mm_R)) := [(102, clo_X4_copyRow), (114, clo_X4_isCell)]
noncomputable def mS_X4_when (k : Nat) (as : List mm_V) (z : mm_S) (kk : Option mm_V → mm_S → Option mm_R) : Option mm_R := match mm_at lS_X4_when k with
  | some f => f as z kk
  | none => none
noncomputable def arS_X4_when (k : Nat) : Nat := (mm_at [(102, 2), (114, 1)] k).getD 0
def ct_X4_when : List (Nat × List Nat) := [(22, [0, 1, 2]), (31, [0]), (38, [0, 1, 2]), (49, [0, 1, 2]), (58, [0, 1, 2]), (71, [0, 1, 2, 3, 4, 5]), (101, [0, 1, 2, 3, 4]), (110, [0, 1, 2, 3, 4]), (148, [0]), (157, [4])]
noncomputable def go_X4_when : Nat → mm_K := mm_go (fun k => mm_at flX4 k) (fun k => mm_at clX4 k) (fun k => mm_at glX4 k) arV_X4_when arS_X4_when mV_X4_when mS_X4_when lenM roM snM 6 0 tbX4_when ct_X4_when
def rm_X4_when : Room := { frames := 4, cells := 0, slots := 0, locals := 96 }
noncomputable def f_X4_when (as : List mm_V) (z : mm_S) (o : mm_R) : Prop := (as.map mm_cat).sum ≤ 6 ∧ ∃ n, go_X4_when n 0 (mm_ar 0 as) [] z = some o
theorem M_X4_when : mm_M lyTM lyFA lenM snM 22 22 17 roM rsA nfA nmA [] yX4_when cX4_when 6 (some .int) rm_X4_when f_X4_when := sorry
noncomputable def sX4_when_31  (z : mm_S) : Option (Int32 × mm_S) := (sX4_finding (-1000005) z).bind fun q5 => some (q5.1, q5.2)
noncomputable def sX4_when_110 (y1 : Int32) (y2 : Int32) (y3 : Int32) (y4 : Int32) (z : mm_S) : Option ((Int32 × Int32 × Int32 × Int32 × Int32 × mm_S) ⊕ (Int32 × mm_S)) := if y2 < 0 ∨ 36 ≤ Int32.toNatClampNeg y2 then none else if (z.1 7 (Int32.toNatClampNeg y2)) = y3 then some (.inl (y1, y2, y3, y4, 0, z)) else some (.inl (y1, y2, y3, y4, 1, z))
noncomputable def sX4_when_101 (y1 : Int32) (y2 : Int32) (y3 : Int32) (y4 : Int32) (z : mm_S) : Option ((Int32 × Int32 × Int32 × Int32 × Int32 × mm_S) ⊕ (Int32 × mm_S)) := (sX4_findHeard y1 7 z).bind fun q13 => (sX4_when_110 y1 y2 y3 y4 q13)
noncomputable def sX4_when_148  (z : mm_S) : Option (Int32 × mm_S) := (sX4_finding (-1000004) z).bind fun q12 => some (q12.1, q12.2)
noncomputable def sX4_when_157 (y4 : Int32) (z : mm_S) : Option (Int32 × mm_S) := some (y4, z)
noncomputable def lX4_when_71 (s : Int32 × Int32 × Int32 × Int32 × Int32 × mm_S) : Option ((Int32 × Int32 × Int32 × Int32 × Int32 × mm_S) ⊕ (Int32 × mm_S)) := if 60 ≤ s.2.2.2.1 then if s.2.2.2.2.1 = 0 then (sX4_putBack (-1) s.2.2.2.2.2).bind fun q7 => if 0 ≤ q7.1 then ((sX4_when_157 s.2.2.2.1 q7.2).map fun w => (Sum.inr w)) else ((sX4_when_148 q7.2).map fun w => (Sum.inr w)) else (sX4_putBack s.2.2.2.1 s.2.2.2.2.2).bind fun q8 => if 0 ≤ q8.1 then ((sX4_when_157 s.2.2.2.1 q8.2).map fun w => (Sum.inr w)) else ((sX4_when_148 q8.2).map fun w => (Sum.inr w)) else if s.2.2.2.2.1 = 0 then (sX4_yearsGo 1 s.2.2.2.2.2).bind fun q11 => if 0 ≤ q11.1 then (sX4_when_101 s.1 s.2.1 s.2.2.1 (s.2.2.2.1 + 1) q11.2) else (sX4_when_101 s.1 s.2.1 s.2.2.1 (s.2.2.2.1 + 0) q11.2) else if s.2.2.2.2.1 = 0 then (sX4_putBack (-1) s.2.2.2.2.2).bind fun q9 => if 0 ≤ q9.1 then ((sX4_when_157 s.2.2.2.1 q9.2).map fun w => (Sum.inr w)) else ((sX4_when_148 q9.2).map fun w => (Sum.inr w)) else (sX4_putBack s.2.2.2.1 s.2.2.2.2.2).bind fun q10 => if 0 ≤ q10.1 then ((sX4_when_157 s.2.2.2.1 q10.2).map fun w => (Sum.inr w)) else ((sX4_when_148 q10.2).map fun w => (Sum.inr w))
noncomputable def sX4_when_71 (y1 : Int32) (y2 : Int32) (y3 : Int32) (y4 : Int32) (y5 : Int32) (z : mm_S) : Option (Int32 × mm_S) := mm_wh (lX4_when_71 ) mm_fu (y1, y2, y3, y4, y5, z)
noncomputable def sX4_when_58 (y1 : Int32) (y2 : Int32) (z : mm_S) : Option (Int32 × mm_S) := if y2 < 0 ∨ 36 ≤ Int32.toNatClampNeg y2 then none else (sX4_when_71 y1 y2 (z.1 7 (Int32.toNatClampNeg y2)) 0 0 z)
noncomputable def sX4_when_49 (y1 : Int32) (y2 : Int32) (z : mm_S) : Option (Int32 × mm_S) := (sX4_findHeard y1 7 z).bind fun q6 => (sX4_when_58 y1 y2 q6)
noncomputable def sX4_when_38 (y1 : Int32) (y2 : Int32) (z : mm_S) : Option (Int32 × mm_S) := (sX4_copyRow 1 3 z).bind fun q4 => (sX4_when_49 y1 y2 q4)
noncomputable def sX4_when_22 (y1 : Int32) (y2 : Int32) (z : mm_S) : Option (Int32 × mm_S) := (sX4_isTooLate 60 z).bind fun q3 => if q3.1 = 0 then (sX4_when_38 y1 y2 q3.2) else (sX4_when_31 q3.2)
noncomputable def sX4_when_0 (x1 : Int32) (x2 : Int32) (z : mm_S) : Option (Int32 × mm_S) := if (pX4_isCrew x1 z) = 0 then (sX4_finding (-1000001) z).bind fun q1 => some (q1.1, q1.2) else if (pX4_isCell x2) = 0 then (sX4_finding (-1000001) z).bind fun q2 => some (q2.1, q2.2) else (sX4_when_22 x1 x2 z)
noncomputable def sX4_when (x1 : Int32) (x2 : Int32) (z : mm_S) : Option (Int32 × mm_S) := sX4_when_0 x1 x2 z
theorem sp_X4_when (x1 : Int32) (x2 : Int32) (z : mm_S) (hk : ∀ v ∈ [mm_P 4 0, mm_I x1, mm_I x2], mm_ok 22 lyTM 22 17 v) (q : Int32 × mm_S) (hq : sX4_when x1 x2 z = some q) : f_X4_when [mm_P 4 0, mm_I x1, mm_I x2] z (some (mm_I q.1), q.2) := sorry
noncomputable def lV_X4_seed : List (Nat × (List mm_V → mm_S → (Option mm_V → mm_S → Option mm_R) → Option mm_R)) := [(121, clo_X4_become)]
noncomputable def mV_X4_seed (k : Nat) (as : List mm_V) (z : mm_S) (kk : Option mm_V → mm_S → Option mm_R) : Option mm_R := match mm_at lV_X4_seed k with
  | some f => f as z kk
  | none => none
noncomputable def arV_X4_seed (k : Nat) : Nat := (mm_at [(121, 3)] k).getD 0
noncomputable def lS_X4_seed : List (Nat × (List mm_V → mm_S → (Option mm_V → mm_S → Option mm_R) → Option mm_R)) := []
noncomputable def mS_X4_seed (k : Nat) (as : List mm_V) (z : mm_S) (kk : Option mm_V → mm_S → Option mm_R) : Option mm_R := match mm_at lS_X4_seed k with
  | some f => f as z kk
  | none => none
noncomputable def arS_X4_seed (k : Nat) : Nat := (mm_at [] k).getD 0
def ct_X4_seed : List (Nat × List Nat) := []
noncomputable def go_X4_seed : Nat → mm_K := mm_go (fun k => mm_at flX4 k) (fun k => mm_at clX4 k) (fun k => mm_at glX4 k) arV_X4_seed arS_X4_seed mV_X4_seed mS_X4_seed lenM roM snM 2 0 tbX4_seed ct_X4_seed
def rm_X4_seed : Room := { frames := 1, cells := 0, slots := 0, locals := 23 }
noncomputable def f_X4_seed (as : List mm_V) (z : mm_S) (o : mm_R) : Prop := (as.map mm_cat).sum ≤ 2 ∧ ∃ n, go_X4_seed n 0 (mm_ar 0 as) [] z = some o
theorem M_X4_seed : mm_M lyTM lyFA lenM snM 22 22 17 roM rsA nfA nmA [] yX4_seed cX4_seed 2 (some .int) rm_X4_seed f_X4_seed := sorry
noncomputable def sX4_seed_0 (x1 : Int32) (z : mm_S) : Option (Int32 × mm_S) := (sX4_become 4 x1 z).bind fun q1 => some (q1.1, q1.2)
noncomputable def sX4_seed (x1 : Int32) (z : mm_S) : Option (Int32 × mm_S) := sX4_seed_0 x1 z
theorem sp_X4_seed (x1 : Int32) (z : mm_S) (hk : ∀ v ∈ [mm_P 4 0, mm_I x1], mm_ok 22 lyTM 22 17 v) (q : Int32 × mm_S) (hq : sX4_seed x1 z = some q) : f_X4_seed [mm_P 4 0, mm_I x1] z (some (mm_I q.1), q.2) := sorry
noncomputable def lV_X4_feed : List (Nat × (List mm_V → mm_S → (Option mm_V → mm_S → Option mm_R) → Option mm_R)) := [(124, clo_X4_finding)]
noncomputable def mV_X4_feed (k : Nat) (as : List mm_V) (z : mm_S) (kk : Option mm_V → mm_S → Option mm_R) : Option mm_R := match mm_at lV_X4_feed k with
  | some f => f as z kk
  | none => none
noncomputable def arV_X4_feed (k : Nat) : Nat := (mm_at [(124, 2)] k).getD 0
noncomputable def lS_X4_feed : List (Nat × (List mm_V → mm_S → (Option mm_V → mm_S → Option mm_R) → Option mm_R)) := [(106, clo_X4_within)]
noncomputable def mS_X4_feed (k : Nat) (as : List mm_V) (z : mm_S) (kk : Option mm_V → mm_S → Option mm_R) : Option mm_R := match mm_at lS_X4_feed k with
  | some f => f as z kk
  | none => none
noncomputable def arS_X4_feed (k : Nat) : Nat := (mm_at [(106, 3)] k).getD 0
def ct_X4_feed : List (Nat × List Nat) := [(16, [0, 1, 2]), (34, [0, 1, 2]), (38, [0, 1, 3]), (61, [0, 1, 3])]
noncomputable def go_X4_feed : Nat → mm_K := mm_go (fun k => mm_at flX4 k) (fun k => mm_at clX4 k) (fun k => mm_at glX4 k) arV_X4_feed arS_X4_feed mV_X4_feed mS_X4_feed lenM roM snM 4 0 tbX4_feed ct_X4_feed
def rm_X4_feed : Room := { frames := 1, cells := 0, slots := 0, locals := 22 }
noncomputable def f_X4_feed (as : List mm_V) (z : mm_S) (o : mm_R) : Prop := (as.map mm_cat).sum ≤ 4 ∧ ∃ n, go_X4_feed n 0 (mm_ar 0 as) [] z = some o
theorem M_X4_feed : mm_M lyTM lyFA lenM snM 22 22 17 roM rsA nfA nmA [] yX4_feed cX4_feed 4 (some .int) rm_X4_feed f_X4_feed := sorry
noncomputable def sX4_feed_61 (y1 : Int32) (y3 : Int32) (z : mm_S) : Option ((Int32 × Int32 × mm_S) ⊕ (Int32 × mm_S)) := let v4 : Int32 := (y3 + Int32.ofInt (-1)); some (.inl (y1, v4, ((mm_ui z.1 0 18 ((z.1 0 18) + 1)), z.2)))
noncomputable def lX4_feed_38 (s : Int32 × Int32 × mm_S) : Option ((Int32 × Int32 × mm_S) ⊕ (Int32 × mm_S)) := if s.2.1 < 0 then some (.inr ((s.2.2.1 0 18), s.2.2)) else if (s.2.2.1 0 18) < 0 ∨ 120 ≤ Int32.toNatClampNeg (s.2.2.1 0 18) then none else let u3 : mm_S := ((mm_ui s.2.2.1 13 (Int32.toNatClampNeg (s.2.2.1 0 18)) ((s.1 >>> ((8 * s.2.1) &&& 31)) &&& 255)), s.2.2.2); (sX4_feed_61 s.1 s.2.1 u3)
noncomputable def sX4_feed_38 (y1 : Int32) (y3 : Int32) (z : mm_S) : Option (Int32 × mm_S) := mm_wh (lX4_feed_38 ) mm_fu (y1, y3, z)
noncomputable def sX4_feed_34 (y1 : Int32) (y2 : Int32) (z : mm_S) : Option (Int32 × mm_S) := (sX4_feed_38 y1 (y2 - 1) z)
noncomputable def sX4_feed_16 (y1 : Int32) (y2 : Int32) (z : mm_S) : Option (Int32 × mm_S) := if ((z.1 0 18) + y2) ≤ 120 then (sX4_feed_34 y1 y2 z) else (sX4_finding (-1000002) z).bind fun q2 => some (q2.1, q2.2)
noncomputable def sX4_feed_0 (x1 : Int32) (x2 : Int32) (z : mm_S) : Option (Int32 × mm_S) := if (pX4_within x2 1 4) = 0 then (sX4_finding (-1000001) z).bind fun q1 => some (q1.1, q1.2) else (sX4_feed_16 x1 x2 z)
noncomputable def sX4_feed (x1 : Int32) (x2 : Int32) (z : mm_S) : Option (Int32 × mm_S) := sX4_feed_0 x1 x2 z
theorem sp_X4_feed (x1 : Int32) (x2 : Int32) (z : mm_S) (hk : ∀ v ∈ [mm_P 4 0, mm_I x1, mm_I x2], mm_ok 22 lyTM 22 17 v) (q : Int32 × mm_S) (hq : sX4_feed x1 x2 z = some q) : f_X4_feed [mm_P 4 0, mm_I x1, mm_I x2] z (some (mm_I q.1), q.2) := sorry
noncomputable def lV_X4_wipe : List (Nat × (List mm_V → mm_S → (Option mm_V → mm_S → Option mm_R) → Option mm_R)) := []
noncomputable def mV_X4_wipe (k : Nat) (as : List mm_V) (z : mm_S) (kk : Option mm_V → mm_S → Option mm_R) : Option mm_R := match mm_at lV_X4_wipe k with
  | some f => f as z kk
  | none => none
noncomputable def arV_X4_wipe (k : Nat) : Nat := (mm_at [] k).getD 0
noncomputable def lS_X4_wipe : List (Nat × (List mm_V → mm_S → (Option mm_V → mm_S → Option mm_R) → Option mm_R)) := []
noncomputable def mS_X4_wipe (k : Nat) (as : List mm_V) (z : mm_S) (kk : Option mm_V → mm_S → Option mm_R) : Option mm_R := match mm_at lS_X4_wipe k with
  | some f => f as z kk
  | none => none
noncomputable def arS_X4_wipe (k : Nat) : Nat := (mm_at [] k).getD 0
def ct_X4_wipe : List (Nat × List Nat) := [(10, [1])]
noncomputable def go_X4_wipe : Nat → mm_K := mm_go (fun k => mm_at flX4 k) (fun k => mm_at clX4 k) (fun k => mm_at glX4 k) arV_X4_wipe arS_X4_wipe mV_X4_wipe mS_X4_wipe lenM roM snM 2 0 tbX4_wipe ct_X4_wipe
def rm_X4_wipe : Room := { frames := 0, cells := 0, slots := 0, locals := 0 }
noncomputable def f_X4_wipe (as : List mm_V) (z : mm_S) (o : mm_R) : Prop := (as.map mm_cat).sum ≤ 2 ∧ ∃ n, go_X4_wipe n 0 (mm_ar 0 as) [] z = some o
theorem M_X4_wipe : mm_M lyTM lyFA lenM snM 22 22 17 roM rsA nfA nmA [] yX4_wipe cX4_wipe 2 (some .int) rm_X4_wipe f_X4_wipe := sorry
noncomputable def sX4_wipe_10 (y1 : Int32) (z : mm_S) : Option (Int32 × mm_S) := some (y1, z)
noncomputable def sX4_wipe_0  (z : mm_S) : Option (Int32 × mm_S) := (sX4_wipe_10 (z.1 0 18) ((mm_ui z.1 0 18 0), z.2))
noncomputable def sX4_wipe  (z : mm_S) : Option (Int32 × mm_S) := sX4_wipe_0  z
theorem sp_X4_wipe  (z : mm_S) (hk : ∀ v ∈ [mm_P 4 0], mm_ok 22 lyTM 22 17 v) (q : Int32 × mm_S) (hq : sX4_wipe  z = some q) : f_X4_wipe [mm_P 4 0] z (some (mm_I q.1), q.2) := sorry
noncomputable def sX4_byteAt_0 (x1 : Int32) (z : mm_S) : Option (Int32 × mm_S) := if (z.1 0 18) ≤ x1 then some ((-1), z) else if x1 < 0 ∨ 120 ≤ Int32.toNatClampNeg x1 then none else some ((z.1 13 (Int32.toNatClampNeg x1)), z)
noncomputable def sX4_byteAt (x1 : Int32) (z : mm_S) : Option (Int32 × mm_S) := sX4_byteAt_0 x1 z
noncomputable def sX4_next_31  (z : mm_S) : Option ((mm_S) ⊕ (mm_S)) := some (.inl z)
noncomputable def sX4_next_21  (z : mm_S) : Option ((mm_S) ⊕ (mm_S)) := (sX4_next_31 ((mm_ui z.1 0 19 ((z.1 0 19) + 1)), z.2))
noncomputable def sX4_next_206  (z : mm_S) : Option (mm_S) := some (z)
noncomputable def sX4_next_65  (z : mm_S) : Option (mm_S) := (sX4_next_206 z)
noncomputable def sX4_next_112  (z : mm_S) : Option ((mm_S) ⊕ (mm_S)) := some (.inl z)
noncomputable def sX4_next_102  (z : mm_S) : Option ((mm_S) ⊕ (mm_S)) := (sX4_next_112 ((mm_ui z.1 0 20 ((z.1 0 20) + 1)), z.2))
noncomputable def lX4_next_84 (s : mm_S) : Option ((mm_S) ⊕ (mm_S)) := (sX4_byteAt (s.1 0 20) s).bind fun q4 => if (pX4_within q4.1 97 122) = 0 then ((sX4_next_206 q4.2).map fun w => (Sum.inr w)) else (sX4_next_102 q4.2)
noncomputable def sX4_next_84  (z : mm_S) : Option (mm_S) := mm_wh (lX4_next_84 ) mm_fu z
noncomputable def sX4_next_188  (z : mm_S) : Option ((mm_S) ⊕ (mm_S)) := some (.inl z)
noncomputable def sX4_next_178  (z : mm_S) : Option ((mm_S) ⊕ (mm_S)) := (sX4_next_188 ((mm_ui z.1 0 20 ((z.1 0 20) + 1)), z.2))
noncomputable def sX4_next_149  (z : mm_S) : Option ((mm_S) ⊕ (mm_S)) := (sX4_byteAt (z.1 0 20) z).bind fun q5 => let u6 : mm_S := ((mm_ui q5.2.1 0 22 (mm_min 1000 (((10 * (z.1 0 22)) + q5.1) - 48))), q5.2.2); (sX4_next_178 u6)
noncomputable def lX4_next_131 (s : mm_S) : Option ((mm_S) ⊕ (mm_S)) := (sX4_byteAt (s.1 0 20) s).bind fun q3 => if (pX4_within q3.1 48 57) = 0 then ((sX4_next_206 q3.2).map fun w => (Sum.inr w)) else (sX4_next_149 q3.2)
noncomputable def sX4_next_131  (z : mm_S) : Option (mm_S) := mm_wh (lX4_next_131 ) mm_fu z
noncomputable def sX4_next_196  (z : mm_S) : Option (mm_S) := (sX4_next_206 ((mm_ui z.1 0 20 ((z.1 0 20) + 1)), z.2))
noncomputable def sX4_next_56 (y1 : Int32) (z : mm_S) : Option (mm_S) := if 0 ≤ y1 then if (pX4_within y1 97 122) = 0 then if (pX4_within y1 48 57) = 0 then (sX4_next_196 ((mm_ui z.1 0 21 3), z.2)) else (sX4_next_131 ((mm_ui z.1 0 21 2), z.2)) else (sX4_next_84 ((mm_ui z.1 0 21 1), z.2)) else (sX4_next_65 ((mm_ui z.1 0 21 0), z.2))
noncomputable def sX4_next_51 (y1 : Int32) (z : mm_S) : Option (mm_S) := (sX4_next_56 y1 ((mm_ui z.1 0 22 0), z.2))
noncomputable def sX4_next_43 (y1 : Int32) (z : mm_S) : Option (mm_S) := (sX4_next_51 y1 ((mm_ui z.1 0 20 (z.1 0 19)), z.2))
noncomputable def lX4_next_8 (s : mm_S) : Option ((mm_S) ⊕ (mm_S)) := (sX4_byteAt (s.1 0 19) s).bind fun q1 => if q1.1 = 32 then (sX4_next_21 q1.2) else (sX4_byteAt (q1.2.1 0 19) q1.2).bind fun q2 => ((sX4_next_43 q2.1 q2.2).map fun w => (Sum.inr w))
noncomputable def sX4_next_8  (z : mm_S) : Option (mm_S) := mm_wh (lX4_next_8 ) mm_fu z
noncomputable def sX4_next_0  (z : mm_S) : Option (mm_S) := (sX4_next_8 ((mm_ui z.1 0 19 (z.1 0 20)), z.2))
noncomputable def sX4_next  (z : mm_S) : Option (mm_S) := sX4_next_0  z
noncomputable def clo_X4_next (as : List mm_V) (z : mm_S) (kk : Option mm_V → mm_S → Option mm_R) : Option mm_R := mm_pr as fun t o0 as => bif Nat.beq t 4 then (match as with | [] => (sX4_next z).bind fun q => kk none q | _ => none) else none
noncomputable def sX4_must_31  (z : mm_S) : Option (mm_S) := some (z)
noncomputable def sX4_must_20  (z : mm_S) : Option (mm_S) := if (z.1 0 23) = 0 then (sX4_next  z).bind fun q1 => (sX4_must_31 q1) else (sX4_must_31 z)
noncomputable def sX4_must_0 (x1 : Int32) (z : mm_S) : Option (mm_S) := if (z.1 0 23) = 0 then if x1 = 0 then (sX4_must_20 ((mm_ui z.1 0 23 1), z.2)) else (sX4_must_20 ((mm_ui z.1 0 23 0), z.2)) else (sX4_must_20 ((mm_ui z.1 0 23 1), z.2))
noncomputable def sX4_must (x1 : Int32) (z : mm_S) : Option (mm_S) := sX4_must_0 x1 z
noncomputable def clo_X4_must (as : List mm_V) (z : mm_S) (kk : Option mm_V → mm_S → Option mm_R) : Option mm_R := mm_pr as fun t o0 as => bif Nat.beq t 4 then mm_pi as fun a1 as => (match as with | [] => (sX4_must a1 z).bind fun q => kk none q | _ => none) else none
noncomputable def sX4_number_31 (y3 : Int32) (z : mm_S) : Option (Int32 × mm_S) := some (y3, z)
noncomputable def sX4_number_0 (x1 : Int32) (x2 : Int32) (z : mm_S) : Option (Int32 × mm_S) := if (z.1 0 21) = 2 then if (pX4_within (z.1 0 22) x1 x2) = 0 then (sX4_must 0 z).bind fun q2 => (sX4_number_31 (z.1 0 22) q2) else (sX4_must 1 z).bind fun q3 => (sX4_number_31 (z.1 0 22) q3) else (sX4_must 0 z).bind fun q1 => (sX4_number_31 (z.1 0 22) q1)
noncomputable def sX4_number (x1 : Int32) (x2 : Int32) (z : mm_S) : Option (Int32 × mm_S) := sX4_number_0 x1 x2 z
noncomputable def sX4_item_57  (z : mm_S) : Option (mm_S) := some (z)
noncomputable def sX4_item_47  (z : mm_S) : Option (mm_S) := (sX4_item_57 ((mm_ui z.1 0 27 ((z.1 0 27) + 1)), z.2))
noncomputable def sX4_item_36 (y4 : Int32) (y5 : Int32) (z : mm_S) : Option (mm_S) := if (y5 + 3) < 0 ∨ 480 ≤ Int32.toNatClampNeg (y5 + 3) then none else (sX4_item_47 ((mm_ui z.1 16 (Int32.toNatClampNeg (y5 + 3)) y4), z.2))
noncomputable def sX4_item_26 (y3 : Int32) (y4 : Int32) (y5 : Int32) (z : mm_S) : Option (mm_S) := if (y5 + 2) < 0 ∨ 480 ≤ Int32.toNatClampNeg (y5 + 2) then none else (sX4_item_36 y4 y5 ((mm_ui z.1 16 (Int32.toNatClampNeg (y5 + 2)) y3), z.2))
noncomputable def sX4_item_16 (y2 : Int32) (y3 : Int32) (y4 : Int32) (y5 : Int32) (z : mm_S) : Option (mm_S) := if (y5 + 1) < 0 ∨ 480 ≤ Int32.toNatClampNeg (y5 + 1) then none else (sX4_item_26 y3 y4 y5 ((mm_ui z.1 16 (Int32.toNatClampNeg (y5 + 1)) y2), z.2))
noncomputable def sX4_item_0 (x1 : Int32) (x2 : Int32) (x3 : Int32) (x4 : Int32) (z : mm_S) : Option (mm_S) := if (4 * (z.1 0 27)) < 0 ∨ 480 ≤ Int32.toNatClampNeg (4 * (z.1 0 27)) then none else (sX4_item_16 x2 x3 x4 (4 * (z.1 0 27)) ((mm_ui z.1 16 (Int32.toNatClampNeg (4 * (z.1 0 27))) x1), z.2))
noncomputable def sX4_item (x1 : Int32) (x2 : Int32) (x3 : Int32) (x4 : Int32) (z : mm_S) : Option (mm_S) := sX4_item_0 x1 x2 x3 x4 z
noncomputable def sX4_isSo_101 (y3 : Int32) (y4 : Int32) (y5 : Int32) (z : mm_S) : Option ((Int32 × Int32 × Int32 × mm_S) ⊕ (Int32 × mm_S)) := some (.inl (y3, y4, (y5 + 1), z))
noncomputable def lX4_isSo_80 (s : Int32 × Int32 × Int32 × mm_S) : Option ((Int32 × Int32 × Int32 × mm_S) ⊕ (Int32 × mm_S)) := if s.1 < s.2.2.1 then some (.inr (0, s.2.2.2)) else if (15 + s.2.2.1) < 0 ∨ 97 ≤ Int32.toNatClampNeg (15 + s.2.2.1) then none else (sX4_isSo_101 s.1 s.2.1 s.2.2.1 ((mm_ui s.2.2.2.1 1 (Int32.toNatClampNeg (15 + s.2.2.1)) (s.2.1 - 10)), s.2.2.2.2))
noncomputable def sX4_isSo_80 (y3 : Int32) (y4 : Int32) (y5 : Int32) (z : mm_S) : Option (Int32 × mm_S) := mm_wh (lX4_isSo_80 ) mm_fu (y3, y4, y5, z)
noncomputable def sX4_isSo_77 (y2 : Int32) (y3 : Int32) (y4 : Int32) (z : mm_S) : Option (Int32 × mm_S) := (sX4_isSo_80 y3 y4 y2 z)
noncomputable def sX4_isSo_64 (y2 : Int32) (y3 : Int32) (y4 : Int32) (z : mm_S) : Option (Int32 × mm_S) := if y4 = 21 then (sX4_getsUnsure y2 z).bind fun q3 => some (q3.1, q3.2) else (sX4_isSo_77 y2 y3 y4 z)
noncomputable def sX4_isSo_42 (y1 : Int32) (y2 : Int32) (y3 : Int32) (y4 : Int32) (z : mm_S) : Option (Int32 × mm_S) := if y4 = 20 then if (y1 + 3) < 0 ∨ 480 ≤ Int32.toNatClampNeg (y1 + 3) then none else (sX4_enters y2 y3 (z.1 16 (Int32.toNatClampNeg (y1 + 3))) z).bind fun q2 => some (q2.1, q2.2) else (sX4_isSo_64 y2 y3 y4 z)
noncomputable def sX4_isSo_0 (x1 : Int32) (z : mm_S) : Option (Int32 × mm_S) := if (x1 + 1) < 0 ∨ 480 ≤ Int32.toNatClampNeg (x1 + 1) then none else if (x1 + 2) < 0 ∨ 480 ≤ Int32.toNatClampNeg (x1 + 2) then none else if x1 < 0 ∨ 480 ≤ Int32.toNatClampNeg x1 then none else if 10 ≤ (z.1 16 (Int32.toNatClampNeg x1)) then (sX4_isSo_42 x1 (z.1 16 (Int32.toNatClampNeg (x1 + 1))) (z.1 16 (Int32.toNatClampNeg (x1 + 2))) (z.1 16 (Int32.toNatClampNeg x1)) z) else (sX4_comes (z.1 16 (Int32.toNatClampNeg x1)) (z.1 16 (Int32.toNatClampNeg (x1 + 1))) (z.1 16 (Int32.toNatClampNeg (x1 + 2))) z).bind fun q1 => some (q1.1, q1.2)
noncomputable def sX4_isSo (x1 : Int32) (z : mm_S) : Option (Int32 × mm_S) := sX4_isSo_0 x1 z
noncomputable def clo_X4_isSo (as : List mm_V) (z : mm_S) (kk : Option mm_V → mm_S → Option mm_R) : Option mm_R := mm_pr as fun t o0 as => bif Nat.beq t 4 then mm_pi as fun a1 as => (match as with | [] => (sX4_isSo a1 z).bind fun q => kk (some (mm_I q.1)) q.2 | _ => none) else none
noncomputable def pX4_isSpot (x1 : Int32) : Int32 := (pX4_within x1 0 9)
noncomputable def clo_X4_isSpot (as : List mm_V) (z : mm_S) (kk : Option mm_V → mm_S → Option mm_R) : Option mm_R := mm_pi as fun a0 as => (match as with | [] => kk (some (mm_I (pX4_isSpot a0))) z | _ => none)
noncomputable def lV_X4_hold : List (Nat × (List mm_V → mm_S → (Option mm_V → mm_S → Option mm_R) → Option mm_R)) := [(124, clo_X4_finding), (146, clo_X4_isCrew)]
noncomputable def mV_X4_hold (k : Nat) (as : List mm_V) (z : mm_S) (kk : Option mm_V → mm_S → Option mm_R) : Option mm_R := match mm_at lV_X4_hold k with
  | some f => f as z kk
  | none => none
noncomputable def arV_X4_hold (k : Nat) : Nat := (mm_at [(124, 2), (146, 2)] k).getD 0
noncomputable def lS_X4_hold : List (Nat × (List mm_V → mm_S → (Option mm_V → mm_S → Option mm_R) → Option mm_R)) := [(389, clo_X4_isSpot)]
noncomputable def mS_X4_hold (k : Nat) (as : List mm_V) (z : mm_S) (kk : Option mm_V → mm_S → Option mm_R) : Option mm_R := match mm_at lS_X4_hold k with
  | some f => f as z kk
  | none => none
noncomputable def arS_X4_hold (k : Nat) : Nat := (mm_at [(389, 1)] k).getD 0
def ct_X4_hold : List (Nat × List Nat) := [(27, [0, 1, 2]), (36, [])]
noncomputable def go_X4_hold : Nat → mm_K := mm_go (fun k => mm_at flX4 k) (fun k => mm_at clX4 k) (fun k => mm_at glX4 k) arV_X4_hold arS_X4_hold mV_X4_hold mS_X4_hold lenM roM snM 3 0 tbX4_hold ct_X4_hold
def rm_X4_hold : Room := { frames := 2, cells := 0, slots := 0, locals := 43 }
noncomputable def f_X4_hold (as : List mm_V) (z : mm_S) (o : mm_R) : Prop := (as.map mm_cat).sum ≤ 3 ∧ ∃ n, go_X4_hold n 0 (mm_ar 0 as) [] z = some o
theorem M_X4_hold : mm_M lyTM lyFA lenM snM 22 22 17 roM rsA nfA nmA [] yX4_hold cX4_hold 3 (some .int) rm_X4_hold f_X4_hold := sorry
noncomputable def sX4_hold_36  (z : mm_S) : Option (Int32 × mm_S) := some (1, z)
noncomputable def sX4_hold_27 (y1 : Int32) (y2 : Int32) (z : mm_S) : Option (Int32 × mm_S) := if (5 + y1) < 0 ∨ 97 ≤ Int32.toNatClampNeg (5 + y1) then none else (sX4_hold_36 ((mm_ui z.1 1 (Int32.toNatClampNeg (5 + y1)) y2), z.2))
noncomputable def sX4_hold_0 (x1 : Int32) (x2 : Int32) (z : mm_S) : Option (Int32 × mm_S) := if (pX4_isSpot x1) = 0 then (sX4_finding (-1000001) z).bind fun q1 => some (q1.1, q1.2) else if x2 = (-1) then (sX4_hold_27 x1 x2 z) else if (pX4_isCrew x2 z) = 0 then (sX4_finding (-1000001) z).bind fun q2 => some (q2.1, q2.2) else (sX4_hold_27 x1 x2 z)
noncomputable def sX4_hold (x1 : Int32) (x2 : Int32) (z : mm_S) : Option (Int32 × mm_S) := sX4_hold_0 x1 x2 z
theorem sp_X4_hold (x1 : Int32) (x2 : Int32) (z : mm_S) (hk : ∀ v ∈ [mm_P 4 0, mm_I x1, mm_I x2], mm_ok 22 lyTM 22 17 v) (q : Int32 × mm_S) (hq : sX4_hold x1 x2 z = some q) : f_X4_hold [mm_P 4 0, mm_I x1, mm_I x2] z (some (mm_I q.1), q.2) := sorry
noncomputable def lV_X4_as : List (Nat × (List mm_V → mm_S → (Option mm_V → mm_S → Option mm_R) → Option mm_R)) := [(124, clo_X4_finding), (139, clo_X4_crewIs)]
noncomputable def mV_X4_as (k : Nat) (as : List mm_V) (z : mm_S) (kk : Option mm_V → mm_S → Option mm_R) : Option mm_R := match mm_at lV_X4_as k with
  | some f => f as z kk
  | none => none
noncomputable def arV_X4_as (k : Nat) : Nat := (mm_at [(124, 2), (139, 3)] k).getD 0
noncomputable def lS_X4_as : List (Nat × (List mm_V → mm_S → (Option mm_V → mm_S → Option mm_R) → Option mm_R)) := [(128, clo_X4_isKind), (142, clo_X4_isUnder), (389, clo_X4_isSpot)]
noncomputable def mS_X4_as (k : Nat) (as : List mm_V) (z : mm_S) (kk : Option mm_V → mm_S → Option mm_R) : Option mm_R := match mm_at lS_X4_as k with
  | some f => f as z kk
  | none => none
noncomputable def arS_X4_as (k : Nat) : Nat := (mm_at [(128, 1), (142, 2), (389, 1)] k).getD 0
def ct_X4_as : List (Nat × List Nat) := [(21, [0, 1, 2]), (42, [0, 2, 3]), (55, [3])]
noncomputable def go_X4_as : Nat → mm_K := mm_go (fun k => mm_at flX4 k) (fun k => mm_at clX4 k) (fun k => mm_at glX4 k) arV_X4_as arS_X4_as mV_X4_as mS_X4_as lenM roM snM 4 0 tbX4_as ct_X4_as
def rm_X4_as : Room := { frames := 2, cells := 0, slots := 0, locals := 43 }
noncomputable def f_X4_as (as : List mm_V) (z : mm_S) (o : mm_R) : Prop := (as.map mm_cat).sum ≤ 4 ∧ ∃ n, go_X4_as n 0 (mm_ar 0 as) [] z = some o
theorem M_X4_as : mm_M lyTM lyFA lenM snM 22 22 17 roM rsA nfA nmA [] yX4_as cX4_as 4 (some .int) rm_X4_as f_X4_as := sorry
noncomputable def sX4_as_55 (y3 : Int32) (z : mm_S) : Option (Int32 × mm_S) := some (y3, z)
noncomputable def sX4_as_42 (y2 : Int32) (y3 : Int32) (z : mm_S) : Option (Int32 × mm_S) := (sX4_crewIs y3 0 z).bind fun q4 => (sX4_isUnder q4.1 y2 q4.2).bind fun q5 => if q5.1 = 0 then (sX4_finding (-1000003) q5.2).bind fun q6 => some (q6.1, q6.2) else (sX4_as_55 y3 q5.2)
noncomputable def sX4_as_21 (y1 : Int32) (y2 : Int32) (z : mm_S) : Option (Int32 × mm_S) := if (5 + y1) < 0 ∨ 97 ≤ Int32.toNatClampNeg (5 + y1) then none else if 0 ≤ (z.1 1 (Int32.toNatClampNeg (5 + y1))) then (sX4_as_42 y2 (z.1 1 (Int32.toNatClampNeg (5 + y1))) z) else (sX4_finding (-1000006) z).bind fun q3 => some (q3.1, q3.2)
noncomputable def sX4_as_0 (x1 : Int32) (x2 : Int32) (z : mm_S) : Option (Int32 × mm_S) := if (pX4_isSpot x1) = 0 then (sX4_finding (-1000001) z).bind fun q1 => some (q1.1, q1.2) else if (pX4_isKind x2) = 0 then (sX4_finding (-1000001) z).bind fun q2 => some (q2.1, q2.2) else (sX4_as_21 x1 x2 z)
noncomputable def sX4_as (x1 : Int32) (x2 : Int32) (z : mm_S) : Option (Int32 × mm_S) := sX4_as_0 x1 x2 z
theorem sp_X4_as (x1 : Int32) (x2 : Int32) (z : mm_S) (hk : ∀ v ∈ [mm_P 4 0, mm_I x1, mm_I x2], mm_ok 22 lyTM 22 17 v) (q : Int32 × mm_S) (hq : sX4_as x1 x2 z = some q) : f_X4_as [mm_P 4 0, mm_I x1, mm_I x2] z (some (mm_I q.1), q.2) := sorry
noncomputable def pX4_isSheet (x1 : Int32) : Int32 := (pX4_within x1 0 3)
noncomputable def clo_X4_isSheet (as : List mm_V) (z : mm_S) (kk : Option mm_V → mm_S → Option mm_R) : Option mm_R := mm_pi as fun a0 as => (match as with | [] => kk (some (mm_I (pX4_isSheet a0))) z | _ => none)
noncomputable def pX4_cutTo (x1 : Int32) (x2 : Int32) : Int32 := if x2 = 8 then (Int32.toInt8 x1).toInt32 else if x2 = 16 then (Int32.toInt16 x1).toInt32 else x1
noncomputable def clo_X4_cutTo (as : List mm_V) (z : mm_S) (kk : Option mm_V → mm_S → Option mm_R) : Option mm_R := mm_pi as fun a0 as => mm_pi as fun a1 as => (match as with | [] => kk (some (mm_I (pX4_cutTo a0 a1))) z | _ => none)
noncomputable def lV_X4_sheet : List (Nat × (List mm_V → mm_S → (Option mm_V → mm_S → Option mm_R) → Option mm_R)) := [(124, clo_X4_finding)]
noncomputable def mV_X4_sheet (k : Nat) (as : List mm_V) (z : mm_S) (kk : Option mm_V → mm_S → Option mm_R) : Option mm_R := match mm_at lV_X4_sheet k with
  | some f => f as z kk
  | none => none
noncomputable def arV_X4_sheet (k : Nat) : Nat := (mm_at [(124, 2)] k).getD 0
noncomputable def lS_X4_sheet : List (Nat × (List mm_V → mm_S → (Option mm_V → mm_S → Option mm_R) → Option mm_R)) := [(394, clo_X4_isSheet)]
noncomputable def mS_X4_sheet (k : Nat) (as : List mm_V) (z : mm_S) (kk : Option mm_V → mm_S → Option mm_R) : Option mm_R := match mm_at lS_X4_sheet k with
  | some f => f as z kk
  | none => none
noncomputable def arS_X4_sheet (k : Nat) : Nat := (mm_at [(394, 1)] k).getD 0
def ct_X4_sheet : List (Nat × List Nat) := [(36, [0, 1, 2, 3]), (48, [0, 1, 2, 3]), (61, [0, 1, 2, 3]), (68, [0, 1, 2, 3]), (83, [0, 1]), (86, [0, 1, 4]), (106, [0, 1, 4])]
noncomputable def go_X4_sheet : Nat → mm_K := mm_go (fun k => mm_at flX4 k) (fun k => mm_at clX4 k) (fun k => mm_at glX4 k) arV_X4_sheet arS_X4_sheet mV_X4_sheet mS_X4_sheet lenM roM snM 5 0 tbX4_sheet ct_X4_sheet
def rm_X4_sheet : Room := { frames := 2, cells := 0, slots := 0, locals := 42 }
noncomputable def f_X4_sheet (as : List mm_V) (z : mm_S) (o : mm_R) : Prop := (as.map mm_cat).sum ≤ 5 ∧ ∃ n, go_X4_sheet n 0 (mm_ar 0 as) [] z = some o
theorem M_X4_sheet : mm_M lyTM lyFA lenM snM 22 22 17 roM rsA nfA nmA [] yX4_sheet cX4_sheet 5 (some .int) rm_X4_sheet f_X4_sheet := sorry
noncomputable def sX4_sheet_106 (y1 : Int32) (y4 : Int32) (z : mm_S) : Option ((Int32 × Int32 × mm_S) ⊕ (Int32 × mm_S)) := some (.inl (y1, (y4 + 1), z))
noncomputable def lX4_sheet_86 (s : Int32 × Int32 × mm_S) : Option ((Int32 × Int32 × mm_S) ⊕ (Int32 × mm_S)) := if 40 ≤ s.2.1 then if s.1 < 0 ∨ 4 ≤ Int32.toNatClampNeg s.1 then none else some (.inr ((s.2.2.1 19 (Int32.toNatClampNeg s.1)), s.2.2)) else if ((40 * s.1) + s.2.1) < 0 ∨ 160 ≤ Int32.toNatClampNeg ((40 * s.1) + s.2.1) then none else (sX4_sheet_106 s.1 s.2.1 ((mm_ui s.2.2.1 20 (Int32.toNatClampNeg ((40 * s.1) + s.2.1)) 0), s.2.2.2))
noncomputable def sX4_sheet_86 (y1 : Int32) (y4 : Int32) (z : mm_S) : Option (Int32 × mm_S) := mm_wh (lX4_sheet_86 ) mm_fu (y1, y4, z)
noncomputable def sX4_sheet_83 (y1 : Int32) (z : mm_S) : Option (Int32 × mm_S) := (sX4_sheet_86 y1 0 z)
noncomputable def sX4_sheet_68 (y1 : Int32) (y2 : Int32) (y3 : Int32) (z : mm_S) : Option (Int32 × mm_S) := if y2 = 0 then if y1 < 0 ∨ 4 ≤ Int32.toNatClampNeg y1 then none else (sX4_sheet_83 y1 ((mm_ui z.1 19 (Int32.toNatClampNeg y1) 0), z.2)) else if y1 < 0 ∨ 4 ≤ Int32.toNatClampNeg y1 then none else (sX4_sheet_83 y1 ((mm_ui z.1 19 (Int32.toNatClampNeg y1) y3), z.2))
noncomputable def sX4_sheet_61 (y1 : Int32) (y2 : Int32) (y3 : Int32) (z : mm_S) : Option (Int32 × mm_S) := if y1 < 0 ∨ 4 ≤ Int32.toNatClampNeg y1 then none else (sX4_sheet_68 y1 y2 y3 ((mm_ui z.1 18 (Int32.toNatClampNeg y1) y2), z.2))
noncomputable def sX4_sheet_48 (y1 : Int32) (y2 : Int32) (y3 : Int32) (z : mm_S) : Option (Int32 × mm_S) := if y3 ≤ 40 then (sX4_sheet_61 y1 y2 y3 z) else (sX4_finding (-1000001) z).bind fun q4 => some (q4.1, q4.2)
noncomputable def sX4_sheet_36 (y1 : Int32) (y2 : Int32) (y3 : Int32) (z : mm_S) : Option (Int32 × mm_S) := if 0 ≤ y3 then (sX4_sheet_48 y1 y2 y3 z) else (sX4_finding (-1000007) z).bind fun q3 => some (q3.1, q3.2)
noncomputable def sX4_sheet_0 (x1 : Int32) (x2 : Int32) (x3 : Int32) (z : mm_S) : Option (Int32 × mm_S) := if (pX4_isSheet x1) = 0 then (sX4_finding (-1000001) z).bind fun q1 => some (q1.1, q1.2) else if x2 = 0 then (sX4_sheet_36 x1 x2 x3 z) else if x2 = 8 then (sX4_sheet_36 x1 x2 x3 z) else if x2 = 16 then (sX4_sheet_36 x1 x2 x3 z) else if x2 = 32 then (sX4_sheet_36 x1 x2 x3 z) else (sX4_finding (-1000001) z).bind fun q2 => some (q2.1, q2.2)
noncomputable def sX4_sheet (x1 : Int32) (x2 : Int32) (x3 : Int32) (z : mm_S) : Option (Int32 × mm_S) := sX4_sheet_0 x1 x2 x3 z
theorem sp_X4_sheet (x1 : Int32) (x2 : Int32) (x3 : Int32) (z : mm_S) (hk : ∀ v ∈ [mm_P 4 0, mm_I x1, mm_I x2, mm_I x3], mm_ok 22 lyTM 22 17 v) (q : Int32 × mm_S) (hq : sX4_sheet x1 x2 x3 z = some q) : f_X4_sheet [mm_P 4 0, mm_I x1, mm_I x2, mm_I x3] z (some (mm_I q.1), q.2) := sorry
noncomputable def lV_X4_write : List (Nat × (List mm_V → mm_S → (Option mm_V → mm_S → Option mm_R) → Option mm_R)) := [(124, clo_X4_finding)]
noncomputable def mV_X4_write (k : Nat) (as : List mm_V) (z : mm_S) (kk : Option mm_V → mm_S → Option mm_R) : Option mm_R := match mm_at lV_X4_write k with
  | some f => f as z kk
  | none => none
noncomputable def arV_X4_write (k : Nat) : Nat := (mm_at [(124, 2)] k).getD 0
noncomputable def lS_X4_write : List (Nat × (List mm_V → mm_S → (Option mm_V → mm_S → Option mm_R) → Option mm_R)) := [(106, clo_X4_within), (394, clo_X4_isSheet), (398, clo_X4_cutTo)]
noncomputable def mS_X4_write (k : Nat) (as : List mm_V) (z : mm_S) (kk : Option mm_V → mm_S → Option mm_R) : Option mm_R := match mm_at lS_X4_write k with
  | some f => f as z kk
  | none => none
noncomputable def arS_X4_write (k : Nat) : Nat := (mm_at [(106, 3), (394, 1), (398, 2)] k).getD 0
def ct_X4_write : List (Nat × List Nat) := [(14, [0, 1, 2, 3]), (31, [0, 1, 2, 3]), (54, [0, 1, 2, 3]), (75, [])]
noncomputable def go_X4_write : Nat → mm_K := mm_go (fun k => mm_at flX4 k) (fun k => mm_at clX4 k) (fun k => mm_at glX4 k) arV_X4_write arS_X4_write mV_X4_write mS_X4_write lenM roM snM 4 0 tbX4_write ct_X4_write
def rm_X4_write : Room := { frames := 2, cells := 0, slots := 0, locals := 42 }
noncomputable def f_X4_write (as : List mm_V) (z : mm_S) (o : mm_R) : Prop := (as.map mm_cat).sum ≤ 4 ∧ ∃ n, go_X4_write n 0 (mm_ar 0 as) [] z = some o
theorem M_X4_write : mm_M lyTM lyFA lenM snM 22 22 17 roM rsA nfA nmA [] yX4_write cX4_write 4 (some .int) rm_X4_write f_X4_write := sorry
noncomputable def sX4_write_75  (z : mm_S) : Option (Int32 × mm_S) := some (1, z)
noncomputable def sX4_write_54 (y1 : Int32) (y2 : Int32) (y3 : Int32) (z : mm_S) : Option (Int32 × mm_S) := if y1 < 0 ∨ 4 ≤ Int32.toNatClampNeg y1 then none else if ((40 * y1) + y2) < 0 ∨ 160 ≤ Int32.toNatClampNeg ((40 * y1) + y2) then none else let u4 : mm_S := ((mm_ui z.1 20 (Int32.toNatClampNeg ((40 * y1) + y2)) (pX4_cutTo y3 (z.1 18 (Int32.toNatClampNeg y1)))), z.2); (sX4_write_75 u4)
noncomputable def sX4_write_31 (y1 : Int32) (y2 : Int32) (y3 : Int32) (z : mm_S) : Option (Int32 × mm_S) := if y1 < 0 ∨ 4 ≤ Int32.toNatClampNeg y1 then none else if (pX4_within y2 0 ((z.1 19 (Int32.toNatClampNeg y1)) - 1)) = 0 then (sX4_finding (-1000001) z).bind fun q3 => some (q3.1, q3.2) else (sX4_write_54 y1 y2 y3 z)
noncomputable def sX4_write_14 (y1 : Int32) (y2 : Int32) (y3 : Int32) (z : mm_S) : Option (Int32 × mm_S) := if y1 < 0 ∨ 4 ≤ Int32.toNatClampNeg y1 then none else if (z.1 18 (Int32.toNatClampNeg y1)) = 0 then (sX4_finding (-1000006) z).bind fun q2 => some (q2.1, q2.2) else (sX4_write_31 y1 y2 y3 z)
noncomputable def sX4_write_0 (x1 : Int32) (x2 : Int32) (x3 : Int32) (z : mm_S) : Option (Int32 × mm_S) := if (pX4_isSheet x1) = 0 then (sX4_finding (-1000001) z).bind fun q1 => some (q1.1, q1.2) else (sX4_write_14 x1 x2 x3 z)
noncomputable def sX4_write (x1 : Int32) (x2 : Int32) (x3 : Int32) (z : mm_S) : Option (Int32 × mm_S) := sX4_write_0 x1 x2 x3 z
theorem sp_X4_write (x1 : Int32) (x2 : Int32) (x3 : Int32) (z : mm_S) (hk : ∀ v ∈ [mm_P 4 0, mm_I x1, mm_I x2, mm_I x3], mm_ok 22 lyTM 22 17 v) (q : Int32 × mm_S) (hq : sX4_write x1 x2 x3 z = some q) : f_X4_write [mm_P 4 0, mm_I x1, mm_I x2, mm_I x3] z (some (mm_I q.1), q.2) := sorry
noncomputable def lV_X4_copy : List (Nat × (List mm_V → mm_S → (Option mm_V → mm_S → Option mm_R) → Option mm_R)) := [(124, clo_X4_finding)]
noncomputable def mV_X4_copy (k : Nat) (as : List mm_V) (z : mm_S) (kk : Option mm_V → mm_S → Option mm_R) : Option mm_R := match mm_at lV_X4_copy k with
  | some f => f as z kk
  | none => none
noncomputable def arV_X4_copy (k : Nat) : Nat := (mm_at [(124, 2)] k).getD 0
noncomputable def lS_X4_copy : List (Nat × (List mm_V → mm_S → (Option mm_V → mm_S → Option mm_R) → Option mm_R)) := [(394, clo_X4_isSheet)]
noncomputable def mS_X4_copy (k : Nat) (as : List mm_V) (z : mm_S) (kk : Option mm_V → mm_S → Option mm_R) : Option mm_R := match mm_at lS_X4_copy k with
  | some f => f as z kk
  | none => none
noncomputable def arS_X4_copy (k : Nat) : Nat := (mm_at [(394, 1)] k).getD 0
def ct_X4_copy : List (Nat × List Nat) := [(21, [0, 1, 2, 3, 4, 5]), (47, [0, 1, 2, 3, 4, 5]), (70, [0, 1, 2, 3, 4, 5]), (126, [0, 1, 2, 3, 4, 5]), (129, [0, 1, 2, 3, 4, 5, 6]), (157, [0, 1, 2, 3, 4, 5, 6]), (166, [0, 3, 4, 5, 6]), (195, [0, 3, 4, 5, 6])]
noncomputable def go_X4_copy : Nat → mm_K := mm_go (fun k => mm_at flX4 k) (fun k => mm_at clX4 k) (fun k => mm_at glX4 k) arV_X4_copy arS_X4_copy mV_X4_copy mS_X4_copy lenM roM snM 7 0 tbX4_copy ct_X4_copy
def rm_X4_copy : Room := { frames := 2, cells := 0, slots := 0, locals := 42 }
noncomputable def f_X4_copy (as : List mm_V) (z : mm_S) (o : mm_R) : Prop := (as.map mm_cat).sum ≤ 7 ∧ ∃ n, go_X4_copy n 0 (mm_ar 0 as) [] z = some o
theorem M_X4_copy : mm_M lyTM lyFA lenM snM 22 22 17 roM rsA nfA nmA [] yX4_copy cX4_copy 7 (some .int) rm_X4_copy f_X4_copy := sorry
noncomputable def sX4_copy_157 (y1 : Int32) (y2 : Int32) (y3 : Int32) (y4 : Int32) (y5 : Int32) (y6 : Int32) (z : mm_S) : Option ((Int32 × Int32 × Int32 × Int32 × Int32 × Int32 × mm_S) ⊕ (Int32 × mm_S)) := some (.inl (y1, y2, y3, y4, y5, (y6 + 1), z))
noncomputable def sX4_copy_195 (y3 : Int32) (y4 : Int32) (y5 : Int32) (y6 : Int32) (z : mm_S) : Option ((Int32 × Int32 × Int32 × Int32 × mm_S) ⊕ (Int32 × mm_S)) := some (.inl (y3, y4, y5, (y6 + 1), z))
noncomputable def lX4_copy_166 (s : Int32 × Int32 × Int32 × Int32 × mm_S) : Option ((Int32 × Int32 × Int32 × Int32 × mm_S) ⊕ (Int32 × mm_S)) := if s.2.2.1 ≤ s.2.2.2.1 then some (.inr (s.2.2.1, s.2.2.2.2)) else if s.2.2.2.1 < 0 ∨ 40 ≤ Int32.toNatClampNeg s.2.2.2.1 then none else if (((40 * s.1) + s.2.1) + s.2.2.2.1) < 0 ∨ 160 ≤ Int32.toNatClampNeg (((40 * s.1) + s.2.1) + s.2.2.2.1) then none else let u12 : mm_S := ((mm_ui s.2.2.2.2.1 20 (Int32.toNatClampNeg (((40 * s.1) + s.2.1) + s.2.2.2.1)) (s.2.2.2.2.1 21 (Int32.toNatClampNeg s.2.2.2.1))), s.2.2.2.2.2); (sX4_copy_195 s.1 s.2.1 s.2.2.1 s.2.2.2.1 u12)
noncomputable def sX4_copy_166 (y3 : Int32) (y4 : Int32) (y5 : Int32) (y6 : Int32) (z : mm_S) : Option (Int32 × mm_S) := mm_wh (lX4_copy_166 ) mm_fu (y3, y4, y5, y6, z)
noncomputable def lX4_copy_129 (s : Int32 × Int32 × Int32 × Int32 × Int32 × Int32 × mm_S) : Option ((Int32 × Int32 × Int32 × Int32 × Int32 × Int32 × mm_S) ⊕ (Int32 × mm_S)) := if s.2.2.2.2.1 ≤ s.2.2.2.2.2.1 then ((sX4_copy_166 s.2.2.1 s.2.2.2.1 s.2.2.2.2.1 0 s.2.2.2.2.2.2).map fun w => (Sum.inr w)) else if (((40 * s.1) + s.2.1) + s.2.2.2.2.2.1) < 0 ∨ 160 ≤ Int32.toNatClampNeg (((40 * s.1) + s.2.1) + s.2.2.2.2.2.1) then none else if s.2.2.2.2.2.1 < 0 ∨ 40 ≤ Int32.toNatClampNeg s.2.2.2.2.2.1 then none else let u11 : mm_S := ((mm_ui s.2.2.2.2.2.2.1 21 (Int32.toNatClampNeg s.2.2.2.2.2.1) (s.2.2.2.2.2.2.1 20 (Int32.toNatClampNeg (((40 * s.1) + s.2.1) + s.2.2.2.2.2.1)))), s.2.2.2.2.2.2.2); (sX4_copy_157 s.1 s.2.1 s.2.2.1 s.2.2.2.1 s.2.2.2.2.1 s.2.2.2.2.2.1 u11)
noncomputable def sX4_copy_129 (y1 : Int32) (y2 : Int32) (y3 : Int32) (y4 : Int32) (y5 : Int32) (y6 : Int32) (z : mm_S) : Option (Int32 × mm_S) := mm_wh (lX4_copy_129 ) mm_fu (y1, y2, y3, y4, y5, y6, z)
noncomputable def sX4_copy_126 (y1 : Int32) (y2 : Int32) (y3 : Int32) (y4 : Int32) (y5 : Int32) (z : mm_S) : Option (Int32 × mm_S) := (sX4_copy_129 y1 y2 y3 y4 y5 0 z)
noncomputable def sX4_copy_70 (y1 : Int32) (y2 : Int32) (y3 : Int32) (y4 : Int32) (y5 : Int32) (z : mm_S) : Option (Int32 × mm_S) := if y2 < 0 then (sX4_finding (-1000001) z).bind fun q6 => some (q6.1, q6.2) else if y4 < 0 then (sX4_finding (-1000001) z).bind fun q7 => some (q7.1, q7.2) else if y5 < 0 then (sX4_finding (-1000001) z).bind fun q8 => some (q8.1, q8.2) else if y1 < 0 ∨ 4 ≤ Int32.toNatClampNeg y1 then none else if 0 < (lg_cmp ((Int32.toInt64 y2) + (Int32.toInt64 y5)) (Int32.toInt64 (z.1 19 (Int32.toNatClampNeg y1)))) then (sX4_finding (-1000001) z).bind fun q9 => some (q9.1, q9.2) else if y3 < 0 ∨ 4 ≤ Int32.toNatClampNeg y3 then none else if (lg_cmp ((Int32.toInt64 y4) + (Int32.toInt64 y5)) (Int32.toInt64 (z.1 19 (Int32.toNatClampNeg y3)))) ≤ 0 then (sX4_copy_126 y1 y2 y3 y4 y5 z) else (sX4_finding (-1000001) z).bind fun q10 => some (q10.1, q10.2)
noncomputable def sX4_copy_47 (y1 : Int32) (y2 : Int32) (y3 : Int32) (y4 : Int32) (y5 : Int32) (z : mm_S) : Option (Int32 × mm_S) := if y1 < 0 ∨ 4 ≤ Int32.toNatClampNeg y1 then none else if y3 < 0 ∨ 4 ≤ Int32.toNatClampNeg y3 then none else if (z.1 18 (Int32.toNatClampNeg y1)) = (z.1 18 (Int32.toNatClampNeg y3)) then (sX4_copy_70 y1 y2 y3 y4 y5 z) else (sX4_finding (-1000003) z).bind fun q5 => some (q5.1, q5.2)
noncomputable def sX4_copy_21 (y1 : Int32) (y2 : Int32) (y3 : Int32) (y4 : Int32) (y5 : Int32) (z : mm_S) : Option (Int32 × mm_S) := if y1 < 0 ∨ 4 ≤ Int32.toNatClampNeg y1 then none else if (z.1 18 (Int32.toNatClampNeg y1)) = 0 then (sX4_finding (-1000006) z).bind fun q3 => some (q3.1, q3.2) else if y3 < 0 ∨ 4 ≤ Int32.toNatClampNeg y3 then none else if (z.1 18 (Int32.toNatClampNeg y3)) = 0 then (sX4_finding (-1000006) z).bind fun q4 => some (q4.1, q4.2) else (sX4_copy_47 y1 y2 y3 y4 y5 z)
noncomputable def sX4_copy_0 (x1 : Int32) (x2 : Int32) (x3 : Int32) (x4 : Int32) (x5 : Int32) (z : mm_S) : Option (Int32 × mm_S) := if (pX4_isSheet x1) = 0 then (sX4_finding (-1000001) z).bind fun q1 => some (q1.1, q1.2) else if (pX4_isSheet x3) = 0 then (sX4_finding (-1000001) z).bind fun q2 => some (q2.1, q2.2) else (sX4_copy_21 x1 x2 x3 x4 x5 z)
noncomputable def sX4_copy (x1 : Int32) (x2 : Int32) (x3 : Int32) (x4 : Int32) (x5 : Int32) (z : mm_S) : Option (Int32 × mm_S) := sX4_copy_0 x1 x2 x3 x4 x5 z
theorem sp_X4_copy (x1 : Int32) (x2 : Int32) (x3 : Int32) (x4 : Int32) (x5 : Int32) (z : mm_S) (hk : ∀ v ∈ [mm_P 4 0, mm_I x1, mm_I x2, mm_I x3, mm_I x4, mm_I x5], mm_ok 22 lyTM 22 17 v) (q : Int32 × mm_S) (hq : sX4_copy x1 x2 x3 x4 x5 z = some q) : f_X4_copy [mm_P 4 0, mm_I x1, mm_I x2, mm_I x3, mm_I x4, mm_I x5] z (some (mm_I q.1), q.2) := sorry
noncomputable def lV_X4_load : List (Nat × (List mm_V → mm_S → (Option mm_V → mm_S → Option mm_R) → Option mm_R)) := [(124, clo_X4_finding)]
noncomputable def mV_X4_load (k : Nat) (as : List mm_V) (z : mm_S) (kk : Option mm_V → mm_S → Option mm_R) : Option mm_R := match mm_at lV_X4_load k with
  | some f => f as z kk
  | none => none
noncomputable def arV_X4_load (k : Nat) : Nat := (mm_at [(124, 2)] k).getD 0
noncomputable def lS_X4_load : List (Nat × (List mm_V → mm_S → (Option mm_V → mm_S → Option mm_R) → Option mm_R)) := [(114, clo_X4_isCell), (118, clo_X4_isStuff), (394, clo_X4_isSheet)]
noncomputable def mS_X4_load (k : Nat) (as : List mm_V) (z : mm_S) (kk : Option mm_V → mm_S → Option mm_R) : Option mm_R := match mm_at lS_X4_load k with
  | some f => f as z kk
  | none => none
noncomputable def arS_X4_load (k : Nat) : Nat := (mm_at [(114, 1), (118, 1), (394, 1)] k).getD 0
def ct_X4_load : List (Nat × List Nat) := [(14, [0, 1]), (31, [0, 1]), (33, [0, 1, 2]), (87, [0, 1, 2])]
noncomputable def go_X4_load : Nat → mm_K := mm_go (fun k => mm_at flX4 k) (fun k => mm_at clX4 k) (fun k => mm_at glX4 k) arV_X4_load arS_X4_load mV_X4_load mS_X4_load lenM roM snM 3 0 tbX4_load ct_X4_load
def rm_X4_load : Room := { frames := 2, cells := 0, slots := 0, locals := 42 }
noncomputable def f_X4_load (as : List mm_V) (z : mm_S) (o : mm_R) : Prop := (as.map mm_cat).sum ≤ 3 ∧ ∃ n, go_X4_load n 0 (mm_ar 0 as) [] z = some o
theorem M_X4_load : mm_M lyTM lyFA lenM snM 22 22 17 roM rsA nfA nmA [] yX4_load cX4_load 3 (some .int) rm_X4_load f_X4_load := sorry
noncomputable def sX4_load_87 (y1 : Int32) (y2 : Int32) (z : mm_S) : Option ((Int32 × Int32 × mm_S) ⊕ (Int32 × mm_S)) := some (.inl (y1, (y2 + 1), z))
noncomputable def lX4_load_33 (s : Int32 × Int32 × mm_S) : Option ((Int32 × Int32 × mm_S) ⊕ (Int32 × mm_S)) := if s.1 < 0 ∨ 4 ≤ Int32.toNatClampNeg s.1 then none else if (s.2.2.1 19 (Int32.toNatClampNeg s.1)) ≤ s.2.1 then some (.inr (s.2.1, s.2.2)) else if (pX4_isCell s.2.1) = 0 then some (.inr (s.2.1, s.2.2)) else if ((40 * s.1) + s.2.1) < 0 ∨ 160 ≤ Int32.toNatClampNeg ((40 * s.1) + s.2.1) then none else if (pX4_isStuff (s.2.2.1 20 (Int32.toNatClampNeg ((40 * s.1) + s.2.1)))) = 0 then some (.inr (s.2.1, s.2.2)) else if ((40 * s.1) + s.2.1) < 0 ∨ 160 ≤ Int32.toNatClampNeg ((40 * s.1) + s.2.1) then none else if (15 + s.2.1) < 0 ∨ 97 ≤ Int32.toNatClampNeg (15 + s.2.1) then none else let u3 : mm_S := ((mm_ui s.2.2.1 1 (Int32.toNatClampNeg (15 + s.2.1)) (s.2.2.1 20 (Int32.toNatClampNeg ((40 * s.1) + s.2.1)))), s.2.2.2); (sX4_load_87 s.1 s.2.1 u3)
noncomputable def sX4_load_33 (y1 : Int32) (y2 : Int32) (z : mm_S) : Option (Int32 × mm_S) := mm_wh (lX4_load_33 ) mm_fu (y1, y2, z)
noncomputable def sX4_load_31 (y1 : Int32) (z : mm_S) : Option (Int32 × mm_S) := (sX4_load_33 y1 0 z)
noncomputable def sX4_load_14 (y1 : Int32) (z : mm_S) : Option (Int32 × mm_S) := if y1 < 0 ∨ 4 ≤ Int32.toNatClampNeg y1 then none else if (z.1 18 (Int32.toNatClampNeg y1)) = 0 then (sX4_finding (-1000006) z).bind fun q2 => some (q2.1, q2.2) else (sX4_load_31 y1 z)
noncomputable def sX4_load_0 (x1 : Int32) (z : mm_S) : Option (Int32 × mm_S) := if (pX4_isSheet x1) = 0 then (sX4_finding (-1000001) z).bind fun q1 => some (q1.1, q1.2) else (sX4_load_14 x1 z)
noncomputable def sX4_load (x1 : Int32) (z : mm_S) : Option (Int32 × mm_S) := sX4_load_0 x1 z
theorem sp_X4_load (x1 : Int32) (z : mm_S) (hk : ∀ v ∈ [mm_P 4 0, mm_I x1], mm_ok 22 lyTM 22 17 v) (q : Int32 × mm_S) (hq : sX4_load x1 z = some q) : f_X4_load [mm_P 4 0, mm_I x1] z (some (mm_I q.1), q.2) := sorry
noncomputable def lV_X4_judge : List (Nat × (List mm_V → mm_S → (Option mm_V → mm_S → Option mm_R) → Option mm_R)) := [(124, clo_X4_finding), (146, clo_X4_isCrew), (192, clo_X4_findHeard)]
noncomputable def mV_X4_judge (k : Nat) (as : List mm_V) (z : mm_S) (kk : Option mm_V → mm_S → Option mm_R) : Option mm_R := match mm_at lV_X4_judge k with
  | some f => f as z kk
  | none => none
noncomputable def arV_X4_judge (k : Nat) : Nat := (mm_at [(124, 2), (146, 2), (192, 3)] k).getD 0
noncomputable def lS_X4_judge : List (Nat × (List mm_V → mm_S → (Option mm_V → mm_S → Option mm_R) → Option mm_R)) := [(202, mm_mn), (394, clo_X4_isSheet)]
noncomputable def mS_X4_judge (k : Nat) (as : List mm_V) (z : mm_S) (kk : Option mm_V → mm_S → Option mm_R) : Option mm_R := match mm_at lS_X4_judge k with
  | some f => f as z kk
  | none => none
noncomputable def arS_X4_judge (k : Nat) : Nat := (mm_at [(202, 2), (394, 1)] k).getD 0
def ct_X4_judge : List (Nat × List Nat) := [(14, [0, 1, 2]), (31, [0, 1, 2]), (46, [0, 1, 2]), (55, [0, 1]), (70, [0, 1, 3, 4])]
noncomputable def go_X4_judge : Nat → mm_K := mm_go (fun k => mm_at flX4 k) (fun k => mm_at clX4 k) (fun k => mm_at glX4 k) arV_X4_judge arS_X4_judge mV_X4_judge mS_X4_judge lenM roM snM 5 0 tbX4_judge ct_X4_judge
def rm_X4_judge : Room := { frames := 4, cells := 0, slots := 0, locals := 96 }
noncomputable def f_X4_judge (as : List mm_V) (z : mm_S) (o : mm_R) : Prop := (as.map mm_cat).sum ≤ 5 ∧ ∃ n, go_X4_judge n 0 (mm_ar 0 as) [] z = some o
theorem M_X4_judge : mm_M lyTM lyFA lenM snM 22 22 17 roM rsA nfA nmA [] yX4_judge cX4_judge 5 (some .int) rm_X4_judge f_X4_judge := sorry
noncomputable def lX4_judge_70 (s : Int32 × Int32 × Int32 × mm_S) : Option ((Int32 × Int32 × Int32 × mm_S) ⊕ (Int32 × mm_S)) := if s.2.1 ≤ s.2.2.1 then if s.2.2.1 = s.2.1 then some (.inr (0, s.2.2.2)) else some (.inr ((1 + s.2.2.1), s.2.2.2)) else if ((40 * s.1) + s.2.2.1) < 0 ∨ 160 ≤ Int32.toNatClampNeg ((40 * s.1) + s.2.2.1) then none else if s.2.2.1 < 0 ∨ 36 ≤ Int32.toNatClampNeg s.2.2.1 then none else if 10000 ≤ (s.2.2.2.1 7 (Int32.toNatClampNeg s.2.2.1)) then if (s.2.2.2.1 20 (Int32.toNatClampNeg ((40 * s.1) + s.2.2.1))) = (-1) then some (.inl (s.1, s.2.1, (s.2.2.1 + 1), s.2.2.2)) else if s.2.2.1 = s.2.1 then some (.inr (0, s.2.2.2)) else some (.inr ((1 + s.2.2.1), s.2.2.2)) else if s.2.2.1 < 0 ∨ 36 ≤ Int32.toNatClampNeg s.2.2.1 then none else if (s.2.2.2.1 20 (Int32.toNatClampNeg ((40 * s.1) + s.2.2.1))) = (s.2.2.2.1 7 (Int32.toNatClampNeg s.2.2.1)) then some (.inl (s.1, s.2.1, (s.2.2.1 + 1), s.2.2.2)) else if s.2.2.1 = s.2.1 then some (.inr (0, s.2.2.2)) else some (.inr ((1 + s.2.2.1), s.2.2.2))
noncomputable def sX4_judge_70 (y1 : Int32) (y3 : Int32) (y4 : Int32) (z : mm_S) : Option (Int32 × mm_S) := mm_wh (lX4_judge_70 ) mm_fu (y1, y3, y4, z)
noncomputable def sX4_judge_55 (y1 : Int32) (z : mm_S) : Option (Int32 × mm_S) := if y1 < 0 ∨ 4 ≤ Int32.toNatClampNeg y1 then none else let v5 : Int32 := (mm_min 36 (z.1 19 (Int32.toNatClampNeg y1))); (sX4_judge_70 y1 v5 0 z)
noncomputable def sX4_judge_46 (y1 : Int32) (y2 : Int32) (z : mm_S) : Option (Int32 × mm_S) := (sX4_findHeard y2 7 z).bind fun q4 => (sX4_judge_55 y1 q4)
noncomputable def sX4_judge_31 (y1 : Int32) (y2 : Int32) (z : mm_S) : Option (Int32 × mm_S) := if (pX4_isCrew y2 z) = 0 then (sX4_finding (-1000001) z).bind fun q3 => some (q3.1, q3.2) else (sX4_judge_46 y1 y2 z)
noncomputable def sX4_judge_14 (y1 : Int32) (y2 : Int32) (z : mm_S) : Option (Int32 × mm_S) := if y1 < 0 ∨ 4 ≤ Int32.toNatClampNeg y1 then none else if (z.1 18 (Int32.toNatClampNeg y1)) = 0 then (sX4_finding (-1000006) z).bind fun q2 => some (q2.1, q2.2) else (sX4_judge_31 y1 y2 z)
noncomputable def sX4_judge_0 (x1 : Int32) (x2 : Int32) (z : mm_S) : Option (Int32 × mm_S) := if (pX4_isSheet x1) = 0 then (sX4_finding (-1000001) z).bind fun q1 => some (q1.1, q1.2) else (sX4_judge_14 x1 x2 z)
noncomputable def sX4_judge (x1 : Int32) (x2 : Int32) (z : mm_S) : Option (Int32 × mm_S) := sX4_judge_0 x1 x2 z
theorem sp_X4_judge (x1 : Int32) (x2 : Int32) (z : mm_S) (hk : ∀ v ∈ [mm_P 4 0, mm_I x1, mm_I x2], mm_ok 22 lyTM 22 17 v) (q : Int32 × mm_S) (hq : sX4_judge x1 x2 z = some q) : f_X4_judge [mm_P 4 0, mm_I x1, mm_I x2] z (some (mm_I q.1), q.2) := sorry
noncomputable def lV_X4_image : List (Nat × (List mm_V → mm_S → (Option mm_V → mm_S → Option mm_R) → Option mm_R)) := []
noncomputable def mV_X4_image (k : Nat) (as : List mm_V) (z : mm_S) (kk : Option mm_V → mm_S → Option mm_R) : Option mm_R := match mm_at lV_X4_image k with
  | some f => f as z kk
  | none => none
noncomputable def arV_X4_image (k : Nat) : Nat := (mm_at [] k).getD 0
noncomputable def lS_X4_image : List (Nat × (List mm_V → mm_S → (Option mm_V → mm_S → Option mm_R) → Option mm_R)) := [(102, clo_X4_copyRow)]
noncomputable def mS_X4_image (k : Nat) (as : List mm_V) (z : mm_S) (kk : Option mm_V → mm_S → Option mm_R) : Option mm_R := match mm_at lS_X4_image k with
  | some f => f as z kk
  | none => none
noncomputable def arS_X4_image (k : Nat) : Nat := (mm_at [(102, 2)] k).getD 0
def ct_X4_image : List (Nat × List Nat) := [(11, [0]), (16, [])]
noncomputable def go_X4_image : Nat → mm_K := mm_go (fun k => mm_at flX4 k) (fun k => mm_at clX4 k) (fun k => mm_at glX4 k) arV_X4_image arS_X4_image mV_X4_image mS_X4_image lenM roM snM 1 0 tbX4_image ct_X4_image
def rm_X4_image : Room := { frames := 1, cells := 0, slots := 0, locals := 22 }
noncomputable def f_X4_image (as : List mm_V) (z : mm_S) (o : mm_R) : Prop := (as.map mm_cat).sum ≤ 1 ∧ ∃ n, go_X4_image n 0 (mm_ar 0 as) [] z = some o
theorem M_X4_image : mm_M lyTM lyFA lenM snM 22 22 17 roM rsA nfA nmA [] yX4_image cX4_image 1 (some .int) rm_X4_image f_X4_image := sorry
noncomputable def sX4_image_16  (z : mm_S) : Option (Int32 × mm_S) := some (1, z)
noncomputable def sX4_image_11  (z : mm_S) : Option (Int32 × mm_S) := (sX4_image_16 ((mm_ui z.1 0 3 1), z.2))
noncomputable def sX4_image_0  (z : mm_S) : Option (Int32 × mm_S) := (sX4_copyRow 1 2 z).bind fun q1 => (sX4_image_11 q1)
noncomputable def sX4_image  (z : mm_S) : Option (Int32 × mm_S) := sX4_image_0  z
theorem sp_X4_image  (z : mm_S) (hk : ∀ v ∈ [mm_P 4 0], mm_ok 22 lyTM 22 17 v) (q : Int32 × mm_S) (hq : sX4_image  z = some q) : f_X4_image [mm_P 4 0] z (some (mm_I q.1), q.2) := sorry
noncomputable def lV_X4_undo : List (Nat × (List mm_V → mm_S → (Option mm_V → mm_S → Option mm_R) → Option mm_R)) := [(124, clo_X4_finding)]
noncomputable def mV_X4_undo (k : Nat) (as : List mm_V) (z : mm_S) (kk : Option mm_V → mm_S → Option mm_R) : Option mm_R := match mm_at lV_X4_undo k with
  | some f => f as z kk
  | none => none
noncomputable def arV_X4_undo (k : Nat) : Nat := (mm_at [(124, 2)] k).getD 0
noncomputable def lS_X4_undo : List (Nat × (List mm_V → mm_S → (Option mm_V → mm_S → Option mm_R) → Option mm_R)) := [(102, clo_X4_copyRow)]
noncomputable def mS_X4_undo (k : Nat) (as : List mm_V) (z : mm_S) (kk : Option mm_V → mm_S → Option mm_R) : Option mm_R := match mm_at lS_X4_undo k with
  | some f => f as z kk
  | none => none
noncomputable def arS_X4_undo (k : Nat) : Nat := (mm_at [(102, 2)] k).getD 0
def ct_X4_undo : List (Nat × List Nat) := [(14, [0]), (25, [0])]
noncomputable def go_X4_undo : Nat → mm_K := mm_go (fun k => mm_at flX4 k) (fun k => mm_at clX4 k) (fun k => mm_at glX4 k) arV_X4_undo arS_X4_undo mV_X4_undo mS_X4_undo lenM roM snM 1 0 tbX4_undo ct_X4_undo
def rm_X4_undo : Room := { frames := 1, cells := 0, slots := 0, locals := 22 }
noncomputable def f_X4_undo (as : List mm_V) (z : mm_S) (o : mm_R) : Prop := (as.map mm_cat).sum ≤ 1 ∧ ∃ n, go_X4_undo n 0 (mm_ar 0 as) [] z = some o
theorem M_X4_undo : mm_M lyTM lyFA lenM snM 22 22 17 roM rsA nfA nmA [] yX4_undo cX4_undo 1 (some .int) rm_X4_undo f_X4_undo := sorry
noncomputable def sX4_undo_25  (z : mm_S) : Option (Int32 × mm_S) := some ((z.1 1 0), z)
noncomputable def sX4_undo_14  (z : mm_S) : Option (Int32 × mm_S) := (sX4_copyRow 2 1 z).bind fun q2 => (sX4_undo_25 q2)
noncomputable def sX4_undo_0  (z : mm_S) : Option (Int32 × mm_S) := if (z.1 0 3) = 0 then (sX4_finding (-1000004) z).bind fun q1 => some (q1.1, q1.2) else (sX4_undo_14 z)
noncomputable def sX4_undo  (z : mm_S) : Option (Int32 × mm_S) := sX4_undo_0  z
theorem sp_X4_undo  (z : mm_S) (hk : ∀ v ∈ [mm_P 4 0], mm_ok 22 lyTM 22 17 v) (q : Int32 × mm_S) (hq : sX4_undo  z = some q) : f_X4_undo [mm_P 4 0] z (some (mm_I q.1), q.2) := sorry
noncomputable def lV_X4_tear : List (Nat × (List mm_V → mm_S → (Option mm_V → mm_S → Option mm_R) → Option mm_R)) := []
noncomputable def mV_X4_tear (k : Nat) (as : List mm_V) (z : mm_S) (kk : Option mm_V → mm_S → Option mm_R) : Option mm_R := match mm_at lV_X4_tear k with
  | some f => f as z kk
  | none => none
noncomputable def arV_X4_tear (k : Nat) : Nat := (mm_at [] k).getD 0
noncomputable def lS_X4_tear : List (Nat × (List mm_V → mm_S → (Option mm_V → mm_S → Option mm_R) → Option mm_R)) := []
noncomputable def mS_X4_tear (k : Nat) (as : List mm_V) (z : mm_S) (kk : Option mm_V → mm_S → Option mm_R) : Option mm_R := match mm_at lS_X4_tear k with
  | some f => f as z kk
  | none => none
noncomputable def arS_X4_tear (k : Nat) : Nat := (mm_at [] k).getD 0
def ct_X4_tear : List (Nat × List Nat) := [(18, [1])]
noncomputable def go_X4_tear : Nat → mm_K := mm_go (fun k => mm_at flX4 k) (fun k => mm_at clX4 k) (fun k => mm_at glX4 k) arV_X4_tear arS_X4_tear mV_X4_tear mS_X4_tear lenM roM snM 2 0 tbX4_tear ct_X4_tear
def rm_X4_tear : Room := { frames := 0, cells := 0, slots := 0, locals := 0 }
noncomputable def f_X4_tear (as : List mm_V) (z : mm_S) (o : mm_R) : Prop := (as.map mm_cat).sum ≤ 2 ∧ ∃ n, go_X4_tear n 0 (mm_ar 0 as) [] z = some o
theorem M_X4_tear : mm_M lyTM lyFA lenM snM 22 22 17 roM rsA nfA nmA [] yX4_tear cX4_tear 2 (some .int) rm_X4_tear f_X4_tear := sorry
noncomputable def sX4_tear_18 (y1 : Int32) (z : mm_S) : Option (Int32 × mm_S) := some (y1, z)
noncomputable def sX4_tear_0  (z : mm_S) : Option (Int32 × mm_S) := if (z.1 0 3) = 0 then (sX4_tear_18 0 ((mm_ui z.1 0 3 0), z.2)) else (sX4_tear_18 1 ((mm_ui z.1 0 3 0), z.2))
noncomputable def sX4_tear  (z : mm_S) : Option (Int32 × mm_S) := sX4_tear_0  z
theorem sp_X4_tear  (z : mm_S) (hk : ∀ v ∈ [mm_P 4 0], mm_ok 22 lyTM 22 17 v) (q : Int32 × mm_S) (hq : sX4_tear  z = some q) : f_X4_tear [mm_P 4 0] z (some (mm_I q.1), q.2) := sorry
noncomputable def lV_X4_count : List (Nat × (List mm_V → mm_S → (Option mm_V → mm_S → Option mm_R) → Option mm_R)) := [(124, clo_X4_finding), (161, clo_X4_cellsOf)]
noncomputable def mV_X4_count (k : Nat) (as : List mm_V) (z : mm_S) (kk : Option mm_V → mm_S → Option mm_R) : Option mm_R := match mm_at lV_X4_count k with
  | some f => f as z kk
  | none => none
noncomputable def arV_X4_count (k : Nat) : Nat := (mm_at [(124, 2), (161, 2)] k).getD 0
noncomputable def lS_X4_count : List (Nat × (List mm_V → mm_S → (Option mm_V → mm_S → Option mm_R) → Option mm_R)) := [(232, clo_X4_bits)]
noncomputable def mS_X4_count (k : Nat) (as : List mm_V) (z : mm_S) (kk : Option mm_V → mm_S → Option mm_R) : Option mm_R := match mm_at lS_X4_count k with
  | some f => f as z kk
  | none => none
noncomputable def arS_X4_count (k : Nat) : Nat := (mm_at [(232, 1)] k).getD 0
def ct_X4_count : List (Nat × List Nat) := [(99, [0, 2, 3])]
noncomputable def go_X4_count : Nat → mm_K := mm_go (fun k => mm_at flX4 k) (fun k => mm_at clX4 k) (fun k => mm_at glX4 k) arV_X4_count arS_X4_count mV_X4_count mS_X4_count lenM roM snM 4 0 tbX4_count ct_X4_count
def rm_X4_count : Room := { frames := 2, cells := 0, slots := 0, locals := 45 }
noncomputable def f_X4_count (as : List mm_V) (z : mm_S) (o : mm_R) : Prop := (as.map mm_cat).sum ≤ 4 ∧ ∃ n, go_X4_count n 0 (mm_ar 0 as) [] z = some o
theorem M_X4_count : mm_M lyTM lyFA lenM snM 22 22 17 roM rsA nfA nmA [] yX4_count cX4_count 4 (some .int) rm_X4_count f_X4_count := sorry
noncomputable def lX4_count_99 (s : Int32 × Int32 × mm_S) : Option ((Int32 × Int32 × mm_S) ⊕ (Int32 × mm_S)) := if 10 ≤ s.2.1 then some (.inr (s.1, s.2.2)) else if (5 + s.2.1) < 0 ∨ 97 ≤ Int32.toNatClampNeg (5 + s.2.1) then none else if 0 ≤ (s.2.2.1 1 (Int32.toNatClampNeg (5 + s.2.1))) then some (.inl ((s.1 + 1), (s.2.1 + 1), s.2.2)) else some (.inl ((s.1 + 0), (s.2.1 + 1), s.2.2))
noncomputable def sX4_count_99 (y2 : Int32) (y3 : Int32) (z : mm_S) : Option (Int32 × mm_S) := mm_wh (lX4_count_99 ) mm_fu (y2, y3, z)
noncomputable def sX4_count_0 (x1 : Int32) (z : mm_S) : Option (Int32 × mm_S) := if x1 = 0 then some ((z.1 1 0), z) else if x1 = 1 then some ((z.1 1 1), z) else if x1 = 2 then (sX4_cellsOf 2 z).bind fun q2 => (sX4_bits q2.1 q2.2).bind fun q3 => some (q3.1, q3.2) else if x1 = 3 then some ((z.1 1 2), z) else if x1 = 4 then some ((z.1 1 3), z) else if x1 = 5 then some ((z.1 0 18), z) else if x1 = 6 then some ((z.1 1 4), z) else if x1 = 7 then (sX4_count_99 0 0 z) else (sX4_finding (-1000001) z).bind fun q1 => some (q1.1, q1.2)
noncomputable def sX4_count (x1 : Int32) (z : mm_S) : Option (Int32 × mm_S) := sX4_count_0 x1 z
theorem sp_X4_count (x1 : Int32) (z : mm_S) (hk : ∀ v ∈ [mm_P 4 0, mm_I x1], mm_ok 22 lyTM 22 17 v) (q : Int32 × mm_S) (hq : sX4_count x1 z = some q) : f_X4_count [mm_P 4 0, mm_I x1] z (some (mm_I q.1), q.2) := sorry
noncomputable def lV_X4_status : List (Nat × (List mm_V → mm_S → (Option mm_V → mm_S → Option mm_R) → Option mm_R)) := [(124, clo_X4_finding)]
noncomputable def mV_X4_status (k : Nat) (as : List mm_V) (z : mm_S) (kk : Option mm_V → mm_S → Option mm_R) : Option mm_R := match mm_at lV_X4_status k with
  | some f => f as z kk
  | none => none
noncomputable def arV_X4_status (k : Nat) : Nat := (mm_at [(124, 2)] k).getD 0
noncomputable def lS_X4_status : List (Nat × (List mm_V → mm_S → (Option mm_V → mm_S → Option mm_R) → Option mm_R)) := [(106, clo_X4_within)]
noncomputable def mS_X4_status (k : Nat) (as : List mm_V) (z : mm_S) (kk : Option mm_V → mm_S → Option mm_R) : Option mm_R := match mm_at lS_X4_status k with
  | some f => f as z kk
  | none => none
noncomputable def arS_X4_status (k : Nat) : Nat := (mm_at [(106, 3)] k).getD 0
def ct_X4_status : List (Nat × List Nat) := []
noncomputable def go_X4_status : Nat → mm_K := mm_go (fun k => mm_at flX4 k) (fun k => mm_at clX4 k) (fun k => mm_at glX4 k) arV_X4_status arS_X4_status mV_X4_status mS_X4_status lenM roM snM 2 0 tbX4_status ct_X4_status
def rm_X4_status : Room := { frames := 1, cells := 0, slots := 0, locals := 22 }
noncomputable def f_X4_status (as : List mm_V) (z : mm_S) (o : mm_R) : Prop := (as.map mm_cat).sum ≤ 2 ∧ ∃ n, go_X4_status n 0 (mm_ar 0 as) [] z = some o
theorem M_X4_status : mm_M lyTM lyFA lenM snM 22 22 17 roM rsA nfA nmA [] yX4_status cX4_status 2 (some .int) rm_X4_status f_X4_status := sorry
noncomputable def sX4_status_0 (x1 : Int32) (z : mm_S) : Option (Int32 × mm_S) := if (pX4_within x1 (-1) 6) = 0 then (sX4_finding (-1000001) z).bind fun q1 => some (q1.1, q1.2) else if (x1 + 1) < 0 ∨ 8 ≤ Int32.toNatClampNeg (x1 + 1) then none else some ((z.1 4 (Int32.toNatClampNeg (x1 + 1))), z)
noncomputable def sX4_status (x1 : Int32) (z : mm_S) : Option (Int32 × mm_S) := sX4_status_0 x1 z
theorem sp_X4_status (x1 : Int32) (z : mm_S) (hk : ∀ v ∈ [mm_P 4 0, mm_I x1], mm_ok 22 lyTM 22 17 v) (q : Int32 × mm_S) (hq : sX4_status x1 z = some q) : f_X4_status [mm_P 4 0, mm_I x1] z (some (mm_I q.1), q.2) := sorry
def tx_len (i : Nat) : Int32 := nI (mm_sl.getD i 0)
def tx_ch (i k : Nat) : Int32 := (mm_sb.getD i []).getD k 0 &&& 255
section
variable {G : mm_G} {lyT : Nat → Nat} {lyF : Nat → List (Nat × Nat × Nat × Nat)} {lenA : Nat → Nat} {sn : Nat → Nat → Nat} {lyN nR : Nat} {roA : Nat → Nat → Int32} {rs : mm_rs} {nf : mm_nf} {nm : mm_nm} {ss : mm_ss}
theorem tx_good {y : MethodName} {cc : ByteArray} {nL : Nat} {ret : Option FieldType} (h : Cond.code y cc nL ret ∈ lw_gd) : GoodIn lw_gd (.code y cc nL ret :: lw_gd) := sorry
end
def tx_at (i : Nat) (k : Int32) (z : mm_S) : Option (Int32 × mm_S) := if k < 0 ∨ mm_sl.getD i 0 ≤ Int32.toNatClampNeg k then none else some (tx_ch i (Int32.toNatClampNeg k), z)
noncomputable def sX4_isWord_63 (y1 : Nat) (y3 : Int32) (z : mm_S) : Option ((Nat × Int32 × Int32 × mm_S) ⊕ (Int32 × mm_S)) := some (.inl (y1, 1, (y3 + 1), z))
noncomputable def lX4_isWord_32 (s : Nat × Int32 × Int32 × mm_S) : Option ((Nat × Int32 × Int32 × mm_S) ⊕ (Int32 × mm_S)) := if (tx_len s.1) ≤ s.2.2.1 then if s.2.1 = 0 then some (.inr (0, s.2.2.2)) else if s.2.1 = 1 then some (.inr (1, s.2.2.2)) else none else if s.2.1 = 0 then if s.2.1 = 0 then some (.inr (0, s.2.2.2)) else if s.2.1 = 1 then some (.inr (1, s.2.2.2)) else none else if ((s.2.2.2.1 0 19) + s.2.2.1) < 0 ∨ 120 ≤ Int32.toNatClampNeg ((s.2.2.2.1 0 19) + s.2.2.1) then none else (tx_at s.1 s.2.2.1 s.2.2.2).bind fun q1 => if (s.2.2.2.1 13 (Int32.toNatClampNeg ((s.2.2.2.1 0 19) + s.2.2.1))) = q1.1 then (sX4_isWord_63 s.1 s.2.2.1 q1.2) else some (.inl (s.1, 0, (s.2.2.1 + 1), q1.2))
noncomputable def sX4_isWord_32 (y1 : Nat) (y2 : Int32) (y3 : Int32) (z : mm_S) : Option (Int32 × mm_S) := mm_wh (lX4_isWord_32 ) mm_fu (y1, y2, y3, z)
noncomputable def sX4_isWord_0 (x1 : Nat) (z : mm_S) : Option (Int32 × mm_S) := if (z.1 0 21) = 1 then if ((z.1 0 20) - (z.1 0 19)) = (tx_len x1) then (sX4_isWord_32 x1 1 0 z) else (sX4_isWord_32 x1 0 0 z) else (sX4_isWord_32 x1 0 0 z)
noncomputable def sX4_isWord (x1 : Nat) (z : mm_S) : Option (Int32 × mm_S) := sX4_isWord_0 x1 z
noncomputable def sX4_oneOf_20 (y1 : Nat) (y3 : Int32) (z : mm_S) : Option ((Nat × Int32 × Int32 × mm_S) ⊕ (Int32 × mm_S)) := some (.inl (y1, y3, (y3 + 1), z))
noncomputable def lX4_oneOf_4 (s : Nat × Int32 × Int32 × mm_S) : Option ((Nat × Int32 × Int32 × mm_S) ⊕ (Int32 × mm_S)) := if (Int32.ofNat (lenM s.1)) ≤ s.2.2.1 then some (.inr (s.2.1, s.2.2.2)) else if s.2.2.1 < 0 ∨ lenM s.1 ≤ Int32.toNatClampNeg s.2.2.1 then none else (sX4_isWord (snM s.1 (Int32.toNatClampNeg s.2.2.1)) s.2.2.2).bind fun q1 => if q1.1 = 0 then some (.inl (s.1, s.2.1, (s.2.2.1 + 1), q1.2)) else (sX4_oneOf_20 s.1 s.2.2.1 q1.2)
noncomputable def sX4_oneOf_4 (y1 : Nat) (y2 : Int32) (y3 : Int32) (z : mm_S) : Option (Int32 × mm_S) := mm_wh (lX4_oneOf_4 ) mm_fu (y1, y2, y3, z)
noncomputable def sX4_oneOf_0 (x1 : Nat) (z : mm_S) : Option (Int32 × mm_S) := (sX4_oneOf_4 x1 (-1) 0 z)
noncomputable def sX4_oneOf (x1 : Nat) (z : mm_S) : Option (Int32 × mm_S) := sX4_oneOf_0 x1 z
noncomputable def sX4_isNext_30 (y2 : Int32) (z : mm_S) : Option (Int32 × mm_S) := if y2 = 0 then some (0, z) else if y2 = 1 then some (1, z) else none
noncomputable def sX4_isNext_15  (z : mm_S) : Option (Int32 × mm_S) := (sX4_must 1 z).bind fun q2 => (sX4_isNext_30 1 q2)
noncomputable def sX4_isNext_0 (x1 : Nat) (z : mm_S) : Option (Int32 × mm_S) := if (z.1 0 23) = 0 then (sX4_isWord x1 z).bind fun q1 => if q1.1 = 0 then (sX4_isNext_30 0 q1.2) else (sX4_isNext_15 q1.2) else (sX4_isNext_30 0 z)
noncomputable def sX4_isNext (x1 : Nat) (z : mm_S) : Option (Int32 × mm_S) := sX4_isNext_0 x1 z
noncomputable def sX4_readUnsure_148  (z : mm_S) : Option (mm_S) := some (z)
noncomputable def sX4_readUnsure_139 (y2 : Int32) (z : mm_S) : Option (mm_S) := (sX4_item 21 y2 0 0 z).bind fun q9 => (sX4_readUnsure_148 q9)
noncomputable def sX4_readUnsure_129 (y2 : Int32) (z : mm_S) : Option (mm_S) := (sX4_readUnsure_139 y2 ((mm_ui z.1 0 30 ((z.1 0 30) + 1)), z.2))
noncomputable def sX4_readUnsure_112 (y2 : Int32) (z : mm_S) : Option (mm_S) := if (z.1 0 23) = 0 then if (z.1 0 30) < 0 ∨ 4 ≤ Int32.toNatClampNeg (z.1 0 30) then none else (sX4_readUnsure_129 y2 ((mm_ui z.1 17 (Int32.toNatClampNeg (z.1 0 30)) y2), z.2)) else (sX4_readUnsure_148 z)
noncomputable def lX4_readUnsure_55 (s : Int32 × Int32 × Int32 × mm_S) : Option ((Int32 × Int32 × Int32 × mm_S) ⊕ (mm_S)) := if (s.2.2.2.1 0 30) ≤ s.2.2.1 then if s.1 = 0 then if s.2.1 < 0 then (sX4_must 0 s.2.2.2).bind fun q6 => ((sX4_readUnsure_112 s.2.1 q6).map fun w => (Sum.inr w)) else if 36 ≤ s.2.1 then (sX4_must 0 s.2.2.2).bind fun q7 => ((sX4_readUnsure_112 s.2.1 q7).map fun w => (Sum.inr w)) else (sX4_must 1 s.2.2.2).bind fun q8 => ((sX4_readUnsure_112 s.2.1 q8).map fun w => (Sum.inr w)) else (sX4_must 0 s.2.2.2).bind fun q5 => ((sX4_readUnsure_112 s.2.1 q5).map fun w => (Sum.inr w)) else if s.1 = 0 then if s.2.2.1 < 0 ∨ 4 ≤ Int32.toNatClampNeg s.2.2.1 then none else if (s.2.2.2.1 17 (Int32.toNatClampNeg s.2.2.1)) = s.2.1 then some (.inl (1, s.2.1, (s.2.2.1 + 1), s.2.2.2)) else some (.inl (0, s.2.1, (s.2.2.1 + 1), s.2.2.2)) else some (.inl (1, s.2.1, (s.2.2.1 + 1), s.2.2.2))
noncomputable def sX4_readUnsure_55 (y1 : Int32) (y2 : Int32) (y3 : Int32) (z : mm_S) : Option (mm_S) := mm_wh (lX4_readUnsure_55 ) mm_fu (y1, y2, y3, z)
noncomputable def sX4_readUnsure_27  (z : mm_S) : Option (mm_S) := if (z.1 0 23) = 0 then if (z.1 0 21) = 2 then (sX4_readUnsure_55 0 (z.1 0 22) 0 z) else (sX4_readUnsure_55 0 (-1) 0 z) else (sX4_readUnsure_55 0 (-1) 0 z)
noncomputable def sX4_readUnsure_0  (z : mm_S) : Option (mm_S) := (sX4_isWord 13 z).bind fun q1 => if q1.1 = 0 then (sX4_must 0 q1.2).bind fun q2 => (sX4_readUnsure_27 q2) else if 4 ≤ (q1.2.1 0 30) then (sX4_must 0 q1.2).bind fun q3 => (sX4_readUnsure_27 q3) else (sX4_must 1 q1.2).bind fun q4 => (sX4_readUnsure_27 q4)
noncomputable def sX4_readUnsure  (z : mm_S) : Option (mm_S) := sX4_readUnsure_0  z
noncomputable def sX4_readItem_233  (z : mm_S) : Option (mm_S) := some (z)
noncomputable def sX4_readItem_101  (z : mm_S) : Option (mm_S) := (sX4_readItem_233 z)
noncomputable def sX4_readItem_60 (y1 : Int32) (z : mm_S) : Option (mm_S) := (sX4_number 0 35 z).bind fun q21 => (sX4_isNext 15 q21.2).bind fun q22 => if q22.1 = 0 then (sX4_item y1 q21.1 6 0 q22.2).bind fun q23 => (sX4_readItem_101 q23) else (sX4_number 1 20 q22.2).bind fun q24 => (sX4_item y1 q21.1 q24.1 0 q24.2).bind fun q25 => (sX4_readItem_101 q25)
noncomputable def sX4_readItem_70 (y1 : Int32) (z : mm_S) : Option (mm_S) := (sX4_isNext 15 z).bind fun q17 => if q17.1 = 0 then (sX4_item y1 0 6 0 q17.2).bind fun q18 => (sX4_readItem_101 q18) else (sX4_number 1 20 q17.2).bind fun q19 => (sX4_item y1 0 q19.1 0 q19.2).bind fun q20 => (sX4_readItem_101 q20)
noncomputable def sX4_readItem_50 (y1 : Int32) (z : mm_S) : Option (mm_S) := (sX4_isNext 14 z).bind fun q15 => if q15.1 = 0 then (sX4_readItem_70 y1 q15.2) else (sX4_readItem_60 y1 q15.2)
noncomputable def sX4_readItem_40 (y1 : Int32) (z : mm_S) : Option (mm_S) := (sX4_readItem_50 y1 ((mm_ui z.1 0 28 ((z.1 0 28) + 1)), z.2))
noncomputable def sX4_readItem_152  (z : mm_S) : Option (mm_S) := (sX4_readItem_233 z)
noncomputable def sX4_readItem_121 (y2 : Int32) (y3 : Int32) (z : mm_S) : Option (mm_S) := (sX4_isNext 16 z).bind fun q11 => if q11.1 = 0 then (sX4_item (10 + y2) y3 y3 0 q11.2).bind fun q12 => (sX4_readItem_152 q12) else (sX4_number y3 35 q11.2).bind fun q13 => (sX4_item (10 + y2) y3 q13.1 0 q13.2).bind fun q14 => (sX4_readItem_152 q14)
noncomputable def sX4_readItem_113 (y2 : Int32) (z : mm_S) : Option (mm_S) := (sX4_number 0 35 z).bind fun q10 => (sX4_readItem_121 y2 q10.1 q10.2)
noncomputable def sX4_readItem_226  (z : mm_S) : Option (mm_S) := (sX4_readItem_233 z)
noncomputable def sX4_readItem_210 (y3 : Int32) (y4 : Int32) (z : mm_S) : Option (mm_S) := (sX4_number 0 99 z).bind fun q27 => (sX4_item 20 y3 y4 q27.1 q27.2).bind fun q28 => (sX4_readItem_226 q28)
noncomputable def sX4_readItem_201 (y3 : Int32) (z : mm_S) : Option (mm_S) := (sX4_number 0 35 z).bind fun q26 => (sX4_readItem_210 y3 q26.1 q26.2)
noncomputable def sX4_readItem_193  (z : mm_S) : Option (mm_S) := (sX4_number 0 35 z).bind fun q16 => (sX4_readItem_201 q16.1 q16.2)
noncomputable def sX4_readItem_183  (z : mm_S) : Option (mm_S) := (sX4_readItem_193 ((mm_ui z.1 0 29 ((z.1 0 29) + 1)), z.2))
noncomputable def sX4_readItem_165  (z : mm_S) : Option (mm_S) := if 8 ≤ (z.1 0 29) then (sX4_must 0 z).bind fun q8 => (sX4_readItem_183 q8) else (sX4_must 1 z).bind fun q9 => (sX4_readItem_183 q9)
noncomputable def sX4_readItem_18 (y1 : Int32) (y2 : Int32) (z : mm_S) : Option (mm_S) := if y1 < 0 then if y2 < 0 then (sX4_isWord 12 z).bind fun q3 => if q3.1 = 0 then (sX4_readUnsure  q3.2).bind fun q4 => (sX4_readItem_233 q4) else (sX4_readItem_165 q3.2) else (sX4_must 1 z).bind fun q5 => (sX4_readItem_113 y2 q5) else if 6 ≤ (z.1 0 28) then (sX4_must 0 z).bind fun q6 => (sX4_readItem_40 y1 q6) else (sX4_must 1 z).bind fun q7 => (sX4_readItem_40 y1 q7)
noncomputable def sX4_readItem_9 (y1 : Int32) (z : mm_S) : Option (mm_S) := (sX4_oneOf 15 z).bind fun q2 => (sX4_readItem_18 y1 q2.1 q2.2)
noncomputable def sX4_readItem_0  (z : mm_S) : Option (mm_S) := (sX4_oneOf 14 z).bind fun q1 => (sX4_readItem_9 q1.1 q1.2)
noncomputable def sX4_readItem  (z : mm_S) : Option (mm_S) := sX4_readItem_0  z
noncomputable def clo_X4_readItem (as : List mm_V) (z : mm_S) (kk : Option mm_V → mm_S → Option mm_R) : Option mm_R := mm_pr as fun t o0 as => bif Nat.beq t 4 then (match as with | [] => (sX4_readItem z).bind fun q => kk none q | _ => none) else none
noncomputable def lV_X4_text : List (Nat × (List mm_V → mm_S → (Option mm_V → mm_S → Option mm_R) → Option mm_R)) := [(334, clo_X4_next), (337, clo_X4_must), (383, clo_X4_readItem), (386, clo_X4_isSo)]
noncomputable def mV_X4_text (k : Nat) (as : List mm_V) (z : mm_S) (kk : Option mm_V → mm_S → Option mm_R) : Option mm_R := match mm_at lV_X4_text k with
  | some f => f as z kk
  | none => none
noncomputable def arV_X4_text (k : Nat) : Nat := (mm_at [(334, 1), (337, 2), (383, 1), (386, 2)] k).getD 0
noncomputable def lS_X4_text : List (Nat × (List mm_V → mm_S → (Option mm_V → mm_S → Option mm_R) → Option mm_R)) := []
noncomputable def mS_X4_text (k : Nat) (as : List mm_V) (z : mm_S) (kk : Option mm_V → mm_S → Option mm_R) : Option mm_R := match mm_at lS_X4_text k with
  | some f => f as z kk
  | none => none
noncomputable def arS_X4_text (k : Nat) : Nat := (mm_at [] k).getD 0
def ct_X4_text : List (Nat × List Nat) := [(5, [0]), (10, [0]), (15, [0]), (25, [0]), (35, [0]), (45, [0]), (47, [0, 1]), (70, [0, 1]), (80, [0]), (84, [0]), (118, [0]), (122, [0]), (141, [0]), (146, [0]), (164, [0, 1, 2]), (190, [0, 1, 2])]
noncomputable def go_X4_text : Nat → mm_K := mm_go (fun k => mm_at flX4 k) (fun k => mm_at clX4 k) (fun k => mm_at glX4 k) arV_X4_text arS_X4_text mV_X4_text mS_X4_text lenM roM snM 3 0 tbX4_text ct_X4_text
def rm_X4_text : Room := { frames := 7, cells := 0, slots := 0, locals := 155 }
noncomputable def f_X4_text (as : List mm_V) (z : mm_S) (o : mm_R) : Prop := (as.map mm_cat).sum ≤ 3 ∧ ∃ n, go_X4_text n 0 (mm_ar 0 as) [] z = some o
theorem M_X4_text : mm_M lyTM lyFA lenM snM 22 22 17 roM rsA nfA nmA [] yX4_text cX4_text 3 (some .int) rm_X4_text f_X4_text := sorry
noncomputable def sX4_text_70 (y1 : Int32) (z : mm_S) : Option ((Int32 × mm_S) ⊕ (Int32 × mm_S)) := some (.inl ((y1 + 1), z))
noncomputable def sX4_text_122  (z : mm_S) : Option ((mm_S) ⊕ (Int32 × mm_S)) := some (.inl z)
noncomputable def sX4_text_118  (z : mm_S) : Option ((mm_S) ⊕ (Int32 × mm_S)) := (sX4_readItem  z).bind fun q11 => (sX4_text_122 q11)
noncomputable def sX4_text_190 (y1 : Int32) (y2 : Int32) (z : mm_S) : Option ((Int32 × Int32 × mm_S) ⊕ (Int32 × mm_S)) := some (.inl (y1, (y2 + 1), z))
noncomputable def lX4_text_164 (s : Int32 × Int32 × mm_S) : Option ((Int32 × Int32 × mm_S) ⊕ (Int32 × mm_S)) := if (s.2.2.1 0 27) ≤ s.2.1 then some (.inr (s.1, s.2.2)) else (sX4_isSo (4 * s.2.1) s.2.2).bind fun q12 => if 0 ≤ q12.1 then (sX4_text_190 (s.1 + 1) s.2.1 q12.2) else (sX4_text_190 (s.1 + 0) s.2.1 q12.2)
noncomputable def sX4_text_164 (y1 : Int32) (y2 : Int32) (z : mm_S) : Option (Int32 × mm_S) := mm_wh (lX4_text_164 ) mm_fu (y1, y2, z)
noncomputable def sX4_text_146  (z : mm_S) : Option (Int32 × mm_S) := if (z.1 0 23) = 0 then (sX4_text_164 0 0 z) else some (((-1) - (z.1 0 19)), z)
noncomputable def sX4_text_141  (z : mm_S) : Option (Int32 × mm_S) := (sX4_text_146 ((mm_ui z.1 0 18 0), z.2))
noncomputable def lX4_text_84 (s : mm_S) : Option ((mm_S) ⊕ (Int32 × mm_S)) := if (s.1 0 23) = 0 then if (s.1 0 21) = 3 then if (s.1 0 19) < 0 ∨ 120 ≤ Int32.toNatClampNeg (s.1 0 19) then none else if (s.1 13 (Int32.toNatClampNeg (s.1 0 19))) = 59 then (sX4_must 1 s).bind fun q10 => (sX4_text_118 q10) else if (s.1 0 21) = 0 then (sX4_must 1 s).bind fun q9 => ((sX4_text_141 q9).map fun w => (Sum.inr w)) else (sX4_must 0 s).bind fun q8 => ((sX4_text_141 q8).map fun w => (Sum.inr w)) else if (s.1 0 21) = 0 then (sX4_must 1 s).bind fun q7 => ((sX4_text_141 q7).map fun w => (Sum.inr w)) else (sX4_must 0 s).bind fun q6 => ((sX4_text_141 q6).map fun w => (Sum.inr w)) else if (s.1 0 21) = 0 then (sX4_must 1 s).bind fun q5 => ((sX4_text_141 q5).map fun w => (Sum.inr w)) else (sX4_must 0 s).bind fun q4 => ((sX4_text_141 q4).map fun w => (Sum.inr w))
noncomputable def sX4_text_84  (z : mm_S) : Option (Int32 × mm_S) := mm_wh (lX4_text_84 ) mm_fu z
noncomputable def sX4_text_80  (z : mm_S) : Option (Int32 × mm_S) := (sX4_readItem  z).bind fun q3 => (sX4_text_84 q3)
noncomputable def lX4_text_47 (s : Int32 × mm_S) : Option ((Int32 × mm_S) ⊕ (Int32 × mm_S)) := if (s.2.1 0 30) ≤ s.1 then (sX4_next  s.2).bind fun q1 => ((sX4_text_80 q1).map fun w => (Sum.inr w)) else if (69 + s.1) < 0 ∨ 97 ≤ Int32.toNatClampNeg (69 + s.1) then none else if s.1 < 0 ∨ 4 ≤ Int32.toNatClampNeg s.1 then none else let u2 : mm_S := ((mm_ui s.2.1 17 (Int32.toNatClampNeg s.1) (s.2.1 1 (Int32.toNatClampNeg (69 + s.1)))), s.2.2); (sX4_text_70 s.1 u2)
noncomputable def sX4_text_47 (y1 : Int32) (z : mm_S) : Option (Int32 × mm_S) := mm_wh (lX4_text_47 ) mm_fu (y1, z)
noncomputable def sX4_text_45  (z : mm_S) : Option (Int32 × mm_S) := (sX4_text_47 0 z)
noncomputable def sX4_text_35  (z : mm_S) : Option (Int32 × mm_S) := (sX4_text_45 ((mm_ui z.1 0 30 (z.1 1 3)), z.2))
noncomputable def sX4_text_25  (z : mm_S) : Option (Int32 × mm_S) := (sX4_text_35 ((mm_ui z.1 0 29 (z.1 1 2)), z.2))
noncomputable def sX4_text_15  (z : mm_S) : Option (Int32 × mm_S) := (sX4_text_25 ((mm_ui z.1 0 28 (z.1 1 1)), z.2))
noncomputable def sX4_text_10  (z : mm_S) : Option (Int32 × mm_S) := (sX4_text_15 ((mm_ui z.1 0 27 0), z.2))
noncomputable def sX4_text_5  (z : mm_S) : Option (Int32 × mm_S) := (sX4_text_10 ((mm_ui z.1 0 23 0), z.2))
noncomputable def sX4_text_0  (z : mm_S) : Option (Int32 × mm_S) := (sX4_text_5 ((mm_ui z.1 0 20 0), z.2))
noncomputable def sX4_text  (z : mm_S) : Option (Int32 × mm_S) := sX4_text_0  z
theorem sp_X4_text  (z : mm_S) (hk : ∀ v ∈ [mm_P 4 0], mm_ok 22 lyTM 22 17 v) (q : Int32 × mm_S) (hq : sX4_text  z = some q) : f_X4_text [mm_P 4 0] z (some (mm_I q.1), q.2) := sorry
noncomputable def sX2_isWord_57  (z : mm_S) : Option (Int32 × mm_S) := some (0, z)
noncomputable def lX2_isWord_28 (s : Nat × Int32 × mm_S) : Option ((Nat × Int32 × mm_S) ⊕ (Int32 × mm_S)) := if (tx_len s.1) ≤ s.2.1 then some (.inr (1, s.2.2)) else (tx_at s.1 s.2.1 s.2.2).bind fun q1 => if (pX3_at 38 ((s.2.2.1 37 3) + s.2.1) s.2.2) = q1.1 then some (.inl (s.1, (s.2.1 + 1), q1.2)) else ((sX2_isWord_57 q1.2).map fun w => (Sum.inr w))
noncomputable def sX2_isWord_28 (y1 : Nat) (y2 : Int32) (z : mm_S) : Option (Int32 × mm_S) := mm_wh (lX2_isWord_28 ) mm_fu (y1, y2, z)
noncomputable def sX2_isWord_0 (x1 : Nat) (z : mm_S) : Option (Int32 × mm_S) := if (z.1 37 2) = 1 then if ((z.1 37 4) - (z.1 37 3)) = (tx_len x1) then (sX2_isWord_28 x1 0 z) else some (0, z) else some (0, z)
noncomputable def sX2_isWord (x1 : Nat) (z : mm_S) : Option (Int32 × mm_S) := sX2_isWord_0 x1 z
noncomputable def sX2_kindTold_9  (z : mm_S) : Option (Int32 × mm_S) := some (0, z)
noncomputable def sX2_kindTold_20  (z : mm_S) : Option (Int32 × mm_S) := some (1, z)
noncomputable def sX2_kindTold_31  (z : mm_S) : Option (Int32 × mm_S) := some (2, z)
noncomputable def sX2_kindTold_42  (z : mm_S) : Option (Int32 × mm_S) := some (3, z)
noncomputable def sX2_kindTold_53  (z : mm_S) : Option (Int32 × mm_S) := some (4, z)
noncomputable def sX2_kindTold_64  (z : mm_S) : Option (Int32 × mm_S) := some (5, z)
noncomputable def sX2_kindTold_75  (z : mm_S) : Option (Int32 × mm_S) := some (6, z)
noncomputable def sX2_kindTold_0  (z : mm_S) : Option (Int32 × mm_S) := (sX2_isWord 0 z).bind fun q1 => if q1.1 = 0 then (sX2_isWord 1 q1.2).bind fun q2 => if q2.1 = 0 then (sX2_isWord 2 q2.2).bind fun q3 => if q3.1 = 0 then (sX2_isWord 3 q3.2).bind fun q4 => if q4.1 = 0 then (sX2_isWord 4 q4.2).bind fun q5 => if q5.1 = 0 then (sX2_isWord 5 q5.2).bind fun q6 => if q6.1 = 0 then (sX2_isWord 6 q6.2).bind fun q7 => if q7.1 = 0 then some ((-1), q7.2) else (sX2_kindTold_75 q7.2) else (sX2_kindTold_64 q6.2) else (sX2_kindTold_53 q5.2) else (sX2_kindTold_42 q4.2) else (sX2_kindTold_31 q3.2) else (sX2_kindTold_20 q2.2) else (sX2_kindTold_9 q1.2)
noncomputable def sX2_kindTold  (z : mm_S) : Option (Int32 × mm_S) := sX2_kindTold_0  z
noncomputable def sX2_readCrew_98  (z : mm_S) : Option (Int32 × mm_S) := some (1, z)
noncomputable def sX2_readCrew_90 (y1 : Nat) (y2 : Int32) (y3 : Int32) (y4 : Int32) (z : mm_S) : Option (Int32 × mm_S) := let u5 := (tX0_addCrew y1 y2 y3 y4 z); (sX2_readCrew_98 u5)
noncomputable def sX2_readCrew_68 (y1 : Nat) (y2 : Int32) (y3 : Int32) (z : mm_S) : Option (Int32 × mm_S) := if (pX2_isNumber 1 20 z) = 0 then some (0, z) else (sX2_nextToken  z).bind fun q8 => (sX2_readCrew_90 y1 y2 y3 (z.1 37 5) q8)
noncomputable def sX2_readCrew_64 (y1 : Nat) (y2 : Int32) (y3 : Int32) (z : mm_S) : Option (Int32 × mm_S) := (sX2_nextToken  z).bind fun q6 => (sX2_readCrew_68 y1 y2 y3 q6)
noncomputable def sX2_readCrew_51 (y1 : Nat) (y2 : Int32) (y3 : Int32) (z : mm_S) : Option (Int32 × mm_S) := (sX2_isWord 15 z).bind fun q3 => if q3.1 = 0 then (sX2_readCrew_90 y1 y2 y3 6 q3.2) else (sX2_readCrew_64 y1 y2 y3 q3.2)
noncomputable def sX2_readCrew_30 (y1 : Nat) (y2 : Int32) (z : mm_S) : Option (Int32 × mm_S) := if (pX2_isNumber 0 35 z) = 0 then some (0, z) else (sX2_nextToken  z).bind fun q7 => (sX2_readCrew_51 y1 y2 (z.1 37 5) q7)
noncomputable def sX2_readCrew_26 (y1 : Nat) (y2 : Int32) (z : mm_S) : Option (Int32 × mm_S) := (sX2_nextToken  z).bind fun q4 => (sX2_readCrew_30 y1 y2 q4)
noncomputable def sX2_readCrew_15 (y1 : Nat) (y2 : Int32) (z : mm_S) : Option (Int32 × mm_S) := (sX2_isWord 14 z).bind fun q2 => if q2.1 = 0 then (sX2_readCrew_51 y1 y2 0 q2.2) else (sX2_readCrew_26 y1 y2 q2.2)
noncomputable def sX2_readCrew_0 (x1 : Nat) (x2 : Int32) (z : mm_S) : Option (Int32 × mm_S) := if (z.1 x1 4) < 6 then (sX2_nextToken  z).bind fun q1 => (sX2_readCrew_15 x1 x2 q1) else some (0, z)
noncomputable def sX2_readCrew (x1 : Nat) (x2 : Int32) (z : mm_S) : Option (Int32 × mm_S) := sX2_readCrew_0 x1 x2 z
noncomputable def sX2_stuffTold_9  (z : mm_S) : Option (Int32 × mm_S) := some (0, z)
noncomputable def sX2_stuffTold_20  (z : mm_S) : Option (Int32 × mm_S) := some (1, z)
noncomputable def sX2_stuffTold_31  (z : mm_S) : Option (Int32 × mm_S) := some (2, z)
noncomputable def sX2_stuffTold_42  (z : mm_S) : Option (Int32 × mm_S) := some (3, z)
noncomputable def sX2_stuffTold_53  (z : mm_S) : Option (Int32 × mm_S) := some (4, z)
noncomputable def sX2_stuffTold_0  (z : mm_S) : Option (Int32 × mm_S) := (sX2_isWord 7 z).bind fun q1 => if q1.1 = 0 then (sX2_isWord 8 q1.2).bind fun q2 => if q2.1 = 0 then (sX2_isWord 9 q2.2).bind fun q3 => if q3.1 = 0 then (sX2_isWord 10 q3.2).bind fun q4 => if q4.1 = 0 then (sX2_isWord 11 q4.2).bind fun q5 => if q5.1 = 0 then some ((-1), q5.2) else (sX2_stuffTold_53 q5.2) else (sX2_stuffTold_42 q4.2) else (sX2_stuffTold_31 q3.2) else (sX2_stuffTold_20 q2.2) else (sX2_stuffTold_9 q1.2)
noncomputable def sX2_stuffTold  (z : mm_S) : Option (Int32 × mm_S) := sX2_stuffTold_0  z
noncomputable def sX2_readStuff_90 (y1 : Nat) (y2 : Int32) (y4 : Int32) (y5 : Int32) (z : mm_S) : Option ((Nat × Int32 × Int32 × Int32 × mm_S) ⊕ (Int32 × mm_S)) := some (.inl (y1, y2, y4, (y5 + 1), z))
noncomputable def lX2_readStuff_66 (s : Nat × Int32 × Int32 × Int32 × mm_S) : Option ((Nat × Int32 × Int32 × Int32 × mm_S) ⊕ (Int32 × mm_S)) := if s.2.2.1 < s.2.2.2.1 then some (.inr (1, s.2.2.2.2)) else if 36 ≤ s.2.2.2.1 then some (.inr (1, s.2.2.2.2)) else let u5 := (tX1_put (s.1 + 1) s.2.2.2.1 s.2.1 s.2.2.2.2); (sX2_readStuff_90 s.1 s.2.1 s.2.2.1 s.2.2.2.1 u5)
noncomputable def sX2_readStuff_66 (y1 : Nat) (y2 : Int32) (y4 : Int32) (y5 : Int32) (z : mm_S) : Option (Int32 × mm_S) := mm_wh (lX2_readStuff_66 ) mm_fu (y1, y2, y4, y5, z)
noncomputable def sX2_readStuff_63 (y1 : Nat) (y2 : Int32) (y3 : Int32) (y4 : Int32) (z : mm_S) : Option (Int32 × mm_S) := (sX2_readStuff_66 y1 y2 y4 y3 z)
noncomputable def sX2_readStuff_41 (y1 : Nat) (y2 : Int32) (y3 : Int32) (z : mm_S) : Option (Int32 × mm_S) := if (pX2_isNumber y3 35 z) = 0 then some (0, z) else (sX2_nextToken  z).bind fun q6 => (sX2_readStuff_63 y1 y2 y3 (z.1 37 5) q6)
noncomputable def sX2_readStuff_37 (y1 : Nat) (y2 : Int32) (y3 : Int32) (z : mm_S) : Option (Int32 × mm_S) := (sX2_nextToken  z).bind fun q4 => (sX2_readStuff_41 y1 y2 y3 q4)
noncomputable def sX2_readStuff_25 (y1 : Nat) (y2 : Int32) (y3 : Int32) (z : mm_S) : Option (Int32 × mm_S) := (sX2_isWord 16 z).bind fun q3 => if q3.1 = 0 then (sX2_readStuff_63 y1 y2 y3 y3 q3.2) else (sX2_readStuff_37 y1 y2 y3 q3.2)
noncomputable def sX2_readStuff_4 (y1 : Nat) (y2 : Int32) (z : mm_S) : Option (Int32 × mm_S) := if (pX2_isNumber 0 35 z) = 0 then some (0, z) else (sX2_nextToken  z).bind fun q2 => (sX2_readStuff_25 y1 y2 (z.1 37 5) q2)
noncomputable def sX2_readStuff_0 (x1 : Nat) (x2 : Int32) (z : mm_S) : Option (Int32 × mm_S) := (sX2_nextToken  z).bind fun q1 => (sX2_readStuff_4 x1 x2 q1)
noncomputable def sX2_readStuff (x1 : Nat) (x2 : Int32) (z : mm_S) : Option (Int32 × mm_S) := sX2_readStuff_0 x1 x2 z
noncomputable def sX2_readItem_43 (y1 : Nat) (z : mm_S) : Option (Int32 × mm_S) := (sX2_readHeard y1 z).bind fun q7 => if q7.1 = 0 then some (0, q7.2) else if q7.1 = 1 then some (1, q7.2) else none
noncomputable def sX2_readItem_66  (z : mm_S) : Option (Int32 × mm_S) := some (1, z)
noncomputable def sX2_readItem_58 (y1 : Nat) (z : mm_S) : Option (Int32 × mm_S) := (sX2_readUnsure y1 z).bind fun q8 => if q8.1 = 0 then some (0, q8.2) else (sX2_readItem_66 q8.2)
noncomputable def sX2_readItem_49 (y1 : Nat) (z : mm_S) : Option (Int32 × mm_S) := (sX2_isWord 13 z).bind fun q6 => if q6.1 = 0 then some (0, q6.2) else (sX2_readItem_58 y1 q6.2)
noncomputable def sX2_readItem_34 (y1 : Nat) (z : mm_S) : Option (Int32 × mm_S) := (sX2_isWord 12 z).bind fun q5 => if q5.1 = 0 then (sX2_readItem_49 y1 q5.2) else (sX2_readItem_43 y1 q5.2)
noncomputable def sX2_readItem_22 (y1 : Nat) (y3 : Int32) (z : mm_S) : Option (Int32 × mm_S) := if y3 = (-1) then (sX2_readItem_34 y1 z) else (sX2_readStuff y1 y3 z).bind fun q4 => if q4.1 = 0 then some (0, q4.2) else if q4.1 = 1 then some (1, q4.2) else none
noncomputable def sX2_readItem_17 (y1 : Nat) (z : mm_S) : Option (Int32 × mm_S) := (sX2_stuffTold  z).bind fun q3 => (sX2_readItem_22 y1 q3.1 q3.2)
noncomputable def sX2_readItem_5 (y1 : Nat) (y2 : Int32) (z : mm_S) : Option (Int32 × mm_S) := if y2 = (-1) then (sX2_readItem_17 y1 z) else (sX2_readCrew y1 y2 z).bind fun q2 => if q2.1 = 0 then some (0, q2.2) else if q2.1 = 1 then some (1, q2.2) else none
noncomputable def sX2_readItem_0 (x1 : Nat) (z : mm_S) : Option (Int32 × mm_S) := (sX2_kindTold  z).bind fun q1 => (sX2_readItem_5 x1 q1.1 q1.2)
noncomputable def sX2_readItem (x1 : Nat) (z : mm_S) : Option (Int32 × mm_S) := sX2_readItem_0 x1 z
noncomputable def sX2_readInto_25  (z : mm_S) : Option (Int32 × mm_S) := some (((-1) - (z.1 37 3)), z)
noncomputable def sX2_readInto_60 (y1 : Nat) (y2 : Int32) (z : mm_S) : Option ((Nat × Int32 × mm_S) ⊕ (Int32 × mm_S)) := some (.inl (y1, (y2 + 1), z))
noncomputable def lX2_readInto_11 (s : Nat × Int32 × mm_S) : Option ((Nat × Int32 × mm_S) ⊕ (Int32 × mm_S)) := if 120 < s.2.1 then some (.inr (((-1) - (s.2.2.1 37 3)), s.2.2)) else (sX2_readItem s.1 s.2.2).bind fun q2 => if q2.1 = 0 then ((sX2_readInto_25 q2.2).map fun w => (Sum.inr w)) else if (q2.2.1 37 2) = 0 then some (.inr (s.2.1, q2.2)) else if (q2.2.1 37 2) = 3 then (sX2_nextToken  q2.2).bind fun q3 => (sX2_readInto_60 s.1 s.2.1 q3) else some (.inr (((-1) - (q2.2.1 37 3)), q2.2))
noncomputable def sX2_readInto_11 (y1 : Nat) (y2 : Int32) (z : mm_S) : Option (Int32 × mm_S) := mm_wh (lX2_readInto_11 ) mm_fu (y1, y2, z)
noncomputable def sX2_readInto_9 (y1 : Nat) (z : mm_S) : Option (Int32 × mm_S) := (sX2_readInto_11 y1 1 z)
noncomputable def sX2_readInto_5 (y1 : Nat) (z : mm_S) : Option (Int32 × mm_S) := (sX2_nextToken  z).bind fun q1 => (sX2_readInto_9 y1 q1)
noncomputable def sX2_readInto_0 (x1 : Nat) (z : mm_S) : Option (Int32 × mm_S) := (sX2_readInto_5 x1 ((mm_ui z.1 37 4 0), z.2))
noncomputable def sX2_readInto (x1 : Nat) (z : mm_S) : Option (Int32 × mm_S) := sX2_readInto_0 x1 z
noncomputable def clo_X2_readInto (as : List mm_V) (z : mm_S) (kk : Option mm_V → mm_S → Option mm_R) : Option mm_R := mm_pr as fun t o0 as => bif Nat.beq t 2 then mm_pr as fun t o1 as => bif Nat.beq t 0 then (match as with | [] => (sX2_readInto o1 z).bind fun q => kk (some (mm_I q.1)) q.2 | _ => none) else none else none
noncomputable def lV_X3_text : List (Nat × (List mm_V → mm_S → (Option mm_V → mm_S → Option mm_R) → Option mm_R)) := [(284, clo_X0_become), (297, clo_X2_readInto)]
noncomputable def mV_X3_text (k : Nat) (as : List mm_V) (z : mm_S) (kk : Option mm_V → mm_S → Option mm_R) : Option mm_R := match mm_at lV_X3_text k with
  | some f => f as z kk
  | none => none
noncomputable def arV_X3_text (k : Nat) : Nat := (mm_at [(284, 2), (297, 2)] k).getD 0
noncomputable def lS_X3_text : List (Nat × (List mm_V → mm_S → (Option mm_V → mm_S → Option mm_R) → Option mm_R)) := []
noncomputable def mS_X3_text (k : Nat) (as : List mm_V) (z : mm_S) (kk : Option mm_V → mm_S → Option mm_R) : Option mm_R := match mm_at lS_X3_text k with
  | some f => f as z kk
  | none => none
noncomputable def arS_X3_text (k : Nat) : Nat := (mm_at [] k).getD 0
def ct_X3_text : List (Nat × List Nat) := [(11, [0]), (23, [0, 1]), (31, [0, 1]), (46, [1])]
noncomputable def go_X3_text : Nat → mm_K := mm_go (fun k => mm_at flX3 k) (fun k => mm_at clX3 k) (fun k => mm_at glX3 k) arV_X3_text arS_X3_text mV_X3_text mS_X3_text lenX roX snX 2 0 tbX3_text ct_X3_text
def rm_X3_text : Room := { frames := 8, cells := 0, slots := 0, locals := 177 }
noncomputable def f_X3_text (as : List mm_V) (z : mm_S) (o : mm_R) : Prop := (as.map mm_cat).sum ≤ 2 ∧ ∃ n, go_X3_text n 0 (mm_ar 0 as) [] z = some o
theorem M_X3_text : mm_M lyTX lyFA lenX snX 46 48 17 roX rsA nfA nmA ssX yX3_text cX3_text 2 (some .int) rm_X3_text f_X3_text := sorry
noncomputable def sX3_text_46 (y1 : Int32) (z : mm_S) : Option (Int32 × mm_S) := some (y1, z)
noncomputable def sX3_text_31 (y1 : Int32) (z : mm_S) : Option (Int32 × mm_S) := if y1 ≤ 0 then (sX3_text_46 y1 z) else let u3 := (tX0_become 1 25 z); (sX3_text_46 y1 u3)
noncomputable def sX3_text_23 (y1 : Int32) (z : mm_S) : Option (Int32 × mm_S) := (sX3_text_31 y1 ((mm_ui z.1 37 1 0), z.2))
noncomputable def sX3_text_11  (z : mm_S) : Option (Int32 × mm_S) := (sX2_readInto 25 z).bind fun q2 => (sX3_text_23 q2.1 q2.2)
noncomputable def sX3_text_0  (z : mm_S) : Option (Int32 × mm_S) := let u1 := (tX0_become 25 1 z); (sX3_text_11 u1)
noncomputable def sX3_text  (z : mm_S) : Option (Int32 × mm_S) := sX3_text_0  z
theorem sp_X3_text  (z : mm_S) (hk : ∀ v ∈ [mm_P 3 0], mm_ok 46 lyTX 48 17 v) (q : Int32 × mm_S) (hq : sX3_text  z = some q) : f_X3_text [mm_P 3 0] z (some (mm_I q.1), q.2) := sorry
section
variable (G : mm_G)
def ct_Pc (h0 sz : Nat) (w0 : va_W) : Array Value → State → Prop := va_Pc [.ref h0] (fun U => U.heap.size = sz ∧ va_P G.2.2.2 vwCl w0 U.heap ∧ va_K G.2.2.2 vwCl (mm_ty G) U ∧ va_D (fun _ => True) w0 ∧ mm_ro G (fun _ => 0) 0 0 (fun _ _ => 0) rsA nfA nmA [] (va_A w0 sz) U U.heap ∧ va_AO "java/lang/String" U)
end
section
variable (G : mm_G)
def ct_Q (h0 sz : Nat) (w0 : va_W) (blk : (Nat → Nat) → va_W) : Array Value → State → Outcome → State → Prop := va_Qv (fun u : Nat → Nat => u 0 = h0) (fun u t => va_P G.2.2.2 vwCl (blk u) t.heap ∧ va_D (va_A w0 sz) (blk u)) (va_A w0 sz)
end
def bk_X3 (G : mm_G) (u : Nat → Nat) : va_W := [((u 0), .inr (3, [.ref (u 1), .ref (u 13), .int 0, .ref (u 25), .ref (u 37), .ref (u 39), .ref (u 40), .ref (u 41), .ref (u 42), .ref (u 43), .ref (u 44), .ref (u 45)])), ((u 1), .inr (0, [.ref (u 2), .ref (u 5), .ref (u 6), .ref (u 7), .int 0, .ref (u 8), .int 0, .ref (u 9), .ref (u 10), .ref (u 11), .int 0, .ref (u 12), .int 0, .int 1])), ((u 2), .inr (1, [.ref (u 3), .ref (u 4), .long 0, .int 0])), ((u 3), .inl (G.2.2.1 1, 5, .inr (.inl (vp_updL (fun _ => 0) 0 68719476735)))), ((u 4), .inl (G.2.2.1 1, 8, .inr (.inl (fun _ => 0)))), ((u 5), .inl (G.2.2.1 0, 6, .inl (fun _ => 0))), ((u 6), .inl (G.2.2.1 0, 6, .inl (fun _ => 0))), ((u 7), .inl (G.2.2.1 0, 6, .inl (fun _ => 0))), ((u 8), .inl (G.2.2.1 0, 4, .inl (fun _ => 0))), ((u 9), .inl (G.2.2.1 0, 8, .inl (fun _ => 0))), ((u 10), .inl (G.2.2.1 0, 8, .inl (fun _ => 0))), ((u 11), .inl (G.2.2.1 0, 8, .inl (fun _ => 0))), ((u 12), .inl (G.2.2.1 0, 10, .inl (mm_fr 10 (-1) (fun _ => 0)))), ((u 13), .inr (0, [.ref (u 14), .ref (u 17), .ref (u 18), .ref (u 19), .int 0, .ref (u 20), .int 0, .ref (u 21), .ref (u 22), .ref (u 23), .int 0, .ref (u 24), .int 0, .int 1])), ((u 14), .inr (1, [.ref (u 15), .ref (u 16), .long 0, .int 0])), ((u 15), .inl (G.2.2.1 1, 5, .inr (.inl (vp_updL (fun _ => 0) 0 68719476735)))), ((u 16), .inl (G.2.2.1 1, 8, .inr (.inl (fun _ => 0)))), ((u 17), .inl (G.2.2.1 0, 6, .inl (fun _ => 0))), ((u 18), .inl (G.2.2.1 0, 6, .inl (fun _ => 0))), ((u 19), .inl (G.2.2.1 0, 6, .inl (fun _ => 0))), ((u 20), .inl (G.2.2.1 0, 4, .inl (fun _ => 0))), ((u 21), .inl (G.2.2.1 0, 8, .inl (fun _ => 0))), ((u 22), .inl (G.2.2.1 0, 8, .inl (fun _ => 0))), ((u 23), .inl (G.2.2.1 0, 8, .inl (fun _ => 0))), ((u 24), .inl (G.2.2.1 0, 10, .inl (mm_fr 10 (-1) (fun _ => 0)))), ((u 25), .inr (0, [.ref (u 26), .ref (u 29), .ref (u 30), .ref (u 31), .int 0, .ref (u 32), .int 0, .ref (u 33), .ref (u 34), .ref (u 35), .int 0, .ref (u 36), .int 0, .int 1])), ((u 26), .inr (1, [.ref (u 27), .ref (u 28), .long 0, .int 0])), ((u 27), .inl (G.2.2.1 1, 5, .inr (.inl (vp_updL (fun _ => 0) 0 68719476735)))), ((u 28), .inl (G.2.2.1 1, 8, .inr (.inl (fun _ => 0)))), ((u 29), .inl (G.2.2.1 0, 6, .inl (fun _ => 0))), ((u 30), .inl (G.2.2.1 0, 6, .inl (fun _ => 0))), ((u 31), .inl (G.2.2.1 0, 6, .inl (fun _ => 0))), ((u 32), .inl (G.2.2.1 0, 4, .inl (fun _ => 0))), ((u 33), .inl (G.2.2.1 0, 8, .inl (fun _ => 0))), ((u 34), .inl (G.2.2.1 0, 8, .inl (fun _ => 0))), ((u 35), .inl (G.2.2.1 0, 8, .inl (fun _ => 0))), ((u 36), .inl (G.2.2.1 0, 10, .inl (mm_fr 10 (-1) (fun _ => 0)))), ((u 37), .inr (2, [.ref (u 38), .int 0, .int 0, .int 0, .int 0, .int 0])), ((u 38), .inl (G.2.2.1 0, 120, .inl (fun _ => 0))), ((u 39), .inl (G.2.2.1 0, 4, .inl (fun _ => 0))), ((u 40), .inl (G.2.2.1 0, 4, .inl (fun _ => 0))), ((u 41), .inl (G.2.2.1 0, 160, .inl (fun _ => 0))), ((u 42), .inl (G.2.2.1 0, 7, .inl (fun _ => 0))), ((u 43), .inl (G.2.2.1 0, 36, .inl (fun _ => 0))), ((u 44), .inl (G.2.2.1 0, 36, .inl (fun _ => 0))), ((u 45), .inl (G.2.2.1 1, 24, .inr (.inl (fun _ => 0))))]
theorem ct_X3 (l : Launch) (G : mm_G) (h0 sz : Nat) : Met l yX3_init (.code yX3_init cX3_init 1 none :: lw_gd) { frames := 3, cells := 45, slots := 658, locals := 52 } (ct_Pc G h0 sz [(h0, .inr (3, [.null, .null, .int 0, .null, .null, .null, .null, .null, .null, .null, .null, .null]))]) (ct_Q G h0 sz [(h0, .inr (3, [.null, .null, .int 0, .null, .null, .null, .null, .null, .null, .null, .null, .null]))] (bk_X3 G)) 45 658 (va_A [(h0, .inr (3, [.null, .null, .int 0, .null, .null, .null, .null, .null, .null, .null, .null, .null]))] sz) := sorry
def bk_X4 (G : mm_G) (u : Nat → Nat) : va_W := [((u 0), .inr (4, [.ref (u 1), .ref (u 2), .ref (u 3), .int 0, .ref (u 4), .ref (u 5), .ref (u 6), .ref (u 7), .ref (u 8), .ref (u 9), .int 0, .int 0, .int 0, .int 0, .ref (u 10), .ref (u 11), .ref (u 12), .ref (u 13), .int 0, .int 0, .int 0, .int 0, .int 0, .int 0, .ref (u 14), .ref (u 15), .ref (u 16), .int 0, .int 0, .int 0, .int 0, .ref (u 17), .ref (u 18), .ref (u 19), .ref (u 20), .ref (u 21)])), ((u 1), .inl (G.2.2.1 0, 97, .inl (fun j => if 5 ≤ j ∧ j < 5 + 10 then -1 else upd (fun _ => 0) 4 1 j))), ((u 2), .inl (G.2.2.1 0, 97, .inl (fun _ => 0))), ((u 3), .inl (G.2.2.1 0, 97, .inl (fun _ => 0))), ((u 4), .inl (G.2.2.1 0, 8, .inl (fun _ => 0))), ((u 5), .inl (G.2.2.1 0, 36, .inl (fun _ => 0))), ((u 6), .inl (G.2.2.1 0, 36, .inl (fun _ => 0))), ((u 7), .inl (G.2.2.1 0, 36, .inl (fun _ => 0))), ((u 8), .inl (G.2.2.1 0, 36, .inl (fun _ => 0))), ((u 9), .inl (G.2.2.1 0, 36, .inl (fun _ => 0))), ((u 10), .inl (G.2.2.1 0, 4, .inl (fun _ => 0))), ((u 11), .inl (G.2.2.1 2, 300, .inl (fun _ => 0))), ((u 12), .inl (G.2.2.1 0, 36, .inl (fun _ => 0))), ((u 13), .inl (G.2.2.1 0, 120, .inl (fun _ => 0))), ((u 14), .inl (G.2.2.1 3, 7, .inr (.inr (.inr (.inr (va_up (va_up (va_up (va_up (va_up (va_up (va_up (fun _ => none) (Int32.toNatClampNeg (nI 0)) (some (G.2.1 0))) (Int32.toNatClampNeg (nI 1)) (some (G.2.1 1))) (Int32.toNatClampNeg (nI 2)) (some (G.2.1 2))) (Int32.toNatClampNeg (nI 3)) (some (G.2.1 3))) (Int32.toNatClampNeg (nI 4)) (some (G.2.1 4))) (Int32.toNatClampNeg (nI 5)) (some (G.2.1 5))) (Int32.toNatClampNeg (nI 6)) (some (G.2.1 6)))))))), ((u 15), .inl (G.2.2.1 3, 5, .inr (.inr (.inr (.inr (va_up (va_up (va_up (va_up (va_up (fun _ => none) (Int32.toNatClampNeg (nI 0)) (some (G.2.1 7))) (Int32.toNatClampNeg (nI 1)) (some (G.2.1 8))) (Int32.toNatClampNeg (nI 2)) (some (G.2.1 9))) (Int32.toNatClampNeg (nI 3)) (some (G.2.1 10))) (Int32.toNatClampNeg (nI 4)) (some (G.2.1 11)))))))), ((u 16), .inl (G.2.2.1 0, 480, .inl (fun _ => 0))), ((u 17), .inl (G.2.2.1 0, 4, .inl (fun _ => 0))), ((u 18), .inl (G.2.2.1 0, 4, .inl (fun _ => 0))), ((u 19), .inl (G.2.2.1 0, 4, .inl (fun _ => 0))), ((u 20), .inl (G.2.2.1 0, 160, .inl (fun _ => 0))), ((u 21), .inl (G.2.2.1 0, 40, .inl (fun _ => 0)))]
theorem ct_X4 (l : Launch) (G : mm_G) (h0 sz : Nat) : Met l yX4_init (.code yX4_init cX4_init 2 none :: lw_gd) { frames := 1, cells := 21, slots := 1643, locals := 12 } (ct_Pc G h0 sz [(h0, .inr (4, [.null, .null, .null, .int 0, .null, .null, .null, .null, .null, .null, .int 0, .int 0, .int 0, .int 0, .null, .null, .null, .null, .int 0, .int 0, .int 0, .int 0, .int 0, .int 0, .null, .null, .null, .int 0, .int 0, .int 0, .int 0, .null, .null, .null, .null, .null]))]) (ct_Q G h0 sz [(h0, .inr (4, [.null, .null, .null, .int 0, .null, .null, .null, .null, .null, .null, .int 0, .int 0, .int 0, .int 0, .null, .null, .null, .null, .int 0, .int 0, .int 0, .int 0, .int 0, .int 0, .null, .null, .null, .int 0, .int 0, .int 0, .int 0, .null, .null, .null, .null, .null]))] (bk_X4 G)) 21 1643 (va_A [(h0, .inr (4, [.null, .null, .null, .int 0, .null, .null, .null, .null, .null, .null, .int 0, .int 0, .int 0, .int 0, .null, .null, .null, .null, .int 0, .int 0, .int 0, .int 0, .int 0, .int 0, .null, .null, .null, .int 0, .int 0, .int 0, .int 0, .null, .null, .null, .null, .null]))] sz) := sorry
