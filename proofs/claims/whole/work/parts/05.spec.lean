abbrev mm_S : Type := (Nat → Nat → Int32) × (Nat → Nat → Int64)
def mm_ui (f : Nat → Nat → Int32) (k i : Nat) (x : Int32) : Nat → Nat → Int32 := fun a => if a = k then upd (f k) i x else f a
def mm_ul (f : Nat → Nat → Int64) (k i : Nat) (x : Int64) : Nat → Nat → Int64 := fun a => if a = k then vp_updL (f k) i x else f a
def lenX (k : Nat) : Nat := ([0, 0, 0, 5, 8, 6, 6, 6, 4, 8, 8, 8, 10, 0, 0, 5, 8, 6, 6, 6, 4, 8, 8, 8, 10, 0, 0, 5, 8, 6, 6, 6, 4, 8, 8, 8, 10, 0, 120, 4, 4, 160, 7, 36, 36, 24, 5, 7] : List Nat).getD k 0
def lenM (k : Nat) : Nat := ([0, 97, 97, 97, 8, 36, 36, 36, 36, 36, 4, 300, 36, 120, 7, 5, 480, 4, 4, 4, 160, 40] : List Nat).getD k 0
def snM (k i : Nat) : Nat := if k = 14 then i else 7 + i
def roX (k i : Nat) : Int32 := if k = 46 then ([2, 6, 0, 3, 1] : List Int32).getD i 0 else ([-1, 0, 1, 2, 0, 4, 0] : List Int32).getD i 0
def mm_sl : List Nat := [4, 6, 5, 4, 4, 4, 4, 4, 6, 4, 5, 4, 5, 6, 2, 5, 2]
def mm_sb : List (List Int32) := [[99, 114, 101, 119], [104, 97, 109, 109, 101, 114], [100, 114, 105, 108, 108], [98, 101, 108, 108], [115, 111, 102, 116], [109, 117, 116, 101], [100, 101, 97, 102], [114, 111, 99, 107], [114, 117, 98, 98, 108, 101], [104, 111, 108, 101], [119, 97, 116, 101, 114], [105, 114, 111, 110], [104, 101, 97, 114, 100], [117, 110, 115, 117, 114, 101], [97, 116], [102, 111, 114, 99, 101], [116, 111]]
def mm_cp {α : Type} (f : Nat → Nat → α) (a b sp dp n : Nat) : Nat → Nat → α := fun q => if q = b then va_cpy (f a) (f b) sp dp n else f q
def mm_rw {α : Type} (f : Nat → Nat → α) (x : Nat) (g : Nat → α) : Nat → Nat → α := fun a => if a = x then g else f a
theorem mm_rw_s {α : Type} (f : Nat → Nat → α) (x : Nat) (g : Nat → α) : mm_rw f x g x = g := if_pos rfl
theorem mm_rw_n {α : Type} (f : Nat → Nat → α) {x a : Nat} (g : Nat → α) (h : a ≠ x) : mm_rw f x g a = f a := if_neg h
def mm_fr {α : Type} (n : Nat) (v : α) (f : Nat → α) : Nat → α := fun j => if j < n then v else f j
def mm_lp {σ ρ : Type} (stp : Nat → σ → σ ⊕ ρ) (out : σ → ρ) : Nat → Nat → σ → ρ
  | 0, _, s => out s
  | k + 1, j, s => match stp j s with
    | .inl s' => mm_lp stp out k (j + 1) s'
    | .inr r => r
def mm_mt {σ ρ τ : Type} (g : σ → τ) (h : ρ → τ) (w : σ ⊕ ρ) : τ := match w with
  | .inl a => g a
  | .inr b => h b
def mm_wh {σ ρ : Type} (stp : σ → Option (σ ⊕ ρ)) : Nat → σ → Option ρ
  | 0, _ => none
  | k + 1, s => (stp s).bind (mm_mt (fun s' => mm_wh stp k s') (fun r => some r))
abbrev mm_max (x y : Int32) : Int32 := if x < y then y else x
abbrev mm_min (x y : Int32) : Int32 := if y < x then y else x
def pX3_lies (x1 : Int32) (x2 : Int32) (x3 : Int32) : Int32 := if x1 < x2 then 0 else if x3 < x1 then 0 else 1
def pX3_isCell (x1 : Int32) : Int32 := (pX3_lies x1 0 35)
def pX3_isStuff (x1 : Int32) : Int32 := (pX3_lies x1 0 4)
def pX3_isKind (x1 : Int32) : Int32 := (pX3_lies x1 0 6)
def pX3_isSpot (x1 : Int32) : Int32 := (pX3_lies x1 0 9)
def pX3_isSheet (x1 : Int32) : Int32 := (pX3_lies x1 0 3)
def pX3_besides (x1 : Int64) : Int64 := let v1 : Int64 := ((x1 <<< (Int32.toInt64 6 &&& 63)) &&& 68719476735); let v2 : Int64 := (Int64.toUInt64 x1 >>> (Int64.toUInt64 (Int32.toInt64 6) &&& Int64.toUInt64 63)).toInt64; let v3 : Int64 := ((x1 &&& (-34905131041)) <<< (Int32.toInt64 1 &&& 63)); let v4 : Int64 := (Int64.toUInt64 (x1 &&& (-1090785346)) >>> (Int64.toUInt64 (Int32.toInt64 1) &&& Int64.toUInt64 63)).toInt64; (((v1 ||| v2) ||| v3) ||| v4)
def pX3_setOf (x1 : Int32) : Int64 := (1 <<< (Int32.toInt64 x1 &&& 63))
def pX3_has (x1 : Int64) (x2 : Int32) : Int32 := if (lg_cmp ((Int64.toUInt64 x1 >>> (Int64.toUInt64 (Int32.toInt64 x2) &&& Int64.toUInt64 63)).toInt64 &&& 1) 0) = 0 then 0 else 1
def pX3_carriesAs (x1 : Int32) (x2 : Int32) : Int32 := if x1 = 1 then (2 * (4 * x2)) else if x1 = 2 then ((2 * (4 * x2)) + 5) else if x1 = 3 then (((2 * (4 * x2)) + 5) + x2) else if x1 = 4 then ((4 * x2) / 2) else if x1 = 5 then 0 else (4 * x2)
def pX3_startsAs (x1 : Int32) : Int32 := if x1 = 2 then 1 else if x1 = 3 then 2 else if x1 = 4 then 2 else if x1 = 5 then 2 else 0
def pX3_hearsByAs (x1 : Int32) : Int32 := if x1 = 3 then 40 else if x1 = 4 then 30 else if x1 = 5 then 30 else if x1 = 6 then (-1) else 60
def pX3_lowestBits (x1 : Int32) (x2 : Int32) : Int32 := if x2 = 8 then (Int32.toInt8 x1).toInt32 else if x2 = 16 then (Int32.toInt16 x1).toInt32 else x1
def pX3_at (k : Nat) (i : Int32) (z : mm_S) : Int32 := if i < 0 then 0 else if Int32.ofNat (lenX k) ≤ i then 0 else z.1 k i.toNatClampNeg
theorem lenX_lt (k : Nat) : lenX k < 2 ^ 31 := by
  by_cases h : k < 48
  · have key : ∀ k, k < 48 → lenX k < 2 ^ 31 := by decide +kernel
    exact key k h
  · have e : lenX k = 0 := by
      unfold lenX
      rw [List.getD_eq_getElem?_getD, List.getElem?_eq_none (by simp; omega)]
      rfl
    rw [e]
    decide
def pX3_at14 (k : Nat) (i : Int32) : Int32 := if i < 0 then 0 else if Int32.ofNat (lenX k) ≤ i then 0 else roX k i.toNatClampNeg
def tX3_exchange (k : Nat) (i v : Int32) (z : mm_S) : Int32 × mm_S := if i < 0 then (0, z) else if i < Int32.ofNat (lenX k) then (z.1 k i.toNatClampNeg, (mm_ui z.1 k i.toNatClampNeg v, z.2)) else (0, z)
def pJ13_bitCount_95d88 (x1 : Int64) : Int32 := let v1 : Int64 := (x1 - ((Int64.toUInt64 x1 >>> (Int64.toUInt64 (Int32.toInt64 1) &&& Int64.toUInt64 63)).toInt64 &&& 6148914691236517205)); let v2 : Int64 := ((v1 &&& 3689348814741910323) + ((Int64.toUInt64 v1 >>> (Int64.toUInt64 (Int32.toInt64 2) &&& Int64.toUInt64 63)).toInt64 &&& 3689348814741910323)); let v3 : Int64 := ((v2 + (Int64.toUInt64 v2 >>> (Int64.toUInt64 (Int32.toInt64 4) &&& Int64.toUInt64 63)).toInt64) &&& 1085102592571150095); let v4 : Int64 := (v3 + (Int64.toUInt64 v3 >>> (Int64.toUInt64 (Int32.toInt64 8) &&& Int64.toUInt64 63)).toInt64); let v5 : Int64 := (v4 + (Int64.toUInt64 v4 >>> (Int64.toUInt64 (Int32.toInt64 16) &&& Int64.toUInt64 63)).toInt64); let v6 : Int64 := (v5 + (Int64.toUInt64 v5 >>> (Int64.toUInt64 (Int32.toInt64 32) &&& Int64.toUInt64 63)).toInt64); ((Int64.toInt32 v6) &&& 127)
def pX0_kindOf (o : Nat) (x1 : Int32) (z : mm_S) : Int32 := (pX3_at (o + 4) x1 z)
def pX0_placeOf (o : Nat) (x1 : Int32) (z : mm_S) : Int32 := (pX3_at (o + 5) x1 z)
def pX0_forceOf (o : Nat) (x1 : Int32) (z : mm_S) : Int32 := (pX3_at (o + 6) x1 z)
def pX0_carriesOf (o : Nat) (x1 : Int32) (z : mm_S) : Int32 := (pX3_carriesAs (pX0_kindOf o x1 z) (pX0_forceOf o x1 z))
def pX1_cellsOf (o : Nat) (i : Int32) (z : mm_S) : Int64 := if i < 0 then 0 else if 5 ≤ i then 0 else z.2 (o + 1) i.toNatClampNeg
def st_at (f : Nat → Int64) (c : Int32) : Nat → Nat → Int32
  | 0, _ => 0
  | k + 1, j => if pX3_has (f j) c = 0 then st_at f c k (j + 1) else nI j
def pX1_stuffAt (o : Nat) (c : Int32) (z : mm_S) : Int32 := st_at (z.2 (o + 1)) c 5 0
def pX1_paceOf (o : Nat) (x1 : Int32) (z : mm_S) : Int32 := (pX3_at14 46 (pX1_stuffAt o x1 z))
def pX1_dryCells (o : Nat) (z : mm_S) : Int64 := (68719476735 &&& (((pX1_cellsOf o 3 z) ||| (pX3_besides (pX1_cellsOf o 3 z))) ^^^ (-1)))
def pX0_holes (o : Nat) (z : mm_S) : Int32 := (pJ13_bitCount_95d88 (pX1_cellsOf (o + 1) 2 z))
def pX0_heardBy (o : Nat) (x1 : Int32) (x2 : Int32) (z : mm_S) : Int32 := if x2 = (-1) then (-1) else if x2 ≤ (pX0_carriesOf o x1 z) then (x2 + (pX3_startsAs (pX0_kindOf o x1 z))) else (-1)
def tJ7_fill_d0a16 (x : Nat) (v : Int64) (z : mm_S) : mm_S := (z.1, mm_rw z.2 x (mm_fr (lenX x) v (z.2 x)))
def tJ7_fill_53178 (x : Nat) (v : Int32) (z : mm_S) : mm_S := (mm_rw z.1 x (mm_fr (lenX x) v (z.1 x)), z.2)
def rk_tk (n : Nat) (c : Int32) (f : Nat → Int64) : Nat → Int64 := fun k => if k < n then f k &&& (pX3_setOf c ^^^ (-1)) else f k
def rk_pt (c v : Int32) (f : Nat → Int64) : Nat → Int64 := vp_updL (rk_tk 5 c f) v.toNatClampNeg (rk_tk 5 c f v.toNatClampNeg ||| pX3_setOf c)
def tX1_put (o : Nat) (c v : Int32) (z : mm_S) : mm_S := if pX3_isCell c = 0 then z else if pX3_isStuff v = 0 then z else (z.1, mm_rw z.2 (o + 1) (rk_pt c v (z.2 (o + 1))))
def tX1_knock (o : Nat) (x1 : Int32) (z : mm_S) : mm_S := let u1 := (tJ7_fill_d0a16 (o + 2) 0 z); let u2 : mm_S := (u1.1, (mm_ul u1.2 (o + 2) 0 ((pX3_setOf x1) &&& ((pX1_cellsOf o 2 u1) ^^^ (-1))))); ((mm_ui u2.1 o 3 0), (mm_ul u2.2 o 2 0))
def tX3_copyRow (a b : Nat) (z : mm_S) : mm_S := (mm_cp z.1 a b 0 0 (min (lenX a) (lenX b)), z.2)
def tX1_becomeRock (o q : Nat) (z : mm_S) : mm_S := (z.1, mm_cp z.2 (q + 1) (o + 1) 0 0 5)
def lX0_isUnsure (o : Nat) (x1 : Int32) (z : mm_S) (j : Nat) (s : Unit) : Unit ⊕ (Int32) := if (pX3_at (o + 7) (nI j) z) = x1 then .inr (1) else .inl ()
def pX0_isUnsure (o : Nat) (x1 : Int32) (z : mm_S) : Int32 := mm_lp (lX0_isUnsure o x1 z) (fun s => 0) (Int32.toNatClampNeg (z.1 o 6)) 0 ()
def lX0_heldSpots (o : Nat) (z : mm_S) (j : Nat) (s : Int32) : Int32 ⊕ (Int32) := if (pX3_at (o + 11) (nI j) z) = (-1) then .inl (s) else .inl ((s + 1))
def pX0_heldSpots (o : Nat) (z : mm_S) : Int32 := mm_lp (lX0_heldSpots o z) (fun s => s) 10 0 0
def lX0_mapCount (o : Nat) (z : mm_S) (j : Nat) (s : Int32) : Int32 ⊕ (Int32) := .inl ((s * 5))
def pX0_mapCount (o : Nat) (z : mm_S) : Int32 := mm_lp (lX0_mapCount o z) (fun s => s) (Int32.toNatClampNeg (z.1 o 6)) 0 1
def tX0_addCrew_49  (z : mm_S) : mm_S := z
def tX0_addCrew_39 (o : Nat) (z : mm_S) : mm_S := (tX0_addCrew_49  ((mm_ui z.1 o 4 ((z.1 o 4) + 1)), z.2))
def tX0_addCrew_26 (o : Nat) (y3 : Int32) (z : mm_S) : mm_S := let u3 := (tX3_exchange (o + 6) (z.1 o 4) y3 z); (tX0_addCrew_39 o u3.2)
def tX0_addCrew_13 (o : Nat) (y2 : Int32) (y3 : Int32) (z : mm_S) : mm_S := let u2 := (tX3_exchange (o + 5) (z.1 o 4) y2 z); (tX0_addCrew_26 o y3 u2.2)
def tX0_addCrew (o : Nat) (x1 : Int32) (x2 : Int32) (x3 : Int32) (z : mm_S) : mm_S := let u1 := (tX3_exchange (o + 4) (z.1 o 4) x1 z); (tX0_addCrew_13 o x2 x3 u1.2)
def tX0_addBook_49  (z : mm_S) : mm_S := z
def tX0_addBook_39 (o : Nat) (z : mm_S) : mm_S := (tX0_addBook_49  ((mm_ui z.1 o 10 ((z.1 o 10) + 1)), z.2))
def tX0_addBook_26 (o : Nat) (y3 : Int32) (z : mm_S) : mm_S := let u3 := (tX3_exchange (o + 10) (z.1 o 10) y3 z); (tX0_addBook_39 o u3.2)
def tX0_addBook_13 (o : Nat) (y2 : Int32) (y3 : Int32) (z : mm_S) : mm_S := let u2 := (tX3_exchange (o + 9) (z.1 o 10) y2 z); (tX0_addBook_26 o y3 u2.2)
def tX0_addBook (o : Nat) (x1 : Int32) (x2 : Int32) (x3 : Int32) (z : mm_S) : mm_S := let u1 := (tX3_exchange (o + 8) (z.1 o 10) x1 z); (tX0_addBook_13 o x2 x3 u1.2)
def tX0_addUnsure_23  (z : mm_S) : mm_S := z
def tX0_addUnsure_13 (o : Nat) (z : mm_S) : mm_S := (tX0_addUnsure_23  ((mm_ui z.1 o 6 ((z.1 o 6) + 1)), z.2))
def tX0_addUnsure (o : Nat) (x1 : Int32) (z : mm_S) : mm_S := let u1 := (tX3_exchange (o + 7) (z.1 o 6) x1 z); (tX0_addUnsure_13 o u1.2)
def tX0_draw_15 (o : Nat) (z : mm_S) : Int32 × mm_S := ((Int32.toUInt32 (z.1 o 13) >>> (Int32.toUInt32 8 &&& Int32.toUInt32 31)).toInt32, z)
def tX0_draw (o : Nat) (z : mm_S) : Int32 × mm_S := (tX0_draw_15 o ((mm_ui z.1 o 13 (((z.1 o 13) * 1103515245) + 12345)), z.2))
def tX0_goOneYear_32  (z : mm_S) : mm_S := z
def tX0_goOneYear_22 (o : Nat) (z : mm_S) : mm_S := (tX0_goOneYear_32  ((mm_ui z.1 o 12 ((z.1 o 12) + 1)), z.2))
def tX0_goOneYear_8 (o : Nat) (y1 : Int32) (z : mm_S) : mm_S := let u2 := (tX0_draw o z); let u3 := (tX1_put (o + 1) y1 (u2.1 - u2.1 / 5 * 5) u2.2); (tX0_goOneYear_22 o u3)
def tX0_goOneYear (o : Nat) (z : mm_S) : mm_S := let u1 := (tX0_draw o z); (tX0_goOneYear_8 o (u1.1 - u1.1 / 36 * 36) u1.2)
def tX0_become_139  (z : mm_S) : mm_S := z
def tX0_become_131 (o : Nat) (y1 : Nat) (z : mm_S) : mm_S := (tX0_become_139  ((mm_ui z.1 o 13 (z.1 y1 13)), z.2))
def tX0_become_123 (o : Nat) (y1 : Nat) (z : mm_S) : mm_S := (tX0_become_131 o y1 ((mm_ui z.1 o 12 (z.1 y1 12)), z.2))
def tX0_become_112 (o : Nat) (y1 : Nat) (z : mm_S) : mm_S := let u9 := (tX3_copyRow (y1 + 11) (o + 11) z); (tX0_become_123 o y1 u9)
def tX0_become_104 (o : Nat) (y1 : Nat) (z : mm_S) : mm_S := (tX0_become_112 o y1 ((mm_ui z.1 o 10 (z.1 y1 10)), z.2))
def tX0_become_93 (o : Nat) (y1 : Nat) (z : mm_S) : mm_S := let u8 := (tX3_copyRow (y1 + 10) (o + 10) z); (tX0_become_104 o y1 u8)
def tX0_become_82 (o : Nat) (y1 : Nat) (z : mm_S) : mm_S := let u7 := (tX3_copyRow (y1 + 9) (o + 9) z); (tX0_become_93 o y1 u7)
def tX0_become_71 (o : Nat) (y1 : Nat) (z : mm_S) : mm_S := let u6 := (tX3_copyRow (y1 + 8) (o + 8) z); (tX0_become_82 o y1 u6)
def tX0_become_63 (o : Nat) (y1 : Nat) (z : mm_S) : mm_S := (tX0_become_71 o y1 ((mm_ui z.1 o 6 (z.1 y1 6)), z.2))
def tX0_become_52 (o : Nat) (y1 : Nat) (z : mm_S) : mm_S := let u5 := (tX3_copyRow (y1 + 7) (o + 7) z); (tX0_become_63 o y1 u5)
def tX0_become_44 (o : Nat) (y1 : Nat) (z : mm_S) : mm_S := (tX0_become_52 o y1 ((mm_ui z.1 o 4 (z.1 y1 4)), z.2))
def tX0_become_33 (o : Nat) (y1 : Nat) (z : mm_S) : mm_S := let u4 := (tX3_copyRow (y1 + 6) (o + 6) z); (tX0_become_44 o y1 u4)
def tX0_become_22 (o : Nat) (y1 : Nat) (z : mm_S) : mm_S := let u3 := (tX3_copyRow (y1 + 5) (o + 5) z); (tX0_become_33 o y1 u3)
def tX0_become_11 (o : Nat) (y1 : Nat) (z : mm_S) : mm_S := let u2 := (tX3_copyRow (y1 + 4) (o + 4) z); (tX0_become_22 o y1 u2)
def tX0_become (o : Nat) (x1 : Nat) (z : mm_S) : mm_S := let u1 := (tX1_becomeRock (o + 1) (x1 + 1) z); (tX0_become_11 o x1 u1)
noncomputable def mm_fu : Nat := Classical.choose (p := fun n => n = 1000000) ⟨1000000, rfl⟩
theorem mm_fu_e : mm_fu = 1000000 := Classical.choose_spec (p := fun n => n = 1000000) ⟨1000000, rfl⟩
noncomputable def rk_sl (t : Int32) : Nat := Int32.toNatClampNeg (t &&& 7)
noncomputable def rk_in (t : Int32) (nx : Int64) (sets : Nat → Int64) : Nat → Nat → (Nat → Int64) → (Nat → Int64)
  | 0, _, g => g
  | k + 1, j, g => rk_in t nx sets k (j + 1) (if j = 2 then g else vp_updL g (rk_sl (t + pX3_at14 46 (nI j))) (g (rk_sl (t + pX3_at14 46 (nI j))) ||| (nx &&& sets j)))
noncomputable def rk_he (o : Nat) (t : Int32) (z : mm_S) : Int64 := z.2 (o + 2) (rk_sl t) &&& (z.2 o 2 ^^^ (-1))
noncomputable def rk_nx (o : Nat) (t : Int32) (z : mm_S) : Int64 := pX3_besides (rk_he o t z) &&& ((z.2 o 2 ||| rk_he o t z) ^^^ (-1))
noncomputable def tX1_cellsComeIntoAt (o : Nat) (t : Int32) (z : mm_S) : Int64 × mm_S :=
  if lg_cmp (rk_he o t z) 0 = 0 then (0, (z.1, mm_rw z.2 (o + 2) (vp_updL (z.2 (o + 2)) (rk_sl t) 0)))
  else (rk_he o t z, (if lg_cmp (rk_nx o t z) 0 = 0 then z.1 else mm_ui z.1 o 3 (t + 6),
    mm_rw (mm_rw z.2 o (vp_updL (z.2 o) 2 (z.2 o 2 ||| rk_he o t z))) (o + 2) (rk_in t (rk_nx o t z) (z.2 (o + 1)) 5 0 (vp_updL (z.2 (o + 2)) (rk_sl t) 0))))
theorem rk_in_s (t : Int32) (nx : Int64) (sets : Nat → Int64) : ∀ k j g, rk_in t nx sets (k + 1) j g = rk_in t nx sets k (j + 1) (if j = 2 then g else vp_updL g (rk_sl (t + pX3_at14 46 (nI j))) (g (rk_sl (t + pX3_at14 46 (nI j))) ||| (nx &&& sets j))) := fun _ _ _ => rfl
noncomputable def sX1_timeBetween_34 (o : Nat) (y3 : Int32) (z : mm_S) : Option (Int32 × mm_S) := some (y3, z)
noncomputable def lX1_timeBetween_7 (o : Nat) (s : Int32 × Int32 × mm_S) : Option ((Int32 × Int32 × mm_S) ⊕ (Int32 × mm_S)) := if 216 < s.2.1 then some (.inr ((-1), s.2.2)) else if (s.2.2.1 o 3) < s.2.1 then some (.inr ((-1), s.2.2)) else let u2 := (tX1_cellsComeIntoAt o s.2.1 s.2.2); if (pX3_has u2.1 s.1) = 0 then some (.inl (s.1, (s.2.1 + 1), u2.2)) else ((sX1_timeBetween_34 o s.2.1 u2.2).map fun w => (Sum.inr w))
noncomputable def sX1_timeBetween_7 (o : Nat) (y2 : Int32) (y3 : Int32) (z : mm_S) : Option (Int32 × mm_S) := mm_wh (lX1_timeBetween_7 o ) mm_fu (y2, y3, z)
noncomputable def sX1_timeBetween_5 (o : Nat) (y2 : Int32) (z : mm_S) : Option (Int32 × mm_S) := (sX1_timeBetween_7 o y2 0 z)
noncomputable def sX1_timeBetween_0 (o : Nat) (x1 : Int32) (x2 : Int32) (z : mm_S) : Option (Int32 × mm_S) := let u1 := (tX1_knock o x1 z); (sX1_timeBetween_5 o x2 u1)
noncomputable def sX1_timeBetween (o : Nat) (x1 : Int32) (x2 : Int32) (z : mm_S) : Option (Int32 × mm_S) := sX1_timeBetween_0 o x1 x2 z
noncomputable def sX1_cellsWithin_39 (o : Nat)  (z : mm_S) : Option (Int64 × mm_S) := some ((z.2 o 2), z)
noncomputable def lX1_cellsWithin_7 (o : Nat) (s : Int32 × Int32 × mm_S) : Option ((Int32 × Int32 × mm_S) ⊕ (Int64 × mm_S)) := if 216 < s.2.1 then ((sX1_cellsWithin_39 o s.2.2).map fun w => (Sum.inr w)) else if (s.2.2.1 o 3) < s.2.1 then ((sX1_cellsWithin_39 o s.2.2).map fun w => (Sum.inr w)) else if s.1 < s.2.1 then ((sX1_cellsWithin_39 o s.2.2).map fun w => (Sum.inr w)) else let u2 := (tX1_cellsComeIntoAt o s.2.1 s.2.2); some (.inl (s.1, (s.2.1 + 1), u2.2))
noncomputable def sX1_cellsWithin_7 (o : Nat) (y2 : Int32) (y3 : Int32) (z : mm_S) : Option (Int64 × mm_S) := mm_wh (lX1_cellsWithin_7 o ) mm_fu (y2, y3, z)
noncomputable def sX1_cellsWithin_5 (o : Nat) (y2 : Int32) (z : mm_S) : Option (Int64 × mm_S) := (sX1_cellsWithin_7 o y2 0 z)
noncomputable def sX1_cellsWithin_0 (o : Nat) (x1 : Int32) (x2 : Int32) (z : mm_S) : Option (Int64 × mm_S) := let u1 := (tX1_knock o x1 z); (sX1_cellsWithin_5 o x2 u1)
noncomputable def sX1_cellsWithin (o : Nat) (x1 : Int32) (x2 : Int32) (z : mm_S) : Option (Int64 × mm_S) := sX1_cellsWithin_0 o x1 x2 z
noncomputable def sX0_unlikeCells_40 (o : Nat) (y1 : Nat) (y2 : Int32) (y3 : Int32) (w0 : Int32) (w1 : Int32) (z : mm_S) : Option ((Nat × Int32 × Int32 × mm_S) ⊕ (Int32 × mm_S)) := if w1 = w0 then some (.inl (y1, y2, (y3 + 1), z)) else some (.inl (y1, (y2 + 1), (y3 + 1), z))
noncomputable def sX0_unlikeCells_31 (o : Nat) (y1 : Nat) (y2 : Int32) (y3 : Int32) (y4 : Int32) (w0 : Int32) (z : mm_S) : Option ((Nat × Int32 × Int32 × mm_S) ⊕ (Int32 × mm_S)) := (sX0_unlikeCells_40 o y1 y2 y3 (pX1_stuffAt (y1 + 1) y4 z) w0 z)
noncomputable def lX0_unlikeCells_4 (o : Nat) (s : Nat × Int32 × Int32 × mm_S) : Option ((Nat × Int32 × Int32 × mm_S) ⊕ (Int32 × mm_S)) := if (s.2.2.2.1 o 6) ≤ s.2.2.1 then some (.inr (s.2.1, s.2.2.2)) else (sX0_unlikeCells_31 o s.1 s.2.1 s.2.2.1 (pX3_at (o + 7) s.2.2.1 s.2.2.2) (pX1_stuffAt (o + 1) (pX3_at (o + 7) s.2.2.1 s.2.2.2) s.2.2.2) s.2.2.2)
noncomputable def sX0_unlikeCells_4 (o : Nat) (y1 : Nat) (y2 : Int32) (y3 : Int32) (z : mm_S) : Option (Int32 × mm_S) := mm_wh (lX0_unlikeCells_4 o ) mm_fu (y1, y2, y3, z)
noncomputable def sX0_unlikeCells_0 (o : Nat) (x1 : Nat) (z : mm_S) : Option (Int32 × mm_S) := (sX0_unlikeCells_4 o x1 0 0 z)
noncomputable def sX0_unlikeCells (o : Nat) (x1 : Nat) (z : mm_S) : Option (Int32 × mm_S) := sX0_unlikeCells_0 o x1 z
noncomputable def sX4_finding_25 (y1 : Int32) (z : mm_S) : Option (Int32 × mm_S) := some (y1, z)
noncomputable def sX4_finding_15 (y1 : Int32) (z : mm_S) : Option (Int32 × mm_S) := (sX4_finding_25 y1 ((mm_ui z.1 4 0 ((z.1 4 0) + 1)), z.2))
noncomputable def sX4_finding_10 (y1 : Int32) (w0 : Int32) (w1 : Nat) (z : mm_S) : Option (Int32 × mm_S) := if w0 < 0 ∨ lenM w1 ≤ Int32.toNatClampNeg w0 then none else if w0 < 0 ∨ lenM w1 ≤ Int32.toNatClampNeg w0 then none else let u1 : mm_S := ((mm_ui z.1 w1 (Int32.toNatClampNeg w0) ((z.1 w1 (Int32.toNatClampNeg w0)) + 1)), z.2); (sX4_finding_15 y1 u1)
noncomputable def sX4_finding_0 (x1 : Int32) (z : mm_S) : Option (Int32 × mm_S) := (sX4_finding_10 x1 (((-1000001) - x1) + 1) 4 z)
noncomputable def sX4_finding (x1 : Int32) (z : mm_S) : Option (Int32 × mm_S) := sX4_finding_0 x1 z
noncomputable def pX4_within (x1 : Int32) (x2 : Int32) (x3 : Int32) : Int32 := if x1 < x2 then 0 else if x3 < x1 then 0 else 1
noncomputable def sX4_become_14 (y3 : Int32) (z : mm_S) : Option (Int32 × mm_S) := some (y3, z)
noncomputable def sX4_become_0 (x1 : Int32) (x2 : Int32) (z : mm_S) : Option (Int32 × mm_S) := if x1 < 0 ∨ 97 ≤ Int32.toNatClampNeg x1 then none else if x1 < 0 ∨ 97 ≤ Int32.toNatClampNeg x1 then none else (sX4_become_14 (z.1 1 (Int32.toNatClampNeg x1)) ((mm_ui z.1 1 (Int32.toNatClampNeg x1) x2), z.2))
noncomputable def sX4_become (x1 : Int32) (x2 : Int32) (z : mm_S) : Option (Int32 × mm_S) := sX4_become_0 x1 x2 z
noncomputable def sX4_copyRow_14 (y0 : Nat) (y1 : Nat) (y2 : Int32) (z : mm_S) : Option ((Nat × Nat × Int32 × mm_S) ⊕ (mm_S)) := some (.inl (y0, y1, (y2 + 1), z))
noncomputable def lX4_copyRow_2 (s : Nat × Nat × Int32 × mm_S) : Option ((Nat × Nat × Int32 × mm_S) ⊕ (mm_S)) := if 97 ≤ s.2.2.1 then some (.inr (s.2.2.2)) else if s.2.2.1 < 0 ∨ lenM s.1 ≤ Int32.toNatClampNeg s.2.2.1 then none else if s.2.2.1 < 0 ∨ lenM s.2.1 ≤ Int32.toNatClampNeg s.2.2.1 then none else let u1 : mm_S := ((mm_ui s.2.2.2.1 s.2.1 (Int32.toNatClampNeg s.2.2.1) (s.2.2.2.1 s.1 (Int32.toNatClampNeg s.2.2.1))), s.2.2.2.2); (sX4_copyRow_14 s.1 s.2.1 s.2.2.1 u1)
noncomputable def sX4_copyRow_2 (y0 : Nat) (y1 : Nat) (y2 : Int32) (z : mm_S) : Option (mm_S) := mm_wh (lX4_copyRow_2 ) mm_fu (y0, y1, y2, z)
noncomputable def sX4_copyRow_0 (x1 : Nat) (x2 : Nat) (z : mm_S) : Option (mm_S) := (sX4_copyRow_2 x1 x2 0 z)
noncomputable def sX4_copyRow (x1 : Nat) (x2 : Nat) (z : mm_S) : Option (mm_S) := sX4_copyRow_0 x1 x2 z
noncomputable def sX4_putBack_11 (y1 : Int32) (z : mm_S) : Option (Int32 × mm_S) := some (y1, z)
noncomputable def sX4_putBack_0 (x1 : Int32) (z : mm_S) : Option (Int32 × mm_S) := (sX4_copyRow 3 1 z).bind fun q1 => (sX4_putBack_11 x1 q1)
noncomputable def sX4_putBack (x1 : Int32) (z : mm_S) : Option (Int32 × mm_S) := sX4_putBack_0 x1 z
noncomputable def lX4_bits_4 (s : Int32 × Int64 × mm_S) : Option ((Int32 × Int64 × mm_S) ⊕ (Int32 × mm_S)) := if (lg_cmp s.2.1 0) = 0 then some (.inr (s.1, s.2.2)) else some (.inl ((s.1 + 1), (s.2.1 &&& (s.2.1 - 1)), s.2.2))
noncomputable def sX4_bits_4 (y2 : Int32) (y3 : Int64) (z : mm_S) : Option (Int32 × mm_S) := mm_wh (lX4_bits_4 ) mm_fu (y2, y3, z)
noncomputable def sX4_bits_0 (x1 : Int64) (z : mm_S) : Option (Int32 × mm_S) := (sX4_bits_4 0 x1 z)
noncomputable def sX4_bits (x1 : Int64) (z : mm_S) : Option (Int32 × mm_S) := sX4_bits_0 x1 z
noncomputable def pX4_isCell (x1 : Int32) : Int32 := (pX4_within x1 0 35)
noncomputable def pX4_isStuff (x1 : Int32) : Int32 := (pX4_within x1 0 4)
noncomputable def pX4_isCrew (x1 : Int32) (z : mm_S) : Int32 := (pX4_within x1 0 ((z.1 1 1) - 1))
noncomputable def pX4_isKind (x1 : Int32) : Int32 := (pX4_within x1 0 6)
noncomputable def pX4_at (x1 : Int32) (x2 : Int32) : Int32 := ((51 + (3 * x1)) + x2)
noncomputable def sX4_crewIs_0 (x1 : Int32) (x2 : Int32) (z : mm_S) : Option (Int32 × mm_S) := if (pX4_at x1 x2) < 0 ∨ 97 ≤ Int32.toNatClampNeg (pX4_at x1 x2) then none else some ((z.1 1 (Int32.toNatClampNeg (pX4_at x1 x2))), z)
noncomputable def sX4_crewIs (x1 : Int32) (x2 : Int32) (z : mm_S) : Option (Int32 × mm_S) := sX4_crewIs_0 x1 x2 z
noncomputable def sX4_stuffIs_0 (x1 : Int32) (z : mm_S) : Option (Int32 × mm_S) := if (15 + x1) < 0 ∨ 97 ≤ Int32.toNatClampNeg (15 + x1) then none else some ((z.1 1 (Int32.toNatClampNeg (15 + x1))), z)
noncomputable def sX4_stuffIs (x1 : Int32) (z : mm_S) : Option (Int32 × mm_S) := sX4_stuffIs_0 x1 z
noncomputable def sX4_stuff_26  (z : mm_S) : Option (Int32 × mm_S) := (sX4_finding (-1000001) z).bind fun q2 => some (q2.1, q2.2)
noncomputable def sX4_stuff_0 (x1 : Int32) (x2 : Int32) (z : mm_S) : Option (Int32 × mm_S) := if (pX4_isCell x1) = 0 then (sX4_stuff_26 z) else if (pX4_isStuff x2) = 0 then (sX4_stuff_26 z) else (sX4_become (15 + x1) x2 z).bind fun q1 => some (q1.1, q1.2)
noncomputable def sX4_stuff (x1 : Int32) (x2 : Int32) (z : mm_S) : Option (Int32 × mm_S) := sX4_stuff_0 x1 x2 z
noncomputable def sX4_comes_54 (y4 : Int32) (z : mm_S) : Option (Int32 × mm_S) := some (y4, z)
noncomputable def sX4_comes_44 (y4 : Int32) (z : mm_S) : Option (Int32 × mm_S) := (sX4_comes_54 y4 ((mm_ui z.1 1 1 ((z.1 1 1) + 1)), z.2))
noncomputable def sX4_comes_32 (y3 : Int32) (y4 : Int32) (z : mm_S) : Option (Int32 × mm_S) := if (pX4_at y4 2) < 0 ∨ 97 ≤ Int32.toNatClampNeg (pX4_at y4 2) then none else (sX4_comes_44 y4 ((mm_ui z.1 1 (Int32.toNatClampNeg (pX4_at y4 2)) y3), z.2))
noncomputable def sX4_comes_20 (y2 : Int32) (y3 : Int32) (y4 : Int32) (z : mm_S) : Option (Int32 × mm_S) := if (pX4_at y4 1) < 0 ∨ 97 ≤ Int32.toNatClampNeg (pX4_at y4 1) then none else (sX4_comes_32 y3 y4 ((mm_ui z.1 1 (Int32.toNatClampNeg (pX4_at y4 1)) y2), z.2))
noncomputable def sX4_comes_0 (x1 : Int32) (x2 : Int32) (x3 : Int32) (z : mm_S) : Option (Int32 × mm_S) := if (pX4_at (z.1 1 1) 0) < 0 ∨ 97 ≤ Int32.toNatClampNeg (pX4_at (z.1 1 1) 0) then none else (sX4_comes_20 x2 x3 (z.1 1 1) ((mm_ui z.1 1 (Int32.toNatClampNeg (pX4_at (z.1 1 1) 0)) x1), z.2))
noncomputable def sX4_comes (x1 : Int32) (x2 : Int32) (x3 : Int32) (z : mm_S) : Option (Int32 × mm_S) := sX4_comes_0 x1 x2 x3 z
noncomputable def sX4_crew_41 (y1 : Int32) (y2 : Int32) (z : mm_S) : Option (Int32 × mm_S) := (sX4_comes y1 y2 6 z).bind fun q4 => some (q4.1, q4.2)
noncomputable def sX4_crew_21 (y1 : Int32) (y2 : Int32) (z : mm_S) : Option (Int32 × mm_S) := if (z.1 1 1) = 6 then (sX4_finding (-1000002) z).bind fun q3 => some (q3.1, q3.2) else (sX4_crew_41 y1 y2 z)
noncomputable def sX4_crew_0 (x1 : Int32) (x2 : Int32) (z : mm_S) : Option (Int32 × mm_S) := if (pX4_isKind x1) = 0 then (sX4_finding (-1000001) z).bind fun q1 => some (q1.1, q1.2) else if (pX4_isCell x2) = 0 then (sX4_finding (-1000001) z).bind fun q2 => some (q2.1, q2.2) else (sX4_crew_21 x1 x2 z)
noncomputable def sX4_crew (x1 : Int32) (x2 : Int32) (z : mm_S) : Option (Int32 × mm_S) := sX4_crew_0 x1 x2 z
noncomputable def pX4_above (x1 : Int32) : Int32 := if x1 = 0 then (-1) else if x1 = 2 then 1 else if x1 = 3 then 2 else if x1 = 5 then 4 else 0
noncomputable def lX4_isUnder_2 (s : Int32 × Int32 × mm_S) : Option ((Int32 × Int32 × mm_S) ⊕ (Int32 × mm_S)) := if s.2.1 < 0 then if s.2.1 < 0 then some (.inr (0, s.2.2)) else some (.inr (1, s.2.2)) else if s.2.1 = s.1 then if s.2.1 < 0 then some (.inr (0, s.2.2)) else some (.inr (1, s.2.2)) else some (.inl (s.1, (pX4_above s.2.1), s.2.2))
noncomputable def sX4_isUnder_2 (y1 : Int32) (y2 : Int32) (z : mm_S) : Option (Int32 × mm_S) := mm_wh (lX4_isUnder_2 ) mm_fu (y1, y2, z)
noncomputable def sX4_isUnder_0 (x1 : Int32) (x2 : Int32) (z : mm_S) : Option (Int32 × mm_S) := (sX4_isUnder_2 x2 x1 z)
noncomputable def sX4_isUnder (x1 : Int32) (x2 : Int32) (z : mm_S) : Option (Int32 × mm_S) := sX4_isUnder_0 x1 x2 z
noncomputable def sX4_carries_7 (y1 : Int32) (y2 : Int32) (z : mm_S) : Option (Int32 × mm_S) := (sX4_crewIs y1 0 z).bind fun q2 => if q2.1 = 1 then some ((8 * y2), q2.2) else if q2.1 = 2 then some (((8 * y2) + 5), q2.2) else if q2.1 = 3 then some (((9 * y2) + 5), q2.2) else if q2.1 = 4 then some ((2 * y2), q2.2) else if q2.1 = 5 then some (0, q2.2) else some ((4 * y2), q2.2)
noncomputable def sX4_carries_0 (x1 : Int32) (z : mm_S) : Option (Int32 × mm_S) := (sX4_crewIs x1 2 z).bind fun q1 => (sX4_carries_7 x1 q1.1 q1.2)
noncomputable def sX4_carries (x1 : Int32) (z : mm_S) : Option (Int32 × mm_S) := sX4_carries_0 x1 z
noncomputable def sX4_starts_29  (z : mm_S) : Option (Int32 × mm_S) := some (2, z)
noncomputable def sX4_starts_7 (y2 : Int32) (z : mm_S) : Option (Int32 × mm_S) := if y2 = 2 then some (1, z) else if y2 = 3 then (sX4_starts_29 z) else (sX4_isUnder y2 4 z).bind fun q2 => if q2.1 = 0 then some (0, q2.2) else (sX4_starts_29 q2.2)
noncomputable def sX4_starts_0 (x1 : Int32) (z : mm_S) : Option (Int32 × mm_S) := (sX4_crewIs x1 0 z).bind fun q1 => (sX4_starts_7 q1.1 q1.2)
noncomputable def sX4_starts (x1 : Int32) (z : mm_S) : Option (Int32 × mm_S) := sX4_starts_0 x1 z
noncomputable def sX4_hearsBy_35  (z : mm_S) : Option (Int32 × mm_S) := some (30, z)
noncomputable def sX4_hearsBy_7 (y2 : Int32) (z : mm_S) : Option (Int32 × mm_S) := if y2 = 6 then some ((-1), z) else if y2 = 3 then some (40, z) else (sX4_isUnder y2 4 z).bind fun q2 => if q2.1 = 0 then some (60, q2.2) else (sX4_hearsBy_35 q2.2)
noncomputable def sX4_hearsBy_0 (x1 : Int32) (z : mm_S) : Option (Int32 × mm_S) := (sX4_crewIs x1 0 z).bind fun q1 => (sX4_hearsBy_7 q1.1 q1.2)
noncomputable def sX4_hearsBy (x1 : Int32) (z : mm_S) : Option (Int32 × mm_S) := sX4_hearsBy_0 x1 z
noncomputable def sX4_of_64 (y1 : Int32) (z : mm_S) : Option (Int32 × mm_S) := (sX4_hearsBy y1 z).bind fun q6 => some (q6.1, q6.2)
noncomputable def sX4_of_51 (y1 : Int32) (y2 : Int32) (z : mm_S) : Option (Int32 × mm_S) := if y2 = 4 then (sX4_starts y1 z).bind fun q5 => some (q5.1, q5.2) else (sX4_of_64 y1 z)
noncomputable def sX4_of_38 (y1 : Int32) (y2 : Int32) (z : mm_S) : Option (Int32 × mm_S) := if y2 = 3 then (sX4_carries y1 z).bind fun q4 => some (q4.1, q4.2) else (sX4_of_51 y1 y2 z)
noncomputable def sX4_of_24 (y1 : Int32) (y2 : Int32) (z : mm_S) : Option (Int32 × mm_S) := if 3 ≤ y2 then (sX4_of_38 y1 y2 z) else (sX4_crewIs y1 y2 z).bind fun q3 => some (q3.1, q3.2)
noncomputable def sX4_of_0 (x1 : Int32) (x2 : Int32) (z : mm_S) : Option (Int32 × mm_S) := if (pX4_isCrew x1 z) = 0 then (sX4_finding (-1000001) z).bind fun q1 => some (q1.1, q1.2) else if (pX4_within x2 0 5) = 0 then (sX4_finding (-1000001) z).bind fun q2 => some (q2.1, q2.2) else (sX4_of_24 x1 x2 z)
noncomputable def sX4_of (x1 : Int32) (x2 : Int32) (z : mm_S) : Option (Int32 × mm_S) := sX4_of_0 x1 x2 z
noncomputable def sX4_change_71  (z : mm_S) : Option (Int32 × mm_S) := (sX4_finding (-1000001) z).bind fun q8 => some (q8.1, q8.2)
noncomputable def sX4_change_0 (x1 : Int32) (x2 : Int32) (x3 : Int32) (z : mm_S) : Option (Int32 × mm_S) := if x2 = 0 then if (pX4_isKind x3) = 0 then if x2 = 1 then if (pX4_isCell x3) = 0 then if x2 = 2 then if (pX4_within x3 1 20) = 0 then if (pX4_isCrew x1 z) = 0 then (sX4_change_71 z) else (sX4_change_71 z) else if (pX4_isCrew x1 z) = 0 then (sX4_change_71 z) else (sX4_become (pX4_at x1 x2) x3 z).bind fun q7 => some (q7.1, q7.2) else if (pX4_isCrew x1 z) = 0 then (sX4_change_71 z) else (sX4_change_71 z) else if (pX4_isCrew x1 z) = 0 then (sX4_change_71 z) else (sX4_become (pX4_at x1 x2) x3 z).bind fun q6 => some (q6.1, q6.2) else if x2 = 2 then if (pX4_within x3 1 20) = 0 then if (pX4_isCrew x1 z) = 0 then (sX4_change_71 z) else (sX4_change_71 z) else if (pX4_isCrew x1 z) = 0 then (sX4_change_71 z) else (sX4_become (pX4_at x1 x2) x3 z).bind fun q5 => some (q5.1, q5.2) else if (pX4_isCrew x1 z) = 0 then (sX4_change_71 z) else (sX4_change_71 z) else if (pX4_isCrew x1 z) = 0 then (sX4_change_71 z) else (sX4_become (pX4_at x1 x2) x3 z).bind fun q4 => some (q4.1, q4.2) else if x2 = 1 then if (pX4_isCell x3) = 0 then if x2 = 2 then if (pX4_within x3 1 20) = 0 then if (pX4_isCrew x1 z) = 0 then (sX4_change_71 z) else (sX4_change_71 z) else if (pX4_isCrew x1 z) = 0 then (sX4_change_71 z) else (sX4_become (pX4_at x1 x2) x3 z).bind fun q3 => some (q3.1, q3.2) else if (pX4_isCrew x1 z) = 0 then (sX4_change_71 z) else (sX4_change_71 z) else if (pX4_isCrew x1 z) = 0 then (sX4_change_71 z) else (sX4_become (pX4_at x1 x2) x3 z).bind fun q2 => some (q2.1, q2.2) else if x2 = 2 then if (pX4_within x3 1 20) = 0 then if (pX4_isCrew x1 z) = 0 then (sX4_change_71 z) else (sX4_change_71 z) else if (pX4_isCrew x1 z) = 0 then (sX4_change_71 z) else (sX4_become (pX4_at x1 x2) x3 z).bind fun q1 => some (q1.1, q1.2) else if (pX4_isCrew x1 z) = 0 then (sX4_change_71 z) else (sX4_change_71 z)
noncomputable def sX4_change (x1 : Int32) (x2 : Int32) (x3 : Int32) (z : mm_S) : Option (Int32 × mm_S) := sX4_change_0 x1 x2 x3 z
noncomputable def sX4_cellsOf_33 (y1 : Int32) (y2 : Int64) (y4 : Int32) (z : mm_S) : Option ((Int32 × Int64 × Int32 × mm_S) ⊕ (Int64 × mm_S)) := some (.inl (y1, y2, (y4 + 1), z))
noncomputable def lX4_cellsOf_5 (s : Int32 × Int64 × Int32 × mm_S) : Option ((Int32 × Int64 × Int32 × mm_S) ⊕ (Int64 × mm_S)) := if 36 ≤ s.2.2.1 then some (.inr (s.2.1, s.2.2.2)) else (sX4_stuffIs s.2.2.1 s.2.2.2).bind fun q1 => if q1.1 = s.1 then let v2 : Int64 := (s.2.1 ||| (1 <<< (Int32.toInt64 s.2.2.1 &&& 63))); (sX4_cellsOf_33 s.1 v2 s.2.2.1 q1.2) else (sX4_cellsOf_33 s.1 (s.2.1 ||| 0) s.2.2.1 q1.2)
noncomputable def sX4_cellsOf_5 (y1 : Int32) (y2 : Int64) (y4 : Int32) (z : mm_S) : Option (Int64 × mm_S) := mm_wh (lX4_cellsOf_5 ) mm_fu (y1, y2, y4, z)
noncomputable def sX4_cellsOf_0 (x1 : Int32) (z : mm_S) : Option (Int64 × mm_S) := (sX4_cellsOf_5 x1 0 0 z)
noncomputable def sX4_cellsOf (x1 : Int32) (z : mm_S) : Option (Int64 × mm_S) := sX4_cellsOf_0 x1 z
noncomputable def sX4_cells_15  (z : mm_S) : Option (Int64 × mm_S) := (sX4_finding (-1000001) z).bind fun q2 => some ((Int32.toInt64 q2.1), q2.2)
noncomputable def sX4_cells_0 (x1 : Int32) (z : mm_S) : Option (Int64 × mm_S) := if (pX4_isStuff x1) = 0 then (sX4_cells_15 z) else (sX4_cellsOf x1 z).bind fun q1 => some (q1.1, q1.2)
noncomputable def sX4_cells (x1 : Int32) (z : mm_S) : Option (Int64 × mm_S) := sX4_cells_0 x1 z
noncomputable def lX4_isUnsure_4 (s : Int32 × Int32 × Int32 × mm_S) : Option ((Int32 × Int32 × Int32 × mm_S) ⊕ (Int32 × mm_S)) := if (s.2.2.2.1 1 3) ≤ s.2.2.1 then if s.2.1 = 0 then some (.inr (0, s.2.2.2)) else if s.2.1 = 1 then some (.inr (1, s.2.2.2)) else none else if s.2.1 = 0 then if (69 + s.2.2.1) < 0 ∨ 97 ≤ Int32.toNatClampNeg (69 + s.2.2.1) then none else if (s.2.2.2.1 1 (Int32.toNatClampNeg (69 + s.2.2.1))) = s.1 then some (.inl (s.1, 1, (s.2.2.1 + 1), s.2.2.2)) else some (.inl (s.1, 0, (s.2.2.1 + 1), s.2.2.2)) else some (.inl (s.1, 1, (s.2.2.1 + 1), s.2.2.2))
noncomputable def sX4_isUnsure_4 (y1 : Int32) (y2 : Int32) (y3 : Int32) (z : mm_S) : Option (Int32 × mm_S) := mm_wh (lX4_isUnsure_4 ) mm_fu (y1, y2, y3, z)
noncomputable def sX4_isUnsure_0 (x1 : Int32) (z : mm_S) : Option (Int32 × mm_S) := (sX4_isUnsure_4 x1 0 0 z)
noncomputable def sX4_isUnsure (x1 : Int32) (z : mm_S) : Option (Int32 × mm_S) := sX4_isUnsure_0 x1 z
noncomputable def sX4_getsUnsure_25  (z : mm_S) : Option (Int32 × mm_S) := some ((z.1 1 3), z)
noncomputable def sX4_getsUnsure_15  (z : mm_S) : Option (Int32 × mm_S) := (sX4_getsUnsure_25 ((mm_ui z.1 1 3 ((z.1 1 3) + 1)), z.2))
noncomputable def sX4_getsUnsure_0 (x1 : Int32) (z : mm_S) : Option (Int32 × mm_S) := if (69 + (z.1 1 3)) < 0 ∨ 97 ≤ Int32.toNatClampNeg (69 + (z.1 1 3)) then none else (sX4_getsUnsure_15 ((mm_ui z.1 1 (Int32.toNatClampNeg (69 + (z.1 1 3))) x1), z.2))
noncomputable def sX4_getsUnsure (x1 : Int32) (z : mm_S) : Option (Int32 × mm_S) := sX4_getsUnsure_0 x1 z
noncomputable def sX4_unsure_22  (z : mm_S) : Option (Int32 × mm_S) := (sX4_finding (-1000005) z).bind fun q4 => some (q4.1, q4.2)
noncomputable def sX4_unsure_48 (y1 : Int32) (z : mm_S) : Option (Int32 × mm_S) := (sX4_getsUnsure y1 z).bind fun q5 => some (q5.1, q5.2)
noncomputable def sX4_unsure_29 (y1 : Int32) (z : mm_S) : Option (Int32 × mm_S) := if (z.1 1 3) = 4 then (sX4_finding (-1000002) z).bind fun q3 => some (q3.1, q3.2) else (sX4_unsure_48 y1 z)
noncomputable def sX4_unsure_14 (y1 : Int32) (z : mm_S) : Option (Int32 × mm_S) := (sX4_isUnsure y1 z).bind fun q2 => if q2.1 = 0 then (sX4_unsure_29 y1 q2.2) else (sX4_unsure_22 q2.2)
noncomputable def sX4_unsure_0 (x1 : Int32) (z : mm_S) : Option (Int32 × mm_S) := if (pX4_isCell x1) = 0 then (sX4_finding (-1000001) z).bind fun q1 => some (q1.1, q1.2) else (sX4_unsure_14 x1 z)
noncomputable def sX4_unsure (x1 : Int32) (z : mm_S) : Option (Int32 × mm_S) := sX4_unsure_0 x1 z
noncomputable def sX4_sure_0  (z : mm_S) : Option (Int32 × mm_S) := (sX4_become 3 0 z).bind fun q1 => some (q1.1, q1.2)
noncomputable def sX4_sure  (z : mm_S) : Option (Int32 × mm_S) := sX4_sure_0  z
noncomputable def pX4_pace (x1 : Int32) : Int32 := if x1 = 0 then 2 else if x1 = 1 then 6 else if x1 = 3 then 3 else 1
noncomputable def pX4_beside_49 (y2 : Int32) (y3 : Int32) (z : mm_S) : Int32 := if (pX4_within y2 0 5) = 0 then (-1) else if (pX4_within y3 0 5) = 0 then (-1) else ((6 * y2) + y3)
noncomputable def pX4_beside_24 (y0 : Int32) (y1 : Int32) (y2 : Int32) (z : mm_S) : Int32 := if y1 = 2 then (pX4_beside_49 y2 ((y0 - y0 / 6 * 6) + (-1)) z) else if y1 = 3 then (pX4_beside_49 y2 ((y0 - y0 / 6 * 6) + 1) z) else (pX4_beside_49 y2 ((y0 - y0 / 6 * 6) + 0) z)
noncomputable def pX4_beside (x1 : Int32) (x2 : Int32) (z : mm_S) : Int32 := if x2 = 0 then (pX4_beside_24 x1 x2 ((x1 / 6) + (-1)) z) else if x2 = 1 then (pX4_beside_24 x1 x2 ((x1 / 6) + 1) z) else (pX4_beside_24 x1 x2 ((x1 / 6) + 0) z)
noncomputable def sX4_isHole_9  (z : mm_S) : Option (Int32 × mm_S) := some (1, z)
noncomputable def sX4_isHole_0 (x1 : Int32) (z : mm_S) : Option (Int32 × mm_S) := (sX4_stuffIs x1 z).bind fun q1 => if q1.1 = 2 then (sX4_isHole_9 q1.2) else some (0, q1.2)
noncomputable def sX4_isHole (x1 : Int32) (z : mm_S) : Option (Int32 × mm_S) := sX4_isHole_0 x1 z
noncomputable def sX4_findTimes_17 (y1 : Int32) (y2 : Int32) (y3 : Nat) (y4 : Int32) (z : mm_S) : Option ((Int32 × Int32 × Nat × Int32 × mm_S) ⊕ (mm_S)) := some (.inl (y1, y2, y3, (y4 + 1), z))
noncomputable def sX4_findTimes_158 (y2 : Int32) (y3 : Nat) (y5 : Int32) (y6 : Int32) (z : mm_S) : Option ((Int32 × Nat × Int32 × Int32 × Int32 × mm_S) ⊕ ((Int32 × Nat × Int32 × Int32 × mm_S) ⊕ ((Int32 × Nat × Int32 × mm_S) ⊕ (mm_S)))) := some (.inl (y2, y3, 1, y5, (y6 + 1), z))
noncomputable def sX4_findTimes_135 (y2 : Int32) (y3 : Nat) (y4 : Int32) (y5 : Int32) (y6 : Int32) (y7 : Int32) (y8 : Int32) (z : mm_S) : Option ((Int32 × Nat × Int32 × Int32 × Int32 × mm_S) ⊕ ((Int32 × Nat × Int32 × Int32 × mm_S) ⊕ ((Int32 × Nat × Int32 × mm_S) ⊕ (mm_S)))) := if 10000 ≤ y8 then some (.inl (y2, y3, y4, y5, (y6 + 1), z)) else if y7 < 0 ∨ lenM y3 ≤ Int32.toNatClampNeg y7 then none else if (z.1 y3 (Int32.toNatClampNeg y7)) ≤ y8 then some (.inl (y2, y3, y4, y5, (y6 + 1), z)) else if y7 < 0 ∨ lenM y3 ≤ Int32.toNatClampNeg y7 then none else (sX4_findTimes_158 y2 y3 y5 y6 ((mm_ui z.1 y3 (Int32.toNatClampNeg y7) y8), z.2))
noncomputable def sX4_findTimes_104 (y2 : Int32) (y3 : Nat) (y4 : Int32) (y5 : Int32) (y6 : Int32) (y7 : Int32) (z : mm_S) : Option ((Int32 × Nat × Int32 × Int32 × Int32 × mm_S) ⊕ ((Int32 × Nat × Int32 × Int32 × mm_S) ⊕ ((Int32 × Nat × Int32 × mm_S) ⊕ (mm_S)))) := (sX4_findTimes_135 y2 y3 y4 y5 y6 y7 10000 z)
noncomputable def lX4_findTimes_65 (s : Int32 × Nat × Int32 × Int32 × Int32 × mm_S) : Option ((Int32 × Nat × Int32 × Int32 × Int32 × mm_S) ⊕ ((Int32 × Nat × Int32 × Int32 × mm_S) ⊕ ((Int32 × Nat × Int32 × mm_S) ⊕ (mm_S)))) := if 4 ≤ s.2.2.2.2.1 then some (.inr (.inl (s.1, s.2.1, s.2.2.1, (s.2.2.2.1 + 1), s.2.2.2.2.2))) else if s.2.2.2.1 < 0 ∨ lenM s.2.1 ≤ Int32.toNatClampNeg s.2.2.2.1 then none else if 10000 ≤ (s.2.2.2.2.2.1 s.2.1 (Int32.toNatClampNeg s.2.2.2.1)) then some (.inr (.inl (s.1, s.2.1, s.2.2.1, (s.2.2.2.1 + 1), s.2.2.2.2.2))) else if (pX4_beside s.2.2.2.1 s.2.2.2.2.1 s.2.2.2.2.2) < 0 then (sX4_findTimes_104 s.1 s.2.1 s.2.2.1 s.2.2.2.1 s.2.2.2.2.1 (pX4_beside s.2.2.2.1 s.2.2.2.2.1 s.2.2.2.2.2) s.2.2.2.2.2) else (sX4_isHole (pX4_beside s.2.2.2.1 s.2.2.2.2.1 s.2.2.2.2.2) s.2.2.2.2.2).bind fun q2 => if q2.1 = 0 then if s.2.2.2.1 < 0 ∨ lenM s.2.1 ≤ Int32.toNatClampNeg s.2.2.2.1 then none else if s.1 = 0 then (sX4_stuffIs s.2.2.2.1 q2.2).bind fun q3 => let v4 : Int32 := ((q2.2.1 s.2.1 (Int32.toNatClampNeg s.2.2.2.1)) + (pX4_pace q3.1)); (sX4_findTimes_135 s.1 s.2.1 s.2.2.1 s.2.2.2.1 s.2.2.2.2.1 (pX4_beside s.2.2.2.1 s.2.2.2.2.1 s.2.2.2.2.2) v4 q3.2) else (sX4_stuffIs (pX4_beside s.2.2.2.1 s.2.2.2.2.1 s.2.2.2.2.2) q2.2).bind fun q5 => let v6 : Int32 := ((q2.2.1 s.2.1 (Int32.toNatClampNeg s.2.2.2.1)) + (pX4_pace q5.1)); (sX4_findTimes_135 s.1 s.2.1 s.2.2.1 s.2.2.2.1 s.2.2.2.2.1 (pX4_beside s.2.2.2.1 s.2.2.2.2.1 s.2.2.2.2.2) v6 q5.2) else (sX4_findTimes_104 s.1 s.2.1 s.2.2.1 s.2.2.2.1 s.2.2.2.2.1 (pX4_beside s.2.2.2.1 s.2.2.2.2.1 s.2.2.2.2.2) q2.2)
noncomputable def sX4_findTimes_65 (y2 : Int32) (y3 : Nat) (y4 : Int32) (y5 : Int32) (y6 : Int32) (z : mm_S) : Option ((Int32 × Nat × Int32 × Int32 × mm_S) ⊕ ((Int32 × Nat × Int32 × mm_S) ⊕ (mm_S))) := mm_wh (lX4_findTimes_65 ) mm_fu (y2, y3, y4, y5, y6, z)
noncomputable def lX4_findTimes_55 (s : Int32 × Nat × Int32 × Int32 × mm_S) : Option ((Int32 × Nat × Int32 × Int32 × mm_S) ⊕ ((Int32 × Nat × Int32 × mm_S) ⊕ (mm_S))) := if 36 ≤ s.2.2.2.1 then some (.inr (.inl (s.1, s.2.1, s.2.2.1, s.2.2.2.2))) else (sX4_findTimes_65 s.1 s.2.1 s.2.2.1 s.2.2.2.1 0 s.2.2.2.2)
noncomputable def sX4_findTimes_55 (y2 : Int32) (y3 : Nat) (y4 : Int32) (y5 : Int32) (z : mm_S) : Option ((Int32 × Nat × Int32 × mm_S) ⊕ (mm_S)) := mm_wh (lX4_findTimes_55 ) mm_fu (y2, y3, y4, y5, z)
noncomputable def lX4_findTimes_44 (s : Int32 × Nat × Int32 × mm_S) : Option ((Int32 × Nat × Int32 × mm_S) ⊕ (mm_S)) := if s.2.2.1 = 0 then some (.inr (s.2.2.2)) else (sX4_findTimes_55 s.1 s.2.1 0 0 s.2.2.2)
noncomputable def sX4_findTimes_44 (y2 : Int32) (y3 : Nat) (y4 : Int32) (z : mm_S) : Option (mm_S) := mm_wh (lX4_findTimes_44 ) mm_fu (y2, y3, y4, z)
noncomputable def sX4_findTimes_41 (y2 : Int32) (y3 : Nat) (z : mm_S) : Option (mm_S) := (sX4_findTimes_44 y2 y3 1 z)
noncomputable def lX4_findTimes_3 (s : Int32 × Int32 × Nat × Int32 × mm_S) : Option ((Int32 × Int32 × Nat × Int32 × mm_S) ⊕ (mm_S)) := if 36 ≤ s.2.2.2.1 then (sX4_isHole s.1 s.2.2.2.2).bind fun q1 => if q1.1 = 0 then if s.1 < 0 ∨ lenM s.2.2.1 ≤ Int32.toNatClampNeg s.1 then none else ((sX4_findTimes_41 s.2.1 s.2.2.1 ((mm_ui q1.2.1 s.2.2.1 (Int32.toNatClampNeg s.1) 0), q1.2.2)).map fun w => (Sum.inr w)) else if s.1 < 0 ∨ lenM s.2.2.1 ≤ Int32.toNatClampNeg s.1 then none else ((sX4_findTimes_41 s.2.1 s.2.2.1 ((mm_ui q1.2.1 s.2.2.1 (Int32.toNatClampNeg s.1) 10000), q1.2.2)).map fun w => (Sum.inr w)) else if s.2.2.2.1 < 0 ∨ lenM s.2.2.1 ≤ Int32.toNatClampNeg s.2.2.2.1 then none else (sX4_findTimes_17 s.1 s.2.1 s.2.2.1 s.2.2.2.1 ((mm_ui s.2.2.2.2.1 s.2.2.1 (Int32.toNatClampNeg s.2.2.2.1) 10000), s.2.2.2.2.2))
noncomputable def sX4_findTimes_3 (y1 : Int32) (y2 : Int32) (y3 : Nat) (y4 : Int32) (z : mm_S) : Option (mm_S) := mm_wh (lX4_findTimes_3 ) mm_fu (y1, y2, y3, y4, z)
noncomputable def sX4_findTimes_0 (x1 : Int32) (x2 : Int32) (x3 : Nat) (z : mm_S) : Option (mm_S) := (sX4_findTimes_3 x1 x2 x3 0 z)
noncomputable def sX4_findTimes (x1 : Int32) (x2 : Int32) (x3 : Nat) (z : mm_S) : Option (mm_S) := sX4_findTimes_0 x1 x2 x3 z
noncomputable def sX4_timeOf_10 (y2 : Int32) (z : mm_S) : Option (Int32 × mm_S) := if y2 < 0 ∨ 36 ≤ Int32.toNatClampNeg y2 then none else some ((z.1 5 (Int32.toNatClampNeg y2)), z)
noncomputable def sX4_timeOf_0 (x1 : Int32) (x2 : Int32) (z : mm_S) : Option (Int32 × mm_S) := (sX4_findTimes x1 1 5 z).bind fun q1 => (sX4_timeOf_10 x2 q1)
noncomputable def sX4_timeOf (x1 : Int32) (x2 : Int32) (z : mm_S) : Option (Int32 × mm_S) := sX4_timeOf_0 x1 x2 z
noncomputable def sX4_told_20 (y1 : Int32) (z : mm_S) : Option (Int32 × mm_S) := some (y1, z)
noncomputable def sX4_told_0 (x1 : Int32) (z : mm_S) : Option (Int32 × mm_S) := if x1 < 0 then (sX4_finding (-1000004) z).bind fun q1 => some (q1.1, q1.2) else if x1 < 10000 then (sX4_told_20 x1 z) else (sX4_finding (-1000004) z).bind fun q2 => some (q2.1, q2.2)
noncomputable def sX4_told (x1 : Int32) (z : mm_S) : Option (Int32 × mm_S) := sX4_told_0 x1 z
noncomputable def sX4_time_27  (z : mm_S) : Option (Int32 × mm_S) := (sX4_finding (-1000001) z).bind fun q3 => some (q3.1, q3.2)
noncomputable def sX4_time_0 (x1 : Int32) (x2 : Int32) (z : mm_S) : Option (Int32 × mm_S) := if (pX4_isCell x1) = 0 then (sX4_time_27 z) else if (pX4_isCell x2) = 0 then (sX4_time_27 z) else (sX4_timeOf x1 x2 z).bind fun q1 => (sX4_told q1.1 q1.2).bind fun q2 => some (q2.1, q2.2)
noncomputable def sX4_time (x1 : Int32) (x2 : Int32) (z : mm_S) : Option (Int32 × mm_S) := sX4_time_0 x1 x2 z
noncomputable def sX4_findHeard_49 (y1 : Int32) (y2 : Nat) (y3 : Int32) (z : mm_S) : Option ((Int32 × Nat × Int32 × mm_S) ⊕ (mm_S)) := some (.inl (y1, y2, (y3 + 1), z))
noncomputable def lX4_findHeard_14 (s : Int32 × Nat × Int32 × mm_S) : Option ((Int32 × Nat × Int32 × mm_S) ⊕ (mm_S)) := if 36 ≤ s.2.2.1 then some (.inr (s.2.2.2)) else if s.2.2.1 < 0 ∨ lenM s.2.1 ≤ Int32.toNatClampNeg s.2.2.1 then none else (sX4_carries s.1 s.2.2.2).bind fun q3 => if (s.2.2.2.1 s.2.1 (Int32.toNatClampNeg s.2.2.1)) ≤ q3.1 then if s.2.2.1 < 0 ∨ lenM s.2.1 ≤ Int32.toNatClampNeg s.2.2.1 then none else (sX4_starts s.1 q3.2).bind fun q4 => if s.2.2.1 < 0 ∨ lenM s.2.1 ≤ Int32.toNatClampNeg s.2.2.1 then none else let u5 : mm_S := ((mm_ui q4.2.1 s.2.1 (Int32.toNatClampNeg s.2.2.1) ((q3.2.1 s.2.1 (Int32.toNatClampNeg s.2.2.1)) + q4.1)), q4.2.2); (sX4_findHeard_49 s.1 s.2.1 s.2.2.1 u5) else if s.2.2.1 < 0 ∨ lenM s.2.1 ≤ Int32.toNatClampNeg s.2.2.1 then none else (sX4_findHeard_49 s.1 s.2.1 s.2.2.1 ((mm_ui q3.2.1 s.2.1 (Int32.toNatClampNeg s.2.2.1) 10000), q3.2.2))
noncomputable def sX4_findHeard_14 (y1 : Int32) (y2 : Nat) (y3 : Int32) (z : mm_S) : Option (mm_S) := mm_wh (lX4_findHeard_14 ) mm_fu (y1, y2, y3, z)
noncomputable def sX4_findHeard_12 (y1 : Int32) (y2 : Nat) (z : mm_S) : Option (mm_S) := (sX4_findHeard_14 y1 y2 0 z)
noncomputable def sX4_findHeard_0 (x1 : Int32) (x2 : Nat) (z : mm_S) : Option (mm_S) := (sX4_crewIs x1 1 z).bind fun q1 => (sX4_findTimes q1.1 1 x2 q1.2).bind fun q2 => (sX4_findHeard_12 x1 x2 q2)
noncomputable def sX4_findHeard (x1 : Int32) (x2 : Nat) (z : mm_S) : Option (mm_S) := sX4_findHeard_0 x1 x2 z
noncomputable def sX4_heard_31 (y2 : Int32) (z : mm_S) : Option (Int32 × mm_S) := if y2 < 0 ∨ 36 ≤ Int32.toNatClampNeg y2 then none else (sX4_told (z.1 7 (Int32.toNatClampNeg y2)) z).bind fun q4 => some (q4.1, q4.2)
noncomputable def sX4_heard_22 (y1 : Int32) (y2 : Int32) (z : mm_S) : Option (Int32 × mm_S) := (sX4_findHeard y1 7 z).bind fun q3 => (sX4_heard_31 y2 q3)
noncomputable def sX4_heard_0 (x1 : Int32) (x2 : Int32) (z : mm_S) : Option (Int32 × mm_S) := if (pX4_isCrew x1 z) = 0 then (sX4_finding (-1000001) z).bind fun q1 => some (q1.1, q1.2) else if (pX4_isCell x2) = 0 then (sX4_finding (-1000001) z).bind fun q2 => some (q2.1, q2.2) else (sX4_heard_22 x1 x2 z)
noncomputable def sX4_heard (x1 : Int32) (x2 : Int32) (z : mm_S) : Option (Int32 × mm_S) := sX4_heard_0 x1 x2 z
noncomputable def lX4_reachOf_14 (s : Int64 × Int32 × mm_S) : Option ((Int64 × Int32 × mm_S) ⊕ (Int64 × mm_S)) := if 36 ≤ s.2.1 then some (.inr (s.1, s.2.2)) else if s.2.1 < 0 ∨ 36 ≤ Int32.toNatClampNeg s.2.1 then none else if 10000 ≤ (s.2.2.1 7 (Int32.toNatClampNeg s.2.1)) then some (.inl ((s.1 ||| 0), (s.2.1 + 1), s.2.2)) else let v2 : Int64 := (s.1 ||| (1 <<< (Int32.toInt64 s.2.1 &&& 63))); some (.inl (v2, (s.2.1 + 1), s.2.2))
noncomputable def sX4_reachOf_14 (y2 : Int64) (y4 : Int32) (z : mm_S) : Option (Int64 × mm_S) := mm_wh (lX4_reachOf_14 ) mm_fu (y2, y4, z)
noncomputable def sX4_reachOf_9  (z : mm_S) : Option (Int64 × mm_S) := (sX4_reachOf_14 0 0 z)
noncomputable def sX4_reachOf_0 (x1 : Int32) (z : mm_S) : Option (Int64 × mm_S) := (sX4_findHeard x1 7 z).bind fun q1 => (sX4_reachOf_9 q1)
noncomputable def sX4_reachOf (x1 : Int32) (z : mm_S) : Option (Int64 × mm_S) := sX4_reachOf_0 x1 z
noncomputable def sX4_reach_16  (z : mm_S) : Option (Int64 × mm_S) := (sX4_finding (-1000001) z).bind fun q2 => some ((Int32.toInt64 q2.1), q2.2)
noncomputable def sX4_reach_0 (x1 : Int32) (z : mm_S) : Option (Int64 × mm_S) := if (pX4_isCrew x1 z) = 0 then (sX4_reach_16 z) else (sX4_reachOf x1 z).bind fun q1 => some (q1.1, q1.2)
noncomputable def sX4_reach (x1 : Int32) (z : mm_S) : Option (Int64 × mm_S) := sX4_reach_0 x1 z
noncomputable def sX4_doesHear_28  (z : mm_S) : Option (Int32 × mm_S) := some (1, z)
noncomputable def sX4_doesHear_9 (y1 : Int32) (z : mm_S) : Option (Int32 × mm_S) := (sX4_crewIs y1 1 z).bind fun q2 => if q2.1 < 0 ∨ 36 ≤ Int32.toNatClampNeg q2.1 then none else (sX4_hearsBy y1 q2.2).bind fun q3 => if q3.1 < (q2.2.1 7 (Int32.toNatClampNeg q2.1)) then some (0, q3.2) else (sX4_doesHear_28 q3.2)
noncomputable def sX4_doesHear_0 (x1 : Int32) (x2 : Int32) (z : mm_S) : Option (Int32 × mm_S) := (sX4_findHeard x2 7 z).bind fun q1 => (sX4_doesHear_9 x1 q1)
noncomputable def sX4_doesHear (x1 : Int32) (x2 : Int32) (z : mm_S) : Option (Int32 × mm_S) := sX4_doesHear_0 x1 x2 z
noncomputable def sX4_hears_53 (y1 : Int32) (y2 : Int32) (y3 : Int32) (z : mm_S) : Option ((Int32 × Int32 × Int32 × mm_S) ⊕ (Int32 × mm_S)) := some (.inl (y1, y2, (y3 + 1), z))
noncomputable def lX4_hears_19 (s : Int32 × Int32 × Int32 × mm_S) : Option ((Int32 × Int32 × Int32 × mm_S) ⊕ (Int32 × mm_S)) := if (s.2.2.2.1 1 1) ≤ s.2.2.1 then some (.inr (s.2.1, s.2.2.2)) else if s.2.2.1 = s.1 then (sX4_hears_53 s.1 (s.2.1 ||| 0) s.2.2.1 s.2.2.2) else (sX4_doesHear s.1 s.2.2.1 s.2.2.2).bind fun q2 => if q2.1 = 0 then (sX4_hears_53 s.1 (s.2.1 ||| 0) s.2.2.1 q2.2) else (sX4_hears_53 s.1 (s.2.1 ||| (1 <<< (s.2.2.1 &&& 31))) s.2.2.1 q2.2)
noncomputable def sX4_hears_19 (y1 : Int32) (y2 : Int32) (y3 : Int32) (z : mm_S) : Option (Int32 × mm_S) := mm_wh (lX4_hears_19 ) mm_fu (y1, y2, y3, z)
noncomputable def sX4_hears_15 (y1 : Int32) (z : mm_S) : Option (Int32 × mm_S) := (sX4_hears_19 y1 0 0 z)
noncomputable def sX4_hears_0 (x1 : Int32) (z : mm_S) : Option (Int32 × mm_S) := if (pX4_isCrew x1 z) = 0 then (sX4_finding (-1000001) z).bind fun q1 => some (q1.1, q1.2) else (sX4_hears_15 x1 z)
noncomputable def sX4_hears (x1 : Int32) (z : mm_S) : Option (Int32 × mm_S) := sX4_hears_0 x1 z
noncomputable def sX4_echoOf_67  (z : mm_S) : Option (Int32 × mm_S) := some (10000, z)
noncomputable def lX4_echoOf_7 (s : Int32 × Int32 × Int32 × Int32 × mm_S) : Option ((Int32 × Int32 × Int32 × Int32 × mm_S) ⊕ (Int32 × mm_S)) := if 4 ≤ s.2.2.2.1 then (sX4_carries s.1 s.2.2.2.2).bind fun q1 => if (s.2.2.1 + 1) ≤ q1.1 then (sX4_starts s.1 q1.2).bind fun q2 => some (.inr (((s.2.2.1 + 1) + q2.1), q2.2)) else ((sX4_echoOf_67 q1.2).map fun w => (Sum.inr w)) else if 0 ≤ (pX4_beside s.2.1 s.2.2.2.1 s.2.2.2.2) then if (pX4_beside s.2.1 s.2.2.2.1 s.2.2.2.2) < 0 ∨ 36 ≤ Int32.toNatClampNeg (pX4_beside s.2.1 s.2.2.2.1 s.2.2.2.2) then none else if (pX4_beside s.2.1 s.2.2.2.1 s.2.2.2.2) < 0 ∨ 36 ≤ Int32.toNatClampNeg (pX4_beside s.2.1 s.2.2.2.1 s.2.2.2.2) then none else let v3 : Int32 := (mm_min s.2.2.1 ((s.2.2.2.2.1 5 (Int32.toNatClampNeg (pX4_beside s.2.1 s.2.2.2.1 s.2.2.2.2))) + (s.2.2.2.2.1 6 (Int32.toNatClampNeg (pX4_beside s.2.1 s.2.2.2.1 s.2.2.2.2))))); some (.inl (s.1, s.2.1, v3, (s.2.2.2.1 + 1), s.2.2.2.2)) else some (.inl (s.1, s.2.1, s.2.2.1, (s.2.2.2.1 + 1), s.2.2.2.2))
noncomputable def sX4_echoOf_7 (y1 : Int32) (y2 : Int32) (y3 : Int32) (y4 : Int32) (z : mm_S) : Option (Int32 × mm_S) := mm_wh (lX4_echoOf_7 ) mm_fu (y1, y2, y3, y4, z)
noncomputable def sX4_echoOf_0 (x1 : Int32) (x2 : Int32) (z : mm_S) : Option (Int32 × mm_S) := (sX4_echoOf_7 x1 x2 10000 0 z)
noncomputable def sX4_echoOf (x1 : Int32) (x2 : Int32) (z : mm_S) : Option (Int32 × mm_S) := sX4_echoOf_0 x1 x2 z
noncomputable def sX4_findBoth_25  (z : mm_S) : Option (mm_S) := some (z)
noncomputable def sX4_findBoth_15 (y2 : Int32) (z : mm_S) : Option (mm_S) := (sX4_findTimes y2 0 6 z).bind fun q3 => (sX4_findBoth_25 q3)
noncomputable def sX4_findBoth_0 (x1 : Int32) (x2 : Int32) (z : mm_S) : Option (mm_S) := (sX4_crewIs x1 1 z).bind fun q1 => (sX4_findTimes q1.1 1 5 q1.2).bind fun q2 => (sX4_findBoth_15 x2 q2)
noncomputable def sX4_findBoth (x1 : Int32) (x2 : Int32) (z : mm_S) : Option (mm_S) := sX4_findBoth_0 x1 x2 z
noncomputable def sX4_echo_37  (z : mm_S) : Option (Int32 × mm_S) := (sX4_finding (-1000005) z).bind fun q6 => some (q6.1, q6.2)
noncomputable def sX4_echo_50 (y1 : Int32) (y3 : Int32) (z : mm_S) : Option (Int32 × mm_S) := (sX4_echoOf y1 y3 z).bind fun q7 => (sX4_told q7.1 q7.2).bind fun q8 => some (q8.1, q8.2)
noncomputable def sX4_echo_44 (y1 : Int32) (y2 : Int32) (y3 : Int32) (z : mm_S) : Option (Int32 × mm_S) := (sX4_findBoth y1 y2 z).bind fun q5 => (sX4_echo_50 y1 y3 q5)
noncomputable def sX4_echo_29 (y1 : Int32) (y2 : Int32) (y3 : Int32) (z : mm_S) : Option (Int32 × mm_S) := (sX4_isHole y3 z).bind fun q4 => if q4.1 = 0 then (sX4_echo_37 q4.2) else (sX4_echo_44 y1 y2 y3 q4.2)
noncomputable def sX4_echo_0 (x1 : Int32) (x2 : Int32) (x3 : Int32) (z : mm_S) : Option (Int32 × mm_S) := if (pX4_isCrew x1 z) = 0 then (sX4_finding (-1000001) z).bind fun q1 => some (q1.1, q1.2) else if (pX4_isCell x2) = 0 then (sX4_finding (-1000001) z).bind fun q2 => some (q2.1, q2.2) else if (pX4_isCell x3) = 0 then (sX4_finding (-1000001) z).bind fun q3 => some (q3.1, q3.2) else (sX4_echo_29 x1 x2 x3 z)
noncomputable def sX4_echo (x1 : Int32) (x2 : Int32) (x3 : Int32) (z : mm_S) : Option (Int32 × mm_S) := sX4_echo_0 x1 x2 x3 z
noncomputable def sX4_chord_82 (y1 : Int32) (y3 : Int32) (y4 : Int32) (y5 : Int32) (y6 : Int32) (y7 : Int32) (z : mm_S) : Option ((Int32 × Int32 × Int32 × Int32 × Int32 × Int32 × mm_S) ⊕ ((Int32 × Int32 × Int32 × Int32 × mm_S) ⊕ (Int32 × mm_S))) := (sX4_echoOf y1 y7 z).bind fun q8 => if q8.1 ≤ y4 then some (.inl (y1, y3, y4, y5, y6, (y7 + 1), q8.2)) else some (.inl (y1, y3, y4, y5, (mm_min y6 q8.1), (y7 + 1), q8.2))
noncomputable def sX4_chord_92 (y1 : Int32) (y3 : Int32) (y4 : Int32) (y5 : Int32) (y6 : Int32) (y7 : Int32) (z : mm_S) : Option ((Int32 × Int32 × Int32 × Int32 × Int32 × Int32 × mm_S) ⊕ ((Int32 × Int32 × Int32 × Int32 × mm_S) ⊕ (Int32 × mm_S))) := if 10000 ≤ y4 then some (.inl (y1, y3, y4, y5, y6, (y7 + 1), z)) else some (.inl (y1, y3, y4, y5, (mm_min y6 10000), (y7 + 1), z))
noncomputable def lX4_chord_66 (s : Int32 × Int32 × Int32 × Int32 × Int32 × Int32 × mm_S) : Option ((Int32 × Int32 × Int32 × Int32 × Int32 × Int32 × mm_S) ⊕ ((Int32 × Int32 × Int32 × Int32 × mm_S) ⊕ (Int32 × mm_S))) := if 36 ≤ s.2.2.2.2.2.1 then some (.inr (.inl (s.1, s.2.1, s.2.2.2.2.1, (s.2.2.2.1 + 1), s.2.2.2.2.2.2))) else (sX4_isHole s.2.2.2.2.2.1 s.2.2.2.2.2.2).bind fun q7 => if q7.1 = 0 then (sX4_chord_92 s.1 s.2.1 s.2.2.1 s.2.2.2.1 s.2.2.2.2.1 s.2.2.2.2.2.1 q7.2) else (sX4_chord_82 s.1 s.2.1 s.2.2.1 s.2.2.2.1 s.2.2.2.2.1 s.2.2.2.2.2.1 q7.2)
noncomputable def sX4_chord_66 (y1 : Int32) (y3 : Int32) (y4 : Int32) (y5 : Int32) (y6 : Int32) (y7 : Int32) (z : mm_S) : Option ((Int32 × Int32 × Int32 × Int32 × mm_S) ⊕ (Int32 × mm_S)) := mm_wh (lX4_chord_66 ) mm_fu (y1, y3, y4, y5, y6, y7, z)
noncomputable def lX4_chord_44 (s : Int32 × Int32 × Int32 × Int32 × mm_S) : Option ((Int32 × Int32 × Int32 × Int32 × mm_S) ⊕ (Int32 × mm_S)) := if s.2.1 < s.2.2.2.1 then (sX4_told s.2.2.1 s.2.2.2.2).bind fun q5 => some (.inr (q5.1, q5.2)) else if 10000 ≤ s.2.2.1 then (sX4_told s.2.2.1 s.2.2.2.2).bind fun q6 => some (.inr (q6.1, q6.2)) else (sX4_chord_66 s.1 s.2.1 s.2.2.1 s.2.2.2.1 10000 0 s.2.2.2.2)
noncomputable def sX4_chord_44 (y1 : Int32) (y3 : Int32) (y4 : Int32) (y5 : Int32) (z : mm_S) : Option (Int32 × mm_S) := mm_wh (lX4_chord_44 ) mm_fu (y1, y3, y4, y5, z)
noncomputable def sX4_chord_38 (y1 : Int32) (y3 : Int32) (z : mm_S) : Option (Int32 × mm_S) := (sX4_chord_44 y1 y3 (-1) 0 z)
noncomputable def sX4_chord_32 (y1 : Int32) (y2 : Int32) (y3 : Int32) (z : mm_S) : Option (Int32 × mm_S) := (sX4_findBoth y1 y2 z).bind fun q4 => (sX4_chord_38 y1 y3 q4)
noncomputable def sX4_chord_0 (x1 : Int32) (x2 : Int32) (x3 : Int32) (z : mm_S) : Option (Int32 × mm_S) := if (pX4_isCrew x1 z) = 0 then (sX4_finding (-1000001) z).bind fun q1 => some (q1.1, q1.2) else if (pX4_isCell x2) = 0 then (sX4_finding (-1000001) z).bind fun q2 => some (q2.1, q2.2) else if (pX4_within x3 0 35) = 0 then (sX4_finding (-1000001) z).bind fun q3 => some (q3.1, q3.2) else (sX4_chord_32 x1 x2 x3 z)
noncomputable def sX4_chord (x1 : Int32) (x2 : Int32) (x3 : Int32) (z : mm_S) : Option (Int32 × mm_S) := sX4_chord_0 x1 x2 x3 z
noncomputable def sX4_last_51  (z : mm_S) : Option (Int32 × mm_S) := (sX4_finding (-1000004) z).bind fun q7 => some (q7.1, q7.2)
noncomputable def sX4_last_68  (z : mm_S) : Option (Int32 × mm_S) := (sX4_finding (-1000005) z).bind fun q8 => some (q8.1, q8.2)
noncomputable def sX4_last_125 (y2 : Int32) (y3 : Int32) (y4 : Int32) (y5 : Int32) (z : mm_S) : Option ((Int32 × Int32 × Int32 × mm_S) ⊕ (Int32 × mm_S)) := some (.inl (y2, (mm_min y3 y5), (y4 + 1), z))
noncomputable def lX4_last_81 (s : Int32 × Int32 × Int32 × mm_S) : Option ((Int32 × Int32 × Int32 × mm_S) ⊕ (Int32 × mm_S)) := if 4 ≤ s.2.2.1 then some (.inr (s.2.1, s.2.2.2)) else if (pX4_beside s.1 s.2.2.1 s.2.2.2) < 0 then some (.inl (s.1, s.2.1, (s.2.2.1 + 1), s.2.2.2)) else if (pX4_beside s.1 s.2.2.1 s.2.2.2) < 0 ∨ 36 ≤ Int32.toNatClampNeg (pX4_beside s.1 s.2.2.1 s.2.2.2) then none else (sX4_stuffIs s.1 s.2.2.2).bind fun q9 => if s.1 < 0 ∨ 36 ≤ Int32.toNatClampNeg s.1 then none else if ((s.2.2.2.1 5 (Int32.toNatClampNeg (pX4_beside s.1 s.2.2.1 s.2.2.2))) + (pX4_pace q9.1)) = (q9.2.1 5 (Int32.toNatClampNeg s.1)) then (sX4_last_125 s.1 s.2.1 s.2.2.1 (pX4_beside s.1 s.2.2.1 s.2.2.2) q9.2) else some (.inl (s.1, s.2.1, (s.2.2.1 + 1), q9.2))
noncomputable def sX4_last_81 (y2 : Int32) (y3 : Int32) (y4 : Int32) (z : mm_S) : Option (Int32 × mm_S) := mm_wh (lX4_last_81 ) mm_fu (y2, y3, y4, z)
noncomputable def sX4_last_75 (y2 : Int32) (z : mm_S) : Option (Int32 × mm_S) := (sX4_last_81 y2 36 0 z)
noncomputable def sX4_last_58 (y1 : Int32) (y2 : Int32) (z : mm_S) : Option (Int32 × mm_S) := (sX4_crewIs y1 1 z).bind fun q6 => if y2 = q6.1 then (sX4_last_68 q6.2) else (sX4_last_75 y2 q6.2)
noncomputable def sX4_last_37 (y1 : Int32) (y2 : Int32) (z : mm_S) : Option (Int32 × mm_S) := if y2 < 0 ∨ 36 ≤ Int32.toNatClampNeg y2 then none else (sX4_carries y1 z).bind fun q5 => if (z.1 5 (Int32.toNatClampNeg y2)) ≤ q5.1 then (sX4_last_58 y1 y2 q5.2) else (sX4_last_51 q5.2)
noncomputable def sX4_last_22 (y1 : Int32) (y2 : Int32) (z : mm_S) : Option (Int32 × mm_S) := (sX4_crewIs y1 1 z).bind fun q3 => (sX4_findTimes q3.1 1 5 q3.2).bind fun q4 => (sX4_last_37 y1 y2 q4)
noncomputable def sX4_last_0 (x1 : Int32) (x2 : Int32) (z : mm_S) : Option (Int32 × mm_S) := if (pX4_isCrew x1 z) = 0 then (sX4_finding (-1000001) z).bind fun q1 => some (q1.1, q1.2) else if (pX4_isCell x2) = 0 then (sX4_finding (-1000001) z).bind fun q2 => some (q2.1, q2.2) else (sX4_last_22 x1 x2 z)
noncomputable def sX4_last (x1 : Int32) (x2 : Int32) (z : mm_S) : Option (Int32 × mm_S) := sX4_last_0 x1 x2 z
noncomputable def sX4_many_50 (y1 : Int32) (y2 : Int32) (y3 : Int32) (z : mm_S) : Option ((Int32 × Int32 × Int32 × mm_S) ⊕ (Int32 × mm_S)) := some (.inl (y1, y2, (y3 + 1), z))
noncomputable def lX4_many_18 (s : Int32 × Int32 × Int32 × mm_S) : Option ((Int32 × Int32 × Int32 × mm_S) ⊕ (Int32 × mm_S)) := if (s.2.2.2.1 1 1) ≤ s.2.2.1 then some (.inr (s.2.1, s.2.2.2)) else (sX4_reachOf s.2.2.1 s.2.2.2).bind fun q2 => if (lg_cmp ((q2.1 >>> (Int32.toInt64 s.1 &&& 63)) &&& 1) 1) = 0 then (sX4_many_50 s.1 (s.2.1 + 1) s.2.2.1 q2.2) else (sX4_many_50 s.1 (s.2.1 + 0) s.2.2.1 q2.2)
noncomputable def sX4_many_18 (y1 : Int32) (y2 : Int32) (y3 : Int32) (z : mm_S) : Option (Int32 × mm_S) := mm_wh (lX4_many_18 ) mm_fu (y1, y2, y3, z)
noncomputable def sX4_many_14 (y1 : Int32) (z : mm_S) : Option (Int32 × mm_S) := (sX4_many_18 y1 0 0 z)
noncomputable def sX4_many_0 (x1 : Int32) (z : mm_S) : Option (Int32 × mm_S) := if (pX4_isCell x1) = 0 then (sX4_finding (-1000001) z).bind fun q1 => some (q1.1, q1.2) else (sX4_many_14 x1 z)
noncomputable def sX4_many (x1 : Int32) (z : mm_S) : Option (Int32 × mm_S) := sX4_many_0 x1 z
noncomputable def sX4_silentNow_38 (y1 : Int64) (y3 : Int32) (z : mm_S) : Option ((Int64 × Int32 × mm_S) ⊕ (Int64 × mm_S)) := some (.inl (y1, (y3 + 1), z))
noncomputable def lX4_silentNow_16 (s : Int64 × Int32 × mm_S) : Option ((Int64 × Int32 × mm_S) ⊕ (Int64 × mm_S)) := if (s.2.2.1 1 1) ≤ s.2.1 then some (.inr (s.1, s.2.2)) else (sX4_reachOf s.2.1 s.2.2).bind fun q2 => (sX4_silentNow_38 (s.1 &&& (q2.1 ^^^ (-1))) s.2.1 q2.2)
noncomputable def sX4_silentNow_16 (y1 : Int64) (y3 : Int32) (z : mm_S) : Option (Int64 × mm_S) := mm_wh (lX4_silentNow_16 ) mm_fu (y1, y3, z)
noncomputable def sX4_silentNow_14 (y1 : Int64) (z : mm_S) : Option (Int64 × mm_S) := (sX4_silentNow_16 y1 0 z)
noncomputable def sX4_silentNow_0  (z : mm_S) : Option (Int64 × mm_S) := (sX4_cellsOf 2 z).bind fun q1 => (sX4_silentNow_14 (68719476735 &&& (q1.1 ^^^ (-1))) q1.2)
noncomputable def sX4_silentNow  (z : mm_S) : Option (Int64 × mm_S) := sX4_silentNow_0  z
noncomputable def sX4_silent_0  (z : mm_S) : Option (Int64 × mm_S) := (sX4_silentNow  z).bind fun q1 => some (q1.1, q1.2)
noncomputable def sX4_silent  (z : mm_S) : Option (Int64 × mm_S) := sX4_silent_0  z
noncomputable def sX4_areTwo_0 (x1 : Int32) (x2 : Int32) (z : mm_S) : Option (Int32 × mm_S) := if (pX4_isCrew x1 z) = 0 then some (0, z) else if (pX4_isCrew x2 z) = 0 then some (0, z) else if x1 = x2 then some (0, z) else some (1, z)
noncomputable def sX4_areTwo (x1 : Int32) (x2 : Int32) (z : mm_S) : Option (Int32 × mm_S) := sX4_areTwo_0 x1 x2 z
noncomputable def sX4_lag_41 (y3 : Int32) (z : mm_S) : Option (Int32 × mm_S) := if y3 < 0 ∨ 36 ≤ Int32.toNatClampNeg y3 then none else if 10000 ≤ (z.1 7 (Int32.toNatClampNeg y3)) then (sX4_finding (-1000004) z).bind fun q6 => some (q6.1, q6.2) else if y3 < 0 ∨ 36 ≤ Int32.toNatClampNeg y3 then none else if 10000 ≤ (z.1 8 (Int32.toNatClampNeg y3)) then (sX4_finding (-1000004) z).bind fun q7 => some (q7.1, q7.2) else if y3 < 0 ∨ 36 ≤ Int32.toNatClampNeg y3 then none else if y3 < 0 ∨ 36 ≤ Int32.toNatClampNeg y3 then none else some (((z.1 8 (Int32.toNatClampNeg y3)) - (z.1 7 (Int32.toNatClampNeg y3))), z)
noncomputable def sX4_lag_32 (y2 : Int32) (y3 : Int32) (z : mm_S) : Option (Int32 × mm_S) := (sX4_findHeard y2 8 z).bind fun q5 => (sX4_lag_41 y3 q5)
noncomputable def sX4_lag_23 (y1 : Int32) (y2 : Int32) (y3 : Int32) (z : mm_S) : Option (Int32 × mm_S) := (sX4_findHeard y1 7 z).bind fun q4 => (sX4_lag_32 y2 y3 q4)
noncomputable def sX4_lag_9 (y1 : Int32) (y2 : Int32) (y3 : Int32) (z : mm_S) : Option (Int32 × mm_S) := if (pX4_isCell y3) = 0 then (sX4_finding (-1000001) z).bind fun q3 => some (q3.1, q3.2) else (sX4_lag_23 y1 y2 y3 z)
noncomputable def sX4_lag_0 (x1 : Int32) (x2 : Int32) (x3 : Int32) (z : mm_S) : Option (Int32 × mm_S) := (sX4_areTwo x1 x2 z).bind fun q1 => if q1.1 = 0 then (sX4_finding (-1000001) q1.2).bind fun q2 => some (q2.1, q2.2) else (sX4_lag_9 x1 x2 x3 q1.2)
noncomputable def sX4_lag (x1 : Int32) (x2 : Int32) (x3 : Int32) (z : mm_S) : Option (Int32 × mm_S) := sX4_lag_0 x1 x2 x3 z
noncomputable def sX4_apart_9  (z : mm_S) : Option (Int32 × mm_S) := (sX4_finding (-1000001) z).bind fun q3 => some (q3.1, q3.2)
noncomputable def lX4_apart_40 (s : Int32 × Int32 × mm_S) : Option ((Int32 × Int32 × mm_S) ⊕ (Int32 × mm_S)) := if 36 ≤ s.2.1 then some (.inr (s.1, s.2.2)) else if s.2.1 < 0 ∨ 36 ≤ Int32.toNatClampNeg s.2.1 then none else if s.2.1 < 0 ∨ 36 ≤ Int32.toNatClampNeg s.2.1 then none else let v5 : Int32 := ((s.2.2.1 7 (Int32.toNatClampNeg s.2.1)) - (s.2.2.1 8 (Int32.toNatClampNeg s.2.1))); if s.2.1 < 0 ∨ 36 ≤ Int32.toNatClampNeg s.2.1 then none else if 10000 ≤ (s.2.2.1 7 (Int32.toNatClampNeg s.2.1)) then some (.inl ((s.1 &&& (-1)), (s.2.1 + 1), s.2.2)) else if s.2.1 < 0 ∨ 36 ≤ Int32.toNatClampNeg s.2.1 then none else if 10000 ≤ (s.2.2.1 8 (Int32.toNatClampNeg s.2.1)) then some (.inl ((s.1 &&& (-1)), (s.2.1 + 1), s.2.2)) else if (pX4_within v5 0 30) = 0 then some (.inl ((s.1 &&& (-1)), (s.2.1 + 1), s.2.2)) else some (.inl ((s.1 &&& ((1 <<< (v5 &&& 31)) ^^^ (-1))), (s.2.1 + 1), s.2.2))
noncomputable def sX4_apart_40 (y3 : Int32) (y4 : Int32) (z : mm_S) : Option (Int32 × mm_S) := mm_wh (lX4_apart_40 ) mm_fu (y3, y4, z)
noncomputable def sX4_apart_34  (z : mm_S) : Option (Int32 × mm_S) := (sX4_apart_40 2147483647 0 z)
noncomputable def sX4_apart_25 (y2 : Int32) (z : mm_S) : Option (Int32 × mm_S) := (sX4_findHeard y2 8 z).bind fun q4 => (sX4_apart_34 q4)
noncomputable def sX4_apart_16 (y1 : Int32) (y2 : Int32) (z : mm_S) : Option (Int32 × mm_S) := (sX4_findHeard y1 7 z).bind fun q2 => (sX4_apart_25 y2 q2)
noncomputable def sX4_apart_0 (x1 : Int32) (x2 : Int32) (z : mm_S) : Option (Int32 × mm_S) := (sX4_areTwo x1 x2 z).bind fun q1 => if q1.1 = 0 then (sX4_apart_9 q1.2) else (sX4_apart_16 x1 x2 q1.2)
noncomputable def sX4_apart (x1 : Int32) (x2 : Int32) (z : mm_S) : Option (Int32 × mm_S) := sX4_apart_0 x1 x2 z
noncomputable def lX4_from_64 (s : Int32 × Int64 × Int32 × mm_S) : Option ((Int32 × Int64 × Int32 × mm_S) ⊕ (Int64 × mm_S)) := if 36 ≤ s.2.2.1 then some (.inr (s.2.1, s.2.2.2)) else if s.2.2.1 < 0 ∨ 36 ≤ Int32.toNatClampNeg s.2.2.1 then none else if 10000 ≤ (s.2.2.2.1 5 (Int32.toNatClampNeg s.2.2.1)) then some (.inl (s.1, (s.2.1 ||| 0), (s.2.2.1 + 1), s.2.2.2)) else if s.2.2.1 < 0 ∨ 36 ≤ Int32.toNatClampNeg s.2.2.1 then none else if 10000 ≤ (s.2.2.2.1 6 (Int32.toNatClampNeg s.2.2.1)) then some (.inl (s.1, (s.2.1 ||| 0), (s.2.2.1 + 1), s.2.2.2)) else if s.2.2.1 < 0 ∨ 36 ≤ Int32.toNatClampNeg s.2.2.1 then none else if s.2.2.1 < 0 ∨ 36 ≤ Int32.toNatClampNeg s.2.2.1 then none else if ((s.2.2.2.1 6 (Int32.toNatClampNeg s.2.2.1)) - (s.2.2.2.1 5 (Int32.toNatClampNeg s.2.2.1))) = s.1 then let v8 : Int64 := (s.2.1 ||| (1 <<< (Int32.toInt64 s.2.2.1 &&& 63))); some (.inl (s.1, v8, (s.2.2.1 + 1), s.2.2.2)) else some (.inl (s.1, (s.2.1 ||| 0), (s.2.2.1 + 1), s.2.2.2))
noncomputable def sX4_from_64 (y3 : Int32) (y4 : Int64) (y6 : Int32) (z : mm_S) : Option (Int64 × mm_S) := mm_wh (lX4_from_64 ) mm_fu (y3, y4, y6, z)
noncomputable def sX4_from_58 (y3 : Int32) (z : mm_S) : Option (Int64 × mm_S) := (sX4_from_64 y3 0 0 z)
noncomputable def sX4_from_43 (y2 : Int32) (y3 : Int32) (z : mm_S) : Option (Int64 × mm_S) := (sX4_crewIs y2 1 z).bind fun q6 => (sX4_findTimes q6.1 0 6 q6.2).bind fun q7 => (sX4_from_58 y3 q7)
noncomputable def sX4_from_28 (y1 : Int32) (y2 : Int32) (y3 : Int32) (z : mm_S) : Option (Int64 × mm_S) := (sX4_crewIs y1 1 z).bind fun q4 => (sX4_findTimes q4.1 0 5 q4.2).bind fun q5 => (sX4_from_43 y2 y3 q5)
noncomputable def sX4_from_9 (y1 : Int32) (y2 : Int32) (y3 : Int32) (z : mm_S) : Option (Int64 × mm_S) := if (pX4_within y3 (-60) 60) = 0 then (sX4_finding (-1000001) z).bind fun q3 => some ((Int32.toInt64 q3.1), q3.2) else (sX4_from_28 y1 y2 y3 z)
noncomputable def sX4_from_0 (x1 : Int32) (x2 : Int32) (x3 : Int32) (z : mm_S) : Option (Int64 × mm_S) := (sX4_areTwo x1 x2 z).bind fun q1 => if q1.1 = 0 then (sX4_finding (-1000001) q1.2).bind fun q2 => some ((Int32.toInt64 q2.1), q2.2) else (sX4_from_9 x1 x2 x3 q1.2)
noncomputable def sX4_from (x1 : Int32) (x2 : Int32) (x3 : Int32) (z : mm_S) : Option (Int64 × mm_S) := sX4_from_0 x1 x2 x3 z
noncomputable def sX4_middle_31 (y1 : Int32) (z : mm_S) : Option ((Int32 × mm_S) ⊕ (Int32 × mm_S)) := some (.inl ((y1 + 1), z))
noncomputable def sX4_middle_93 (y1 : Int32) (y2 : Int32) (z : mm_S) : Option ((Int32 × Int32 × mm_S) ⊕ ((Int32 × mm_S) ⊕ (Int32 × mm_S))) := some (.inl (y1, (y2 + 1), z))
noncomputable def lX4_middle_66 (s : Int32 × Int32 × mm_S) : Option ((Int32 × Int32 × mm_S) ⊕ ((Int32 × mm_S) ⊕ (Int32 × mm_S))) := if 36 ≤ s.2.1 then some (.inr (.inl ((s.1 + 1), s.2.2))) else if s.2.1 < 0 ∨ 36 ≤ Int32.toNatClampNeg s.2.1 then none else if s.2.1 < 0 ∨ 36 ≤ Int32.toNatClampNeg s.2.1 then none else if s.2.1 < 0 ∨ 36 ≤ Int32.toNatClampNeg s.2.1 then none else let u5 : mm_S := ((mm_ui s.2.2.1 9 (Int32.toNatClampNeg s.2.1) (mm_max (s.2.2.1 9 (Int32.toNatClampNeg s.2.1)) (s.2.2.1 5 (Int32.toNatClampNeg s.2.1)))), s.2.2.2); (sX4_middle_93 s.1 s.2.1 u5)
noncomputable def sX4_middle_66 (y1 : Int32) (y2 : Int32) (z : mm_S) : Option ((Int32 × mm_S) ⊕ (Int32 × mm_S)) := mm_wh (lX4_middle_66 ) mm_fu (y1, y2, z)
noncomputable def sX4_middle_64 (y1 : Int32) (z : mm_S) : Option ((Int32 × mm_S) ⊕ (Int32 × mm_S)) := (sX4_middle_66 y1 0 z)
noncomputable def lX4_middle_109 (s : Int32 × Int32 × mm_S) : Option ((Int32 × Int32 × mm_S) ⊕ (Int32 × mm_S)) := if 36 ≤ s.2.1 then if s.1 < 0 ∨ 36 ≤ Int32.toNatClampNeg s.1 then none else if 10000 ≤ (s.2.2.1 9 (Int32.toNatClampNeg s.1)) then (sX4_finding (-1000004) s.2.2).bind fun q4 => some (.inr (q4.1, q4.2)) else some (.inr (s.1, s.2.2)) else if s.2.1 < 0 ∨ 36 ≤ Int32.toNatClampNeg s.2.1 then none else if s.1 < 0 ∨ 36 ≤ Int32.toNatClampNeg s.1 then none else if (s.2.2.1 9 (Int32.toNatClampNeg s.1)) ≤ (s.2.2.1 9 (Int32.toNatClampNeg s.2.1)) then some (.inl (s.1, (s.2.1 + 1), s.2.2)) else some (.inl (s.2.1, (s.2.1 + 1), s.2.2))
noncomputable def sX4_middle_109 (y1 : Int32) (y2 : Int32) (z : mm_S) : Option (Int32 × mm_S) := mm_wh (lX4_middle_109 ) mm_fu (y1, y2, z)
noncomputable def lX4_middle_39 (s : Int32 × mm_S) : Option ((Int32 × mm_S) ⊕ (Int32 × mm_S)) := if (s.2.1 1 1) ≤ s.1 then ((sX4_middle_109 0 1 s.2).map fun w => (Sum.inr w)) else (sX4_crewIs s.1 1 s.2).bind fun q2 => (sX4_findTimes q2.1 1 5 q2.2).bind fun q3 => (sX4_middle_64 s.1 q3)
noncomputable def sX4_middle_39 (y1 : Int32) (z : mm_S) : Option (Int32 × mm_S) := mm_wh (lX4_middle_39 ) mm_fu (y1, z)
noncomputable def lX4_middle_18 (s : Int32 × mm_S) : Option ((Int32 × mm_S) ⊕ (Int32 × mm_S)) := if 36 ≤ s.1 then ((sX4_middle_39 0 s.2).map fun w => (Sum.inr w)) else if s.1 < 0 ∨ 36 ≤ Int32.toNatClampNeg s.1 then none else (sX4_middle_31 s.1 ((mm_ui s.2.1 9 (Int32.toNatClampNeg s.1) 0), s.2.2))
noncomputable def sX4_middle_18 (y1 : Int32) (z : mm_S) : Option (Int32 × mm_S) := mm_wh (lX4_middle_18 ) mm_fu (y1, z)
noncomputable def sX4_middle_16  (z : mm_S) : Option (Int32 × mm_S) := (sX4_middle_18 0 z)
noncomputable def sX4_middle_0  (z : mm_S) : Option (Int32 × mm_S) := if (z.1 1 1) = 0 then (sX4_finding (-1000001) z).bind fun q1 => some (q1.1, q1.2) else (sX4_middle_16 z)
noncomputable def sX4_middle  (z : mm_S) : Option (Int32 × mm_S) := sX4_middle_0  z
noncomputable def sX4_heardBy_36 (y1 : Int32) (y2 : Int32) (y3 : Int32) (z : mm_S) : Option ((Int32 × Int32 × Int32 × mm_S) ⊕ (Int32 × mm_S)) := some (.inl (y1, y2, (y3 + 1), z))
noncomputable def lX4_heardBy_4 (s : Int32 × Int32 × Int32 × mm_S) : Option ((Int32 × Int32 × Int32 × mm_S) ⊕ (Int32 × mm_S)) := if (s.2.2.2.1 1 1) ≤ s.2.2.1 then some (.inr (s.2.1, s.2.2.2)) else if s.2.2.1 = s.1 then (sX4_heardBy_36 s.1 (s.2.1 + 0) s.2.2.1 s.2.2.2) else (sX4_doesHear s.2.2.1 s.1 s.2.2.2).bind fun q1 => if q1.1 = 0 then (sX4_heardBy_36 s.1 (s.2.1 + 0) s.2.2.1 q1.2) else (sX4_heardBy_36 s.1 (s.2.1 + 1) s.2.2.1 q1.2)
noncomputable def sX4_heardBy_4 (y1 : Int32) (y2 : Int32) (y3 : Int32) (z : mm_S) : Option (Int32 × mm_S) := mm_wh (lX4_heardBy_4 ) mm_fu (y1, y2, y3, z)
noncomputable def sX4_heardBy_0 (x1 : Int32) (z : mm_S) : Option (Int32 × mm_S) := (sX4_heardBy_4 x1 0 0 z)
noncomputable def sX4_heardBy (x1 : Int32) (z : mm_S) : Option (Int32 × mm_S) := sX4_heardBy_0 x1 z
noncomputable def sX4_kindFor_56 (y1 : Int32) (y2 : Int32) (y3 : Int32) (y4 : Int32) (y5 : Int32) (y6 : Int32) (z : mm_S) : Option ((Int32 × Int32 × Int32 × Int32 × Int32 × mm_S) ⊕ (Int32 × mm_S)) := if y6 ≤ y4 then some (.inl (y1, y2, y3, (mm_max y4 y6), (y5 + 1), z)) else some (.inl (y1, y2, y5, (mm_max y4 y6), (y5 + 1), z))
noncomputable def sX4_kindFor_49 (y1 : Int32) (y2 : Int32) (y3 : Int32) (y4 : Int32) (y5 : Int32) (z : mm_S) : Option ((Int32 × Int32 × Int32 × Int32 × Int32 × mm_S) ⊕ (Int32 × mm_S)) := (sX4_heardBy y1 z).bind fun q3 => (sX4_kindFor_56 y1 y2 y3 y4 y5 q3.1 q3.2)
noncomputable def sX4_kindFor_96 (y3 : Int32) (z : mm_S) : Option (Int32 × mm_S) := some (y3, z)
noncomputable def lX4_kindFor_30 (s : Int32 × Int32 × Int32 × Int32 × Int32 × mm_S) : Option ((Int32 × Int32 × Int32 × Int32 × Int32 × mm_S) ⊕ (Int32 × mm_S)) := if 6 < s.2.2.2.2.1 then if (pX4_at s.1 0) < 0 ∨ 97 ≤ Int32.toNatClampNeg (pX4_at s.1 0) then none else ((sX4_kindFor_96 s.2.2.1 ((mm_ui s.2.2.2.2.2.1 1 (Int32.toNatClampNeg (pX4_at s.1 0)) s.2.1), s.2.2.2.2.2.2)).map fun w => (Sum.inr w)) else if (pX4_at s.1 0) < 0 ∨ 97 ≤ Int32.toNatClampNeg (pX4_at s.1 0) then none else (sX4_kindFor_49 s.1 s.2.1 s.2.2.1 s.2.2.2.1 s.2.2.2.2.1 ((mm_ui s.2.2.2.2.2.1 1 (Int32.toNatClampNeg (pX4_at s.1 0)) s.2.2.2.2.1), s.2.2.2.2.2.2))
noncomputable def sX4_kindFor_30 (y1 : Int32) (y2 : Int32) (y3 : Int32) (y4 : Int32) (y5 : Int32) (z : mm_S) : Option (Int32 × mm_S) := mm_wh (lX4_kindFor_30 ) mm_fu (y1, y2, y3, y4, y5, z)
noncomputable def sX4_kindFor_22 (y1 : Int32) (y2 : Int32) (z : mm_S) : Option (Int32 × mm_S) := (sX4_kindFor_30 y1 y2 (-1) (-1) 0 z)
noncomputable def sX4_kindFor_15 (y1 : Int32) (z : mm_S) : Option (Int32 × mm_S) := (sX4_crewIs y1 0 z).bind fun q2 => (sX4_kindFor_22 y1 q2.1 q2.2)
noncomputable def sX4_kindFor_0 (x1 : Int32) (z : mm_S) : Option (Int32 × mm_S) := if (pX4_isCrew x1 z) = 0 then (sX4_finding (-1000001) z).bind fun q1 => some (q1.1, q1.2) else (sX4_kindFor_15 x1 z)
noncomputable def sX4_kindFor (x1 : Int32) (z : mm_S) : Option (Int32 × mm_S) := sX4_kindFor_0 x1 z
noncomputable def sX4_place_59 (y1 : Int32) (y2 : Int32) (y3 : Int32) (y4 : Int32) (y5 : Int32) (y6 : Int32) (z : mm_S) : Option ((Int32 × Int32 × Int32 × Int32 × Int32 × mm_S) ⊕ (Int32 × mm_S)) := if y6 ≤ y4 then some (.inl (y1, y2, y3, (mm_max y4 y6), (y5 + 1), z)) else some (.inl (y1, y2, y5, (mm_max y4 y6), (y5 + 1), z))
noncomputable def sX4_place_49 (y1 : Int32) (y2 : Int32) (y3 : Int32) (y4 : Int32) (y5 : Int32) (z : mm_S) : Option ((Int32 × Int32 × Int32 × Int32 × Int32 × mm_S) ⊕ (Int32 × mm_S)) := (sX4_reachOf y1 z).bind fun q3 => (sX4_bits q3.1 q3.2).bind fun q4 => (sX4_place_59 y1 y2 y3 y4 y5 q4.1 q4.2)
noncomputable def sX4_place_99 (y3 : Int32) (z : mm_S) : Option (Int32 × mm_S) := some (y3, z)
noncomputable def lX4_place_30 (s : Int32 × Int32 × Int32 × Int32 × Int32 × mm_S) : Option ((Int32 × Int32 × Int32 × Int32 × Int32 × mm_S) ⊕ (Int32 × mm_S)) := if 36 ≤ s.2.2.2.2.1 then if (pX4_at s.1 1) < 0 ∨ 97 ≤ Int32.toNatClampNeg (pX4_at s.1 1) then none else ((sX4_place_99 s.2.2.1 ((mm_ui s.2.2.2.2.2.1 1 (Int32.toNatClampNeg (pX4_at s.1 1)) s.2.1), s.2.2.2.2.2.2)).map fun w => (Sum.inr w)) else if (pX4_at s.1 1) < 0 ∨ 97 ≤ Int32.toNatClampNeg (pX4_at s.1 1) then none else (sX4_place_49 s.1 s.2.1 s.2.2.1 s.2.2.2.1 s.2.2.2.2.1 ((mm_ui s.2.2.2.2.2.1 1 (Int32.toNatClampNeg (pX4_at s.1 1)) s.2.2.2.2.1), s.2.2.2.2.2.2))
noncomputable def sX4_place_30 (y1 : Int32) (y2 : Int32) (y3 : Int32) (y4 : Int32) (y5 : Int32) (z : mm_S) : Option (Int32 × mm_S) := mm_wh (lX4_place_30 ) mm_fu (y1, y2, y3, y4, y5, z)
noncomputable def sX4_place_22 (y1 : Int32) (y2 : Int32) (z : mm_S) : Option (Int32 × mm_S) := (sX4_place_30 y1 y2 (-1) (-1) 0 z)
noncomputable def sX4_place_15 (y1 : Int32) (z : mm_S) : Option (Int32 × mm_S) := (sX4_crewIs y1 1 z).bind fun q2 => (sX4_place_22 y1 q2.1 q2.2)
noncomputable def sX4_place_0 (x1 : Int32) (z : mm_S) : Option (Int32 × mm_S) := if (pX4_isCrew x1 z) = 0 then (sX4_finding (-1000001) z).bind fun q1 => some (q1.1, q1.2) else (sX4_place_15 x1 z)
noncomputable def sX4_place (x1 : Int32) (z : mm_S) : Option (Int32 × mm_S) := sX4_place_0 x1 z
noncomputable def sX4_enters_51  (z : mm_S) : Option (Int32 × mm_S) := some ((z.1 1 2), z)
noncomputable def sX4_enters_41  (z : mm_S) : Option (Int32 × mm_S) := (sX4_enters_51 ((mm_ui z.1 1 2 ((z.1 1 2) + 1)), z.2))
noncomputable def sX4_enters_31 (y3 : Int32) (y4 : Int32) (z : mm_S) : Option (Int32 × mm_S) := if (y4 + 2) < 0 ∨ 97 ≤ Int32.toNatClampNeg (y4 + 2) then none else (sX4_enters_41 ((mm_ui z.1 1 (Int32.toNatClampNeg (y4 + 2)) y3), z.2))
noncomputable def sX4_enters_21 (y2 : Int32) (y3 : Int32) (y4 : Int32) (z : mm_S) : Option (Int32 × mm_S) := if (y4 + 1) < 0 ∨ 97 ≤ Int32.toNatClampNeg (y4 + 1) then none else (sX4_enters_31 y3 y4 ((mm_ui z.1 1 (Int32.toNatClampNeg (y4 + 1)) y2), z.2))
noncomputable def sX4_enters_0 (x1 : Int32) (x2 : Int32) (x3 : Int32) (z : mm_S) : Option (Int32 × mm_S) := if (73 + (3 * (z.1 1 2))) < 0 ∨ 97 ≤ Int32.toNatClampNeg (73 + (3 * (z.1 1 2))) then none else (sX4_enters_21 x2 x3 (73 + (3 * (z.1 1 2))) ((mm_ui z.1 1 (Int32.toNatClampNeg (73 + (3 * (z.1 1 2)))) x1), z.2))
noncomputable def sX4_enters (x1 : Int32) (x2 : Int32) (x3 : Int32) (z : mm_S) : Option (Int32 × mm_S) := sX4_enters_0 x1 x2 x3 z
noncomputable def sX4_book_51 (y1 : Int32) (y2 : Int32) (y3 : Int32) (z : mm_S) : Option (Int32 × mm_S) := (sX4_enters y1 y2 y3 z).bind fun q5 => some (q5.1, q5.2)
noncomputable def sX4_book_31 (y1 : Int32) (y2 : Int32) (y3 : Int32) (z : mm_S) : Option (Int32 × mm_S) := if (z.1 1 2) = 8 then (sX4_finding (-1000002) z).bind fun q4 => some (q4.1, q4.2) else (sX4_book_51 y1 y2 y3 z)
noncomputable def sX4_book_0 (x1 : Int32) (x2 : Int32) (x3 : Int32) (z : mm_S) : Option (Int32 × mm_S) := if (pX4_isCell x1) = 0 then (sX4_finding (-1000001) z).bind fun q1 => some (q1.1, q1.2) else if (pX4_isCell x2) = 0 then (sX4_finding (-1000001) z).bind fun q2 => some (q2.1, q2.2) else if (pX4_within x3 0 99) = 0 then (sX4_finding (-1000001) z).bind fun q3 => some (q3.1, q3.2) else (sX4_book_31 x1 x2 x3 z)
noncomputable def sX4_book (x1 : Int32) (x2 : Int32) (x3 : Int32) (z : mm_S) : Option (Int32 × mm_S) := sX4_book_0 x1 x2 x3 z
noncomputable def sX0_heardAt_0 (o : Nat) (x1 : Int32) (x2 : Int32) (z : mm_S) : Option (Int32 × mm_S) := (sX1_timeBetween (o + 1) (pX0_placeOf o x1 z) x2 z).bind fun q1 => some ((pX0_heardBy o x1 q1.1 q1.2), q1.2)
noncomputable def sX0_heardAt (o : Nat) (x1 : Int32) (x2 : Int32) (z : mm_S) : Option (Int32 × mm_S) := sX0_heardAt_0 o x1 x2 z
noncomputable def sX1_timesFrom_72 (o : Nat) (y2 : Nat) (y3 : Int32) (y4 : Int64) (y6 : Int32) (z : mm_S) : Option ((Nat × Int32 × Int64 × Int32 × mm_S) ⊕ ((Nat × Int32 × mm_S) ⊕ (mm_S))) := some (.inl (y2, y3, y4, (y6 + 1), z))
noncomputable def lX1_timesFrom_37 (o : Nat) (s : Nat × Int32 × Int64 × Int32 × mm_S) : Option ((Nat × Int32 × Int64 × Int32 × mm_S) ⊕ ((Nat × Int32 × mm_S) ⊕ (mm_S))) := if 36 ≤ s.2.2.2.1 then some (.inr (.inl (s.1, (s.2.1 + 1), s.2.2.2.2))) else if (lg_cmp (Int64.toUInt64 s.2.2.1 >>> (Int64.toUInt64 (Int32.toInt64 s.2.2.2.1) &&& Int64.toUInt64 63)).toInt64 0) = 0 then some (.inr (.inl (s.1, (s.2.1 + 1), s.2.2.2.2))) else if (pX3_has s.2.2.1 s.2.2.2.1) = 0 then (sX1_timesFrom_72 o s.1 s.2.1 s.2.2.1 s.2.2.2.1 s.2.2.2.2) else let u4 := (tX3_exchange s.1 s.2.2.2.1 s.2.1 s.2.2.2.2); (sX1_timesFrom_72 o s.1 s.2.1 s.2.2.1 s.2.2.2.1 u4.2)
noncomputable def sX1_timesFrom_37 (o : Nat) (y2 : Nat) (y3 : Int32) (y4 : Int64) (y6 : Int32) (z : mm_S) : Option ((Nat × Int32 × mm_S) ⊕ (mm_S)) := mm_wh (lX1_timesFrom_37 o ) mm_fu (y2, y3, y4, y6, z)
noncomputable def sX1_timesFrom_34 (o : Nat) (y2 : Nat) (y3 : Int32) (y4 : Int64) (z : mm_S) : Option ((Nat × Int32 × mm_S) ⊕ (mm_S)) := (sX1_timesFrom_37 o y2 y3 y4 0 z)
noncomputable def lX1_timesFrom_12 (o : Nat) (s : Nat × Int32 × mm_S) : Option ((Nat × Int32 × mm_S) ⊕ (mm_S)) := if 216 < s.2.1 then some (.inr (s.2.2)) else if (s.2.2.1 o 3) < s.2.1 then some (.inr (s.2.2)) else let u3 := (tX1_cellsComeIntoAt o s.2.1 s.2.2); (sX1_timesFrom_34 o s.1 s.2.1 u3.1 u3.2)
noncomputable def sX1_timesFrom_12 (o : Nat) (y2 : Nat) (y3 : Int32) (z : mm_S) : Option (mm_S) := mm_wh (lX1_timesFrom_12 o ) mm_fu (y2, y3, z)
noncomputable def sX1_timesFrom_10 (o : Nat) (y2 : Nat) (z : mm_S) : Option (mm_S) := (sX1_timesFrom_12 o y2 0 z)
noncomputable def sX1_timesFrom_5 (o : Nat) (y1 : Int32) (y2 : Nat) (z : mm_S) : Option (mm_S) := let u2 := (tX1_knock o y1 z); (sX1_timesFrom_10 o y2 u2)
noncomputable def sX1_timesFrom_0 (o : Nat) (x1 : Int32) (x2 : Nat) (z : mm_S) : Option (mm_S) := let u1 := (tJ7_fill_53178 x2 (-1) z); (sX1_timesFrom_5 o x1 x2 u1)
noncomputable def sX1_timesFrom (o : Nat) (x1 : Int32) (x2 : Nat) (z : mm_S) : Option (mm_S) := sX1_timesFrom_0 o x1 x2 z
noncomputable def sX0_fillHeard_37 (o : Nat) (y1 : Int32) (y2 : Nat) (y3 : Int32) (z : mm_S) : Option ((Int32 × Nat × Int32 × mm_S) ⊕ (mm_S)) := some (.inl (y1, y2, (y3 + 1), z))
noncomputable def lX0_fillHeard_15 (o : Nat) (s : Int32 × Nat × Int32 × mm_S) : Option ((Int32 × Nat × Int32 × mm_S) ⊕ (mm_S)) := if 36 ≤ s.2.2.1 then some (.inr (s.2.2.2)) else let u2 := (tX3_exchange s.2.1 s.2.2.1 (pX0_heardBy o s.1 (pX3_at s.2.1 s.2.2.1 s.2.2.2) s.2.2.2) s.2.2.2); (sX0_fillHeard_37 o s.1 s.2.1 s.2.2.1 u2.2)
noncomputable def sX0_fillHeard_15 (o : Nat) (y1 : Int32) (y2 : Nat) (y3 : Int32) (z : mm_S) : Option (mm_S) := mm_wh (lX0_fillHeard_15 o ) mm_fu (y1, y2, y3, z)
noncomputable def sX0_fillHeard_13 (o : Nat) (y1 : Int32) (y2 : Nat) (z : mm_S) : Option (mm_S) := (sX0_fillHeard_15 o y1 y2 0 z)
noncomputable def sX0_fillHeard_0 (o : Nat) (x1 : Int32) (x2 : Nat) (z : mm_S) : Option (mm_S) := (sX1_timesFrom (o + 1) (pX0_placeOf o x1 z) x2 z).bind fun q1 => (sX0_fillHeard_13 o x1 x2 q1)
noncomputable def sX0_fillHeard (o : Nat) (x1 : Int32) (x2 : Nat) (z : mm_S) : Option (mm_S) := sX0_fillHeard_0 o x1 x2 z
noncomputable def sX0_reachOf_0 (o : Nat) (x1 : Int32) (z : mm_S) : Option (Int64 × mm_S) := (sX1_cellsWithin (o + 1) (pX0_placeOf o x1 z) (pX0_carriesOf o x1 z) z).bind fun q1 => some (q1.1, q1.2)
noncomputable def sX0_reachOf (o : Nat) (x1 : Int32) (z : mm_S) : Option (Int64 × mm_S) := sX0_reachOf_0 o x1 z
noncomputable def sX0_silentCells_27 (o : Nat) (y1 : Int64) (y3 : Int32) (z : mm_S) : Option ((Int64 × Int32 × mm_S) ⊕ (Int64 × mm_S)) := some (.inl (y1, (y3 + 1), z))
noncomputable def lX0_silentCells_11 (o : Nat) (s : Int64 × Int32 × mm_S) : Option ((Int64 × Int32 × mm_S) ⊕ (Int64 × mm_S)) := if (s.2.2.1 o 4) ≤ s.2.1 then some (.inr ((68719476735 &&& (s.1 ^^^ (-1))), s.2.2)) else (sX0_reachOf o s.2.1 s.2.2).bind fun q1 => (sX0_silentCells_27 o (s.1 ||| q1.1) s.2.1 q1.2)
noncomputable def sX0_silentCells_11 (o : Nat) (y1 : Int64) (y3 : Int32) (z : mm_S) : Option (Int64 × mm_S) := mm_wh (lX0_silentCells_11 o ) mm_fu (y1, y3, z)
noncomputable def sX0_silentCells_0 (o : Nat)  (z : mm_S) : Option (Int64 × mm_S) := (sX0_silentCells_11 o (pX1_cellsOf (o + 1) 2 z) 0 z)
noncomputable def sX0_silentCells (o : Nat)  (z : mm_S) : Option (Int64 × mm_S) := sX0_silentCells_0 o  z
noncomputable def lX0_mapNow_9 (o : Nat) (s : Int32 × Int32 × mm_S) : Option ((Int32 × Int32 × mm_S) ⊕ (Int32 × mm_S)) := if s.2.1 < 0 then some (.inr (s.1, s.2.2)) else let v1 : Int32 := ((s.1 * 5) + (pX1_stuffAt (o + 1) (pX3_at (o + 7) s.2.1 s.2.2) s.2.2)); let v2 : Int32 := (s.2.1 + (-1)); some (.inl (v1, v2, s.2.2))
noncomputable def sX0_mapNow_9 (o : Nat) (y1 : Int32) (y2 : Int32) (z : mm_S) : Option (Int32 × mm_S) := mm_wh (lX0_mapNow_9 o ) mm_fu (y1, y2, z)
noncomputable def sX0_mapNow_0 (o : Nat)  (z : mm_S) : Option (Int32 × mm_S) := (sX0_mapNow_9 o 0 ((z.1 o 6) - 1) z)
noncomputable def sX0_mapNow (o : Nat)  (z : mm_S) : Option (Int32 × mm_S) := sX0_mapNow_0 o  z
noncomputable def sX0_layMap_30 (o : Nat) (y2 : Int32) (y3 : Int32) (z : mm_S) : Option ((Int32 × Int32 × mm_S) ⊕ (mm_S)) := some (.inl ((y2 / 5), (y3 + 1), z))
noncomputable def lX0_layMap_4 (o : Nat) (s : Int32 × Int32 × mm_S) : Option ((Int32 × Int32 × mm_S) ⊕ (mm_S)) := if (s.2.2.1 o 6) ≤ s.2.1 then some (.inr (s.2.2)) else let u1 := (tX1_put (o + 1) (pX3_at (o + 7) s.2.1 s.2.2) (s.1 - s.1 / 5 * 5) s.2.2); (sX0_layMap_30 o s.1 s.2.1 u1)
noncomputable def sX0_layMap_4 (o : Nat) (y2 : Int32) (y3 : Int32) (z : mm_S) : Option (mm_S) := mm_wh (lX0_layMap_4 o ) mm_fu (y2, y3, z)
noncomputable def sX0_layMap_0 (o : Nat) (x1 : Int32) (z : mm_S) : Option (mm_S) := (sX0_layMap_4 o x1 0 z)
noncomputable def sX0_layMap (o : Nat) (x1 : Int32) (z : mm_S) : Option (mm_S) := sX0_layMap_0 o x1 z
noncomputable def sX0_firstWrong_34 (o : Nat) (y1 : Int32) (y2 : Int32) (z : mm_S) : Option ((Int32 × mm_S) ⊕ (Int32 × mm_S)) := if y2 = (-1) then if 99 = (pX3_at (o + 10) y1 z) then some (.inl ((y1 + 1), z)) else some (.inr (y1, z)) else if (mm_min y2 99) = (pX3_at (o + 10) y1 z) then some (.inl ((y1 + 1), z)) else some (.inr (y1, z))
noncomputable def lX0_firstWrong_2 (o : Nat) (s : Int32 × mm_S) : Option ((Int32 × mm_S) ⊕ (Int32 × mm_S)) := if (s.2.1 o 10) ≤ s.1 then some (.inr ((-1), s.2)) else (sX1_timeBetween (o + 1) (pX3_at (o + 8) s.1 s.2) (pX3_at (o + 9) s.1 s.2) s.2).bind fun q1 => (sX0_firstWrong_34 o s.1 q1.1 q1.2)
noncomputable def sX0_firstWrong_2 (o : Nat) (y1 : Int32) (z : mm_S) : Option (Int32 × mm_S) := mm_wh (lX0_firstWrong_2 o ) mm_fu (y1, z)
noncomputable def sX0_firstWrong_0 (o : Nat)  (z : mm_S) : Option (Int32 × mm_S) := (sX0_firstWrong_2 o 0 z)
noncomputable def sX0_firstWrong (o : Nat)  (z : mm_S) : Option (Int32 × mm_S) := sX0_firstWrong_0 o  z
noncomputable def sX1_timesTo_54 (o : Nat) (y2 : Nat) (y3 : Int32) (y4 : Int32) (z : mm_S) : Option ((Nat × Int32 × Int32 × mm_S) ⊕ (mm_S)) := some (.inl (y2, y3, (y4 + 1), z))
noncomputable def lX1_timesTo_15 (o : Nat) (s : Nat × Int32 × Int32 × mm_S) : Option ((Nat × Int32 × Int32 × mm_S) ⊕ (mm_S)) := if 36 ≤ s.2.2.1 then some (.inr (s.2.2.2)) else if (pX3_at s.1 s.2.2.1 s.2.2.2) = (-1) then (sX1_timesTo_54 o s.1 s.2.1 s.2.2.1 s.2.2.2) else let u2 := (tX3_exchange s.1 s.2.2.1 (((pX3_at s.1 s.2.2.1 s.2.2.2) + s.2.1) - (pX1_paceOf o s.2.2.1 s.2.2.2)) s.2.2.2); (sX1_timesTo_54 o s.1 s.2.1 s.2.2.1 u2.2)
noncomputable def sX1_timesTo_15 (o : Nat) (y2 : Nat) (y3 : Int32) (y4 : Int32) (z : mm_S) : Option (mm_S) := mm_wh (lX1_timesTo_15 o ) mm_fu (y2, y3, y4, z)
noncomputable def sX1_timesTo_6 (o : Nat) (y1 : Int32) (y2 : Nat) (z : mm_S) : Option (mm_S) := (sX1_timesTo_15 o y2 (pX1_paceOf o y1 z) 0 z)
noncomputable def sX1_timesTo_0 (o : Nat) (x1 : Int32) (x2 : Nat) (z : mm_S) : Option (mm_S) := (sX1_timesFrom o x1 x2 z).bind fun q1 => (sX1_timesTo_6 o x1 x2 q1)
noncomputable def sX1_timesTo (o : Nat) (x1 : Int32) (x2 : Nat) (z : mm_S) : Option (mm_S) := sX1_timesTo_0 o x1 x2 z
noncomputable def sX2_add_23  (z : mm_S) : Option (mm_S) := some (z)
noncomputable def sX2_add_13  (z : mm_S) : Option (mm_S) := (sX2_add_23 ((mm_ui z.1 37 1 ((z.1 37 1) + 1)), z.2))
noncomputable def sX2_add_0 (x1 : Int32) (z : mm_S) : Option (mm_S) := let u1 := (tX3_exchange 38 (z.1 37 1) x1 z); (sX2_add_13 u1.2)
noncomputable def sX2_add (x1 : Int32) (z : mm_S) : Option (mm_S) := sX2_add_0 x1 z
noncomputable def pX2_isLetter (x1 : Int32) (z : mm_S) : Int32 := if x1 < 97 then 0 else if 122 < x1 then 0 else 1
noncomputable def sX2_endWord_38  (z : mm_S) : Option ((mm_S) ⊕ (mm_S)) := some (.inl z)
noncomputable def sX2_endWord_22 (w0 : Int32) (z : mm_S) : Option ((mm_S) ⊕ (mm_S)) := if (pX2_isLetter w0 z) = 0 then some (.inr (z)) else (sX2_endWord_38 ((mm_ui z.1 37 4 ((z.1 37 4) + 1)), z.2))
noncomputable def lX2_endWord_0 (s : mm_S) : Option ((mm_S) ⊕ (mm_S)) := if (s.1 37 1) ≤ (s.1 37 4) then some (.inr (s)) else (sX2_endWord_22 (pX3_at 38 (s.1 37 4) s) s)
noncomputable def sX2_endWord_0  (z : mm_S) : Option (mm_S) := mm_wh (lX2_endWord_0 ) mm_fu z
noncomputable def sX2_endWord  (z : mm_S) : Option (mm_S) := sX2_endWord_0  z
noncomputable def pX2_isDigit (x1 : Int32) (z : mm_S) : Int32 := if x1 < 48 then 0 else if 57 < x1 then 0 else 1
noncomputable def sX2_endNumber_77  (z : mm_S) : Option ((mm_S) ⊕ (mm_S)) := some (.inl z)
noncomputable def sX2_endNumber_67  (z : mm_S) : Option ((mm_S) ⊕ (mm_S)) := (sX2_endNumber_77 ((mm_ui z.1 37 4 ((z.1 37 4) + 1)), z.2))
noncomputable def sX2_endNumber_27 (w0 : Int32) (z : mm_S) : Option ((mm_S) ⊕ (mm_S)) := if (pX2_isDigit w0 z) = 0 then some (.inr (z)) else let u1 : mm_S := ((mm_ui z.1 37 5 (mm_min (((z.1 37 5) * 10) + ((pX3_at 38 (z.1 37 4) z) - 48)) 1000)), z.2); (sX2_endNumber_67 u1)
noncomputable def lX2_endNumber_5 (s : mm_S) : Option ((mm_S) ⊕ (mm_S)) := if (s.1 37 1) ≤ (s.1 37 4) then some (.inr (s)) else (sX2_endNumber_27 (pX3_at 38 (s.1 37 4) s) s)
noncomputable def sX2_endNumber_5  (z : mm_S) : Option (mm_S) := mm_wh (lX2_endNumber_5 ) mm_fu z
noncomputable def sX2_endNumber_0  (z : mm_S) : Option (mm_S) := (sX2_endNumber_5 ((mm_ui z.1 37 5 0), z.2))
noncomputable def sX2_endNumber  (z : mm_S) : Option (mm_S) := sX2_endNumber_0  z
noncomputable def sX2_nextToken_45  (z : mm_S) : Option ((mm_S) ⊕ (mm_S)) := some (.inl z)
noncomputable def sX2_nextToken_150  (z : mm_S) : Option (mm_S) := some (z)
noncomputable def sX2_nextToken_84  (z : mm_S) : Option (mm_S) := (sX2_nextToken_150 z)
noncomputable def sX2_nextToken_103  (z : mm_S) : Option (mm_S) := (sX2_nextToken_150 z)
noncomputable def sX2_nextToken_99  (z : mm_S) : Option (mm_S) := (sX2_endWord  z).bind fun q2 => (sX2_nextToken_103 q2)
noncomputable def sX2_nextToken_122  (z : mm_S) : Option (mm_S) := (sX2_nextToken_150 z)
noncomputable def sX2_nextToken_118  (z : mm_S) : Option (mm_S) := (sX2_endNumber  z).bind fun q1 => (sX2_nextToken_122 q1)
noncomputable def sX2_nextToken_140  (z : mm_S) : Option (mm_S) := (sX2_nextToken_150 ((mm_ui z.1 37 4 ((z.1 37 3) + 1)), z.2))
noncomputable def sX2_nextToken_68 (y1 : Int32) (z : mm_S) : Option (mm_S) := if (z.1 37 3) < (z.1 37 1) then if (pX2_isLetter y1 z) = 0 then if (pX2_isDigit y1 z) = 0 then if y1 = 59 then (sX2_nextToken_140 ((mm_ui z.1 37 2 3), z.2)) else (sX2_nextToken_140 ((mm_ui z.1 37 2 4), z.2)) else (sX2_nextToken_118 ((mm_ui z.1 37 2 2), z.2)) else (sX2_nextToken_99 ((mm_ui z.1 37 2 1), z.2)) else (sX2_nextToken_84 ((mm_ui z.1 37 2 0), z.2))
noncomputable def sX2_nextToken_56  (z : mm_S) : Option (mm_S) := (sX2_nextToken_68 (pX3_at 38 (z.1 37 3) z) z)
noncomputable def lX2_nextToken_8 (s : mm_S) : Option ((mm_S) ⊕ (mm_S)) := if (s.1 37 1) ≤ (s.1 37 3) then ((sX2_nextToken_56 ((mm_ui s.1 37 4 (s.1 37 3)), s.2)).map fun w => (Sum.inr w)) else if (pX3_at 38 (s.1 37 3) s) = 32 then (sX2_nextToken_45 ((mm_ui s.1 37 3 ((s.1 37 3) + 1)), s.2)) else ((sX2_nextToken_56 ((mm_ui s.1 37 4 (s.1 37 3)), s.2)).map fun w => (Sum.inr w))
noncomputable def sX2_nextToken_8  (z : mm_S) : Option (mm_S) := mm_wh (lX2_nextToken_8 ) mm_fu z
noncomputable def sX2_nextToken_0  (z : mm_S) : Option (mm_S) := (sX2_nextToken_8 ((mm_ui z.1 37 3 (z.1 37 4)), z.2))
noncomputable def sX2_nextToken  (z : mm_S) : Option (mm_S) := sX2_nextToken_0  z
noncomputable def pX2_isNumber (x1 : Int32) (x2 : Int32) (z : mm_S) : Int32 := if (z.1 37 2) = 2 then if (pX3_lies (z.1 37 5) x1 x2) = 0 then 0 else 1 else 0
noncomputable def sX2_readHeard_83  (z : mm_S) : Option (Int32 × mm_S) := some (1, z)
noncomputable def sX2_readHeard_79  (z : mm_S) : Option (Int32 × mm_S) := (sX2_nextToken  z).bind fun q5 => (sX2_readHeard_83 q5)
noncomputable def sX2_readHeard_57 (y1 : Nat) (y2 : Int32) (y3 : Int32) (z : mm_S) : Option (Int32 × mm_S) := if (pX2_isNumber 0 99 z) = 0 then some (0, z) else let u4 := (tX0_addBook y1 y2 y3 (z.1 37 5) z); (sX2_readHeard_79 u4)
noncomputable def sX2_readHeard_36 (y1 : Nat) (y2 : Int32) (z : mm_S) : Option (Int32 × mm_S) := if (pX2_isNumber 0 35 z) = 0 then some (0, z) else (sX2_nextToken  z).bind fun q3 => (sX2_readHeard_57 y1 y2 (z.1 37 5) q3)
noncomputable def sX2_readHeard_15 (y1 : Nat) (z : mm_S) : Option (Int32 × mm_S) := if (pX2_isNumber 0 35 z) = 0 then some (0, z) else (sX2_nextToken  z).bind fun q2 => (sX2_readHeard_36 y1 (z.1 37 5) q2)
noncomputable def sX2_readHeard_0 (x1 : Nat) (z : mm_S) : Option (Int32 × mm_S) := if (z.1 x1 10) < 8 then (sX2_nextToken  z).bind fun q1 => (sX2_readHeard_15 x1 q1) else some (0, z)
noncomputable def sX2_readHeard (x1 : Nat) (z : mm_S) : Option (Int32 × mm_S) := sX2_readHeard_0 x1 z
noncomputable def sX2_readUnsure_49  (z : mm_S) : Option (Int32 × mm_S) := some (1, z)
noncomputable def sX2_readUnsure_45  (z : mm_S) : Option (Int32 × mm_S) := (sX2_nextToken  z).bind fun q3 => (sX2_readUnsure_49 q3)
noncomputable def sX2_readUnsure_14 (y1 : Nat) (z : mm_S) : Option (Int32 × mm_S) := if (pX2_isNumber 0 35 z) = 0 then some (0, z) else if (pX0_isUnsure y1 (z.1 37 5) z) = 0 then let u2 := (tX0_addUnsure y1 (z.1 37 5) z); (sX2_readUnsure_45 u2) else some (0, z)
noncomputable def sX2_readUnsure_0 (x1 : Nat) (z : mm_S) : Option (Int32 × mm_S) := if (z.1 x1 6) < 4 then (sX2_nextToken  z).bind fun q1 => (sX2_readUnsure_14 x1 q1) else some (0, z)
noncomputable def sX2_readUnsure (x1 : Nat) (z : mm_S) : Option (Int32 × mm_S) := sX2_readUnsure_0 x1 z
noncomputable def sX3_finding_19 (y1 : Int32) (z : mm_S) : Option (Int32 × mm_S) := some (((-1000001) - y1), z)
noncomputable def sX3_finding_0 (x1 : Int32) (z : mm_S) : Option (Int32 × mm_S) := let u1 := (tX3_exchange 42 x1 ((pX3_at 42 x1 z) + 1) z); (sX3_finding_19 x1 u1.2)
noncomputable def sX3_finding (x1 : Int32) (z : mm_S) : Option (Int32 × mm_S) := sX3_finding_0 x1 z
noncomputable def sX3_stuff_44 (y3 : Int32) (z : mm_S) : Option (Int32 × mm_S) := some (y3, z)
noncomputable def sX3_stuff_20 (y1 : Int32) (y2 : Int32) (z : mm_S) : Option (Int32 × mm_S) := let u3 := (tX1_put 2 y1 y2 z); (sX3_stuff_44 (pX1_stuffAt 2 y1 z) u3)
noncomputable def sX3_stuff_0 (x1 : Int32) (x2 : Int32) (z : mm_S) : Option (Int32 × mm_S) := if (pX3_isCell x1) = 0 then (sX3_finding 0 z).bind fun q1 => some (q1.1, q1.2) else if (pX3_isStuff x2) = 0 then (sX3_finding 0 z).bind fun q2 => some (q2.1, q2.2) else (sX3_stuff_20 x1 x2 z)
noncomputable def sX3_stuff (x1 : Int32) (x2 : Int32) (z : mm_S) : Option (Int32 × mm_S) := sX3_stuff_0 x1 x2 z
noncomputable def sX3_crew_49  (z : mm_S) : Option (Int32 × mm_S) := some (((z.1 1 4) - 1), z)
noncomputable def sX3_crew_38 (y1 : Int32) (y2 : Int32) (z : mm_S) : Option (Int32 × mm_S) := let u4 := (tX0_addCrew 1 y1 y2 6 z); (sX3_crew_49 u4)
noncomputable def sX3_crew_20 (y1 : Int32) (y2 : Int32) (z : mm_S) : Option (Int32 × mm_S) := if (z.1 1 4) < 6 then (sX3_crew_38 y1 y2 z) else (sX3_finding 1 z).bind fun q3 => some (q3.1, q3.2)
noncomputable def sX3_crew_0 (x1 : Int32) (x2 : Int32) (z : mm_S) : Option (Int32 × mm_S) := if (pX3_isKind x1) = 0 then (sX3_finding 0 z).bind fun q1 => some (q1.1, q1.2) else if (pX3_isCell x2) = 0 then (sX3_finding 0 z).bind fun q2 => some (q2.1, q2.2) else (sX3_crew_20 x1 x2 z)
noncomputable def sX3_crew (x1 : Int32) (x2 : Int32) (z : mm_S) : Option (Int32 × mm_S) := sX3_crew_0 x1 x2 z
noncomputable def pX3_isCrew (x1 : Int32) (z : mm_S) : Int32 := (pX3_lies x1 0 ((z.1 1 4) - 1))
noncomputable def sX3_of_14 (y1 : Int32) (y2 : Int32) (z : mm_S) : Option (Int32 × mm_S) := if y2 = 0 then some ((pX0_kindOf 1 y1 z), z) else if y2 = 1 then some ((pX0_placeOf 1 y1 z), z) else if y2 = 2 then some ((pX0_forceOf 1 y1 z), z) else if y2 = 3 then some ((pX0_carriesOf 1 y1 z), z) else if y2 = 4 then some ((pX3_startsAs (pX0_kindOf 1 y1 z)), z) else if y2 = 5 then some ((pX3_hearsByAs (pX0_kindOf 1 y1 z)), z) else (sX3_finding 0 z).bind fun q2 => some (q2.1, q2.2)
noncomputable def sX3_of_0 (x1 : Int32) (x2 : Int32) (z : mm_S) : Option (Int32 × mm_S) := if (pX3_isCrew x1 z) = 0 then (sX3_finding 0 z).bind fun q1 => some (q1.1, q1.2) else (sX3_of_14 x1 x2 z)
noncomputable def sX3_of (x1 : Int32) (x2 : Int32) (z : mm_S) : Option (Int32 × mm_S) := sX3_of_0 x1 x2 z
noncomputable def sX3_change_91  (z : mm_S) : Option (Int32 × mm_S) := (sX3_finding 0 z).bind fun q5 => some (q5.1, q5.2)
noncomputable def sX3_change_63 (y1 : Int32) (y2 : Int32) (y3 : Int32) (z : mm_S) : Option (Int32 × mm_S) := if y2 = 2 then if (pX3_lies y3 1 20) = 0 then (sX3_change_91 z) else let u4 := (tX3_exchange 7 y1 y3 z); some (u4.1, u4.2) else (sX3_change_91 z)
noncomputable def sX3_change_38 (y1 : Int32) (y2 : Int32) (y3 : Int32) (z : mm_S) : Option (Int32 × mm_S) := if y2 = 1 then if (pX3_isCell y3) = 0 then (sX3_change_63 y1 y2 y3 z) else let u3 := (tX3_exchange 6 y1 y3 z); some (u3.1, u3.2) else (sX3_change_63 y1 y2 y3 z)
noncomputable def sX3_change_14 (y1 : Int32) (y2 : Int32) (y3 : Int32) (z : mm_S) : Option (Int32 × mm_S) := if y2 = 0 then if (pX3_isKind y3) = 0 then (sX3_change_38 y1 y2 y3 z) else let u2 := (tX3_exchange 5 y1 y3 z); some (u2.1, u2.2) else (sX3_change_38 y1 y2 y3 z)
noncomputable def sX3_change_0 (x1 : Int32) (x2 : Int32) (x3 : Int32) (z : mm_S) : Option (Int32 × mm_S) := if (pX3_isCrew x1 z) = 0 then (sX3_finding 0 z).bind fun q1 => some (q1.1, q1.2) else (sX3_change_14 x1 x2 x3 z)
noncomputable def sX3_change (x1 : Int32) (x2 : Int32) (x3 : Int32) (z : mm_S) : Option (Int32 × mm_S) := sX3_change_0 x1 x2 x3 z
noncomputable def sX3_cells_0 (x1 : Int32) (z : mm_S) : Option (Int64 × mm_S) := if (pX3_isStuff x1) = 0 then (sX3_finding 0 z).bind fun q1 => some ((Int32.toInt64 q1.1), q1.2) else some ((pX1_cellsOf 2 x1 z), z)
noncomputable def sX3_cells (x1 : Int32) (z : mm_S) : Option (Int64 × mm_S) := sX3_cells_0 x1 z
noncomputable def sX3_unsure_55  (z : mm_S) : Option (Int32 × mm_S) := some ((z.1 1 6), z)
noncomputable def sX3_unsure_47 (y1 : Int32) (z : mm_S) : Option (Int32 × mm_S) := let u4 := (tX0_addUnsure 1 y1 z); (sX3_unsure_55 u4)
noncomputable def sX3_unsure_30 (y1 : Int32) (z : mm_S) : Option (Int32 × mm_S) := if (z.1 1 6) < 4 then (sX3_unsure_47 y1 z) else (sX3_finding 1 z).bind fun q3 => some (q3.1, q3.2)
noncomputable def sX3_unsure_13 (y1 : Int32) (z : mm_S) : Option (Int32 × mm_S) := if (pX0_isUnsure 1 y1 z) = 0 then (sX3_unsure_30 y1 z) else (sX3_finding 4 z).bind fun q2 => some (q2.1, q2.2)
noncomputable def sX3_unsure_0 (x1 : Int32) (z : mm_S) : Option (Int32 × mm_S) := if (pX3_isCell x1) = 0 then (sX3_finding 0 z).bind fun q1 => some (q1.1, q1.2) else (sX3_unsure_13 x1 z)
noncomputable def sX3_unsure (x1 : Int32) (z : mm_S) : Option (Int32 × mm_S) := sX3_unsure_0 x1 z
noncomputable def sX3_sure_16 (y1 : Int32) (z : mm_S) : Option (Int32 × mm_S) := some (y1, z)
noncomputable def sX3_sure_0  (z : mm_S) : Option (Int32 × mm_S) := (sX3_sure_16 (z.1 1 6) ((mm_ui z.1 1 6 0), z.2))
noncomputable def sX3_sure  (z : mm_S) : Option (Int32 × mm_S) := sX3_sure_0  z
noncomputable def sX3_orNone_13 (y1 : Int32) (z : mm_S) : Option (Int32 × mm_S) := some (y1, z)
noncomputable def sX3_orNone_0 (x1 : Int32) (z : mm_S) : Option (Int32 × mm_S) := if x1 = (-1) then (sX3_finding 3 z).bind fun q1 => some (q1.1, q1.2) else (sX3_orNone_13 x1 z)
noncomputable def sX3_orNone (x1 : Int32) (z : mm_S) : Option (Int32 × mm_S) := sX3_orNone_0 x1 z
noncomputable def sX3_time_20 (y1 : Int32) (y2 : Int32) (z : mm_S) : Option (Int32 × mm_S) := (sX1_timeBetween 2 y1 y2 z).bind fun q3 => (sX3_orNone q3.1 q3.2).bind fun q4 => some (q4.1, q4.2)
noncomputable def sX3_time_0 (x1 : Int32) (x2 : Int32) (z : mm_S) : Option (Int32 × mm_S) := if (pX3_isCell x1) = 0 then (sX3_finding 0 z).bind fun q1 => some (q1.1, q1.2) else if (pX3_isCell x2) = 0 then (sX3_finding 0 z).bind fun q2 => some (q2.1, q2.2) else (sX3_time_20 x1 x2 z)
noncomputable def sX3_time (x1 : Int32) (x2 : Int32) (z : mm_S) : Option (Int32 × mm_S) := sX3_time_0 x1 x2 z
noncomputable def sX3_heard_21 (y1 : Int32) (y2 : Int32) (z : mm_S) : Option (Int32 × mm_S) := (sX0_heardAt 1 y1 y2 z).bind fun q3 => (sX3_orNone q3.1 q3.2).bind fun q4 => some (q4.1, q4.2)
noncomputable def sX3_heard_0 (x1 : Int32) (x2 : Int32) (z : mm_S) : Option (Int32 × mm_S) := if (pX3_isCrew x1 z) = 0 then (sX3_finding 0 z).bind fun q1 => some (q1.1, q1.2) else if (pX3_isCell x2) = 0 then (sX3_finding 0 z).bind fun q2 => some (q2.1, q2.2) else (sX3_heard_21 x1 x2 z)
noncomputable def sX3_heard (x1 : Int32) (x2 : Int32) (z : mm_S) : Option (Int32 × mm_S) := sX3_heard_0 x1 x2 z
noncomputable def sX3_reach_19  (z : mm_S) : Option (Int64 × mm_S) := (sX3_finding 0 z).bind fun q2 => some ((Int32.toInt64 q2.1), q2.2)
noncomputable def sX3_reach_0 (x1 : Int32) (z : mm_S) : Option (Int64 × mm_S) := if (pX3_isCrew x1 z) = 0 then (sX3_reach_19 z) else (sX0_reachOf 1 x1 z).bind fun q1 => some (q1.1, q1.2)
noncomputable def sX3_reach (x1 : Int32) (z : mm_S) : Option (Int64 × mm_S) := sX3_reach_0 x1 z
noncomputable def sX3_hears_62 (y1 : Int32) (y2 : Int32) (y3 : Int32) (y4 : Int32) (y5 : Int32) (z : mm_S) : Option ((Int32 × Int32 × Int32 × Int32 × mm_S) ⊕ (Int32 × mm_S)) := if y4 = y1 then some (.inl (y1, y2, y3, (y4 + 1), z)) else if y5 = (-1) then some (.inl (y1, y2, y3, (y4 + 1), z)) else if y2 < y5 then some (.inl (y1, y2, y3, (y4 + 1), z)) else some (.inl (y1, y2, (y3 ||| (1 <<< (y4 &&& 31))), (y4 + 1), z))
noncomputable def lX3_hears_31 (s : Int32 × Int32 × Int32 × Int32 × mm_S) : Option ((Int32 × Int32 × Int32 × Int32 × mm_S) ⊕ (Int32 × mm_S)) := if (s.2.2.2.2.1 1 4) ≤ s.2.2.2.1 then some (.inr (s.2.2.1, s.2.2.2.2)) else (sX0_heardAt 1 s.2.2.2.1 (pX0_placeOf 1 s.1 s.2.2.2.2) s.2.2.2.2).bind fun q2 => (sX3_hears_62 s.1 s.2.1 s.2.2.1 s.2.2.2.1 q2.1 q2.2)
noncomputable def sX3_hears_31 (y1 : Int32) (y2 : Int32) (y3 : Int32) (y4 : Int32) (z : mm_S) : Option (Int32 × mm_S) := mm_wh (lX3_hears_31 ) mm_fu (y1, y2, y3, y4, z)
noncomputable def sX3_hears_14 (y1 : Int32) (z : mm_S) : Option (Int32 × mm_S) := (sX3_hears_31 y1 (pX3_hearsByAs (pX0_kindOf 1 y1 z)) 0 0 z)
noncomputable def sX3_hears_0 (x1 : Int32) (z : mm_S) : Option (Int32 × mm_S) := if (pX3_isCrew x1 z) = 0 then (sX3_finding 0 z).bind fun q1 => some (q1.1, q1.2) else (sX3_hears_14 x1 z)
noncomputable def sX3_hears (x1 : Int32) (z : mm_S) : Option (Int32 × mm_S) := sX3_hears_0 x1 z
noncomputable def sX3_listenForEchoes_37  (z : mm_S) : Option (mm_S) := some (z)
noncomputable def sX3_listenForEchoes_22 (y2 : Int32) (z : mm_S) : Option (mm_S) := (sX1_timesTo 2 y2 44 z).bind fun q2 => (sX3_listenForEchoes_37 q2)
noncomputable def sX3_listenForEchoes_0 (x1 : Int32) (x2 : Int32) (z : mm_S) : Option (mm_S) := (sX1_timesFrom 2 (pX0_placeOf 1 x1 z) 43 z).bind fun q1 => (sX3_listenForEchoes_22 x2 q1)
noncomputable def sX3_listenForEchoes (x1 : Int32) (x2 : Int32) (z : mm_S) : Option (mm_S) := sX3_listenForEchoes_0 x1 x2 z
noncomputable def sX3_echoOf_95 (y1 : Int32) (y4 : Int64) (y6 : Int32) (y7 : Int32) (z : mm_S) : Option ((Int32 × Int64 × Int32 × Int32 × mm_S) ⊕ (Int32 × mm_S)) := some (.inl (y1, y4, y6, (y7 + 1), z))
noncomputable def sX3_echoOf_51 (y1 : Int32) (y4 : Int64) (y6 : Int32) (y7 : Int32) (y8 : Int32) (y9 : Int32) (w0 : Int32) (z : mm_S) : Option ((Int32 × Int64 × Int32 × Int32 × mm_S) ⊕ (Int32 × mm_S)) := if w0 = 0 then (sX3_echoOf_95 y1 y4 y6 y7 z) else if y8 = (-1) then (sX3_echoOf_95 y1 y4 y6 y7 z) else if y9 = (-1) then (sX3_echoOf_95 y1 y4 y6 y7 z) else if y6 = (-1) then (sX3_echoOf_95 y1 y4 ((y8 + y9) + 1) y7 z) else (sX3_echoOf_95 y1 y4 (mm_min y6 ((y8 + y9) + 1)) y7 z)
noncomputable def sX3_echoOf_44 (y1 : Int32) (y4 : Int64) (y6 : Int32) (y7 : Int32) (y8 : Int32) (y9 : Int32) (z : mm_S) : Option ((Int32 × Int64 × Int32 × Int32 × mm_S) ⊕ (Int32 × mm_S)) := (sX3_echoOf_51 y1 y4 y6 y7 y8 y9 (pX3_has y4 y7) z)
noncomputable def sX3_echoOf_33 (y1 : Int32) (y4 : Int64) (y6 : Int32) (y7 : Int32) (y8 : Int32) (z : mm_S) : Option ((Int32 × Int64 × Int32 × Int32 × mm_S) ⊕ (Int32 × mm_S)) := (sX3_echoOf_44 y1 y4 y6 y7 y8 (pX3_at 44 y7 z) z)
noncomputable def lX3_echoOf_15 (s : Int32 × Int64 × Int32 × Int32 × mm_S) : Option ((Int32 × Int64 × Int32 × Int32 × mm_S) ⊕ (Int32 × mm_S)) := if 36 ≤ s.2.2.2.1 then if s.2.2.1 = (-1) then some (.inr ((-1), s.2.2.2.2)) else if s.2.2.1 ≤ (pX0_carriesOf 1 s.1 s.2.2.2.2) then some (.inr ((s.2.2.1 + (pX3_startsAs (pX0_kindOf 1 s.1 s.2.2.2.2))), s.2.2.2.2)) else some (.inr ((-1), s.2.2.2.2)) else (sX3_echoOf_33 s.1 s.2.1 s.2.2.1 s.2.2.2.1 (pX3_at 43 s.2.2.2.1 s.2.2.2.2) s.2.2.2.2)
noncomputable def sX3_echoOf_15 (y1 : Int32) (y4 : Int64) (y6 : Int32) (y7 : Int32) (z : mm_S) : Option (Int32 × mm_S) := mm_wh (lX3_echoOf_15 ) mm_fu (y1, y4, y6, y7, z)
noncomputable def sX3_echoOf_9 (y1 : Int32) (y4 : Int64) (z : mm_S) : Option (Int32 × mm_S) := (sX3_echoOf_15 y1 y4 (-1) 0 z)
noncomputable def sX3_echoOf_0 (x1 : Int32) (x2 : Int32) (x3 : Int32) (z : mm_S) : Option (Int32 × mm_S) := (sX3_echoOf_9 x1 (pX3_besides (pX3_setOf x3)) z)
noncomputable def sX3_echoOf (x1 : Int32) (x2 : Int32) (x3 : Int32) (z : mm_S) : Option (Int32 × mm_S) := sX3_echoOf_0 x1 x2 x3 z
noncomputable def sX3_echo_55 (y1 : Int32) (y2 : Int32) (y3 : Int32) (z : mm_S) : Option (Int32 × mm_S) := (sX3_echoOf y1 y2 y3 z).bind fun q6 => (sX3_orNone q6.1 q6.2).bind fun q7 => some (q7.1, q7.2)
noncomputable def sX3_echo_49 (y1 : Int32) (y2 : Int32) (y3 : Int32) (z : mm_S) : Option (Int32 × mm_S) := (sX3_listenForEchoes y1 y2 z).bind fun q5 => (sX3_echo_55 y1 y2 y3 q5)
noncomputable def sX3_echo_39 (y1 : Int32) (y2 : Int32) (y3 : Int32) (w0 : Int32) (z : mm_S) : Option (Int32 × mm_S) := if w0 = 2 then (sX3_echo_49 y1 y2 y3 z) else (sX3_finding 4 z).bind fun q4 => some (q4.1, q4.2)
noncomputable def sX3_echo_28 (y1 : Int32) (y2 : Int32) (y3 : Int32) (z : mm_S) : Option (Int32 × mm_S) := (sX3_echo_39 y1 y2 y3 (pX1_stuffAt 2 y3 z) z)
noncomputable def sX3_echo_19 (y1 : Int32) (y2 : Int32) (y3 : Int32) (w0 : Int32) (z : mm_S) : Option (Int32 × mm_S) := if w0 = 0 then (sX3_finding 0 z).bind fun q3 => some (q3.1, q3.2) else (sX3_echo_28 y1 y2 y3 z)
noncomputable def sX3_echo_12 (y1 : Int32) (y2 : Int32) (y3 : Int32) (w0 : Int32) (z : mm_S) : Option (Int32 × mm_S) := if w0 = 0 then (sX3_finding 0 z).bind fun q2 => some (q2.1, q2.2) else (sX3_echo_19 y1 y2 y3 (pX3_isCell y3) z)
noncomputable def sX3_echo_5 (y1 : Int32) (y2 : Int32) (y3 : Int32) (w0 : Int32) (z : mm_S) : Option (Int32 × mm_S) := if w0 = 0 then (sX3_finding 0 z).bind fun q1 => some (q1.1, q1.2) else (sX3_echo_12 y1 y2 y3 (pX3_isCell y2) z)
noncomputable def sX3_echo_0 (x1 : Int32) (x2 : Int32) (x3 : Int32) (z : mm_S) : Option (Int32 × mm_S) := (sX3_echo_5 x1 x2 x3 (pX3_isCrew x1 z) z)
noncomputable def sX3_echo (x1 : Int32) (x2 : Int32) (x3 : Int32) (z : mm_S) : Option (Int32 × mm_S) := sX3_echo_0 x1 x2 x3 z
noncomputable def sX3_echoBehind_39 (y1 : Int32) (y2 : Int32) (y3 : Int32) (y4 : Int32) (y5 : Int32) (y6 : Int32) (z : mm_S) : Option ((Int32 × Int32 × Int32 × Int32 × Int32 × mm_S) ⊕ (Int32 × mm_S)) := if y6 ≤ y1 then some (.inl (y1, y2, y3, y4, (y5 + 1), z)) else if y4 = (-1) then some (.inl (y1, y2, y3, y6, (y5 + 1), z)) else if y4 ≤ y6 then some (.inl (y1, y2, y3, y4, (y5 + 1), z)) else some (.inl (y1, y2, y3, y6, (y5 + 1), z))
noncomputable def sX3_echoBehind_25 (y1 : Int32) (y2 : Int32) (y3 : Int32) (y4 : Int32) (y5 : Int32) (w0 : Int32) (z : mm_S) : Option ((Int32 × Int32 × Int32 × Int32 × Int32 × mm_S) ⊕ (Int32 × mm_S)) := if w0 = 2 then (sX3_echoOf y2 y3 y5 z).bind fun q1 => (sX3_echoBehind_39 y1 y2 y3 y4 y5 q1.1 q1.2) else some (.inl (y1, y2, y3, y4, (y5 + 1), z))
noncomputable def lX3_echoBehind_6 (s : Int32 × Int32 × Int32 × Int32 × Int32 × mm_S) : Option ((Int32 × Int32 × Int32 × Int32 × Int32 × mm_S) ⊕ (Int32 × mm_S)) := if 36 ≤ s.2.2.2.2.1 then some (.inr (s.2.2.2.1, s.2.2.2.2.2)) else (sX3_echoBehind_25 s.1 s.2.1 s.2.2.1 s.2.2.2.1 s.2.2.2.2.1 (pX1_stuffAt 2 s.2.2.2.2.1 s.2.2.2.2.2) s.2.2.2.2.2)
noncomputable def sX3_echoBehind_6 (y1 : Int32) (y2 : Int32) (y3 : Int32) (y4 : Int32) (y5 : Int32) (z : mm_S) : Option (Int32 × mm_S) := mm_wh (lX3_echoBehind_6 ) mm_fu (y1, y2, y3, y4, y5, z)
noncomputable def sX3_echoBehind_0 (x1 : Int32) (x2 : Int32) (x3 : Int32) (z : mm_S) : Option (Int32 × mm_S) := (sX3_echoBehind_6 x1 x2 x3 (-1) 0 z)
noncomputable def sX3_echoBehind (x1 : Int32) (x2 : Int32) (x3 : Int32) (z : mm_S) : Option (Int32 × mm_S) := sX3_echoBehind_0 x1 x2 x3 z
noncomputable def sX3_chord_71 (y1 : Int32) (y2 : Int32) (y3 : Int32) (y4 : Int32) (y5 : Int32) (z : mm_S) : Option ((Int32 × Int32 × Int32 × Int32 × Int32 × mm_S) ⊕ (Int32 × mm_S)) := some (.inl (y1, y2, y3, y4, (y5 + 1), z))
noncomputable def sX3_chord_59 (y1 : Int32) (y2 : Int32) (y3 : Int32) (y4 : Int32) (y5 : Int32) (z : mm_S) : Option ((Int32 × Int32 × Int32 × Int32 × Int32 × mm_S) ⊕ (Int32 × mm_S)) := if y4 = (-1) then (sX3_finding 3 z).bind fun q6 => some (.inr (q6.1, q6.2)) else (sX3_chord_71 y1 y2 y3 y4 y5 z)
noncomputable def lX3_chord_43 (s : Int32 × Int32 × Int32 × Int32 × Int32 × mm_S) : Option ((Int32 × Int32 × Int32 × Int32 × Int32 × mm_S) ⊕ (Int32 × mm_S)) := if s.2.2.1 < s.2.2.2.2.1 then some (.inr (s.2.2.2.1, s.2.2.2.2.2)) else (sX3_echoBehind s.2.2.2.1 s.1 s.2.1 s.2.2.2.2.2).bind fun q5 => (sX3_chord_59 s.1 s.2.1 s.2.2.1 q5.1 s.2.2.2.2.1 q5.2)
noncomputable def sX3_chord_43 (y1 : Int32) (y2 : Int32) (y3 : Int32) (y4 : Int32) (y5 : Int32) (z : mm_S) : Option (Int32 × mm_S) := mm_wh (lX3_chord_43 ) mm_fu (y1, y2, y3, y4, y5, z)
noncomputable def sX3_chord_37 (y1 : Int32) (y2 : Int32) (y3 : Int32) (z : mm_S) : Option (Int32 × mm_S) := (sX3_chord_43 y1 y2 y3 (-1) 0 z)
noncomputable def sX3_chord_31 (y1 : Int32) (y2 : Int32) (y3 : Int32) (z : mm_S) : Option (Int32 × mm_S) := (sX3_listenForEchoes y1 y2 z).bind fun q4 => (sX3_chord_37 y1 y2 y3 q4)
noncomputable def sX3_chord_0 (x1 : Int32) (x2 : Int32) (x3 : Int32) (z : mm_S) : Option (Int32 × mm_S) := if (pX3_isCrew x1 z) = 0 then (sX3_finding 0 z).bind fun q1 => some (q1.1, q1.2) else if (pX3_isCell x2) = 0 then (sX3_finding 0 z).bind fun q2 => some (q2.1, q2.2) else if (pX3_lies x3 0 35) = 0 then (sX3_finding 0 z).bind fun q3 => some (q3.1, q3.2) else (sX3_chord_31 x1 x2 x3 z)
noncomputable def sX3_chord (x1 : Int32) (x2 : Int32) (x3 : Int32) (z : mm_S) : Option (Int32 × mm_S) := sX3_chord_0 x1 x2 x3 z
noncomputable def sX3_last_34  (z : mm_S) : Option (Int32 × mm_S) := (sX3_finding 3 z).bind fun q5 => some (q5.1, q5.2)
noncomputable def lX3_last_113 (s : Int32 × Int64 × Int32 × mm_S) : Option ((Int32 × Int64 × Int32 × mm_S) ⊕ (Int32 × mm_S)) := if 36 ≤ s.2.2.1 then (sX3_finding 3 s.2.2.2).bind fun q7 => some (.inr (q7.1, q7.2)) else if (pX3_has s.2.1 s.2.2.1) = 0 then some (.inl (s.1, s.2.1, (s.2.2.1 + 1), s.2.2.2)) else if (pX3_at 43 s.2.2.1 s.2.2.2) = s.1 then some (.inr (s.2.2.1, s.2.2.2)) else some (.inl (s.1, s.2.1, (s.2.2.1 + 1), s.2.2.2))
noncomputable def sX3_last_113 (y3 : Int32) (y4 : Int64) (y6 : Int32) (z : mm_S) : Option (Int32 × mm_S) := mm_wh (lX3_last_113 ) mm_fu (y3, y4, y6, z)
noncomputable def sX3_last_80 (y2 : Int32) (z : mm_S) : Option (Int32 × mm_S) := (sX3_last_113 ((pX3_at 43 y2 z) - (pX1_paceOf 2 y2 z)) (pX3_besides (pX3_setOf y2)) 0 z)
noncomputable def sX3_last_58 (y1 : Int32) (y2 : Int32) (z : mm_S) : Option (Int32 × mm_S) := (sX1_timesFrom 2 (pX0_placeOf 1 y1 z) 43 z).bind fun q6 => (sX3_last_80 y2 q6)
noncomputable def sX3_last_40 (y1 : Int32) (y2 : Int32) (z : mm_S) : Option (Int32 × mm_S) := if (pX0_placeOf 1 y1 z) = y2 then (sX3_finding 4 z).bind fun q4 => some (q4.1, q4.2) else (sX3_last_58 y1 y2 z)
noncomputable def sX3_last_21 (y1 : Int32) (y2 : Int32) (z : mm_S) : Option (Int32 × mm_S) := (sX0_heardAt 1 y1 y2 z).bind fun q3 => if q3.1 = (-1) then (sX3_last_34 q3.2) else (sX3_last_40 y1 y2 q3.2)
noncomputable def sX3_last_0 (x1 : Int32) (x2 : Int32) (z : mm_S) : Option (Int32 × mm_S) := if (pX3_isCrew x1 z) = 0 then (sX3_finding 0 z).bind fun q1 => some (q1.1, q1.2) else if (pX3_isCell x2) = 0 then (sX3_finding 0 z).bind fun q2 => some (q2.1, q2.2) else (sX3_last_21 x1 x2 z)
noncomputable def sX3_last (x1 : Int32) (x2 : Int32) (z : mm_S) : Option (Int32 × mm_S) := sX3_last_0 x1 x2 z
noncomputable def sX3_many_41 (y1 : Int32) (y2 : Int32) (y3 : Int32) (z : mm_S) : Option ((Int32 × Int32 × Int32 × mm_S) ⊕ (Int32 × mm_S)) := some (.inl (y1, (y2 + 1), (y3 + 1), z))
noncomputable def lX3_many_17 (s : Int32 × Int32 × Int32 × mm_S) : Option ((Int32 × Int32 × Int32 × mm_S) ⊕ (Int32 × mm_S)) := if (s.2.2.2.1 1 4) ≤ s.2.2.1 then some (.inr (s.2.1, s.2.2.2)) else (sX0_heardAt 1 s.2.2.1 s.1 s.2.2.2).bind fun q2 => if q2.1 = (-1) then some (.inl (s.1, s.2.1, (s.2.2.1 + 1), q2.2)) else (sX3_many_41 s.1 s.2.1 s.2.2.1 q2.2)
noncomputable def sX3_many_17 (y1 : Int32) (y2 : Int32) (y3 : Int32) (z : mm_S) : Option (Int32 × mm_S) := mm_wh (lX3_many_17 ) mm_fu (y1, y2, y3, z)
noncomputable def sX3_many_13 (y1 : Int32) (z : mm_S) : Option (Int32 × mm_S) := (sX3_many_17 y1 0 0 z)
noncomputable def sX3_many_0 (x1 : Int32) (z : mm_S) : Option (Int32 × mm_S) := if (pX3_isCell x1) = 0 then (sX3_finding 0 z).bind fun q1 => some (q1.1, q1.2) else (sX3_many_13 x1 z)
noncomputable def sX3_many (x1 : Int32) (z : mm_S) : Option (Int32 × mm_S) := sX3_many_0 x1 z
noncomputable def sX3_silent_0  (z : mm_S) : Option (Int64 × mm_S) := (sX0_silentCells 1 z).bind fun q1 => some (q1.1, q1.2)
noncomputable def sX3_silent  (z : mm_S) : Option (Int64 × mm_S) := sX3_silent_0  z
noncomputable def pX3_areTwoCrews (x1 : Int32) (x2 : Int32) (z : mm_S) : Int32 := if (pX3_isCrew x1 z) = 0 then 0 else if (pX3_isCrew x2 z) = 0 then 0 else if x1 = x2 then 0 else 1
noncomputable def sX3_lag_62 (y4 : Int32) (y5 : Int32) (z : mm_S) : Option (Int32 × mm_S) := some ((y5 - y4), z)
noncomputable def sX3_lag_44 (y4 : Int32) (y5 : Int32) (z : mm_S) : Option (Int32 × mm_S) := if y4 = (-1) then (sX3_finding 3 z).bind fun q5 => some (q5.1, q5.2) else if y5 = (-1) then (sX3_finding 3 z).bind fun q6 => some (q6.1, q6.2) else (sX3_lag_62 y4 y5 z)
noncomputable def sX3_lag_33 (y2 : Int32) (y3 : Int32) (y4 : Int32) (z : mm_S) : Option (Int32 × mm_S) := (sX0_heardAt 1 y2 y3 z).bind fun q4 => (sX3_lag_44 y4 q4.1 q4.2)
noncomputable def sX3_lag_22 (y1 : Int32) (y2 : Int32) (y3 : Int32) (z : mm_S) : Option (Int32 × mm_S) := (sX0_heardAt 1 y1 y3 z).bind fun q3 => (sX3_lag_33 y2 y3 q3.1 q3.2)
noncomputable def sX3_lag_0 (x1 : Int32) (x2 : Int32) (x3 : Int32) (z : mm_S) : Option (Int32 × mm_S) := if (pX3_areTwoCrews x1 x2 z) = 0 then (sX3_finding 0 z).bind fun q1 => some (q1.1, q1.2) else if (pX3_isCell x3) = 0 then (sX3_finding 0 z).bind fun q2 => some (q2.1, q2.2) else (sX3_lag_22 x1 x2 x3 z)
noncomputable def sX3_lag (x1 : Int32) (x2 : Int32) (x3 : Int32) (z : mm_S) : Option (Int32 × mm_S) := sX3_lag_0 x1 x2 x3 z
noncomputable def sX3_apart_97 (y3 : Int32) (y4 : Int32) (y5 : Int32) (y6 : Int32) (w0 : Int32) (z : mm_S) : Option ((Int32 × Int32 × mm_S) ⊕ (Int32 × mm_S)) := if w0 = 0 then some (.inl (y3, (y4 + 1), z)) else let v4 : Int32 := (y3 &&& ((1 <<< ((y5 - y6) &&& 31)) ^^^ (-1))); some (.inl (v4, (y4 + 1), z))
noncomputable def sX3_apart_74 (y3 : Int32) (y4 : Int32) (y5 : Int32) (y6 : Int32) (z : mm_S) : Option ((Int32 × Int32 × mm_S) ⊕ (Int32 × mm_S)) := if y5 = (-1) then some (.inl (y3, (y4 + 1), z)) else if y6 = (-1) then some (.inl (y3, (y4 + 1), z)) else (sX3_apart_97 y3 y4 y5 y6 (pX3_lies (y5 - y6) 0 30) z)
noncomputable def sX3_apart_63 (y3 : Int32) (y4 : Int32) (y5 : Int32) (z : mm_S) : Option ((Int32 × Int32 × mm_S) ⊕ (Int32 × mm_S)) := (sX3_apart_74 y3 y4 y5 (pX3_at 44 y4 z) z)
noncomputable def lX3_apart_45 (s : Int32 × Int32 × mm_S) : Option ((Int32 × Int32 × mm_S) ⊕ (Int32 × mm_S)) := if 36 ≤ s.2.1 then some (.inr (s.1, s.2.2)) else (sX3_apart_63 s.1 s.2.1 (pX3_at 43 s.2.1 s.2.2) s.2.2)
noncomputable def sX3_apart_45 (y3 : Int32) (y4 : Int32) (z : mm_S) : Option (Int32 × mm_S) := mm_wh (lX3_apart_45 ) mm_fu (y3, y4, z)
noncomputable def sX3_apart_39  (z : mm_S) : Option (Int32 × mm_S) := (sX3_apart_45 2147483647 0 z)
noncomputable def sX3_apart_27 (y2 : Int32) (z : mm_S) : Option (Int32 × mm_S) := (sX0_fillHeard 1 y2 44 z).bind fun q3 => (sX3_apart_39 q3)
noncomputable def sX3_apart_15 (y1 : Int32) (y2 : Int32) (z : mm_S) : Option (Int32 × mm_S) := (sX0_fillHeard 1 y1 43 z).bind fun q2 => (sX3_apart_27 y2 q2)
noncomputable def sX3_apart_6 (y1 : Int32) (y2 : Int32) (w0 : Int32) (z : mm_S) : Option (Int32 × mm_S) := if w0 = 0 then (sX3_finding 0 z).bind fun q1 => some (q1.1, q1.2) else (sX3_apart_15 y1 y2 z)
noncomputable def sX3_apart_0 (x1 : Int32) (x2 : Int32) (z : mm_S) : Option (Int32 × mm_S) := (sX3_apart_6 x1 x2 (pX3_areTwoCrews x1 x2 z) z)
noncomputable def sX3_apart (x1 : Int32) (x2 : Int32) (z : mm_S) : Option (Int32 × mm_S) := sX3_apart_0 x1 x2 z
noncomputable def sX3_from_106 (y3 : Int32) (y4 : Int64) (y6 : Int32) (y7 : Int32) (y8 : Int32) (z : mm_S) : Option ((Int32 × Int64 × Int32 × mm_S) ⊕ (Int64 × mm_S)) := if y7 = (-1) then some (.inl (y3, y4, (y6 + 1), z)) else if y8 = (-1) then some (.inl (y3, y4, (y6 + 1), z)) else if (y8 - y7) = y3 then some (.inl (y3, (y4 ||| (pX3_setOf y6)), (y6 + 1), z)) else some (.inl (y3, y4, (y6 + 1), z))
noncomputable def sX3_from_95 (y3 : Int32) (y4 : Int64) (y6 : Int32) (y7 : Int32) (z : mm_S) : Option ((Int32 × Int64 × Int32 × mm_S) ⊕ (Int64 × mm_S)) := (sX3_from_106 y3 y4 y6 y7 (pX3_at 44 y6 z) z)
noncomputable def lX3_from_77 (s : Int32 × Int64 × Int32 × mm_S) : Option ((Int32 × Int64 × Int32 × mm_S) ⊕ (Int64 × mm_S)) := if 36 ≤ s.2.2.1 then some (.inr (s.2.1, s.2.2.2)) else (sX3_from_95 s.1 s.2.1 s.2.2.1 (pX3_at 43 s.2.2.1 s.2.2.2) s.2.2.2)
noncomputable def sX3_from_77 (y3 : Int32) (y4 : Int64) (y6 : Int32) (z : mm_S) : Option (Int64 × mm_S) := mm_wh (lX3_from_77 ) mm_fu (y3, y4, y6, z)
noncomputable def sX3_from_71 (y3 : Int32) (z : mm_S) : Option (Int64 × mm_S) := (sX3_from_77 y3 0 0 z)
noncomputable def sX3_from_49 (y2 : Int32) (y3 : Int32) (z : mm_S) : Option (Int64 × mm_S) := (sX1_timesTo 2 (pX0_placeOf 1 y2 z) 44 z).bind fun q4 => (sX3_from_71 y3 q4)
noncomputable def sX3_from_27 (y1 : Int32) (y2 : Int32) (y3 : Int32) (z : mm_S) : Option (Int64 × mm_S) := (sX1_timesTo 2 (pX0_placeOf 1 y1 z) 43 z).bind fun q3 => (sX3_from_49 y2 y3 q3)
noncomputable def sX3_from_17 (y1 : Int32) (y2 : Int32) (y3 : Int32) (w0 : Int32) (z : mm_S) : Option (Int64 × mm_S) := if w0 = 0 then (sX3_finding 0 z).bind fun q2 => some ((Int32.toInt64 q2.1), q2.2) else (sX3_from_27 y1 y2 y3 z)
noncomputable def sX3_from_6 (y1 : Int32) (y2 : Int32) (y3 : Int32) (w0 : Int32) (z : mm_S) : Option (Int64 × mm_S) := if w0 = 0 then (sX3_finding 0 z).bind fun q1 => some ((Int32.toInt64 q1.1), q1.2) else (sX3_from_17 y1 y2 y3 (pX3_lies y3 (-60) 60) z)
noncomputable def sX3_from_0 (x1 : Int32) (x2 : Int32) (x3 : Int32) (z : mm_S) : Option (Int64 × mm_S) := (sX3_from_6 x1 x2 x3 (pX3_areTwoCrews x1 x2 z) z)
noncomputable def sX3_from (x1 : Int32) (x2 : Int32) (x3 : Int32) (z : mm_S) : Option (Int64 × mm_S) := sX3_from_0 x1 x2 x3 z
noncomputable def sX3_fillLongestTimes_112 (y1 : Int32) (y2 : Int32) (z : mm_S) : Option ((Int32 × Int32 × mm_S) ⊕ ((Int32 × mm_S) ⊕ (mm_S))) := some (.inl (y1, (y2 + 1), z))
noncomputable def sX3_fillLongestTimes_70 (y1 : Int32) (y2 : Int32) (y3 : Int32) (y4 : Int32) (z : mm_S) : Option ((Int32 × Int32 × mm_S) ⊕ ((Int32 × mm_S) ⊕ (mm_S))) := if y3 = (-1) then let u3 := (tX3_exchange 44 y2 (-1) z); (sX3_fillLongestTimes_112 y1 y2 u3.2) else if y4 = (-1) then let u4 := (tX3_exchange 44 y2 (-1) z); (sX3_fillLongestTimes_112 y1 y2 u4.2) else let u5 := (tX3_exchange 44 y2 (mm_max y3 y4) z); (sX3_fillLongestTimes_112 y1 y2 u5.2)
noncomputable def sX3_fillLongestTimes_60 (y1 : Int32) (y2 : Int32) (y3 : Int32) (z : mm_S) : Option ((Int32 × Int32 × mm_S) ⊕ ((Int32 × mm_S) ⊕ (mm_S))) := (sX3_fillLongestTimes_70 y1 y2 y3 (pX3_at 44 y2 z) z)
noncomputable def lX3_fillLongestTimes_45 (s : Int32 × Int32 × mm_S) : Option ((Int32 × Int32 × mm_S) ⊕ ((Int32 × mm_S) ⊕ (mm_S))) := if 36 ≤ s.2.1 then some (.inr (.inl ((s.1 + 1), s.2.2))) else (sX3_fillLongestTimes_60 s.1 s.2.1 (pX3_at 43 s.2.1 s.2.2) s.2.2)
noncomputable def sX3_fillLongestTimes_45 (y1 : Int32) (y2 : Int32) (z : mm_S) : Option ((Int32 × mm_S) ⊕ (mm_S)) := mm_wh (lX3_fillLongestTimes_45 ) mm_fu (y1, y2, z)
noncomputable def sX3_fillLongestTimes_43 (y1 : Int32) (z : mm_S) : Option ((Int32 × mm_S) ⊕ (mm_S)) := (sX3_fillLongestTimes_45 y1 0 z)
noncomputable def lX3_fillLongestTimes_10 (s : Int32 × mm_S) : Option ((Int32 × mm_S) ⊕ (mm_S)) := if (s.2.1 1 4) ≤ s.1 then some (.inr (s.2)) else (sX1_timesFrom 2 (pX0_placeOf 1 s.1 s.2) 43 s.2).bind fun q2 => (sX3_fillLongestTimes_43 s.1 q2)
noncomputable def sX3_fillLongestTimes_10 (y1 : Int32) (z : mm_S) : Option (mm_S) := mm_wh (lX3_fillLongestTimes_10 ) mm_fu (y1, z)
noncomputable def sX3_fillLongestTimes_8  (z : mm_S) : Option (mm_S) := (sX3_fillLongestTimes_10 0 z)
noncomputable def sX3_fillLongestTimes_0  (z : mm_S) : Option (mm_S) := let u1 := (tJ7_fill_53178 44 0 z); (sX3_fillLongestTimes_8 u1)
noncomputable def sX3_fillLongestTimes  (z : mm_S) : Option (mm_S) := sX3_fillLongestTimes_0  z
noncomputable def sX3_middle_44 (y1 : Int32) (y2 : Int32) (y3 : Int32) (y4 : Int32) (z : mm_S) : Option ((Int32 × Int32 × Int32 × mm_S) ⊕ (Int32 × mm_S)) := if y4 = (-1) then some (.inl (y1, y2, (y3 + 1), z)) else if y2 ≤ y4 then some (.inl (y1, y2, (y3 + 1), z)) else some (.inl (y3, y4, (y3 + 1), z))
noncomputable def lX3_middle_28 (s : Int32 × Int32 × Int32 × mm_S) : Option ((Int32 × Int32 × Int32 × mm_S) ⊕ (Int32 × mm_S)) := if 36 ≤ s.2.2.1 then (sX3_orNone s.1 s.2.2.2).bind fun q3 => some (.inr (q3.1, q3.2)) else (sX3_middle_44 s.1 s.2.1 s.2.2.1 (pX3_at 44 s.2.2.1 s.2.2.2) s.2.2.2)
noncomputable def sX3_middle_28 (y1 : Int32) (y2 : Int32) (y3 : Int32) (z : mm_S) : Option (Int32 × mm_S) := mm_wh (lX3_middle_28 ) mm_fu (y1, y2, y3, z)
noncomputable def sX3_middle_26 (y1 : Int32) (y2 : Int32) (z : mm_S) : Option (Int32 × mm_S) := (sX3_middle_28 y1 y2 0 z)
noncomputable def sX3_middle_16  (z : mm_S) : Option (Int32 × mm_S) := (sX3_fillLongestTimes  z).bind fun q2 => (sX3_middle_26 (-1) 217 q2)
noncomputable def sX3_middle_0  (z : mm_S) : Option (Int32 × mm_S) := if (z.1 1 4) = 0 then (sX3_finding 0 z).bind fun q1 => some (q1.1, q1.2) else (sX3_middle_16 z)
noncomputable def sX3_middle  (z : mm_S) : Option (Int32 × mm_S) := sX3_middle_0  z
noncomputable def sX3_hearersAs_77 (y1 : Int32) (y2 : Int32) (y3 : Int32) (y4 : Int32) (y5 : Int32) (w0 : Int32) (w1 : Int32) (z : mm_S) : Option ((Int32 × Int32 × Int32 × Int32 × Int32 × mm_S) ⊕ (Int32 × mm_S)) := if (pX3_hearsByAs w0) < w1 then if y5 = y1 then some (.inl (y1, y2, y3, y4, (y5 + 1), z)) else some (.inl (y1, y2, y3, y4, (y5 + 1), z)) else if y5 = y1 then some (.inl (y1, y2, y3, y4, (y5 + 1), z)) else some (.inl (y1, y2, y3, (y4 + 1), (y5 + 1), z))
noncomputable def sX3_hearersAs_49 (y1 : Int32) (y2 : Int32) (y3 : Int32) (y4 : Int32) (y5 : Int32) (y6 : Int32) (z : mm_S) : Option ((Int32 × Int32 × Int32 × Int32 × Int32 × mm_S) ⊕ (Int32 × mm_S)) := if y6 = (-1) then if y5 = y1 then some (.inl (y1, y2, y3, y4, (y5 + 1), z)) else some (.inl (y1, y2, y3, y4, (y5 + 1), z)) else if y3 < y6 then if y5 = y1 then some (.inl (y1, y2, y3, y4, (y5 + 1), z)) else some (.inl (y1, y2, y3, y4, (y5 + 1), z)) else (sX3_hearersAs_77 y1 y2 y3 y4 y5 (pX0_kindOf 1 y5 z) (y6 + (pX3_startsAs y2)) z)
noncomputable def lX3_hearersAs_19 (s : Int32 × Int32 × Int32 × Int32 × Int32 × mm_S) : Option ((Int32 × Int32 × Int32 × Int32 × Int32 × mm_S) ⊕ (Int32 × mm_S)) := if (s.2.2.2.2.2.1 1 4) ≤ s.2.2.2.2.1 then some (.inr (s.2.2.2.1, s.2.2.2.2.2)) else (sX3_hearersAs_49 s.1 s.2.1 s.2.2.1 s.2.2.2.1 s.2.2.2.2.1 (pX3_at 43 (pX0_placeOf 1 s.2.2.2.2.1 s.2.2.2.2.2) s.2.2.2.2.2) s.2.2.2.2.2)
noncomputable def sX3_hearersAs_19 (y1 : Int32) (y2 : Int32) (y3 : Int32) (y4 : Int32) (y5 : Int32) (z : mm_S) : Option (Int32 × mm_S) := mm_wh (lX3_hearersAs_19 ) mm_fu (y1, y2, y3, y4, y5, z)
noncomputable def sX3_hearersAs_13 (y1 : Int32) (y2 : Int32) (y3 : Int32) (z : mm_S) : Option (Int32 × mm_S) := (sX3_hearersAs_19 y1 y2 y3 0 0 z)
noncomputable def sX3_hearersAs_0 (x1 : Int32) (x2 : Int32) (z : mm_S) : Option (Int32 × mm_S) := (sX3_hearersAs_13 x1 x2 (pX3_carriesAs x2 (pX0_forceOf 1 x1 z)) z)
noncomputable def sX3_hearersAs (x1 : Int32) (x2 : Int32) (z : mm_S) : Option (Int32 × mm_S) := sX3_hearersAs_0 x1 x2 z
noncomputable def sX3_kindFor_59 (y1 : Int32) (y2 : Int32) (y3 : Int32) (y4 : Int32) (y5 : Int32) (z : mm_S) : Option ((Int32 × Int32 × Int32 × Int32 × mm_S) ⊕ (Int32 × mm_S)) := if y5 ≤ y3 then some (.inl (y1, y2, y3, (y4 + 1), z)) else some (.inl (y1, y4, y5, (y4 + 1), z))
noncomputable def lX3_kindFor_43 (s : Int32 × Int32 × Int32 × Int32 × mm_S) : Option ((Int32 × Int32 × Int32 × Int32 × mm_S) ⊕ (Int32 × mm_S)) := if 7 ≤ s.2.2.2.1 then some (.inr (s.2.1, s.2.2.2.2)) else (sX3_hearersAs s.1 s.2.2.2.1 s.2.2.2.2).bind fun q3 => (sX3_kindFor_59 s.1 s.2.1 s.2.2.1 s.2.2.2.1 q3.1 q3.2)
noncomputable def sX3_kindFor_43 (y1 : Int32) (y2 : Int32) (y3 : Int32) (y4 : Int32) (z : mm_S) : Option (Int32 × mm_S) := mm_wh (lX3_kindFor_43 ) mm_fu (y1, y2, y3, y4, z)
noncomputable def sX3_kindFor_36 (y1 : Int32) (z : mm_S) : Option (Int32 × mm_S) := (sX3_kindFor_43 y1 0 (-1) 0 z)
noncomputable def sX3_kindFor_14 (y1 : Int32) (z : mm_S) : Option (Int32 × mm_S) := (sX1_timesFrom 2 (pX0_placeOf 1 y1 z) 43 z).bind fun q2 => (sX3_kindFor_36 y1 q2)
noncomputable def sX3_kindFor_5 (y1 : Int32) (w0 : Int32) (z : mm_S) : Option (Int32 × mm_S) := if w0 = 0 then (sX3_finding 0 z).bind fun q1 => some (q1.1, q1.2) else (sX3_kindFor_14 y1 z)
noncomputable def sX3_kindFor_0 (x1 : Int32) (z : mm_S) : Option (Int32 × mm_S) := (sX3_kindFor_5 x1 (pX3_isCrew x1 z) z)
noncomputable def sX3_kindFor (x1 : Int32) (z : mm_S) : Option (Int32 × mm_S) := sX3_kindFor_0 x1 z
noncomputable def sX3_place_53 (y1 : Int32) (y2 : Int32) (y3 : Int32) (y4 : Int32) (y5 : Int32) (z : mm_S) : Option ((Int32 × Int32 × Int32 × Int32 × mm_S) ⊕ (Int32 × mm_S)) := if y5 ≤ y3 then some (.inl (y1, y2, y3, (y4 + 1), z)) else some (.inl (y1, y4, y5, (y4 + 1), z))
noncomputable def lX3_place_21 (s : Int32 × Int32 × Int32 × Int32 × mm_S) : Option ((Int32 × Int32 × Int32 × Int32 × mm_S) ⊕ (Int32 × mm_S)) := if 36 ≤ s.2.2.2.1 then some (.inr (s.2.1, s.2.2.2.2)) else (sX1_cellsWithin 2 s.2.2.2.1 (pX0_carriesOf 1 s.1 s.2.2.2.2) s.2.2.2.2).bind fun q2 => (sX3_place_53 s.1 s.2.1 s.2.2.1 s.2.2.2.1 (pJ13_bitCount_95d88 q2.1) q2.2)
noncomputable def sX3_place_21 (y1 : Int32) (y2 : Int32) (y3 : Int32) (y4 : Int32) (z : mm_S) : Option (Int32 × mm_S) := mm_wh (lX3_place_21 ) mm_fu (y1, y2, y3, y4, z)
noncomputable def sX3_place_14 (y1 : Int32) (z : mm_S) : Option (Int32 × mm_S) := (sX3_place_21 y1 0 (-1) 0 z)
noncomputable def sX3_place_5 (y1 : Int32) (w0 : Int32) (z : mm_S) : Option (Int32 × mm_S) := if w0 = 0 then (sX3_finding 0 z).bind fun q1 => some (q1.1, q1.2) else (sX3_place_14 y1 z)
noncomputable def sX3_place_0 (x1 : Int32) (z : mm_S) : Option (Int32 × mm_S) := (sX3_place_5 x1 (pX3_isCrew x1 z) z)
noncomputable def sX3_place (x1 : Int32) (z : mm_S) : Option (Int32 × mm_S) := sX3_place_0 x1 z
noncomputable def sX3_book_58  (z : mm_S) : Option (Int32 × mm_S) := some ((z.1 1 10), z)
noncomputable def sX3_book_48 (y1 : Int32) (y2 : Int32) (y3 : Int32) (z : mm_S) : Option (Int32 × mm_S) := let u5 := (tX0_addBook 1 y1 y2 y3 z); (sX3_book_58 u5)
noncomputable def sX3_book_30 (y1 : Int32) (y2 : Int32) (y3 : Int32) (z : mm_S) : Option (Int32 × mm_S) := if (z.1 1 10) < 8 then (sX3_book_48 y1 y2 y3 z) else (sX3_finding 1 z).bind fun q4 => some (q4.1, q4.2)
noncomputable def sX3_book_21 (y1 : Int32) (y2 : Int32) (y3 : Int32) (w0 : Int32) (z : mm_S) : Option (Int32 × mm_S) := if w0 = 0 then (sX3_finding 0 z).bind fun q3 => some (q3.1, q3.2) else (sX3_book_30 y1 y2 y3 z)
noncomputable def sX3_book_11 (y1 : Int32) (y2 : Int32) (y3 : Int32) (w0 : Int32) (z : mm_S) : Option (Int32 × mm_S) := if w0 = 0 then (sX3_finding 0 z).bind fun q2 => some (q2.1, q2.2) else (sX3_book_21 y1 y2 y3 (pX3_lies y3 0 99) z)
noncomputable def sX3_book_4 (y1 : Int32) (y2 : Int32) (y3 : Int32) (w0 : Int32) (z : mm_S) : Option (Int32 × mm_S) := if w0 = 0 then (sX3_finding 0 z).bind fun q1 => some (q1.1, q1.2) else (sX3_book_11 y1 y2 y3 (pX3_isCell y2) z)
noncomputable def sX3_book_0 (x1 : Int32) (x2 : Int32) (x3 : Int32) (z : mm_S) : Option (Int32 × mm_S) := (sX3_book_4 x1 x2 x3 (pX3_isCell x1) z)
noncomputable def sX3_book (x1 : Int32) (x2 : Int32) (x3 : Int32) (z : mm_S) : Option (Int32 × mm_S) := sX3_book_0 x1 x2 x3 z
noncomputable def sX3_burn_16 (y1 : Int32) (z : mm_S) : Option (Int32 × mm_S) := some (y1, z)
noncomputable def sX3_burn_0  (z : mm_S) : Option (Int32 × mm_S) := (sX3_burn_16 (z.1 1 10) ((mm_ui z.1 1 10 0), z.2))
noncomputable def sX3_burn  (z : mm_S) : Option (Int32 × mm_S) := sX3_burn_0  z
noncomputable def sX3_wrong_0  (z : mm_S) : Option (Int32 × mm_S) := (sX0_firstWrong 1 z).bind fun q1 => (sX3_orNone q1.1 q1.2).bind fun q2 => some (q2.1, q2.2)
noncomputable def sX3_wrong  (z : mm_S) : Option (Int32 × mm_S) := sX3_wrong_0  z
noncomputable def sX3_beginMaps_11  (z : mm_S) : Option (Int32 × mm_S) := some ((pX0_mapCount 1 z), z)
noncomputable def sX3_beginMaps_0  (z : mm_S) : Option (Int32 × mm_S) := let u1 := (tX0_become 25 1 z); (sX3_beginMaps_11 u1)
noncomputable def sX3_beginMaps  (z : mm_S) : Option (Int32 × mm_S) := sX3_beginMaps_0  z
noncomputable def sX3_draftFitsAs_19  (z : mm_S) : Option (Int32 × mm_S) := some (1, z)
noncomputable def sX3_draftFitsAs_15 (w0 : Int32) (z : mm_S) : Option (Int32 × mm_S) := if w0 = (-1) then (sX3_draftFitsAs_19 z) else some (0, z)
noncomputable def sX3_draftFitsAs_8  (z : mm_S) : Option (Int32 × mm_S) := (sX0_firstWrong 25 z).bind fun q2 => (sX3_draftFitsAs_15 q2.1 q2.2)
noncomputable def sX3_draftFitsAs_0 (x1 : Int32) (z : mm_S) : Option (Int32 × mm_S) := (sX0_layMap 25 x1 z).bind fun q1 => (sX3_draftFitsAs_8 q1)
noncomputable def sX3_draftFitsAs (x1 : Int32) (z : mm_S) : Option (Int32 × mm_S) := sX3_draftFitsAs_0 x1 z
noncomputable def sX3_fits_22 (y1 : Int32) (y2 : Int32) (y3 : Int32) (z : mm_S) : Option ((Int32 × Int32 × Int32 × mm_S) ⊕ (Int32 × mm_S)) := some (.inl ((y1 + 1), y2, (y3 + 1), z))
noncomputable def sX3_fits_19 (y1 : Int32) (y2 : Int32) (y3 : Int32) (w0 : Int32) (z : mm_S) : Option ((Int32 × Int32 × Int32 × mm_S) ⊕ (Int32 × mm_S)) := if w0 = 0 then some (.inl (y1, y2, (y3 + 1), z)) else (sX3_fits_22 y1 y2 y3 z)
noncomputable def lX3_fits_9 (s : Int32 × Int32 × Int32 × mm_S) : Option ((Int32 × Int32 × Int32 × mm_S) ⊕ (Int32 × mm_S)) := if s.2.1 ≤ s.2.2.1 then some (.inr (s.1, s.2.2.2)) else (sX3_draftFitsAs s.2.2.1 s.2.2.2).bind fun q2 => (sX3_fits_19 s.1 s.2.1 s.2.2.1 q2.1 q2.2)
noncomputable def sX3_fits_9 (y1 : Int32) (y2 : Int32) (y3 : Int32) (z : mm_S) : Option (Int32 × mm_S) := mm_wh (lX3_fits_9 ) mm_fu (y1, y2, y3, z)
noncomputable def sX3_fits_7 (y1 : Int32) (y2 : Int32) (z : mm_S) : Option (Int32 × mm_S) := (sX3_fits_9 y1 y2 0 z)
noncomputable def sX3_fits_0  (z : mm_S) : Option (Int32 × mm_S) := (sX3_beginMaps  z).bind fun q1 => (sX3_fits_7 0 q1.1 q1.2)
noncomputable def sX3_fits  (z : mm_S) : Option (Int32 × mm_S) := sX3_fits_0  z
noncomputable def sX3_leastFit_20 (y2 : Int32) (z : mm_S) : Option (Int32 × mm_S) := some (y2, z)
noncomputable def sX3_leastFit_17 (y1 : Int32) (y2 : Int32) (w0 : Int32) (z : mm_S) : Option ((Int32 × Int32 × mm_S) ⊕ (Int32 × mm_S)) := if w0 = 0 then some (.inl (y1, (y2 + 1), z)) else ((sX3_leastFit_20 y2 z).map fun w => (Sum.inr w))
noncomputable def lX3_leastFit_7 (s : Int32 × Int32 × mm_S) : Option ((Int32 × Int32 × mm_S) ⊕ (Int32 × mm_S)) := if s.1 ≤ s.2.1 then some (.inr ((-1), s.2.2)) else (sX3_draftFitsAs s.2.1 s.2.2).bind fun q2 => (sX3_leastFit_17 s.1 s.2.1 q2.1 q2.2)
noncomputable def sX3_leastFit_7 (y1 : Int32) (y2 : Int32) (z : mm_S) : Option (Int32 × mm_S) := mm_wh (lX3_leastFit_7 ) mm_fu (y1, y2, z)
noncomputable def sX3_leastFit_5 (y1 : Int32) (z : mm_S) : Option (Int32 × mm_S) := (sX3_leastFit_7 y1 0 z)
noncomputable def sX3_leastFit_0  (z : mm_S) : Option (Int32 × mm_S) := (sX3_beginMaps  z).bind fun q1 => (sX3_leastFit_5 q1.1 q1.2)
noncomputable def sX3_leastFit  (z : mm_S) : Option (Int32 × mm_S) := sX3_leastFit_0  z
noncomputable def sX3_nearestFit_40 (y1 : Int32) (y2 : Int32) (y3 : Int32) (y4 : Int32) (y5 : Int32) (z : mm_S) : Option ((Int32 × Int32 × Int32 × Int32 × mm_S) ⊕ (Int32 × mm_S)) := if y2 ≤ y5 then some (.inl (y1, y2, y3, (y4 + 1), z)) else some (.inl (y4, y5, y3, (y4 + 1), z))
noncomputable def sX3_nearestFit_27 (y1 : Int32) (y2 : Int32) (y3 : Int32) (y4 : Int32) (z : mm_S) : Option ((Int32 × Int32 × Int32 × Int32 × mm_S) ⊕ (Int32 × mm_S)) := (sX0_unlikeCells 25 1 z).bind fun q3 => (sX3_nearestFit_40 y1 y2 y3 y4 q3.1 q3.2)
noncomputable def sX3_nearestFit_24 (y1 : Int32) (y2 : Int32) (y3 : Int32) (y4 : Int32) (w0 : Int32) (z : mm_S) : Option ((Int32 × Int32 × Int32 × Int32 × mm_S) ⊕ (Int32 × mm_S)) := if w0 = 0 then some (.inl (y1, y2, y3, (y4 + 1), z)) else (sX3_nearestFit_27 y1 y2 y3 y4 z)
noncomputable def lX3_nearestFit_12 (s : Int32 × Int32 × Int32 × Int32 × mm_S) : Option ((Int32 × Int32 × Int32 × Int32 × mm_S) ⊕ (Int32 × mm_S)) := if s.2.2.1 ≤ s.2.2.2.1 then some (.inr (s.1, s.2.2.2.2)) else (sX3_draftFitsAs s.2.2.2.1 s.2.2.2.2).bind fun q2 => (sX3_nearestFit_24 s.1 s.2.1 s.2.2.1 s.2.2.2.1 q2.1 q2.2)
noncomputable def sX3_nearestFit_12 (y1 : Int32) (y2 : Int32) (y3 : Int32) (y4 : Int32) (z : mm_S) : Option (Int32 × mm_S) := mm_wh (lX3_nearestFit_12 ) mm_fu (y1, y2, y3, y4, z)
noncomputable def sX3_nearestFit_9 (y1 : Int32) (y2 : Int32) (y3 : Int32) (z : mm_S) : Option (Int32 × mm_S) := (sX3_nearestFit_12 y1 y2 y3 0 z)
noncomputable def sX3_nearestFit_0  (z : mm_S) : Option (Int32 × mm_S) := (sX3_beginMaps  z).bind fun q1 => (sX3_nearestFit_9 (-1) 5 q1.1 q1.2)
noncomputable def sX3_nearestFit  (z : mm_S) : Option (Int32 × mm_S) := sX3_nearestFit_0  z
noncomputable def sX3_greatestFit_21 (y2 : Int32) (z : mm_S) : Option (Int32 × mm_S) := some (y2, z)
noncomputable def sX3_greatestFit_18 (y2 : Int32) (w0 : Int32) (z : mm_S) : Option ((Int32 × mm_S) ⊕ (Int32 × mm_S)) := if w0 = 0 then let v3 : Int32 := (y2 + (-1)); some (.inl (v3, z)) else ((sX3_greatestFit_21 y2 z).map fun w => (Sum.inr w))
noncomputable def lX3_greatestFit_9 (s : Int32 × mm_S) : Option ((Int32 × mm_S) ⊕ (Int32 × mm_S)) := if s.1 < 0 then some (.inr ((-1), s.2)) else (sX3_draftFitsAs s.1 s.2).bind fun q2 => (sX3_greatestFit_18 s.1 q2.1 q2.2)
noncomputable def sX3_greatestFit_9 (y2 : Int32) (z : mm_S) : Option (Int32 × mm_S) := mm_wh (lX3_greatestFit_9 ) mm_fu (y2, z)
noncomputable def sX3_greatestFit_5 (y1 : Int32) (z : mm_S) : Option (Int32 × mm_S) := (sX3_greatestFit_9 (y1 - 1) z)
noncomputable def sX3_greatestFit_0  (z : mm_S) : Option (Int32 × mm_S) := (sX3_beginMaps  z).bind fun q1 => (sX3_greatestFit_5 q1.1 q1.2)
noncomputable def sX3_greatestFit  (z : mm_S) : Option (Int32 × mm_S) := sX3_greatestFit_0  z
noncomputable def sX3_map_0 (x1 : Int32) (z : mm_S) : Option (Int32 × mm_S) := if x1 = 0 then (sX3_leastFit  z).bind fun q6 => (sX3_orNone q6.1 q6.2).bind fun q7 => some (q7.1, q7.2) else if x1 = 1 then (sX3_nearestFit  z).bind fun q4 => (sX3_orNone q4.1 q4.2).bind fun q5 => some (q5.1, q5.2) else if x1 = 2 then (sX3_greatestFit  z).bind fun q2 => (sX3_orNone q2.1 q2.2).bind fun q3 => some (q3.1, q3.2) else (sX3_finding 0 z).bind fun q1 => some (q1.1, q1.2)
noncomputable def sX3_map (x1 : Int32) (z : mm_S) : Option (Int32 × mm_S) := sX3_map_0 x1 z
noncomputable def sX3_may_62 (y2 : Int32) (y3 : Int32) (y4 : Int32) (y5 : Int32) (z : mm_S) : Option ((Int32 × Int32 × Int32 × Int32 × mm_S) ⊕ (Int32 × mm_S)) := let v4 : Int32 := (y2 ||| (1 <<< ((pX1_stuffAt 26 y3 z) &&& 31))); some (.inl (v4, y3, y4, (y5 + 1), z))
noncomputable def sX3_may_59 (y2 : Int32) (y3 : Int32) (y4 : Int32) (y5 : Int32) (w0 : Int32) (z : mm_S) : Option ((Int32 × Int32 × Int32 × Int32 × mm_S) ⊕ (Int32 × mm_S)) := if w0 = 0 then some (.inl (y2, y3, y4, (y5 + 1), z)) else (sX3_may_62 y2 y3 y4 y5 z)
noncomputable def lX3_may_46 (s : Int32 × Int32 × Int32 × Int32 × mm_S) : Option ((Int32 × Int32 × Int32 × Int32 × mm_S) ⊕ (Int32 × mm_S)) := if s.2.2.1 ≤ s.2.2.2.1 then some (.inr (s.1, s.2.2.2.2)) else (sX3_draftFitsAs s.2.2.2.1 s.2.2.2.2).bind fun q3 => (sX3_may_59 s.1 s.2.1 s.2.2.1 s.2.2.2.1 q3.1 q3.2)
noncomputable def sX3_may_46 (y2 : Int32) (y3 : Int32) (y4 : Int32) (y5 : Int32) (z : mm_S) : Option (Int32 × mm_S) := mm_wh (lX3_may_46 ) mm_fu (y2, y3, y4, y5, z)
noncomputable def sX3_may_43 (y2 : Int32) (y3 : Int32) (y4 : Int32) (z : mm_S) : Option (Int32 × mm_S) := (sX3_may_46 y2 y3 y4 0 z)
noncomputable def sX3_may_37 (y2 : Int32) (y3 : Int32) (z : mm_S) : Option (Int32 × mm_S) := (sX3_beginMaps  z).bind fun q2 => (sX3_may_43 y2 y3 q2.1 q2.2)
noncomputable def sX3_may_23 (y1 : Int32) (z : mm_S) : Option (Int32 × mm_S) := (sX3_may_37 0 (pX3_at 8 y1 z) z)
noncomputable def sX3_may_14 (y1 : Int32) (w0 : Int32) (z : mm_S) : Option (Int32 × mm_S) := if w0 = 0 then (sX3_finding 0 z).bind fun q1 => some (q1.1, q1.2) else (sX3_may_23 y1 z)
noncomputable def sX3_may_0 (x1 : Int32) (z : mm_S) : Option (Int32 × mm_S) := (sX3_may_14 x1 (pX3_lies x1 0 ((z.1 1 6) - 1)) z)
noncomputable def sX3_may (x1 : Int32) (z : mm_S) : Option (Int32 × mm_S) := sX3_may_0 x1 z
noncomputable def sX3_lays_55 (y2 : Int32) (z : mm_S) : Option (Int32 × mm_S) := some (y2, z)
noncomputable def sX3_lays_47 (y1 : Int32) (y2 : Int32) (z : mm_S) : Option (Int32 × mm_S) := (sX0_layMap 1 y1 z).bind fun q4 => (sX3_lays_55 y2 q4)
noncomputable def sX3_lays_39 (y1 : Int32) (z : mm_S) : Option (Int32 × mm_S) := (sX0_mapNow 1 z).bind fun q3 => (sX3_lays_47 y1 q3.1 q3.2)
noncomputable def sX3_lays_23 (y1 : Int32) (z : mm_S) : Option (Int32 × mm_S) := if (z.1 1 6) = 0 then (sX3_finding 4 z).bind fun q2 => some (q2.1, q2.2) else (sX3_lays_39 y1 z)
noncomputable def sX3_lays_14 (y1 : Int32) (w0 : Int32) (z : mm_S) : Option (Int32 × mm_S) := if w0 = 0 then (sX3_finding 0 z).bind fun q1 => some (q1.1, q1.2) else (sX3_lays_23 y1 z)
noncomputable def sX3_lays_0 (x1 : Int32) (z : mm_S) : Option (Int32 × mm_S) := (sX3_lays_14 x1 (pX3_lies x1 0 ((pX0_mapCount 1 z) - 1)) z)
noncomputable def sX3_lays (x1 : Int32) (z : mm_S) : Option (Int32 × mm_S) := sX3_lays_0 x1 z
noncomputable def sX3_markTimesOfCrews_70 (y1 : Int32) (z : mm_S) : Option ((Int32 × mm_S) ⊕ (mm_S)) := some (.inl ((y1 + 1), z))
noncomputable def sX3_markTimesOfCrews_52 (y1 : Int32) (y2 : Int32) (y3 : Int32) (w0 : Int32) (z : mm_S) : Option ((Int32 × mm_S) ⊕ (mm_S)) := if w0 = 0 then (sX3_markTimesOfCrews_70 y1 z) else if y3 < 0 ∨ 24 ≤ Int32.toNatClampNeg y3 then none else if y3 < 0 ∨ 24 ≤ Int32.toNatClampNeg y3 then none else let u2 : mm_S := (z.1, (mm_ul z.2 45 (Int32.toNatClampNeg y3) ((z.2 45 (Int32.toNatClampNeg y3)) ||| (1 <<< (Int32.toInt64 (y2 - y2 / 64 * 64) &&& 63))))); (sX3_markTimesOfCrews_70 y1 u2)
noncomputable def lX3_markTimesOfCrews_2 (s : Int32 × mm_S) : Option ((Int32 × mm_S) ⊕ (mm_S)) := if (s.2.1 1 4) ≤ s.1 then some (.inr (s.2)) else let v1 : Int32 := ((s.1 * 4) + (((pX3_at 43 (pX0_placeOf 1 s.1 s.2) s.2) + 1) / 64)); (sX3_markTimesOfCrews_52 s.1 ((pX3_at 43 (pX0_placeOf 1 s.1 s.2) s.2) + 1) v1 (pX3_lies v1 0 23) s.2)
noncomputable def sX3_markTimesOfCrews_2 (y1 : Int32) (z : mm_S) : Option (mm_S) := mm_wh (lX3_markTimesOfCrews_2 ) mm_fu (y1, z)
noncomputable def sX3_markTimesOfCrews_0  (z : mm_S) : Option (mm_S) := (sX3_markTimesOfCrews_2 0 z)
noncomputable def sX3_markTimesOfCrews  (z : mm_S) : Option (mm_S) := sX3_markTimesOfCrews_0  z
noncomputable def sX3_crewOfMostTimes_50 (y1 : Int32) (y2 : Int32) (y3 : Int32) (y5 : Int32) (w0 : Int32) (w1 : Int32) (z : mm_S) : Option ((Int32 × Int32 × Int32 × Int32 × Int32 × mm_S) ⊕ ((Int32 × Int32 × Int32 × mm_S) ⊕ (Int32 × mm_S))) := if w0 = 0 then some (.inl (y1, y2, y3, (w1 + 0), (y5 + 1), z)) else if y5 < 0 ∨ 24 ≤ Int32.toNatClampNeg y5 then none else let v1 : Int32 := (w1 + (pJ13_bitCount_95d88 (z.2 45 (Int32.toNatClampNeg y5)))); some (.inl (y1, y2, y3, v1, (y5 + 1), z))
noncomputable def lX3_crewOfMostTimes_25 (s : Int32 × Int32 × Int32 × Int32 × Int32 × mm_S) : Option ((Int32 × Int32 × Int32 × Int32 × Int32 × mm_S) ⊕ ((Int32 × Int32 × Int32 × mm_S) ⊕ (Int32 × mm_S))) := if ((s.2.2.1 + 1) * 4) ≤ s.2.2.2.2.1 then if s.2.2.2.1 ≤ s.2.1 then some (.inr (.inl (s.1, s.2.1, (s.2.2.1 + 1), s.2.2.2.2.2))) else some (.inr (.inl (s.2.2.1, s.2.2.2.1, (s.2.2.1 + 1), s.2.2.2.2.2))) else (sX3_crewOfMostTimes_50 s.1 s.2.1 s.2.2.1 s.2.2.2.2.1 (pX3_lies s.2.2.2.2.1 0 23) s.2.2.2.1 s.2.2.2.2.2)
noncomputable def sX3_crewOfMostTimes_25 (y1 : Int32) (y2 : Int32) (y3 : Int32) (y4 : Int32) (y5 : Int32) (z : mm_S) : Option ((Int32 × Int32 × Int32 × mm_S) ⊕ (Int32 × mm_S)) := mm_wh (lX3_crewOfMostTimes_25 ) mm_fu (y1, y2, y3, y4, y5, z)
noncomputable def lX3_crewOfMostTimes_6 (s : Int32 × Int32 × Int32 × mm_S) : Option ((Int32 × Int32 × Int32 × mm_S) ⊕ (Int32 × mm_S)) := if (s.2.2.2.1 1 4) ≤ s.2.2.1 then some (.inr (s.1, s.2.2.2)) else (sX3_crewOfMostTimes_25 s.1 s.2.1 s.2.2.1 0 (s.2.2.1 * 4) s.2.2.2)
noncomputable def sX3_crewOfMostTimes_6 (y1 : Int32) (y2 : Int32) (y3 : Int32) (z : mm_S) : Option (Int32 × mm_S) := mm_wh (lX3_crewOfMostTimes_6 ) mm_fu (y1, y2, y3, z)
noncomputable def sX3_crewOfMostTimes_0  (z : mm_S) : Option (Int32 × mm_S) := (sX3_crewOfMostTimes_6 (-1) 0 0 z)
noncomputable def sX3_crewOfMostTimes  (z : mm_S) : Option (Int32 × mm_S) := sX3_crewOfMostTimes_0  z
noncomputable def sX3_asks_60 (y1 : Int32) (y2 : Int32) (y3 : Int32) (z : mm_S) : Option ((Int32 × Int32 × Int32 × mm_S) ⊕ (Int32 × mm_S)) := some (.inl (y1, y2, (y3 + 1), z))
noncomputable def sX3_asks_56 (y1 : Int32) (y2 : Int32) (y3 : Int32) (z : mm_S) : Option ((Int32 × Int32 × Int32 × mm_S) ⊕ (Int32 × mm_S)) := (sX3_markTimesOfCrews  z).bind fun q8 => (sX3_asks_60 y1 y2 y3 q8)
noncomputable def sX3_asks_41 (y1 : Int32) (y2 : Int32) (y3 : Int32) (z : mm_S) : Option ((Int32 × Int32 × Int32 × mm_S) ⊕ (Int32 × mm_S)) := (sX1_timesTo 26 y1 43 z).bind fun q7 => (sX3_asks_56 y1 y2 y3 q7)
noncomputable def sX3_asks_38 (y1 : Int32) (y2 : Int32) (y3 : Int32) (w0 : Int32) (z : mm_S) : Option ((Int32 × Int32 × Int32 × mm_S) ⊕ (Int32 × mm_S)) := if w0 = 0 then (sX3_asks_60 y1 y2 y3 z) else (sX3_asks_41 y1 y2 y3 z)
noncomputable def lX3_asks_28 (s : Int32 × Int32 × Int32 × mm_S) : Option ((Int32 × Int32 × Int32 × mm_S) ⊕ (Int32 × mm_S)) := if s.2.1 ≤ s.2.2.1 then (sX3_crewOfMostTimes  s.2.2.2).bind fun q4 => (sX3_orNone q4.1 q4.2).bind fun q5 => some (.inr (q5.1, q5.2)) else (sX3_draftFitsAs s.2.2.1 s.2.2.2).bind fun q6 => (sX3_asks_38 s.1 s.2.1 s.2.2.1 q6.1 q6.2)
noncomputable def sX3_asks_28 (y1 : Int32) (y2 : Int32) (y3 : Int32) (z : mm_S) : Option (Int32 × mm_S) := mm_wh (lX3_asks_28 ) mm_fu (y1, y2, y3, z)
noncomputable def sX3_asks_26 (y1 : Int32) (y2 : Int32) (z : mm_S) : Option (Int32 × mm_S) := (sX3_asks_28 y1 y2 0 z)
noncomputable def sX3_asks_21 (y1 : Int32) (z : mm_S) : Option (Int32 × mm_S) := (sX3_beginMaps  z).bind fun q3 => (sX3_asks_26 y1 q3.1 q3.2)
noncomputable def sX3_asks_13 (y1 : Int32) (z : mm_S) : Option (Int32 × mm_S) := let u2 := (tJ7_fill_d0a16 45 0 z); (sX3_asks_21 y1 u2)
noncomputable def sX3_asks_4 (y1 : Int32) (w0 : Int32) (z : mm_S) : Option (Int32 × mm_S) := if w0 = 0 then (sX3_finding 0 z).bind fun q1 => some (q1.1, q1.2) else (sX3_asks_13 y1 z)
noncomputable def sX3_asks_0 (x1 : Int32) (z : mm_S) : Option (Int32 × mm_S) := (sX3_asks_4 x1 (pX3_isCell x1) z)
noncomputable def sX3_asks (x1 : Int32) (z : mm_S) : Option (Int32 × mm_S) := sX3_asks_0 x1 z
noncomputable def lX3_flood_6 (s : Int64 × Int64 × Int32 × mm_S) : Option ((Int64 × Int64 × Int32 × mm_S) ⊕ (Int64 × mm_S)) := if 36 ≤ s.2.2.1 then some (.inr (s.2.1, s.2.2.2)) else if (lg_cmp (s.2.1 ||| ((pX3_besides s.2.1) &&& s.1)) s.2.1) = 0 then some (.inr (s.2.1, s.2.2.2)) else some (.inl (s.1, (s.2.1 ||| ((pX3_besides s.2.1) &&& s.1)), (s.2.2.1 + 1), s.2.2.2))
noncomputable def sX3_flood_6 (y2 : Int64) (y4 : Int64) (y6 : Int32) (z : mm_S) : Option (Int64 × mm_S) := mm_wh (lX3_flood_6 ) mm_fu (y2, y4, y6, z)
noncomputable def sX3_flood_0 (x1 : Int64) (x2 : Int64) (z : mm_S) : Option (Int64 × mm_S) := (sX3_flood_6 x2 x1 0 z)
noncomputable def sX3_flood (x1 : Int64) (x2 : Int64) (z : mm_S) : Option (Int64 × mm_S) := sX3_flood_0 x1 x2 z
noncomputable def sX3_costOfWay_73 (y0 : Int64) (y5 : Int32) (y6 : Int64) (y8 : Int64) (y10 : Int64) (y12 : Int32) (z : mm_S) : Option ((Int64 × Int32 × Int64 × Int64 × Int64 × Int32 × mm_S) ⊕ (Int32 × mm_S)) := some (.inl (y0, y5, y6, y8, y10, (y12 + 1), z))
noncomputable def sX3_costOfWay_43 (y0 : Int64) (y5 : Int32) (y6 : Int64) (y8 : Int64) (y10 : Int64) (y12 : Int32) (w0 : Int32) (z : mm_S) : Option ((Int64 × Int32 × Int64 × Int64 × Int64 × Int32 × mm_S) ⊕ (Int32 × mm_S)) := if w0 = 0 then (sX3_flood (y10 ||| (((pX3_besides y10) ||| y6) &&& y0)) y8 z).bind fun q2 => (sX3_costOfWay_73 y0 y5 y6 y8 q2.1 y12 q2.2) else some (.inr (y12, z))
noncomputable def lX3_costOfWay_29 (s : Int64 × Int32 × Int64 × Int64 × Int64 × Int32 × mm_S) : Option ((Int64 × Int32 × Int64 × Int64 × Int64 × Int32 × mm_S) ⊕ (Int32 × mm_S)) := if 36 < s.2.2.2.2.2.1 then some (.inr ((-1), s.2.2.2.2.2.2)) else (sX3_costOfWay_43 s.1 s.2.1 s.2.2.1 s.2.2.2.1 s.2.2.2.2.1 s.2.2.2.2.2.1 (pX3_has s.2.2.2.2.1 s.2.1) s.2.2.2.2.2.2)
noncomputable def sX3_costOfWay_29 (y0 : Int64) (y5 : Int32) (y6 : Int64) (y8 : Int64) (y10 : Int64) (y12 : Int32) (z : mm_S) : Option (Int32 × mm_S) := mm_wh (lX3_costOfWay_29 ) mm_fu (y0, y5, y6, y8, y10, y12, z)
noncomputable def sX3_costOfWay_26 (y0 : Int64) (y5 : Int32) (y6 : Int64) (y8 : Int64) (y10 : Int64) (z : mm_S) : Option (Int32 × mm_S) := (sX3_costOfWay_29 y0 y5 y6 y8 y10 0 z)
noncomputable def sX3_costOfWay_0 (x1 : Int64) (x2 : Int64) (x3 : Int32) (x4 : Int32) (z : mm_S) : Option (Int32 × mm_S) := (sX3_flood (((pX3_setOf x3) &&& x1) &&& (x1 &&& x2)) (x1 &&& x2) z).bind fun q1 => (sX3_costOfWay_26 x1 x4 ((pX3_setOf x3) &&& x1) (x1 &&& x2) q1.1 q1.2)
noncomputable def sX3_costOfWay (x1 : Int64) (x2 : Int64) (x3 : Int32) (x4 : Int32) (z : mm_S) : Option (Int32 × mm_S) := sX3_costOfWay_0 x1 x2 x3 x4 z
noncomputable def sX3_dig_20 (y1 : Int32) (y2 : Int32) (z : mm_S) : Option (Int32 × mm_S) := (sX3_costOfWay (pX1_dryCells 2 z) (pX1_cellsOf 2 2 z) y1 y2 z).bind fun q3 => (sX3_orNone q3.1 q3.2).bind fun q4 => some (q4.1, q4.2)
noncomputable def sX3_dig_11 (y1 : Int32) (y2 : Int32) (w0 : Int32) (z : mm_S) : Option (Int32 × mm_S) := if w0 = 0 then (sX3_finding 0 z).bind fun q2 => some (q2.1, q2.2) else (sX3_dig_20 y1 y2 z)
noncomputable def sX3_dig_4 (y1 : Int32) (y2 : Int32) (w0 : Int32) (z : mm_S) : Option (Int32 × mm_S) := if w0 = 0 then (sX3_finding 0 z).bind fun q1 => some (q1.1, q1.2) else (sX3_dig_11 y1 y2 (pX3_isCell y2) z)
noncomputable def sX3_dig_0 (x1 : Int32) (x2 : Int32) (z : mm_S) : Option (Int32 × mm_S) := (sX3_dig_4 x1 x2 (pX3_isCell x1) z)
noncomputable def sX3_dig (x1 : Int32) (x2 : Int32) (z : mm_S) : Option (Int32 × mm_S) := sX3_dig_0 x1 x2 z
noncomputable def sX3_safe_59 (y1 : Int32) (y2 : Int32) (y3 : Int64) (y6 : Int32) (y7 : Int32) (z : mm_S) : Option ((Int32 × Int32 × Int64 × Int32 × Int32 × Int32 × mm_S) ⊕ (Int32 × mm_S)) := some (.inl (y1, y2, (y3 &&& (pX1_dryCells 26 z)), 1, y6, (y7 + 1), z))
noncomputable def sX3_safe_56 (y1 : Int32) (y2 : Int32) (y3 : Int64) (y5 : Int32) (y6 : Int32) (y7 : Int32) (w0 : Int32) (z : mm_S) : Option ((Int32 × Int32 × Int64 × Int32 × Int32 × Int32 × mm_S) ⊕ (Int32 × mm_S)) := if w0 = 0 then some (.inl (y1, y2, y3, y5, y6, (y7 + 1), z)) else (sX3_safe_59 y1 y2 y3 y6 y7 z)
noncomputable def sX3_safe_92 (y1 : Int32) (y2 : Int32) (y3 : Int64) (z : mm_S) : Option (Int32 × mm_S) := (sX3_costOfWay y3 (pX1_cellsOf 2 2 z) y1 y2 z).bind fun q6 => (sX3_orNone q6.1 q6.2).bind fun q7 => some (q7.1, q7.2)
noncomputable def lX3_safe_43 (s : Int32 × Int32 × Int64 × Int32 × Int32 × Int32 × mm_S) : Option ((Int32 × Int32 × Int64 × Int32 × Int32 × Int32 × mm_S) ⊕ (Int32 × mm_S)) := if s.2.2.2.2.1 ≤ s.2.2.2.2.2.1 then if s.2.2.2.1 = 0 then (sX3_finding 3 s.2.2.2.2.2.2).bind fun q4 => some (.inr (q4.1, q4.2)) else ((sX3_safe_92 s.1 s.2.1 s.2.2.1 s.2.2.2.2.2.2).map fun w => (Sum.inr w)) else (sX3_draftFitsAs s.2.2.2.2.2.1 s.2.2.2.2.2.2).bind fun q5 => (sX3_safe_56 s.1 s.2.1 s.2.2.1 s.2.2.2.1 s.2.2.2.2.1 s.2.2.2.2.2.1 q5.1 q5.2)
noncomputable def sX3_safe_43 (y1 : Int32) (y2 : Int32) (y3 : Int64) (y5 : Int32) (y6 : Int32) (y7 : Int32) (z : mm_S) : Option (Int32 × mm_S) := mm_wh (lX3_safe_43 ) mm_fu (y1, y2, y3, y5, y6, y7, z)
noncomputable def sX3_safe_40 (y1 : Int32) (y2 : Int32) (y3 : Int64) (y5 : Int32) (y6 : Int32) (z : mm_S) : Option (Int32 × mm_S) := (sX3_safe_43 y1 y2 y3 y5 y6 0 z)
noncomputable def sX3_safe_31 (y1 : Int32) (y2 : Int32) (y3 : Int64) (z : mm_S) : Option (Int32 × mm_S) := (sX3_beginMaps  z).bind fun q3 => (sX3_safe_40 y1 y2 y3 0 q3.1 q3.2)
noncomputable def sX3_safe_20 (y1 : Int32) (y2 : Int32) (z : mm_S) : Option (Int32 × mm_S) := (sX3_safe_31 y1 y2 (pX1_dryCells 2 z) z)
noncomputable def sX3_safe_11 (y1 : Int32) (y2 : Int32) (w0 : Int32) (z : mm_S) : Option (Int32 × mm_S) := if w0 = 0 then (sX3_finding 0 z).bind fun q2 => some (q2.1, q2.2) else (sX3_safe_20 y1 y2 z)
noncomputable def sX3_safe_4 (y1 : Int32) (y2 : Int32) (w0 : Int32) (z : mm_S) : Option (Int32 × mm_S) := if w0 = 0 then (sX3_finding 0 z).bind fun q1 => some (q1.1, q1.2) else (sX3_safe_11 y1 y2 (pX3_isCell y2) z)
noncomputable def sX3_safe_0 (x1 : Int32) (x2 : Int32) (z : mm_S) : Option (Int32 × mm_S) := (sX3_safe_4 x1 x2 (pX3_isCell x1) z)
noncomputable def sX3_safe (x1 : Int32) (x2 : Int32) (z : mm_S) : Option (Int32 × mm_S) := sX3_safe_0 x1 x2 z
noncomputable def sX3_ways_25 (y1 : Int32) (y2 : Int64) (z : mm_S) : Option (Int64 × mm_S) := (sX3_flood ((pX3_setOf y1) &&& y2) y2 z).bind fun q2 => some (q2.1, q2.2)
noncomputable def sX3_ways_14 (y1 : Int32) (z : mm_S) : Option (Int64 × mm_S) := (sX3_ways_25 y1 (pX1_dryCells 2 z) z)
noncomputable def sX3_ways_4 (y1 : Int32) (w0 : Int32) (z : mm_S) : Option (Int64 × mm_S) := if w0 = 0 then (sX3_finding 0 z).bind fun q1 => some ((Int32.toInt64 q1.1), q1.2) else (sX3_ways_14 y1 z)
noncomputable def sX3_ways_0 (x1 : Int32) (z : mm_S) : Option (Int64 × mm_S) := (sX3_ways_4 x1 (pX3_isCell x1) z)
noncomputable def sX3_ways (x1 : Int32) (z : mm_S) : Option (Int64 × mm_S) := sX3_ways_0 x1 z
noncomputable def sX3_years_51 (y1 : Int32) (y2 : Int32) (z : mm_S) : Option ((Int32 × Int32 × mm_S) ⊕ (Int32 × mm_S)) := some (.inl (y1, (y2 + 1), z))
noncomputable def lX3_years_39 (s : Int32 × Int32 × mm_S) : Option ((Int32 × Int32 × mm_S) ⊕ (Int32 × mm_S)) := if s.1 ≤ s.2.1 then some (.inr ((pX0_holes 1 s.2.2), s.2.2)) else let u3 := (tX0_goOneYear 1 s.2.2); (sX3_years_51 s.1 s.2.1 u3)
noncomputable def sX3_years_39 (y1 : Int32) (y2 : Int32) (z : mm_S) : Option (Int32 × mm_S) := mm_wh (lX3_years_39 ) mm_fu (y1, y2, z)
noncomputable def sX3_years_37 (y1 : Int32) (z : mm_S) : Option (Int32 × mm_S) := (sX3_years_39 y1 0 z)
noncomputable def sX3_years_16 (y1 : Int32) (z : mm_S) : Option (Int32 × mm_S) := if ((z.1 1 12) + y1) ≤ 999 then (sX3_years_37 y1 z) else (sX3_finding 4 z).bind fun q2 => some (q2.1, q2.2)
noncomputable def sX3_years_7 (y1 : Int32) (w0 : Int32) (z : mm_S) : Option (Int32 × mm_S) := if w0 = 0 then (sX3_finding 0 z).bind fun q1 => some (q1.1, q1.2) else (sX3_years_16 y1 z)
noncomputable def sX3_years_0 (x1 : Int32) (z : mm_S) : Option (Int32 × mm_S) := (sX3_years_7 x1 (pX3_lies x1 1 60) z)
noncomputable def sX3_years (x1 : Int32) (z : mm_S) : Option (Int32 × mm_S) := sX3_years_0 x1 z
noncomputable def sX3_ahead_71 (y1 : Int32) (y2 : Int32) (y3 : Int32) (z : mm_S) : Option ((Int32 × Int32 × Int32 × mm_S) ⊕ (Int32 × mm_S)) := some (.inl (y1, y2, (y3 + 1), z))
noncomputable def lX3_ahead_59 (s : Int32 × Int32 × Int32 × mm_S) : Option ((Int32 × Int32 × Int32 × mm_S) ⊕ (Int32 × mm_S)) := if s.1 ≤ s.2.2.1 then if s.2.1 = 0 then some (.inr ((pX0_holes 25 s.2.2.2), s.2.2.2)) else if s.2.1 = 1 then (sX0_silentCells 25 s.2.2.2).bind fun q6 => some (.inr ((pJ13_bitCount_95d88 q6.1), q6.2)) else (sX1_timeBetween 26 0 35 s.2.2.2).bind fun q5 => some (.inr (q5.1, q5.2)) else let u7 := (tX0_goOneYear 25 s.2.2.2); (sX3_ahead_71 s.1 s.2.1 s.2.2.1 u7)
noncomputable def sX3_ahead_59 (y1 : Int32) (y2 : Int32) (y3 : Int32) (z : mm_S) : Option (Int32 × mm_S) := mm_wh (lX3_ahead_59 ) mm_fu (y1, y2, y3, z)
noncomputable def sX3_ahead_57 (y1 : Int32) (y2 : Int32) (z : mm_S) : Option (Int32 × mm_S) := (sX3_ahead_59 y1 y2 0 z)
noncomputable def sX3_ahead_46 (y1 : Int32) (y2 : Int32) (z : mm_S) : Option (Int32 × mm_S) := let u4 := (tX0_become 25 1 z); (sX3_ahead_57 y1 y2 u4)
noncomputable def sX3_ahead_25 (y1 : Int32) (y2 : Int32) (z : mm_S) : Option (Int32 × mm_S) := if ((z.1 1 12) + y1) ≤ 999 then (sX3_ahead_46 y1 y2 z) else (sX3_finding 4 z).bind fun q3 => some (q3.1, q3.2)
noncomputable def sX3_ahead_16 (y1 : Int32) (y2 : Int32) (w0 : Int32) (z : mm_S) : Option (Int32 × mm_S) := if w0 = 0 then (sX3_finding 0 z).bind fun q2 => some (q2.1, q2.2) else (sX3_ahead_25 y1 y2 z)
noncomputable def sX3_ahead_7 (y1 : Int32) (y2 : Int32) (w0 : Int32) (z : mm_S) : Option (Int32 × mm_S) := if w0 = 0 then (sX3_finding 0 z).bind fun q1 => some (q1.1, q1.2) else (sX3_ahead_16 y1 y2 (pX3_lies y2 0 2) z)
noncomputable def sX3_ahead_0 (x1 : Int32) (x2 : Int32) (z : mm_S) : Option (Int32 × mm_S) := (sX3_ahead_7 x1 x2 (pX3_lies x1 0 60) z)
noncomputable def sX3_ahead (x1 : Int32) (x2 : Int32) (z : mm_S) : Option (Int32 × mm_S) := sX3_ahead_0 x1 x2 z
noncomputable def sX3_when_94 (y4 : Int32) (z : mm_S) : Option (Int32 × mm_S) := some (y4, z)
noncomputable def sX3_when_90 (y1 : Int32) (y2 : Int32) (y3 : Int32) (y4 : Int32) (w0 : Int32) (z : mm_S) : Option ((Int32 × Int32 × Int32 × Int32 × mm_S) ⊕ (Int32 × mm_S)) := if w0 = y3 then some (.inl (y1, y2, y3, (y4 + 1), z)) else ((sX3_when_94 y4 z).map fun w => (Sum.inr w))
noncomputable def sX3_when_81 (y1 : Int32) (y2 : Int32) (y3 : Int32) (y4 : Int32) (z : mm_S) : Option ((Int32 × Int32 × Int32 × Int32 × mm_S) ⊕ (Int32 × mm_S)) := (sX0_heardAt 25 y1 y2 z).bind fun q8 => (sX3_when_90 y1 y2 y3 y4 q8.1 q8.2)
noncomputable def lX3_when_67 (s : Int32 × Int32 × Int32 × Int32 × mm_S) : Option ((Int32 × Int32 × Int32 × Int32 × mm_S) ⊕ (Int32 × mm_S)) := if 60 < s.2.2.2.1 then (sX3_finding 3 s.2.2.2.2).bind fun q6 => some (.inr (q6.1, q6.2)) else let u7 := (tX0_goOneYear 25 s.2.2.2.2); (sX3_when_81 s.1 s.2.1 s.2.2.1 s.2.2.2.1 u7)
noncomputable def sX3_when_67 (y1 : Int32) (y2 : Int32) (y3 : Int32) (y4 : Int32) (z : mm_S) : Option (Int32 × mm_S) := mm_wh (lX3_when_67 ) mm_fu (y1, y2, y3, y4, z)
noncomputable def sX3_when_64 (y1 : Int32) (y2 : Int32) (y3 : Int32) (z : mm_S) : Option (Int32 × mm_S) := (sX3_when_67 y1 y2 y3 1 z)
noncomputable def sX3_when_53 (y1 : Int32) (y2 : Int32) (y3 : Int32) (z : mm_S) : Option (Int32 × mm_S) := let u5 := (tX0_become 25 1 z); (sX3_when_64 y1 y2 y3 u5)
noncomputable def sX3_when_43 (y1 : Int32) (y2 : Int32) (z : mm_S) : Option (Int32 × mm_S) := (sX0_heardAt 1 y1 y2 z).bind fun q4 => (sX3_when_53 y1 y2 q4.1 q4.2)
noncomputable def sX3_when_21 (y1 : Int32) (y2 : Int32) (z : mm_S) : Option (Int32 × mm_S) := if ((z.1 1 12) + 60) ≤ 999 then (sX3_when_43 y1 y2 z) else (sX3_finding 4 z).bind fun q3 => some (q3.1, q3.2)
noncomputable def sX3_when_12 (y1 : Int32) (y2 : Int32) (w0 : Int32) (z : mm_S) : Option (Int32 × mm_S) := if w0 = 0 then (sX3_finding 0 z).bind fun q2 => some (q2.1, q2.2) else (sX3_when_21 y1 y2 z)
noncomputable def sX3_when_5 (y1 : Int32) (y2 : Int32) (w0 : Int32) (z : mm_S) : Option (Int32 × mm_S) := if w0 = 0 then (sX3_finding 0 z).bind fun q1 => some (q1.1, q1.2) else (sX3_when_12 y1 y2 (pX3_isCell y2) z)
noncomputable def sX3_when_0 (x1 : Int32) (x2 : Int32) (z : mm_S) : Option (Int32 × mm_S) := (sX3_when_5 x1 x2 (pX3_isCrew x1 z) z)
noncomputable def sX3_when (x1 : Int32) (x2 : Int32) (z : mm_S) : Option (Int32 × mm_S) := sX3_when_0 x1 x2 z
noncomputable def sX3_seed_16 (y2 : Int32) (z : mm_S) : Option (Int32 × mm_S) := some (y2, z)
noncomputable def sX3_seed_0 (x1 : Int32) (z : mm_S) : Option (Int32 × mm_S) := (sX3_seed_16 (z.1 1 13) ((mm_ui z.1 1 13 x1), z.2))
noncomputable def sX3_seed (x1 : Int32) (z : mm_S) : Option (Int32 × mm_S) := sX3_seed_0 x1 z
noncomputable def lX3_feed_39 (s : Int32 × Int32 × mm_S) : Option ((Int32 × Int32 × mm_S) ⊕ (Int32 × mm_S)) := if s.2.1 < 0 then some (.inr ((s.2.2.1 37 1), s.2.2)) else (sX2_add ((Int32.toUInt32 s.1 >>> (Int32.toUInt32 (8 * s.2.1) &&& Int32.toUInt32 31)).toInt32 &&& 255) s.2.2).bind fun q3 => let v4 : Int32 := (s.2.1 + Int32.ofInt (-1)); some (.inl (s.1, v4, q3))
noncomputable def sX3_feed_39 (y1 : Int32) (y3 : Int32) (z : mm_S) : Option (Int32 × mm_S) := mm_wh (lX3_feed_39 ) mm_fu (y1, y3, z)
noncomputable def sX3_feed_35 (y1 : Int32) (y2 : Int32) (z : mm_S) : Option (Int32 × mm_S) := (sX3_feed_39 y1 (y2 - 1) z)
noncomputable def sX3_feed_15 (y1 : Int32) (y2 : Int32) (z : mm_S) : Option (Int32 × mm_S) := if ((z.1 37 1) + y2) ≤ 120 then (sX3_feed_35 y1 y2 z) else (sX3_finding 1 z).bind fun q2 => some (q2.1, q2.2)
noncomputable def sX3_feed_6 (y1 : Int32) (y2 : Int32) (w0 : Int32) (z : mm_S) : Option (Int32 × mm_S) := if w0 = 0 then (sX3_finding 0 z).bind fun q1 => some (q1.1, q1.2) else (sX3_feed_15 y1 y2 z)
noncomputable def sX3_feed_0 (x1 : Int32) (x2 : Int32) (z : mm_S) : Option (Int32 × mm_S) := (sX3_feed_6 x1 x2 (pX3_lies x2 1 4) z)
noncomputable def sX3_feed (x1 : Int32) (x2 : Int32) (z : mm_S) : Option (Int32 × mm_S) := sX3_feed_0 x1 x2 z
noncomputable def sX3_wipe_16 (y1 : Int32) (z : mm_S) : Option (Int32 × mm_S) := some (y1, z)
noncomputable def sX3_wipe_0  (z : mm_S) : Option (Int32 × mm_S) := (sX3_wipe_16 (z.1 37 1) ((mm_ui z.1 37 1 0), z.2))
noncomputable def sX3_wipe  (z : mm_S) : Option (Int32 × mm_S) := sX3_wipe_0  z
noncomputable def sX3_hold_39  (z : mm_S) : Option (Int32 × mm_S) := some (1, z)
noncomputable def sX3_hold_26 (y1 : Int32) (y2 : Int32) (z : mm_S) : Option (Int32 × mm_S) := let u2 := (tX3_exchange 12 y1 y2 z); (sX3_hold_39 u2.2)
noncomputable def sX3_hold_17 (y1 : Int32) (y2 : Int32) (w0 : Int32) (z : mm_S) : Option (Int32 × mm_S) := if w0 = 0 then (sX3_finding 0 z).bind fun q3 => some (q3.1, q3.2) else (sX3_hold_26 y1 y2 z)
noncomputable def sX3_hold_4 (y1 : Int32) (y2 : Int32) (w0 : Int32) (z : mm_S) : Option (Int32 × mm_S) := if w0 = 0 then (sX3_finding 0 z).bind fun q1 => some (q1.1, q1.2) else if y2 = (-1) then (sX3_hold_26 y1 y2 z) else (sX3_hold_17 y1 y2 (pX3_isCrew y2 z) z)
noncomputable def sX3_hold_0 (x1 : Int32) (x2 : Int32) (z : mm_S) : Option (Int32 × mm_S) := (sX3_hold_4 x1 x2 (pX3_isSpot x1) z)
noncomputable def sX3_hold (x1 : Int32) (x2 : Int32) (z : mm_S) : Option (Int32 × mm_S) := sX3_hold_0 x1 x2 z
noncomputable def sX3_isOfKind_30 (y1 : Int32) (y2 : Int32) (y3 : Int32) (z : mm_S) : Option ((Int32 × Int32 × Int32 × mm_S) ⊕ (Int32 × mm_S)) := some (.inl (y1, y2, (y3 + 1), z))
noncomputable def lX3_isOfKind_4 (s : Int32 × Int32 × Int32 × mm_S) : Option ((Int32 × Int32 × Int32 × mm_S) ⊕ (Int32 × mm_S)) := if 7 ≤ s.2.2.1 then some (.inr (0, s.2.2.2)) else if s.2.1 = (-1) then some (.inr (0, s.2.2.2)) else if s.2.1 = s.1 then some (.inr (1, s.2.2.2)) else (sX3_isOfKind_30 s.1 (pX3_at14 47 s.2.1) s.2.2.1 s.2.2.2)
noncomputable def sX3_isOfKind_4 (y1 : Int32) (y2 : Int32) (y3 : Int32) (z : mm_S) : Option (Int32 × mm_S) := mm_wh (lX3_isOfKind_4 ) mm_fu (y1, y2, y3, z)
noncomputable def sX3_isOfKind_0 (x1 : Int32) (x2 : Int32) (z : mm_S) : Option (Int32 × mm_S) := (sX3_isOfKind_4 x2 x1 0 z)
noncomputable def sX3_isOfKind (x1 : Int32) (x2 : Int32) (z : mm_S) : Option (Int32 × mm_S) := sX3_isOfKind_0 x1 x2 z
noncomputable def sX3_as_58 (y3 : Int32) (z : mm_S) : Option (Int32 × mm_S) := some (y3, z)
noncomputable def sX3_as_55 (y3 : Int32) (w0 : Int32) (z : mm_S) : Option (Int32 × mm_S) := if w0 = 0 then (sX3_finding 2 z).bind fun q5 => some (q5.1, q5.2) else (sX3_as_58 y3 z)
noncomputable def sX3_as_43 (y2 : Int32) (y3 : Int32) (z : mm_S) : Option (Int32 × mm_S) := (sX3_isOfKind (pX0_kindOf 1 y3 z) y2 z).bind fun q4 => (sX3_as_55 y3 q4.1 q4.2)
noncomputable def sX3_as_32 (y2 : Int32) (y3 : Int32) (z : mm_S) : Option (Int32 × mm_S) := if y3 = (-1) then (sX3_finding 5 z).bind fun q3 => some (q3.1, q3.2) else (sX3_as_43 y2 y3 z)
noncomputable def sX3_as_20 (y1 : Int32) (y2 : Int32) (z : mm_S) : Option (Int32 × mm_S) := (sX3_as_32 y2 (pX3_at 12 y1 z) z)
noncomputable def sX3_as_11 (y1 : Int32) (y2 : Int32) (w0 : Int32) (z : mm_S) : Option (Int32 × mm_S) := if w0 = 0 then (sX3_finding 0 z).bind fun q2 => some (q2.1, q2.2) else (sX3_as_20 y1 y2 z)
noncomputable def sX3_as_4 (y1 : Int32) (y2 : Int32) (w0 : Int32) (z : mm_S) : Option (Int32 × mm_S) := if w0 = 0 then (sX3_finding 0 z).bind fun q1 => some (q1.1, q1.2) else (sX3_as_11 y1 y2 (pX3_isKind y2) z)
noncomputable def sX3_as_0 (x1 : Int32) (x2 : Int32) (z : mm_S) : Option (Int32 × mm_S) := (sX3_as_4 x1 x2 (pX3_isSpot x1) z)
noncomputable def sX3_as (x1 : Int32) (x2 : Int32) (z : mm_S) : Option (Int32 × mm_S) := sX3_as_0 x1 x2 z
noncomputable def sX3_sheet_116 (y1 : Int32) (y4 : Int32) (y5 : Int32) (z : mm_S) : Option ((Int32 × Int32 × Int32 × mm_S) ⊕ (Int32 × mm_S)) := some (.inl (y1, y4, (y5 + 1), z))
noncomputable def lX3_sheet_93 (s : Int32 × Int32 × Int32 × mm_S) : Option ((Int32 × Int32 × Int32 × mm_S) ⊕ (Int32 × mm_S)) := if s.2.1 ≤ s.2.2.1 then some (.inr (s.2.1, s.2.2.2)) else let u8 := (tX3_exchange 41 ((s.1 * 40) + s.2.2.1) 0 s.2.2.2); (sX3_sheet_116 s.1 s.2.1 s.2.2.1 u8.2)
noncomputable def sX3_sheet_93 (y1 : Int32) (y4 : Int32) (y5 : Int32) (z : mm_S) : Option (Int32 × mm_S) := mm_wh (lX3_sheet_93 ) mm_fu (y1, y4, y5, z)
noncomputable def sX3_sheet_90 (y1 : Int32) (y4 : Int32) (z : mm_S) : Option (Int32 × mm_S) := (sX3_sheet_93 y1 y4 0 z)
noncomputable def sX3_sheet_79 (y1 : Int32) (y4 : Int32) (z : mm_S) : Option (Int32 × mm_S) := let u7 := (tX3_exchange 40 y1 y4 z); (sX3_sheet_90 y1 y4 u7.2)
noncomputable def sX3_sheet_58 (y1 : Int32) (y2 : Int32) (y3 : Int32) (z : mm_S) : Option (Int32 × mm_S) := if y2 = 0 then let u6 := (tX3_exchange 39 y1 y2 z); (sX3_sheet_79 y1 0 u6.2) else let u5 := (tX3_exchange 39 y1 y2 z); (sX3_sheet_79 y1 y3 u5.2)
noncomputable def sX3_sheet_46 (y1 : Int32) (y2 : Int32) (y3 : Int32) (z : mm_S) : Option (Int32 × mm_S) := if y3 ≤ 40 then (sX3_sheet_58 y1 y2 y3 z) else (sX3_finding 0 z).bind fun q4 => some (q4.1, q4.2)
noncomputable def sX3_sheet_35 (y1 : Int32) (y2 : Int32) (y3 : Int32) (z : mm_S) : Option (Int32 × mm_S) := if 0 ≤ y3 then (sX3_sheet_46 y1 y2 y3 z) else (sX3_finding 6 z).bind fun q3 => some (q3.1, q3.2)
noncomputable def sX3_sheet_4 (y1 : Int32) (y2 : Int32) (y3 : Int32) (w0 : Int32) (z : mm_S) : Option (Int32 × mm_S) := if w0 = 0 then (sX3_finding 0 z).bind fun q1 => some (q1.1, q1.2) else if y2 = 0 then (sX3_sheet_35 y1 y2 y3 z) else if y2 = 8 then (sX3_sheet_35 y1 y2 y3 z) else if y2 = 16 then (sX3_sheet_35 y1 y2 y3 z) else if y2 = 32 then (sX3_sheet_35 y1 y2 y3 z) else (sX3_finding 0 z).bind fun q2 => some (q2.1, q2.2)
noncomputable def sX3_sheet_0 (x1 : Int32) (x2 : Int32) (x3 : Int32) (z : mm_S) : Option (Int32 × mm_S) := (sX3_sheet_4 x1 x2 x3 (pX3_isSheet x1) z)
noncomputable def sX3_sheet (x1 : Int32) (x2 : Int32) (x3 : Int32) (z : mm_S) : Option (Int32 × mm_S) := sX3_sheet_0 x1 x2 x3 z
noncomputable def pX3_isMissing (x1 : Int32) (z : mm_S) : Int32 := if (pX3_at 39 x1 z) = 0 then 1 else 0
noncomputable def sX3_write_77  (z : mm_S) : Option (Int32 × mm_S) := some (1, z)
noncomputable def sX3_write_51 (y1 : Int32) (y2 : Int32) (y3 : Int32) (z : mm_S) : Option (Int32 × mm_S) := let u4 := (tX3_exchange 41 ((y1 * 40) + y2) (pX3_lowestBits y3 (pX3_at 39 y1 z)) z); (sX3_write_77 u4.2)
noncomputable def sX3_write_42 (y1 : Int32) (y2 : Int32) (y3 : Int32) (w0 : Int32) (z : mm_S) : Option (Int32 × mm_S) := if w0 = 0 then (sX3_finding 0 z).bind fun q3 => some (q3.1, q3.2) else (sX3_write_51 y1 y2 y3 z)
noncomputable def sX3_write_27 (y1 : Int32) (y2 : Int32) (y3 : Int32) (z : mm_S) : Option (Int32 × mm_S) := (sX3_write_42 y1 y2 y3 (pX3_lies y2 0 ((pX3_at 40 y1 z) - 1)) z)
noncomputable def sX3_write_18 (y1 : Int32) (y2 : Int32) (y3 : Int32) (w0 : Int32) (z : mm_S) : Option (Int32 × mm_S) := if w0 = 0 then (sX3_write_27 y1 y2 y3 z) else (sX3_finding 5 z).bind fun q2 => some (q2.1, q2.2)
noncomputable def sX3_write_13 (y1 : Int32) (y2 : Int32) (y3 : Int32) (z : mm_S) : Option (Int32 × mm_S) := (sX3_write_18 y1 y2 y3 (pX3_isMissing y1 z) z)
noncomputable def sX3_write_4 (y1 : Int32) (y2 : Int32) (y3 : Int32) (w0 : Int32) (z : mm_S) : Option (Int32 × mm_S) := if w0 = 0 then (sX3_finding 0 z).bind fun q1 => some (q1.1, q1.2) else (sX3_write_13 y1 y2 y3 z)
noncomputable def sX3_write_0 (x1 : Int32) (x2 : Int32) (x3 : Int32) (z : mm_S) : Option (Int32 × mm_S) := (sX3_write_4 x1 x2 x3 (pX3_isSheet x1) z)
noncomputable def sX3_write (x1 : Int32) (x2 : Int32) (x3 : Int32) (z : mm_S) : Option (Int32 × mm_S) := sX3_write_0 x1 x2 x3 z
noncomputable def pX3_hasNumbers (x1 : Int32) (x2 : Int32) (x3 : Int32) (z : mm_S) : Int32 := if x2 < 0 then 0 else if x3 < 0 then 0 else if 0 < (lg_cmp ((Int32.toInt64 x2) + (Int32.toInt64 x3)) (Int32.toInt64 (pX3_at 40 x1 z))) then 0 else 1
noncomputable def sX3_copy_122 (y5 : Int32) (z : mm_S) : Option (Int32 × mm_S) := some (y5, z)
noncomputable def sX3_copy_96 (y1 : Int32) (y2 : Int32) (y3 : Int32) (y4 : Int32) (y5 : Int32) (z : mm_S) : Option (Int32 × mm_S) := if (((y1 * 40) + y2) : Int32) < 0 ∨ (((y3 * 40) + y4) : Int32) < 0 ∨ (y5 : Int32) < 0 ∨ lenX 41 < Int32.toNatClampNeg ((y1 * 40) + y2) + Int32.toNatClampNeg y5 ∨ lenX 41 < Int32.toNatClampNeg ((y3 * 40) + y4) + Int32.toNatClampNeg y5 then none else let u8 : mm_S := (mm_cp z.1 41 41 (Int32.toNatClampNeg ((y1 * 40) + y2)) (Int32.toNatClampNeg ((y3 * 40) + y4)) (Int32.toNatClampNeg y5), z.2); (sX3_copy_122 y5 u8)
noncomputable def sX3_copy_87 (y1 : Int32) (y2 : Int32) (y3 : Int32) (y4 : Int32) (y5 : Int32) (w0 : Int32) (z : mm_S) : Option (Int32 × mm_S) := if w0 = 0 then (sX3_finding 0 z).bind fun q7 => some (q7.1, q7.2) else (sX3_copy_96 y1 y2 y3 y4 y5 z)
noncomputable def sX3_copy_75 (y1 : Int32) (y2 : Int32) (y3 : Int32) (y4 : Int32) (y5 : Int32) (w0 : Int32) (z : mm_S) : Option (Int32 × mm_S) := if w0 = 0 then (sX3_finding 0 z).bind fun q6 => some (q6.1, q6.2) else (sX3_copy_87 y1 y2 y3 y4 y5 (pX3_hasNumbers y3 y4 y5 z) z)
noncomputable def sX3_copy_67 (y1 : Int32) (y2 : Int32) (y3 : Int32) (y4 : Int32) (y5 : Int32) (z : mm_S) : Option (Int32 × mm_S) := (sX3_copy_75 y1 y2 y3 y4 y5 (pX3_hasNumbers y1 y2 y5 z) z)
noncomputable def sX3_copy_42 (y1 : Int32) (y2 : Int32) (y3 : Int32) (y4 : Int32) (y5 : Int32) (z : mm_S) : Option (Int32 × mm_S) := if (pX3_at 39 y1 z) = (pX3_at 39 y3 z) then (sX3_copy_67 y1 y2 y3 y4 y5 z) else (sX3_finding 2 z).bind fun q5 => some (q5.1, q5.2)
noncomputable def sX3_copy_33 (y1 : Int32) (y2 : Int32) (y3 : Int32) (y4 : Int32) (y5 : Int32) (w0 : Int32) (z : mm_S) : Option (Int32 × mm_S) := if w0 = 0 then (sX3_copy_42 y1 y2 y3 y4 y5 z) else (sX3_finding 5 z).bind fun q4 => some (q4.1, q4.2)
noncomputable def sX3_copy_25 (y1 : Int32) (y2 : Int32) (y3 : Int32) (y4 : Int32) (y5 : Int32) (w0 : Int32) (z : mm_S) : Option (Int32 × mm_S) := if w0 = 0 then (sX3_copy_33 y1 y2 y3 y4 y5 (pX3_isMissing y3 z) z) else (sX3_finding 5 z).bind fun q3 => some (q3.1, q3.2)
noncomputable def sX3_copy_20 (y1 : Int32) (y2 : Int32) (y3 : Int32) (y4 : Int32) (y5 : Int32) (z : mm_S) : Option (Int32 × mm_S) := (sX3_copy_25 y1 y2 y3 y4 y5 (pX3_isMissing y1 z) z)
noncomputable def sX3_copy_11 (y1 : Int32) (y2 : Int32) (y3 : Int32) (y4 : Int32) (y5 : Int32) (w0 : Int32) (z : mm_S) : Option (Int32 × mm_S) := if w0 = 0 then (sX3_finding 0 z).bind fun q2 => some (q2.1, q2.2) else (sX3_copy_20 y1 y2 y3 y4 y5 z)
noncomputable def sX3_copy_4 (y1 : Int32) (y2 : Int32) (y3 : Int32) (y4 : Int32) (y5 : Int32) (w0 : Int32) (z : mm_S) : Option (Int32 × mm_S) := if w0 = 0 then (sX3_finding 0 z).bind fun q1 => some (q1.1, q1.2) else (sX3_copy_11 y1 y2 y3 y4 y5 (pX3_isSheet y3) z)
noncomputable def sX3_copy_0 (x1 : Int32) (x2 : Int32) (x3 : Int32) (x4 : Int32) (x5 : Int32) (z : mm_S) : Option (Int32 × mm_S) := (sX3_copy_4 x1 x2 x3 x4 x5 (pX3_isSheet x1) z)
noncomputable def sX3_copy (x1 : Int32) (x2 : Int32) (x3 : Int32) (x4 : Int32) (x5 : Int32) (z : mm_S) : Option (Int32 × mm_S) := sX3_copy_0 x1 x2 x3 x4 x5 z
noncomputable def pX3_numberOf (x1 : Int32) (x2 : Int32) (z : mm_S) : Int32 := (pX3_at 41 ((x1 * 40) + x2) z)
noncomputable def sX3_load_79 (y1 : Int32) (y2 : Int32) (y3 : Int32) (z : mm_S) : Option ((Int32 × Int32 × Int32 × mm_S) ⊕ (Int32 × mm_S)) := some (.inl (y1, y2, (y3 + 1), z))
noncomputable def sX3_load_61 (y1 : Int32) (y2 : Int32) (y3 : Int32) (y4 : Int32) (w0 : Int32) (z : mm_S) : Option ((Int32 × Int32 × Int32 × mm_S) ⊕ (Int32 × mm_S)) := if w0 = 0 then some (.inr (y3, z)) else let u3 := (tX1_put 2 y3 y4 z); (sX3_load_79 y1 y2 y3 u3)
noncomputable def sX3_load_56 (y1 : Int32) (y2 : Int32) (y3 : Int32) (y4 : Int32) (z : mm_S) : Option ((Int32 × Int32 × Int32 × mm_S) ⊕ (Int32 × mm_S)) := (sX3_load_61 y1 y2 y3 y4 (pX3_isStuff y4) z)
noncomputable def lX3_load_43 (s : Int32 × Int32 × Int32 × mm_S) : Option ((Int32 × Int32 × Int32 × mm_S) ⊕ (Int32 × mm_S)) := if s.2.1 ≤ s.2.2.1 then some (.inr (s.2.1, s.2.2.2)) else (sX3_load_56 s.1 s.2.1 s.2.2.1 (pX3_numberOf s.1 s.2.2.1 s.2.2.2) s.2.2.2)
noncomputable def sX3_load_43 (y1 : Int32) (y2 : Int32) (y3 : Int32) (z : mm_S) : Option (Int32 × mm_S) := mm_wh (lX3_load_43 ) mm_fu (y1, y2, y3, z)
noncomputable def sX3_load_41 (y1 : Int32) (y2 : Int32) (z : mm_S) : Option (Int32 × mm_S) := (sX3_load_43 y1 y2 0 z)
noncomputable def sX3_load_27 (y1 : Int32) (z : mm_S) : Option (Int32 × mm_S) := (sX3_load_41 y1 (mm_min (pX3_at 40 y1 z) 36) z)
noncomputable def sX3_load_18 (y1 : Int32) (w0 : Int32) (z : mm_S) : Option (Int32 × mm_S) := if w0 = 0 then (sX3_load_27 y1 z) else (sX3_finding 5 z).bind fun q2 => some (q2.1, q2.2)
noncomputable def sX3_load_13 (y1 : Int32) (z : mm_S) : Option (Int32 × mm_S) := (sX3_load_18 y1 (pX3_isMissing y1 z) z)
noncomputable def sX3_load_4 (y1 : Int32) (w0 : Int32) (z : mm_S) : Option (Int32 × mm_S) := if w0 = 0 then (sX3_finding 0 z).bind fun q1 => some (q1.1, q1.2) else (sX3_load_13 y1 z)
noncomputable def sX3_load_0 (x1 : Int32) (z : mm_S) : Option (Int32 × mm_S) := (sX3_load_4 x1 (pX3_isSheet x1) z)
noncomputable def sX3_load (x1 : Int32) (z : mm_S) : Option (Int32 × mm_S) := sX3_load_0 x1 z
noncomputable def lX3_judge_70 (s : Int32 × Int32 × Int32 × mm_S) : Option ((Int32 × Int32 × Int32 × mm_S) ⊕ (Int32 × mm_S)) := if s.2.1 ≤ s.2.2.1 then some (.inr (0, s.2.2.2)) else if (pX3_numberOf s.1 s.2.2.1 s.2.2.2) = (pX3_at 43 s.2.2.1 s.2.2.2) then some (.inl (s.1, s.2.1, (s.2.2.1 + 1), s.2.2.2)) else some (.inr ((1 + s.2.2.1), s.2.2.2))
noncomputable def sX3_judge_70 (y1 : Int32) (y3 : Int32) (y4 : Int32) (z : mm_S) : Option (Int32 × mm_S) := mm_wh (lX3_judge_70 ) mm_fu (y1, y3, y4, z)
noncomputable def sX3_judge_67 (y1 : Int32) (y3 : Int32) (z : mm_S) : Option (Int32 × mm_S) := (sX3_judge_70 y1 y3 0 z)
noncomputable def sX3_judge_53 (y1 : Int32) (z : mm_S) : Option (Int32 × mm_S) := (sX3_judge_67 y1 (mm_min (pX3_at 40 y1 z) 36) z)
noncomputable def sX3_judge_41 (y1 : Int32) (y2 : Int32) (z : mm_S) : Option (Int32 × mm_S) := (sX0_fillHeard 1 y2 43 z).bind fun q4 => (sX3_judge_53 y1 q4)
noncomputable def sX3_judge_32 (y1 : Int32) (y2 : Int32) (w0 : Int32) (z : mm_S) : Option (Int32 × mm_S) := if w0 = 0 then (sX3_finding 0 z).bind fun q3 => some (q3.1, q3.2) else (sX3_judge_41 y1 y2 z)
noncomputable def sX3_judge_27 (y1 : Int32) (y2 : Int32) (z : mm_S) : Option (Int32 × mm_S) := (sX3_judge_32 y1 y2 (pX3_isCrew y2 z) z)
noncomputable def sX3_judge_18 (y1 : Int32) (y2 : Int32) (w0 : Int32) (z : mm_S) : Option (Int32 × mm_S) := if w0 = 0 then (sX3_judge_27 y1 y2 z) else (sX3_finding 5 z).bind fun q2 => some (q2.1, q2.2)
noncomputable def sX3_judge_13 (y1 : Int32) (y2 : Int32) (z : mm_S) : Option (Int32 × mm_S) := (sX3_judge_18 y1 y2 (pX3_isMissing y1 z) z)
noncomputable def sX3_judge_4 (y1 : Int32) (y2 : Int32) (w0 : Int32) (z : mm_S) : Option (Int32 × mm_S) := if w0 = 0 then (sX3_finding 0 z).bind fun q1 => some (q1.1, q1.2) else (sX3_judge_13 y1 y2 z)
noncomputable def sX3_judge_0 (x1 : Int32) (x2 : Int32) (z : mm_S) : Option (Int32 × mm_S) := (sX3_judge_4 x1 x2 (pX3_isSheet x1) z)
noncomputable def sX3_judge (x1 : Int32) (x2 : Int32) (z : mm_S) : Option (Int32 × mm_S) := sX3_judge_0 x1 x2 z
noncomputable def sX3_image_16  (z : mm_S) : Option (Int32 × mm_S) := some (1, z)
noncomputable def sX3_image_11  (z : mm_S) : Option (Int32 × mm_S) := (sX3_image_16 ((mm_ui z.1 0 2 1), z.2))
noncomputable def sX3_image_0  (z : mm_S) : Option (Int32 × mm_S) := let u1 := (tX0_become 13 1 z); (sX3_image_11 u1)
noncomputable def sX3_image  (z : mm_S) : Option (Int32 × mm_S) := sX3_image_0  z
noncomputable def sX3_undo_24  (z : mm_S) : Option (Int32 × mm_S) := some ((z.1 1 12), z)
noncomputable def sX3_undo_13  (z : mm_S) : Option (Int32 × mm_S) := let u2 := (tX0_become 1 13 z); (sX3_undo_24 u2)
noncomputable def sX3_undo_0  (z : mm_S) : Option (Int32 × mm_S) := if (z.1 0 2) = 0 then (sX3_finding 3 z).bind fun q1 => some (q1.1, q1.2) else (sX3_undo_13 z)
noncomputable def sX3_undo  (z : mm_S) : Option (Int32 × mm_S) := sX3_undo_0  z
noncomputable def sX3_tear_18 (y1 : Int32) (z : mm_S) : Option (Int32 × mm_S) := some (y1, z)
noncomputable def sX3_tear_0  (z : mm_S) : Option (Int32 × mm_S) := if (z.1 0 2) = 0 then (sX3_tear_18 0 ((mm_ui z.1 0 2 0), z.2)) else (sX3_tear_18 1 ((mm_ui z.1 0 2 0), z.2))
noncomputable def sX3_tear  (z : mm_S) : Option (Int32 × mm_S) := sX3_tear_0  z
noncomputable def sX3_count_0 (x1 : Int32) (z : mm_S) : Option (Int32 × mm_S) := if x1 = 0 then some ((z.1 1 12), z) else if x1 = 1 then some ((z.1 1 4), z) else if x1 = 2 then some ((pX0_holes 1 z), z) else if x1 = 3 then some ((z.1 1 10), z) else if x1 = 4 then some ((z.1 1 6), z) else if x1 = 5 then some ((z.1 37 1), z) else if x1 = 6 then some ((z.1 1 13), z) else if x1 = 7 then some ((pX0_heldSpots 1 z), z) else (sX3_finding 0 z).bind fun q1 => some (q1.1, q1.2)
noncomputable def sX3_count (x1 : Int32) (z : mm_S) : Option (Int32 × mm_S) := sX3_count_0 x1 z
noncomputable def lX3_status_33 (s : Int32 × Int32 × mm_S) : Option ((Int32 × Int32 × mm_S) ⊕ (Int32 × mm_S)) := if 7 ≤ s.2.1 then some (.inr (s.1, s.2.2)) else some (.inl ((s.1 + (pX3_at 42 s.2.1 s.2.2)), (s.2.1 + 1), s.2.2))
noncomputable def sX3_status_33 (y2 : Int32) (y3 : Int32) (z : mm_S) : Option (Int32 × mm_S) := mm_wh (lX3_status_33 ) mm_fu (y2, y3, z)
noncomputable def sX3_status_16 (y1 : Int32) (z : mm_S) : Option (Int32 × mm_S) := if y1 < 0 then (sX3_status_33 0 0 z) else some ((pX3_at 42 y1 z), z)
noncomputable def sX3_status_7 (y1 : Int32) (w0 : Int32) (z : mm_S) : Option (Int32 × mm_S) := if w0 = 0 then (sX3_finding 0 z).bind fun q1 => some (q1.1, q1.2) else (sX3_status_16 y1 z)
noncomputable def sX3_status_0 (x1 : Int32) (z : mm_S) : Option (Int32 × mm_S) := (sX3_status_7 x1 (pX3_lies x1 (-1) 6) z)
noncomputable def sX3_status (x1 : Int32) (z : mm_S) : Option (Int32 × mm_S) := sX3_status_0 x1 z
noncomputable def sX4_burn_0  (z : mm_S) : Option (Int32 × mm_S) := (sX4_become 2 0 z).bind fun q1 => some (q1.1, q1.2)
noncomputable def sX4_burn  (z : mm_S) : Option (Int32 × mm_S) := sX4_burn_0  z
noncomputable def sX4_firstWrong_61 (y1 : Int32) (z : mm_S) : Option ((Int32 × mm_S) ⊕ (Int32 × mm_S)) := some (.inl ((y1 + 1), z))
noncomputable def lX4_firstWrong_2 (s : Int32 × mm_S) : Option ((Int32 × mm_S) ⊕ (Int32 × mm_S)) := if (s.2.1 1 2) ≤ s.1 then some (.inr (s.1, s.2)) else if (73 + (3 * s.1)) < 0 ∨ 97 ≤ Int32.toNatClampNeg (73 + (3 * s.1)) then none else if ((73 + (3 * s.1)) + 1) < 0 ∨ 97 ≤ Int32.toNatClampNeg ((73 + (3 * s.1)) + 1) then none else (sX4_timeOf (s.2.1 1 (Int32.toNatClampNeg (73 + (3 * s.1)))) (s.2.1 1 (Int32.toNatClampNeg ((73 + (3 * s.1)) + 1))) s.2).bind fun q1 => if ((73 + (3 * s.1)) + 2) < 0 ∨ 97 ≤ Int32.toNatClampNeg ((73 + (3 * s.1)) + 2) then none else if (mm_min 99 q1.1) = (q1.2.1 1 (Int32.toNatClampNeg ((73 + (3 * s.1)) + 2))) then (sX4_firstWrong_61 s.1 q1.2) else some (.inr (s.1, q1.2))
noncomputable def sX4_firstWrong_2 (y1 : Int32) (z : mm_S) : Option (Int32 × mm_S) := mm_wh (lX4_firstWrong_2 ) mm_fu (y1, z)
noncomputable def sX4_firstWrong_0  (z : mm_S) : Option (Int32 × mm_S) := (sX4_firstWrong_2 0 z)
noncomputable def sX4_firstWrong  (z : mm_S) : Option (Int32 × mm_S) := sX4_firstWrong_0  z
noncomputable def sX4_doesFit_13  (z : mm_S) : Option (Int32 × mm_S) := some (1, z)
noncomputable def sX4_doesFit_0  (z : mm_S) : Option (Int32 × mm_S) := (sX4_firstWrong  z).bind fun q1 => if q1.1 = (q1.2.1 1 2) then (sX4_doesFit_13 q1.2) else some (0, q1.2)
noncomputable def sX4_doesFit  (z : mm_S) : Option (Int32 × mm_S) := sX4_doesFit_0  z
noncomputable def sX4_wrong_7  (z : mm_S) : Option (Int32 × mm_S) := (sX4_finding (-1000004) z).bind fun q3 => some (q3.1, q3.2)
noncomputable def sX4_wrong_16  (z : mm_S) : Option (Int32 × mm_S) := (sX4_firstWrong  z).bind fun q2 => some (q2.1, q2.2)
noncomputable def sX4_wrong_0  (z : mm_S) : Option (Int32 × mm_S) := (sX4_doesFit  z).bind fun q1 => if q1.1 = 0 then (sX4_wrong_16 q1.2) else (sX4_wrong_7 q1.2)
noncomputable def sX4_wrong  (z : mm_S) : Option (Int32 × mm_S) := sX4_wrong_0  z
noncomputable def lX4_maps_4 (s : Int32 × Int32 × mm_S) : Option ((Int32 × Int32 × mm_S) ⊕ (Int32 × mm_S)) := if (s.2.2.1 1 3) ≤ s.2.1 then some (.inr (s.1, s.2.2)) else some (.inl ((s.1 * 5), (s.2.1 + 1), s.2.2))
noncomputable def sX4_maps_4 (y1 : Int32) (y2 : Int32) (z : mm_S) : Option (Int32 × mm_S) := mm_wh (lX4_maps_4 ) mm_fu (y1, y2, z)
noncomputable def sX4_maps_0  (z : mm_S) : Option (Int32 × mm_S) := (sX4_maps_4 1 0 z)
noncomputable def sX4_maps  (z : mm_S) : Option (Int32 × mm_S) := sX4_maps_0  z
noncomputable def lX4_mapNow_11 (s : Int32 × Int32 × mm_S) : Option ((Int32 × Int32 × mm_S) ⊕ (Int32 × mm_S)) := if s.2.1 < 0 then some (.inr (s.1, s.2.2)) else if (69 + s.2.1) < 0 ∨ 97 ≤ Int32.toNatClampNeg (69 + s.2.1) then none else (sX4_stuffIs (s.2.2.1 1 (Int32.toNatClampNeg (69 + s.2.1))) s.2.2).bind fun q1 => let v2 : Int32 := (s.2.1 + (-1)); some (.inl (((5 * s.1) + q1.1), v2, q1.2))
noncomputable def sX4_mapNow_11 (y1 : Int32) (y2 : Int32) (z : mm_S) : Option (Int32 × mm_S) := mm_wh (lX4_mapNow_11 ) mm_fu (y1, y2, z)
noncomputable def sX4_mapNow_0  (z : mm_S) : Option (Int32 × mm_S) := (sX4_mapNow_11 0 ((z.1 1 3) - 1) z)
noncomputable def sX4_mapNow  (z : mm_S) : Option (Int32 × mm_S) := sX4_mapNow_0  z
noncomputable def sX4_lay_34 (y2 : Int32) (y3 : Int32) (z : mm_S) : Option ((Int32 × Int32 × mm_S) ⊕ (mm_S)) := some (.inl ((y2 / 5), (y3 + 1), z))
noncomputable def lX4_lay_4 (s : Int32 × Int32 × mm_S) : Option ((Int32 × Int32 × mm_S) ⊕ (mm_S)) := if (s.2.2.1 1 3) ≤ s.2.1 then some (.inr (s.2.2)) else if (69 + s.2.1) < 0 ∨ 97 ≤ Int32.toNatClampNeg (69 + s.2.1) then none else if (15 + (s.2.2.1 1 (Int32.toNatClampNeg (69 + s.2.1)))) < 0 ∨ 97 ≤ Int32.toNatClampNeg (15 + (s.2.2.1 1 (Int32.toNatClampNeg (69 + s.2.1)))) then none else let u1 : mm_S := ((mm_ui s.2.2.1 1 (Int32.toNatClampNeg (15 + (s.2.2.1 1 (Int32.toNatClampNeg (69 + s.2.1))))) (s.1 - s.1 / 5 * 5)), s.2.2.2); (sX4_lay_34 s.1 s.2.1 u1)
noncomputable def sX4_lay_4 (y2 : Int32) (y3 : Int32) (z : mm_S) : Option (mm_S) := mm_wh (lX4_lay_4 ) mm_fu (y2, y3, z)
noncomputable def sX4_lay_0 (x1 : Int32) (z : mm_S) : Option (mm_S) := (sX4_lay_4 x1 0 z)
noncomputable def sX4_lay (x1 : Int32) (z : mm_S) : Option (mm_S) := sX4_lay_0 x1 z
noncomputable def sX4_nextFit_26 (y2 : Int32) (y3 : Int32) (z : mm_S) : Option ((Int32 × Int32 × mm_S) ⊕ (Int32 × mm_S)) := if y3 = 0 then some (.inl ((y2 + 1), y3, z)) else some (.inl ((y2 + 0), y3, z))
noncomputable def sX4_nextFit_21 (y2 : Int32) (z : mm_S) : Option ((Int32 × Int32 × mm_S) ⊕ (Int32 × mm_S)) := (sX4_doesFit  z).bind fun q3 => (sX4_nextFit_26 y2 q3.1 q3.2)
noncomputable def sX4_nextFit_12 (y2 : Int32) (y3 : Int32) (z : mm_S) : Option ((Int32 × Int32 × mm_S) ⊕ (Int32 × mm_S)) := if y3 = 0 then (sX4_lay y2 z).bind fun q2 => (sX4_nextFit_21 y2 q2) else some (.inr (y2, z))
noncomputable def lX4_nextFit_4 (s : Int32 × Int32 × mm_S) : Option ((Int32 × Int32 × mm_S) ⊕ (Int32 × mm_S)) := (sX4_maps  s.2.2).bind fun q1 => if q1.1 ≤ s.1 then some (.inr (s.1, q1.2)) else (sX4_nextFit_12 s.1 s.2.1 q1.2)
noncomputable def sX4_nextFit_4 (y2 : Int32) (y3 : Int32) (z : mm_S) : Option (Int32 × mm_S) := mm_wh (lX4_nextFit_4 ) mm_fu (y2, y3, z)
noncomputable def sX4_nextFit_0 (x1 : Int32) (z : mm_S) : Option (Int32 × mm_S) := (sX4_nextFit_4 x1 0 z)
noncomputable def sX4_nextFit (x1 : Int32) (z : mm_S) : Option (Int32 × mm_S) := sX4_nextFit_0 x1 z
noncomputable def sX4_goThrough_41 (y1 : Int32) (y2 : Int32) (y3 : Int32) (z : mm_S) : Option ((Int32 × Int32 × Int32 × mm_S) ⊕ (mm_S)) := some (.inl (y1, y2, (y3 + 1), z))
noncomputable def sX4_goThrough_164 (y1 : Int32) (y2 : Int32) (y3 : Int32) (y4 : Int32) (y5 : Int32) (y6 : Int32) (z : mm_S) : Option ((Int32 × Int32 × Int32 × Int32 × Int32 × Int32 × mm_S) ⊕ ((Int32 × Int32 × Int32 × mm_S) ⊕ (mm_S))) := some (.inl (y1, y2, y3, y4, (y5 / 5), (y6 + 1), z))
noncomputable def sX4_goThrough_131 (y1 : Int32) (y2 : Int32) (y3 : Int32) (y4 : Int32) (y5 : Int32) (y6 : Int32) (y7 : Int32) (z : mm_S) : Option ((Int32 × Int32 × Int32 × Int32 × Int32 × Int32 × mm_S) ⊕ ((Int32 × Int32 × Int32 × mm_S) ⊕ (mm_S))) := if y7 = (y5 - y5 / 5 * 5) then if y6 < 0 ∨ 4 ≤ Int32.toNatClampNeg y6 then none else if y6 < 0 ∨ 4 ≤ Int32.toNatClampNeg y6 then none else let u9 : mm_S := ((mm_ui z.1 10 (Int32.toNatClampNeg y6) ((z.1 10 (Int32.toNatClampNeg y6)) ||| (1 <<< (y7 &&& 31)))), z.2); (sX4_goThrough_164 y1 y2 y3 (y4 + 0) y5 y6 u9) else if y6 < 0 ∨ 4 ≤ Int32.toNatClampNeg y6 then none else if y6 < 0 ∨ 4 ≤ Int32.toNatClampNeg y6 then none else let u8 : mm_S := ((mm_ui z.1 10 (Int32.toNatClampNeg y6) ((z.1 10 (Int32.toNatClampNeg y6)) ||| (1 <<< (y7 &&& 31)))), z.2); (sX4_goThrough_164 y1 y2 y3 (y4 + 1) y5 y6 u8)
noncomputable def sX4_goThrough_205 (y1 : Int32) (y2 : Int32) (y3 : Int32) (z : mm_S) : Option ((Int32 × Int32 × Int32 × mm_S) ⊕ (mm_S)) := some (.inl (y1, y2, y3, z))
noncomputable def sX4_goThrough_194 (y1 : Int32) (y3 : Int32) (y4 : Int32) (z : mm_S) : Option ((Int32 × Int32 × Int32 × mm_S) ⊕ (mm_S)) := (sX4_nextFit (y3 + 1) z).bind fun q7 => (sX4_goThrough_205 y1 y4 q7.1 q7.2)
noncomputable def lX4_goThrough_104 (s : Int32 × Int32 × Int32 × Int32 × Int32 × Int32 × mm_S) : Option ((Int32 × Int32 × Int32 × Int32 × Int32 × Int32 × mm_S) ⊕ ((Int32 × Int32 × Int32 × mm_S) ⊕ (mm_S))) := if (s.2.2.2.2.2.2.1 1 3) ≤ s.2.2.2.2.2.1 then if (s.2.2.2.2.2.2.1 0 12) < 0 then ((sX4_goThrough_194 s.1 s.2.2.1 s.2.2.2.1 ((mm_ui s.2.2.2.2.2.2.1 0 12 s.2.2.1), s.2.2.2.2.2.2.2)).map fun w => (Sum.inr w)) else if s.2.1 ≤ s.2.2.2.1 then (sX4_nextFit (s.2.2.1 + 1) s.2.2.2.2.2.2).bind fun q5 => ((sX4_goThrough_205 s.1 s.2.1 q5.1 q5.2).map fun w => (Sum.inr w)) else ((sX4_goThrough_194 s.1 s.2.2.1 s.2.2.2.1 ((mm_ui s.2.2.2.2.2.2.1 0 12 s.2.2.1), s.2.2.2.2.2.2.2)).map fun w => (Sum.inr w)) else if (69 + s.2.2.2.2.2.1) < 0 ∨ 97 ≤ Int32.toNatClampNeg (69 + s.2.2.2.2.2.1) then none else (sX4_stuffIs (s.2.2.2.2.2.2.1 1 (Int32.toNatClampNeg (69 + s.2.2.2.2.2.1))) s.2.2.2.2.2.2).bind fun q6 => (sX4_goThrough_131 s.1 s.2.1 s.2.2.1 s.2.2.2.1 s.2.2.2.2.1 s.2.2.2.2.2.1 q6.1 q6.2)
noncomputable def sX4_goThrough_104 (y1 : Int32) (y2 : Int32) (y3 : Int32) (y4 : Int32) (y5 : Int32) (y6 : Int32) (z : mm_S) : Option ((Int32 × Int32 × Int32 × mm_S) ⊕ (mm_S)) := mm_wh (lX4_goThrough_104 ) mm_fu (y1, y2, y3, y4, y5, y6, z)
noncomputable def sX4_goThrough_95 (y1 : Int32) (y2 : Int32) (y3 : Int32) (z : mm_S) : Option ((Int32 × Int32 × Int32 × mm_S) ⊕ (mm_S)) := (sX4_goThrough_104 y1 y2 y3 0 y1 0 z)
noncomputable def sX4_goThrough_90 (y1 : Int32) (y2 : Int32) (y3 : Int32) (z : mm_S) : Option ((Int32 × Int32 × Int32 × mm_S) ⊕ (mm_S)) := (sX4_goThrough_95 y1 y2 y3 ((mm_ui z.1 0 13 y3), z.2))
noncomputable def sX4_goThrough_71 (y1 : Int32) (y2 : Int32) (y3 : Int32) (z : mm_S) : Option ((Int32 × Int32 × Int32 × mm_S) ⊕ (mm_S)) := if 0 ≤ (z.1 0 11) then (sX4_goThrough_90 y1 y2 y3 ((mm_ui z.1 0 11 (z.1 0 11)), z.2)) else (sX4_goThrough_90 y1 y2 y3 ((mm_ui z.1 0 11 y3), z.2))
noncomputable def sX4_goThrough_61 (y1 : Int32) (y2 : Int32) (y3 : Int32) (z : mm_S) : Option ((Int32 × Int32 × Int32 × mm_S) ⊕ (mm_S)) := (sX4_goThrough_71 y1 y2 y3 ((mm_ui z.1 0 10 ((z.1 0 10) + 1)), z.2))
noncomputable def sX4_goThrough_213  (z : mm_S) : Option (mm_S) := some (z)
noncomputable def lX4_goThrough_53 (s : Int32 × Int32 × Int32 × mm_S) : Option ((Int32 × Int32 × Int32 × mm_S) ⊕ (mm_S)) := (sX4_maps  s.2.2.2).bind fun q3 => if q3.1 ≤ s.2.2.1 then (sX4_lay s.1 q3.2).bind fun q4 => ((sX4_goThrough_213 q4).map fun w => (Sum.inr w)) else (sX4_goThrough_61 s.1 s.2.1 s.2.2.1 q3.2)
noncomputable def sX4_goThrough_53 (y1 : Int32) (y2 : Int32) (y3 : Int32) (z : mm_S) : Option (mm_S) := mm_wh (lX4_goThrough_53 ) mm_fu (y1, y2, y3, z)
noncomputable def lX4_goThrough_29 (s : Int32 × Int32 × Int32 × mm_S) : Option ((Int32 × Int32 × Int32 × mm_S) ⊕ (mm_S)) := if 4 ≤ s.2.2.1 then (sX4_nextFit 0 s.2.2.2).bind fun q2 => ((sX4_goThrough_53 s.1 s.2.1 q2.1 q2.2).map fun w => (Sum.inr w)) else if s.2.2.1 < 0 ∨ 4 ≤ Int32.toNatClampNeg s.2.2.1 then none else (sX4_goThrough_41 s.1 s.2.1 s.2.2.1 ((mm_ui s.2.2.2.1 10 (Int32.toNatClampNeg s.2.2.1) 0), s.2.2.2.2))
noncomputable def sX4_goThrough_29 (y1 : Int32) (y2 : Int32) (y3 : Int32) (z : mm_S) : Option (mm_S) := mm_wh (lX4_goThrough_29 ) mm_fu (y1, y2, y3, z)
noncomputable def sX4_goThrough_25 (y1 : Int32) (z : mm_S) : Option (mm_S) := (sX4_goThrough_29 y1 0 0 z)
noncomputable def sX4_goThrough_20 (y1 : Int32) (z : mm_S) : Option (mm_S) := (sX4_goThrough_25 y1 ((mm_ui z.1 0 13 (-1)), z.2))
noncomputable def sX4_goThrough_15 (y1 : Int32) (z : mm_S) : Option (mm_S) := (sX4_goThrough_20 y1 ((mm_ui z.1 0 12 (-1)), z.2))
noncomputable def sX4_goThrough_10 (y1 : Int32) (z : mm_S) : Option (mm_S) := (sX4_goThrough_15 y1 ((mm_ui z.1 0 11 (-1)), z.2))
noncomputable def sX4_goThrough_5 (y1 : Int32) (z : mm_S) : Option (mm_S) := (sX4_goThrough_10 y1 ((mm_ui z.1 0 10 0), z.2))
noncomputable def sX4_goThrough_0  (z : mm_S) : Option (mm_S) := (sX4_mapNow  z).bind fun q1 => (sX4_goThrough_5 q1.1 q1.2)
noncomputable def sX4_goThrough  (z : mm_S) : Option (mm_S) := sX4_goThrough_0  z
noncomputable def sX4_fits_4  (z : mm_S) : Option (Int32 × mm_S) := some ((z.1 0 10), z)
noncomputable def sX4_fits_0  (z : mm_S) : Option (Int32 × mm_S) := (sX4_goThrough  z).bind fun q1 => (sX4_fits_4 q1)
noncomputable def sX4_fits  (z : mm_S) : Option (Int32 × mm_S) := sX4_fits_0  z
noncomputable def sX4_map_20 (y1 : Int32) (z : mm_S) : Option (Int32 × mm_S) := if y1 = 0 then (sX4_told (z.1 0 11) z).bind fun q5 => some (q5.1, q5.2) else if y1 = 1 then (sX4_told (z.1 0 12) z).bind fun q4 => some (q4.1, q4.2) else (sX4_told (z.1 0 13) z).bind fun q3 => some (q3.1, q3.2)
noncomputable def sX4_map_16 (y1 : Int32) (z : mm_S) : Option (Int32 × mm_S) := (sX4_goThrough  z).bind fun q2 => (sX4_map_20 y1 q2)
noncomputable def sX4_map_0 (x1 : Int32) (z : mm_S) : Option (Int32 × mm_S) := if (pX4_within x1 0 2) = 0 then (sX4_finding (-1000001) z).bind fun q1 => some (q1.1, q1.2) else (sX4_map_16 x1 z)
noncomputable def sX4_map (x1 : Int32) (z : mm_S) : Option (Int32 × mm_S) := sX4_map_0 x1 z
noncomputable def sX4_may_27 (y1 : Int32) (z : mm_S) : Option (Int32 × mm_S) := if y1 < 0 ∨ 4 ≤ Int32.toNatClampNeg y1 then none else some ((z.1 10 (Int32.toNatClampNeg y1)), z)
noncomputable def sX4_may_23 (y1 : Int32) (z : mm_S) : Option (Int32 × mm_S) := (sX4_goThrough  z).bind fun q2 => (sX4_may_27 y1 q2)
noncomputable def sX4_may_0 (x1 : Int32) (z : mm_S) : Option (Int32 × mm_S) := if (pX4_within x1 0 ((z.1 1 3) - 1)) = 0 then (sX4_finding (-1000001) z).bind fun q1 => some (q1.1, q1.2) else (sX4_may_23 x1 z)
noncomputable def sX4_may (x1 : Int32) (z : mm_S) : Option (Int32 × mm_S) := sX4_may_0 x1 z
noncomputable def sX4_lays_14  (z : mm_S) : Option (Int32 × mm_S) := (sX4_finding (-1000001) z).bind fun q3 => some (q3.1, q3.2)
noncomputable def sX4_lays_47 (y2 : Int32) (z : mm_S) : Option (Int32 × mm_S) := some (y2, z)
noncomputable def sX4_lays_42 (y1 : Int32) (y2 : Int32) (z : mm_S) : Option (Int32 × mm_S) := (sX4_lay y1 z).bind fun q5 => (sX4_lays_47 y2 q5)
noncomputable def sX4_lays_37 (y1 : Int32) (z : mm_S) : Option (Int32 × mm_S) := (sX4_mapNow  z).bind fun q4 => (sX4_lays_42 y1 q4.1 q4.2)
noncomputable def sX4_lays_21 (y1 : Int32) (z : mm_S) : Option (Int32 × mm_S) := if (z.1 1 3) = 0 then (sX4_finding (-1000005) z).bind fun q2 => some (q2.1, q2.2) else (sX4_lays_37 y1 z)
noncomputable def sX4_lays_0 (x1 : Int32) (z : mm_S) : Option (Int32 × mm_S) := (sX4_maps  z).bind fun q1 => if (pX4_within x1 0 (q1.1 - 1)) = 0 then (sX4_lays_14 q1.2) else (sX4_lays_21 x1 q1.2)
noncomputable def sX4_lays (x1 : Int32) (z : mm_S) : Option (Int32 × mm_S) := sX4_lays_0 x1 z
noncomputable def sX4_unlike_27 (y1 : Int32) (y2 : Int32) (y3 : Int32) (y4 : Int32) (y5 : Int32) (z : mm_S) : Option ((Int32 × Int32 × Int32 × Int32 × Int32 × mm_S) ⊕ (Int32 × mm_S)) := some (.inl (y1, y2, y3, y4, (y5 + 1), z))
noncomputable def sX4_unlike_106 (y1 : Int32) (y2 : Int32) (y3 : Int32) (y4 : Int32) (y5 : Int32) (z : mm_S) : Option ((Int32 × Int32 × Int32 × Int32 × Int32 × mm_S) ⊕ (Int32 × mm_S)) := some (.inl (y1, y2, y3, y4, y5, z))
noncomputable def sX4_unlike_96 (y1 : Int32) (y2 : Int32) (y3 : Int32) (y4 : Int32) (y5 : Int32) (z : mm_S) : Option ((Int32 × Int32 × Int32 × Int32 × Int32 × mm_S) ⊕ (Int32 × mm_S)) := (sX4_nextFit (y5 + 1) z).bind fun q7 => (sX4_unlike_106 y1 y2 y3 y4 q7.1 q7.2)
noncomputable def sX4_unlike_68 (y1 : Int32) (y2 : Int32) (y3 : Int32) (y4 : Int32) (y5 : Int32) (y6 : Int32) (z : mm_S) : Option ((Int32 × Int32 × Int32 × Int32 × Int32 × mm_S) ⊕ (Int32 × mm_S)) := if y6 < 0 ∨ 300 ≤ Int32.toNatClampNeg y6 then none else if (z.1 11 (Int32.toNatClampNeg y6)) = 0 then if y6 < 0 ∨ 300 ≤ Int32.toNatClampNeg y6 then none else (sX4_unlike_96 y1 y2 y3 (y4 + 1) y5 ((mm_ui z.1 11 (Int32.toNatClampNeg y6) 1), z.2)) else if y6 < 0 ∨ 300 ≤ Int32.toNatClampNeg y6 then none else (sX4_unlike_96 y1 y2 y3 (y4 + 0) y5 ((mm_ui z.1 11 (Int32.toNatClampNeg y6) 1), z.2))
noncomputable def sX4_unlike_49 (y1 : Int32) (y2 : Int32) (y3 : Int32) (y4 : Int32) (y5 : Int32) (z : mm_S) : Option ((Int32 × Int32 × Int32 × Int32 × Int32 × mm_S) ⊕ (Int32 × mm_S)) := (sX4_crewIs y1 1 z).bind fun q5 => (sX4_timeOf q5.1 y2 q5.2).bind fun q6 => (sX4_unlike_68 y1 y2 y3 y4 y5 (mm_min 299 q6.1) q6.2)
noncomputable def sX4_unlike_114 (y4 : Int32) (z : mm_S) : Option (Int32 × mm_S) := some (y4, z)
noncomputable def lX4_unlike_40 (s : Int32 × Int32 × Int32 × Int32 × Int32 × mm_S) : Option ((Int32 × Int32 × Int32 × Int32 × Int32 × mm_S) ⊕ (Int32 × mm_S)) := (sX4_maps  s.2.2.2.2.2).bind fun q3 => if q3.1 ≤ s.2.2.2.2.1 then (sX4_lay s.2.2.1 q3.2).bind fun q4 => ((sX4_unlike_114 s.2.2.2.1 q4).map fun w => (Sum.inr w)) else (sX4_unlike_49 s.1 s.2.1 s.2.2.1 s.2.2.2.1 s.2.2.2.2.1 q3.2)
noncomputable def sX4_unlike_40 (y1 : Int32) (y2 : Int32) (y3 : Int32) (y4 : Int32) (y5 : Int32) (z : mm_S) : Option (Int32 × mm_S) := mm_wh (lX4_unlike_40 ) mm_fu (y1, y2, y3, y4, y5, z)
noncomputable def lX4_unlike_11 (s : Int32 × Int32 × Int32 × Int32 × Int32 × mm_S) : Option ((Int32 × Int32 × Int32 × Int32 × Int32 × mm_S) ⊕ (Int32 × mm_S)) := if 300 ≤ s.2.2.2.2.1 then (sX4_nextFit 0 s.2.2.2.2.2).bind fun q2 => ((sX4_unlike_40 s.1 s.2.1 s.2.2.1 s.2.2.2.1 q2.1 q2.2).map fun w => (Sum.inr w)) else if s.2.2.2.2.1 < 0 ∨ 300 ≤ Int32.toNatClampNeg s.2.2.2.2.1 then none else (sX4_unlike_27 s.1 s.2.1 s.2.2.1 s.2.2.2.1 s.2.2.2.2.1 ((mm_ui s.2.2.2.2.2.1 11 (Int32.toNatClampNeg s.2.2.2.2.1) 0), s.2.2.2.2.2.2))
noncomputable def sX4_unlike_11 (y1 : Int32) (y2 : Int32) (y3 : Int32) (y4 : Int32) (y5 : Int32) (z : mm_S) : Option (Int32 × mm_S) := mm_wh (lX4_unlike_11 ) mm_fu (y1, y2, y3, y4, y5, z)
noncomputable def sX4_unlike_5 (y1 : Int32) (y2 : Int32) (y3 : Int32) (z : mm_S) : Option (Int32 × mm_S) := (sX4_unlike_11 y1 y2 y3 0 0 z)
noncomputable def sX4_unlike_0 (x1 : Int32) (x2 : Int32) (z : mm_S) : Option (Int32 × mm_S) := (sX4_mapNow  z).bind fun q1 => (sX4_unlike_5 x1 x2 q1.1 q1.2)
noncomputable def sX4_unlike (x1 : Int32) (x2 : Int32) (z : mm_S) : Option (Int32 × mm_S) := sX4_unlike_0 x1 x2 z
noncomputable def sX4_asks_41 (y1 : Int32) (y2 : Int32) (y3 : Int32) (y4 : Int32) (y5 : Int32) (z : mm_S) : Option ((Int32 × Int32 × Int32 × Int32 × mm_S) ⊕ (Int32 × mm_S)) := if y5 ≤ y3 then some (.inl (y1, y2, (mm_max y3 y5), (y4 + 1), z)) else some (.inl (y1, y4, (mm_max y3 y5), (y4 + 1), z))
noncomputable def lX4_asks_21 (s : Int32 × Int32 × Int32 × Int32 × mm_S) : Option ((Int32 × Int32 × Int32 × Int32 × mm_S) ⊕ (Int32 × mm_S)) := if (s.2.2.2.2.1 1 1) ≤ s.2.2.2.1 then (sX4_told s.2.1 s.2.2.2.2).bind fun q2 => some (.inr (q2.1, q2.2)) else (sX4_unlike s.2.2.2.1 s.1 s.2.2.2.2).bind fun q3 => (sX4_asks_41 s.1 s.2.1 s.2.2.1 s.2.2.2.1 q3.1 q3.2)
noncomputable def sX4_asks_21 (y1 : Int32) (y2 : Int32) (y3 : Int32) (y4 : Int32) (z : mm_S) : Option (Int32 × mm_S) := mm_wh (lX4_asks_21 ) mm_fu (y1, y2, y3, y4, z)
noncomputable def sX4_asks_14 (y1 : Int32) (z : mm_S) : Option (Int32 × mm_S) := (sX4_asks_21 y1 (-1) 0 0 z)
noncomputable def sX4_asks_0 (x1 : Int32) (z : mm_S) : Option (Int32 × mm_S) := if (pX4_isCell x1) = 0 then (sX4_finding (-1000001) z).bind fun q1 => some (q1.1, q1.2) else (sX4_asks_14 x1 z)
noncomputable def sX4_asks (x1 : Int32) (z : mm_S) : Option (Int32 × mm_S) := sX4_asks_0 x1 z
noncomputable def sX4_dryNow_63 (y1 : Int64) (y3 : Int32) (y5 : Int32) (z : mm_S) : Option ((Int64 × Int32 × Int32 × Int32 × mm_S) ⊕ ((Int64 × Int32 × mm_S) ⊕ (Int64 × mm_S))) := some (.inl (y1, y3, 1, (y5 + 1), z))
noncomputable def lX4_dryNow_29 (s : Int64 × Int32 × Int32 × Int32 × mm_S) : Option ((Int64 × Int32 × Int32 × Int32 × mm_S) ⊕ ((Int64 × Int32 × mm_S) ⊕ (Int64 × mm_S))) := if 4 ≤ s.2.2.2.1 then if s.2.2.1 = 0 then some (.inr (.inl ((s.1 ||| 0), (s.2.1 + 1), s.2.2.2.2))) else let v2 : Int64 := (s.1 ||| (1 <<< (Int32.toInt64 s.2.1 &&& 63))); some (.inr (.inl (v2, (s.2.1 + 1), s.2.2.2.2))) else if s.2.2.1 = 0 then some (.inl (s.1, s.2.1, 0, (s.2.2.2.1 + 1), s.2.2.2.2)) else if (pX4_beside s.2.1 s.2.2.2.1 s.2.2.2.2) < 0 then (sX4_dryNow_63 s.1 s.2.1 s.2.2.2.1 s.2.2.2.2) else (sX4_stuffIs (pX4_beside s.2.1 s.2.2.2.1 s.2.2.2.2) s.2.2.2.2).bind fun q3 => if q3.1 = 3 then some (.inl (s.1, s.2.1, 0, (s.2.2.2.1 + 1), q3.2)) else (sX4_dryNow_63 s.1 s.2.1 s.2.2.2.1 q3.2)
noncomputable def sX4_dryNow_29 (y1 : Int64) (y3 : Int32) (y4 : Int32) (y5 : Int32) (z : mm_S) : Option ((Int64 × Int32 × mm_S) ⊕ (Int64 × mm_S)) := mm_wh (lX4_dryNow_29 ) mm_fu (y1, y3, y4, y5, z)
noncomputable def sX4_dryNow_19 (y1 : Int64) (y3 : Int32) (z : mm_S) : Option ((Int64 × Int32 × mm_S) ⊕ (Int64 × mm_S)) := (sX4_dryNow_29 y1 y3 1 0 z)
noncomputable def lX4_dryNow_4 (s : Int64 × Int32 × mm_S) : Option ((Int64 × Int32 × mm_S) ⊕ (Int64 × mm_S)) := if 36 ≤ s.2.1 then some (.inr (s.1, s.2.2)) else (sX4_stuffIs s.2.1 s.2.2).bind fun q1 => if q1.1 = 3 then (sX4_dryNow_29 s.1 s.2.1 0 0 q1.2) else (sX4_dryNow_19 s.1 s.2.1 q1.2)
noncomputable def sX4_dryNow_4 (y1 : Int64) (y3 : Int32) (z : mm_S) : Option (Int64 × mm_S) := mm_wh (lX4_dryNow_4 ) mm_fu (y1, y3, z)
noncomputable def sX4_dryNow_0  (z : mm_S) : Option (Int64 × mm_S) := (sX4_dryNow_4 0 0 z)
noncomputable def sX4_dryNow  (z : mm_S) : Option (Int64 × mm_S) := sX4_dryNow_0  z
noncomputable def sX4_dryInAll_49 (y1 : Int32) (y2 : Int64) (y4 : Int32) (y5 : Int32) (z : mm_S) : Option ((Int32 × Int64 × Int32 × Int32 × mm_S) ⊕ (Int64 × mm_S)) := some (.inl (y1, y2, y4, y5, z))
noncomputable def sX4_dryInAll_36 (y1 : Int32) (y2 : Int64) (y5 : Int32) (z : mm_S) : Option ((Int32 × Int64 × Int32 × Int32 × mm_S) ⊕ (Int64 × mm_S)) := (sX4_nextFit (y5 + 1) z).bind fun q7 => (sX4_dryInAll_49 y1 y2 1 q7.1 q7.2)
noncomputable def sX4_dryInAll_29 (y1 : Int32) (y2 : Int64) (y5 : Int32) (z : mm_S) : Option ((Int32 × Int64 × Int32 × Int32 × mm_S) ⊕ (Int64 × mm_S)) := (sX4_dryNow  z).bind fun q6 => (sX4_dryInAll_36 y1 (y2 &&& q6.1) y5 q6.2)
noncomputable def sX4_dryInAll_57 (y2 : Int64) (y4 : Int32) (z : mm_S) : Option (Int64 × mm_S) := if y4 = 0 then some (0, z) else some (y2, z)
noncomputable def lX4_dryInAll_20 (s : Int32 × Int64 × Int32 × Int32 × mm_S) : Option ((Int32 × Int64 × Int32 × Int32 × mm_S) ⊕ (Int64 × mm_S)) := (sX4_maps  s.2.2.2.2).bind fun q4 => if q4.1 ≤ s.2.2.2.1 then (sX4_lay s.1 q4.2).bind fun q5 => ((sX4_dryInAll_57 s.2.1 s.2.2.1 q5).map fun w => (Sum.inr w)) else (sX4_dryInAll_29 s.1 s.2.1 s.2.2.2.1 q4.2)
noncomputable def sX4_dryInAll_20 (y1 : Int32) (y2 : Int64) (y4 : Int32) (y5 : Int32) (z : mm_S) : Option (Int64 × mm_S) := mm_wh (lX4_dryInAll_20 ) mm_fu (y1, y2, y4, y5, z)
noncomputable def sX4_dryInAll_10 (y1 : Int32) (y2 : Int64) (z : mm_S) : Option (Int64 × mm_S) := (sX4_nextFit 0 z).bind fun q3 => (sX4_dryInAll_20 y1 y2 0 q3.1 q3.2)
noncomputable def sX4_dryInAll_5 (y1 : Int32) (z : mm_S) : Option (Int64 × mm_S) := (sX4_dryNow  z).bind fun q2 => (sX4_dryInAll_10 y1 q2.1 q2.2)
noncomputable def sX4_dryInAll_0  (z : mm_S) : Option (Int64 × mm_S) := (sX4_mapNow  z).bind fun q1 => (sX4_dryInAll_5 q1.1 q1.2)
noncomputable def sX4_dryInAll  (z : mm_S) : Option (Int64 × mm_S) := sX4_dryInAll_0  z
noncomputable def sX4_costOf_8  (z : mm_S) : Option (Int32 × mm_S) := some (0, z)
noncomputable def sX4_costOf_0 (x1 : Int32) (z : mm_S) : Option (Int32 × mm_S) := (sX4_isHole x1 z).bind fun q1 => if q1.1 = 0 then some (1, q1.2) else (sX4_costOf_8 q1.2)
noncomputable def sX4_costOf (x1 : Int32) (z : mm_S) : Option (Int32 × mm_S) := sX4_costOf_0 x1 z
noncomputable def sX4_findCosts_20 (y1 : Int32) (y2 : Int64) (y4 : Int32) (z : mm_S) : Option ((Int32 × Int64 × Int32 × mm_S) ⊕ (mm_S)) := some (.inl (y1, y2, (y4 + 1), z))
noncomputable def sX4_findCosts_185 (y2 : Int64) (y6 : Int32) (y7 : Int32) (z : mm_S) : Option ((Int64 × Int32 × Int32 × Int32 × mm_S) ⊕ ((Int64 × Int32 × Int32 × mm_S) ⊕ ((Int64 × Int32 × mm_S) ⊕ (mm_S)))) := some (.inl (y2, 1, y6, (y7 + 1), z))
noncomputable def sX4_findCosts_156 (y2 : Int64) (y5 : Int32) (y6 : Int32) (y7 : Int32) (y8 : Int32) (y9 : Int32) (z : mm_S) : Option ((Int64 × Int32 × Int32 × Int32 × mm_S) ⊕ ((Int64 × Int32 × Int32 × mm_S) ⊕ ((Int64 × Int32 × mm_S) ⊕ (mm_S)))) := if 10000 ≤ y9 then some (.inl (y2, y5, y6, (y7 + 1), z)) else if y8 < 0 ∨ 36 ≤ Int32.toNatClampNeg y8 then none else if (z.1 12 (Int32.toNatClampNeg y8)) ≤ y9 then some (.inl (y2, y5, y6, (y7 + 1), z)) else if y8 < 0 ∨ 36 ≤ Int32.toNatClampNeg y8 then none else (sX4_findCosts_185 y2 y6 y7 ((mm_ui z.1 12 (Int32.toNatClampNeg y8) y9), z.2))
noncomputable def lX4_findCosts_90 (s : Int64 × Int32 × Int32 × Int32 × mm_S) : Option ((Int64 × Int32 × Int32 × Int32 × mm_S) ⊕ ((Int64 × Int32 × Int32 × mm_S) ⊕ ((Int64 × Int32 × mm_S) ⊕ (mm_S)))) := if 4 ≤ s.2.2.2.1 then some (.inr (.inl (s.1, s.2.1, (s.2.2.1 + 1), s.2.2.2.2))) else if s.2.2.1 < 0 ∨ 36 ≤ Int32.toNatClampNeg s.2.2.1 then none else if 10000 ≤ (s.2.2.2.2.1 12 (Int32.toNatClampNeg s.2.2.1)) then some (.inr (.inl (s.1, s.2.1, (s.2.2.1 + 1), s.2.2.2.2))) else if (pX4_beside s.2.2.1 s.2.2.2.1 s.2.2.2.2) < 0 then (sX4_findCosts_156 s.1 s.2.1 s.2.2.1 s.2.2.2.1 (pX4_beside s.2.2.1 s.2.2.2.1 s.2.2.2.2) 10000 s.2.2.2.2) else if (lg_cmp ((s.1 >>> (Int32.toInt64 (pX4_beside s.2.2.1 s.2.2.2.1 s.2.2.2.2) &&& 63)) &&& 1) 0) = 0 then (sX4_findCosts_156 s.1 s.2.1 s.2.2.1 s.2.2.2.1 (pX4_beside s.2.2.1 s.2.2.2.1 s.2.2.2.2) 10000 s.2.2.2.2) else if s.2.2.1 < 0 ∨ 36 ≤ Int32.toNatClampNeg s.2.2.1 then none else (sX4_costOf (pX4_beside s.2.2.1 s.2.2.2.1 s.2.2.2.2) s.2.2.2.2).bind fun q2 => let v3 : Int32 := ((s.2.2.2.2.1 12 (Int32.toNatClampNeg s.2.2.1)) + q2.1); (sX4_findCosts_156 s.1 s.2.1 s.2.2.1 s.2.2.2.1 (pX4_beside s.2.2.1 s.2.2.2.1 s.2.2.2.2) v3 q2.2)
noncomputable def sX4_findCosts_90 (y2 : Int64) (y5 : Int32) (y6 : Int32) (y7 : Int32) (z : mm_S) : Option ((Int64 × Int32 × Int32 × mm_S) ⊕ ((Int64 × Int32 × mm_S) ⊕ (mm_S))) := mm_wh (lX4_findCosts_90 ) mm_fu (y2, y5, y6, y7, z)
noncomputable def lX4_findCosts_80 (s : Int64 × Int32 × Int32 × mm_S) : Option ((Int64 × Int32 × Int32 × mm_S) ⊕ ((Int64 × Int32 × mm_S) ⊕ (mm_S))) := if 36 ≤ s.2.2.1 then some (.inr (.inl (s.1, s.2.1, s.2.2.2))) else (sX4_findCosts_90 s.1 s.2.1 s.2.2.1 0 s.2.2.2)
noncomputable def sX4_findCosts_80 (y2 : Int64) (y5 : Int32) (y6 : Int32) (z : mm_S) : Option ((Int64 × Int32 × mm_S) ⊕ (mm_S)) := mm_wh (lX4_findCosts_80 ) mm_fu (y2, y5, y6, z)
noncomputable def lX4_findCosts_69 (s : Int64 × Int32 × mm_S) : Option ((Int64 × Int32 × mm_S) ⊕ (mm_S)) := if s.2.1 = 0 then some (.inr (s.2.2)) else (sX4_findCosts_80 s.1 0 0 s.2.2)
noncomputable def sX4_findCosts_69 (y2 : Int64) (y5 : Int32) (z : mm_S) : Option (mm_S) := mm_wh (lX4_findCosts_69 ) mm_fu (y2, y5, z)
noncomputable def sX4_findCosts_65 (y2 : Int64) (y4 : Int32) (z : mm_S) : Option (mm_S) := (sX4_findCosts_69 y2 y4 z)
noncomputable def lX4_findCosts_3 (s : Int32 × Int64 × Int32 × mm_S) : Option ((Int32 × Int64 × Int32 × mm_S) ⊕ (mm_S)) := if 36 ≤ s.2.2.1 then if (lg_cmp ((s.2.1 >>> (Int32.toInt64 s.1 &&& 63)) &&& 1) 1) = 0 then (sX4_costOf s.1 s.2.2.2).bind fun q1 => if s.1 < 0 ∨ 36 ≤ Int32.toNatClampNeg s.1 then none else ((sX4_findCosts_65 s.2.1 1 ((mm_ui q1.2.1 12 (Int32.toNatClampNeg s.1) q1.1), q1.2.2)).map fun w => (Sum.inr w)) else if s.1 < 0 ∨ 36 ≤ Int32.toNatClampNeg s.1 then none else ((sX4_findCosts_65 s.2.1 0 ((mm_ui s.2.2.2.1 12 (Int32.toNatClampNeg s.1) 10000), s.2.2.2.2)).map fun w => (Sum.inr w)) else if s.2.2.1 < 0 ∨ 36 ≤ Int32.toNatClampNeg s.2.2.1 then none else (sX4_findCosts_20 s.1 s.2.1 s.2.2.1 ((mm_ui s.2.2.2.1 12 (Int32.toNatClampNeg s.2.2.1) 10000), s.2.2.2.2))
noncomputable def sX4_findCosts_3 (y1 : Int32) (y2 : Int64) (y4 : Int32) (z : mm_S) : Option (mm_S) := mm_wh (lX4_findCosts_3 ) mm_fu (y1, y2, y4, z)
noncomputable def sX4_findCosts_0 (x1 : Int32) (x2 : Int64) (z : mm_S) : Option (mm_S) := (sX4_findCosts_3 x1 x2 0 z)
noncomputable def sX4_findCosts (x1 : Int32) (x2 : Int64) (z : mm_S) : Option (mm_S) := sX4_findCosts_0 x1 x2 z
noncomputable def sX4_dig_30 (y2 : Int32) (z : mm_S) : Option (Int32 × mm_S) := if y2 < 0 ∨ 36 ≤ Int32.toNatClampNeg y2 then none else (sX4_told (z.1 12 (Int32.toNatClampNeg y2)) z).bind fun q5 => some (q5.1, q5.2)
noncomputable def sX4_dig_21 (y1 : Int32) (y2 : Int32) (z : mm_S) : Option (Int32 × mm_S) := (sX4_dryNow  z).bind fun q3 => (sX4_findCosts y1 q3.1 q3.2).bind fun q4 => (sX4_dig_30 y2 q4)
noncomputable def sX4_dig_0 (x1 : Int32) (x2 : Int32) (z : mm_S) : Option (Int32 × mm_S) := if (pX4_isCell x1) = 0 then (sX4_finding (-1000001) z).bind fun q1 => some (q1.1, q1.2) else if (pX4_isCell x2) = 0 then (sX4_finding (-1000001) z).bind fun q2 => some (q2.1, q2.2) else (sX4_dig_21 x1 x2 z)
noncomputable def sX4_dig (x1 : Int32) (x2 : Int32) (z : mm_S) : Option (Int32 × mm_S) := sX4_dig_0 x1 x2 z
noncomputable def sX4_safe_30 (y2 : Int32) (z : mm_S) : Option (Int32 × mm_S) := if y2 < 0 ∨ 36 ≤ Int32.toNatClampNeg y2 then none else (sX4_told (z.1 12 (Int32.toNatClampNeg y2)) z).bind fun q5 => some (q5.1, q5.2)
noncomputable def sX4_safe_21 (y1 : Int32) (y2 : Int32) (z : mm_S) : Option (Int32 × mm_S) := (sX4_dryInAll  z).bind fun q3 => (sX4_findCosts y1 q3.1 q3.2).bind fun q4 => (sX4_safe_30 y2 q4)
noncomputable def sX4_safe_0 (x1 : Int32) (x2 : Int32) (z : mm_S) : Option (Int32 × mm_S) := if (pX4_isCell x1) = 0 then (sX4_finding (-1000001) z).bind fun q1 => some (q1.1, q1.2) else if (pX4_isCell x2) = 0 then (sX4_finding (-1000001) z).bind fun q2 => some (q2.1, q2.2) else (sX4_safe_21 x1 x2 z)
noncomputable def sX4_safe (x1 : Int32) (x2 : Int32) (z : mm_S) : Option (Int32 × mm_S) := sX4_safe_0 x1 x2 z
noncomputable def lX4_ways_29 (s : Int64 × Int32 × mm_S) : Option ((Int64 × Int32 × mm_S) ⊕ (Int64 × mm_S)) := if 36 ≤ s.2.1 then some (.inr (s.1, s.2.2)) else if s.2.1 < 0 ∨ 36 ≤ Int32.toNatClampNeg s.2.1 then none else if 10000 ≤ (s.2.2.1 12 (Int32.toNatClampNeg s.2.1)) then some (.inl ((s.1 ||| 0), (s.2.1 + 1), s.2.2)) else let v4 : Int64 := (s.1 ||| (1 <<< (Int32.toInt64 s.2.1 &&& 63))); some (.inl (v4, (s.2.1 + 1), s.2.2))
noncomputable def sX4_ways_29 (y2 : Int64) (y4 : Int32) (z : mm_S) : Option (Int64 × mm_S) := mm_wh (lX4_ways_29 ) mm_fu (y2, y4, z)
noncomputable def sX4_ways_24  (z : mm_S) : Option (Int64 × mm_S) := (sX4_ways_29 0 0 z)
noncomputable def sX4_ways_15 (y1 : Int32) (z : mm_S) : Option (Int64 × mm_S) := (sX4_dryNow  z).bind fun q2 => (sX4_findCosts y1 q2.1 q2.2).bind fun q3 => (sX4_ways_24 q3)
noncomputable def sX4_ways_0 (x1 : Int32) (z : mm_S) : Option (Int64 × mm_S) := if (pX4_isCell x1) = 0 then (sX4_finding (-1000001) z).bind fun q1 => some ((Int32.toInt64 q1.1), q1.2) else (sX4_ways_15 x1 z)
noncomputable def sX4_ways (x1 : Int32) (z : mm_S) : Option (Int64 × mm_S) := sX4_ways_0 x1 z
noncomputable def sX4_drawn_20 (y1 : Int32) (z : mm_S) : Option (Int32 × mm_S) := if y1 = 0 then none else some (((Int32.toUInt32 (z.1 1 4) >>> (Int32.toUInt32 8 &&& Int32.toUInt32 31)).toInt32 - (Int32.toUInt32 (z.1 1 4) >>> (Int32.toUInt32 8 &&& Int32.toUInt32 31)).toInt32 / y1 * y1), z)
noncomputable def sX4_drawn_0 (x1 : Int32) (z : mm_S) : Option (Int32 × mm_S) := (sX4_drawn_20 x1 ((mm_ui z.1 1 4 (((z.1 1 4) * 1103515245) + 12345)), z.2))
noncomputable def sX4_drawn (x1 : Int32) (z : mm_S) : Option (Int32 × mm_S) := sX4_drawn_0 x1 z
noncomputable def sX4_yearsGo_38 (y1 : Int32) (y2 : Int32) (z : mm_S) : Option ((Int32 × Int32 × mm_S) ⊕ (Int32 × mm_S)) := some (.inl (y1, (y2 + 1), z))
noncomputable def sX4_yearsGo_28 (y1 : Int32) (y2 : Int32) (z : mm_S) : Option ((Int32 × Int32 × mm_S) ⊕ (Int32 × mm_S)) := (sX4_yearsGo_38 y1 y2 ((mm_ui z.1 1 0 ((z.1 1 0) + 1)), z.2))
noncomputable def sX4_yearsGo_14 (y1 : Int32) (y2 : Int32) (y3 : Int32) (z : mm_S) : Option ((Int32 × Int32 × mm_S) ⊕ (Int32 × mm_S)) := (sX4_drawn 5 z).bind fun q4 => if (15 + y3) < 0 ∨ 97 ≤ Int32.toNatClampNeg (15 + y3) then none else (sX4_yearsGo_28 y1 y2 ((mm_ui q4.2.1 1 (Int32.toNatClampNeg (15 + y3)) q4.1), q4.2.2))
noncomputable def lX4_yearsGo_2 (s : Int32 × Int32 × mm_S) : Option ((Int32 × Int32 × mm_S) ⊕ (Int32 × mm_S)) := if s.1 ≤ s.2.1 then (sX4_cellsOf 2 s.2.2).bind fun q1 => (sX4_bits q1.1 q1.2).bind fun q2 => some (.inr (q2.1, q2.2)) else (sX4_drawn 36 s.2.2).bind fun q3 => (sX4_yearsGo_14 s.1 s.2.1 q3.1 q3.2)
noncomputable def sX4_yearsGo_2 (y1 : Int32) (y2 : Int32) (z : mm_S) : Option (Int32 × mm_S) := mm_wh (lX4_yearsGo_2 ) mm_fu (y1, y2, z)
noncomputable def sX4_yearsGo_0 (x1 : Int32) (z : mm_S) : Option (Int32 × mm_S) := (sX4_yearsGo_2 x1 0 z)
noncomputable def sX4_yearsGo (x1 : Int32) (z : mm_S) : Option (Int32 × mm_S) := sX4_yearsGo_0 x1 z
noncomputable def sX4_isTooLate_0 (x1 : Int32) (z : mm_S) : Option (Int32 × mm_S) := if ((z.1 1 0) + x1) ≤ 999 then some (0, z) else some (1, z)
noncomputable def sX4_isTooLate (x1 : Int32) (z : mm_S) : Option (Int32 × mm_S) := sX4_isTooLate_0 x1 z
noncomputable def sX4_years_25  (z : mm_S) : Option (Int32 × mm_S) := (sX4_finding (-1000005) z).bind fun q4 => some (q4.1, q4.2)
noncomputable def sX4_years_34 (y1 : Int32) (z : mm_S) : Option (Int32 × mm_S) := (sX4_yearsGo y1 z).bind fun q3 => some (q3.1, q3.2)
noncomputable def sX4_years_17 (y1 : Int32) (z : mm_S) : Option (Int32 × mm_S) := (sX4_isTooLate y1 z).bind fun q2 => if q2.1 = 0 then (sX4_years_34 y1 q2.2) else (sX4_years_25 q2.2)
noncomputable def sX4_years_0 (x1 : Int32) (z : mm_S) : Option (Int32 × mm_S) := if (pX4_within x1 1 60) = 0 then (sX4_finding (-1000001) z).bind fun q1 => some (q1.1, q1.2) else (sX4_years_17 x1 z)
noncomputable def sX4_years (x1 : Int32) (z : mm_S) : Option (Int32 × mm_S) := sX4_years_0 x1 z
noncomputable def sX4_ahead_34  (z : mm_S) : Option (Int32 × mm_S) := (sX4_finding (-1000005) z).bind fun q5 => some (q5.1, q5.2)
noncomputable def sX4_ahead_67 (y2 : Int32) (y3 : Int32) (y4 : Int32) (z : mm_S) : Option (Int32 × mm_S) := if y2 = 0 then (sX4_putBack y3 z).bind fun q13 => some (q13.1, q13.2) else if y2 = 1 then (sX4_silentNow  z).bind fun q10 => (sX4_bits q10.1 q10.2).bind fun q11 => (sX4_putBack q11.1 q11.2).bind fun q12 => some (q12.1, q12.2) else if 10000 ≤ y4 then (sX4_putBack (-1) z).bind fun q8 => some (q8.1, q8.2) else (sX4_putBack y4 z).bind fun q9 => some (q9.1, q9.2)
noncomputable def sX4_ahead_58 (y2 : Int32) (y3 : Int32) (z : mm_S) : Option (Int32 × mm_S) := (sX4_timeOf 0 35 z).bind fun q7 => (sX4_ahead_67 y2 y3 q7.1 q7.2)
noncomputable def sX4_ahead_52 (y1 : Int32) (y2 : Int32) (z : mm_S) : Option (Int32 × mm_S) := (sX4_yearsGo y1 z).bind fun q6 => (sX4_ahead_58 y2 q6.1 q6.2)
noncomputable def sX4_ahead_41 (y1 : Int32) (y2 : Int32) (z : mm_S) : Option (Int32 × mm_S) := (sX4_copyRow 1 3 z).bind fun q4 => (sX4_ahead_52 y1 y2 q4)
noncomputable def sX4_ahead_26 (y1 : Int32) (y2 : Int32) (z : mm_S) : Option (Int32 × mm_S) := (sX4_isTooLate y1 z).bind fun q3 => if q3.1 = 0 then (sX4_ahead_41 y1 y2 q3.2) else (sX4_ahead_34 q3.2)
noncomputable def sX4_ahead_0 (x1 : Int32) (x2 : Int32) (z : mm_S) : Option (Int32 × mm_S) := if (pX4_within x1 0 60) = 0 then (sX4_finding (-1000001) z).bind fun q1 => some (q1.1, q1.2) else if (pX4_within x2 0 2) = 0 then (sX4_finding (-1000001) z).bind fun q2 => some (q2.1, q2.2) else (sX4_ahead_26 x1 x2 z)
noncomputable def sX4_ahead (x1 : Int32) (x2 : Int32) (z : mm_S) : Option (Int32 × mm_S) := sX4_ahead_0 x1 x2 z
noncomputable def sX4_when_31  (z : mm_S) : Option (Int32 × mm_S) := (sX4_finding (-1000005) z).bind fun q5 => some (q5.1, q5.2)
noncomputable def sX4_when_110 (y1 : Int32) (y2 : Int32) (y3 : Int32) (y4 : Int32) (z : mm_S) : Option ((Int32 × Int32 × Int32 × Int32 × Int32 × mm_S) ⊕ (Int32 × mm_S)) := if y2 < 0 ∨ 36 ≤ Int32.toNatClampNeg y2 then none else if (z.1 7 (Int32.toNatClampNeg y2)) = y3 then some (.inl (y1, y2, y3, y4, 0, z)) else some (.inl (y1, y2, y3, y4, 1, z))
noncomputable def sX4_when_101 (y1 : Int32) (y2 : Int32) (y3 : Int32) (y4 : Int32) (z : mm_S) : Option ((Int32 × Int32 × Int32 × Int32 × Int32 × mm_S) ⊕ (Int32 × mm_S)) := (sX4_findHeard y1 7 z).bind fun q13 => (sX4_when_110 y1 y2 y3 y4 q13)
noncomputable def sX4_when_148  (z : mm_S) : Option (Int32 × mm_S) := (sX4_finding (-1000004) z).bind fun q12 => some (q12.1, q12.2)
noncomputable def sX4_when_157 (y4 : Int32) (z : mm_S) : Option (Int32 × mm_S) := some (y4, z)
noncomputable def lX4_when_71 (s : Int32 × Int32 × Int32 × Int32 × Int32 × mm_S) : Option ((Int32 × Int32 × Int32 × Int32 × Int32 × mm_S) ⊕ (Int32 × mm_S)) := if 60 ≤ s.2.2.2.1 then if s.2.2.2.2.1 = 0 then (sX4_putBack (-1) s.2.2.2.2.2).bind fun q7 => if 0 ≤ q7.1 then ((sX4_when_157 s.2.2.2.1 q7.2).map fun w => (Sum.inr w)) else ((sX4_when_148 q7.2).map fun w => (Sum.inr w)) else (sX4_putBack s.2.2.2.1 s.2.2.2.2.2).bind fun q8 => if 0 ≤ q8.1 then ((sX4_when_157 s.2.2.2.1 q8.2).map fun w => (Sum.inr w)) else ((sX4_when_148 q8.2).map fun w => (Sum.inr w)) else if s.2.2.2.2.1 = 0 then (sX4_yearsGo 1 s.2.2.2.2.2).bind fun q11 => if 0 ≤ q11.1 then (sX4_when_101 s.1 s.2.1 s.2.2.1 (s.2.2.2.1 + 1) q11.2) else (sX4_when_101 s.1 s.2.1 s.2.2.1 (s.2.2.2.1 + 0) q11.2) else if s.2.2.2.2.1 = 0 then (sX4_putBack (-1) s.2.2.2.2.2).bind fun q9 => if 0 ≤ q9.1 then ((sX4_when_157 s.2.2.2.1 q9.2).map fun w => (Sum.inr w)) else ((sX4_when_148 q9.2).map fun w => (Sum.inr w)) else (sX4_putBack s.2.2.2.1 s.2.2.2.2.2).bind fun q10 => if 0 ≤ q10.1 then ((sX4_when_157 s.2.2.2.1 q10.2).map fun w => (Sum.inr w)) else ((sX4_when_148 q10.2).map fun w => (Sum.inr w))
noncomputable def sX4_when_71 (y1 : Int32) (y2 : Int32) (y3 : Int32) (y4 : Int32) (y5 : Int32) (z : mm_S) : Option (Int32 × mm_S) := mm_wh (lX4_when_71 ) mm_fu (y1, y2, y3, y4, y5, z)
noncomputable def sX4_when_58 (y1 : Int32) (y2 : Int32) (z : mm_S) : Option (Int32 × mm_S) := if y2 < 0 ∨ 36 ≤ Int32.toNatClampNeg y2 then none else (sX4_when_71 y1 y2 (z.1 7 (Int32.toNatClampNeg y2)) 0 0 z)
noncomputable def sX4_when_49 (y1 : Int32) (y2 : Int32) (z : mm_S) : Option (Int32 × mm_S) := (sX4_findHeard y1 7 z).bind fun q6 => (sX4_when_58 y1 y2 q6)
noncomputable def sX4_when_38 (y1 : Int32) (y2 : Int32) (z : mm_S) : Option (Int32 × mm_S) := (sX4_copyRow 1 3 z).bind fun q4 => (sX4_when_49 y1 y2 q4)
noncomputable def sX4_when_22 (y1 : Int32) (y2 : Int32) (z : mm_S) : Option (Int32 × mm_S) := (sX4_isTooLate 60 z).bind fun q3 => if q3.1 = 0 then (sX4_when_38 y1 y2 q3.2) else (sX4_when_31 q3.2)
noncomputable def sX4_when_0 (x1 : Int32) (x2 : Int32) (z : mm_S) : Option (Int32 × mm_S) := if (pX4_isCrew x1 z) = 0 then (sX4_finding (-1000001) z).bind fun q1 => some (q1.1, q1.2) else if (pX4_isCell x2) = 0 then (sX4_finding (-1000001) z).bind fun q2 => some (q2.1, q2.2) else (sX4_when_22 x1 x2 z)
noncomputable def sX4_when (x1 : Int32) (x2 : Int32) (z : mm_S) : Option (Int32 × mm_S) := sX4_when_0 x1 x2 z
noncomputable def sX4_seed_0 (x1 : Int32) (z : mm_S) : Option (Int32 × mm_S) := (sX4_become 4 x1 z).bind fun q1 => some (q1.1, q1.2)
noncomputable def sX4_seed (x1 : Int32) (z : mm_S) : Option (Int32 × mm_S) := sX4_seed_0 x1 z
noncomputable def sX4_feed_61 (y1 : Int32) (y3 : Int32) (z : mm_S) : Option ((Int32 × Int32 × mm_S) ⊕ (Int32 × mm_S)) := let v4 : Int32 := (y3 + Int32.ofInt (-1)); some (.inl (y1, v4, ((mm_ui z.1 0 18 ((z.1 0 18) + 1)), z.2)))
noncomputable def lX4_feed_38 (s : Int32 × Int32 × mm_S) : Option ((Int32 × Int32 × mm_S) ⊕ (Int32 × mm_S)) := if s.2.1 < 0 then some (.inr ((s.2.2.1 0 18), s.2.2)) else if (s.2.2.1 0 18) < 0 ∨ 120 ≤ Int32.toNatClampNeg (s.2.2.1 0 18) then none else let u3 : mm_S := ((mm_ui s.2.2.1 13 (Int32.toNatClampNeg (s.2.2.1 0 18)) ((s.1 >>> ((8 * s.2.1) &&& 31)) &&& 255)), s.2.2.2); (sX4_feed_61 s.1 s.2.1 u3)
noncomputable def sX4_feed_38 (y1 : Int32) (y3 : Int32) (z : mm_S) : Option (Int32 × mm_S) := mm_wh (lX4_feed_38 ) mm_fu (y1, y3, z)
noncomputable def sX4_feed_34 (y1 : Int32) (y2 : Int32) (z : mm_S) : Option (Int32 × mm_S) := (sX4_feed_38 y1 (y2 - 1) z)
noncomputable def sX4_feed_16 (y1 : Int32) (y2 : Int32) (z : mm_S) : Option (Int32 × mm_S) := if ((z.1 0 18) + y2) ≤ 120 then (sX4_feed_34 y1 y2 z) else (sX4_finding (-1000002) z).bind fun q2 => some (q2.1, q2.2)
noncomputable def sX4_feed_0 (x1 : Int32) (x2 : Int32) (z : mm_S) : Option (Int32 × mm_S) := if (pX4_within x2 1 4) = 0 then (sX4_finding (-1000001) z).bind fun q1 => some (q1.1, q1.2) else (sX4_feed_16 x1 x2 z)
noncomputable def sX4_feed (x1 : Int32) (x2 : Int32) (z : mm_S) : Option (Int32 × mm_S) := sX4_feed_0 x1 x2 z
noncomputable def sX4_wipe_10 (y1 : Int32) (z : mm_S) : Option (Int32 × mm_S) := some (y1, z)
noncomputable def sX4_wipe_0  (z : mm_S) : Option (Int32 × mm_S) := (sX4_wipe_10 (z.1 0 18) ((mm_ui z.1 0 18 0), z.2))
noncomputable def sX4_wipe  (z : mm_S) : Option (Int32 × mm_S) := sX4_wipe_0  z
noncomputable def sX4_byteAt_0 (x1 : Int32) (z : mm_S) : Option (Int32 × mm_S) := if (z.1 0 18) ≤ x1 then some ((-1), z) else if x1 < 0 ∨ 120 ≤ Int32.toNatClampNeg x1 then none else some ((z.1 13 (Int32.toNatClampNeg x1)), z)
noncomputable def sX4_byteAt (x1 : Int32) (z : mm_S) : Option (Int32 × mm_S) := sX4_byteAt_0 x1 z
noncomputable def sX4_next_31  (z : mm_S) : Option ((mm_S) ⊕ (mm_S)) := some (.inl z)
noncomputable def sX4_next_21  (z : mm_S) : Option ((mm_S) ⊕ (mm_S)) := (sX4_next_31 ((mm_ui z.1 0 19 ((z.1 0 19) + 1)), z.2))
noncomputable def sX4_next_206  (z : mm_S) : Option (mm_S) := some (z)
noncomputable def sX4_next_65  (z : mm_S) : Option (mm_S) := (sX4_next_206 z)
noncomputable def sX4_next_112  (z : mm_S) : Option ((mm_S) ⊕ (mm_S)) := some (.inl z)
noncomputable def sX4_next_102  (z : mm_S) : Option ((mm_S) ⊕ (mm_S)) := (sX4_next_112 ((mm_ui z.1 0 20 ((z.1 0 20) + 1)), z.2))
noncomputable def lX4_next_84 (s : mm_S) : Option ((mm_S) ⊕ (mm_S)) := (sX4_byteAt (s.1 0 20) s).bind fun q4 => if (pX4_within q4.1 97 122) = 0 then ((sX4_next_206 q4.2).map fun w => (Sum.inr w)) else (sX4_next_102 q4.2)
noncomputable def sX4_next_84  (z : mm_S) : Option (mm_S) := mm_wh (lX4_next_84 ) mm_fu z
noncomputable def sX4_next_188  (z : mm_S) : Option ((mm_S) ⊕ (mm_S)) := some (.inl z)
noncomputable def sX4_next_178  (z : mm_S) : Option ((mm_S) ⊕ (mm_S)) := (sX4_next_188 ((mm_ui z.1 0 20 ((z.1 0 20) + 1)), z.2))
noncomputable def sX4_next_149  (z : mm_S) : Option ((mm_S) ⊕ (mm_S)) := (sX4_byteAt (z.1 0 20) z).bind fun q5 => let u6 : mm_S := ((mm_ui q5.2.1 0 22 (mm_min 1000 (((10 * (z.1 0 22)) + q5.1) - 48))), q5.2.2); (sX4_next_178 u6)
noncomputable def lX4_next_131 (s : mm_S) : Option ((mm_S) ⊕ (mm_S)) := (sX4_byteAt (s.1 0 20) s).bind fun q3 => if (pX4_within q3.1 48 57) = 0 then ((sX4_next_206 q3.2).map fun w => (Sum.inr w)) else (sX4_next_149 q3.2)
noncomputable def sX4_next_131  (z : mm_S) : Option (mm_S) := mm_wh (lX4_next_131 ) mm_fu z
noncomputable def sX4_next_196  (z : mm_S) : Option (mm_S) := (sX4_next_206 ((mm_ui z.1 0 20 ((z.1 0 20) + 1)), z.2))
noncomputable def sX4_next_56 (y1 : Int32) (z : mm_S) : Option (mm_S) := if 0 ≤ y1 then if (pX4_within y1 97 122) = 0 then if (pX4_within y1 48 57) = 0 then (sX4_next_196 ((mm_ui z.1 0 21 3), z.2)) else (sX4_next_131 ((mm_ui z.1 0 21 2), z.2)) else (sX4_next_84 ((mm_ui z.1 0 21 1), z.2)) else (sX4_next_65 ((mm_ui z.1 0 21 0), z.2))
noncomputable def sX4_next_51 (y1 : Int32) (z : mm_S) : Option (mm_S) := (sX4_next_56 y1 ((mm_ui z.1 0 22 0), z.2))
noncomputable def sX4_next_43 (y1 : Int32) (z : mm_S) : Option (mm_S) := (sX4_next_51 y1 ((mm_ui z.1 0 20 (z.1 0 19)), z.2))
noncomputable def lX4_next_8 (s : mm_S) : Option ((mm_S) ⊕ (mm_S)) := (sX4_byteAt (s.1 0 19) s).bind fun q1 => if q1.1 = 32 then (sX4_next_21 q1.2) else (sX4_byteAt (q1.2.1 0 19) q1.2).bind fun q2 => ((sX4_next_43 q2.1 q2.2).map fun w => (Sum.inr w))
noncomputable def sX4_next_8  (z : mm_S) : Option (mm_S) := mm_wh (lX4_next_8 ) mm_fu z
noncomputable def sX4_next_0  (z : mm_S) : Option (mm_S) := (sX4_next_8 ((mm_ui z.1 0 19 (z.1 0 20)), z.2))
noncomputable def sX4_next  (z : mm_S) : Option (mm_S) := sX4_next_0  z
noncomputable def sX4_must_31  (z : mm_S) : Option (mm_S) := some (z)
noncomputable def sX4_must_20  (z : mm_S) : Option (mm_S) := if (z.1 0 23) = 0 then (sX4_next  z).bind fun q1 => (sX4_must_31 q1) else (sX4_must_31 z)
noncomputable def sX4_must_0 (x1 : Int32) (z : mm_S) : Option (mm_S) := if (z.1 0 23) = 0 then if x1 = 0 then (sX4_must_20 ((mm_ui z.1 0 23 1), z.2)) else (sX4_must_20 ((mm_ui z.1 0 23 0), z.2)) else (sX4_must_20 ((mm_ui z.1 0 23 1), z.2))
noncomputable def sX4_must (x1 : Int32) (z : mm_S) : Option (mm_S) := sX4_must_0 x1 z
noncomputable def sX4_number_31 (y3 : Int32) (z : mm_S) : Option (Int32 × mm_S) := some (y3, z)
noncomputable def sX4_number_0 (x1 : Int32) (x2 : Int32) (z : mm_S) : Option (Int32 × mm_S) := if (z.1 0 21) = 2 then if (pX4_within (z.1 0 22) x1 x2) = 0 then (sX4_must 0 z).bind fun q2 => (sX4_number_31 (z.1 0 22) q2) else (sX4_must 1 z).bind fun q3 => (sX4_number_31 (z.1 0 22) q3) else (sX4_must 0 z).bind fun q1 => (sX4_number_31 (z.1 0 22) q1)
noncomputable def sX4_number (x1 : Int32) (x2 : Int32) (z : mm_S) : Option (Int32 × mm_S) := sX4_number_0 x1 x2 z
noncomputable def sX4_item_57  (z : mm_S) : Option (mm_S) := some (z)
noncomputable def sX4_item_47  (z : mm_S) : Option (mm_S) := (sX4_item_57 ((mm_ui z.1 0 27 ((z.1 0 27) + 1)), z.2))
noncomputable def sX4_item_36 (y4 : Int32) (y5 : Int32) (z : mm_S) : Option (mm_S) := if (y5 + 3) < 0 ∨ 480 ≤ Int32.toNatClampNeg (y5 + 3) then none else (sX4_item_47 ((mm_ui z.1 16 (Int32.toNatClampNeg (y5 + 3)) y4), z.2))
noncomputable def sX4_item_26 (y3 : Int32) (y4 : Int32) (y5 : Int32) (z : mm_S) : Option (mm_S) := if (y5 + 2) < 0 ∨ 480 ≤ Int32.toNatClampNeg (y5 + 2) then none else (sX4_item_36 y4 y5 ((mm_ui z.1 16 (Int32.toNatClampNeg (y5 + 2)) y3), z.2))
noncomputable def sX4_item_16 (y2 : Int32) (y3 : Int32) (y4 : Int32) (y5 : Int32) (z : mm_S) : Option (mm_S) := if (y5 + 1) < 0 ∨ 480 ≤ Int32.toNatClampNeg (y5 + 1) then none else (sX4_item_26 y3 y4 y5 ((mm_ui z.1 16 (Int32.toNatClampNeg (y5 + 1)) y2), z.2))
noncomputable def sX4_item_0 (x1 : Int32) (x2 : Int32) (x3 : Int32) (x4 : Int32) (z : mm_S) : Option (mm_S) := if (4 * (z.1 0 27)) < 0 ∨ 480 ≤ Int32.toNatClampNeg (4 * (z.1 0 27)) then none else (sX4_item_16 x2 x3 x4 (4 * (z.1 0 27)) ((mm_ui z.1 16 (Int32.toNatClampNeg (4 * (z.1 0 27))) x1), z.2))
noncomputable def sX4_item (x1 : Int32) (x2 : Int32) (x3 : Int32) (x4 : Int32) (z : mm_S) : Option (mm_S) := sX4_item_0 x1 x2 x3 x4 z
noncomputable def sX4_isSo_101 (y3 : Int32) (y4 : Int32) (y5 : Int32) (z : mm_S) : Option ((Int32 × Int32 × Int32 × mm_S) ⊕ (Int32 × mm_S)) := some (.inl (y3, y4, (y5 + 1), z))
noncomputable def lX4_isSo_80 (s : Int32 × Int32 × Int32 × mm_S) : Option ((Int32 × Int32 × Int32 × mm_S) ⊕ (Int32 × mm_S)) := if s.1 < s.2.2.1 then some (.inr (0, s.2.2.2)) else if (15 + s.2.2.1) < 0 ∨ 97 ≤ Int32.toNatClampNeg (15 + s.2.2.1) then none else (sX4_isSo_101 s.1 s.2.1 s.2.2.1 ((mm_ui s.2.2.2.1 1 (Int32.toNatClampNeg (15 + s.2.2.1)) (s.2.1 - 10)), s.2.2.2.2))
noncomputable def sX4_isSo_80 (y3 : Int32) (y4 : Int32) (y5 : Int32) (z : mm_S) : Option (Int32 × mm_S) := mm_wh (lX4_isSo_80 ) mm_fu (y3, y4, y5, z)
noncomputable def sX4_isSo_77 (y2 : Int32) (y3 : Int32) (y4 : Int32) (z : mm_S) : Option (Int32 × mm_S) := (sX4_isSo_80 y3 y4 y2 z)
noncomputable def sX4_isSo_64 (y2 : Int32) (y3 : Int32) (y4 : Int32) (z : mm_S) : Option (Int32 × mm_S) := if y4 = 21 then (sX4_getsUnsure y2 z).bind fun q3 => some (q3.1, q3.2) else (sX4_isSo_77 y2 y3 y4 z)
noncomputable def sX4_isSo_42 (y1 : Int32) (y2 : Int32) (y3 : Int32) (y4 : Int32) (z : mm_S) : Option (Int32 × mm_S) := if y4 = 20 then if (y1 + 3) < 0 ∨ 480 ≤ Int32.toNatClampNeg (y1 + 3) then none else (sX4_enters y2 y3 (z.1 16 (Int32.toNatClampNeg (y1 + 3))) z).bind fun q2 => some (q2.1, q2.2) else (sX4_isSo_64 y2 y3 y4 z)
noncomputable def sX4_isSo_0 (x1 : Int32) (z : mm_S) : Option (Int32 × mm_S) := if (x1 + 1) < 0 ∨ 480 ≤ Int32.toNatClampNeg (x1 + 1) then none else if (x1 + 2) < 0 ∨ 480 ≤ Int32.toNatClampNeg (x1 + 2) then none else if x1 < 0 ∨ 480 ≤ Int32.toNatClampNeg x1 then none else if 10 ≤ (z.1 16 (Int32.toNatClampNeg x1)) then (sX4_isSo_42 x1 (z.1 16 (Int32.toNatClampNeg (x1 + 1))) (z.1 16 (Int32.toNatClampNeg (x1 + 2))) (z.1 16 (Int32.toNatClampNeg x1)) z) else (sX4_comes (z.1 16 (Int32.toNatClampNeg x1)) (z.1 16 (Int32.toNatClampNeg (x1 + 1))) (z.1 16 (Int32.toNatClampNeg (x1 + 2))) z).bind fun q1 => some (q1.1, q1.2)
noncomputable def sX4_isSo (x1 : Int32) (z : mm_S) : Option (Int32 × mm_S) := sX4_isSo_0 x1 z
noncomputable def pX4_isSpot (x1 : Int32) : Int32 := (pX4_within x1 0 9)
noncomputable def sX4_hold_36  (z : mm_S) : Option (Int32 × mm_S) := some (1, z)
noncomputable def sX4_hold_27 (y1 : Int32) (y2 : Int32) (z : mm_S) : Option (Int32 × mm_S) := if (5 + y1) < 0 ∨ 97 ≤ Int32.toNatClampNeg (5 + y1) then none else (sX4_hold_36 ((mm_ui z.1 1 (Int32.toNatClampNeg (5 + y1)) y2), z.2))
noncomputable def sX4_hold_0 (x1 : Int32) (x2 : Int32) (z : mm_S) : Option (Int32 × mm_S) := if (pX4_isSpot x1) = 0 then (sX4_finding (-1000001) z).bind fun q1 => some (q1.1, q1.2) else if x2 = (-1) then (sX4_hold_27 x1 x2 z) else if (pX4_isCrew x2 z) = 0 then (sX4_finding (-1000001) z).bind fun q2 => some (q2.1, q2.2) else (sX4_hold_27 x1 x2 z)
noncomputable def sX4_hold (x1 : Int32) (x2 : Int32) (z : mm_S) : Option (Int32 × mm_S) := sX4_hold_0 x1 x2 z
noncomputable def sX4_as_55 (y3 : Int32) (z : mm_S) : Option (Int32 × mm_S) := some (y3, z)
noncomputable def sX4_as_42 (y2 : Int32) (y3 : Int32) (z : mm_S) : Option (Int32 × mm_S) := (sX4_crewIs y3 0 z).bind fun q4 => (sX4_isUnder q4.1 y2 q4.2).bind fun q5 => if q5.1 = 0 then (sX4_finding (-1000003) q5.2).bind fun q6 => some (q6.1, q6.2) else (sX4_as_55 y3 q5.2)
noncomputable def sX4_as_21 (y1 : Int32) (y2 : Int32) (z : mm_S) : Option (Int32 × mm_S) := if (5 + y1) < 0 ∨ 97 ≤ Int32.toNatClampNeg (5 + y1) then none else if 0 ≤ (z.1 1 (Int32.toNatClampNeg (5 + y1))) then (sX4_as_42 y2 (z.1 1 (Int32.toNatClampNeg (5 + y1))) z) else (sX4_finding (-1000006) z).bind fun q3 => some (q3.1, q3.2)
noncomputable def sX4_as_0 (x1 : Int32) (x2 : Int32) (z : mm_S) : Option (Int32 × mm_S) := if (pX4_isSpot x1) = 0 then (sX4_finding (-1000001) z).bind fun q1 => some (q1.1, q1.2) else if (pX4_isKind x2) = 0 then (sX4_finding (-1000001) z).bind fun q2 => some (q2.1, q2.2) else (sX4_as_21 x1 x2 z)
noncomputable def sX4_as (x1 : Int32) (x2 : Int32) (z : mm_S) : Option (Int32 × mm_S) := sX4_as_0 x1 x2 z
noncomputable def pX4_isSheet (x1 : Int32) : Int32 := (pX4_within x1 0 3)
noncomputable def pX4_cutTo (x1 : Int32) (x2 : Int32) : Int32 := if x2 = 8 then (Int32.toInt8 x1).toInt32 else if x2 = 16 then (Int32.toInt16 x1).toInt32 else x1
noncomputable def sX4_sheet_106 (y1 : Int32) (y4 : Int32) (z : mm_S) : Option ((Int32 × Int32 × mm_S) ⊕ (Int32 × mm_S)) := some (.inl (y1, (y4 + 1), z))
noncomputable def lX4_sheet_86 (s : Int32 × Int32 × mm_S) : Option ((Int32 × Int32 × mm_S) ⊕ (Int32 × mm_S)) := if 40 ≤ s.2.1 then if s.1 < 0 ∨ 4 ≤ Int32.toNatClampNeg s.1 then none else some (.inr ((s.2.2.1 19 (Int32.toNatClampNeg s.1)), s.2.2)) else if ((40 * s.1) + s.2.1) < 0 ∨ 160 ≤ Int32.toNatClampNeg ((40 * s.1) + s.2.1) then none else (sX4_sheet_106 s.1 s.2.1 ((mm_ui s.2.2.1 20 (Int32.toNatClampNeg ((40 * s.1) + s.2.1)) 0), s.2.2.2))
noncomputable def sX4_sheet_86 (y1 : Int32) (y4 : Int32) (z : mm_S) : Option (Int32 × mm_S) := mm_wh (lX4_sheet_86 ) mm_fu (y1, y4, z)
noncomputable def sX4_sheet_83 (y1 : Int32) (z : mm_S) : Option (Int32 × mm_S) := (sX4_sheet_86 y1 0 z)
noncomputable def sX4_sheet_68 (y1 : Int32) (y2 : Int32) (y3 : Int32) (z : mm_S) : Option (Int32 × mm_S) := if y2 = 0 then if y1 < 0 ∨ 4 ≤ Int32.toNatClampNeg y1 then none else (sX4_sheet_83 y1 ((mm_ui z.1 19 (Int32.toNatClampNeg y1) 0), z.2)) else if y1 < 0 ∨ 4 ≤ Int32.toNatClampNeg y1 then none else (sX4_sheet_83 y1 ((mm_ui z.1 19 (Int32.toNatClampNeg y1) y3), z.2))
noncomputable def sX4_sheet_61 (y1 : Int32) (y2 : Int32) (y3 : Int32) (z : mm_S) : Option (Int32 × mm_S) := if y1 < 0 ∨ 4 ≤ Int32.toNatClampNeg y1 then none else (sX4_sheet_68 y1 y2 y3 ((mm_ui z.1 18 (Int32.toNatClampNeg y1) y2), z.2))
noncomputable def sX4_sheet_48 (y1 : Int32) (y2 : Int32) (y3 : Int32) (z : mm_S) : Option (Int32 × mm_S) := if y3 ≤ 40 then (sX4_sheet_61 y1 y2 y3 z) else (sX4_finding (-1000001) z).bind fun q4 => some (q4.1, q4.2)
noncomputable def sX4_sheet_36 (y1 : Int32) (y2 : Int32) (y3 : Int32) (z : mm_S) : Option (Int32 × mm_S) := if 0 ≤ y3 then (sX4_sheet_48 y1 y2 y3 z) else (sX4_finding (-1000007) z).bind fun q3 => some (q3.1, q3.2)
noncomputable def sX4_sheet_0 (x1 : Int32) (x2 : Int32) (x3 : Int32) (z : mm_S) : Option (Int32 × mm_S) := if (pX4_isSheet x1) = 0 then (sX4_finding (-1000001) z).bind fun q1 => some (q1.1, q1.2) else if x2 = 0 then (sX4_sheet_36 x1 x2 x3 z) else if x2 = 8 then (sX4_sheet_36 x1 x2 x3 z) else if x2 = 16 then (sX4_sheet_36 x1 x2 x3 z) else if x2 = 32 then (sX4_sheet_36 x1 x2 x3 z) else (sX4_finding (-1000001) z).bind fun q2 => some (q2.1, q2.2)
noncomputable def sX4_sheet (x1 : Int32) (x2 : Int32) (x3 : Int32) (z : mm_S) : Option (Int32 × mm_S) := sX4_sheet_0 x1 x2 x3 z
noncomputable def sX4_write_75  (z : mm_S) : Option (Int32 × mm_S) := some (1, z)
noncomputable def sX4_write_54 (y1 : Int32) (y2 : Int32) (y3 : Int32) (z : mm_S) : Option (Int32 × mm_S) := if y1 < 0 ∨ 4 ≤ Int32.toNatClampNeg y1 then none else if ((40 * y1) + y2) < 0 ∨ 160 ≤ Int32.toNatClampNeg ((40 * y1) + y2) then none else let u4 : mm_S := ((mm_ui z.1 20 (Int32.toNatClampNeg ((40 * y1) + y2)) (pX4_cutTo y3 (z.1 18 (Int32.toNatClampNeg y1)))), z.2); (sX4_write_75 u4)
noncomputable def sX4_write_31 (y1 : Int32) (y2 : Int32) (y3 : Int32) (z : mm_S) : Option (Int32 × mm_S) := if y1 < 0 ∨ 4 ≤ Int32.toNatClampNeg y1 then none else if (pX4_within y2 0 ((z.1 19 (Int32.toNatClampNeg y1)) - 1)) = 0 then (sX4_finding (-1000001) z).bind fun q3 => some (q3.1, q3.2) else (sX4_write_54 y1 y2 y3 z)
noncomputable def sX4_write_14 (y1 : Int32) (y2 : Int32) (y3 : Int32) (z : mm_S) : Option (Int32 × mm_S) := if y1 < 0 ∨ 4 ≤ Int32.toNatClampNeg y1 then none else if (z.1 18 (Int32.toNatClampNeg y1)) = 0 then (sX4_finding (-1000006) z).bind fun q2 => some (q2.1, q2.2) else (sX4_write_31 y1 y2 y3 z)
noncomputable def sX4_write_0 (x1 : Int32) (x2 : Int32) (x3 : Int32) (z : mm_S) : Option (Int32 × mm_S) := if (pX4_isSheet x1) = 0 then (sX4_finding (-1000001) z).bind fun q1 => some (q1.1, q1.2) else (sX4_write_14 x1 x2 x3 z)
noncomputable def sX4_write (x1 : Int32) (x2 : Int32) (x3 : Int32) (z : mm_S) : Option (Int32 × mm_S) := sX4_write_0 x1 x2 x3 z
noncomputable def sX4_copy_157 (y1 : Int32) (y2 : Int32) (y3 : Int32) (y4 : Int32) (y5 : Int32) (y6 : Int32) (z : mm_S) : Option ((Int32 × Int32 × Int32 × Int32 × Int32 × Int32 × mm_S) ⊕ (Int32 × mm_S)) := some (.inl (y1, y2, y3, y4, y5, (y6 + 1), z))
noncomputable def sX4_copy_195 (y3 : Int32) (y4 : Int32) (y5 : Int32) (y6 : Int32) (z : mm_S) : Option ((Int32 × Int32 × Int32 × Int32 × mm_S) ⊕ (Int32 × mm_S)) := some (.inl (y3, y4, y5, (y6 + 1), z))
noncomputable def lX4_copy_166 (s : Int32 × Int32 × Int32 × Int32 × mm_S) : Option ((Int32 × Int32 × Int32 × Int32 × mm_S) ⊕ (Int32 × mm_S)) := if s.2.2.1 ≤ s.2.2.2.1 then some (.inr (s.2.2.1, s.2.2.2.2)) else if s.2.2.2.1 < 0 ∨ 40 ≤ Int32.toNatClampNeg s.2.2.2.1 then none else if (((40 * s.1) + s.2.1) + s.2.2.2.1) < 0 ∨ 160 ≤ Int32.toNatClampNeg (((40 * s.1) + s.2.1) + s.2.2.2.1) then none else let u12 : mm_S := ((mm_ui s.2.2.2.2.1 20 (Int32.toNatClampNeg (((40 * s.1) + s.2.1) + s.2.2.2.1)) (s.2.2.2.2.1 21 (Int32.toNatClampNeg s.2.2.2.1))), s.2.2.2.2.2); (sX4_copy_195 s.1 s.2.1 s.2.2.1 s.2.2.2.1 u12)
noncomputable def sX4_copy_166 (y3 : Int32) (y4 : Int32) (y5 : Int32) (y6 : Int32) (z : mm_S) : Option (Int32 × mm_S) := mm_wh (lX4_copy_166 ) mm_fu (y3, y4, y5, y6, z)
noncomputable def lX4_copy_129 (s : Int32 × Int32 × Int32 × Int32 × Int32 × Int32 × mm_S) : Option ((Int32 × Int32 × Int32 × Int32 × Int32 × Int32 × mm_S) ⊕ (Int32 × mm_S)) := if s.2.2.2.2.1 ≤ s.2.2.2.2.2.1 then ((sX4_copy_166 s.2.2.1 s.2.2.2.1 s.2.2.2.2.1 0 s.2.2.2.2.2.2).map fun w => (Sum.inr w)) else if (((40 * s.1) + s.2.1) + s.2.2.2.2.2.1) < 0 ∨ 160 ≤ Int32.toNatClampNeg (((40 * s.1) + s.2.1) + s.2.2.2.2.2.1) then none else if s.2.2.2.2.2.1 < 0 ∨ 40 ≤ Int32.toNatClampNeg s.2.2.2.2.2.1 then none else let u11 : mm_S := ((mm_ui s.2.2.2.2.2.2.1 21 (Int32.toNatClampNeg s.2.2.2.2.2.1) (s.2.2.2.2.2.2.1 20 (Int32.toNatClampNeg (((40 * s.1) + s.2.1) + s.2.2.2.2.2.1)))), s.2.2.2.2.2.2.2); (sX4_copy_157 s.1 s.2.1 s.2.2.1 s.2.2.2.1 s.2.2.2.2.1 s.2.2.2.2.2.1 u11)
noncomputable def sX4_copy_129 (y1 : Int32) (y2 : Int32) (y3 : Int32) (y4 : Int32) (y5 : Int32) (y6 : Int32) (z : mm_S) : Option (Int32 × mm_S) := mm_wh (lX4_copy_129 ) mm_fu (y1, y2, y3, y4, y5, y6, z)
noncomputable def sX4_copy_126 (y1 : Int32) (y2 : Int32) (y3 : Int32) (y4 : Int32) (y5 : Int32) (z : mm_S) : Option (Int32 × mm_S) := (sX4_copy_129 y1 y2 y3 y4 y5 0 z)
noncomputable def sX4_copy_70 (y1 : Int32) (y2 : Int32) (y3 : Int32) (y4 : Int32) (y5 : Int32) (z : mm_S) : Option (Int32 × mm_S) := if y2 < 0 then (sX4_finding (-1000001) z).bind fun q6 => some (q6.1, q6.2) else if y4 < 0 then (sX4_finding (-1000001) z).bind fun q7 => some (q7.1, q7.2) else if y5 < 0 then (sX4_finding (-1000001) z).bind fun q8 => some (q8.1, q8.2) else if y1 < 0 ∨ 4 ≤ Int32.toNatClampNeg y1 then none else if 0 < (lg_cmp ((Int32.toInt64 y2) + (Int32.toInt64 y5)) (Int32.toInt64 (z.1 19 (Int32.toNatClampNeg y1)))) then (sX4_finding (-1000001) z).bind fun q9 => some (q9.1, q9.2) else if y3 < 0 ∨ 4 ≤ Int32.toNatClampNeg y3 then none else if (lg_cmp ((Int32.toInt64 y4) + (Int32.toInt64 y5)) (Int32.toInt64 (z.1 19 (Int32.toNatClampNeg y3)))) ≤ 0 then (sX4_copy_126 y1 y2 y3 y4 y5 z) else (sX4_finding (-1000001) z).bind fun q10 => some (q10.1, q10.2)
noncomputable def sX4_copy_47 (y1 : Int32) (y2 : Int32) (y3 : Int32) (y4 : Int32) (y5 : Int32) (z : mm_S) : Option (Int32 × mm_S) := if y1 < 0 ∨ 4 ≤ Int32.toNatClampNeg y1 then none else if y3 < 0 ∨ 4 ≤ Int32.toNatClampNeg y3 then none else if (z.1 18 (Int32.toNatClampNeg y1)) = (z.1 18 (Int32.toNatClampNeg y3)) then (sX4_copy_70 y1 y2 y3 y4 y5 z) else (sX4_finding (-1000003) z).bind fun q5 => some (q5.1, q5.2)
noncomputable def sX4_copy_21 (y1 : Int32) (y2 : Int32) (y3 : Int32) (y4 : Int32) (y5 : Int32) (z : mm_S) : Option (Int32 × mm_S) := if y1 < 0 ∨ 4 ≤ Int32.toNatClampNeg y1 then none else if (z.1 18 (Int32.toNatClampNeg y1)) = 0 then (sX4_finding (-1000006) z).bind fun q3 => some (q3.1, q3.2) else if y3 < 0 ∨ 4 ≤ Int32.toNatClampNeg y3 then none else if (z.1 18 (Int32.toNatClampNeg y3)) = 0 then (sX4_finding (-1000006) z).bind fun q4 => some (q4.1, q4.2) else (sX4_copy_47 y1 y2 y3 y4 y5 z)
noncomputable def sX4_copy_0 (x1 : Int32) (x2 : Int32) (x3 : Int32) (x4 : Int32) (x5 : Int32) (z : mm_S) : Option (Int32 × mm_S) := if (pX4_isSheet x1) = 0 then (sX4_finding (-1000001) z).bind fun q1 => some (q1.1, q1.2) else if (pX4_isSheet x3) = 0 then (sX4_finding (-1000001) z).bind fun q2 => some (q2.1, q2.2) else (sX4_copy_21 x1 x2 x3 x4 x5 z)
noncomputable def sX4_copy (x1 : Int32) (x2 : Int32) (x3 : Int32) (x4 : Int32) (x5 : Int32) (z : mm_S) : Option (Int32 × mm_S) := sX4_copy_0 x1 x2 x3 x4 x5 z
noncomputable def sX4_load_87 (y1 : Int32) (y2 : Int32) (z : mm_S) : Option ((Int32 × Int32 × mm_S) ⊕ (Int32 × mm_S)) := some (.inl (y1, (y2 + 1), z))
noncomputable def lX4_load_33 (s : Int32 × Int32 × mm_S) : Option ((Int32 × Int32 × mm_S) ⊕ (Int32 × mm_S)) := if s.1 < 0 ∨ 4 ≤ Int32.toNatClampNeg s.1 then none else if (s.2.2.1 19 (Int32.toNatClampNeg s.1)) ≤ s.2.1 then some (.inr (s.2.1, s.2.2)) else if (pX4_isCell s.2.1) = 0 then some (.inr (s.2.1, s.2.2)) else if ((40 * s.1) + s.2.1) < 0 ∨ 160 ≤ Int32.toNatClampNeg ((40 * s.1) + s.2.1) then none else if (pX4_isStuff (s.2.2.1 20 (Int32.toNatClampNeg ((40 * s.1) + s.2.1)))) = 0 then some (.inr (s.2.1, s.2.2)) else if ((40 * s.1) + s.2.1) < 0 ∨ 160 ≤ Int32.toNatClampNeg ((40 * s.1) + s.2.1) then none else if (15 + s.2.1) < 0 ∨ 97 ≤ Int32.toNatClampNeg (15 + s.2.1) then none else let u3 : mm_S := ((mm_ui s.2.2.1 1 (Int32.toNatClampNeg (15 + s.2.1)) (s.2.2.1 20 (Int32.toNatClampNeg ((40 * s.1) + s.2.1)))), s.2.2.2); (sX4_load_87 s.1 s.2.1 u3)
noncomputable def sX4_load_33 (y1 : Int32) (y2 : Int32) (z : mm_S) : Option (Int32 × mm_S) := mm_wh (lX4_load_33 ) mm_fu (y1, y2, z)
noncomputable def sX4_load_31 (y1 : Int32) (z : mm_S) : Option (Int32 × mm_S) := (sX4_load_33 y1 0 z)
noncomputable def sX4_load_14 (y1 : Int32) (z : mm_S) : Option (Int32 × mm_S) := if y1 < 0 ∨ 4 ≤ Int32.toNatClampNeg y1 then none else if (z.1 18 (Int32.toNatClampNeg y1)) = 0 then (sX4_finding (-1000006) z).bind fun q2 => some (q2.1, q2.2) else (sX4_load_31 y1 z)
noncomputable def sX4_load_0 (x1 : Int32) (z : mm_S) : Option (Int32 × mm_S) := if (pX4_isSheet x1) = 0 then (sX4_finding (-1000001) z).bind fun q1 => some (q1.1, q1.2) else (sX4_load_14 x1 z)
noncomputable def sX4_load (x1 : Int32) (z : mm_S) : Option (Int32 × mm_S) := sX4_load_0 x1 z
noncomputable def lX4_judge_70 (s : Int32 × Int32 × Int32 × mm_S) : Option ((Int32 × Int32 × Int32 × mm_S) ⊕ (Int32 × mm_S)) := if s.2.1 ≤ s.2.2.1 then if s.2.2.1 = s.2.1 then some (.inr (0, s.2.2.2)) else some (.inr ((1 + s.2.2.1), s.2.2.2)) else if ((40 * s.1) + s.2.2.1) < 0 ∨ 160 ≤ Int32.toNatClampNeg ((40 * s.1) + s.2.2.1) then none else if s.2.2.1 < 0 ∨ 36 ≤ Int32.toNatClampNeg s.2.2.1 then none else if 10000 ≤ (s.2.2.2.1 7 (Int32.toNatClampNeg s.2.2.1)) then if (s.2.2.2.1 20 (Int32.toNatClampNeg ((40 * s.1) + s.2.2.1))) = (-1) then some (.inl (s.1, s.2.1, (s.2.2.1 + 1), s.2.2.2)) else if s.2.2.1 = s.2.1 then some (.inr (0, s.2.2.2)) else some (.inr ((1 + s.2.2.1), s.2.2.2)) else if s.2.2.1 < 0 ∨ 36 ≤ Int32.toNatClampNeg s.2.2.1 then none else if (s.2.2.2.1 20 (Int32.toNatClampNeg ((40 * s.1) + s.2.2.1))) = (s.2.2.2.1 7 (Int32.toNatClampNeg s.2.2.1)) then some (.inl (s.1, s.2.1, (s.2.2.1 + 1), s.2.2.2)) else if s.2.2.1 = s.2.1 then some (.inr (0, s.2.2.2)) else some (.inr ((1 + s.2.2.1), s.2.2.2))
noncomputable def sX4_judge_70 (y1 : Int32) (y3 : Int32) (y4 : Int32) (z : mm_S) : Option (Int32 × mm_S) := mm_wh (lX4_judge_70 ) mm_fu (y1, y3, y4, z)
noncomputable def sX4_judge_55 (y1 : Int32) (z : mm_S) : Option (Int32 × mm_S) := if y1 < 0 ∨ 4 ≤ Int32.toNatClampNeg y1 then none else let v5 : Int32 := (mm_min 36 (z.1 19 (Int32.toNatClampNeg y1))); (sX4_judge_70 y1 v5 0 z)
noncomputable def sX4_judge_46 (y1 : Int32) (y2 : Int32) (z : mm_S) : Option (Int32 × mm_S) := (sX4_findHeard y2 7 z).bind fun q4 => (sX4_judge_55 y1 q4)
noncomputable def sX4_judge_31 (y1 : Int32) (y2 : Int32) (z : mm_S) : Option (Int32 × mm_S) := if (pX4_isCrew y2 z) = 0 then (sX4_finding (-1000001) z).bind fun q3 => some (q3.1, q3.2) else (sX4_judge_46 y1 y2 z)
noncomputable def sX4_judge_14 (y1 : Int32) (y2 : Int32) (z : mm_S) : Option (Int32 × mm_S) := if y1 < 0 ∨ 4 ≤ Int32.toNatClampNeg y1 then none else if (z.1 18 (Int32.toNatClampNeg y1)) = 0 then (sX4_finding (-1000006) z).bind fun q2 => some (q2.1, q2.2) else (sX4_judge_31 y1 y2 z)
noncomputable def sX4_judge_0 (x1 : Int32) (x2 : Int32) (z : mm_S) : Option (Int32 × mm_S) := if (pX4_isSheet x1) = 0 then (sX4_finding (-1000001) z).bind fun q1 => some (q1.1, q1.2) else (sX4_judge_14 x1 x2 z)
noncomputable def sX4_judge (x1 : Int32) (x2 : Int32) (z : mm_S) : Option (Int32 × mm_S) := sX4_judge_0 x1 x2 z
noncomputable def sX4_image_16  (z : mm_S) : Option (Int32 × mm_S) := some (1, z)
noncomputable def sX4_image_11  (z : mm_S) : Option (Int32 × mm_S) := (sX4_image_16 ((mm_ui z.1 0 3 1), z.2))
noncomputable def sX4_image_0  (z : mm_S) : Option (Int32 × mm_S) := (sX4_copyRow 1 2 z).bind fun q1 => (sX4_image_11 q1)
noncomputable def sX4_image  (z : mm_S) : Option (Int32 × mm_S) := sX4_image_0  z
noncomputable def sX4_undo_25  (z : mm_S) : Option (Int32 × mm_S) := some ((z.1 1 0), z)
noncomputable def sX4_undo_14  (z : mm_S) : Option (Int32 × mm_S) := (sX4_copyRow 2 1 z).bind fun q2 => (sX4_undo_25 q2)
noncomputable def sX4_undo_0  (z : mm_S) : Option (Int32 × mm_S) := if (z.1 0 3) = 0 then (sX4_finding (-1000004) z).bind fun q1 => some (q1.1, q1.2) else (sX4_undo_14 z)
noncomputable def sX4_undo  (z : mm_S) : Option (Int32 × mm_S) := sX4_undo_0  z
noncomputable def sX4_tear_18 (y1 : Int32) (z : mm_S) : Option (Int32 × mm_S) := some (y1, z)
noncomputable def sX4_tear_0  (z : mm_S) : Option (Int32 × mm_S) := if (z.1 0 3) = 0 then (sX4_tear_18 0 ((mm_ui z.1 0 3 0), z.2)) else (sX4_tear_18 1 ((mm_ui z.1 0 3 0), z.2))
noncomputable def sX4_tear  (z : mm_S) : Option (Int32 × mm_S) := sX4_tear_0  z
noncomputable def lX4_count_99 (s : Int32 × Int32 × mm_S) : Option ((Int32 × Int32 × mm_S) ⊕ (Int32 × mm_S)) := if 10 ≤ s.2.1 then some (.inr (s.1, s.2.2)) else if (5 + s.2.1) < 0 ∨ 97 ≤ Int32.toNatClampNeg (5 + s.2.1) then none else if 0 ≤ (s.2.2.1 1 (Int32.toNatClampNeg (5 + s.2.1))) then some (.inl ((s.1 + 1), (s.2.1 + 1), s.2.2)) else some (.inl ((s.1 + 0), (s.2.1 + 1), s.2.2))
noncomputable def sX4_count_99 (y2 : Int32) (y3 : Int32) (z : mm_S) : Option (Int32 × mm_S) := mm_wh (lX4_count_99 ) mm_fu (y2, y3, z)
noncomputable def sX4_count_0 (x1 : Int32) (z : mm_S) : Option (Int32 × mm_S) := if x1 = 0 then some ((z.1 1 0), z) else if x1 = 1 then some ((z.1 1 1), z) else if x1 = 2 then (sX4_cellsOf 2 z).bind fun q2 => (sX4_bits q2.1 q2.2).bind fun q3 => some (q3.1, q3.2) else if x1 = 3 then some ((z.1 1 2), z) else if x1 = 4 then some ((z.1 1 3), z) else if x1 = 5 then some ((z.1 0 18), z) else if x1 = 6 then some ((z.1 1 4), z) else if x1 = 7 then (sX4_count_99 0 0 z) else (sX4_finding (-1000001) z).bind fun q1 => some (q1.1, q1.2)
noncomputable def sX4_count (x1 : Int32) (z : mm_S) : Option (Int32 × mm_S) := sX4_count_0 x1 z
noncomputable def sX4_status_0 (x1 : Int32) (z : mm_S) : Option (Int32 × mm_S) := if (pX4_within x1 (-1) 6) = 0 then (sX4_finding (-1000001) z).bind fun q1 => some (q1.1, q1.2) else if (x1 + 1) < 0 ∨ 8 ≤ Int32.toNatClampNeg (x1 + 1) then none else some ((z.1 4 (Int32.toNatClampNeg (x1 + 1))), z)
noncomputable def sX4_status (x1 : Int32) (z : mm_S) : Option (Int32 × mm_S) := sX4_status_0 x1 z
def tx_len (i : Nat) : Int32 := nI (mm_sl.getD i 0)
def tx_ch (i k : Nat) : Int32 := (mm_sb.getD i []).getD k 0 &&& 255
def tx_at (i : Nat) (k : Int32) (z : mm_S) : Option (Int32 × mm_S) := if k < 0 ∨ mm_sl.getD i 0 ≤ Int32.toNatClampNeg k then none else some (tx_ch i (Int32.toNatClampNeg k), z)
noncomputable def sX4_isWord_63 (y1 : Nat) (y3 : Int32) (z : mm_S) : Option ((Nat × Int32 × Int32 × mm_S) ⊕ (Int32 × mm_S)) := some (.inl (y1, 1, (y3 + 1), z))
noncomputable def lX4_isWord_32 (s : Nat × Int32 × Int32 × mm_S) : Option ((Nat × Int32 × Int32 × mm_S) ⊕ (Int32 × mm_S)) := if (tx_len s.1) ≤ s.2.2.1 then if s.2.1 = 0 then some (.inr (0, s.2.2.2)) else if s.2.1 = 1 then some (.inr (1, s.2.2.2)) else none else if s.2.1 = 0 then if s.2.1 = 0 then some (.inr (0, s.2.2.2)) else if s.2.1 = 1 then some (.inr (1, s.2.2.2)) else none else if ((s.2.2.2.1 0 19) + s.2.2.1) < 0 ∨ 120 ≤ Int32.toNatClampNeg ((s.2.2.2.1 0 19) + s.2.2.1) then none else (tx_at s.1 s.2.2.1 s.2.2.2).bind fun q1 => if (s.2.2.2.1 13 (Int32.toNatClampNeg ((s.2.2.2.1 0 19) + s.2.2.1))) = q1.1 then (sX4_isWord_63 s.1 s.2.2.1 q1.2) else some (.inl (s.1, 0, (s.2.2.1 + 1), q1.2))
noncomputable def sX4_isWord_32 (y1 : Nat) (y2 : Int32) (y3 : Int32) (z : mm_S) : Option (Int32 × mm_S) := mm_wh (lX4_isWord_32 ) mm_fu (y1, y2, y3, z)
noncomputable def sX4_isWord_0 (x1 : Nat) (z : mm_S) : Option (Int32 × mm_S) := if (z.1 0 21) = 1 then if ((z.1 0 20) - (z.1 0 19)) = (tx_len x1) then (sX4_isWord_32 x1 1 0 z) else (sX4_isWord_32 x1 0 0 z) else (sX4_isWord_32 x1 0 0 z)
noncomputable def sX4_isWord (x1 : Nat) (z : mm_S) : Option (Int32 × mm_S) := sX4_isWord_0 x1 z
noncomputable def sX4_oneOf_20 (y1 : Nat) (y3 : Int32) (z : mm_S) : Option ((Nat × Int32 × Int32 × mm_S) ⊕ (Int32 × mm_S)) := some (.inl (y1, y3, (y3 + 1), z))
noncomputable def lX4_oneOf_4 (s : Nat × Int32 × Int32 × mm_S) : Option ((Nat × Int32 × Int32 × mm_S) ⊕ (Int32 × mm_S)) := if (Int32.ofNat (lenM s.1)) ≤ s.2.2.1 then some (.inr (s.2.1, s.2.2.2)) else if s.2.2.1 < 0 ∨ lenM s.1 ≤ Int32.toNatClampNeg s.2.2.1 then none else (sX4_isWord (snM s.1 (Int32.toNatClampNeg s.2.2.1)) s.2.2.2).bind fun q1 => if q1.1 = 0 then some (.inl (s.1, s.2.1, (s.2.2.1 + 1), q1.2)) else (sX4_oneOf_20 s.1 s.2.2.1 q1.2)
noncomputable def sX4_oneOf_4 (y1 : Nat) (y2 : Int32) (y3 : Int32) (z : mm_S) : Option (Int32 × mm_S) := mm_wh (lX4_oneOf_4 ) mm_fu (y1, y2, y3, z)
noncomputable def sX4_oneOf_0 (x1 : Nat) (z : mm_S) : Option (Int32 × mm_S) := (sX4_oneOf_4 x1 (-1) 0 z)
noncomputable def sX4_oneOf (x1 : Nat) (z : mm_S) : Option (Int32 × mm_S) := sX4_oneOf_0 x1 z
noncomputable def sX4_isNext_30 (y2 : Int32) (z : mm_S) : Option (Int32 × mm_S) := if y2 = 0 then some (0, z) else if y2 = 1 then some (1, z) else none
noncomputable def sX4_isNext_15  (z : mm_S) : Option (Int32 × mm_S) := (sX4_must 1 z).bind fun q2 => (sX4_isNext_30 1 q2)
noncomputable def sX4_isNext_0 (x1 : Nat) (z : mm_S) : Option (Int32 × mm_S) := if (z.1 0 23) = 0 then (sX4_isWord x1 z).bind fun q1 => if q1.1 = 0 then (sX4_isNext_30 0 q1.2) else (sX4_isNext_15 q1.2) else (sX4_isNext_30 0 z)
noncomputable def sX4_isNext (x1 : Nat) (z : mm_S) : Option (Int32 × mm_S) := sX4_isNext_0 x1 z
noncomputable def sX4_readUnsure_148  (z : mm_S) : Option (mm_S) := some (z)
noncomputable def sX4_readUnsure_139 (y2 : Int32) (z : mm_S) : Option (mm_S) := (sX4_item 21 y2 0 0 z).bind fun q9 => (sX4_readUnsure_148 q9)
noncomputable def sX4_readUnsure_129 (y2 : Int32) (z : mm_S) : Option (mm_S) := (sX4_readUnsure_139 y2 ((mm_ui z.1 0 30 ((z.1 0 30) + 1)), z.2))
noncomputable def sX4_readUnsure_112 (y2 : Int32) (z : mm_S) : Option (mm_S) := if (z.1 0 23) = 0 then if (z.1 0 30) < 0 ∨ 4 ≤ Int32.toNatClampNeg (z.1 0 30) then none else (sX4_readUnsure_129 y2 ((mm_ui z.1 17 (Int32.toNatClampNeg (z.1 0 30)) y2), z.2)) else (sX4_readUnsure_148 z)
noncomputable def lX4_readUnsure_55 (s : Int32 × Int32 × Int32 × mm_S) : Option ((Int32 × Int32 × Int32 × mm_S) ⊕ (mm_S)) := if (s.2.2.2.1 0 30) ≤ s.2.2.1 then if s.1 = 0 then if s.2.1 < 0 then (sX4_must 0 s.2.2.2).bind fun q6 => ((sX4_readUnsure_112 s.2.1 q6).map fun w => (Sum.inr w)) else if 36 ≤ s.2.1 then (sX4_must 0 s.2.2.2).bind fun q7 => ((sX4_readUnsure_112 s.2.1 q7).map fun w => (Sum.inr w)) else (sX4_must 1 s.2.2.2).bind fun q8 => ((sX4_readUnsure_112 s.2.1 q8).map fun w => (Sum.inr w)) else (sX4_must 0 s.2.2.2).bind fun q5 => ((sX4_readUnsure_112 s.2.1 q5).map fun w => (Sum.inr w)) else if s.1 = 0 then if s.2.2.1 < 0 ∨ 4 ≤ Int32.toNatClampNeg s.2.2.1 then none else if (s.2.2.2.1 17 (Int32.toNatClampNeg s.2.2.1)) = s.2.1 then some (.inl (1, s.2.1, (s.2.2.1 + 1), s.2.2.2)) else some (.inl (0, s.2.1, (s.2.2.1 + 1), s.2.2.2)) else some (.inl (1, s.2.1, (s.2.2.1 + 1), s.2.2.2))
noncomputable def sX4_readUnsure_55 (y1 : Int32) (y2 : Int32) (y3 : Int32) (z : mm_S) : Option (mm_S) := mm_wh (lX4_readUnsure_55 ) mm_fu (y1, y2, y3, z)
noncomputable def sX4_readUnsure_27  (z : mm_S) : Option (mm_S) := if (z.1 0 23) = 0 then if (z.1 0 21) = 2 then (sX4_readUnsure_55 0 (z.1 0 22) 0 z) else (sX4_readUnsure_55 0 (-1) 0 z) else (sX4_readUnsure_55 0 (-1) 0 z)
noncomputable def sX4_readUnsure_0  (z : mm_S) : Option (mm_S) := (sX4_isWord 13 z).bind fun q1 => if q1.1 = 0 then (sX4_must 0 q1.2).bind fun q2 => (sX4_readUnsure_27 q2) else if 4 ≤ (q1.2.1 0 30) then (sX4_must 0 q1.2).bind fun q3 => (sX4_readUnsure_27 q3) else (sX4_must 1 q1.2).bind fun q4 => (sX4_readUnsure_27 q4)
noncomputable def sX4_readUnsure  (z : mm_S) : Option (mm_S) := sX4_readUnsure_0  z
noncomputable def sX4_readItem_233  (z : mm_S) : Option (mm_S) := some (z)
noncomputable def sX4_readItem_101  (z : mm_S) : Option (mm_S) := (sX4_readItem_233 z)
noncomputable def sX4_readItem_60 (y1 : Int32) (z : mm_S) : Option (mm_S) := (sX4_number 0 35 z).bind fun q21 => (sX4_isNext 15 q21.2).bind fun q22 => if q22.1 = 0 then (sX4_item y1 q21.1 6 0 q22.2).bind fun q23 => (sX4_readItem_101 q23) else (sX4_number 1 20 q22.2).bind fun q24 => (sX4_item y1 q21.1 q24.1 0 q24.2).bind fun q25 => (sX4_readItem_101 q25)
noncomputable def sX4_readItem_70 (y1 : Int32) (z : mm_S) : Option (mm_S) := (sX4_isNext 15 z).bind fun q17 => if q17.1 = 0 then (sX4_item y1 0 6 0 q17.2).bind fun q18 => (sX4_readItem_101 q18) else (sX4_number 1 20 q17.2).bind fun q19 => (sX4_item y1 0 q19.1 0 q19.2).bind fun q20 => (sX4_readItem_101 q20)
noncomputable def sX4_readItem_50 (y1 : Int32) (z : mm_S) : Option (mm_S) := (sX4_isNext 14 z).bind fun q15 => if q15.1 = 0 then (sX4_readItem_70 y1 q15.2) else (sX4_readItem_60 y1 q15.2)
noncomputable def sX4_readItem_40 (y1 : Int32) (z : mm_S) : Option (mm_S) := (sX4_readItem_50 y1 ((mm_ui z.1 0 28 ((z.1 0 28) + 1)), z.2))
noncomputable def sX4_readItem_152  (z : mm_S) : Option (mm_S) := (sX4_readItem_233 z)
noncomputable def sX4_readItem_121 (y2 : Int32) (y3 : Int32) (z : mm_S) : Option (mm_S) := (sX4_isNext 16 z).bind fun q11 => if q11.1 = 0 then (sX4_item (10 + y2) y3 y3 0 q11.2).bind fun q12 => (sX4_readItem_152 q12) else (sX4_number y3 35 q11.2).bind fun q13 => (sX4_item (10 + y2) y3 q13.1 0 q13.2).bind fun q14 => (sX4_readItem_152 q14)
noncomputable def sX4_readItem_113 (y2 : Int32) (z : mm_S) : Option (mm_S) := (sX4_number 0 35 z).bind fun q10 => (sX4_readItem_121 y2 q10.1 q10.2)
noncomputable def sX4_readItem_226  (z : mm_S) : Option (mm_S) := (sX4_readItem_233 z)
noncomputable def sX4_readItem_210 (y3 : Int32) (y4 : Int32) (z : mm_S) : Option (mm_S) := (sX4_number 0 99 z).bind fun q27 => (sX4_item 20 y3 y4 q27.1 q27.2).bind fun q28 => (sX4_readItem_226 q28)
noncomputable def sX4_readItem_201 (y3 : Int32) (z : mm_S) : Option (mm_S) := (sX4_number 0 35 z).bind fun q26 => (sX4_readItem_210 y3 q26.1 q26.2)
noncomputable def sX4_readItem_193  (z : mm_S) : Option (mm_S) := (sX4_number 0 35 z).bind fun q16 => (sX4_readItem_201 q16.1 q16.2)
noncomputable def sX4_readItem_183  (z : mm_S) : Option (mm_S) := (sX4_readItem_193 ((mm_ui z.1 0 29 ((z.1 0 29) + 1)), z.2))
noncomputable def sX4_readItem_165  (z : mm_S) : Option (mm_S) := if 8 ≤ (z.1 0 29) then (sX4_must 0 z).bind fun q8 => (sX4_readItem_183 q8) else (sX4_must 1 z).bind fun q9 => (sX4_readItem_183 q9)
noncomputable def sX4_readItem_18 (y1 : Int32) (y2 : Int32) (z : mm_S) : Option (mm_S) := if y1 < 0 then if y2 < 0 then (sX4_isWord 12 z).bind fun q3 => if q3.1 = 0 then (sX4_readUnsure  q3.2).bind fun q4 => (sX4_readItem_233 q4) else (sX4_readItem_165 q3.2) else (sX4_must 1 z).bind fun q5 => (sX4_readItem_113 y2 q5) else if 6 ≤ (z.1 0 28) then (sX4_must 0 z).bind fun q6 => (sX4_readItem_40 y1 q6) else (sX4_must 1 z).bind fun q7 => (sX4_readItem_40 y1 q7)
noncomputable def sX4_readItem_9 (y1 : Int32) (z : mm_S) : Option (mm_S) := (sX4_oneOf 15 z).bind fun q2 => (sX4_readItem_18 y1 q2.1 q2.2)
noncomputable def sX4_readItem_0  (z : mm_S) : Option (mm_S) := (sX4_oneOf 14 z).bind fun q1 => (sX4_readItem_9 q1.1 q1.2)
noncomputable def sX4_readItem  (z : mm_S) : Option (mm_S) := sX4_readItem_0  z
noncomputable def sX4_text_70 (y1 : Int32) (z : mm_S) : Option ((Int32 × mm_S) ⊕ (Int32 × mm_S)) := some (.inl ((y1 + 1), z))
noncomputable def sX4_text_122  (z : mm_S) : Option ((mm_S) ⊕ (Int32 × mm_S)) := some (.inl z)
noncomputable def sX4_text_118  (z : mm_S) : Option ((mm_S) ⊕ (Int32 × mm_S)) := (sX4_readItem  z).bind fun q11 => (sX4_text_122 q11)
noncomputable def sX4_text_190 (y1 : Int32) (y2 : Int32) (z : mm_S) : Option ((Int32 × Int32 × mm_S) ⊕ (Int32 × mm_S)) := some (.inl (y1, (y2 + 1), z))
noncomputable def lX4_text_164 (s : Int32 × Int32 × mm_S) : Option ((Int32 × Int32 × mm_S) ⊕ (Int32 × mm_S)) := if (s.2.2.1 0 27) ≤ s.2.1 then some (.inr (s.1, s.2.2)) else (sX4_isSo (4 * s.2.1) s.2.2).bind fun q12 => if 0 ≤ q12.1 then (sX4_text_190 (s.1 + 1) s.2.1 q12.2) else (sX4_text_190 (s.1 + 0) s.2.1 q12.2)
noncomputable def sX4_text_164 (y1 : Int32) (y2 : Int32) (z : mm_S) : Option (Int32 × mm_S) := mm_wh (lX4_text_164 ) mm_fu (y1, y2, z)
noncomputable def sX4_text_146  (z : mm_S) : Option (Int32 × mm_S) := if (z.1 0 23) = 0 then (sX4_text_164 0 0 z) else some (((-1) - (z.1 0 19)), z)
noncomputable def sX4_text_141  (z : mm_S) : Option (Int32 × mm_S) := (sX4_text_146 ((mm_ui z.1 0 18 0), z.2))
noncomputable def lX4_text_84 (s : mm_S) : Option ((mm_S) ⊕ (Int32 × mm_S)) := if (s.1 0 23) = 0 then if (s.1 0 21) = 3 then if (s.1 0 19) < 0 ∨ 120 ≤ Int32.toNatClampNeg (s.1 0 19) then none else if (s.1 13 (Int32.toNatClampNeg (s.1 0 19))) = 59 then (sX4_must 1 s).bind fun q10 => (sX4_text_118 q10) else if (s.1 0 21) = 0 then (sX4_must 1 s).bind fun q9 => ((sX4_text_141 q9).map fun w => (Sum.inr w)) else (sX4_must 0 s).bind fun q8 => ((sX4_text_141 q8).map fun w => (Sum.inr w)) else if (s.1 0 21) = 0 then (sX4_must 1 s).bind fun q7 => ((sX4_text_141 q7).map fun w => (Sum.inr w)) else (sX4_must 0 s).bind fun q6 => ((sX4_text_141 q6).map fun w => (Sum.inr w)) else if (s.1 0 21) = 0 then (sX4_must 1 s).bind fun q5 => ((sX4_text_141 q5).map fun w => (Sum.inr w)) else (sX4_must 0 s).bind fun q4 => ((sX4_text_141 q4).map fun w => (Sum.inr w))
noncomputable def sX4_text_84  (z : mm_S) : Option (Int32 × mm_S) := mm_wh (lX4_text_84 ) mm_fu z
noncomputable def sX4_text_80  (z : mm_S) : Option (Int32 × mm_S) := (sX4_readItem  z).bind fun q3 => (sX4_text_84 q3)
noncomputable def lX4_text_47 (s : Int32 × mm_S) : Option ((Int32 × mm_S) ⊕ (Int32 × mm_S)) := if (s.2.1 0 30) ≤ s.1 then (sX4_next  s.2).bind fun q1 => ((sX4_text_80 q1).map fun w => (Sum.inr w)) else if (69 + s.1) < 0 ∨ 97 ≤ Int32.toNatClampNeg (69 + s.1) then none else if s.1 < 0 ∨ 4 ≤ Int32.toNatClampNeg s.1 then none else let u2 : mm_S := ((mm_ui s.2.1 17 (Int32.toNatClampNeg s.1) (s.2.1 1 (Int32.toNatClampNeg (69 + s.1)))), s.2.2); (sX4_text_70 s.1 u2)
noncomputable def sX4_text_47 (y1 : Int32) (z : mm_S) : Option (Int32 × mm_S) := mm_wh (lX4_text_47 ) mm_fu (y1, z)
noncomputable def sX4_text_45  (z : mm_S) : Option (Int32 × mm_S) := (sX4_text_47 0 z)
noncomputable def sX4_text_35  (z : mm_S) : Option (Int32 × mm_S) := (sX4_text_45 ((mm_ui z.1 0 30 (z.1 1 3)), z.2))
noncomputable def sX4_text_25  (z : mm_S) : Option (Int32 × mm_S) := (sX4_text_35 ((mm_ui z.1 0 29 (z.1 1 2)), z.2))
noncomputable def sX4_text_15  (z : mm_S) : Option (Int32 × mm_S) := (sX4_text_25 ((mm_ui z.1 0 28 (z.1 1 1)), z.2))
noncomputable def sX4_text_10  (z : mm_S) : Option (Int32 × mm_S) := (sX4_text_15 ((mm_ui z.1 0 27 0), z.2))
noncomputable def sX4_text_5  (z : mm_S) : Option (Int32 × mm_S) := (sX4_text_10 ((mm_ui z.1 0 23 0), z.2))
noncomputable def sX4_text_0  (z : mm_S) : Option (Int32 × mm_S) := (sX4_text_5 ((mm_ui z.1 0 20 0), z.2))
noncomputable def sX4_text  (z : mm_S) : Option (Int32 × mm_S) := sX4_text_0  z
noncomputable def sX2_isWord_57  (z : mm_S) : Option (Int32 × mm_S) := some (0, z)
noncomputable def lX2_isWord_28 (s : Nat × Int32 × mm_S) : Option ((Nat × Int32 × mm_S) ⊕ (Int32 × mm_S)) := if (tx_len s.1) ≤ s.2.1 then some (.inr (1, s.2.2)) else (tx_at s.1 s.2.1 s.2.2).bind fun q1 => if (pX3_at 38 ((s.2.2.1 37 3) + s.2.1) s.2.2) = q1.1 then some (.inl (s.1, (s.2.1 + 1), q1.2)) else ((sX2_isWord_57 q1.2).map fun w => (Sum.inr w))
noncomputable def sX2_isWord_28 (y1 : Nat) (y2 : Int32) (z : mm_S) : Option (Int32 × mm_S) := mm_wh (lX2_isWord_28 ) mm_fu (y1, y2, z)
noncomputable def sX2_isWord_0 (x1 : Nat) (z : mm_S) : Option (Int32 × mm_S) := if (z.1 37 2) = 1 then if ((z.1 37 4) - (z.1 37 3)) = (tx_len x1) then (sX2_isWord_28 x1 0 z) else some (0, z) else some (0, z)
noncomputable def sX2_isWord (x1 : Nat) (z : mm_S) : Option (Int32 × mm_S) := sX2_isWord_0 x1 z
noncomputable def sX2_kindTold_9  (z : mm_S) : Option (Int32 × mm_S) := some (0, z)
noncomputable def sX2_kindTold_20  (z : mm_S) : Option (Int32 × mm_S) := some (1, z)
noncomputable def sX2_kindTold_31  (z : mm_S) : Option (Int32 × mm_S) := some (2, z)
noncomputable def sX2_kindTold_42  (z : mm_S) : Option (Int32 × mm_S) := some (3, z)
noncomputable def sX2_kindTold_53  (z : mm_S) : Option (Int32 × mm_S) := some (4, z)
noncomputable def sX2_kindTold_64  (z : mm_S) : Option (Int32 × mm_S) := some (5, z)
noncomputable def sX2_kindTold_75  (z : mm_S) : Option (Int32 × mm_S) := some (6, z)
noncomputable def sX2_kindTold_0  (z : mm_S) : Option (Int32 × mm_S) := (sX2_isWord 0 z).bind fun q1 => if q1.1 = 0 then (sX2_isWord 1 q1.2).bind fun q2 => if q2.1 = 0 then (sX2_isWord 2 q2.2).bind fun q3 => if q3.1 = 0 then (sX2_isWord 3 q3.2).bind fun q4 => if q4.1 = 0 then (sX2_isWord 4 q4.2).bind fun q5 => if q5.1 = 0 then (sX2_isWord 5 q5.2).bind fun q6 => if q6.1 = 0 then (sX2_isWord 6 q6.2).bind fun q7 => if q7.1 = 0 then some ((-1), q7.2) else (sX2_kindTold_75 q7.2) else (sX2_kindTold_64 q6.2) else (sX2_kindTold_53 q5.2) else (sX2_kindTold_42 q4.2) else (sX2_kindTold_31 q3.2) else (sX2_kindTold_20 q2.2) else (sX2_kindTold_9 q1.2)
noncomputable def sX2_kindTold  (z : mm_S) : Option (Int32 × mm_S) := sX2_kindTold_0  z
noncomputable def sX2_readCrew_98  (z : mm_S) : Option (Int32 × mm_S) := some (1, z)
noncomputable def sX2_readCrew_90 (y1 : Nat) (y2 : Int32) (y3 : Int32) (y4 : Int32) (z : mm_S) : Option (Int32 × mm_S) := let u5 := (tX0_addCrew y1 y2 y3 y4 z); (sX2_readCrew_98 u5)
noncomputable def sX2_readCrew_68 (y1 : Nat) (y2 : Int32) (y3 : Int32) (z : mm_S) : Option (Int32 × mm_S) := if (pX2_isNumber 1 20 z) = 0 then some (0, z) else (sX2_nextToken  z).bind fun q8 => (sX2_readCrew_90 y1 y2 y3 (z.1 37 5) q8)
noncomputable def sX2_readCrew_64 (y1 : Nat) (y2 : Int32) (y3 : Int32) (z : mm_S) : Option (Int32 × mm_S) := (sX2_nextToken  z).bind fun q6 => (sX2_readCrew_68 y1 y2 y3 q6)
noncomputable def sX2_readCrew_51 (y1 : Nat) (y2 : Int32) (y3 : Int32) (z : mm_S) : Option (Int32 × mm_S) := (sX2_isWord 15 z).bind fun q3 => if q3.1 = 0 then (sX2_readCrew_90 y1 y2 y3 6 q3.2) else (sX2_readCrew_64 y1 y2 y3 q3.2)
noncomputable def sX2_readCrew_30 (y1 : Nat) (y2 : Int32) (z : mm_S) : Option (Int32 × mm_S) := if (pX2_isNumber 0 35 z) = 0 then some (0, z) else (sX2_nextToken  z).bind fun q7 => (sX2_readCrew_51 y1 y2 (z.1 37 5) q7)
noncomputable def sX2_readCrew_26 (y1 : Nat) (y2 : Int32) (z : mm_S) : Option (Int32 × mm_S) := (sX2_nextToken  z).bind fun q4 => (sX2_readCrew_30 y1 y2 q4)
noncomputable def sX2_readCrew_15 (y1 : Nat) (y2 : Int32) (z : mm_S) : Option (Int32 × mm_S) := (sX2_isWord 14 z).bind fun q2 => if q2.1 = 0 then (sX2_readCrew_51 y1 y2 0 q2.2) else (sX2_readCrew_26 y1 y2 q2.2)
noncomputable def sX2_readCrew_0 (x1 : Nat) (x2 : Int32) (z : mm_S) : Option (Int32 × mm_S) := if (z.1 x1 4) < 6 then (sX2_nextToken  z).bind fun q1 => (sX2_readCrew_15 x1 x2 q1) else some (0, z)
noncomputable def sX2_readCrew (x1 : Nat) (x2 : Int32) (z : mm_S) : Option (Int32 × mm_S) := sX2_readCrew_0 x1 x2 z
noncomputable def sX2_stuffTold_9  (z : mm_S) : Option (Int32 × mm_S) := some (0, z)
noncomputable def sX2_stuffTold_20  (z : mm_S) : Option (Int32 × mm_S) := some (1, z)
noncomputable def sX2_stuffTold_31  (z : mm_S) : Option (Int32 × mm_S) := some (2, z)
noncomputable def sX2_stuffTold_42  (z : mm_S) : Option (Int32 × mm_S) := some (3, z)
noncomputable def sX2_stuffTold_53  (z : mm_S) : Option (Int32 × mm_S) := some (4, z)
noncomputable def sX2_stuffTold_0  (z : mm_S) : Option (Int32 × mm_S) := (sX2_isWord 7 z).bind fun q1 => if q1.1 = 0 then (sX2_isWord 8 q1.2).bind fun q2 => if q2.1 = 0 then (sX2_isWord 9 q2.2).bind fun q3 => if q3.1 = 0 then (sX2_isWord 10 q3.2).bind fun q4 => if q4.1 = 0 then (sX2_isWord 11 q4.2).bind fun q5 => if q5.1 = 0 then some ((-1), q5.2) else (sX2_stuffTold_53 q5.2) else (sX2_stuffTold_42 q4.2) else (sX2_stuffTold_31 q3.2) else (sX2_stuffTold_20 q2.2) else (sX2_stuffTold_9 q1.2)
noncomputable def sX2_stuffTold  (z : mm_S) : Option (Int32 × mm_S) := sX2_stuffTold_0  z
noncomputable def sX2_readStuff_90 (y1 : Nat) (y2 : Int32) (y4 : Int32) (y5 : Int32) (z : mm_S) : Option ((Nat × Int32 × Int32 × Int32 × mm_S) ⊕ (Int32 × mm_S)) := some (.inl (y1, y2, y4, (y5 + 1), z))
noncomputable def lX2_readStuff_66 (s : Nat × Int32 × Int32 × Int32 × mm_S) : Option ((Nat × Int32 × Int32 × Int32 × mm_S) ⊕ (Int32 × mm_S)) := if s.2.2.1 < s.2.2.2.1 then some (.inr (1, s.2.2.2.2)) else if 36 ≤ s.2.2.2.1 then some (.inr (1, s.2.2.2.2)) else let u5 := (tX1_put (s.1 + 1) s.2.2.2.1 s.2.1 s.2.2.2.2); (sX2_readStuff_90 s.1 s.2.1 s.2.2.1 s.2.2.2.1 u5)
noncomputable def sX2_readStuff_66 (y1 : Nat) (y2 : Int32) (y4 : Int32) (y5 : Int32) (z : mm_S) : Option (Int32 × mm_S) := mm_wh (lX2_readStuff_66 ) mm_fu (y1, y2, y4, y5, z)
noncomputable def sX2_readStuff_63 (y1 : Nat) (y2 : Int32) (y3 : Int32) (y4 : Int32) (z : mm_S) : Option (Int32 × mm_S) := (sX2_readStuff_66 y1 y2 y4 y3 z)
noncomputable def sX2_readStuff_41 (y1 : Nat) (y2 : Int32) (y3 : Int32) (z : mm_S) : Option (Int32 × mm_S) := if (pX2_isNumber y3 35 z) = 0 then some (0, z) else (sX2_nextToken  z).bind fun q6 => (sX2_readStuff_63 y1 y2 y3 (z.1 37 5) q6)
noncomputable def sX2_readStuff_37 (y1 : Nat) (y2 : Int32) (y3 : Int32) (z : mm_S) : Option (Int32 × mm_S) := (sX2_nextToken  z).bind fun q4 => (sX2_readStuff_41 y1 y2 y3 q4)
noncomputable def sX2_readStuff_25 (y1 : Nat) (y2 : Int32) (y3 : Int32) (z : mm_S) : Option (Int32 × mm_S) := (sX2_isWord 16 z).bind fun q3 => if q3.1 = 0 then (sX2_readStuff_63 y1 y2 y3 y3 q3.2) else (sX2_readStuff_37 y1 y2 y3 q3.2)
noncomputable def sX2_readStuff_4 (y1 : Nat) (y2 : Int32) (z : mm_S) : Option (Int32 × mm_S) := if (pX2_isNumber 0 35 z) = 0 then some (0, z) else (sX2_nextToken  z).bind fun q2 => (sX2_readStuff_25 y1 y2 (z.1 37 5) q2)
noncomputable def sX2_readStuff_0 (x1 : Nat) (x2 : Int32) (z : mm_S) : Option (Int32 × mm_S) := (sX2_nextToken  z).bind fun q1 => (sX2_readStuff_4 x1 x2 q1)
noncomputable def sX2_readStuff (x1 : Nat) (x2 : Int32) (z : mm_S) : Option (Int32 × mm_S) := sX2_readStuff_0 x1 x2 z
noncomputable def sX2_readItem_43 (y1 : Nat) (z : mm_S) : Option (Int32 × mm_S) := (sX2_readHeard y1 z).bind fun q7 => if q7.1 = 0 then some (0, q7.2) else if q7.1 = 1 then some (1, q7.2) else none
noncomputable def sX2_readItem_66  (z : mm_S) : Option (Int32 × mm_S) := some (1, z)
noncomputable def sX2_readItem_58 (y1 : Nat) (z : mm_S) : Option (Int32 × mm_S) := (sX2_readUnsure y1 z).bind fun q8 => if q8.1 = 0 then some (0, q8.2) else (sX2_readItem_66 q8.2)
noncomputable def sX2_readItem_49 (y1 : Nat) (z : mm_S) : Option (Int32 × mm_S) := (sX2_isWord 13 z).bind fun q6 => if q6.1 = 0 then some (0, q6.2) else (sX2_readItem_58 y1 q6.2)
noncomputable def sX2_readItem_34 (y1 : Nat) (z : mm_S) : Option (Int32 × mm_S) := (sX2_isWord 12 z).bind fun q5 => if q5.1 = 0 then (sX2_readItem_49 y1 q5.2) else (sX2_readItem_43 y1 q5.2)
noncomputable def sX2_readItem_22 (y1 : Nat) (y3 : Int32) (z : mm_S) : Option (Int32 × mm_S) := if y3 = (-1) then (sX2_readItem_34 y1 z) else (sX2_readStuff y1 y3 z).bind fun q4 => if q4.1 = 0 then some (0, q4.2) else if q4.1 = 1 then some (1, q4.2) else none
noncomputable def sX2_readItem_17 (y1 : Nat) (z : mm_S) : Option (Int32 × mm_S) := (sX2_stuffTold  z).bind fun q3 => (sX2_readItem_22 y1 q3.1 q3.2)
noncomputable def sX2_readItem_5 (y1 : Nat) (y2 : Int32) (z : mm_S) : Option (Int32 × mm_S) := if y2 = (-1) then (sX2_readItem_17 y1 z) else (sX2_readCrew y1 y2 z).bind fun q2 => if q2.1 = 0 then some (0, q2.2) else if q2.1 = 1 then some (1, q2.2) else none
noncomputable def sX2_readItem_0 (x1 : Nat) (z : mm_S) : Option (Int32 × mm_S) := (sX2_kindTold  z).bind fun q1 => (sX2_readItem_5 x1 q1.1 q1.2)
noncomputable def sX2_readItem (x1 : Nat) (z : mm_S) : Option (Int32 × mm_S) := sX2_readItem_0 x1 z
noncomputable def sX2_readInto_25  (z : mm_S) : Option (Int32 × mm_S) := some (((-1) - (z.1 37 3)), z)
noncomputable def sX2_readInto_60 (y1 : Nat) (y2 : Int32) (z : mm_S) : Option ((Nat × Int32 × mm_S) ⊕ (Int32 × mm_S)) := some (.inl (y1, (y2 + 1), z))
noncomputable def lX2_readInto_11 (s : Nat × Int32 × mm_S) : Option ((Nat × Int32 × mm_S) ⊕ (Int32 × mm_S)) := if 120 < s.2.1 then some (.inr (((-1) - (s.2.2.1 37 3)), s.2.2)) else (sX2_readItem s.1 s.2.2).bind fun q2 => if q2.1 = 0 then ((sX2_readInto_25 q2.2).map fun w => (Sum.inr w)) else if (q2.2.1 37 2) = 0 then some (.inr (s.2.1, q2.2)) else if (q2.2.1 37 2) = 3 then (sX2_nextToken  q2.2).bind fun q3 => (sX2_readInto_60 s.1 s.2.1 q3) else some (.inr (((-1) - (q2.2.1 37 3)), q2.2))
noncomputable def sX2_readInto_11 (y1 : Nat) (y2 : Int32) (z : mm_S) : Option (Int32 × mm_S) := mm_wh (lX2_readInto_11 ) mm_fu (y1, y2, z)
noncomputable def sX2_readInto_9 (y1 : Nat) (z : mm_S) : Option (Int32 × mm_S) := (sX2_readInto_11 y1 1 z)
noncomputable def sX2_readInto_5 (y1 : Nat) (z : mm_S) : Option (Int32 × mm_S) := (sX2_nextToken  z).bind fun q1 => (sX2_readInto_9 y1 q1)
noncomputable def sX2_readInto_0 (x1 : Nat) (z : mm_S) : Option (Int32 × mm_S) := (sX2_readInto_5 x1 ((mm_ui z.1 37 4 0), z.2))
noncomputable def sX2_readInto (x1 : Nat) (z : mm_S) : Option (Int32 × mm_S) := sX2_readInto_0 x1 z
noncomputable def sX3_text_46 (y1 : Int32) (z : mm_S) : Option (Int32 × mm_S) := some (y1, z)
noncomputable def sX3_text_31 (y1 : Int32) (z : mm_S) : Option (Int32 × mm_S) := if y1 ≤ 0 then (sX3_text_46 y1 z) else let u3 := (tX0_become 1 25 z); (sX3_text_46 y1 u3)
noncomputable def sX3_text_23 (y1 : Int32) (z : mm_S) : Option (Int32 × mm_S) := (sX3_text_31 y1 ((mm_ui z.1 37 1 0), z.2))
noncomputable def sX3_text_11  (z : mm_S) : Option (Int32 × mm_S) := (sX2_readInto 25 z).bind fun q2 => (sX3_text_23 q2.1 q2.2)
noncomputable def sX3_text_0  (z : mm_S) : Option (Int32 × mm_S) := let u1 := (tX0_become 25 1 z); (sX3_text_11 u1)
noncomputable def sX3_text  (z : mm_S) : Option (Int32 × mm_S) := sX3_text_0  z
