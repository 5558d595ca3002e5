/-! ===== a row of numbers: what a mine is ===== -/
def gN (x : Int32) : Nat := x.toNatClampNeg
theorem gN_N {n : Nat} (h : n < 2 ^ 31) : gN (nI n) = n := nI_clamp h
def yrf (r : Nat → Int32) : Nat := gN (r 0)
def nC (r : Nat → Int32) : Nat := gN (r 1)
def nB (r : Nat → Int32) : Nat := gN (r 2)
def nU (r : Nat → Int32) : Nat := gN (r 3)
def stf (r : Nat → Int32) (c : Nat) : Nat := gN (r (15 + c))
def knd (r : Nat → Int32) (k : Nat) : Nat := gN (r (51 + 3 * k))
def plc (r : Nat → Int32) (k : Nat) : Nat := gN (r (52 + 3 * k))
def frc (r : Nat → Int32) (k : Nat) : Nat := gN (r (53 + 3 * k))
def uns (r : Nat → Int32) (i : Nat) : Nat := gN (r (69 + i))
def bfr (r : Nat → Int32) (i : Nat) : Nat := gN (r (73 + 3 * i))
def bto (r : Nat → Int32) (i : Nat) : Nat := gN (r (74 + 3 * i))
def btm (r : Nat → Int32) (i : Nat) : Nat := gN (r (75 + 3 * i))
def isN (x : Int32) (n : Nat) : Prop := ∃ k, k < n ∧ x = nI k
theorem isN_g {x : Int32} {n : Nat} (h : isN x n) (hn : n < 2 ^ 31) : x = nI (gN x) ∧ gN x < n := by
  obtain ⟨k, hk, rfl⟩ := h
  rw [gN_N (by omega)]
  exact ⟨rfl, hk⟩
def okR (r : Nat → Int32) : Prop :=
  isN (r 0) 1000 ∧ isN (r 1) 7 ∧ isN (r 2) 9 ∧ isN (r 3) 5 ∧ (∀ i, i < 10 → r (5 + i) = -1 ∨ isN (r (5 + i)) 6) ∧ (∀ c, c < 36 → isN (r (15 + c)) 5) ∧ (∀ k, k < 6 → isN (r (51 + 3 * k)) 7 ∧ isN (r (52 + 3 * k)) 36 ∧ isN (r (53 + 3 * k)) 21) ∧ (∀ i, i < 4 → isN (r (69 + i)) 36) ∧
  ∀ i, i < 8 → isN (r (73 + 3 * i)) 36 ∧ isN (r (74 + 3 * i)) 36 ∧ isN (r (75 + 3 * i)) 100
section OK
variable {r : Nat → Int32}
theorem ok_yr (h : okR r) : r 0 = nI (yrf r) ∧ yrf r < 1000 := isN_g h.1 (by decide)
theorem ok_nC (h : okR r) : r 1 = nI (nC r) ∧ nC r < 7 := isN_g h.2.1 (by decide)
theorem ok_nB (h : okR r) : r 2 = nI (nB r) ∧ nB r < 9 := isN_g h.2.2.1 (by decide)
theorem ok_nU (h : okR r) : r 3 = nI (nU r) ∧ nU r < 5 := isN_g h.2.2.2.1 (by decide)
theorem ok_st (h : okR r) {c : Nat} (hc : c < 36) : r (15 + c) = nI (stf r c) ∧ stf r c < 5 := isN_g (h.2.2.2.2.2.1 c hc) (by decide)
theorem ok_kn (h : okR r) {k : Nat} (hk : k < 6) : r (51 + 3 * k) = nI (knd r k) ∧ knd r k < 7 := isN_g (h.2.2.2.2.2.2.1 k hk).1 (by decide)
theorem ok_pl (h : okR r) {k : Nat} (hk : k < 6) : r (52 + 3 * k) = nI (plc r k) ∧ plc r k < 36 := isN_g (h.2.2.2.2.2.2.1 k hk).2.1 (by decide)
theorem ok_fc (h : okR r) {k : Nat} (hk : k < 6) : r (53 + 3 * k) = nI (frc r k) ∧ frc r k < 21 := isN_g (h.2.2.2.2.2.2.1 k hk).2.2 (by decide)
theorem ok_un (h : okR r) {i : Nat} (hi : i < 4) : r (69 + i) = nI (uns r i) ∧ uns r i < 36 := isN_g (h.2.2.2.2.2.2.2.1 i hi) (by decide)
theorem ok_bf (h : okR r) {i : Nat} (hi : i < 8) : r (73 + 3 * i) = nI (bfr r i) ∧ bfr r i < 36 := isN_g (h.2.2.2.2.2.2.2.2 i hi).1 (by decide)
theorem ok_bt (h : okR r) {i : Nat} (hi : i < 8) : r (74 + 3 * i) = nI (bto r i) ∧ bto r i < 36 := isN_g (h.2.2.2.2.2.2.2.2 i hi).2.1 (by decide)
theorem ok_bm (h : okR r) {i : Nat} (hi : i < 8) : r (75 + 3 * i) = nI (btm r i) ∧ btm r i < 100 := isN_g (h.2.2.2.2.2.2.2.2 i hi).2.2 (by decide)
theorem ok_ms {w : mm_S} (h : okR r) (hw : w.1 1 = r) : ms w (stf r) := fun c hc => by
  rw [hw]
  exact ⟨(ok_st h hc).2, (ok_st h hc).1⟩
end OK
/-- the class's mine o is the row r -/
def RM (o : Nat) (z : mm_S) (r : Nat → Int32) : Prop :=
  z.1 o 12 = r 0 ∧ z.1 o 4 = r 1 ∧ z.1 o 10 = r 2 ∧ z.1 o 6 = r 3 ∧ z.1 o 13 = r 4 ∧ (∀ i, i < 10 → z.1 (o + 11) i = r (5 + i)) ∧ (∀ k, k < 6 → z.1 (o + 4) k = r (51 + 3 * k) ∧ z.1 (o + 5) k = r (52 + 3 * k) ∧ z.1 (o + 6) k = r (53 + 3 * k)) ∧
  (∀ i, i < 4 → z.1 (o + 7) i = r (69 + i)) ∧ (∀ i, i < 8 → z.1 (o + 8) i = r (73 + 3 * i) ∧ z.1 (o + 9) i = r (74 + 3 * i) ∧ z.1 (o + 10) i = r (75 + 3 * i)) ∧ sb (o + 1) z (stf r)
/-- the cells of a mine that are kept by what reads -/
theorem RM_k {o : Nat} {z z' : mm_S} {r : Nat → Int32} (h : RM o z r) (h1 : ∀ b, b = o ∨ (o + 4 ≤ b ∧ b ≤ o + 11) → z'.1 b = z.1 b) (h2 : z'.2 (o + 2) = z.2 (o + 2)) : RM o z' r := by
  obtain ⟨a1, a2, a3, a4, a5, a6, a7, a8, a9, a10⟩ := h
  unfold RM sb
  rw [h1 o (Or.inl rfl), h1 (o + 4) (by omega), h1 (o + 5) (by omega), h1 (o + 6) (by omega), h1 (o + 7) (by omega), h1 (o + 8) (by omega), h1 (o + 9) (by omega), h1 (o + 10) (by omega), h1 (o + 11) (by omega), show o + 1 + 1 = o + 2 from rfl, h2]
  exact ⟨a1, a2, a3, a4, a5, a6, a7, a8, a9, a10⟩
theorem oM {o : Nat} (h : o = 1 ∨ o = 13 ∨ o = 25) : lenX (o + 4) = 6 ∧ lenX (o + 5) = 6 ∧ lenX (o + 6) = 6 ∧ lenX (o + 7) = 4 ∧ lenX (o + 8) = 8 ∧ lenX (o + 9) = 8 ∧ lenX (o + 10) = 8 ∧ lenX (o + 11) = 10 ∧ (o + 1 = 2 ∨ o + 1 = 14 ∨ o + 1 = 26) := by
  rcases h with rfl | rfl | rfl <;> exact ⟨rfl, rfl, rfl, rfl, rfl, rfl, rfl, rfl, by omega⟩
/-! ===== crews ===== -/
def car (k f : Nat) : Nat := if k = 1 then 8 * f else if k = 2 then 8 * f + 5 else if k = 3 then 9 * f + 5 else if k = 4 then 2 * f else if k = 5 then 0 else 4 * f
def sta (k : Nat) : Nat := if k = 2 then 1 else if k = 3 ∨ k = 4 ∨ k = 5 then 2 else 0
/-- by when one hears, and 1 more (0: never) -/
def heb (k : Nat) : Nat := if k = 3 then 41 else if k = 4 ∨ k = 5 then 31 else if k = 6 then 0 else 61
def hebI (k : Nat) : Int32 := if heb k = 0 then -1 else nI (heb k - 1)
theorem car_le {k f : Nat} (hf : f < 21) : car k f ≤ 185 := by
  unfold car
  repeat' split
  all_goals omega
theorem sta_le (k : Nat) : sta k ≤ 2 := by
  unfold sta
  repeat' split
  all_goals omega
theorem x_car : ∀ k, k < 7 → ∀ f, f < 21 → pX3_carriesAs (nI k) (nI f) = nI (car k f) := by decide +kernel
theorem x_sta : ∀ k, k < 7 → pX3_startsAs (nI k) = nI (sta k) := by decide +kernel
theorem x_heb : ∀ k, k < 7 → pX3_hearsByAs (nI k) = hebI k := by decide +kernel
/-- HEARD of crew k in a cell (10000: none) -/
noncomputable def hrd (r : Nat → Int32) (k c : Nat) : Nat := if td (stf r) (plc r k) c ≤ car (knd r k) (frc r k) then td (stf r) (plc r k) c + sta (knd r k) else 10000
section XC
variable {o : Nat} {z : mm_S} {r : Nat → Int32}
theorem x_kindOf (ho : o = 1 ∨ o = 13 ∨ o = 25) (hm : RM o z r) (hr : okR r) {k : Nat} (hk : k < 6) : pX0_kindOf o (nI k) z = nI (knd r k) := by
  unfold pX0_kindOf
  rw [at_N _ (by rw [(oM ho).1]; exact hk), (hm.2.2.2.2.2.2.1 k hk).1, ← (ok_kn hr hk).1]
theorem x_placeOf (ho : o = 1 ∨ o = 13 ∨ o = 25) (hm : RM o z r) (hr : okR r) {k : Nat} (hk : k < 6) : pX0_placeOf o (nI k) z = nI (plc r k) := by
  unfold pX0_placeOf
  rw [at_N _ (by rw [(oM ho).2.1]; exact hk), (hm.2.2.2.2.2.2.1 k hk).2.1, ← (ok_pl hr hk).1]
theorem x_forceOf (ho : o = 1 ∨ o = 13 ∨ o = 25) (hm : RM o z r) (hr : okR r) {k : Nat} (hk : k < 6) : pX0_forceOf o (nI k) z = nI (frc r k) := by
  unfold pX0_forceOf
  rw [at_N _ (by rw [(oM ho).2.2.1]; exact hk), (hm.2.2.2.2.2.2.1 k hk).2.2, ← (ok_fc hr hk).1]
theorem x_carriesOf (ho : o = 1 ∨ o = 13 ∨ o = 25) (hm : RM o z r) (hr : okR r) {k : Nat} (hk : k < 6) : pX0_carriesOf o (nI k) z = nI (car (knd r k) (frc r k)) := by
  unfold pX0_carriesOf
  rw [x_kindOf ho hm hr hk, x_forceOf ho hm hr hk, x_car _ (ok_kn hr hk).2 _ (ok_fc hr hk).2]
theorem x_heardBy (ho : o = 1 ∨ o = 13 ∨ o = 25) (hm : RM o z r) (hr : okR r) {k c : Nat} (hk : k < 6) : pX0_heardBy o (nI k) (tI (td (stf r) (plc r k) c)) z = tI (hrd r k c) := by
  have hc := car_le (k := knd r k) (ok_fc hr hk).2
  have hs := sta_le (knd r k)
  unfold pX0_heardBy
  rw [x_carriesOf ho hm hr hk, x_kindOf ho hm hr hk, x_sta _ (ok_kn hr hk).2]
  unfold hrd
  generalize hd : td (stf r) (plc r k) c = d
  by_cases h : d < 10000
  · rw [if_neg (fun e => absurd h (tI_m.mp e)), tI_1 h]
    by_cases h2 : d ≤ car (knd r k) (frc r k)
    · rw [if_pos (nI_le h2 (by omega)), if_pos h2, tI_1 (by omega), nI_add]
    · rw [if_neg (fun e => h2 ((nI_leI (by omega) (by omega)).mp e)), if_neg h2]; rfl
  · rw [if_pos (tI_m.mpr h), if_neg (by omega)]; rfl
theorem x_heardAt (ho : o = 1 ∨ o = 13 ∨ o = 25) (hm : RM o z r) (hr : okR r) {k c : Nat} (hk : k < 6) (hc : c < 36) : hh_c (sX0_heardAt o (nI k) (nI c) z) (fun q => q.1 = tI (hrd r k c) ∧ frR (o + 1) z q.2) := by
  unfold sX0_heardAt sX0_heardAt_0
  rw [x_placeOf ho hm hr hk]
  refine hh_bd (x_timeBetween (oM ho).2.2.2.2.2.2.2.2 (ok_pl hr hk).2 hc hm.2.2.2.2.2.2.2.2.2) (fun q hq => hh_v ⟨?_, hq.2⟩)
  have hm2 : RM o q.2 r := RM_k hm (fun b hb => hq.2.1 b (by omega)) (hq.2.2 (o + 2) (by omega) (by omega))
  show pX0_heardBy o (nI k) q.1 q.2 = _
  rw [hq.1]
  exact x_heardBy ho hm2 hr hk
theorem x_fillHeard (ho : o = 1 ∨ o = 13 ∨ o = 25) (hm : RM o z r) (hr : okR r) {k x : Nat} (hk : k < 6) (hx : x = 43 ∨ x = 44) : hh_c (sX0_fillHeard o (nI k) x z) (fun z' => (∀ c, c < 36 → z'.1 x c = tI (hrd r k c)) ∧ frT (o + 1) x z z') := by
  have hx36 : lenX x = 36 := by rcases hx with rfl | rfl <;> rfl
  unfold sX0_fillHeard sX0_fillHeard_0 sX0_fillHeard_13 sX0_fillHeard_15
  rw [x_placeOf ho hm hr hk]
  refine hh_bd (x_timesFrom (x := x) (oM ho).2.2.2.2.2.2.2.2 (ok_pl hr hk).2 hx36 (by omega) hm.2.2.2.2.2.2.2.2.2) (fun z1 h1 => ?_)
  refine hh_up (fun j s => ∃ z', s = (nI k, x, nI j, z') ∧ j ≤ 36 ∧ (∀ c, c < 36 → z'.1 x c = if c < j then tI (hrd r k c) else tI (td (stf r) (plc r k) c)) ∧ frT (o + 1) x z z') 36 (by decide) ⟨z1, rfl, by decide, fun c hc => by rw [if_neg (by omega)]; exact h1.1 c hc, h1.2⟩ ?_
  rintro j s hj ⟨z', rfl, _, hv, hf⟩
  have h36 : (36 : Int32) ≤ nI j ↔ 36 ≤ j := nI_leI (a := 36) (by decide) (by omega)
  unfold lX0_fillHeard_15 sX0_fillHeard_37
  dsimp only
  refine hh_i (fun q => hh_v ⟨fun c hc => ?_, hf⟩) (fun q => ?_)
  · have := h36.mp q
    rw [hv c hc, if_pos (by omega)]
  have hj2 : j < 36 := Nat.lt_of_not_le fun y => q (h36.mpr y)
  have hm2 : RM o z' r := RM_k hm (fun b hb => hf.1 b (by omega) (by omega)) (hf.2 (o + 2) (by omega) (by omega))
  rw [at_N _ (by omega), hv j hj2, if_neg (by omega), x_heardBy ho hm2 hr hk, ex_N _ _ (by omega)]
  refine hh_v ⟨hj2, (mm_ui z'.1 x j (tI (hrd r k j)), z'.2), by rw [nI_1], by omega, fun c hc => ?_, ⟨fun b hb hb2 => (ru_n _ _ hb2).trans (hf.1 b hb hb2), hf.2⟩⟩
  by_cases y : c = j
  · subst y
    show mm_ui z'.1 x c _ x c = _
    rw [ru_s, if_pos (by omega)]
  · show mm_ui z'.1 x j _ x c = _
    rw [ru_i _ _ y, hv c hc]
    have : (c < j ↔ c < j + 1) := by omega
    simp only [this]
theorem x_reachOf (ho : o = 1 ∨ o = 13 ∨ o = 25) (hm : RM o z r) (hr : okR r) {k : Nat} (hk : k < 6) : hh_c (sX0_reachOf o (nI k) z) (fun q => tb_S q.1 ∧ (∀ c, c < 36 → (tb q.1 c = true ↔ hrd r k c < 10000)) ∧ frR (o + 1) z q.2) := by
  have hc := car_le (k := knd r k) (ok_fc hr hk).2
  have hs := sta_le (knd r k)
  unfold sX0_reachOf sX0_reachOf_0
  rw [x_placeOf ho hm hr hk, x_carriesOf ho hm hr hk]
  refine hh_bd (x_cellsWithin (oM ho).2.2.2.2.2.2.2.2 (ok_pl hr hk).2 (by omega) hm.2.2.2.2.2.2.2.2.2) (fun q hq => hh_v ⟨hq.1, fun c hc2 => ?_, hq.2.2⟩)
  show tb q.1 c = true ↔ _
  rw [hq.2.1 c hc2]
  unfold hrd
  by_cases h : td (stf r) (plc r k) c ≤ car (knd r k) (frc r k)
  · rw [if_pos h]
    exact ⟨fun _ => by omega, fun _ => h⟩
  · rw [if_neg h]
    exact ⟨fun x => absurd x h, fun x => by omega⟩
end XC
/-! ===== crews of the reference ===== -/
theorem gI {n L : Nat} (h : n < L) (hL : L < 2 ^ 31) : ¬ (nI n < 0 ∨ L ≤ Int32.toNatClampNeg (nI n)) := nI_in h hL
theorem m_at {k f : Nat} : pX4_at (nI k) (nI f) = nI (51 + 3 * k + f) := by
  unfold pX4_at
  rw [show (3 : Int32) = nI 3 from rfl, show (51 : Int32) = nI 51 from rfl, pk_mul, nI_add, nI_add]
theorem m_crewIs {w : mm_S} {k f : Nat} (hk : k < 6) (hf : f < 3) : sX4_crewIs (nI k) (nI f) w = some (w.1 1 (51 + 3 * k + f), w) := by
  unfold sX4_crewIs sX4_crewIs_0
  rw [m_at, if_neg (gI (by omega) (by decide)), nI_clamp (by omega)]
def abv (k : Nat) : Nat := [7, 0, 1, 2, 0, 4, 0].getD k 7
def kI (k : Nat) : Int32 := if k < 7 then nI k else -1
def und (k o : Nat) : Bool := ([[0], [1, 0], [2, 1, 0], [3, 2, 1, 0], [4, 0], [5, 4, 0], [6, 0]].getD k ([] : List Nat)).contains o
def dep (k : Nat) : Nat := [1, 2, 3, 4, 2, 3, 2].getD k 0
theorem und_s : ∀ k, k < 7 → ∀ o, o < 7 → k ≠ o → und k o = und (abv k) o := by decide +kernel
theorem und_r : ∀ k, k < 7 → und k k = true := by decide +kernel
theorem und_7 : ∀ o, o < 7 → und 7 o = false := by decide +kernel
theorem dep_s : ∀ k, k < 7 → dep (abv k) + 1 ≤ dep k ∧ abv k ≤ 7 := by decide +kernel
theorem dep_p : ∀ k, k < 8 → dep k ≤ 4 := by decide +kernel
theorem m_abv : ∀ k, k < 7 → pX4_above (nI k) = kI (abv k) := by decide +kernel
theorem x_abv : ∀ k, k < 7 → pX3_at14 47 (nI k) = kI (abv k) := by decide +kernel
theorem kI_1 {k : Nat} (h : k < 7) : kI k = nI k := if_pos h
theorem m_isUnder {w : mm_S} {k o : Nat} (hk : k < 7) (ho : o < 7) : hh_c (sX4_isUnder (nI k) (nI o) w) (fun q => q = (if und k o = true then 1 else 0, w)) := by
  unfold sX4_isUnder sX4_isUnder_0 sX4_isUnder_2
  refine hh_up (fun j s => ∃ a, a < 8 ∧ dep a + j ≤ 4 ∧ s = (nI o, kI a, w) ∧ und k o = und a o) 4 (by decide) ⟨k, by omega, dep_p k (by omega), by rw [kI_1 hk], rfl⟩ ?_
  rintro j s hj ⟨a, ha, hd, rfl, hu⟩
  unfold lX4_isUnder_2
  dsimp only
  by_cases h7 : a < 7
  · rw [kI_1 h7]
    refine hh_f (nI_pos (by omega)) (hh_i (fun q => hh_f (nI_pos (by omega)) (hh_v ?_)) (fun q => hh_v ?_))
    · have e := (nI_eq (by omega) (by omega)).mp q
      show _ = _
      rw [hu, e, if_pos (und_r _ ho)]
    · have e : a ≠ o := fun x => q (by rw [x])
      have d1 := dep_s a h7
      exact ⟨by omega, abv a, by omega, by omega, by rw [m_abv a h7], by rw [hu, und_s a h7 o ho e]⟩
  · obtain rfl : a = 7 := by omega
    refine hh_t (by decide) (hh_t (by decide) (hh_v ?_))
    show _ = _
    rw [hu, und_7 o ho]; rfl
section MC
variable {w : mm_S} {r : Nat → Int32}
theorem m_kind (hw : w.1 1 = r) (hr : okR r) {k : Nat} (hk : k < 6) : sX4_crewIs (nI k) 0 w = some (nI (knd r k), w) := by
  have := m_crewIs (w := w) (f := 0) hk (by decide)
  rw [hw] at this
  rw [← (ok_kn hr hk).1]; exact this
theorem m_place (hw : w.1 1 = r) (hr : okR r) {k : Nat} (hk : k < 6) : sX4_crewIs (nI k) 1 w = some (nI (plc r k), w) := by
  have := m_crewIs (w := w) (f := 1) hk (by decide)
  rw [hw, show 51 + 3 * k + 1 = 52 + 3 * k by omega] at this
  rw [← (ok_pl hr hk).1]; exact this
theorem m_force (hw : w.1 1 = r) (hr : okR r) {k : Nat} (hk : k < 6) : sX4_crewIs (nI k) 2 w = some (nI (frc r k), w) := by
  have := m_crewIs (w := w) (f := 2) hk (by decide)
  rw [hw, show 51 + 3 * k + 2 = 53 + 3 * k by omega] at this
  rw [← (ok_fc hr hk).1]; exact this
noncomputable def mcar (k f : Int32) : Int32 := if k = 1 then (8 * f) else if k = 2 then ((8 * f) + 5) else if k = 3 then ((9 * f) + 5) else if k = 4 then (2 * f) else if k = 5 then 0 else (4 * f)
theorem mcar_1 : ∀ k, k < 7 → ∀ f, f < 21 → mcar (nI k) (nI f) = nI (car k f) := by decide +kernel
theorem m_carries (hw : w.1 1 = r) (hr : okR r) {k : Nat} (hk : k < 6) : sX4_carries (nI k) w = some (nI (car (knd r k) (frc r k)), w) := by
  unfold sX4_carries sX4_carries_0
  rw [m_force hw hr hk]
  show sX4_carries_7 (nI k) (nI (frc r k)) w = _
  unfold sX4_carries_7
  rw [m_kind hw hr hk, ← mcar_1 _ (ok_kn hr hk).2 _ (ok_fc hr hk).2]
  unfold mcar
  show (if nI (knd r k) = 1 then _ else _) = _
  repeat' split
  all_goals rfl
theorem m_starts (hw : w.1 1 = r) (hr : okR r) {k : Nat} (hk : k < 6) : sX4_starts (nI k) w = some (nI (sta (knd r k)), w) := by
  unfold sX4_starts sX4_starts_0
  rw [m_kind hw hr hk]
  show sX4_starts_7 (nI (knd r k)) w = _
  have hk7 := (ok_kn hr hk).2
  generalize knd r k = q at *
  unfold sX4_starts_7
  have e2 : nI q = 2 ↔ q = 2 := nI_eq (b := 2) (by omega) (by decide)
  have e3 : nI q = 3 ↔ q = 3 := nI_eq (b := 3) (by omega) (by decide)
  have hu : ∀ q, q < 7 → q ≠ 2 → q ≠ 3 → (und q 4 = true ↔ (q = 4 ∨ q = 5)) := by decide +kernel
  unfold sta
  by_cases h2 : q = 2
  · rw [if_pos (e2.mpr h2), if_pos h2]; rfl
  · rw [if_neg (fun x => h2 (e2.mp x)), if_neg h2]
    by_cases h3 : q = 3
    · rw [if_pos (e3.mpr h3), if_pos (Or.inl h3)]; rfl
    · rw [if_neg (fun x => h3 (e3.mp x))]
      obtain ⟨v, hv, rfl⟩ := m_isUnder (w := w) hk7 (o := 4) (by decide)
      rw [show (4 : Int32) = nI 4 from rfl, hv]
      have hu' := hu q hk7 h2 h3
      by_cases h4 : q = 4 ∨ q = 5
      · rw [if_pos (Or.inr h4), if_pos (hu'.mpr h4)]; rfl
      · rw [if_neg (fun x => h4 (hu'.mp x)), if_neg (show ¬ (q = 3 ∨ q = 4 ∨ q = 5) by omega)]; rfl
theorem m_hearsBy (hw : w.1 1 = r) (hr : okR r) {k : Nat} (hk : k < 6) : sX4_hearsBy (nI k) w = some (hebI (knd r k), w) := by
  unfold sX4_hearsBy sX4_hearsBy_0
  rw [m_kind hw hr hk]
  show sX4_hearsBy_7 (nI (knd r k)) w = _
  have hk7 := (ok_kn hr hk).2
  generalize knd r k = q at *
  unfold sX4_hearsBy_7
  have e6 : nI q = 6 ↔ q = 6 := nI_eq (b := 6) (by omega) (by decide)
  have e3 : nI q = 3 ↔ q = 3 := nI_eq (b := 3) (by omega) (by decide)
  have hu : ∀ q, q < 7 → (und q 4 = true ↔ (q = 4 ∨ q = 5)) := by decide +kernel
  by_cases h6 : q = 6
  · rw [if_pos (e6.mpr h6)]; subst h6; rfl
  · rw [if_neg (fun x => h6 (e6.mp x))]
    by_cases h3 : q = 3
    · rw [if_pos (e3.mpr h3)]; subst h3; rfl
    · rw [if_neg (fun x => h3 (e3.mp x))]
      obtain ⟨v, hv, rfl⟩ := m_isUnder (w := w) hk7 (o := 4) (by decide)
      rw [show (4 : Int32) = nI 4 from rfl, hv]
      have hu' := hu q hk7
      by_cases h4 : q = 4 ∨ q = 5
      · rw [if_pos (hu'.mpr h4)]
        rcases h4 with rfl | rfl <;> rfl
      · rw [if_neg (fun x => h4 (hu'.mp x))]
        have : q = 0 ∨ q = 1 ∨ q = 2 := by omega
        rcases this with rfl | rfl | rfl <;> rfl
theorem m_findHeard (hw : w.1 1 = r) (hr : okR r) {k x : Nat} (hk : k < 6) (hx : x = 7 ∨ x = 8) : hh_c (sX4_findHeard (nI k) x w) (fun w' => (∀ c, c < 36 → w'.1 x c = nI (hrd r k c)) ∧ ∀ b, b ≠ x → w'.1 b = w.1 b) := by
  have hx36 : lenM x = 36 := by rcases hx with rfl | rfl <;> rfl
  unfold sX4_findHeard sX4_findHeard_0
  refine hh_be (m_place hw hr hk) ?_
  dsimp only
  refine hh_bd (m_from (k := x) (by omega) (ok_pl hr hk).2 (ok_ms hr hw)) (fun w1 h1 => ?_)
  unfold sX4_findHeard_12 sX4_findHeard_14
  refine hh_up (fun j s => ∃ w', s = (nI k, x, nI j, w') ∧ j ≤ 36 ∧ (∀ c, c < 36 → w'.1 x c = if c < j then nI (hrd r k c) else nI (td (stf r) (plc r k) c)) ∧ ∀ b, b ≠ x → w'.1 b = w.1 b) 36 (by decide) ⟨w1, rfl, by decide, fun c hc => by rw [if_neg (by omega)]; exact h1.1 c hc, h1.2⟩ ?_
  rintro j s hj ⟨w', rfl, _, hv, hf⟩
  have h36 : (36 : Int32) ≤ nI j ↔ 36 ≤ j := nI_leI (a := 36) (by decide) (by omega)
  unfold lX4_findHeard_14 sX4_findHeard_49
  dsimp only
  refine hh_i (fun q => hh_v ⟨fun c hc => ?_, hf⟩) (fun q => ?_)
  · have := h36.mp q
    rw [hv c hc, if_pos (by omega)]
  have hj2 : j < 36 := Nat.lt_of_not_le fun y => q (h36.mpr y)
  have hg : ¬ (nI j < 0 ∨ lenM x ≤ Int32.toNatClampNeg (nI j)) := by rw [hx36]; exact gI hj2 (by decide)
  have hw2 : w'.1 1 = r := by rw [hf 1 (by omega), hw]
  have hcl := car_le (k := knd r k) (ok_fc hr hk).2
  have hsl := sta_le (knd r k)
  have htd : td (stf r) (plc r k) j ≤ 10000 := wk_dle j
  refine hh_f hg (hh_be (m_carries hw2 hr hk) ?_)
  dsimp only
  have hg2 := hg
  rw [nI_clamp (show j < 2 ^ 31 by omega)] at hg2
  have hv2 : w'.1 x j = nI (td (stf r) (plc r k) j) := by rw [hv j hj2, if_neg (Nat.lt_irrefl j)]
  rw [nI_clamp (show j < 2 ^ 31 by omega), hv2]
  have hle : nI (td (stf r) (plc r k) j) ≤ nI (car (knd r k) (frc r k)) ↔ td (stf r) (plc r k) j ≤ car (knd r k) (frc r k) := nI_leI (by omega) (by omega)
  have fin : ∀ v : Nat, v = hrd r k j → mm_mt (fun s' => j < 36 ∧ ∃ w', s' = (nI k, x, nI (j + 1), w') ∧ j + 1 ≤ 36 ∧ (∀ c, c < 36 → w'.1 x c = if c < j + 1 then nI (hrd r k c) else nI (td (stf r) (plc r k) c)) ∧ ∀ b, b ≠ x → w'.1 b = w.1 b) (fun w' : mm_S => (∀ c, c < 36 → w'.1 x c = nI (hrd r k c)) ∧ ∀ b, b ≠ x → w'.1 b = w.1 b) (Sum.inl (nI k, x, nI j + 1, (mm_ui w'.1 x j (nI v), w'.2)) : (Int32 × Nat × Int32 × mm_S) ⊕ mm_S) := by
    rintro v rfl
    refine ⟨hj2, _, by rw [nI_1], by omega, fun c hc => ?_, fun b hb => (ru_n _ _ hb).trans (hf b hb)⟩
    by_cases y : c = j
    · subst y
      show mm_ui w'.1 x c _ x c = _
      rw [ru_s, if_pos (by omega)]
    · show mm_ui w'.1 x j _ x c = _
      rw [ru_i _ _ y, hv c hc]
      have : (c < j ↔ c < j + 1) := by omega
      simp only [this]
  refine hh_i (fun y => hh_f hg2 (hh_be (m_starts hw2 hr hk) ?_)) (fun y => hh_f hg2 (hh_v ?_))
  · dsimp only
    refine hh_f hg2 (hh_v ?_)
    rw [nI_add]
    exact fin _ (by unfold hrd; rw [if_pos (hle.mp y)])
  · exact fin 10000 (by unfold hrd; rw [if_neg (fun q => y (hle.mpr q))])
end MC
