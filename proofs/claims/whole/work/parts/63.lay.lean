/-! ===== maps: what the unsure cells might be ===== -/
theorem nI_quo {a b : Nat} (ha : a < 2 ^ 31) (hb : b < 2 ^ 31) : nI a / nI b = nI (a / b) := by
  have hab : a / b ≤ a := Nat.div_le_self _ _
  apply Int32.toInt_inj.mp
  rw [Int32.toInt_div, nI_toInt ha, nI_toInt hb, nI_toInt (by omega), ← Int.ofNat_tdiv]
  have h0 : (0 : Int) ≤ ((a / b : Nat) : Int) := Int.natCast_nonneg _
  have h1 : ((a / b : Nat) : Int) ≤ (a : Int) := Int.ofNat_le.mpr hab
  generalize ((a / b : Nat) : Int) = t at *
  exact Int.bmod_eq_of_le (by omega) (by omega)
theorem nI_dif {a b : Nat} (h : b ≤ a) : nI a - nI b = nI (a - b) := by
  have : nI a = nI (a - b) + nI b := by rw [nI_add]; congr 1; omega
  rw [this, Int32.add_sub_cancel]
theorem nI_rem5 {a : Nat} (ha : a < 2 ^ 31) : nI a - nI a / 5 * 5 = nI (a % 5) := by
  rw [show (5 : Int32) = nI 5 from rfl, nI_quo ha (by decide), pk_mul, nI_dif (by omega)]
  congr 1
  omega
def dig (m i : Nat) : Nat := m / 5 ^ i % 5
theorem dig_lt (m i : Nat) : dig m i < 5 := Nat.mod_lt _ (by decide)
def layK (r : Nat → Int32) (m : Nat) : Nat → Nat → Int32
  | 0 => r
  | i + 1 => upd (layK r m i) (15 + uns r i) (nI (dig m i))
def layR (r : Nat → Int32) (m : Nat) : Nat → Int32 := layK r m (nU r)
section LAY
variable {r : Nat → Int32}
theorem layK_o (h : okR r) (m : Nat) : ∀ i, i ≤ 4 → ∀ j, (j < 15 ∨ 51 ≤ j) → layK r m i j = r j
  | 0, _, j, _ => rfl
  | i + 1, hi, j, hj => by
    have hu := (ok_un h (show i < 4 by omega)).2
    show upd (layK r m i) (15 + uns r i) (nI (dig m i)) j = r j
    rw [up_n _ _ (by omega)]
    exact layK_o h m i (by omega) j hj
theorem layK_ok (h : okR r) (m : Nat) : ∀ i, i ≤ 4 → okR (layK r m i)
  | 0, _ => h
  | i + 1, hi => okR_st (layK_ok h m i (by omega)) (ok_un h (show i < 4 by omega)).2 (dig_lt m i)
theorem layR_o (h : okR r) (m : Nat) {j : Nat} (hj : j < 15 ∨ 51 ≤ j) : layR r m j = r j := layK_o h m _ (by have := (ok_nU h).2; omega) j hj
theorem layR_ok (h : okR r) (m : Nat) : okR (layR r m) := layK_ok h m _ (by have := (ok_nU h).2; omega)
theorem lay_nU (h : okR r) (m : Nat) : nU (layR r m) = nU r := by unfold nU; rw [layR_o h m (by omega)]
theorem lay_nB (h : okR r) (m : Nat) : nB (layR r m) = nB r := by unfold nB; rw [layR_o h m (by omega)]
theorem lay_nC (h : okR r) (m : Nat) : nC (layR r m) = nC r := by unfold nC; rw [layR_o h m (by omega)]
theorem lay_uns (h : okR r) (m i : Nat) : uns (layR r m) i = uns r i := by unfold uns; rw [layR_o h m (by omega)]
theorem lay_bfr (h : okR r) (m i : Nat) : bfr (layR r m) i = bfr r i := by unfold bfr; rw [layR_o h m (by omega)]
theorem lay_bto (h : okR r) (m i : Nat) : bto (layR r m) i = bto r i := by unfold bto; rw [layR_o h m (by omega)]
theorem lay_btm (h : okR r) (m i : Nat) : btm (layR r m) i = btm r i := by unfold btm; rw [layR_o h m (by omega)]
theorem lay_plc (h : okR r) (m i : Nat) : plc (layR r m) i = plc r i := by unfold plc; rw [layR_o h m (by omega)]
theorem layK_cov {r' : Nat → Int32} (hu : ∀ q, uns r' q = uns r q) (m j : Nat) : ∀ i, (∃ q, q < i ∧ j = 15 + uns r q) → layK r' m i j = layK r m i j
  | 0, ⟨q, hq, _⟩ => absurd hq (by omega)
  | i + 1, ⟨q, hq, e⟩ => by
    show upd (layK r' m i) (15 + uns r' i) (nI (dig m i)) j = upd (layK r m i) (15 + uns r i) (nI (dig m i)) j
    rw [hu]
    by_cases y : j = 15 + uns r i
    · rw [y, up_s, up_s]
    · rw [up_n _ _ y, up_n _ _ y]
      refine layK_cov hu m j i ⟨q, ?_, e⟩
      refine Nat.lt_of_le_of_ne (by omega) fun t => y (by rw [e, t])
theorem layK_nc (m j : Nat) : ∀ i, (∀ q, q < i → j ≠ 15 + uns r q) → layK r m i j = r j
  | 0, _ => rfl
  | i + 1, h => by
    show upd (layK r m i) (15 + uns r i) (nI (dig m i)) j = r j
    rw [up_n _ _ (h i (by omega))]
    exact layK_nc m j i fun q hq => h q (by omega)
theorem layR_lay (h : okR r) (a m : Nat) : layR (layR r a) m = layR r m := by
  funext j
  show layK (layR r a) m (nU (layR r a)) j = layK r m (nU r) j
  rw [lay_nU h]
  by_cases y : ∃ q, q < nU r ∧ j = 15 + uns r q
  · exact layK_cov (fun q => lay_uns h a q) m j _ y
  · have y' : ∀ q, q < nU r → j ≠ 15 + uns r q := fun q hq e => y ⟨q, hq, e⟩
    rw [layK_nc m j _ (fun q hq => by rw [lay_uns h]; exact y' q hq), layK_nc m j _ y']
    exact layK_nc a j _ y'
def mapK (r : Nat → Int32) (n : Nat) : Nat → Nat
  | 0 => 0
  | k + 1 => mapK r n k * 5 + stf r (uns r (n - (k + 1)))
def mapR (r : Nat → Int32) : Nat := mapK r (nU r) (nU r)
theorem mapK_lt (h : okR r) {n : Nat} (hn : n ≤ 4) : ∀ k, k ≤ n → mapK r n k < 5 ^ k
  | 0, _ => by show 0 < 1; decide
  | k + 1, hk => by
    have h1 := mapK_lt h hn k (by omega)
    have h2 := (ok_st h (ok_un h (show n - (k + 1) < 4 by omega)).2).2
    show mapK r n k * 5 + stf r (uns r (n - (k + 1))) < 5 ^ (k + 1)
    rw [Nat.pow_succ]
    omega
theorem mapK_dig (h : okR r) {n : Nat} (hn : n ≤ 4) : ∀ k, k ≤ n → ∀ i, i < k → dig (mapK r n k) i = stf r (uns r (n - k + i))
  | 0, _, i, hi => absurd hi (by omega)
  | k + 1, hk, i, hi => by
    have h2 := (ok_st h (ok_un h (show n - (k + 1) < 4 by omega)).2).2
    show (mapK r n k * 5 + stf r (uns r (n - (k + 1)))) / 5 ^ i % 5 = _
    rcases i with _ | i
    · rw [Nat.pow_zero, Nat.div_one, show n - (k + 1) + 0 = n - (k + 1) from rfl]
      omega
    · rw [Nat.pow_succ, Nat.mul_comm (5 ^ i) 5, ← Nat.div_div_eq_div_mul, show (mapK r n k * 5 + stf r (uns r (n - (k + 1)))) / 5 = mapK r n k by omega]
      have := mapK_dig h hn k (by omega) i (by omega)
      unfold dig at this
      rw [this]
      congr 2
      omega
theorem mapR_lt (h : okR r) : mapR r < 5 ^ nU r := mapK_lt h (by have := (ok_nU h).2; omega) _ (Nat.le_refl _)
theorem layR_map (h : okR r) : layR r (mapR r) = r := by
  have hn := (ok_nU h).2
  have : ∀ i, i ≤ nU r → layK r (mapR r) i = r := by
    intro i
    induction i with
    | zero => exact fun _ => rfl
    | succ i ih =>
      intro hi
      have hu := (ok_un h (show i < 4 by omega)).2
      show upd (layK r (mapR r) i) (15 + uns r i) (nI (dig (mapR r) i)) = r
      rw [ih (by omega)]
      have := mapK_dig h (n := nU r) (by omega) (nU r) (Nat.le_refl _) i (by omega)
      rw [show nU r - nU r + i = i by omega] at this
      have e : dig (mapR r) i = stf r (uns r i) := this
      rw [e, ← (ok_st h hu).1]
      exact up_id _ _
  exact this _ (Nat.le_refl _)
/-- a row that is the same but for what its unsure cells are -/
def likeR (r rd : Nat → Int32) : Prop := okR rd ∧ (∀ j, (j < 15 ∨ 51 ≤ j) → rd j = r j) ∧ ∀ m, layR rd m = layR r m
theorem like_0 (h : okR r) : likeR r r := ⟨h, fun _ _ => rfl, fun _ => rfl⟩
theorem like_l (h : okR r) (a : Nat) : likeR r (layR r a) := ⟨layR_ok h a, fun _ hj => layR_o h a hj, fun m => layR_lay h a m⟩
theorem like_nU {rd : Nat → Int32} (h : likeR r rd) : nU rd = nU r := by unfold nU; rw [h.2.1 _ (by omega)]
theorem like_uns {rd : Nat → Int32} (h : likeR r rd) (i : Nat) : uns rd i = uns r i := by unfold uns; rw [h.2.1 _ (by omega)]
theorem p5_lt {n : Nat} (h : n < 5) : 5 ^ n ≤ 625 := by
  have : n = 0 ∨ n = 1 ∨ n = 2 ∨ n = 3 ∨ n = 4 := by omega
  rcases this with rfl | rfl | rfl | rfl | rfl <;> decide
theorem p5_le (h : okR r) : 5 ^ nU r ≤ 625 := p5_lt (ok_nU h).2
theorem p5_pos (n : Nat) : 0 < 5 ^ n := Nat.pow_pos (by decide)
theorem x_layMap {o : Nat} {z : mm_S} (ho : o = 1 ∨ o = 13 ∨ o = 25) (hm : RM o z r) (hr : okR r) {m : Nat} (hm5 : m < 625) : hh_c (sX0_layMap o (nI m) z) (fun z' => RM o z' (layR r m) ∧ z'.1 = z.1 ∧ ∀ b, b ≠ o + 2 → z'.2 b = z.2 b) := by
  have hn := ok_nU hr
  have l7 := (oM ho).2.2.2.1
  unfold sX0_layMap sX0_layMap_0 sX0_layMap_4
  refine hh_up (fun j s => ∃ z', s = (nI (m / 5 ^ j), nI j, z') ∧ j ≤ nU r ∧ RM o z' (layK r m j) ∧ z'.1 = z.1 ∧ ∀ b, b ≠ o + 2 → z'.2 b = z.2 b) 4 (by decide) ⟨z, by rw [Nat.pow_zero, Nat.div_one]; rfl, Nat.zero_le _, hm, rfl, fun _ _ => rfl⟩ ?_
  rintro j s hj ⟨z', rfl, hjn, hR, h1, h2⟩
  have hle : nI (nU r) ≤ nI j ↔ nU r ≤ j := nI_leI (by omega) (by omega)
  have e6 : z'.1 o 6 = nI (nU r) := by rw [h1]; exact hm.2.2.2.1.trans hn.1
  unfold lX0_layMap_4 sX0_layMap_30
  dsimp only
  rw [e6]
  refine hh_i (fun q => hh_v ?_) (fun q => ?_)
  · obtain rfl : j = nU r := by have := hle.mp q; omega
    exact ⟨hR, h1, h2⟩
  have hj2 : j < nU r := Nat.lt_of_not_le fun y => q (hle.mpr y)
  have hu := ok_un hr (show j < 4 by omega)
  have e7 : pX3_at (o + 7) (nI j) z' = nI (uns r j) := by
    rw [at_N _ (by omega), h1]
    exact (hm.2.2.2.2.2.2.2.1 j (by omega)).trans hu.1
  have hmj : m / 5 ^ j ≤ m := Nat.div_le_self _ _
  rw [e7, nI_rem5 (by omega), show (5 : Int32) = nI 5 from rfl, nI_quo (by omega) (by decide), nI_1]
  have hs := hR.2.2.2.2.2.2.2.2.2
  obtain ⟨p1, p2, p3⟩ := x_put (v := dig m j) hs hu.2 (dig_lt m j)
  refine hh_v ⟨by omega, tX1_put (o + 1) (nI (uns r j)) (nI (dig m j)) z', ?_, hj2, ?_, p1.trans h1, fun b hb => (p3 b (by omega)).trans (h2 b hb)⟩
  · rw [Nat.pow_succ, ← Nat.div_div_eq_div_mul]; rfl
  · exact RM_st hR hu.2 (fun b _ => by rw [p1]) (by rw [stf_u (by have := dig_lt m j; omega)]; exact p2)
theorem m_lay {w : mm_S} (hw : w.1 1 = r) (hr : okR r) {m : Nat} (hm5 : m < 625) : hh_c (sX4_lay (nI m) w) (fun w' => w'.1 1 = layR r m ∧ ∀ b, b ≠ 1 → w'.1 b = w.1 b) := by
  have hn := ok_nU hr
  unfold sX4_lay sX4_lay_0 sX4_lay_4
  refine hh_up (fun j s => ∃ w', s = (nI (m / 5 ^ j), nI j, w') ∧ j ≤ nU r ∧ w'.1 1 = layK r m j ∧ ∀ b, b ≠ 1 → w'.1 b = w.1 b) 4 (by decide) ⟨w, by rw [Nat.pow_zero, Nat.div_one]; rfl, Nat.zero_le _, hw, fun _ _ => rfl⟩ ?_
  rintro j s hj ⟨w', rfl, hjn, hR, h2⟩
  have hle : nI (nU r) ≤ nI j ↔ nU r ≤ j := nI_leI (by omega) (by omega)
  have e3 : w'.1 1 3 = nI (nU r) := by rw [hR, layK_o hr m j (by omega) 3 (by omega)]; exact hn.1
  unfold lX4_lay_4 sX4_lay_34
  dsimp only
  rw [e3]
  refine hh_i (fun q => hh_v ?_) (fun q => ?_)
  · obtain rfl : j = nU r := by have := hle.mp q; omega
    exact ⟨hR, h2⟩
  have hj2 : j < nU r := Nat.lt_of_not_le fun y => q (hle.mpr y)
  have hu := ok_un hr (show j < 4 by omega)
  have t0 : (69 : Int32) + nI j = nI (69 + j) := nI_add 69 _
  have e7 : w'.1 1 (69 + j) = nI (uns r j) := by rw [hR, layK_o hr m j (by omega) _ (by omega)]; exact hu.1
  have t1 : (15 : Int32) + nI (uns r j) = nI (15 + uns r j) := nI_add 15 _
  have hmj : m / 5 ^ j ≤ m := Nat.div_le_self _ _
  rw [t0, nI_clamp (show 69 + j < 2 ^ 31 by omega), e7, t1, nI_clamp (show 15 + uns r j < 2 ^ 31 by omega)]
  have g1 := gI (show 69 + j < 97 by omega) (by decide)
  have g2 := gI (show 15 + uns r j < 97 by omega) (by decide)
  rw [nI_clamp (by omega)] at g1 g2
  refine hh_f g1 (hh_f g2 ?_)
  rw [nI_rem5 (by omega), show (5 : Int32) = nI 5 from rfl, nI_quo (by omega) (by decide), nI_1]
  refine hh_v ⟨by omega, (mm_ui w'.1 1 (15 + uns r j) (nI (m / 5 ^ j % 5)), w'.2), ?_, hj2, ?_, fun b hb => (ru_n _ _ hb).trans (h2 b hb)⟩
  · rw [Nat.pow_succ, ← Nat.div_div_eq_div_mul]
  · show mm_ui w'.1 1 (15 + uns r j) (nI (m / 5 ^ j % 5)) 1 = _
    rw [ru_r, hR]; rfl
theorem m_maps {w : mm_S} (hw : w.1 1 3 = nI (nU r)) (hn : nU r < 5) : hh_c (sX4_maps w) (fun q => q = (nI (5 ^ nU r), w)) := by
  unfold sX4_maps sX4_maps_0 sX4_maps_4
  refine hh_up (fun j s => s = (nI (5 ^ j), nI j, w) ∧ j ≤ nU r) 4 (by decide) ⟨rfl, Nat.zero_le _⟩ ?_
  rintro j s hj ⟨rfl, hjn⟩
  have hle : nI (nU r) ≤ nI j ↔ nU r ≤ j := nI_leI (by omega) (by omega)
  unfold lX4_maps_4
  dsimp only
  rw [hw]
  refine hh_i (fun q => hh_v ?_) (fun q => hh_v ?_)
  · obtain rfl : j = nU r := by have := hle.mp q; omega
    rfl
  · have hj2 : j < nU r := Nat.lt_of_not_le fun y => q (hle.mpr y)
    refine ⟨by omega, ?_, hj2⟩
    rw [nI_1, show (5 : Int32) = nI 5 from rfl, pk_mul, Nat.pow_succ]
theorem x_mapCount {o : Nat} {z : mm_S} (hm : RM o z r) (hr : okR r) : pX0_mapCount o z = nI (5 ^ nU r) := by
  have hn := ok_nU hr
  have e6 : z.1 o 6 = nI (nU r) := hm.2.2.2.1.trans hn.1
  unfold pX0_mapCount
  rw [e6, nI_clamp (by omega)]
  have : nU r = 0 ∨ nU r = 1 ∨ nU r = 2 ∨ nU r = 3 ∨ nU r = 4 := by omega
  rcases this with y | y | y | y | y <;> rw [y] <;> rfl
theorem x_mapNow {o : Nat} {z : mm_S} (ho : o = 1 ∨ o = 13 ∨ o = 25) (hm : RM o z r) (hr : okR r) : hh_c (sX0_mapNow o z) (fun q => q = (nI (mapR r), z)) := by
  have hn := ok_nU hr
  have l7 := (oM ho).2.2.2.1
  have e6 : z.1 o 6 = nI (nU r) := hm.2.2.2.1.trans hn.1
  unfold sX0_mapNow sX0_mapNow_0 sX0_mapNow_9
  rw [e6]
  refine hh_up (fun j s => s = (nI (mapK r (nU r) j), nI (nU r - j) - 1, z) ∧ j ≤ nU r) 4 (by decide) ⟨rfl, Nat.zero_le _⟩ ?_
  rintro j s hj ⟨rfl, hjn⟩
  unfold lX0_mapNow_9
  dsimp only
  by_cases y : j = nU r
  · subst y
    rw [Nat.sub_self]
    exact hh_t (show nI 0 - 1 < 0 by decide) (hh_v rfl)
  · have e1 : nI (nU r - j) - 1 = nI (nU r - (j + 1)) := by
      rw [show (1 : Int32) = nI 1 from rfl, nI_dif (by omega)]; congr 1
    rw [e1]
    refine hh_f (nI_pos (by omega)) ?_
    have hu := ok_un hr (show nU r - (j + 1) < 4 by omega)
    have e7 : pX3_at (o + 7) (nI (nU r - (j + 1))) z = nI (uns r (nU r - (j + 1))) := by
      rw [at_N _ (by omega)]
      exact (hm.2.2.2.2.2.2.2.1 _ (by omega)).trans hu.1
    rw [e7, st_N hm.2.2.2.2.2.2.2.2.2 hu.2, show (5 : Int32) = nI 5 from rfl, pk_mul, nI_add]
    refine hh_v ⟨by omega, Prod.ext rfl (Prod.ext ?_ rfl), by omega⟩
    show nI (nU r - (j + 1)) + -1 = nI (nU r - (j + 1)) - 1
    exact (Int32.sub_eq_add_neg _ _).symm
theorem m_mapNow {w : mm_S} (hw : w.1 1 = r) (hr : okR r) : hh_c (sX4_mapNow w) (fun q => q = (nI (mapR r), w)) := by
  have hn := ok_nU hr
  have e3 : w.1 1 3 = nI (nU r) := by rw [hw]; exact hn.1
  unfold sX4_mapNow sX4_mapNow_0 sX4_mapNow_11
  rw [e3]
  refine hh_up (fun j s => s = (nI (mapK r (nU r) j), nI (nU r - j) - 1, w) ∧ j ≤ nU r) 4 (by decide) ⟨rfl, Nat.zero_le _⟩ ?_
  rintro j s hj ⟨rfl, hjn⟩
  unfold lX4_mapNow_11
  dsimp only
  by_cases y : j = nU r
  · subst y
    rw [Nat.sub_self]
    exact hh_t (show nI 0 - 1 < 0 by decide) (hh_v rfl)
  · have e1 : nI (nU r - j) - 1 = nI (nU r - (j + 1)) := by
      rw [show (1 : Int32) = nI 1 from rfl, nI_dif (by omega)]; congr 1
    rw [e1]
    refine hh_f (nI_pos (by omega)) ?_
    have hu := ok_un hr (show nU r - (j + 1) < 4 by omega)
    have t0 : (69 : Int32) + nI (nU r - (j + 1)) = nI (69 + (nU r - (j + 1))) := nI_add 69 _
    have e7 : w.1 1 (69 + (nU r - (j + 1))) = nI (uns r (nU r - (j + 1))) := by rw [hw]; exact hu.1
    rw [t0]
    refine hh_f (gI (by omega) (by decide)) ?_
    rw [nI_clamp (by omega), e7, m_stuffIs (ok_ms hr hw) hu.2]
    refine hh_v ⟨by omega, Prod.ext ?_ (Prod.ext ?_ rfl), by omega⟩
    · show (5 : Int32) * nI (mapK r (nU r) j) + nI (stf r (uns r (nU r - (j + 1)))) = _
      rw [show (5 : Int32) = nI 5 from rfl, pk_mul, nI_add, Nat.mul_comm 5]
      rfl
    · show nI (nU r - (j + 1)) + -1 = nI (nU r - (j + 1)) - 1
      exact (Int32.sub_eq_add_neg _ _).symm
end LAY
