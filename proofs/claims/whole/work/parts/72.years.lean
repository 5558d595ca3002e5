/-! ===== years ===== -/
def dN (x : Int32) : Nat := x.toUInt32.toNat / 256
theorem dN_lt (x : Int32) : dN x < 2 ^ 24 := by
  have := x.toUInt32.toNat_lt
  unfold dN
  omega
theorem sh8 (x : Int32) : (Int32.toUInt32 x >>> (Int32.toUInt32 8 &&& Int32.toUInt32 31)).toInt32 = nI (dN x) := by
  apply Int32.toBitVec_inj.mp
  apply BitVec.eq_of_toNat_eq
  have e : (Int32.toUInt32 8 &&& Int32.toUInt32 31) = 8 := by decide
  have h := x.toUInt32.toNat_lt
  have h2 := dN_lt x
  show (x.toUInt32 >>> (Int32.toUInt32 8 &&& Int32.toUInt32 31)).toNat = (BitVec.ofNat 32 _).toNat
  rw [e, UInt32.toNat_shiftRight, BitVec.toNat_ofNat, Nat.mod_eq_of_lt (show dN x < 2 ^ 32 by omega), Nat.shiftRight_eq_div_pow]
  rfl
theorem nI_remN {a m : Nat} (ha : a < 2 ^ 31) (hm : m < 2 ^ 31) : nI a - nI a / nI m * nI m = nI (a % m) := by
  have h := Nat.div_add_mod a m
  rw [Nat.mul_comm] at h
  rw [nI_quo ha hm, pk_mul, nI_dif (by omega)]
  congr 1
  omega
def dz (x : Int32) : Int32 := x * 1103515245 + 12345
/-- a year later -/
def yr1 (r : Nat → Int32) : Nat → Int32 := upd (upd (upd r 4 (dz (dz (r 4)))) (15 + dN (dz (r 4)) % 36) (nI (dN (dz (dz (r 4))) % 5))) 0 (nI (yrf r + 1))
def yrN (r : Nat → Int32) : Nat → Nat → Int32
  | 0 => r
  | n + 1 => yr1 (yrN r n)
section YR
variable {r : Nat → Int32}
theorem okR_f (h : okR r) {i : Nat} {v : Int32} (hf : (i = 0 ∧ isN v 1000) ∨ i = 4) : okR (upd r i v) := by
  obtain ⟨b1, b2, b3, b4, b5, b6, b7, b8, b9⟩ := h
  refine ⟨?_, by rw [up_n _ _ (by omega)]; exact b2, by rw [up_n _ _ (by omega)]; exact b3, by rw [up_n _ _ (by omega)]; exact b4, fun q hq => by rw [up_n _ _ (by omega)]; exact b5 q hq, fun q hq => by rw [up_n _ _ (by omega)]; exact b6 q hq, fun q hq => by rw [up_n _ _ (by omega), up_n _ _ (by omega), up_n _ _ (by omega)]; exact b7 q hq, fun q hq => by rw [up_n _ _ (by omega)]; exact b8 q hq, fun q hq => by rw [up_n _ _ (by omega), up_n _ _ (by omega), up_n _ _ (by omega)]; exact b9 q hq⟩
  rcases hf with ⟨rfl, hv⟩ | rfl
  · rw [up_s]; exact hv
  · rw [up_n _ _ (by omega)]; exact b1
theorem RM_f {o : Nat} {z : mm_S} (h : RM o z r) {i f : Nat} (hf : (i = 0 ∧ f = 12) ∨ (i = 4 ∧ f = 13)) (v : Int32) : RM o (mm_ui z.1 o f v, z.2) (upd r i v) := by
  obtain ⟨a1, a2, a3, a4, a5, a6, a7, a8, a9, a10⟩ := h
  have key : ∀ g j, (g = 12 ∧ j = 0) ∨ (g = 4 ∧ j = 1) ∨ (g = 10 ∧ j = 2) ∨ (g = 6 ∧ j = 3) ∨ (g = 13 ∧ j = 4) → z.1 o g = r j → mm_ui z.1 o f v o g = upd r i v j := by
    intro g j hg e
    by_cases x : g = f
    · subst x
      have : j = i := by omega
      subst this
      rw [ru_s, up_s]
    · rw [ru_i _ _ x, up_n _ _ (by omega), e]
  have nn : ∀ b, b ≠ o → mm_ui z.1 o f v b = z.1 b := fun b hb => ru_n _ _ hb
  refine ⟨key 12 0 (by omega) a1, key 4 1 (by omega) a2, key 10 2 (by omega) a3, key 6 3 (by omega) a4, key 13 4 (by omega) a5, fun q hq => ?_, fun q hq => ?_, fun q hq => ?_, fun q hq => ?_, sb_o a10 rfl (stf_o fun c hc => up_n _ _ (by omega))⟩
  · show mm_ui z.1 o f v (o + 11) q = _
    rw [nn _ (by omega), up_n _ _ (by omega)]; exact a6 q hq
  · show mm_ui z.1 o f v (o + 4) q = _ ∧ mm_ui z.1 o f v (o + 5) q = _ ∧ mm_ui z.1 o f v (o + 6) q = _
    rw [nn _ (by omega), nn _ (by omega), nn _ (by omega), up_n _ _ (by omega), up_n _ _ (by omega), up_n _ _ (by omega)]; exact a7 q hq
  · show mm_ui z.1 o f v (o + 7) q = _
    rw [nn _ (by omega), up_n _ _ (by omega)]; exact a8 q hq
  · show mm_ui z.1 o f v (o + 8) q = _ ∧ mm_ui z.1 o f v (o + 9) q = _ ∧ mm_ui z.1 o f v (o + 10) q = _
    rw [nn _ (by omega), nn _ (by omega), nn _ (by omega), up_n _ _ (by omega), up_n _ _ (by omega), up_n _ _ (by omega)]; exact a9 q hq
theorem yr1_ok (h : okR r) (hy : yrf r + 1 < 1000) : okR (yr1 r) ∧ yrf (yr1 r) = yrf r + 1 := by
  refine ⟨okR_f (okR_st (okR_f h (Or.inr rfl)) (Nat.mod_lt _ (by decide)) (Nat.mod_lt _ (by decide))) (Or.inl ⟨rfl, isN_N hy⟩), ?_⟩
  unfold yrf yr1
  rw [up_s]
  exact gN_N (show gN (r 0) + 1 < 2 ^ 31 by unfold yrf at hy; omega)
theorem yrN_ok (h : okR r) : ∀ n, yrf r + n < 1000 → okR (yrN r n) ∧ yrf (yrN r n) = yrf r + n
  | 0, _ => ⟨h, rfl⟩
  | n + 1, hn => by
    obtain ⟨h1, h2⟩ := yrN_ok h n (by omega)
    obtain ⟨h3, h4⟩ := yr1_ok h1 (by omega)
    exact ⟨h3, by show yrf (yr1 (yrN r n)) = _; rw [h4, h2]; rfl⟩
theorem x_draw {o : Nat} {z : mm_S} {x : Int32} (h : z.1 o 13 = x) : tX0_draw o z = (nI (dN (dz x)), (mm_ui z.1 o 13 (dz x), z.2)) := by
  have ez : z.1 o 13 * 1103515245 + 12345 = dz x := by rw [h, dz]
  unfold tX0_draw tX0_draw_15
  dsimp only
  rw [ez, ru_s, sh8]
theorem nI_rem36 {a : Nat} (ha : a < 2 ^ 31) : nI a - nI a / 36 * 36 = nI (a % 36) := by
  rw [show (36 : Int32) = nI 36 from rfl, nI_remN ha (by decide)]
def yrZ (o : Nat) (z : mm_S) (a b : Int32) : mm_S := tX1_put (o + 1) (nI (dN a % 36)) (nI (dN b % 5)) (mm_ui (mm_ui z.1 o 13 a) o 13 b, z.2)
theorem x_y8 (o : Nat) (y : Int32) (z : mm_S) : tX0_goOneYear_8 o y z = tX0_goOneYear_22 o (tX1_put (o + 1) y ((tX0_draw o z).1 - (tX0_draw o z).1 / 5 * 5) (tX0_draw o z).2) := by unfold tX0_goOneYear_8; rfl
theorem x_y0 (o : Nat) (z : mm_S) : tX0_goOneYear o z = tX0_goOneYear_8 o ((tX0_draw o z).1 - (tX0_draw o z).1 / 36 * 36) (tX0_draw o z).2 := by unfold tX0_goOneYear; rfl
theorem x_y22 (o : Nat) (z : mm_S) : tX0_goOneYear_22 o z = (mm_ui z.1 o 12 (z.1 o 12 + 1), z.2) := by unfold tX0_goOneYear_22 tX0_goOneYear_32; rfl
theorem x_y8b {o : Nat} {z : mm_S} {x : Int32} (h : z.1 o 13 = x) (y : Int32) : tX0_goOneYear_8 o y z = tX0_goOneYear_22 o (tX1_put (o + 1) y (nI (dN (dz x) % 5)) (mm_ui z.1 o 13 (dz x), z.2)) := by
  have n1 := dN_lt (dz x)
  rw [x_y8, x_draw h]
  generalize dz x = d at *
  dsimp only
  rw [nI_rem5 (by omega)]
theorem x_y0b {o : Nat} {z : mm_S} {x : Int32} (h : z.1 o 13 = x) : tX0_goOneYear o z = tX0_goOneYear_8 o (nI (dN (dz x) % 36)) (mm_ui z.1 o 13 (dz x), z.2) := by
  have n1 := dN_lt (dz x)
  rw [x_y0, x_draw h]
  generalize dz x = d at *
  dsimp only
  rw [nI_rem36 (by omega)]
theorem x_year0 {o : Nat} {z : mm_S} {x : Int32} (h : z.1 o 13 = x) : tX0_goOneYear o z = tX0_goOneYear_22 o (yrZ o z (dz x) (dz (dz x))) := by
  have h2 : ((mm_ui z.1 o 13 (dz x), z.2) : mm_S).1 o 13 = dz x := ru_s _ _ _ _
  rw [x_y0b h, x_y8b h2, yrZ]
theorem x_year1 {o : Nat} {z : mm_S} (hm : RM o z r) (a b : Int32) : RM o (yrZ o z a b) (upd (upd r 4 b) (15 + dN a % 36) (nI (dN b % 5))) ∧ (yrZ o z a b).1 = mm_ui (mm_ui z.1 o 13 a) o 13 b ∧ ∀ q, q ≠ o + 2 → (yrZ o z a b).2 q = z.2 q := by
  have m2 := RM_f (RM_f hm (Or.inr ⟨rfl, rfl⟩) a) (Or.inr ⟨rfl, rfl⟩) b
  rw [up_up] at m2
  dsimp only at m2
  obtain ⟨p1, p2, p3⟩ := x_put (c := dN a % 36) (v := dN b % 5) m2.2.2.2.2.2.2.2.2.2 (Nat.mod_lt _ (by decide)) (Nat.mod_lt _ (by decide))
  have m3 := RM_st (c := dN a % 36) (x := nI (dN b % 5)) m2 (Nat.mod_lt _ (by decide)) (fun b _ => by rw [p1]) (by rw [stf_u (by have := Nat.mod_lt (dN b) (show 5 > 0 by decide); omega)]; exact p2)
  exact ⟨m3, p1, fun q hq => p3 q (by omega)⟩
theorem x_yearE {o : Nat} {z3 z : mm_S} {d1 d2 v : Int32} (p1 : z3.1 = mm_ui (mm_ui z.1 o 13 d1) o 13 d2) (h : z.1 o 12 = v) : z3.1 o 12 = v := by
  rw [p1, ru_i _ _ (by decide), ru_i _ _ (by decide), h]
theorem x_year2 {o n : Nat} {z z3 : mm_S} {rr : Nat → Int32} {d1 d2 : Int32} (m3 : RM o z3 rr) (p1 : z3.1 = mm_ui (mm_ui z.1 o 13 d1) o 13 d2) (p3 : ∀ q, q ≠ o + 2 → z3.2 q = z.2 q) (h0 : z.1 o 12 = nI n) : RM o (tX0_goOneYear_22 o z3) (upd rr 0 (nI (n + 1))) ∧ (∀ b, b ≠ o → (tX0_goOneYear_22 o z3).1 b = z.1 b) ∧ ∀ b, b ≠ o + 2 → (tX0_goOneYear_22 o z3).2 b = z.2 b := by
  have e := x_yearE p1 h0
  rw [x_y22, e, nI_1]
  refine ⟨RM_f m3 (Or.inl ⟨rfl, rfl⟩) (nI (n + 1)), fun b hb => ?_, fun b hb => p3 b hb⟩
  dsimp only
  rw [ru_n _ _ hb, p1, ru_n _ _ hb, ru_n _ _ hb]
theorem x_year {o : Nat} {z : mm_S} (hm : RM o z r) (hr : okR r) : RM o (tX0_goOneYear o z) (yr1 r) ∧ (∀ b, b ≠ o → (tX0_goOneYear o z).1 b = z.1 b) ∧ ∀ b, b ≠ o + 2 → (tX0_goOneYear o z).2 b = z.2 b := by
  have h4 := hm.2.2.2.2.1
  have h0 := hm.1.trans (ok_yr hr).1
  have e := x_year0 h4
  obtain ⟨m3, p1, p3⟩ := x_year1 hm (dz (r 4)) (dz (dz (r 4)))
  have q := x_year2 m3 p1 p3 h0
  rw [← e] at q
  exact q
noncomputable def hoF (r : Nat → Int32) : Nat := fb_ct (tb (ls64 (fun c => decide (stf r c = 2)) 36)) 64
theorem hoF_le (r : Nat → Int32) : hoF r ≤ 64 := fb_ct_le _ _
theorem x_holes {o : Nat} {z : mm_S} (hm : RM o z r) : pX0_holes o z = nI (hoF r) := by
  unfold pX0_holes hoF
  rw [show pX1_cellsOf (o + 1) 2 z = z.2 (o + 1 + 1) 2 from cof_N (s := 2) z (by decide), x_bits, cells_eq hm.2.2.2.2.2.2.2.2.2 (s := 2) (by decide)]
theorem m_drawn {w : mm_S} (hw : w.1 1 = r) {m : Nat} (h0 : 0 < m) (hm : m < 1000) : sX4_drawn (nI m) w = some (nI (dN (dz (r 4)) % m), (mm_ui w.1 1 4 (dz (r 4)), w.2)) := by
  have n1 := dN_lt (dz (r 4))
  have ez : (w.1 1 4) * 1103515245 + 12345 = dz (r 4) := by rw [hw, dz]
  have hne : ¬ nI m = 0 := fun e => by have := (nI_eq (b := 0) (by omega) (by decide)).mp e; omega
  unfold sX4_drawn sX4_drawn_0 sX4_drawn_20
  dsimp only
  rw [ez, ru_s, if_neg hne, sh8, nI_remN (by omega) (by omega)]
theorem m_yearsGo (hr : okR r) {w : mm_S} (hw : w.1 1 = r) {n : Nat} (hn : yrf r + n < 1000) : hh_c (sX4_yearsGo (nI n) w) (fun q => q.1 = nI (hoF (yrN r n)) ∧ q.2.1 1 = yrN r n ∧ ∀ b, b ≠ 1 → q.2.1 b = w.1 b) := by
  unfold sX4_yearsGo sX4_yearsGo_0 sX4_yearsGo_2
  refine hh_up (fun j s => ∃ w', s = (nI n, nI j, w') ∧ j ≤ n ∧ w'.1 1 = yrN r j ∧ ∀ b, b ≠ 1 → w'.1 b = w.1 b) n (by omega) ⟨w, rfl, Nat.zero_le _, hw, fun _ _ => rfl⟩ ?_
  rintro j s hj ⟨w', rfl, hjn, hv, hf⟩
  have hle : nI n ≤ nI j ↔ n ≤ j := nI_leI (by omega) (by omega)
  obtain ⟨hr2, hy2⟩ := yrN_ok hr j (by omega)
  unfold lX4_yearsGo_2
  dsimp only
  refine hh_i (fun y => ?_) (fun y => ?_)
  · obtain rfl : j = n := by have := hle.mp y; omega
    refine hh_bd (m_cellsOf (ok_ms hr2 hv) (s := 2) (by decide)) (fun q hq => ?_)
    subst hq
    refine hh_bd (m_bits _ _) (fun q hq => ?_)
    subst hq
    exact hh_v ⟨rfl, hv, hf⟩
  have hj2 : j < n := Nat.lt_of_not_le fun t => y (hle.mpr t)
  refine hh_be (m_drawn hv (m := 36) (by decide) (by decide)) ?_
  have hc := Nat.mod_lt (dN (dz (yrN r j 4))) (show 36 > 0 by decide)
  have n1 := dN_lt (dz (yrN r j 4))
  unfold sX4_yearsGo_14
  have e1 : mm_ui w'.1 1 4 (dz (yrN r j 4)) 1 = upd (yrN r j) 4 (dz (yrN r j 4)) := by rw [ru_r, hv]
  have hd2 := m_drawn (w := (mm_ui w'.1 1 4 (dz (yrN r j 4)), w'.2)) (r := upd (yrN r j) 4 (dz (yrN r j 4))) e1 (m := 5) (by decide) (by decide)
  refine hh_be hd2 ?_
  dsimp only
  rw [up_s, show (15 : Int32) + nI (dN (dz (yrN r j 4)) % 36) = nI (15 + dN (dz (yrN r j 4)) % 36) from nI_add 15 _]
  refine hh_f (gI (show 15 + dN (dz (yrN r j 4)) % 36 < 97 by omega) (by decide)) ?_
  rw [nI_clamp (by omega)]
  unfold sX4_yearsGo_28 sX4_yearsGo_38
  dsimp only
  refine hh_v ⟨hj2, _, by rw [nI_1], hj2, ?_, fun b hb => ?_⟩
  · dsimp only
    rw [ru_r, ru_r, ru_r, e1, up_up, up_n _ _ (show (0 : Nat) ≠ 15 + dN (dz (yrN r j 4)) % 36 by omega), up_n _ _ (show (0 : Nat) ≠ 4 by decide), (ok_yr hr2).1, nI_1]
    rfl
  · dsimp only
    rw [ru_n _ _ hb, ru_n _ _ hb, ru_n _ _ hb, ru_n _ _ hb]
    exact hf b hb
end YR
theorem late_x {z w : mm_S} (h : Rel z w) {n : Nat} (hn : n ≤ 60) : z.1 1 12 + nI n ≤ 999 ↔ yrf (w.1 1) + n < 1000 := by
  obtain ⟨e1, e2, e3⟩ := r_yr h
  rw [e1, nI_add]
  have : nI (yrf (w.1 1) + n) ≤ 999 ↔ yrf (w.1 1) + n ≤ 999 := nI_leI (b := 999) (by omega) (by decide)
  rw [this]
  omega
theorem late_m {z w : mm_S} (h : Rel z w) {n : Nat} (hn : n ≤ 60) : ∃ v, sX4_isTooLate (nI n) w = some (v, w) ∧ (v = 0 ↔ yrf (w.1 1) + n < 1000) := by
  obtain ⟨e1, e2, e3⟩ := r_yr h
  unfold sX4_isTooLate sX4_isTooLate_0
  rw [e2, nI_add]
  have : nI (yrf (w.1 1) + n) ≤ 999 ↔ yrf (w.1 1) + n ≤ 999 := nI_leI (b := 999) (by omega) (by decide)
  by_cases q : yrf (w.1 1) + n ≤ 999
  · rw [if_pos (this.mpr q)]; exact ⟨0, rfl, ⟨fun _ => by omega, fun _ => rfl⟩⟩
  · rw [if_neg (fun t => q (this.mp t))]; exact ⟨1, rfl, ⟨fun t => absurd t (by decide), fun t => absurd t (by omega)⟩⟩
theorem pq_years {z w : mm_S} (h : Rel z w) (x1 : Int32) : PP (sX3_years x1 z) (sX4_years x1 w) := by
  unfold sX3_years sX3_years_0 sX3_years_7 sX4_years sX4_years_0
  refine pp_if (ls_1 x1 (n := 60) (by decide)) (ls_1 x1 (n := 60) (by decide)) (fun _ => pp_b (pp_f0 h)) (fun ⟨n, n1, n2, e⟩ => ?_)
  subst e
  obtain ⟨v, f1, hv⟩ := late_m h n2
  unfold sX3_years_16 sX4_years_17
  rw [f1]
  show PP _ (if v = 0 then sX4_years_34 (nI n) w else sX4_years_25 w)
  refine pp_if2 (late_x h n2) hv (fun hy => ?_) (fun _ => pp_b (pp_f4 h))
  unfold sX3_years_37 sX3_years_39 sX4_years_34
  obtain ⟨⟨u, w2⟩, g1, g2, g3, g4⟩ := m_yearsGo h.1 rfl hy
  dsimp only at g2 g3 g4
  have hx : hh_c (mm_wh lX3_years_39 mm_fu (nI n, 0, z)) (fun q => q.1 = nI (hoF (yrN (w.1 1) n)) ∧ RM 1 q.2 (yrN (w.1 1) n) ∧ KX1 z q.2) := by
    refine hh_up (fun j s => ∃ z', s = (nI n, nI j, z') ∧ j ≤ n ∧ RM 1 z' (yrN (w.1 1) j) ∧ KX1 z z') n (by omega) ⟨z, rfl, Nat.zero_le _, h.2.1, KX1_of (KX_0 z)⟩ ?_
    rintro j s hj ⟨z', rfl, hjn, hR, hk⟩
    have hle : nI n ≤ nI j ↔ n ≤ j := nI_leI (by omega) (by omega)
    unfold lX3_years_39 sX3_years_51
    dsimp only
    refine hh_i (fun y => hh_v ?_) (fun y => ?_)
    · obtain rfl : j = n := by have := hle.mp y; omega
      exact ⟨x_holes hR, hR, hk⟩
    have hj2 : j < n := Nat.lt_of_not_le fun t => y (hle.mpr t)
    obtain ⟨p1, p2, p3⟩ := x_year hR (yrN_ok h.1 j (by omega)).1
    exact hh_v ⟨hj2, _, by rw [nI_1], hj2, p1, KX1_t hk ⟨fun b hb => p2 b (by omega), fun b hb => p3 b (by omega)⟩⟩
  obtain ⟨⟨u2, z2⟩, k1, k2, k3, k4⟩ := hx
  dsimp only at k2 k3 k4
  rw [k1, g1, k2, g2]
  exact pp_e rfl rfl (Rel_M h k4 (KM1_1 g4) (by rw [g3]; exact (yrN_ok h.1 n hy).1) (by rw [g3]; exact k3))
theorem pq_seed {z w : mm_S} (h : Rel z w) (x1 : Int32) : PP (sX3_seed x1 z) (sX4_seed x1 w) := by
  obtain ⟨g1, g2⟩ := Rel_1 h (i := 4) (f := 13) (v := x1) (Or.inr (Or.inr (Or.inr ⟨rfl, rfl⟩)))
  unfold sX3_seed sX3_seed_0 sX3_seed_16 sX4_seed sX4_seed_0
  rw [show (4 : Int32) = nI 4 from rfl, m_become (by decide)]
  exact pp_e (by rw [g1]) rfl g2
/-- the reference's row is put back -/
theorem pp_v2 {α : Type} {z w : mm_S} (h : Rel z w) {a : α} {X M : Option (α × mm_S)} (hx : hh_c X (fun q => q.1 = a ∧ KX z q.2)) (hm : hh_c M (fun q => q.1 = a ∧ (∀ i, i < 97 → q.2.1 1 i = w.1 1 i) ∧ KM1 w q.2)) : PP X M := by
  obtain ⟨⟨x, z'⟩, rfl, e1, hk⟩ := hx
  obtain ⟨⟨y, w'⟩, rfl, e2, he, hl⟩ := hm
  exact ⟨a, z', w', by rw [← e1], by rw [← e2], Rel_M h (KX1_of hk) hl (okR_97 h.1 he) (RM_97 (RM_K (Or.inl rfl) h.2.1 hk) he)⟩
theorem m_putBack {w : mm_S} (x : Int32) : hh_c (sX4_putBack x w) (fun q => q.1 = x ∧ (∀ i, i < 97 → q.2.1 1 i = w.1 3 i) ∧ ∀ b, b ≠ 1 → q.2.1 b = w.1 b) := by
  unfold sX4_putBack sX4_putBack_0 sX4_putBack_11
  refine hh_bd (m_copy (w := w) (a := 3) (b := 1) (Or.inr (Or.inr rfl)) (Or.inl rfl) (by decide)) (fun w' h => hh_v ⟨rfl, h.1, h.2⟩)
noncomputable def ahA (r : Nat → Int32) (n v : Nat) : Int32 := if v = 0 then nI (hoF (yrN r n)) else if v = 1 then nI (fb_ct (tb (silS (yrN r n))) 64) else tI (td (stf (yrN r n)) 0 35)
theorem pq_ahead {z w : mm_S} (h : Rel z w) (x1 x2 : Int32) : PP (sX3_ahead x1 x2 z) (sX4_ahead x1 x2 w) := by
  unfold sX3_ahead sX3_ahead_0 sX3_ahead_7 sX4_ahead sX4_ahead_0
  refine pp_if (x_lies0 x1 (n := 60) (by decide)) (m_within0 x1 (n := 60) (by decide)) (fun _ => pp_b (pp_f0 h)) (fun ⟨n, n1, e⟩ => ?_)
  subst e
  unfold sX3_ahead_16
  refine pp_if (x_lies0 x2 (n := 2) (by decide)) (m_within0 x2 (n := 2) (by decide)) (fun _ => pp_b (pp_f0 h)) (fun ⟨v, hv, e⟩ => ?_)
  subst e
  obtain ⟨u, f1, hu⟩ := late_m h (show n ≤ 60 by omega)
  unfold sX3_ahead_25 sX4_ahead_26
  rw [f1]
  show PP _ (if u = 0 then sX4_ahead_41 (nI n) (nI v) w else sX4_ahead_34 w)
  refine pp_if2 (late_x h (by omega)) hu (fun hy => ?_) (fun _ => pp_b (pp_f4 h))
  have v0 : nI v = 0 ↔ v = 0 := nI_eq (b := 0) (by omega) (by decide)
  have v1 : nI v = 1 ↔ v = 1 := nI_eq (b := 1) (by omega) (by decide)
  obtain ⟨hrn, -⟩ := yrN_ok h.1 n hy
  refine pp_v2 (a := ahA (w.1 1) n v) h ?_ ?_
  · obtain ⟨g1, g2, g3⟩ := x_become (o := 25) (y := 1) (Or.inr (Or.inr ⟨rfl, rfl⟩)) h.2.1
    unfold sX3_ahead_46 sX3_ahead_57 sX3_ahead_59
    dsimp only
    generalize tX0_become 25 1 z = z0 at *
    have hk0 : KX z z0 := ⟨fun b hb => g2 b (by omega) (by omega), fun b hb => g3 b (by omega)⟩
    refine hh_up (fun j s => ∃ z', s = (nI n, nI v, nI j, z') ∧ j ≤ n ∧ RM 25 z' (yrN (w.1 1) j) ∧ KX z z') n (by omega) ⟨z0, rfl, Nat.zero_le _, g1, hk0⟩ ?_
    rintro j s hj ⟨z', rfl, hjn, hR, hk⟩
    have hle : nI n ≤ nI j ↔ n ≤ j := nI_leI (by omega) (by omega)
    unfold lX3_ahead_59 sX3_ahead_71
    dsimp only
    refine hh_i (fun y => ?_) (fun y => ?_)
    · obtain rfl : j = n := by have := hle.mp y; omega
      unfold ahA
      refine hh_i (fun t => hh_v ⟨?_, hk⟩) (fun t => hh_i (fun t2 => ?_) (fun t2 => ?_))
      · rw [if_pos (v0.mp t)]
        exact x_holes hR
      · rw [if_neg (fun x => t (v0.mpr x)), if_pos (v1.mp t2)]
        refine hh_bd (x_silent (Or.inr (Or.inr rfl)) hR hrn) (fun q hq => hh_v ⟨?_, KX_t hk (KX_R (Or.inr (Or.inr rfl)) hq.2)⟩)
        show pJ13_bitCount_95d88 q.1 = _
        rw [x_bits, hq.1]
      · rw [if_neg (fun x => t (v0.mpr x)), if_neg (fun x => t2 (v1.mpr x))]
        refine hh_bd (x_timeBetween (o := 26) (a := 0) (c := 35) (Or.inr (Or.inr rfl)) (by decide) (by decide) hR.2.2.2.2.2.2.2.2.2) (fun q hq => hh_v ⟨hq.1, KX_t hk (KX_R (Or.inr (Or.inr rfl)) hq.2)⟩)
    have hj2 : j < n := Nat.lt_of_not_le fun t => y (hle.mpr t)
    obtain ⟨p1, p2, p3⟩ := x_year hR (yrN_ok h.1 j (by omega)).1
    exact hh_v ⟨hj2, _, by rw [nI_1], hj2, p1, KX_t hk ⟨fun b hb => p2 b (by omega), fun b hb => p3 b (by omega)⟩⟩
  · unfold sX4_ahead_41
    refine hh_bd (m_copy (w := w) (a := 1) (b := 3) (Or.inl rfl) (Or.inr (Or.inr rfl)) (by decide)) (fun w1 h1 => ?_)
    obtain ⟨c1, c2⟩ := h1
    unfold sX4_ahead_52
    refine hh_bd (m_yearsGo h.1 (c2 1 (by decide)) hy) (fun q hq => ?_)
    obtain ⟨u2, w2⟩ := q
    obtain ⟨rfl, d1, d2⟩ := hq
    dsimp only at d1 d2 ⊢
    unfold sX4_ahead_58
    refine hh_bd (m_timeOf (a := 0) (c := 35) (by decide) (by decide) (ok_ms hrn d1)) (fun q hq => ?_)
    obtain ⟨u3, w3⟩ := q
    obtain ⟨rfl, d3⟩ := hq
    dsimp only at d3 ⊢
    have b3 : ∀ b, ¬ (b = 1 ∨ b = 3 ∨ b = 5) → w3.1 b = w.1 b := fun b hb => ((d3 b (by omega)).trans (d2 b (by omega))).trans (c2 b (by omega))
    have a3 : ∀ i, i < 97 → w3.1 3 i = w.1 1 i := fun i hi => by rw [d3 3 (by decide), d2 3 (by decide), c1 i hi]
    have r3 : w3.1 1 = yrN (w.1 1) n := (d3 1 (by decide)).trans d1
    -- putting back, whatever is told
    have back : ∀ (x : Int32) (w4 : mm_S), (∀ b, b ≠ 7 → w4.1 b = w3.1 b) → hh_c ((sX4_putBack x w4).bind fun q => some (q.1, q.2)) (fun q => q.1 = x ∧ (∀ i, i < 97 → q.2.1 1 i = w.1 1 i) ∧ KM1 w q.2) := by
      intro x w4 h4
      refine hh_bd (m_putBack x) (fun q hq => hh_v ⟨hq.1, fun i hi => ?_, fun b hb => ?_, ?_, ?_⟩)
      · show q.2.1 1 i = _
        rw [hq.2.1 i hi, h4 3 (by decide), a3 i hi]
      · show q.2.1 b = _
        rw [hq.2.2 b (by omega), h4 b (by omega), b3 b (by omega)]
      · show q.2.1 0 3 = _
        rw [hq.2.2 0 (by decide), h4 0 (by decide), b3 0 (by decide)]
      · show q.2.1 0 18 = _
        rw [hq.2.2 0 (by decide), h4 0 (by decide), b3 0 (by decide)]
    have hd : td (stf (yrN (w.1 1) n)) 0 35 ≤ 10000 := wk_dle 35
    have ht : (10000 : Int32) ≤ nI (td (stf (yrN (w.1 1) n)) 0 35) ↔ 10000 ≤ td (stf (yrN (w.1 1) n)) 0 35 := nI_leI (a := 10000) (by decide) (by omega)
    unfold sX4_ahead_67 ahA
    refine hh_i (fun t => ?_) (fun t => hh_i (fun t2 => ?_) (fun t2 => ?_))
    · rw [if_pos (v0.mp t)]
      exact back _ w3 (fun _ _ => rfl)
    · rw [if_neg (fun x => t (v0.mpr x)), if_pos (v1.mp t2)]
      refine hh_bd (m_silent r3 hrn) (fun q hq => ?_)
      obtain ⟨s, w4⟩ := q
      obtain ⟨rfl, h4⟩ := hq
      dsimp only at h4 ⊢
      refine hh_bd (m_bits _ _) (fun q hq => ?_)
      subst hq
      exact back _ w4 h4
    · rw [if_neg (fun x => t (v0.mpr x)), if_neg (fun x => t2 (v1.mpr x))]
      refine hh_i (fun t3 => ?_) (fun t3 => ?_)
      · rw [tI_2 (by have := ht.mp t3; omega)]
        exact back _ w3 (fun _ _ => rfl)
      · rw [tI_1 (Nat.lt_of_not_le fun x => t3 (ht.mpr x))]
        exact back _ w3 (fun _ _ => rfl)
