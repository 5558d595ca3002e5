/-! ===== rock, crews: side by side ===== -/
theorem r_nC {z w : mm_S} (h : Rel z w) : z.1 1 4 = nI (nC (w.1 1)) ∧ w.1 1 1 = nI (nC (w.1 1)) ∧ nC (w.1 1) < 7 := ⟨h.2.1.2.1.trans (ok_nC h.1).1, (ok_nC h.1).1, (ok_nC h.1).2⟩
theorem r_nB {z w : mm_S} (h : Rel z w) : z.1 1 10 = nI (nB (w.1 1)) ∧ w.1 1 2 = nI (nB (w.1 1)) ∧ nB (w.1 1) < 9 := ⟨h.2.1.2.2.1.trans (ok_nB h.1).1, (ok_nB h.1).1, (ok_nB h.1).2⟩
theorem r_nU {z w : mm_S} (h : Rel z w) : z.1 1 6 = nI (nU (w.1 1)) ∧ w.1 1 3 = nI (nU (w.1 1)) ∧ nU (w.1 1) < 5 := ⟨h.2.1.2.2.2.1.trans (ok_nU h.1).1, (ok_nU h.1).1, (ok_nU h.1).2⟩
theorem r_yr {z w : mm_S} (h : Rel z w) : z.1 1 12 = nI (yrf (w.1 1)) ∧ w.1 1 0 = nI (yrf (w.1 1)) ∧ yrf (w.1 1) < 1000 := ⟨h.2.1.1.trans (ok_yr h.1).1, (ok_yr h.1).1, (ok_yr h.1).2⟩
theorem r_sb {z w : mm_S} (h : Rel z w) : sb 2 z (stf (w.1 1)) := h.2.1.2.2.2.2.2.2.2.2.2
theorem r_ms {z w : mm_S} (h : Rel z w) : ms w (stf (w.1 1)) := ok_ms h.1 rfl
theorem isN_w {x : Int32} {m n : Nat} (h : isN x m) (hn : m ≤ n) : isN x n := by
  obtain ⟨k, hk, rfl⟩ := h
  exact ⟨k, by omega, rfl⟩
theorem pq_stuff {z w : mm_S} (h : Rel z w) (x1 x2 : Int32) : PP (sX3_stuff x1 x2 z) (sX4_stuff x1 x2 w) := by
  unfold sX3_stuff sX3_stuff_0 sX4_stuff sX4_stuff_0
  refine pp_if (x_isCell _) (m_isCell _) (fun _ => pp_b (pp_f0 h)) (fun hc => pp_if (x_isStuff _) (m_isStuff _) (fun _ => pp_b (pp_f0 h)) (fun hv => ?_))
  obtain ⟨c, hc, rfl⟩ := hc
  obtain ⟨v, hv, rfl⟩ := hv
  obtain ⟨g1, g2, g3⟩ := x_put (r_sb h) hc hv
  have hst := ok_st h.1 hc
  unfold sX3_stuff_20 sX3_stuff_44
  dsimp only
  rw [st_N (r_sb h) hc, show (15 : Int32) + nI c = nI (15 + c) from nI_add 15 c, m_become (by omega), hst.1]
  refine pp_e rfl rfl ?_
  have e1 : mm_ui w.1 1 (15 + c) (nI v) 1 = upd (w.1 1) (15 + c) (nI v) := ru_r _ _ _ _
  refine Rel_M h ⟨fun b _ => by rw [g1], fun b hb => g3 b (by omega)⟩ (KM1_1 fun b hb => ru_n _ _ hb) ?_ ?_
  · show okR (mm_ui w.1 1 (15 + c) (nI v) 1)
    rw [e1]
    exact okR_st h.1 hc hv
  · show RM 1 _ (mm_ui w.1 1 (15 + c) (nI v) 1)
    rw [e1]
    exact RM_st h.2.1 hc (fun b _ => by rw [g1]) (by rw [stf_u (by omega)]; exact g2)
theorem pq_crew {z w : mm_S} (h : Rel z w) (x1 x2 : Int32) : PP (sX3_crew x1 x2 z) (sX4_crew x1 x2 w) := by
  obtain ⟨e1, e2, e3⟩ := r_nC h
  unfold sX3_crew sX3_crew_0 sX4_crew sX4_crew_0
  refine pp_if (x_isKind _) (m_isKind _) (fun _ => pp_b (pp_f0 h)) (fun hk => pp_if (x_isCell _) (m_isCell _) (fun _ => pp_b (pp_f0 h)) (fun hc => ?_))
  obtain ⟨k, hk, rfl⟩ := hk
  obtain ⟨c, hc, rfl⟩ := hc
  unfold sX3_crew_20 sX4_crew_21
  rw [e1, e2]
  by_cases hn : nC (w.1 1) < 6
  · rw [if_pos (show nI (nC (w.1 1)) < 6 from nI_lt (b := 6) hn (by decide)), if_neg (show ¬ nI (nC (w.1 1)) = 6 from fun e => absurd ((nI_eq (b := 6) (by omega) (by decide)).mp e) (by omega))]
    obtain ⟨g1, g2, g3, g4⟩ := x_addCrew (Or.inl rfl) h.2.1 h.1 hn k c 6
    obtain ⟨w', f1, f2, f3⟩ := m_comes rfl h.1 hn k c 6
    unfold sX3_crew_38 sX3_crew_49 sX4_crew_41
    rw [show (6 : Int32) = nI 6 from rfl, f1]
    refine pp_e (a := nI (nC (w.1 1))) (z' := tX0_addCrew 1 (nI k) (nI c) (nI 6) z) ?_ rfl ?_
    · show some ((tX0_addCrew 1 (nI k) (nI c) (nI 6) z).1 1 4 - 1, tX0_addCrew 1 (nI k) (nI c) (nI 6) z) = _
      rw [g4, nI_pred]
    · refine Rel_M h ⟨fun b hb => g2 b (by omega) (by omega) (by omega) (by omega), fun b _ => by rw [g3]⟩ (KM1_1 f3) ?_ ?_
      · rw [f2]; exact okR_C h.1 hn hk hc (by decide)
      · rw [f2]; exact g1
  · rw [if_neg (show ¬ nI (nC (w.1 1)) < 6 from nI_nlt (b := 6) (by omega) (by omega)), if_pos (by rw [show nC (w.1 1) = 6 by omega]; rfl)]
    exact pp_b (pp_f1 h)
theorem pq_of {z w : mm_S} (h : Rel z w) (x1 x2 : Int32) : PP (sX3_of x1 x2 z) (sX4_of x1 x2 w) := by
  obtain ⟨-, -, e3⟩ := r_nC h
  unfold sX3_of sX3_of_0 sX4_of sX4_of_0
  refine pp_if (x_isCrew h _) (m_isCrew h _) (fun _ => pp_b (pp_f0 h)) (fun hk => ?_)
  obtain ⟨k, hk, rfl⟩ := hk
  have hk6 : k < 6 := by omega
  have o1 : (1 : Nat) = 1 ∨ (1 : Nat) = 13 ∨ (1 : Nat) = 25 := Or.inl rfl
  have hkn := ok_kn h.1 hk6
  have hx : pX4_within x2 0 5 = 0 ↔ ¬ isN x2 6 := m_within0 x2 (n := 5) (by decide)
  by_cases hw : isN x2 6
  · rw [if_neg (fun e => (hx.mp e) hw)]
    obtain ⟨q, hq, rfl⟩ := hw
    unfold sX3_of_14 sX4_of_24 sX4_of_38 sX4_of_51 sX4_of_64
    rw [x_kindOf o1 h.2.1 h.1 hk6, x_placeOf o1 h.2.1 h.1 hk6, x_forceOf o1 h.2.1 h.1 hk6, x_carriesOf o1 h.2.1 h.1 hk6, x_sta _ hkn.2, x_heb _ hkn.2, m_carries rfl h.1 hk6, m_starts rfl h.1 hk6, m_hearsBy rfl h.1 hk6]
    have h6 : q = 0 ∨ q = 1 ∨ q = 2 ∨ q = 3 ∨ q = 4 ∨ q = 5 := by omega
    rcases h6 with rfl | rfl | rfl | rfl | rfl | rfl
    · rw [show nI 0 = 0 from rfl, if_pos rfl, if_neg (by decide), m_kind rfl h.1 hk6]
      exact pp_e rfl rfl h
    · rw [show nI 1 = 1 from rfl, if_neg (by decide), if_pos rfl, if_neg (by decide), m_place rfl h.1 hk6]
      exact pp_e rfl rfl h
    · rw [show nI 2 = 2 from rfl, if_neg (by decide), if_neg (by decide), if_pos rfl, if_neg (by decide), m_force rfl h.1 hk6]
      exact pp_e rfl rfl h
    · rw [show nI 3 = 3 from rfl, if_neg (by decide), if_neg (by decide), if_neg (by decide), if_pos rfl, if_pos (by decide), if_pos rfl]
      exact pp_e rfl rfl h
    · rw [show nI 4 = 4 from rfl, if_neg (by decide), if_neg (by decide), if_neg (by decide), if_neg (by decide), if_pos rfl, if_pos (by decide), if_neg (by decide), if_pos rfl]
      exact pp_e rfl rfl h
    · rw [show nI 5 = 5 from rfl, if_neg (by decide), if_neg (by decide), if_neg (by decide), if_neg (by decide), if_neg (by decide), if_pos rfl, if_pos (by decide), if_neg (by decide), if_neg (by decide)]
      exact pp_e rfl rfl h
  · rw [if_pos (hx.mpr hw)]
    have ne : ∀ q, q < 6 → x2 ≠ nI q := fun q hq e => hw ⟨q, hq, e⟩
    unfold sX3_of_14
    rw [if_neg (show ¬ x2 = 0 from ne 0 (by decide)), if_neg (show ¬ x2 = 1 from ne 1 (by decide)), if_neg (show ¬ x2 = 2 from ne 2 (by decide)), if_neg (show ¬ x2 = 3 from ne 3 (by decide)), if_neg (show ¬ x2 = 4 from ne 4 (by decide)), if_neg (show ¬ x2 = 5 from ne 5 (by decide))]
    exact pp_b (pp_f0 h)
theorem or0L (x : Int64) : x ||| 0 = x := tb_ext fun i _ => by rw [tb_or, tb_0, Bool.or_false]
def ls64 (P : Nat → Bool) : Nat → Int64
  | 0 => 0
  | n + 1 => if P n = true then ls64 P n ||| ((1 : Int64) <<< (Int32.toInt64 (nI n) &&& 63)) else ls64 P n
theorem tb_ls {P : Nat → Bool} : ∀ {n : Nat}, n ≤ 64 → ∀ i, tb (ls64 P n) i = (decide (i < n) && P i)
  | 0, _, i => by rw [show ls64 P 0 = 0 from rfl, tb_0]; simp
  | n + 1, hn, i => by
    have ih := tb_ls (P := P) (n := n) (by omega) i
    unfold ls64
    by_cases hp : P n = true
    · rw [if_pos hp, tb_or, ih, tb_one (by omega)]
      by_cases e : i = n
      · subst e; simp [hp]
      · have : (i < n + 1 ↔ i < n) := by omega
        simp [e, this]
    · rw [if_neg hp, ih]
      by_cases e : i = n
      · subst e
        simp only [Bool.not_eq_true] at hp
        simp [hp]
      · have : (i < n + 1 ↔ i < n) := by omega
        simp [this]
theorem tb_lsS {P : Nat → Bool} : tb_S (ls64 P 36) := fun i hi => by
  rw [tb_ls (by decide)]
  simp
  omega
theorem m_cellsOf {w : mm_S} {st : Nat → Nat} (h : ms w st) {s : Nat} (hs : s < 5) : hh_c (sX4_cellsOf (nI s) w) (fun q => q = (ls64 (fun c => decide (st c = s)) 36, w)) := by
  unfold sX4_cellsOf sX4_cellsOf_0 sX4_cellsOf_5
  refine hh_up (fun j t => t = (nI s, ls64 (fun c => decide (st c = s)) j, nI j, w)) 36 (by decide) rfl ?_
  rintro j _ hj rfl
  have h36 : (36 : Int32) ≤ nI j ↔ 36 ≤ j := nI_leI (a := 36) (by decide) (by omega)
  unfold lX4_cellsOf_5 sX4_cellsOf_33
  dsimp only
  refine hh_i (fun q => hh_v ?_) (fun q => ?_)
  · obtain rfl : j = 36 := by have := h36.mp q; omega
    rfl
  have hj2 : j < 36 := Nat.lt_of_not_le fun y => q (h36.mpr y)
  refine hh_be (m_stuffIs h hj2) ?_
  dsimp only
  have hs5 := (h j hj2).1
  have e : nI (st j) = nI s ↔ st j = s := nI_eq (by omega) (by omega)
  refine hh_i (fun q => hh_v ⟨hj2, ?_⟩) (fun q => hh_v ⟨hj2, ?_⟩)
  · rw [nI_1]
    simp only [ls64, decide_eq_true_eq, if_pos (e.mp q)]
  · rw [nI_1, or0L]
    simp only [ls64, decide_eq_true_eq, if_neg (fun y => q (e.mpr y))]
theorem cells_eq {o : Nat} {z : mm_S} {st : Nat → Nat} (h : sb o z st) {s : Nat} (hs : s < 5) : z.2 (o + 1) s = ls64 (fun c => decide (st c = s)) 36 := tb_extS (h.2 s hs).1 tb_lsS fun i hi => by
  rw [(h.2 s hs).2 i hi, tb_ls (by decide)]
  simp [hi]
theorem pq_cells {z w : mm_S} (h : Rel z w) (x1 : Int32) : PP (sX3_cells x1 z) (sX4_cells x1 w) := by
  unfold sX3_cells sX3_cells_0 sX4_cells sX4_cells_0
  refine pp_if (x_isStuff _) (m_isStuff _) (fun _ => pp_bl (pp_f0 h)) (fun hv => ?_)
  obtain ⟨s, hs, rfl⟩ := hv
  obtain ⟨q, hq, rfl⟩ := m_cellsOf (r_ms h) hs
  rw [hq, cof_N z hs, cells_eq (r_sb h) hs]
  exact pp_e rfl rfl h
/-! a number of a crew that changes -/
theorem okR_u {r : Nat → Int32} (h : okR r) {k f v : Nat} (hk : k < 6) (hv : (f = 0 ∧ v < 7) ∨ (f = 1 ∧ v < 36) ∨ (f = 2 ∧ v < 21)) : okR (upd r (51 + 3 * k + f) (nI v)) := by
  obtain ⟨a1, a2, a3, a4, a5, a6, a7, a8, a9⟩ := h
  refine ⟨by rw [up_n _ _ (by omega)]; exact a1, by rw [up_n _ _ (by omega)]; exact a2, by rw [up_n _ _ (by omega)]; exact a3, by rw [up_n _ _ (by omega)]; exact a4, fun i hi => by rw [up_n _ _ (by omega)]; exact a5 i hi, fun q hq => by rw [up_n _ _ (by omega)]; exact a6 q hq, fun q hq => ⟨?_, ?_, ?_⟩, fun i hi => by rw [up_n _ _ (by omega)]; exact a8 i hi, fun i hi => by rw [up_n _ _ (by omega), up_n _ _ (by omega), up_n _ _ (by omega)]; exact a9 i hi⟩
  · by_cases e : 51 + 3 * q = 51 + 3 * k + f
    · rw [e, up_s]; exact isN_N (by omega)
    · rw [up_n _ _ e]; exact (a7 q hq).1
  · by_cases e : 52 + 3 * q = 51 + 3 * k + f
    · rw [e, up_s]; exact isN_N (by omega)
    · rw [up_n _ _ e]; exact (a7 q hq).2.1
  · by_cases e : 53 + 3 * q = 51 + 3 * k + f
    · rw [e, up_s]; exact isN_N (by omega)
    · rw [up_n _ _ e]; exact (a7 q hq).2.2
theorem RM_u {o : Nat} {z : mm_S} {r : Nat → Int32} (h : RM o z r) {k f : Nat} (hk : k < 6) (hf : f < 3) (v : Int32) : RM o (mm_ui z.1 (o + 4 + f) k v, z.2) (upd r (51 + 3 * k + f) v) := by
  obtain ⟨a1, a2, a3, a4, a5, a6, a7, a8, a9, a10⟩ := h
  have n0 : mm_ui z.1 (o + 4 + f) k v o = z.1 o := ru_n _ _ (by omega)
  have hst : ∀ c, c < 36 → stf (upd r (51 + 3 * k + f) v) c = stf r c := stf_o fun c hc => up_n _ _ (by omega)
  have key : ∀ g q, q < 6 → g < 3 → z.1 (o + 4 + g) q = r (51 + 3 * q + g) → mm_ui z.1 (o + 4 + f) k v (o + 4 + g) q = upd r (51 + 3 * k + f) v (51 + 3 * q + g) := by
    intro g q hq hg e
    by_cases x : g = f ∧ q = k
    · obtain ⟨rfl, rfl⟩ := x
      rw [ru_s, up_s]
    · rw [ru_c _ _ _ _ _ _ (by omega), up_n _ _ (by omega), e]
  refine ⟨?_, ?_, ?_, ?_, ?_, fun i hi => ?_, fun q hq => ⟨?_, ?_, ?_⟩, fun i hi => ?_, fun i hi => ?_, sb_o a10 rfl hst⟩
  · show mm_ui z.1 (o + 4 + f) k v o 12 = _
    rw [n0, up_n _ _ (by omega)]; exact a1
  · show mm_ui z.1 (o + 4 + f) k v o 4 = _
    rw [n0, up_n _ _ (by omega)]; exact a2
  · show mm_ui z.1 (o + 4 + f) k v o 10 = _
    rw [n0, up_n _ _ (by omega)]; exact a3
  · show mm_ui z.1 (o + 4 + f) k v o 6 = _
    rw [n0, up_n _ _ (by omega)]; exact a4
  · show mm_ui z.1 (o + 4 + f) k v o 13 = _
    rw [n0, up_n _ _ (by omega)]; exact a5
  · show mm_ui z.1 (o + 4 + f) k v (o + 11) i = _
    rw [ru_n _ _ (by omega), up_n _ _ (by omega)]; exact a6 i hi
  · exact key 0 q hq (by decide) (a7 q hq).1
  · have := key 1 q hq (by decide) ((a7 q hq).2.1.trans (by congr 1; omega))
    rw [show 52 + 3 * q = 51 + 3 * q + 1 by omega]; exact this
  · have := key 2 q hq (by decide) ((a7 q hq).2.2.trans (by congr 1; omega))
    rw [show 53 + 3 * q = 51 + 3 * q + 2 by omega]; exact this
  · show mm_ui z.1 (o + 4 + f) k v (o + 7) i = _
    rw [ru_n _ _ (by omega), up_n _ _ (by omega)]; exact a8 i hi
  · show mm_ui z.1 (o + 4 + f) k v (o + 8) i = _ ∧ mm_ui z.1 (o + 4 + f) k v (o + 9) i = _ ∧ mm_ui z.1 (o + 4 + f) k v (o + 10) i = _
    rw [ru_n _ _ (by omega), ru_n _ _ (by omega), ru_n _ _ (by omega), up_n _ _ (by omega), up_n _ _ (by omega), up_n _ _ (by omega)]; exact a9 i hi
theorem pp_chg {z w : mm_S} (h : Rel z w) {k f v : Nat} (hk : k < 6) (hv : (f = 0 ∧ v < 7) ∨ (f = 1 ∧ v < 36) ∨ (f = 2 ∧ v < 21)) : PP (some ((tX3_exchange (5 + f) (nI k) (nI v) z).1, (tX3_exchange (5 + f) (nI k) (nI v) z).2)) ((sX4_become (pX4_at (nI k) (nI f)) (nI v) w).bind fun q => some (q.1, q.2)) := by
  have hl : lenX (5 + f) = 6 := by
    have : f = 0 ∨ f = 1 ∨ f = 2 := by omega
    rcases this with rfl | rfl | rfl <;> rfl
  rw [ex_N _ _ (by omega), m_at, m_become (by omega)]
  have e7 := h.2.1.2.2.2.2.2.2.1 k hk
  have ev : z.1 (5 + f) k = w.1 1 (51 + 3 * k + f) := by
    have : f = 0 ∨ f = 1 ∨ f = 2 := by omega
    rcases this with rfl | rfl | rfl
    · exact e7.1
    · exact e7.2.1.trans (congrArg (w.1 1) (by omega))
    · exact e7.2.2.trans (congrArg (w.1 1) (by omega))
  refine pp_e (a := w.1 1 (51 + 3 * k + f)) (z' := (mm_ui z.1 (5 + f) k (nI v), z.2)) (by rw [ev]) rfl ?_
  have e1 : mm_ui w.1 1 (51 + 3 * k + f) (nI v) 1 = upd (w.1 1) (51 + 3 * k + f) (nI v) := ru_r _ _ _ _
  refine Rel_M h ⟨fun b hb => ru_n _ _ (by omega), fun b _ => rfl⟩ (KM1_1 fun b hb => ru_n _ _ hb) ?_ ?_
  · show okR (mm_ui w.1 1 _ (nI v) 1)
    rw [e1]
    exact okR_u h.1 hk hv
  · show RM 1 _ (mm_ui w.1 1 _ (nI v) 1)
    rw [e1]
    have := RM_u h.2.1 hk (show f < 3 by omega) (nI v)
    rw [show 1 + 4 + f = 5 + f by omega] at this
    exact this
theorem ls_1 (x : Int32) {n : Nat} (hn : n < 2 ^ 31) : (if x < 1 then (0 : Int32) else if nI n < x then 0 else 1) = 0 ↔ ¬ ∃ k, 1 ≤ k ∧ k ≤ n ∧ x = nI k := by
  by_cases h : x < 1
  · rw [if_pos h]
    refine ⟨fun _ => ?_, fun _ => rfl⟩
    rintro ⟨k, hk, hk2, rfl⟩
    have := (nI_ltI (b := 1) (by omega) (by decide)).mp h
    omega
  · have h0 : ¬ x < 0 := fun q => h (Int32.lt_trans q (by decide))
    obtain ⟨j, hj, rfl⟩ := nI_of h0
    rw [if_neg h]
    have hj1 : 1 ≤ j := Nat.le_of_not_lt fun q => h (nI_lt (b := 1) q (by decide))
    by_cases q : nI n < nI j
    · rw [if_pos q]
      refine ⟨fun _ => ?_, fun _ => rfl⟩
      rintro ⟨k, _, hk, e⟩
      have := (nI_eq hj (by omega)).mp e
      have := (nI_ltI hn hj).mp q
      omega
    · rw [if_neg q]
      exact ⟨fun e => absurd e (by decide), fun e => absurd ⟨j, hj1, Nat.le_of_not_lt fun y => q (nI_lt y hj), rfl⟩ e⟩
theorem pq_change {z w : mm_S} (h : Rel z w) (x1 x2 x3 : Int32) : PP (sX3_change x1 x2 x3 z) (sX4_change x1 x2 x3 w) := by
  obtain ⟨-, -, e3⟩ := r_nC h
  have f0 : PP (sX3_change_91 z) (sX4_change_71 w) := pp_b (pp_f0 h)
  have l20 : ∀ x, pX3_lies x 1 20 = 0 ↔ ¬ ∃ k, 1 ≤ k ∧ k ≤ 20 ∧ x = nI k := fun x => ls_1 x (n := 20) (by decide)
  have w20 : ∀ x, pX4_within x 1 20 = 0 ↔ ¬ ∃ k, 1 ≤ k ∧ k ≤ 20 ∧ x = nI k := fun x => ls_1 x (n := 20) (by decide)
  unfold sX3_change sX3_change_0 sX4_change sX4_change_0
  by_cases hk : isN x1 (nC (w.1 1))
  · rw [if_neg (fun e => ((x_isCrew h x1).mp e) hk)]
    have hk0 : ¬ pX4_isCrew x1 w = 0 := fun e => ((m_isCrew h x1).mp e) hk
    obtain ⟨k, hk, rfl⟩ := hk
    have hk6 : k < 6 := by omega
    simp only [if_neg hk0]
    unfold sX3_change_14 sX3_change_38 sX3_change_63
    have z01 : ¬ ((0 : Int32) = 1) := by decide
    have z02 : ¬ ((0 : Int32) = 2) := by decide
    have z10 : ¬ ((1 : Int32) = 0) := by decide
    have z12 : ¬ ((1 : Int32) = 2) := by decide
    have z20 : ¬ ((2 : Int32) = 0) := by decide
    have z21 : ¬ ((2 : Int32) = 1) := by decide
    by_cases c0 : x2 = 0
    · subst c0
      simp only [if_true, if_neg z01, if_neg z02]
      by_cases c : isN x3 7
      · rw [if_neg (fun e => (x_isKind x3).mp e c), if_neg (fun e => (m_isKind x3).mp e c)]
        obtain ⟨v, hv, rfl⟩ := c
        exact pp_chg (f := 0) h hk6 (Or.inl ⟨rfl, hv⟩)
      · rw [if_pos ((x_isKind x3).mpr c), if_pos ((m_isKind x3).mpr c)]
        exact f0
    · simp only [if_neg c0]
      by_cases c1 : x2 = 1
      · subst c1
        simp only [if_true, if_neg z12]
        by_cases c : isN x3 36
        · rw [if_neg (fun e => (x_isCell x3).mp e c), if_neg (fun e => (m_isCell x3).mp e c)]
          obtain ⟨v, hv, rfl⟩ := c
          exact pp_chg (f := 1) h hk6 (Or.inr (Or.inl ⟨rfl, hv⟩))
        · rw [if_pos ((x_isCell x3).mpr c), if_pos ((m_isCell x3).mpr c)]
          exact f0
      · simp only [if_neg c1]
        by_cases c2 : x2 = 2
        · subst c2
          simp only [if_true]
          by_cases c : ∃ k, 1 ≤ k ∧ k ≤ 20 ∧ x3 = nI k
          · rw [if_neg (fun e => (l20 x3).mp e c), if_neg (fun e => (w20 x3).mp e c)]
            obtain ⟨v, _, hv, rfl⟩ := c
            exact pp_chg (f := 2) h hk6 (Or.inr (Or.inr ⟨rfl, by omega⟩))
          · rw [if_pos ((l20 x3).mpr c), if_pos ((w20 x3).mpr c)]
            exact f0
        · simp only [if_neg c2]
          exact f0
  · rw [if_pos ((x_isCrew h x1).mpr hk)]
    have hk0 : pX4_isCrew x1 w = 0 := (m_isCrew h x1).mpr hk
    simp only [if_pos hk0, ite_self]
    exact f0
/-! unsure cells -/
theorem x_isUnsure {o : Nat} {z : mm_S} {r : Nat → Int32} (ho : o = 1 ∨ o = 13 ∨ o = 25) (hm : RM o z r) (hr : okR r) {c : Nat} (hc : c < 36) : pX0_isUnsure o (nI c) z = 0 ↔ ∀ i, i < nU r → uns r i ≠ c := by
  obtain ⟨-, -, -, l7, -⟩ := oM ho
  have hn := ok_nU hr
  have key : ∀ k j, j + k ≤ 4 → (mm_lp (lX0_isUnsure o (nI c) z) (fun s => 0) k j () = 0 ↔ ∀ i, j ≤ i → i < j + k → uns r i ≠ c) := by
    intro k
    induction k with
    | zero =>
      intro j hj
      unfold mm_lp
      exact ⟨fun _ i h1 h2 => by omega, fun _ => rfl⟩
    | succ k ih =>
      intro j hj
      have hu := ok_un hr (show j < 4 by omega)
      have e : pX3_at (o + 7) (nI j) z = nI (uns r j) := by rw [at_N _ (by omega), hm.2.2.2.2.2.2.2.1 j (by omega), hu.1]
      have e2 : nI (uns r j) = nI c ↔ uns r j = c := nI_eq (by omega) (by omega)
      unfold mm_lp lX0_isUnsure
      rw [e]
      by_cases q : uns r j = c
      · rw [if_pos (e2.mpr q)]
        dsimp only
        constructor
        · intro x; exact absurd x (by decide)
        · intro x; exact absurd q (x j (Nat.le_refl _) (by omega))
      · rw [if_neg (fun x => q (e2.mp x))]
        dsimp only
        have := ih (j + 1) (by omega)
        unfold lX0_isUnsure at this
        rw [this]
        constructor
        · intro x i h1 h2
          by_cases y : i = j
          · subst y; exact q
          · exact x i (by omega) (by omega)
        · intro x i h1 h2; exact x i (by omega) (by omega)
  unfold pX0_isUnsure
  rw [hm.2.2.2.1, hn.1, nI_clamp (by omega), key (nU r) 0 (by omega)]
  exact ⟨fun x i hi => x i (Nat.zero_le _) (by omega), fun x i _ hi => x i (by omega)⟩
theorem m_isUnsure {w : mm_S} {r : Nat → Int32} (hw : w.1 1 = r) (hr : okR r) {c : Nat} (hc : c < 36) : hh_c (sX4_isUnsure (nI c) w) (fun q => q.2 = w ∧ (q.1 = 0 ↔ ∀ i, i < nU r → uns r i ≠ c)) := by
  have hn := ok_nU hr
  unfold sX4_isUnsure sX4_isUnsure_0 sX4_isUnsure_4
  refine hh_up (fun j s => ∃ b : Int32, s = (nI c, b, nI j, w) ∧ j ≤ nU r ∧ (b = 0 ∨ b = 1) ∧ (b = 0 ↔ ∀ i, i < j → uns r i ≠ c)) 4 (by decide) ⟨0, rfl, Nat.zero_le _, Or.inl rfl, ⟨fun _ i hi => absurd hi (Nat.not_lt_zero i), fun _ => rfl⟩⟩ ?_
  rintro j s hj ⟨b, rfl, hjn, hb, hbi⟩
  unfold lX4_isUnsure_4
  dsimp only
  rw [hw, hn.1]
  have hle : nI (nU r) ≤ nI j ↔ nU r ≤ j := nI_leI (by omega) (by omega)
  refine hh_i (fun q => ?_) (fun q => ?_)
  · have e : j = nU r := by have := hle.mp q; omega
    subst e
    rcases hb with rfl | rfl
    · exact hh_t rfl (hh_v ⟨rfl, hbi⟩)
    · exact hh_f (by decide) (hh_t rfl (hh_v ⟨rfl, hbi⟩))
  · have hj2 : j < nU r := Nat.lt_of_not_le fun y => q (hle.mpr y)
    have hu := ok_un hr (show j < 4 by omega)
    rcases hb with rfl | rfl
    · refine hh_t rfl ?_
      rw [show (69 : Int32) + nI j = nI (69 + j) from nI_add 69 j]
      refine hh_f (gI (by omega) (by decide)) ?_
      rw [nI_clamp (by omega), hu.1]
      have e2 : nI (uns r j) = nI c ↔ uns r j = c := nI_eq (by omega) (by omega)
      refine hh_i (fun y => hh_v ⟨by omega, 1, by rw [nI_1], hj2, Or.inr rfl, ?_⟩) (fun y => hh_v ⟨by omega, 0, by rw [nI_1], hj2, Or.inl rfl, ?_⟩)
      · constructor
        · intro x; exact absurd x (by decide)
        · intro x; exact absurd (e2.mp y) (x j (by omega))
      · refine ⟨fun _ i hi => ?_, fun _ => rfl⟩
        by_cases t : i = j
        · subst t; exact fun x => y (e2.mpr x)
        · exact hbi.mp rfl i (by omega)
    · refine hh_f (by decide) (hh_v ⟨by omega, 1, by rw [nI_1], hj2, Or.inr rfl, ?_⟩)
      constructor
      · intro x; exact absurd x (by decide)
      · intro x; exact hbi.mpr fun i hi => x i (by omega)
theorem pq_unsure {z w : mm_S} (h : Rel z w) (x1 : Int32) : PP (sX3_unsure x1 z) (sX4_unsure x1 w) := by
  obtain ⟨e1, e2, e3⟩ := r_nU h
  unfold sX3_unsure sX3_unsure_0 sX4_unsure sX4_unsure_0
  refine pp_if (x_isCell _) (m_isCell _) (fun _ => pp_b (pp_f0 h)) (fun hc => ?_)
  obtain ⟨c, hc, rfl⟩ := hc
  unfold sX3_unsure_13 sX4_unsure_14
  obtain ⟨⟨b, w1⟩, hq, ew, hb⟩ := m_isUnsure rfl h.1 hc
  dsimp only at ew hb
  subst ew
  rw [hq]
  show PP _ (if b = 0 then sX4_unsure_29 (nI c) w1 else sX4_unsure_22 w1)
  have hx := x_isUnsure (Or.inl rfl) h.2.1 h.1 hc
  refine pp_if2 hx hb (fun _ => ?_) (fun _ => pp_b (pp_f4 h))
  unfold sX3_unsure_30 sX4_unsure_29
  rw [e1, e2]
  by_cases hn : nU (w1.1 1) < 4
  · rw [if_pos (show nI (nU (w1.1 1)) < 4 from nI_lt (b := 4) hn (by decide)), if_neg (show ¬ nI (nU (w1.1 1)) = 4 from fun e => absurd ((nI_eq (b := 4) (by omega) (by decide)).mp e) (by omega))]
    obtain ⟨g1, g2, g3, g4⟩ := x_addUnsure (Or.inl rfl) h.2.1 h.1 hn c
    obtain ⟨w', f1, f2, f3⟩ := m_getsUnsure rfl h.1 hn c
    unfold sX3_unsure_47 sX3_unsure_55 sX4_unsure_48
    rw [f1]
    refine pp_e (a := nI (nU (w1.1 1) + 1)) (z' := tX0_addUnsure 1 (nI c) z) ?_ rfl ?_
    · show some ((tX0_addUnsure 1 (nI c) z).1 1 6, tX0_addUnsure 1 (nI c) z) = _
      rw [g4]
    · refine Rel_M h ⟨fun b hb => g2 b (by omega) (by omega), fun b _ => by rw [g3]⟩ (KM1_1 f3) ?_ ?_
      · rw [f2]; exact okR_U h.1 hn hc
      · rw [f2]; exact g1
  · rw [if_neg (show ¬ nI (nU (w1.1 1)) < 4 from nI_nlt (b := 4) (by omega) (by omega)), if_pos (by rw [show nU (w1.1 1) = 4 by omega]; rfl)]
    exact pp_b (pp_f1 h)
/-- a number of the mine (year, how many books, unsure cells, z) becomes another -/
theorem Rel_1 {z w : mm_S} (h : Rel z w) {i f : Nat} {v : Int32} (hf : (i = 0 ∧ f = 12 ∧ isN v 1000) ∨ (i = 2 ∧ f = 10 ∧ isN v 9) ∨ (i = 3 ∧ f = 6 ∧ isN v 5) ∨ (i = 4 ∧ f = 13)) : z.1 1 f = w.1 1 i ∧ Rel (mm_ui z.1 1 f v, z.2) (mm_ui w.1 1 i v, w.2) := by
  obtain ⟨a1, a2, a3, a4, a5, a6, a7, a8, a9, a10⟩ := h.2.1
  have e1 : mm_ui w.1 1 i v 1 = upd (w.1 1) i v := ru_r _ _ _ _
  refine ⟨by rcases hf with ⟨rfl, rfl, _⟩ | ⟨rfl, rfl, _⟩ | ⟨rfl, rfl, _⟩ | ⟨rfl, rfl⟩ <;> assumption, Rel_M h ⟨fun b hb => ru_n _ _ (by omega), fun b _ => rfl⟩ (KM1_1 fun b hb => ru_n _ _ hb) ?_ ?_⟩
  · show okR (mm_ui w.1 1 i v 1)
    rw [e1]
    obtain ⟨b1, b2, b3, b4, b5, b6, b7, b8, b9⟩ := h.1
    refine ⟨?_, ?_, ?_, ?_, fun q hq => by rw [up_n _ _ (by omega)]; exact b5 q hq, fun q hq => by rw [up_n _ _ (by omega)]; exact b6 q hq, fun q hq => by rw [up_n _ _ (by omega), up_n _ _ (by omega), up_n _ _ (by omega)]; exact b7 q hq, fun q hq => by rw [up_n _ _ (by omega)]; exact b8 q hq, fun q hq => by rw [up_n _ _ (by omega), up_n _ _ (by omega), up_n _ _ (by omega)]; exact b9 q hq⟩
    · rcases hf with ⟨rfl, rfl, hv⟩ | ⟨rfl, rfl, hv⟩ | ⟨rfl, rfl, hv⟩ | ⟨rfl, rfl⟩
      · rw [up_s]; exact hv
      all_goals (rw [up_n _ _ (by omega)]; exact b1)
    · rw [up_n _ _ (by omega)]; exact b2
    · rcases hf with ⟨rfl, rfl, hv⟩ | ⟨rfl, rfl, hv⟩ | ⟨rfl, rfl, hv⟩ | ⟨rfl, rfl⟩
      · rw [up_n _ _ (by omega)]; exact b3
      · rw [up_s]; exact hv
      all_goals (rw [up_n _ _ (by omega)]; exact b3)
    · rcases hf with ⟨rfl, rfl, hv⟩ | ⟨rfl, rfl, hv⟩ | ⟨rfl, rfl, hv⟩ | ⟨rfl, rfl⟩
      · rw [up_n _ _ (by omega)]; exact b4
      · rw [up_n _ _ (by omega)]; exact b4
      · rw [up_s]; exact hv
      · rw [up_n _ _ (by omega)]; exact b4
  · show RM 1 _ (mm_ui w.1 1 i v 1)
    rw [e1]
    have key : ∀ g j, (g = 12 ∧ j = 0) ∨ (g = 4 ∧ j = 1) ∨ (g = 10 ∧ j = 2) ∨ (g = 6 ∧ j = 3) ∨ (g = 13 ∧ j = 4) → z.1 1 g = w.1 1 j → mm_ui z.1 1 f v 1 g = upd (w.1 1) i v j := by
      intro g j hg e
      by_cases x : g = f
      · subst x
        have : j = i := by omega
        subst this
        rw [ru_s, up_s]
      · rw [ru_i _ _ x, up_n _ _ (by omega), e]
    have nn : ∀ b, b ≠ 1 → mm_ui z.1 1 f v b = z.1 b := fun b hb => ru_n _ _ hb
    refine ⟨key 12 0 (by omega) a1, key 4 1 (by omega) a2, key 10 2 (by omega) a3, key 6 3 (by omega) a4, key 13 4 (by omega) a5, fun q hq => ?_, fun q hq => ?_, fun q hq => ?_, fun q hq => ?_, sb_o a10 rfl (stf_o fun c hc => up_n _ _ (by omega))⟩
    · show mm_ui z.1 1 f v 12 q = _
      rw [nn 12 (by decide), up_n _ _ (by omega)]; exact a6 q hq
    · show mm_ui z.1 1 f v 5 q = _ ∧ mm_ui z.1 1 f v 6 q = _ ∧ mm_ui z.1 1 f v 7 q = _
      rw [nn 5 (by decide), nn 6 (by decide), nn 7 (by decide), up_n _ _ (by omega), up_n _ _ (by omega), up_n _ _ (by omega)]; exact a7 q hq
    · show mm_ui z.1 1 f v 8 q = _
      rw [nn 8 (by decide), up_n _ _ (by omega)]; exact a8 q hq
    · show mm_ui z.1 1 f v 9 q = _ ∧ mm_ui z.1 1 f v 10 q = _ ∧ mm_ui z.1 1 f v 11 q = _
      rw [nn 9 (by decide), nn 10 (by decide), nn 11 (by decide), up_n _ _ (by omega), up_n _ _ (by omega), up_n _ _ (by omega)]; exact a9 q hq
theorem pq_sure {z w : mm_S} (h : Rel z w) : PP (sX3_sure z) (sX4_sure w) := by
  obtain ⟨g1, g2⟩ := Rel_1 h (i := 3) (f := 6) (v := 0) (Or.inr (Or.inr (Or.inl ⟨rfl, rfl, isN_N (k := 0) (by decide)⟩)))
  refine pp_e (a := w.1 1 3) (z' := (mm_ui z.1 1 6 0, z.2)) (w' := (mm_ui w.1 1 3 0, w.2)) ?_ ?_ g2
  · show some (z.1 1 6, _) = _
    rw [g1]
  · unfold sX4_sure sX4_sure_0
    rw [show (3 : Int32) = nI 3 from rfl, m_become (by decide)]
    rfl
theorem pq_time {z w : mm_S} (h : Rel z w) (x1 x2 : Int32) : PP (sX3_time x1 x2 z) (sX4_time x1 x2 w) := by
  unfold sX3_time sX3_time_0 sX4_time sX4_time_0
  refine pp_if (x_isCell _) (m_isCell _) (fun _ => pp_b (pp_f0 h)) (fun hc => pp_if (x_isCell _) (m_isCell _) (fun _ => pp_b (pp_f0 h)) (fun hv => ?_))
  obtain ⟨a, ha, rfl⟩ := hc
  obtain ⟨c, hc, rfl⟩ := hv
  unfold sX3_time_20
  obtain ⟨⟨u, z1⟩, hq, e1, hf⟩ := x_timeBetween (Or.inl rfl) ha hc (r_sb h)
  obtain ⟨⟨v, w1⟩, hp, e2, hg⟩ := m_timeOf ha hc (r_ms h)
  rw [hq, hp]
  dsimp only at e1 e2
  subst e1 e2
  exact pp_b (pp_told (Rel_K h (KX_R (Or.inl rfl) hf) (KM_1 (by decide) hg)) _ (wk_dle c))
theorem hrd_le (r : Nat → Int32) (hr : okR r) {k : Nat} (hk : k < 6) (c : Nat) : hrd r k c ≤ 10000 := by
  have hc := car_le (k := knd r k) (ok_fc hr hk).2
  have hs := sta_le (knd r k)
  unfold hrd
  by_cases h : td (stf r) (plc r k) c ≤ car (knd r k) (frc r k)
  · rw [if_pos h]; omega
  · rw [if_neg h]; omega
theorem pq_heard {z w : mm_S} (h : Rel z w) (x1 x2 : Int32) : PP (sX3_heard x1 x2 z) (sX4_heard x1 x2 w) := by
  obtain ⟨-, -, e3⟩ := r_nC h
  unfold sX3_heard sX3_heard_0 sX4_heard sX4_heard_0
  refine pp_if (x_isCrew h _) (m_isCrew h _) (fun _ => pp_b (pp_f0 h)) (fun hk => pp_if (x_isCell _) (m_isCell _) (fun _ => pp_b (pp_f0 h)) (fun hv => ?_))
  obtain ⟨k, hk, rfl⟩ := hk
  obtain ⟨c, hc, rfl⟩ := hv
  have hk6 : k < 6 := by omega
  unfold sX3_heard_21 sX4_heard_22
  obtain ⟨⟨u, z1⟩, hq, e1, hf⟩ := x_heardAt (Or.inl rfl) h.2.1 h.1 hk6 hc
  obtain ⟨w1, hp, hv, hg⟩ := m_findHeard rfl h.1 hk6 (Or.inl rfl)
  rw [hq, hp]
  dsimp only at e1
  subst e1
  show PP _ (sX4_heard_31 (nI c) w1)
  unfold sX4_heard_31
  rw [if_neg (gI hc (by decide)), nI_clamp (by omega), hv c hc]
  exact pp_b (pp_told (Rel_K h (KX_R (Or.inl rfl) hf) (KM_1 (by decide) hg)) _ (hrd_le _ h.1 hk6 c))
