/-! ===== where sound comes from last; the middle ===== -/
theorem td_pred {st : Nat → Nat} {a c : Nat} (hd : td st a c < 10000) (hac : c ≠ a) : ∃ b, ad c b ∧ td st a b + pc (st c) = td st a c := by
  rcases wk_inv (wk_dW hd) with q | ⟨b, j, e, hw, he, q⟩
  · exact absurd q.2.1 hac
  · have h1 : td st a b ≤ j := wk_dm hw
    have h2 : td st a c ≤ td st a b + e := by
      by_cases x : td st a b < 10000
      · exact wk_dm (wk_s (wk_dW x) he)
      · have q : td st a c = j + e := q
        omega
    have q : td st a c = j + e := q
    refine ⟨b, ad_s he.1, ?_⟩
    rw [← he.2.2]
    omega
theorem tb_bes1 {c : Nat} (hc : c < 36) {b : Nat} (hb : b < 36) : tb (pX3_besides (pX3_setOf (nI c))) b = true ↔ ad c b := by
  rw [tb_bes (tb_setS hc) hb]
  constructor
  · rintro ⟨q, hq, y⟩
    rw [tb_set (by omega)] at hq
    have : q = c := by simpa using hq
    subst this; exact y
  · intro y
    exact ⟨c, by rw [tb_set (by omega)]; simp, y⟩
theorem pq_last {z w : mm_S} (h : Rel z w) (x1 x2 : Int32) : PP (sX3_last x1 x2 z) (sX4_last x1 x2 w) := by
  obtain ⟨-, -, e3⟩ := r_nC h
  have o1 : (1 : Nat) = 1 ∨ (1 : Nat) = 13 ∨ (1 : Nat) = 25 := Or.inl rfl
  unfold sX3_last sX3_last_0 sX4_last sX4_last_0
  refine pp_if (x_isCrew h _) (m_isCrew h _) (fun _ => pp_b (pp_f0 h)) (fun hk => pp_if (x_isCell _) (m_isCell _) (fun _ => pp_b (pp_f0 h)) (fun hc => ?_))
  obtain ⟨k, hk, rfl⟩ := hk
  obtain ⟨c, hc, rfl⟩ := hc
  have hk6 : k < 6 := by omega
  have pl := ok_pl h.1 hk6
  have hcl := car_le (k := knd (w.1 1) k) (ok_fc h.1 hk6).2
  have hst := sta_le (knd (w.1 1) k)
  unfold sX3_last_21 sX4_last_22
  obtain ⟨⟨u, z1⟩, q1, g1, f1⟩ := x_heardAt o1 h.2.1 h.1 hk6 hc
  obtain ⟨w1, p1, k1, m1⟩ := m_from (k := 5) (by decide) pl.2 (r_ms h)
  have h1 := Rel_K h (KX_R (Or.inl rfl) f1) (KM_1 (by decide) m1)
  have er : w1.1 1 = w.1 1 := m1 1 (by decide)
  dsimp only at g1
  subst g1
  rw [q1, m_place rfl h.1 hk6]
  show PP (if tI (hrd (w.1 1) k c) = -1 then sX3_last_34 z1 else sX3_last_40 (nI k) (nI c) z1) ((sX4_findTimes (nI (plc (w.1 1) k)) 1 5 w).bind fun q4 => sX4_last_37 (nI k) (nI c) q4)
  rw [p1]
  show PP _ (sX4_last_37 (nI k) (nI c) w1)
  unfold sX4_last_37
  have hgc := gI hc (show (36 : Nat) < 2 ^ 31 by decide)
  have hcc : (nI c).toNatClampNeg = c := nI_clamp (by omega)
  rw [if_neg hgc, hcc, k1 c hc, m_carries er h.1 hk6]
  show PP _ (if nI (td (stf (w.1 1)) (plc (w.1 1) k) c) ≤ nI (car (knd (w.1 1) k) (frc (w.1 1) k)) then sX4_last_58 (nI k) (nI c) w1 else sX4_last_51 w1)
  have hFle : ∀ q, td (stf (w.1 1)) (plc (w.1 1) k) q ≤ 10000 := fun q => wk_dle q
  have e1 : nI (td (stf (w.1 1)) (plc (w.1 1) k) c) ≤ nI (car (knd (w.1 1) k) (frc (w.1 1) k)) ↔ td (stf (w.1 1)) (plc (w.1 1) k) c ≤ car (knd (w.1 1) k) (frc (w.1 1) k) := nI_leI (by have := hFle c; omega) (by omega)
  by_cases hh : td (stf (w.1 1)) (plc (w.1 1) k) c ≤ car (knd (w.1 1) k) (frc (w.1 1) k)
  rotate_left
  · rw [if_neg (fun t => hh (e1.mp t)), if_pos (tI_m.mpr (by unfold hrd; rw [if_neg hh]; omega))]
    exact pp_b (pp_f3 h1)
  rw [if_pos (e1.mpr hh), if_neg (fun t => tI_m.mp t (by unfold hrd; rw [if_pos hh]; omega))]
  unfold sX3_last_40 sX4_last_58
  have hm1 : RM 1 z1 (w.1 1) := by rw [← er]; exact h1.2.1
  rw [x_placeOf o1 hm1 h.1 hk6, m_place er h.1 hk6]
  show PP _ (if nI c = nI (plc (w.1 1) k) then sX4_last_68 w1 else sX4_last_75 (nI c) w1)
  refine pp_if2 (P := c = plc (w.1 1) k) ((nI_eq (by omega) (by omega)).trans ⟨Eq.symm, Eq.symm⟩) (nI_eq (by omega) (by omega)) (fun _ => pp_b (pp_f4 h1)) (fun hne => ?_)
  have hd : td (stf (w.1 1)) (plc (w.1 1) k) c < 10000 := by omega
  obtain ⟨b0, hb0, hb1⟩ := td_pred hd hne
  have hst2 := td_h hd
  unfold sX3_last_58
  rw [x_placeOf o1 hm1 h.1 hk6]
  obtain ⟨z2, q2, g2, f2⟩ := x_timesFrom (x := 43) (Or.inl rfl) pl.2 rfl (by decide) (show sb 2 z1 (stf (w.1 1)) from hm1.2.2.2.2.2.2.2.2.2)
  have h2 := Rel_K h1 (KX_T (Or.inl rfl) (Or.inl rfl) f2) (KM_0 w1)
  rw [q2]
  show PP (sX3_last_80 (nI c) z2) _
  have hms : ms w1 (stf (w.1 1)) := ok_ms h.1 er
  have hsb : sb 2 z2 (stf (w.1 1)) := by rw [← er]; exact r_sb h2
  generalize td (stf (w.1 1)) (plc (w.1 1) k) = F at *
  -- the least cell that does
  obtain ⟨m, hmQ, hml⟩ := wk_least (p := fun b => ad c b ∧ F b + pc (stf (w.1 1) c) = F c) ⟨b0, hb0, hb1⟩
  have hm36 : m < 36 := hmQ.1.2.1
  refine pp_v h2 (a := nI m) ?_ ?_
  · unfold sX3_last_80 sX3_last_113
    rw [at_N _ (show c < lenX 43 from hc), g2 c hc, tI_1 hd, pa_N hsb hc hst2.1, pk_sub (by omega)]
    refine hh_up (fun j s => s = (nI (F c - pc (stf (w.1 1) c)), pX3_besides (pX3_setOf (nI c)), nI j, z2) ∧ j ≤ m) 36 (by decide) ⟨rfl, Nat.zero_le _⟩ ?_
    rintro j _ hj ⟨rfl, hjm⟩
    have h36 : (36 : Int32) ≤ nI j ↔ 36 ≤ j := nI_leI (a := 36) (by decide) (by omega)
    have hj2 : j < 36 := by omega
    unfold lX3_last_113
    dsimp only
    refine hh_f (fun t => by have := h36.mp t; omega) ?_
    rw [at_N _ (show j < lenX 43 from hj2), g2 j hj2]
    refine hh_i (fun y => hh_v ⟨hj2, by rw [nI_1], ?_⟩) (fun y => hh_i (fun y2 => hh_v ⟨?_, KX_0 _⟩) (fun y2 => hh_v ⟨hj2, by rw [nI_1], ?_⟩))
    · have hb := (tb_has0 (by omega)).mp y
      by_cases t : j = m
      · subst t
        rw [(tb_bes1 hc hj2).mpr hmQ.1] at hb
        cases hb
      · omega
    · have hb : ad c j := (tb_bes1 hc hj2).mp (by
        cases t : tb (pX3_besides (pX3_setOf (nI c))) j
        · exact absurd ((tb_has0 (by omega)).mpr t) y
        · rfl)
      have hFj : F j < 10000 := Classical.byContradiction fun t => by
        rw [tI_2 t] at y2
        exact nI_nm (by omega) y2.symm
      rw [tI_1 hFj] at y2
      have := (nI_eq (by omega) (by omega)).mp y2
      have : j = m := by
        refine Classical.byContradiction fun t => hml j (by omega) ⟨hb, by omega⟩
      rw [this]
    · by_cases t : j = m
      · subst t
        refine absurd ?_ y2
        rw [tI_1 (by omega)]
        congr 1
        omega
      · omega
  · unfold sX4_last_75 sX4_last_81
    refine hh_up (fun j s => ∃ e, s = (nI c, nI e, nI j, w1) ∧ e ≤ 36 ∧ (∀ s, s < j → sd c s < 36 → F (sd c s) + pc (stf (w.1 1) c) = F c → e ≤ sd c s) ∧ (e = 36 ∨ (ad c e ∧ F e + pc (stf (w.1 1) c) = F c))) 4 (by decide) ⟨36, rfl, by decide, fun s hs => absurd hs (Nat.not_lt_zero s), Or.inl rfl⟩ ?_
    rintro j _ hj ⟨e, rfl, he, hlo, hor⟩
    have h4 : (4 : Int32) ≤ nI j ↔ 4 ≤ j := nI_leI (a := 4) (by decide) (by omega)
    unfold lX4_last_81
    dsimp only
    refine hh_i (fun q => hh_v ⟨?_, KM_0 _⟩) (fun q => ?_)
    · obtain rfl : j = 4 := by have := h4.mp q; omega
      obtain ⟨s, hs, e1, _⟩ := (sd_ad hc m).mp hmQ.1
      have l1 := hlo s hs (by omega) (by rw [e1]; exact hmQ.2)
      have : e = m := by
        rcases hor with x | x
        · omega
        · have : ¬ e < m := fun t => hml e t x
          omega
      rw [this]
    have hj2 : j < 4 := Nat.lt_of_not_le fun y => q (h4.mpr y)
    rw [be_N w1 hc hj2]
    by_cases hb : sd c j = 36
    · rw [if_pos hb]
      refine hh_t (by decide) (hh_v ⟨hj2, e, by rw [nI_1], he, fun s hs h36 => ?_, hor⟩)
      by_cases t : s = j
      · subst t; omega
      · exact hlo s (by omega) h36
    · rw [if_neg hb]
      have hsd : sd c j < 36 := by
        have : sd c j ≤ 36 := by
          unfold sd
          repeat' split
          all_goals omega
        omega
      have hg := gI hsd (show (36 : Nat) < 2 ^ 31 by decide)
      refine hh_f (nI_pos (by omega)) (hh_f hg (hh_be (m_stuffIs hms hc) ?_))
      dsimp only
      have hs5 := (hms c hc).1
      have pb := pc_1 (stf (w.1 1) c)
      have hFs := hFle (sd c j)
      refine hh_f hgc ?_
      rw [hcc, nI_clamp (show sd c j < 2 ^ 31 by omega), k1 _ hsd, k1 c hc, m_pace2 _ hs5, nI_add]
      have had : ad c (sd c j) := (sd_ad hc _).mpr ⟨j, hj2, rfl, hsd⟩
      have hiff : nI (F (sd c j) + pc (stf (w.1 1) c)) = nI (F c) ↔ F (sd c j) + pc (stf (w.1 1) c) = F c := nI_eq (by omega) (by omega)
      unfold sX4_last_125
      refine hh_i (fun y => hh_v ⟨hj2, (if sd c j < e then sd c j else e), ?_, ?_, fun s hs h36 hF => ?_, ?_⟩) (fun y => hh_v ⟨hj2, e, by rw [nI_1], he, fun s hs h36 hF => ?_, hor⟩)
      · unfold mm_min
        rw [nI_1]
        by_cases t : sd c j < e
        · rw [if_pos (nI_lt t (by omega)), if_pos t]
        · rw [if_neg (nI_nlt (by omega) (by omega)), if_neg t]
      · by_cases t : sd c j < e
        · rw [if_pos t]; omega
        · rw [if_neg t]; exact he
      · by_cases t : sd c j < e
        · rw [if_pos t]
          by_cases t2 : s = j
          · rw [t2]; exact Nat.le_refl _
          · have := hlo s (by omega) h36 hF; omega
        · rw [if_neg t]
          by_cases t2 : s = j
          · rw [t2]; omega
          · exact hlo s (by omega) h36 hF
      · by_cases t : sd c j < e
        · rw [if_pos t]; exact Or.inr ⟨had, hiff.mp y⟩
        · rw [if_neg t]; exact hor
      · by_cases t2 : s = j
        · subst t2; exact absurd (hiff.mpr hF) y
        · exact hlo s (by omega) h36 hF
/-! the middle -/
/-- the longest time from any of the first n crews -/
noncomputable def lgm (r : Nat → Int32) : Nat → Nat → Nat
  | 0, _ => 0
  | n + 1, c => if lgm r n c < td (stf r) (plc r n) c then td (stf r) (plc r n) c else lgm r n c
theorem lgm_le (r : Nat → Int32) (c : Nat) : ∀ n, lgm r n c ≤ 10000
  | 0 => Nat.zero_le _
  | n + 1 => by
    have h1 := lgm_le r c n
    have h2 : td (stf r) (plc r n) c ≤ 10000 := wk_dle c
    show (if lgm r n c < td (stf r) (plc r n) c then td (stf r) (plc r n) c else lgm r n c) ≤ 10000
    by_cases q : lgm r n c < td (stf r) (plc r n) c
    · rw [if_pos q]; exact h2
    · rw [if_neg q]; exact h1
def agm (f : Nat → Nat) : Nat → Nat
  | 0 => 0
  | n + 1 => if f (n + 1) < f (agm f n) then n + 1 else agm f n
theorem agm_le (f : Nat → Nat) : ∀ n, agm f n ≤ n
  | 0 => Nat.le_refl _
  | n + 1 => by
    have := agm_le f n
    show (if f (n + 1) < f (agm f n) then n + 1 else agm f n) ≤ n + 1
    by_cases q : f (n + 1) < f (agm f n)
    · rw [if_pos q]; exact Nat.le_refl _
    · rw [if_neg q]; omega
theorem x_longest {z : mm_S} {r : Nat → Int32} (hm : RM 1 z r) (hr : okR r) : hh_c (sX3_fillLongestTimes z) (fun z' => (∀ c, c < 36 → z'.1 44 c = tI (lgm r (nC r) c)) ∧ KX z z') := by
  have o1 : (1 : Nat) = 1 ∨ (1 : Nat) = 13 ∨ (1 : Nat) = 25 := Or.inl rfl
  have hn := ok_nC hr
  unfold sX3_fillLongestTimes sX3_fillLongestTimes_0 sX3_fillLongestTimes_8 sX3_fillLongestTimes_10
  dsimp only
  refine hh_up (fun j s => ∃ z', s = (nI j, z') ∧ j ≤ nC r ∧ (∀ c, c < 36 → z'.1 44 c = tI (lgm r j c)) ∧ KX z z') 6 (by decide) ⟨_, rfl, Nat.zero_le _, fun c hc => ?_, ⟨fun b hb => mm_rw_n _ _ (by omega), fun _ _ => rfl⟩⟩ ?_
  · show mm_rw z.1 44 (mm_fr (lenX 44) 0 (z.1 44)) 44 c = _
    rw [mm_rw_s]
    unfold mm_fr
    rw [if_pos (show c < lenX 44 from hc)]; rfl
  rintro j s hj ⟨z', rfl, hjn, hv, hK⟩
  have hm2 := RM_K (Or.inl rfl) hm hK
  unfold lX3_fillLongestTimes_10
  dsimp only
  rw [hm2.2.1, hn.1]
  have hle : nI (nC r) ≤ nI j ↔ nC r ≤ j := nI_leI (by omega) (by omega)
  refine hh_i (fun q => hh_v ?_) (fun q => ?_)
  · obtain rfl : j = nC r := by have := hle.mp q; omega
    exact ⟨hv, hK⟩
  have hj2 : j < nC r := Nat.lt_of_not_le fun y => q (hle.mpr y)
  have hj6 : j < 6 := by omega
  rw [x_placeOf o1 hm2 hr hj6]
  refine hh_bd (x_timesFrom (x := 43) (Or.inl rfl) (ok_pl hr hj6).2 rfl (by decide) hm2.2.2.2.2.2.2.2.2.2) (fun z1 h1 => ?_)
  have hK1 := KX_t hK (KX_T (Or.inl rfl) (Or.inl rfl) h1.2)
  unfold sX3_fillLongestTimes_43 sX3_fillLongestTimes_45
  refine hh_up (fun i s => ∃ z2, s = (nI j, nI i, z2) ∧ (∀ c, c < 36 → z2.1 43 c = tI (td (stf r) (plc r j) c)) ∧ (∀ c, c < 36 → z2.1 44 c = if c < i then tI (lgm r (j + 1) c) else tI (lgm r j c)) ∧ KX z z2) 36 (by decide) ⟨z1, rfl, h1.1, fun c hc => by rw [if_neg (by omega), h1.2.1 44 (by decide) (by decide)]; exact hv c hc, hK1⟩ ?_
  rintro i s hi ⟨z2, rfl, ha, hb, hK2⟩
  have h36 : (36 : Int32) ≤ nI i ↔ 36 ≤ i := nI_leI (a := 36) (by decide) (by omega)
  unfold lX3_fillLongestTimes_45
  dsimp only
  refine hh_i (fun q => hh_v ?_) (fun q => ?_)
  · have := h36.mp q
    exact ⟨by omega, z2, by rw [nI_1], hj2, fun c hc => by rw [hb c hc, if_pos (by omega)], hK2⟩
  have hi2 : i < 36 := Nat.lt_of_not_le fun y => q (h36.mpr y)
  unfold sX3_fillLongestTimes_60 sX3_fillLongestTimes_70 sX3_fillLongestTimes_112
  rw [at_N _ (show i < lenX 43 from hi2), at_N _ (show i < lenX 44 from hi2), ha i hi2, hb i hi2, if_neg (Nat.lt_irrefl i)]
  have e1 : lgm r (j + 1) i = if lgm r j i < td (stf r) (plc r j) i then td (stf r) (plc r j) i else lgm r j i := rfl
  have hA : td (stf r) (plc r j) i ≤ 10000 := wk_dle i
  have hB := lgm_le r i j
  have fin : ∀ v : Int32, v = tI (lgm r (j + 1) i) → mm_mt (fun s' => i < 36 ∧ ∃ z2, s' = (nI j, nI (i + 1), z2) ∧ (∀ c, c < 36 → z2.1 43 c = tI (td (stf r) (plc r j) c)) ∧ (∀ c, c < 36 → z2.1 44 c = if c < i + 1 then tI (lgm r (j + 1) c) else tI (lgm r j c)) ∧ KX z z2) (mm_mt (fun s' => j < 6 ∧ ∃ z', s' = (nI (j + 1), z') ∧ j + 1 ≤ nC r ∧ (∀ c, c < 36 → z'.1 44 c = tI (lgm r (j + 1) c)) ∧ KX z z') (fun z' : mm_S => (∀ c, c < 36 → z'.1 44 c = tI (lgm r (nC r) c)) ∧ KX z z')) (Sum.inl (nI j, nI i + 1, (mm_ui z2.1 44 i v, z2.2))) := by
    rintro v rfl
    refine ⟨hi2, (mm_ui z2.1 44 i (tI (lgm r (j + 1) i)), z2.2), by rw [nI_1], fun c hc => ?_, fun c hc => ?_, ⟨fun b hb2 => (ru_n _ _ (by omega)).trans (hK2.1 b hb2), hK2.2⟩⟩
    · show mm_ui z2.1 44 i (tI (lgm r (j + 1) i)) 43 c = _
      rw [ru_n _ _ (by decide)]; exact ha c hc
    · show mm_ui z2.1 44 i (tI (lgm r (j + 1) i)) 44 c = _
      by_cases y : c = i
      · subst y
        rw [ru_s, if_pos (by omega)]
      · rw [ru_i _ _ y, hb c hc]
        have : (c < i ↔ c < i + 1) := by omega
        simp only [this]
  refine hh_i (fun y => ?_) (fun y => hh_i (fun y2 => ?_) (fun y2 => ?_))
  · have := tI_m.mp y
    dsimp only
    rw [ex_N _ _ (show i < lenX 44 from hi2)]
    refine hh_v (fin _ ?_)
    rw [e1, tI_2]
    by_cases t : lgm r j i < td (stf r) (plc r j) i
    · rw [if_pos t]; exact this
    · rw [if_neg t]; omega
  · have := tI_m.mp y2
    dsimp only
    rw [ex_N _ _ (show i < lenX 44 from hi2)]
    refine hh_v (fin _ ?_)
    rw [e1, tI_2]
    by_cases t : lgm r j i < td (stf r) (plc r j) i
    · omega
    · rw [if_neg t]; exact this
  · have d1 : td (stf r) (plc r j) i < 10000 := Classical.byContradiction fun t => y (tI_m.mpr t)
    have d2 : lgm r j i < 10000 := Classical.byContradiction fun t => y2 (tI_m.mpr t)
    dsimp only
    rw [ex_N _ _ (show i < lenX 44 from hi2)]
    refine hh_v (fin _ ?_)
    rw [e1, tI_1 d1, tI_1 d2]
    unfold mm_max
    by_cases t : lgm r j i < td (stf r) (plc r j) i
    · rw [if_pos t, tI_1 d1, if_neg (nI_nlt (by omega) (by omega))]
    · rw [if_neg t, tI_1 d2]
      by_cases t2 : td (stf r) (plc r j) i < lgm r j i
      · rw [if_pos (nI_lt t2 (by omega))]
      · have : td (stf r) (plc r j) i = lgm r j i := by omega
        rw [this, if_neg (nI_nlt (Nat.le_refl _) (by omega))]
theorem pq_middle {z w : mm_S} (h : Rel z w) : PP (sX3_middle z) (sX4_middle w) := by
  obtain ⟨e1, e2, e3⟩ := r_nC h
  have hr := h.1
  have hn := ok_nC hr
  unfold sX3_middle sX3_middle_0 sX4_middle sX4_middle_0
  rw [e1, e2]
  have e0 : nI (nC (w.1 1)) = 0 ↔ nC (w.1 1) = 0 := nI_eq (b := 0) (by omega) (by decide)
  refine pp_if2 e0 e0 (fun _ => pp_b (pp_f0 h)) (fun hn0 => ?_)
  unfold sX3_middle_16 sX4_middle_16
  obtain ⟨z1, q1, g1, k1⟩ := x_longest h.2.1 hr
  rw [q1]
  show PP (sX3_middle_26 (-1) 217 z1) _
  have hsm : ∀ c, lgm (w.1 1) (nC (w.1 1)) c ≤ 216 ∨ lgm (w.1 1) (nC (w.1 1)) c = 10000 := by
    intro c
    have key : ∀ n, n ≤ 6 → lgm (w.1 1) n c ≤ 216 ∨ lgm (w.1 1) n c = 10000 := by
      intro n
      induction n with
      | zero => exact fun _ => Or.inl (Nat.zero_le _)
      | succ n ih =>
        intro hn6
        have i1 := ih (by omega)
        have i2 := td_216 h (ok_pl hr (show n < 6 by omega)).2 c
        show (if lgm (w.1 1) n c < td (stf (w.1 1)) (plc (w.1 1) n) c then td (stf (w.1 1)) (plc (w.1 1) n) c else lgm (w.1 1) n c) ≤ 216 ∨ _
        by_cases t : lgm (w.1 1) n c < td (stf (w.1 1)) (plc (w.1 1) n) c
        · have : lgm (w.1 1) (n + 1) c = td (stf (w.1 1)) (plc (w.1 1) n) c := if_pos t
          rw [if_pos t, this]; exact i2
        · have : lgm (w.1 1) (n + 1) c = lgm (w.1 1) n c := if_neg t
          rw [if_neg t, this]; exact i1
    exact key _ (by omega)
  -- the reference's row
  have M : hh_c (sX4_middle_18 0 w) (fun q => ∃ w1, KM w w1 ∧ (∀ c, c < 36 → w1.1 9 c = nI (lgm (w.1 1) (nC (w.1 1)) c)) ∧ sX4_middle_109 0 1 w1 = some q) := by
    unfold sX4_middle_18
    refine hh_up (fun j s => ∃ w', s = (nI j, w') ∧ (∀ c, c < j → w'.1 9 c = 0) ∧ ∀ b, b ≠ 9 → w'.1 b = w.1 b) 36 (by decide) ⟨w, rfl, fun c hc => absurd hc (Nat.not_lt_zero c), fun _ _ => rfl⟩ ?_
    rintro j s hj ⟨w', rfl, hv, hf⟩
    have h36 : (36 : Int32) ≤ nI j ↔ 36 ≤ j := nI_leI (a := 36) (by decide) (by omega)
    unfold lX4_middle_18 sX4_middle_31
    dsimp only
    refine hh_i (fun q => ?_) (fun q => ?_)
    rotate_left
    · have hj2 : j < 36 := Nat.lt_of_not_le fun y => q (h36.mpr y)
      refine hh_f (gI hj2 (by decide)) (hh_v ⟨hj2, _, by rw [nI_1], fun c hc => ?_, fun b hb => (ru_n _ _ hb).trans (hf b hb)⟩)
      show mm_ui w'.1 9 (nI j).toNatClampNeg 0 9 c = 0
      rw [nI_clamp (by omega)]
      by_cases y : c = j
      · subst y; exact ru_s _ _ _ _
      · rw [ru_i _ _ y]; exact hv c (by omega)
    have := h36.mp q
    refine hh_map (P := fun q => ∃ w1, KM w w1 ∧ (∀ c, c < 36 → w1.1 9 c = nI (lgm (w.1 1) (nC (w.1 1)) c)) ∧ sX4_middle_109 0 1 w1 = some q) ?_ (fun _ t => t)
    unfold sX4_middle_39
    refine hh_up (fun j s => ∃ w1, s = (nI j, w1) ∧ j ≤ nC (w.1 1) ∧ (∀ c, c < 36 → w1.1 9 c = nI (lgm (w.1 1) j c)) ∧ ∀ b, b ≠ 9 → b ≠ 5 → w1.1 b = w.1 b) 6 (by decide) ⟨w', rfl, Nat.zero_le _, fun c hc => (hv c (by omega)).trans rfl, fun b hb _ => hf b hb⟩ ?_
    rintro j s hj ⟨w1, rfl, hjn, hv1, hf1⟩
    have hw1 : w1.1 1 = w.1 1 := hf1 1 (by decide) (by decide)
    unfold lX4_middle_39
    dsimp only
    rw [hw1, hn.1]
    have hle : nI (nC (w.1 1)) ≤ nI j ↔ nC (w.1 1) ≤ j := nI_leI (by omega) (by omega)
    refine hh_i (fun q => ?_) (fun q => ?_)
    · obtain rfl : j = nC (w.1 1) := by have := hle.mp q; omega
      have hK : KM w w1 := ⟨fun b hb => hf1 b (by omega) (by omega), by rw [hf1 0 (by decide) (by decide)], by rw [hf1 0 (by decide) (by decide)]⟩
      have hex : ∃ q, sX4_middle_109 0 1 w1 = some q := by
        have : hh_c (sX4_middle_109 0 1 w1) (fun _ => True) := by
          unfold sX4_middle_109
          refine hh_up (fun i s => ∃ b, b < 36 ∧ s = (nI b, nI (i + 1), w1)) 35 (by decide) ⟨0, by decide, rfl⟩ ?_
          rintro i s hi ⟨b, hb, rfl⟩
          unfold lX4_middle_109
          dsimp only
          have hgb := gI hb (show (36 : Nat) < 2 ^ 31 by decide)
          refine hh_i (fun q => hh_f hgb (hh_i (fun y => ?_) (fun y => hh_v trivial))) (fun q => ?_)
          · obtain ⟨x, z', w2, _, f2, _⟩ := pp_f3 (Rel_K h (KX_0 z) hK)
            rw [f2]
            exact hh_v trivial
          · have hi2 : i + 1 < 36 := Nat.lt_of_not_le fun y => q (nI_le (a := 36) y (by omega))
            refine hh_f (gI hi2 (by decide)) (hh_f hgb (hh_i (fun y => hh_v ⟨by omega, b, hb, by rw [nI_1]⟩) (fun y => hh_v ⟨by omega, i + 1, hi2, by rw [nI_1]⟩)))
        obtain ⟨q, hq, _⟩ := this
        exact ⟨q, hq⟩
      obtain ⟨q, hq⟩ := hex
      exact hh_map (P := fun v => v = q) ⟨q, hq, rfl⟩ (fun a ha => by subst ha; exact ⟨w1, hK, hv1, hq⟩)
    have hj2 : j < nC (w.1 1) := Nat.lt_of_not_le fun y => q (hle.mpr y)
    have hj6 : j < 6 := by omega
    refine hh_be (m_place hw1 hr hj6) ?_
    dsimp only
    refine hh_bd (m_from (k := 5) (by decide) (ok_pl hr hj6).2 (ok_ms hr hw1)) (fun w2 h2 => ?_)
    unfold sX4_middle_64 sX4_middle_66
    refine hh_up (fun i s => ∃ w3, s = (nI j, nI i, w3) ∧ (∀ c, c < 36 → w3.1 5 c = nI (td (stf (w.1 1)) (plc (w.1 1) j) c)) ∧ (∀ c, c < 36 → w3.1 9 c = if c < i then nI (lgm (w.1 1) (j + 1) c) else nI (lgm (w.1 1) j c)) ∧ ∀ b, b ≠ 9 → b ≠ 5 → w3.1 b = w.1 b) 36 (by decide) ⟨w2, rfl, h2.1, fun c hc => by rw [if_neg (by omega), h2.2 9 (by decide)]; exact hv1 c hc, fun b hb hb2 => (h2.2 b hb2).trans (hf1 b hb hb2)⟩ ?_
    rintro i s hi ⟨w3, rfl, ha, hb, hf3⟩
    have h36 : (36 : Int32) ≤ nI i ↔ 36 ≤ i := nI_leI (a := 36) (by decide) (by omega)
    unfold lX4_middle_66 sX4_middle_93
    dsimp only
    refine hh_i (fun q => hh_v ?_) (fun q => ?_)
    · have := h36.mp q
      exact ⟨by omega, w3, by rw [nI_1], hj2, fun c hc => by rw [hb c hc, if_pos (by omega)], hf3⟩
    have hi2 : i < 36 := Nat.lt_of_not_le fun y => q (h36.mpr y)
    have hg := gI hi2 (show (36 : Nat) < 2 ^ 31 by decide)
    refine hh_f hg (hh_f hg (hh_f hg (hh_v ⟨hi2, (mm_ui w3.1 9 i (nI (lgm (w.1 1) (j + 1) i)), w3.2), ?_, fun c hc => ?_, fun c hc => ?_, fun b hb2 hb3 => (ru_n _ _ hb2).trans (hf3 b hb2 hb3)⟩)))
    · rw [nI_1, nI_clamp (show i < 2 ^ 31 by omega), ha i hi2, hb i hi2, if_neg (Nat.lt_irrefl i)]
      have hA : td (stf (w.1 1)) (plc (w.1 1) j) i ≤ 10000 := wk_dle i
      have hB := lgm_le (w.1 1) i j
      have ee : lgm (w.1 1) (j + 1) i = if lgm (w.1 1) j i < td (stf (w.1 1)) (plc (w.1 1) j) i then td (stf (w.1 1)) (plc (w.1 1) j) i else lgm (w.1 1) j i := rfl
      rw [ee]
      unfold mm_max
      by_cases t : lgm (w.1 1) j i < td (stf (w.1 1)) (plc (w.1 1) j) i
      · rw [if_pos t, if_pos (nI_lt t (by omega))]
      · rw [if_neg t, if_neg (nI_nlt (by omega) (by omega))]
    · show mm_ui w3.1 9 i (nI (lgm (w.1 1) (j + 1) i)) 5 c = _
      rw [ru_n _ _ (by decide)]; exact ha c hc
    · show mm_ui w3.1 9 i (nI (lgm (w.1 1) (j + 1) i)) 9 c = _
      by_cases y : c = i
      · subst y
        rw [ru_s, if_pos (by omega)]
      · rw [ru_i _ _ y, hb c hc]
        have : (c < i ↔ c < i + 1) := by omega
        simp only [this]
  obtain ⟨q, hq, w1, hKM, hv, hfin⟩ := M
  rw [hq, ← hfin]
  have h1 := Rel_K h k1 hKM
  have hle4 := fun c => lgm_le (w.1 1) c (nC (w.1 1))
  generalize lgm (w.1 1) (nC (w.1 1)) = f at *
  have hag : agm f 35 < 36 := Nat.lt_succ_of_le (agm_le f 35)
  have Xq : hh_c (sX3_middle_26 (-1) 217 z1) (fun q => sX3_orNone (if f (agm f 35) < 10000 then nI (agm f 35) else -1) z1 = some q) := by
    unfold sX3_middle_26 sX3_middle_28
    refine hh_up (fun j s => s = ((if j = 0 then -1 else if f (agm f (j - 1)) < 10000 then nI (agm f (j - 1)) else -1), (if j = 0 then 217 else if f (agm f (j - 1)) < 10000 then nI (f (agm f (j - 1))) else 217), nI j, z1)) 36 (by decide) rfl ?_
    rintro j _ hj rfl
    have h36 : (36 : Int32) ≤ nI j ↔ 36 ≤ j := nI_leI (a := 36) (by decide) (by omega)
    unfold lX3_middle_28
    dsimp only
    refine hh_i (fun q => ?_) (fun q => ?_)
    · obtain rfl : j = 36 := by have := h36.mp q; omega
      rw [if_neg (by decide)]
      show hh_c ((sX3_orNone (if f (agm f 35) < 10000 then nI (agm f 35) else -1) z1).bind _) _
      have hex : ∃ q, sX3_orNone (if f (agm f 35) < 10000 then nI (agm f 35) else -1) z1 = some q := by
        by_cases t : f (agm f 35) < 10000
        · rw [if_pos t]
          obtain ⟨x, z', w', f1, _, _⟩ := pp_told h1 (agm f 35) (by omega)
          rw [tI_1 (by omega)] at f1
          exact ⟨_, f1⟩
        · rw [if_neg t]
          obtain ⟨x, z', w', f1, _, _⟩ := pp_told h1 10000 (by omega)
          exact ⟨_, f1⟩
      obtain ⟨q, hq⟩ := hex
      rw [hq]
      exact hh_v rfl
    have hj2 : j < 36 := Nat.lt_of_not_le fun y => q (h36.mpr y)
    unfold sX3_middle_44
    rw [at_N _ (show j < lenX 44 from hj2), g1 j hj2]
    have hfj := hsm j
    by_cases j0 : j = 0
    · subst j0
      rw [if_pos rfl, if_pos rfl]
      show hh_c _ (mm_mt (fun s' => 0 < 36 ∧ s' = ((if f 0 < 10000 then nI 0 else -1), (if f 0 < 10000 then nI (f 0) else 217), nI 1, z1)) _)
      refine hh_i (fun y => hh_v ⟨by decide, ?_⟩) (fun y => ?_)
      · have := tI_m.mp y
        rw [if_neg this, if_neg this]
        rfl
      · have d1 : f 0 < 10000 := Classical.byContradiction fun t => y (tI_m.mpr t)
        rw [tI_1 d1]
        refine hh_f (fun t => ?_) (hh_v ⟨by decide, ?_⟩)
        · have := (nI_leI (a := 217) (by decide) (by omega)).mp t
          omega
        · rw [if_pos d1, if_pos d1]
          rfl
    · obtain ⟨i, rfl⟩ : ∃ i, j = i + 1 := ⟨j - 1, by omega⟩
      rw [if_neg (show ¬ i + 1 = 0 by omega), if_neg (show ¬ i + 1 = 0 by omega), show i + 1 - 1 = i by omega]
      show hh_c _ (mm_mt (fun s' => i + 1 < 36 ∧ s' = ((if f (agm f (i + 1)) < 10000 then nI (agm f (i + 1)) else -1), (if f (agm f (i + 1)) < 10000 then nI (f (agm f (i + 1))) else 217), nI (i + 1 + 1), z1)) _)
      have ea : agm f (i + 1) = if f (i + 1) < f (agm f i) then i + 1 else agm f i := rfl
      have hai := hle4 (agm f i)
      refine hh_i (fun y => hh_v ⟨hj2, ?_⟩) (fun y => ?_)
      · have := tI_m.mp y
        rw [ea, if_neg (show ¬ f (i + 1) < f (agm f i) by omega), nI_1]
      · have d1 : f (i + 1) < 10000 := Classical.byContradiction fun t => y (tI_m.mpr t)
        rw [tI_1 d1]
        by_cases t : f (agm f i) < 10000
        · rw [if_pos t, if_pos t]
          refine hh_i (fun y2 => hh_v ⟨hj2, ?_⟩) (fun y2 => hh_v ⟨hj2, ?_⟩)
          · have := (nI_leI (by omega) (by omega)).mp y2
            rw [ea, if_neg (show ¬ f (i + 1) < f (agm f i) by omega), if_pos t, if_pos t, nI_1]
          · have : ¬ f (agm f i) ≤ f (i + 1) := fun x => y2 (nI_le x (by omega))
            rw [ea, if_pos (show f (i + 1) < f (agm f i) by omega), if_pos d1, if_pos d1, nI_1]
        · rw [if_neg t, if_neg t]
          refine hh_f (fun x => ?_) (hh_v ⟨hj2, ?_⟩)
          · have := (nI_leI (a := 217) (by decide) (by omega)).mp x
            omega
          · rw [ea, if_pos (show f (i + 1) < f (agm f i) by omega), if_pos d1, if_pos d1, nI_1]
  have Mq : hh_c (sX4_middle_109 0 1 w1) (fun q => if f (agm f 35) < 10000 then q = (nI (agm f 35), w1) else sX4_finding (-1000004) w1 = some q) := by
    unfold sX4_middle_109
    refine hh_up (fun i s => s = (nI (agm f i), nI (i + 1), w1) ∧ i ≤ 35) 35 (by decide) ⟨rfl, by decide⟩ ?_
    rintro i _ hi ⟨rfl, hi35⟩
    have hai : agm f i < 36 := by have := agm_le f i; omega
    have hgb := gI hai (show (36 : Nat) < 2 ^ 31 by decide)
    have h36 : (36 : Int32) ≤ nI (i + 1) ↔ 36 ≤ i + 1 := nI_leI (a := 36) (by decide) (by omega)
    have l1 := hle4 (agm f i)
    unfold lX4_middle_109
    dsimp only
    rw [nI_clamp (show agm f i < 2 ^ 31 by omega), hv _ hai]
    have hgb2 := hgb
    rw [nI_clamp (show agm f i < 2 ^ 31 by omega)] at hgb2
    have e4 : (10000 : Int32) ≤ nI (f (agm f i)) ↔ ¬ f (agm f i) < 10000 := (nI_leI (a := 10000) (by decide) (by omega)).trans (by omega)
    refine hh_i (fun q => hh_f hgb2 (hh_i (fun y => ?_) (fun y => hh_v ?_))) (fun q => ?_)
    · obtain rfl : i = 35 := by have := h36.mp q; omega
      obtain ⟨x, z', w2, _, f2, _⟩ := pp_f3 h1
      rw [f2]
      refine hh_v ?_
      show if f (agm f 35) < 10000 then _ else _
      rw [if_neg (e4.mp y)]
    · obtain rfl : i = 35 := by have := h36.mp q; omega
      show if f (agm f 35) < 10000 then _ else _
      rw [if_pos (Classical.byContradiction fun t => y (e4.mpr t))]
    · have hi2 : i + 1 < 36 := Nat.lt_of_not_le fun y => q (h36.mpr y)
      have l2 := hle4 (i + 1)
      refine hh_f (gI hi2 (by decide)) (hh_f hgb2 ?_)
      rw [nI_clamp (show i + 1 < 2 ^ 31 by omega), hv _ hi2]
      have ea : agm f (i + 1) = if f (i + 1) < f (agm f i) then i + 1 else agm f i := rfl
      refine hh_i (fun y => hh_v ⟨by omega, ?_, by omega⟩) (fun y => hh_v ⟨by omega, ?_, by omega⟩)
      · have := (nI_leI (by omega) (by omega)).mp y
        rw [ea, if_neg (by omega), nI_1]
      · have : ¬ f (agm f i) ≤ f (i + 1) := fun x => y (nI_le x (by omega))
        rw [ea, if_pos (by omega), nI_1]
  obtain ⟨q1, hq1, hX⟩ := Xq
  obtain ⟨q2, hq2, hM⟩ := Mq
  rw [hq1, hq2]
  by_cases t : f (agm f 35) < 10000
  · rw [if_pos t] at hX hM
    subst hM
    have f3 : sX3_orNone (nI (agm f 35)) z1 = some (nI (agm f 35), z1) := by
      unfold sX3_orNone sX3_orNone_0
      rw [if_neg (nI_nm (by omega))]; rfl
    rw [f3] at hX
    cases hX
    exact ⟨_, _, _, rfl, rfl, h1⟩
  · rw [if_neg t] at hX hM
    obtain ⟨x, z', w', f1, f2, hR⟩ := pp_b1 (pp_f3 h1)
    have f3 : sX3_orNone (-1) z1 = (sX3_finding 3 z1).bind fun q1 => some (q1.1, q1.2) := by
      unfold sX3_orNone sX3_orNone_0
      rw [if_pos rfl]
    rw [f3, f1] at hX
    rw [f2] at hM
    cases hX
    cases hM
    exact ⟨_, _, _, rfl, rfl, hR⟩
