/-! ===== fits, map, may: class and reference ===== -/
section MP
variable {r : Nat → Int32}
theorem fstF_st {a : Nat} (h : fstF r a ≠ 0) : ∀ d, fstF r (a + d) = fstF r a
  | 0 => rfl
  | d + 1 => by
    have ih := fstF_st h d
    rw [show a + (d + 1) = a + d + 1 by omega]
    by_cases q : fitR (layR r (a + d))
    · rw [fstF_y q, if_neg (by rw [ih]; exact h), ih]
    · rw [fstF_n _ q, ih]
theorem km_go {w w' : mm_S} (hw : w.1 1 = r) (h1 : w'.1 1 = r) (h2 : ∀ j, ¬ (10 ≤ j ∧ j ≤ 13) → w'.1 0 j = w.1 0 j) (h3 : ∀ c, ¬ (c = 0 ∨ c = 1 ∨ c = 5 ∨ c = 10) → w'.1 c = w.1 c) : KM w w' := by
  refine ⟨fun b hb => ?_, h2 3 (by omega), h2 18 (by omega)⟩
  by_cases q : b = 1
  · rw [q, h1, hw]
  · exact h3 b (by omega)
end MP
theorem pp_mI {z w : mm_S} (h : Rel z w) (m : Nat) (hm : m ≤ 10000) : PP (sX3_orNone (mI m) z) (sX4_told (mI m) w) := by
  unfold sX3_orNone sX3_orNone_0 sX4_told sX4_told_0
  by_cases q : m = 0
  · subst q
    rw [if_pos (show mI 0 = -1 from rfl), if_pos (show mI 0 < 0 from by decide)]
    exact pp_b (pp_f3 h)
  · rw [mI_1 q, if_neg (nI_nm (by omega)), if_neg (nI_pos (by omega)), if_pos (show nI (m - 1) < 10000 from nI_lt (b := 10000) (by omega) (by decide))]
    exact pp_e rfl rfl h
theorem x_fits {z w : mm_S} (h : Rel z w) : hh_c (sX3_fits z) (fun q => q.1 = nI (cntF (w.1 1) (5 ^ nU (w.1 1))) ∧ KX z q.2) := by
  have hp := p5_le h.1
  unfold sX3_fits sX3_fits_0
  refine hh_bd (x_begin h) (fun q hq => ?_)
  obtain ⟨v, z1⟩ := q
  obtain ⟨e1, hm, hk⟩ := hq
  dsimp only at e1 hm hk ⊢
  subst e1
  unfold sX3_fits_7 sX3_fits_9
  refine hh_up (fun j s => ∃ z' rd, s = (nI (cntF (w.1 1) j), nI (5 ^ nU (w.1 1)), nI j, z') ∧ j ≤ 5 ^ nU (w.1 1) ∧ RM 25 z' rd ∧ likeR (w.1 1) rd ∧ KX z z') (5 ^ nU (w.1 1)) (by omega) ⟨z1, w.1 1, rfl, Nat.zero_le _, hm, like_0 h.1, hk⟩ ?_
  rintro j s hj ⟨z', rd, rfl, hjn, hR, hl, hk2⟩
  have hle : nI (5 ^ nU (w.1 1)) ≤ nI j ↔ 5 ^ nU (w.1 1) ≤ j := nI_leI (by omega) (by omega)
  unfold lX3_fits_9
  dsimp only
  refine hh_i (fun y => hh_v ?_) (fun y => ?_)
  · obtain rfl : j = 5 ^ nU (w.1 1) := by have := hle.mp y; omega
    exact ⟨rfl, hk2⟩
  have hj2 : j < 5 ^ nU (w.1 1) := Nat.lt_of_not_le fun t => y (hle.mpr t)
  refine hh_bd (x_draft hR hl (show j < 625 by omega) h.1) (fun q hq => ?_)
  obtain ⟨u, z2⟩ := q
  obtain ⟨k1, k2, k3, k4⟩ := hq
  dsimp only at k1 k2 k3 k4 ⊢
  unfold sX3_fits_19 sX3_fits_22
  refine hh_i (fun t => hh_v ⟨hj2, z2, _, ?_, hj2, k3, like_l h.1 j, KX_t hk2 k4⟩) (fun t => hh_v ⟨hj2, z2, _, ?_, hj2, k3, like_l h.1 j, KX_t hk2 k4⟩)
  · rw [cntF_n j (k1.mp t), nI_1]
  · rw [cntF_y (Classical.byContradiction fun x => t (k1.mpr x)), nI_1, nI_1]
theorem pq_fits {z w : mm_S} (h : Rel z w) : PP (sX3_fits z) (sX4_fits w) := by
  refine pp_v h (x_fits h) ?_
  unfold sX4_fits sX4_fits_0 sX4_fits_4
  refine hh_bd (m_goThrough rfl h.1) (fun w' hw => hh_v ?_)
  obtain ⟨a1, a2, -, -, -, -, a7, a8⟩ := hw
  exact ⟨a2, km_go rfl a1 a7 a8⟩
theorem x_least {z w : mm_S} (h : Rel z w) : hh_c (sX3_leastFit z) (fun q => q.1 = mI (fstF (w.1 1) (5 ^ nU (w.1 1))) ∧ KX z q.2) := by
  have hp := p5_le h.1
  unfold sX3_leastFit sX3_leastFit_0
  refine hh_bd (x_begin h) (fun q hq => ?_)
  obtain ⟨v, z1⟩ := q
  obtain ⟨e1, hm, hk⟩ := hq
  dsimp only at e1 hm hk ⊢
  subst e1
  unfold sX3_leastFit_5 sX3_leastFit_7
  refine hh_up (fun j s => ∃ z' rd, s = (nI (5 ^ nU (w.1 1)), nI j, z') ∧ j ≤ 5 ^ nU (w.1 1) ∧ fstF (w.1 1) j = 0 ∧ RM 25 z' rd ∧ likeR (w.1 1) rd ∧ KX z z') (5 ^ nU (w.1 1)) (by omega) ⟨z1, w.1 1, rfl, Nat.zero_le _, rfl, hm, like_0 h.1, hk⟩ ?_
  rintro j s hj ⟨z', rd, rfl, hjn, h0, hR, hl, hk2⟩
  have hle : nI (5 ^ nU (w.1 1)) ≤ nI j ↔ 5 ^ nU (w.1 1) ≤ j := nI_leI (by omega) (by omega)
  unfold lX3_leastFit_7
  dsimp only
  refine hh_i (fun y => hh_v ?_) (fun y => ?_)
  · obtain rfl : j = 5 ^ nU (w.1 1) := by have := hle.mp y; omega
    exact ⟨by rw [h0]; rfl, hk2⟩
  have hj2 : j < 5 ^ nU (w.1 1) := Nat.lt_of_not_le fun t => y (hle.mpr t)
  refine hh_bd (x_draft hR hl (show j < 625 by omega) h.1) (fun q hq => ?_)
  obtain ⟨u, z2⟩ := q
  obtain ⟨k1, k2, k3, k4⟩ := hq
  dsimp only at k1 k2 k3 k4 ⊢
  unfold sX3_leastFit_17 sX3_leastFit_20
  refine hh_i (fun t => hh_v ⟨hj2, z2, _, ?_, hj2, ?_, k3, like_l h.1 j, KX_t hk2 k4⟩) (fun t => hh_v ⟨?_, KX_t hk2 k4⟩)
  · rw [nI_1]
  · rw [fstF_n j (k1.mp t), h0]
  · have e : fstF (w.1 1) (j + 1) = j + 1 := by rw [fstF_y (Classical.byContradiction fun x => t (k1.mpr x)), if_pos h0]
    have e2 := fstF_st (r := w.1 1) (a := j + 1) (by omega) (5 ^ nU (w.1 1) - (j + 1))
    rw [show j + 1 + (5 ^ nU (w.1 1) - (j + 1)) = 5 ^ nU (w.1 1) by omega, e] at e2
    show nI j = _
    rw [e2, mI_s]
theorem x_greatest {z w : mm_S} (h : Rel z w) : hh_c (sX3_greatestFit z) (fun q => q.1 = mI (lstF (w.1 1) (5 ^ nU (w.1 1))) ∧ KX z q.2) := by
  have hp := p5_le h.1
  unfold sX3_greatestFit sX3_greatestFit_0
  refine hh_bd (x_begin h) (fun q hq => ?_)
  obtain ⟨v, z1⟩ := q
  obtain ⟨e1, hm, hk⟩ := hq
  dsimp only at e1 hm hk ⊢
  subst e1
  unfold sX3_greatestFit_5 sX3_greatestFit_9
  refine hh_up (fun j s => ∃ z' rd, s = (nI (5 ^ nU (w.1 1) - j) - 1, z') ∧ j ≤ 5 ^ nU (w.1 1) ∧ lstF (w.1 1) (5 ^ nU (w.1 1)) = lstF (w.1 1) (5 ^ nU (w.1 1) - j) ∧ RM 25 z' rd ∧ likeR (w.1 1) rd ∧ KX z z') (5 ^ nU (w.1 1)) (by omega) ⟨z1, w.1 1, rfl, Nat.zero_le _, rfl, hm, like_0 h.1, hk⟩ ?_
  rintro j s hj ⟨z', rd, rfl, hjn, h0, hR, hl, hk2⟩
  unfold lX3_greatestFit_9
  dsimp only
  by_cases y : j = 5 ^ nU (w.1 1)
  · subst y
    rw [Nat.sub_self] at h0 ⊢
    exact hh_t (show nI 0 - 1 < 0 by decide) (hh_v ⟨by rw [h0]; rfl, hk2⟩)
  have e1 : nI (5 ^ nU (w.1 1) - j) - 1 = nI (5 ^ nU (w.1 1) - (j + 1)) := by
    rw [show (1 : Int32) = nI 1 from rfl, nI_dif (by omega)]; congr 1
  rw [e1]
  refine hh_f (nI_pos (by omega)) ?_
  refine hh_bd (x_draft hR hl (show 5 ^ nU (w.1 1) - (j + 1) < 625 by omega) h.1) (fun q hq => ?_)
  obtain ⟨u, z2⟩ := q
  obtain ⟨k1, k2, k3, k4⟩ := hq
  dsimp only at k1 k2 k3 k4 ⊢
  have es : 5 ^ nU (w.1 1) - j = 5 ^ nU (w.1 1) - (j + 1) + 1 := by omega
  rw [es] at h0
  unfold sX3_greatestFit_18 sX3_greatestFit_21
  refine hh_i (fun t => hh_v ⟨by omega, z2, _, ?_, by omega, ?_, k3, like_l h.1 _, KX_t hk2 k4⟩) (fun t => hh_v ⟨?_, KX_t hk2 k4⟩)
  · exact Prod.ext (show nI (5 ^ nU (w.1 1) - (j + 1)) + -1 = nI (5 ^ nU (w.1 1) - (j + 1)) - 1 from (Int32.sub_eq_add_neg _ _).symm) rfl
  · rw [h0, lstF_n _ (k1.mp t)]
  · show nI _ = _
    rw [h0, lstF_y (Classical.byContradiction fun x => t (k1.mpr x)), mI_s]
theorem x_unlike {z : mm_S} {r : Nat → Int32} {m : Nat} (hm : RM 25 z (layR r m)) (h1 : RM 1 z r) (hr : okR r) : hh_c (sX0_unlikeCells 25 1 z) (fun q => q = (nI (ulk r m), z)) := by
  have hn := ok_nU hr
  have hr2 := layR_ok hr m
  have e6 : z.1 25 6 = nI (nU r) := by
    have := hm.2.2.2.1
    rw [layR_o hr m (by omega)] at this
    exact this.trans hn.1
  unfold sX0_unlikeCells sX0_unlikeCells_0 sX0_unlikeCells_4
  refine hh_up (fun j s => s = (1, nI (fb_ct (ulP r m) j), nI j, z) ∧ j ≤ nU r) 4 (by decide) ⟨rfl, Nat.zero_le _⟩ ?_
  rintro j s hj ⟨rfl, hjn⟩
  have hle : nI (nU r) ≤ nI j ↔ nU r ≤ j := nI_leI (by omega) (by omega)
  unfold lX0_unlikeCells_4
  dsimp only
  rw [e6]
  refine hh_i (fun y => hh_v ?_) (fun y => ?_)
  · obtain rfl : j = nU r := by have := hle.mp y; omega
    rfl
  have hj2 : j < nU r := Nat.lt_of_not_le fun t => y (hle.mpr t)
  have hu := ok_un hr (show j < 4 by omega)
  have e7 : pX3_at (25 + 7) (nI j) z = nI (uns r j) := by
    rw [at_N _ (show j < lenX 32 from (by omega : j < 4))]
    have := hm.2.2.2.2.2.2.2.1 j (by omega)
    rw [layR_o hr m (by omega)] at this
    exact this.trans hu.1
  have s1 : pX1_stuffAt (25 + 1) (nI (uns r j)) z = nI (stf (layR r m) (uns r j)) := st_N hm.2.2.2.2.2.2.2.2.2 hu.2
  have s2 : pX1_stuffAt (1 + 1) (nI (uns r j)) z = nI (stf r (uns r j)) := st_N h1.2.2.2.2.2.2.2.2.2 hu.2
  have l1 := (ok_st hr2 hu.2).2
  have l2 := (ok_st hr hu.2).2
  have he : nI (stf r (uns r j)) = nI (stf (layR r m) (uns r j)) ↔ stf r (uns r j) = stf (layR r m) (uns r j) := nI_eq (by omega) (by omega)
  unfold sX0_unlikeCells_31 sX0_unlikeCells_40
  rw [e7, s1, s2]
  refine hh_i (fun t => hh_v ⟨by omega, ?_, hj2⟩) (fun t => hh_v ⟨by omega, ?_, hj2⟩)
  · rw [fb_ct_succ, if_neg (by simp [ulP, he.mp t.symm]), Nat.add_zero, nI_1]
  · rw [fb_ct_succ, if_pos (by simp only [ulP, decide_eq_true_eq]; exact fun x => t (he.mpr x.symm).symm), nI_1, nI_1]
def feI (q : Nat × Nat) : Nat := if q.1 = 0 then 5 else q.2
theorem x_nearest {z w : mm_S} (h : Rel z w) : hh_c (sX3_nearestFit z) (fun q => q.1 = mI (neaF (w.1 1) (5 ^ nU (w.1 1))).1 ∧ KX z q.2) := by
  have hp := p5_le h.1
  have hn := ok_nU h.1
  unfold sX3_nearestFit sX3_nearestFit_0
  refine hh_bd (x_begin h) (fun q hq => ?_)
  obtain ⟨v, z1⟩ := q
  obtain ⟨e1, hm, hk⟩ := hq
  dsimp only at e1 hm hk ⊢
  subst e1
  unfold sX3_nearestFit_9 sX3_nearestFit_12
  refine hh_up (fun j s => ∃ z' rd, s = (mI (neaF (w.1 1) j).1, nI (feI (neaF (w.1 1) j)), nI (5 ^ nU (w.1 1)), nI j, z') ∧ j ≤ 5 ^ nU (w.1 1) ∧ RM 25 z' rd ∧ likeR (w.1 1) rd ∧ KX z z') (5 ^ nU (w.1 1)) (by omega) ⟨z1, w.1 1, rfl, Nat.zero_le _, hm, like_0 h.1, hk⟩ ?_
  rintro j s hj ⟨z', rd, rfl, hjn, hR, hl, hk2⟩
  have hle : nI (5 ^ nU (w.1 1)) ≤ nI j ↔ 5 ^ nU (w.1 1) ≤ j := nI_leI (by omega) (by omega)
  unfold lX3_nearestFit_12
  dsimp only
  refine hh_i (fun y => hh_v ?_) (fun y => ?_)
  · obtain rfl : j = 5 ^ nU (w.1 1) := by have := hle.mp y; omega
    exact ⟨rfl, hk2⟩
  have hj2 : j < 5 ^ nU (w.1 1) := Nat.lt_of_not_le fun t => y (hle.mpr t)
  refine hh_bd (x_draft hR hl (show j < 625 by omega) h.1) (fun q hq => ?_)
  obtain ⟨u, z2⟩ := q
  obtain ⟨k1, k2, k3, k4⟩ := hq
  dsimp only at k1 k2 k3 k4 ⊢
  have hk3 : KX z z2 := KX_t hk2 k4
  unfold sX3_nearestFit_24 sX3_nearestFit_27
  refine hh_i (fun t => hh_v ⟨hj2, z2, _, ?_, hj2, k3, like_l h.1 j, hk3⟩) (fun t => ?_)
  · rw [neaF_n j (k1.mp t), nI_1]
  have hft : fitR (layR (w.1 1) j) := Classical.byContradiction fun x => t (k1.mpr x)
  refine hh_bd (x_unlike k3 (RM_K (Or.inl rfl) h.2.1 hk3) h.1) (fun q hq => ?_)
  subst hq
  have hul := ulk_le (r := w.1 1) j
  have hnl := neaF_le (r := w.1 1) hn.2 j
  have hfe : feI (neaF (w.1 1) j) ≤ 5 := by unfold feI; split <;> omega
  have hcmp : nI (feI (neaF (w.1 1) j)) ≤ nI (ulk (w.1 1) j) ↔ feI (neaF (w.1 1) j) ≤ ulk (w.1 1) j := nI_leI (by omega) (by omega)
  have hc2 : ((neaF (w.1 1) j).1 = 0 ∨ ulk (w.1 1) j < (neaF (w.1 1) j).2) ↔ ¬ feI (neaF (w.1 1) j) ≤ ulk (w.1 1) j := by
    unfold feI
    by_cases x : (neaF (w.1 1) j).1 = 0
    · rw [if_pos x]; exact ⟨fun _ => by omega, fun _ => Or.inl x⟩
    · rw [if_neg x]; exact ⟨fun y => by omega, fun y => Or.inr (by omega)⟩
  unfold sX3_nearestFit_40
  dsimp only
  refine hh_i (fun t2 => hh_v ⟨hj2, z2, _, ?_, hj2, k3, like_l h.1 j, hk3⟩) (fun t2 => hh_v ⟨hj2, z2, _, ?_, hj2, k3, like_l h.1 j, hk3⟩)
  · rw [neaF_y hft, if_neg (fun x => hc2.mp x (hcmp.mp t2)), nI_1]
  · rw [neaF_y hft, if_pos (hc2.mpr fun x => t2 (hcmp.mpr x)), nI_1, mI_s]
    rfl
theorem pq_map {z w : mm_S} (h : Rel z w) (x1 : Int32) : PP (sX3_map x1 z) (sX4_map x1 w) := by
  have hp := p5_le h.1
  have hn := ok_nU h.1
  have hw : pX4_within x1 0 2 = 0 ↔ ¬ isN x1 3 := m_within0 x1 (n := 2) (by decide)
  obtain ⟨w', f1, a1, a2, a3, a4, a5, -, a7, a8⟩ := m_goThrough (w := w) rfl h.1
  have hkm : KM w w' := km_go rfl a1 a7 a8
  have hl1 := fstF_le (r := w.1 1) (5 ^ nU (w.1 1))
  have hl2 := (neaF_le (r := w.1 1) hn.2 (5 ^ nU (w.1 1))).1
  have hl3 := lstF_le (r := w.1 1) (5 ^ nU (w.1 1))
  unfold sX3_map sX3_map_0 sX4_map sX4_map_0 sX4_map_16 sX4_map_20
  by_cases c : isN x1 3
  · rw [if_neg (fun e => hw.mp e c), f1]
    dsimp only [Option.bind]
    obtain ⟨v, hv, rfl⟩ := c
    have hv3 : v = 0 ∨ v = 1 ∨ v = 2 := by omega
    rcases hv3 with rfl | rfl | rfl
    · rw [if_pos (show nI 0 = 0 from rfl), if_pos (show nI 0 = 0 from rfl), a3]
      obtain ⟨⟨u, z1⟩, g1, e1, k1⟩ := x_least h
      dsimp only at e1 k1
      rw [g1, e1]
      exact pp_b (pp_mI (Rel_K h k1 hkm) _ (by omega))
    · rw [if_neg (show ¬ nI 1 = 0 by decide), if_pos (show nI 1 = 1 from rfl), if_neg (show ¬ nI 1 = 0 by decide), if_pos (show nI 1 = 1 from rfl), a4]
      obtain ⟨⟨u, z1⟩, g1, e1, k1⟩ := x_nearest h
      dsimp only at e1 k1
      rw [g1, e1]
      exact pp_b (pp_mI (Rel_K h k1 hkm) _ (by omega))
    · rw [if_neg (show ¬ nI 2 = 0 by decide), if_neg (show ¬ nI 2 = 1 by decide), if_pos (show nI 2 = 2 from rfl), if_neg (show ¬ nI 2 = 0 by decide), if_neg (show ¬ nI 2 = 1 by decide), a5]
      obtain ⟨⟨u, z1⟩, g1, e1, k1⟩ := x_greatest h
      dsimp only at e1 k1
      rw [g1, e1]
      exact pp_b (pp_mI (Rel_K h k1 hkm) _ (by omega))
  · rw [if_pos (hw.mpr c), if_neg (show ¬ x1 = 0 from fun e => c ⟨0, by decide, e⟩), if_neg (show ¬ x1 = 1 from fun e => c ⟨1, by decide, e⟩), if_neg (show ¬ x1 = 2 from fun e => c ⟨2, by decide, e⟩)]
    exact pp_b (pp_f0 h)
theorem pq_may {z w : mm_S} (h : Rel z w) (x1 : Int32) : PP (sX3_may x1 z) (sX4_may x1 w) := by
  have hp := p5_le h.1
  obtain ⟨e1, e2, e3⟩ := r_nU h
  unfold sX3_may sX3_may_0 sX3_may_14 sX4_may sX4_may_0
  rw [e1, e2]
  refine pp_if (ls_m x1 (by omega)) (ls_m x1 (by omega)) (fun _ => pp_b (pp_f0 h)) (fun ⟨i, hi, e⟩ => ?_)
  subst e
  have hu := ok_un h.1 (show i < 4 by omega)
  have e7 : pX3_at 8 (nI i) z = nI (uns (w.1 1) i) := by
    rw [at_N _ (show i < lenX 8 from (by omega : i < 4))]
    exact (h.2.1.2.2.2.2.2.2.2.1 i (by omega)).trans hu.1
  refine pp_v (a := orF (w.1 1) i (5 ^ nU (w.1 1))) h ?_ ?_
  · unfold sX3_may_23 sX3_may_37
    rw [e7]
    refine hh_bd (x_begin h) (fun q hq => ?_)
    obtain ⟨v, z1⟩ := q
    obtain ⟨e1, hm, hk⟩ := hq
    dsimp only at e1 hm hk ⊢
    subst e1
    unfold sX3_may_43 sX3_may_46
    refine hh_up (fun j s => ∃ z' rd, s = (orF (w.1 1) i j, nI (uns (w.1 1) i), nI (5 ^ nU (w.1 1)), nI j, z') ∧ j ≤ 5 ^ nU (w.1 1) ∧ RM 25 z' rd ∧ likeR (w.1 1) rd ∧ KX z z') (5 ^ nU (w.1 1)) (by omega) ⟨z1, w.1 1, rfl, Nat.zero_le _, hm, like_0 h.1, hk⟩ ?_
    rintro j s hj ⟨z', rd, rfl, hjn, hR, hl, hk2⟩
    have hle : nI (5 ^ nU (w.1 1)) ≤ nI j ↔ 5 ^ nU (w.1 1) ≤ j := nI_leI (by omega) (by omega)
    unfold lX3_may_46
    dsimp only
    refine hh_i (fun y => hh_v ?_) (fun y => ?_)
    · obtain rfl : j = 5 ^ nU (w.1 1) := by have := hle.mp y; omega
      exact ⟨rfl, hk2⟩
    have hj2 : j < 5 ^ nU (w.1 1) := Nat.lt_of_not_le fun t => y (hle.mpr t)
    refine hh_bd (x_draft hR hl (show j < 625 by omega) h.1) (fun q hq => ?_)
    obtain ⟨u, z2⟩ := q
    obtain ⟨k1, k2, k3, k4⟩ := hq
    dsimp only at k1 k2 k3 k4 ⊢
    have s1 : pX1_stuffAt 26 (nI (uns (w.1 1) i)) z2 = nI (stf (layR (w.1 1) j) (uns (w.1 1) i)) := st_N k3.2.2.2.2.2.2.2.2.2 hu.2
    unfold sX3_may_59 sX3_may_62
    refine hh_i (fun t => hh_v ⟨hj2, z2, _, ?_, hj2, k3, like_l h.1 j, KX_t hk2 k4⟩) (fun t => hh_v ⟨hj2, z2, _, ?_, hj2, k3, like_l h.1 j, KX_t hk2 k4⟩)
    · rw [orF_n _ _ (k1.mp t), nI_1]
    · rw [orF_y (Classical.byContradiction fun x => t (k1.mpr x)), nI_1, s1]
      rfl
  · unfold sX4_may_23
    refine hh_bd (m_goThrough rfl h.1) (fun w' hw => ?_)
    obtain ⟨a1, -, -, -, -, a6, a7, a8⟩ := hw
    unfold sX4_may_27
    refine hh_f (gI (show i < 4 by omega) (by decide)) (hh_v ⟨?_, km_go rfl a1 a7 a8⟩)
    show w'.1 10 (Int32.toNatClampNeg (nI i)) = _
    rw [nI_clamp (by omega)]
    exact a6 i hi
