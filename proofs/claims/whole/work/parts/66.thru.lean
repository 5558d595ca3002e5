/-! ===== going through all maps ===== -/
section GT
variable {r : Nat → Int32}
def goR (r : Nat → Int32) (w0 : mm_S) (b best : Nat) (w : mm_S) : Prop := likeR r (w.1 1) ∧ b ≤ 5 ^ nU r ∧ (b < 5 ^ nU r → fitR (layR r b) ∧ w.1 1 = layR r b) ∧ best = (neaF r b).2 ∧ w.1 0 10 = nI (cntF r b) ∧ w.1 0 11 = mI (fstF r b) ∧ w.1 0 12 = mI (neaF r b).1 ∧ w.1 0 13 = mI (lstF r b) ∧ (∀ i, i < nU r → w.1 10 i = orF r i b) ∧ (∀ j, ¬ (10 ≤ j ∧ j ≤ 13) → w.1 0 j = w0.1 0 j) ∧ ∀ c, ¬ (c = 0 ∨ c = 1 ∨ c = 5 ∨ c = 10) → w.1 c = w0.1 c
theorem m_goOut (hr : okR r) {w0 w : mm_S} {b : Nat} {best : Nat} (hI : goR r w0 b best w) : hh_c (sX4_goThrough_53 (nI (mapR r)) (nI best) (nI b) w) (fun w' => w'.1 1 = r ∧ w'.1 0 10 = nI (cntF r (5 ^ nU r)) ∧ w'.1 0 11 = mI (fstF r (5 ^ nU r)) ∧ w'.1 0 12 = mI (neaF r (5 ^ nU r)).1 ∧ w'.1 0 13 = mI (lstF r (5 ^ nU r)) ∧ (∀ i, i < nU r → w'.1 10 i = orF r i (5 ^ nU r)) ∧ (∀ j, ¬ (10 ≤ j ∧ j ≤ 13) → w'.1 0 j = w0.1 0 j) ∧ ∀ c, ¬ (c = 0 ∨ c = 1 ∨ c = 5 ∨ c = 10) → w'.1 c = w0.1 c) := by
  have hn := ok_nU hr
  have hp := p5_le hr
  have hm := mapR_lt hr
  unfold sX4_goThrough_53
  refine hh_ms (fun s => ∃ (b best : Nat) (w : mm_S), s = (nI (mapR r), nI best, nI b, w) ∧ goR r w0 b best w) (fun s => 625 - gN s.2.2.1) ⟨b, best, w, rfl, hI⟩ (by dsimp only; omega) ?_
  rintro s ⟨b, best, w, rfl, h1, h2, h3, h4, h5, h6, h7, h8, h9, h10, h11⟩
  have e3 : w.1 1 3 = nI (nU r) := by rw [h1.2.1 3 (by omega)]; exact hn.1
  have hgb : gN (nI b) = b := nI_clamp (by omega)
  have hle : nI (5 ^ nU r) ≤ nI b ↔ 5 ^ nU r ≤ b := nI_leI (by omega) (by omega)
  unfold lX4_goThrough_53
  dsimp only
  refine hh_bd (m_maps (r := r) e3 hn.2) (fun q hq => ?_)
  subst hq
  dsimp only
  refine hh_i (fun y => ?_) (fun y => ?_)
  · obtain rfl : b = 5 ^ nU r := by have := hle.mp y; omega
    refine hh_bd (m_lay rfl h1.1 (show mapR r < 625 by omega)) (fun w4 hw4 => ?_)
    obtain ⟨k1, k2⟩ := hw4
    rw [h1.2.2, layR_map hr] at k1
    unfold sX4_goThrough_213
    refine hh_v ⟨k1, ?_, ?_, ?_, ?_, fun i hi => ?_, fun j hj => ?_, fun c hc => ?_⟩
    · rw [k2 0 (by decide)]; exact h5
    · rw [k2 0 (by decide)]; exact h6
    · rw [k2 0 (by decide)]; exact h7
    · rw [k2 0 (by decide)]; exact h8
    · rw [k2 10 (by decide)]; exact h9 i hi
    · rw [k2 0 (by decide)]; exact h10 j hj
    · rw [k2 c (by omega)]; exact h11 c hc
  have hb : b < 5 ^ nU r := Nat.lt_of_not_le fun t => y (hle.mpr t)
  obtain ⟨hfit, hw1⟩ := h3 hb
  have hcl := cntF_le (r := r) b
  have hfl := fstF_le (r := r) b
  have hnl := neaF_le (r := r) hn.2 b
  have inner : ∀ w2 : mm_S, w2.1 1 = layR r b → (w2.1 0 10 = nI (cntF r (b + 1))) → (w2.1 0 11 = mI (fstF r (b + 1))) → w2.1 0 12 = mI (neaF r b).1 → w2.1 0 13 = nI b → (∀ c, c ≠ 0 → w2.1 c = w.1 c) → (∀ j, ¬ (10 ≤ j ∧ j ≤ 13) → w2.1 0 j = w.1 0 j) → hh_c (sX4_goThrough_104 (nI (mapR r)) (nI best) (nI b) 0 (nI (mapR r)) 0 w2) (mm_mt (fun s' : Int32 × Int32 × Int32 × mm_S => (∃ (b best : Nat) (w : mm_S), s' = (nI (mapR r), nI best, nI b, w) ∧ goR r w0 b best w) ∧ 625 - gN s'.2.2.1 < 625 - gN (nI b)) (fun w' : mm_S => w'.1 1 = r ∧ w'.1 0 10 = nI (cntF r (5 ^ nU r)) ∧ w'.1 0 11 = mI (fstF r (5 ^ nU r)) ∧ w'.1 0 12 = mI (neaF r (5 ^ nU r)).1 ∧ w'.1 0 13 = mI (lstF r (5 ^ nU r)) ∧ (∀ i, i < nU r → w'.1 10 i = orF r i (5 ^ nU r)) ∧ (∀ j, ¬ (10 ≤ j ∧ j ≤ 13) → w'.1 0 j = w0.1 0 j) ∧ ∀ c, ¬ (c = 0 ∨ c = 1 ∨ c = 5 ∨ c = 10) → w'.1 c = w0.1 c)) := by
    intro w2 a1 a2 a3 a4 a5 a6 a7
    obtain ⟨t, ft, best', b', w', rfl, k1, k2, k3, k4, k5, k6, k7⟩ := m_goIn hr hb a1 (best := best) (by rw [h4]; exact hnl.2)
    rw [ft]
    have hb1 := k1.1
    have hb2 := k1.2.1
    refine hh_v ⟨⟨b', best', w', rfl, k2, k1.2.1, fun t => ⟨k1.2.2.2 t, k3 t⟩, ?_, ?_, ?_, ?_, ?_, fun i hi => ?_, fun j hj => ?_, fun c hc => ?_⟩, ?_⟩
    · rw [fold_nx (F := neaF r) neaF_n k1, neaF_y hfit]
      have hz := mI_neg (m := (neaF r b).1) (by omega)
      rw [a4] at k5
      by_cases t : (neaF r b).1 = 0 ∨ ulk r b < (neaF r b).2
      · rw [if_pos t]
        rw [if_pos (t.imp hz.mpr fun x => by rw [h4]; exact x)] at k5
        exact k5.2
      · rw [if_neg t]
        rw [if_neg (fun x => t (x.imp hz.mp fun x => by rw [← h4]; exact x))] at k5
        rw [k5.2, h4]
    · rw [k6 10 (by decide), a2, fold_nx (F := cntF r) cntF_n k1]
    · rw [k6 11 (by decide), a3, fold_nx (F := fstF r) fstF_n k1]
    · rw [fold_nx (F := neaF r) neaF_n k1, neaF_y hfit]
      have hz := mI_neg (m := (neaF r b).1) (by omega)
      rw [a4] at k5
      by_cases t : (neaF r b).1 = 0 ∨ ulk r b < (neaF r b).2
      · rw [if_pos t]
        rw [if_pos (t.imp hz.mpr fun x => by rw [h4]; exact x)] at k5
        rw [k5.1]
        exact (mI_s b).symm
      · rw [if_neg t]
        rw [if_neg (fun x => t (x.imp hz.mp fun x => by rw [← h4]; exact x))] at k5
        exact k5.1
    · rw [k6 13 (by decide), a5, fold_nx (F := lstF r) lstF_n k1, lstF_y hfit]
      exact (mI_s b).symm
    · rw [k4 i hi, a6 10 (by decide), h9 i hi, fold_nx (F := orF r i) (orF_n i) k1, orF_y hfit]
    · rw [k6 j (by omega), a7 j hj]; exact h10 j hj
    · rw [k7 c hc, a6 c (by omega)]; exact h11 c hc
    · dsimp only
      rw [hgb, show gN (nI b') = b' from nI_clamp (by omega)]
      omega
  unfold sX4_goThrough_61 sX4_goThrough_71 sX4_goThrough_90 sX4_goThrough_95
  dsimp only
  have n0 : ∀ (f : Nat → Nat → Int32) (j : Nat) (v : Int32) (c : Nat), c ≠ 0 → mm_ui f 0 j v c = f c := fun f j v c hc => ru_n _ _ hc
  have hx : mm_ui w.1 0 10 (w.1 0 10 + 1) 0 11 = mI (fstF r b) := by rw [ru_i _ _ (by decide)]; exact h6
  refine hh_i (fun y0 => ?_) (fun y0 => ?_)
  · have t : ¬ fstF r b = 0 := fun t => by
      rw [hx, t] at y0
      exact absurd y0 (by decide)
    refine inner _ ?_ ?_ ?_ ?_ (by dsimp only; rw [ru_s]) (fun c hc => by dsimp only; rw [n0 _ _ _ _ hc, n0 _ _ _ _ hc, n0 _ _ _ _ hc]) (fun j hj => by dsimp only; rw [ru_i _ _ (by omega), ru_i _ _ (by omega), ru_i _ _ (by omega)])
    · dsimp only; rw [n0 _ _ _ _ (by decide), n0 _ _ _ _ (by decide), n0 _ _ _ _ (by decide)]; exact hw1
    · dsimp only; rw [ru_i _ _ (by decide), ru_i _ _ (by decide), ru_s, h5, nI_1, cntF_y hfit]
    · dsimp only; rw [ru_i _ _ (by decide), ru_s, hx, fstF_y hfit, if_neg t]
    · dsimp only; rw [ru_i _ _ (by decide), ru_i _ _ (by decide), ru_i _ _ (by decide)]; exact h7
  · have t : fstF r b = 0 := Classical.byContradiction fun t => y0 (by
      rw [hx, mI_1 t]; exact (nI_leI (a := 0) (by decide) (by omega)).mpr (Nat.zero_le _))
    refine inner _ ?_ ?_ ?_ ?_ (by dsimp only; rw [ru_s]) (fun c hc => by dsimp only; rw [n0 _ _ _ _ hc, n0 _ _ _ _ hc, n0 _ _ _ _ hc]) (fun j hj => by dsimp only; rw [ru_i _ _ (by omega), ru_i _ _ (by omega), ru_i _ _ (by omega)])
    · dsimp only; rw [n0 _ _ _ _ (by decide), n0 _ _ _ _ (by decide), n0 _ _ _ _ (by decide)]; exact hw1
    · dsimp only; rw [ru_i _ _ (by decide), ru_i _ _ (by decide), ru_s, h5, nI_1, cntF_y hfit]
    · dsimp only; rw [ru_i _ _ (by decide), ru_s, fstF_y hfit, if_pos t]; exact (mI_s b).symm
    · dsimp only; rw [ru_i _ _ (by decide), ru_i _ _ (by decide), ru_i _ _ (by decide)]; exact h7
end GT
section GT2
variable {r : Nat → Int32}
theorem m_goThrough {w : mm_S} (hw : w.1 1 = r) (hr : okR r) : hh_c (sX4_goThrough w) (fun w' => w'.1 1 = r ∧ w'.1 0 10 = nI (cntF r (5 ^ nU r)) ∧ w'.1 0 11 = mI (fstF r (5 ^ nU r)) ∧ w'.1 0 12 = mI (neaF r (5 ^ nU r)).1 ∧ w'.1 0 13 = mI (lstF r (5 ^ nU r)) ∧ (∀ i, i < nU r → w'.1 10 i = orF r i (5 ^ nU r)) ∧ (∀ j, ¬ (10 ≤ j ∧ j ≤ 13) → w'.1 0 j = w.1 0 j) ∧ ∀ c, ¬ (c = 0 ∨ c = 1 ∨ c = 5 ∨ c = 10) → w'.1 c = w.1 c) := by
  have hn := ok_nU hr
  have hp := p5_le hr
  unfold sX4_goThrough sX4_goThrough_0
  refine hh_bd (m_mapNow hw hr) (fun q hq => ?_)
  subst hq
  unfold sX4_goThrough_5 sX4_goThrough_10 sX4_goThrough_15 sX4_goThrough_20 sX4_goThrough_25 sX4_goThrough_29
  dsimp only
  refine hh_up (fun j s => ∃ w' : mm_S, s = (nI (mapR r), 0, nI j, w') ∧ w'.1 1 = r ∧ w'.1 0 10 = 0 ∧ w'.1 0 11 = -1 ∧ w'.1 0 12 = -1 ∧ w'.1 0 13 = -1 ∧ (∀ i, i < j → w'.1 10 i = 0) ∧ (∀ j, ¬ (10 ≤ j ∧ j ≤ 13) → w'.1 0 j = w.1 0 j) ∧ ∀ c, ¬ (c = 0 ∨ c = 10) → w'.1 c = w.1 c) 4 (by decide) ⟨_, rfl, ?_, ?_, ?_, ?_, ?_, fun i hi => absurd hi (by omega), fun j hj => ?_, fun c hc => ?_⟩ ?_
  · dsimp only; rw [ru_n _ _ (by decide), ru_n _ _ (by decide), ru_n _ _ (by decide), ru_n _ _ (by decide)]; exact hw
  · dsimp only; rw [ru_i _ _ (by decide), ru_i _ _ (by decide), ru_i _ _ (by decide), ru_s]
  · dsimp only; rw [ru_i _ _ (by decide), ru_i _ _ (by decide), ru_s]
  · dsimp only; rw [ru_i _ _ (by decide), ru_s]
  · dsimp only; rw [ru_s]
  · dsimp only; rw [ru_i _ _ (by omega), ru_i _ _ (by omega), ru_i _ _ (by omega), ru_i _ _ (by omega)]
  · dsimp only; rw [ru_n _ _ (by omega), ru_n _ _ (by omega), ru_n _ _ (by omega), ru_n _ _ (by omega)]
  rintro j s hj ⟨w', rfl, a1, a2, a3, a4, a5, a6, a7, a8⟩
  have h4 : (4 : Int32) ≤ nI j ↔ 4 ≤ j := nI_leI (a := 4) (by decide) (by omega)
  unfold lX4_goThrough_29 sX4_goThrough_41
  dsimp only
  refine hh_i (fun y => ?_) (fun y => ?_)
  · have hj4 := h4.mp y
    refine hh_bd (m_nextFit (rd := r) a1 hr (like_0 hr) (a := 0) (Nat.zero_le _)) (fun q hq => ?_)
    obtain ⟨v, w2⟩ := q
    obtain ⟨b, rd', k1, k2, k3, k4, k5, k6⟩ := hq
    dsimp only at k2 k3 k6 ⊢
    subst k2
    refine hh_map (m_goOut hr (w0 := w) (b := b) (best := 0) ⟨by rw [k3]; exact k4, k1.2.1, fun t => ⟨k1.2.2.2 t, by rw [k3]; exact k5 t⟩, ?_, ?_, ?_, ?_, ?_, fun i hi => ?_, fun j hj => ?_, fun c hc => ?_⟩) (fun a ha => ha)
    · rw [fold_nx (F := neaF r) neaF_n k1]; rfl
    · rw [k6 0 (by decide) (by decide), a2, fold_nx (F := cntF r) cntF_n k1]; rfl
    · rw [k6 0 (by decide) (by decide), a3, fold_nx (F := fstF r) fstF_n k1]; rfl
    · rw [k6 0 (by decide) (by decide), a4, fold_nx (F := neaF r) neaF_n k1]; rfl
    · rw [k6 0 (by decide) (by decide), a5, fold_nx (F := lstF r) lstF_n k1]; rfl
    · rw [k6 10 (by decide) (by decide), a6 i (by omega), fold_nx (F := orF r i) (orF_n i) k1]; rfl
    · rw [k6 0 (by decide) (by decide)]; exact a7 j hj
    · rw [k6 c (by omega) (by omega)]; exact a8 c (by omega)
  have hj2 : j < 4 := Nat.lt_of_not_le fun t => y (h4.mpr t)
  refine hh_f (gI hj2 (by decide)) (hh_v ⟨hj2, (mm_ui w'.1 10 j 0, w'.2), by rw [nI_1, nI_clamp (by omega)], ?_, ?_, ?_, ?_, ?_, fun i hi => ?_, fun q hq => ?_, fun c hc => (ru_n _ _ (by omega)).trans (a8 c hc)⟩)
  · exact (congrFun (rfl : _ = mm_ui w'.1 10 j 0) 1).trans ((ru_n _ _ (by decide)).trans a1)
  · dsimp only; rw [ru_n _ _ (by decide)]; exact a2
  · dsimp only; rw [ru_n _ _ (by decide)]; exact a3
  · dsimp only; rw [ru_n _ _ (by decide)]; exact a4
  · dsimp only; rw [ru_n _ _ (by decide)]; exact a5
  · dsimp only
    by_cases t : i = j
    · rw [t, ru_s]
    · rw [ru_i _ _ t]; exact a6 i (by omega)
  · dsimp only; rw [ru_n _ _ (by decide)]; exact a7 q hq
end GT2
