/-! ===== what fits the book ===== -/
def fitB (r : Nat → Int32) (b : Nat) : Prop := min 99 (td (stf r) (bfr r b) (bto r b)) = btm r b
def fitR (r : Nat → Int32) : Prop := ∀ b, b < nB r → fitB r b
def isFw (r : Nat → Int32) (b : Nat) : Prop := b ≤ nB r ∧ (∀ i, i < b → fitB r i) ∧ (b < nB r → ¬ fitB r b)
section FIT
variable {r : Nat → Int32}
theorem isFw_f {b : Nat} (h : isFw r b) : b = nB r ↔ fitR r := by
  constructor
  · rintro rfl i hi
    exact h.2.1 i hi
  · intro q
    refine Nat.le_antisymm h.1 (Nat.le_of_not_lt fun y => h.2.2 y (q b y))
theorem x_firstWrong {o : Nat} {z : mm_S} (ho : o = 1 ∨ o = 13 ∨ o = 25) (hm : RM o z r) (hr : okR r) : hh_c (sX0_firstWrong o z) (fun q => (∃ b, isFw r b ∧ q.1 = if b < nB r then nI b else -1) ∧ frR (o + 1) z q.2) := by
  have hn := ok_nB hr
  have ho2 : o + 1 = 2 ∨ o + 1 = 14 ∨ o + 1 = 26 := by omega
  obtain ⟨-, -, -, -, l8, l9, l10, -⟩ := oM ho
  unfold sX0_firstWrong sX0_firstWrong_0 sX0_firstWrong_2
  refine hh_up (fun j s => ∃ z', s = (nI j, z') ∧ j ≤ nB r ∧ (∀ i, i < j → fitB r i) ∧ frR (o + 1) z z') 8 (by decide) ⟨z, rfl, Nat.zero_le _, fun i hi => absurd hi (by omega), frR_0 _ _⟩ ?_
  rintro j s hj ⟨z', rfl, hjn, hi, hf⟩
  have hm2 : RM o z' r := RM_k hm (fun b hb => hf.1 b (by omega)) (hf.2 (o + 2) (by omega) (by omega))
  have hle : nI (nB r) ≤ nI j ↔ nB r ≤ j := nI_leI (by omega) (by omega)
  have e10 : z'.1 o 10 = nI (nB r) := hm2.2.2.1.trans hn.1
  unfold lX0_firstWrong_2
  dsimp only
  rw [e10]
  refine hh_i (fun q => hh_v ?_) (fun q => ?_)
  · obtain rfl : j = nB r := by have := hle.mp q; omega
    exact ⟨⟨_, ⟨Nat.le_refl _, hi, fun y => absurd y (Nat.lt_irrefl _)⟩, by rw [if_neg (Nat.lt_irrefl _)]⟩, hf⟩
  have hj2 : j < nB r := Nat.lt_of_not_le fun y => q (hle.mpr y)
  have hj8 : j < 8 := by omega
  have b1 := ok_bf hr hj8
  have b2 := ok_bt hr hj8
  have b3 := ok_bm hr hj8
  have e9 := hm2.2.2.2.2.2.2.2.2.1 j hj8
  rw [at_N _ (show j < lenX (o + 8) by omega), at_N _ (show j < lenX (o + 9) by omega), e9.1, e9.2.1, b1.1, b2.1]
  refine hh_bd (x_timeBetween ho2 b1.2 b2.2 hm2.2.2.2.2.2.2.2.2.2) (fun q2 h2 => ?_)
  obtain ⟨v, z2⟩ := q2
  obtain ⟨rfl, hf2⟩ := h2
  dsimp only at hf2 ⊢
  have hf3 := frR_t hf hf2
  have hm3 : RM o z2 r := RM_k hm (fun b hb => hf3.1 b (by omega)) (hf3.2 (o + 2) (by omega) (by omega))
  unfold sX0_firstWrong_34
  rw [at_N _ (show j < lenX (o + 10) by omega), (hm3.2.2.2.2.2.2.2.2.1 j hj8).2.2, b3.1]
  have hd : td (stf r) (bfr r j) (bto r j) ≤ 10000 := wk_dle _
  have key : ∀ v, v = min 99 (td (stf r) (bfr r j) (bto r j)) → hh_c (if nI v = nI (btm r j) then some (Sum.inl (nI j + 1, z2)) else some (Sum.inr (nI j, z2))) (mm_mt (fun s' : Int32 × mm_S => j < 8 ∧ ∃ z', s' = (nI (j + 1), z') ∧ j + 1 ≤ nB r ∧ (∀ i, i < j + 1 → fitB r i) ∧ frR (o + 1) z z') (fun q : Int32 × mm_S => (∃ b, isFw r b ∧ q.1 = if b < nB r then nI b else -1) ∧ frR (o + 1) z q.2)) := by
    rintro v hv
    have he : nI v = nI (btm r j) ↔ fitB r j := by
      unfold fitB
      rw [← hv]
      exact nI_eq (by omega) (by omega)
    refine hh_i (fun y => hh_v ⟨hj8, z2, by rw [nI_1], by omega, fun i h => ?_, hf3⟩) (fun y => hh_v ⟨⟨j, ⟨by omega, hi, fun _ t => y (he.mpr t)⟩, by rw [if_pos hj2]⟩, hf3⟩)
    by_cases t : i = j
    · rw [t]; exact he.mp y
    · exact hi i (by omega)
  by_cases y : td (stf r) (bfr r j) (bto r j) < 10000
  · rw [if_neg (fun t => absurd y (tI_m.mp t)), tI_1 y]
    have em : mm_min (nI (td (stf r) (bfr r j) (bto r j))) 99 = nI (min 99 (td (stf r) (bfr r j) (bto r j))) := by
      show (if (99 : Int32) < nI _ then (99 : Int32) else nI _) = _
      by_cases t : 99 < td (stf r) (bfr r j) (bto r j)
      · rw [if_pos (show (99 : Int32) < nI _ from nI_lt (a := 99) t (by omega)), Nat.min_eq_left (by omega)]; rfl
      · rw [if_neg (show ¬ (99 : Int32) < nI _ from nI_nlt (a := 99) (by omega) (by decide)), Nat.min_eq_right (by omega)]
    rw [em]
    exact key _ rfl
  · rw [if_pos (tI_m.mpr y)]
    exact key 99 (by omega)
theorem m_firstWrong {w : mm_S} (hw : w.1 1 = r) (hr : okR r) : hh_c (sX4_firstWrong w) (fun q => (∃ b, isFw r b ∧ q.1 = nI b) ∧ ∀ c, c ≠ 5 → q.2.1 c = w.1 c) := by
  have hn := ok_nB hr
  unfold sX4_firstWrong sX4_firstWrong_0 sX4_firstWrong_2
  refine hh_up (fun j s => ∃ w', s = (nI j, w') ∧ j ≤ nB r ∧ (∀ i, i < j → fitB r i) ∧ ∀ c, c ≠ 5 → w'.1 c = w.1 c) 8 (by decide) ⟨w, rfl, Nat.zero_le _, fun i hi => absurd hi (by omega), fun _ _ => rfl⟩ ?_
  rintro j s hj ⟨w', rfl, hjn, hi, hf⟩
  have hw2 : w'.1 1 = r := by rw [hf 1 (by decide), hw]
  have hle : nI (nB r) ≤ nI j ↔ nB r ≤ j := nI_leI (by omega) (by omega)
  have e2 : w'.1 1 2 = nI (nB r) := by rw [hw2]; exact hn.1
  unfold lX4_firstWrong_2 sX4_firstWrong_61
  dsimp only
  rw [e2]
  refine hh_i (fun q => hh_v ?_) (fun q => ?_)
  · obtain rfl : j = nB r := by have := hle.mp q; omega
    exact ⟨⟨_, ⟨Nat.le_refl _, hi, fun y => absurd y (Nat.lt_irrefl _)⟩, rfl⟩, hf⟩
  have hj2 : j < nB r := Nat.lt_of_not_le fun y => q (hle.mpr y)
  have hj8 : j < 8 := by omega
  have b1 := ok_bf hr hj8
  have b2 := ok_bt hr hj8
  have b3 := ok_bm hr hj8
  have t0 : (73 : Int32) + 3 * nI j = nI (73 + 3 * j) := by rw [show (73 : Int32) = nI 73 from rfl, show (3 : Int32) = nI 3 from rfl, pk_mul, nI_add]
  have t1 : nI (73 + 3 * j) + 1 = nI (74 + 3 * j) := by rw [nI_1]; congr 1; omega
  have t2 : nI (73 + 3 * j) + 2 = nI (75 + 3 * j) := by rw [show (2 : Int32) = nI 2 from rfl, nI_add]; congr 1; omega
  rw [t0, t1, t2]
  refine hh_f (gI (by omega) (by decide)) (hh_f (gI (by omega) (by decide)) ?_)
  rw [nI_clamp (show 73 + 3 * j < 2 ^ 31 by omega), nI_clamp (show 74 + 3 * j < 2 ^ 31 by omega), nI_clamp (show 75 + 3 * j < 2 ^ 31 by omega), hw2, b1.1, b2.1]
  refine hh_bd (m_timeOf b1.2 b2.2 (ok_ms hr hw2)) (fun q2 h2 => ?_)
  obtain ⟨v, w2⟩ := q2
  obtain ⟨rfl, hf2⟩ := h2
  dsimp only at hf2 ⊢
  have hf3 : ∀ c, c ≠ 5 → w2.1 c = w.1 c := fun c hc => (hf2 c hc).trans (hf c hc)
  have hw3 : w2.1 1 = r := by rw [hf3 1 (by decide), hw]
  have g3 := gI (show 75 + 3 * j < 97 by omega) (by decide)
  rw [nI_clamp (show 75 + 3 * j < 2 ^ 31 by omega)] at g3
  refine hh_f g3 ?_
  rw [hw3, b3.1]
  have hd : td (stf r) (bfr r j) (bto r j) ≤ 10000 := wk_dle _
  have em : mm_min 99 (nI (td (stf r) (bfr r j) (bto r j))) = nI (min 99 (td (stf r) (bfr r j) (bto r j))) := by
    show (if nI _ < (99 : Int32) then nI _ else (99 : Int32)) = _
    by_cases t : td (stf r) (bfr r j) (bto r j) < 99
    · rw [if_pos (show nI _ < (99 : Int32) from nI_lt (b := 99) t (by decide)), Nat.min_eq_right (by omega)]
    · rw [if_neg (show ¬ nI _ < (99 : Int32) from nI_nlt (b := 99) (by omega) (by omega)), Nat.min_eq_left (by omega)]; rfl
  have he : nI (min 99 (td (stf r) (bfr r j) (bto r j))) = nI (btm r j) ↔ fitB r j := nI_eq (by omega) (by omega)
  rw [em]
  refine hh_i (fun y => hh_v ⟨hj8, w2, by rw [nI_1], by omega, fun i h => ?_, hf3⟩) (fun y => hh_v ⟨⟨j, ⟨by omega, hi, fun _ t => y (he.mpr t)⟩, rfl⟩, hf3⟩)
  by_cases t : i = j
  · rw [t]; exact he.mp y
  · exact hi i (by omega)
theorem m_doesFit {w : mm_S} (hw : w.1 1 = r) (hr : okR r) : hh_c (sX4_doesFit w) (fun q => (q.1 = 0 ↔ ¬ fitR r) ∧ (q.1 = 0 ∨ q.1 = 1) ∧ ∀ c, c ≠ 5 → q.2.1 c = w.1 c) := by
  have hn := ok_nB hr
  unfold sX4_doesFit sX4_doesFit_0 sX4_doesFit_13
  refine hh_bd (m_firstWrong hw hr) (fun q hq => ?_)
  obtain ⟨v, w2⟩ := q
  obtain ⟨⟨b, hb, e⟩, hf⟩ := hq
  dsimp only at e hf ⊢
  subst e
  have e2 : w2.1 1 2 = nI (nB r) := by rw [hf 1 (by decide), hw]; exact hn.1
  have he : nI b = nI (nB r) ↔ b = nB r := nI_eq (by have := hb.1; omega) (by omega)
  rw [e2]
  refine hh_i (fun y => hh_v ⟨?_, Or.inr rfl, hf⟩) (fun y => hh_v ⟨?_, Or.inl rfl, hf⟩)
  · have := (isFw_f hb).mp (he.mp y)
    exact ⟨fun t => absurd t (show ¬ (1 : Int32) = 0 by decide), fun t => absurd this t⟩
  · exact ⟨fun _ t => y (he.mpr ((isFw_f hb).mpr t)), fun _ => rfl⟩
theorem fit_like {rd : Nat → Int32} (h : ∀ i, rd i = r i) : rd = r := funext h
end FIT
theorem pq_wrong {z w : mm_S} (h : Rel z w) : PP (sX3_wrong z) (sX4_wrong w) := by
  have hn := ok_nB h.1
  obtain ⟨⟨v, z1⟩, f1, ⟨b, hb, e⟩, hf⟩ := x_firstWrong (Or.inl rfl) h.2.1 h.1
  obtain ⟨⟨u, w1⟩, g1, k1, k2, k3⟩ := m_doesFit (w := w) rfl h.1
  dsimp only at e hf k1 k2 k3
  have h1 : Rel z1 w1 := Rel_K h (KX_R (Or.inl rfl) hf) (KM_1 (k := 5) (by omega) k3)
  unfold sX3_wrong sX3_wrong_0 sX4_wrong sX4_wrong_0 sX4_wrong_16 sX4_wrong_7
  rw [f1, g1]
  show PP ((sX3_orNone v z1).bind fun q2 => some (q2.1, q2.2)) (if u = 0 then _ else _)
  by_cases y : fitR (w.1 1)
  · have eb : b = nB (w.1 1) := (isFw_f hb).mpr y
    rw [if_neg (fun t => k1.mp t y), e, if_neg (by omega)]
    unfold sX3_orNone sX3_orNone_0
    rw [if_pos rfl]
    exact pp_b (pp_b1 (pp_f3 h1))
  · have hb2 : b < nB (w.1 1) := Nat.lt_of_le_of_ne hb.1 fun t => y ((isFw_f hb).mp t)
    rw [if_pos (k1.mpr y), e, if_pos hb2]
    obtain ⟨⟨v2, w2⟩, g2, ⟨b2, hb3, e2⟩, k4⟩ := m_firstWrong (w := w1) (r := w.1 1) (k3 1 (by decide)) h.1
    dsimp only at e2 k4
    have hbb : b2 = b := by
      refine Nat.le_antisymm (Nat.le_of_not_lt fun t => ?_) (Nat.le_of_not_lt fun t => ?_)
      · exact hb.2.2 hb2 (hb3.2.1 b t)
      · exact hb3.2.2 (by omega) (hb.2.1 b2 t)
    rw [g2, e2, hbb]
    unfold sX3_orNone sX3_orNone_0
    have : ¬ nI b = -1 := fun t => by
      have := tI_m.mp ((tI_1 (show b < 10000 by omega)).trans t)
      omega
    rw [if_neg this]
    exact pp_e rfl rfl (Rel_K h1 (KX_0 _) (KM_1 (k := 5) (by omega) k4))
/-- the draft laid out, and does it fit -/
theorem x_draft {z : mm_S} {r rd : Nat → Int32} (hm : RM 25 z rd) (hl : likeR r rd) {m : Nat} (hm5 : m < 625) (hr : okR r) : hh_c (sX3_draftFitsAs (nI m) z) (fun q => (q.1 = 0 ↔ ¬ fitR (layR r m)) ∧ (q.1 = 0 ∨ q.1 = 1) ∧ RM 25 q.2 (layR r m) ∧ KX z q.2) := by
  unfold sX3_draftFitsAs sX3_draftFitsAs_0 sX3_draftFitsAs_8 sX3_draftFitsAs_15 sX3_draftFitsAs_19
  refine hh_bd (x_layMap (Or.inr (Or.inr rfl)) hm hl.1 hm5) (fun z1 h1 => ?_)
  obtain ⟨g1, g2, g3⟩ := h1
  rw [hl.2.2 m] at g1
  have hr2 := layR_ok hr m
  have hn := ok_nB hr2
  refine hh_bd (x_firstWrong (Or.inr (Or.inr rfl)) g1 hr2) (fun q hq => ?_)
  obtain ⟨v, z2⟩ := q
  obtain ⟨⟨b, hb, e⟩, hf⟩ := hq
  dsimp only at e hf ⊢
  have k1 : KX z z1 := ⟨fun b _ => by rw [g2], fun b hb => g3 b (by omega)⟩
  have k2 : KX z z2 := KX_t k1 (KX_R (Or.inr (Or.inr rfl)) hf)
  have hm2 : RM 25 z2 (layR r m) := RM_k g1 (fun b hb => hf.1 b (by omega)) (hf.2 27 (by omega) (by omega))
  have hfw := isFw_f hb
  by_cases y : b < nB (layR r m)
  · have hnf : ¬ fitR (layR r m) := fun t => by have := hfw.mpr t; omega
    rw [e, if_pos y]
    have : ¬ nI b = -1 := fun t => by
      have := tI_m.mp ((tI_1 (show b < 10000 by omega)).trans t)
      omega
    rw [if_neg this]
    exact hh_v ⟨⟨fun _ => hnf, fun _ => rfl⟩, Or.inl rfl, hm2, k2⟩
  · have hft : fitR (layR r m) := hfw.mp (Nat.le_antisymm hb.1 (Nat.le_of_not_lt y))
    rw [e, if_neg y, if_pos rfl]
    exact hh_v ⟨⟨fun t => absurd t (show ¬ (1 : Int32) = 0 by decide), fun t => absurd hft t⟩, Or.inr rfl, hm2, k2⟩
theorem x_begin {z w : mm_S} (h : Rel z w) : hh_c (sX3_beginMaps z) (fun q => q.1 = nI (5 ^ nU (w.1 1)) ∧ RM 25 q.2 (w.1 1) ∧ KX z q.2) := by
  obtain ⟨g1, g2, g3⟩ := x_become (o := 25) (y := 1) (Or.inr (Or.inr ⟨rfl, rfl⟩)) h.2.1
  unfold sX3_beginMaps sX3_beginMaps_0 sX3_beginMaps_11
  dsimp only
  generalize tX0_become 25 1 z = z' at *
  have k : KX z z' := ⟨fun b hb => g2 b (by omega) (by omega), fun b hb => g3 b (by omega)⟩
  exact hh_v ⟨x_mapCount (RM_K (Or.inl rfl) h.2.1 k) h.1, g1, k⟩
/-- the next map that fits, from a on -/
def isNx (r : Nat → Int32) (a b : Nat) : Prop := a ≤ b ∧ b ≤ 5 ^ nU r ∧ (∀ i, a ≤ i → i < b → ¬ fitR (layR r i)) ∧ (b < 5 ^ nU r → fitR (layR r b))
theorem m_nextFit {w : mm_S} {r rd : Nat → Int32} (hw : w.1 1 = rd) (hr : okR r) (hl : likeR r rd) {a : Nat} (ha : a ≤ 5 ^ nU r) : hh_c (sX4_nextFit (nI a) w) (fun q => ∃ b rd', isNx r a b ∧ q.1 = nI b ∧ q.2.1 1 = rd' ∧ likeR r rd' ∧ (b < 5 ^ nU r → rd' = layR r b) ∧ ∀ c, c ≠ 1 → c ≠ 5 → q.2.1 c = w.1 c) := by
  have hp := p5_le hr
  unfold sX4_nextFit sX4_nextFit_0 sX4_nextFit_4
  refine hh_ms (fun s => ∃ (b : Nat) (w' : mm_S) (rd' : Nat → Int32), a ≤ b ∧ b ≤ 5 ^ nU r ∧ (∀ i, a ≤ i → i < b → ¬ fitR (layR r i)) ∧ w'.1 1 = rd' ∧ likeR r rd' ∧ (∀ c, c ≠ 1 → c ≠ 5 → w'.1 c = w.1 c) ∧ (s = (nI b, 0, w') ∨ (s = (nI b, 1, w') ∧ b < 5 ^ nU r ∧ fitR (layR r b) ∧ rd' = layR r b))) (fun s => 2 * (625 - gN s.1) + (if s.2.1 = 0 then 1 else 0)) ⟨a, w, rd, Nat.le_refl _, ha, fun i h1 h2 => absurd h1 (by omega), hw, hl, fun _ _ _ => rfl, Or.inl rfl⟩ (by dsimp only; split <;> omega) ?_
  rintro s ⟨b, w', rd', h1, h2, h3, h4, h5, h6, h7⟩
  have e3 : w'.1 1 3 = nI (nU r) := by rw [h4, h5.2.1 3 (by omega)]; exact (ok_nU hr).1
  have hgb : gN (nI b) = b := nI_clamp (by omega)
  unfold lX4_nextFit_4
  have hle : nI (5 ^ nU r) ≤ nI b ↔ 5 ^ nU r ≤ b := nI_leI (by omega) (by omega)
  rcases h7 with rfl | ⟨rfl, h8, h9, h10⟩
  · refine hh_bd (m_maps (r := r) e3 (ok_nU hr).2) (fun q hq => ?_)
    subst hq
    dsimp only
    refine hh_i (fun y => hh_v ?_) (fun y => ?_)
    · have := hle.mp y
      exact ⟨b, rd', ⟨h1, h2, h3, fun t => absurd t (by omega)⟩, rfl, h4, h5, fun t => absurd t (by omega), h6⟩
    have hb2 : b < 5 ^ nU r := Nat.lt_of_not_le fun t => y (hle.mpr t)
    unfold sX4_nextFit_12
    rw [if_pos rfl]
    refine hh_bd (m_lay h4 h5.1 (show b < 625 by omega)) (fun w2 hw2 => ?_)
    obtain ⟨k1, k2⟩ := hw2
    rw [h5.2.2 b] at k1
    unfold sX4_nextFit_21 sX4_nextFit_26
    refine hh_bd (m_doesFit k1 (layR_ok hr b)) (fun q hq => ?_)
    obtain ⟨u, w3⟩ := q
    obtain ⟨j1, j2, j3⟩ := hq
    dsimp only at j1 j2 j3 ⊢
    have hf : ∀ c, c ≠ 1 → c ≠ 5 → w3.1 c = w.1 c := fun c c1 c5 => ((j3 c c5).trans (k2 c c1)).trans (h6 c c1 c5)
    have k3 : w3.1 1 = layR r b := by rw [j3 1 (by decide), k1]
    rcases j2 with rfl | rfl
    · rw [if_pos rfl, nI_1]
      have hnf := j1.mp rfl
      refine hh_v ⟨⟨b + 1, w3, layR r b, by omega, by omega, fun i i1 i2 => ?_, k3, like_l hr b, hf, Or.inl rfl⟩, ?_⟩
      · by_cases t : i = b
        · rw [t]; exact hnf
        · exact h3 i i1 (by omega)
      · dsimp only
        rw [if_pos rfl, hgb, show gN (nI (b + 1)) = b + 1 from nI_clamp (by omega)]
        omega
    · have hft : fitR (layR r b) := Classical.byContradiction fun t => absurd (j1.mpr t) (by decide)
      rw [if_neg (by decide), Int32.add_zero]
      refine hh_v ⟨⟨b, w3, layR r b, h1, h2, h3, k3, like_l hr b, hf, Or.inr ⟨rfl, hb2, hft, rfl⟩⟩, ?_⟩
      dsimp only
      rw [if_neg (by decide), if_pos rfl]
      omega
  · refine hh_bd (m_maps (r := r) e3 (ok_nU hr).2) (fun q hq => ?_)
    subst hq
    dsimp only
    refine hh_f (fun t => by have := hle.mp t; omega) ?_
    unfold sX4_nextFit_12
    rw [if_neg (by decide)]
    exact hh_v ⟨b, rd', ⟨h1, h2, h3, fun _ => h9⟩, rfl, h4, h5, fun _ => h10, h6⟩
theorem pq_lays {z w : mm_S} (h : Rel z w) (x1 : Int32) : PP (sX3_lays x1 z) (sX4_lays x1 w) := by
  obtain ⟨e1, e2, e3⟩ := r_nU h
  have hp := p5_le h.1
  have hpos := p5_pos (nU (w.1 1))
  obtain ⟨q1, f1, rfl⟩ := m_maps (w := w) (r := w.1 1) e2 e3
  have ec : nI (5 ^ nU (w.1 1)) - 1 = nI (5 ^ nU (w.1 1) - 1) := by rw [show (1 : Int32) = nI 1 from rfl, nI_dif (by omega)]
  unfold sX3_lays sX3_lays_0 sX3_lays_14 sX4_lays sX4_lays_0 sX4_lays_14
  rw [x_mapCount h.2.1 h.1, f1]
  show PP (if pX3_lies x1 0 (nI (5 ^ nU (w.1 1)) - 1) = 0 then _ else _) (if pX4_within x1 0 (nI (5 ^ nU (w.1 1)) - 1) = 0 then _ else _)
  rw [ec]
  refine pp_if (x_lies0 _ (by omega)) (m_within0 _ (by omega)) (fun _ => pp_b (pp_f0 h)) (fun ⟨m, hm, e⟩ => ?_)
  subst e
  rw [show 5 ^ nU (w.1 1) - 1 + 1 = 5 ^ nU (w.1 1) by omega] at hm
  unfold sX3_lays_23 sX4_lays_21
  rw [e1, e2]
  refine pp_if2 Iff.rfl Iff.rfl (fun _ => pp_b (pp_f4 h)) (fun _ => ?_)
  unfold sX3_lays_39 sX3_lays_47 sX3_lays_55 sX4_lays_37 sX4_lays_42 sX4_lays_47
  obtain ⟨q2, f2, rfl⟩ := x_mapNow (Or.inl rfl) h.2.1 h.1
  obtain ⟨q3, f3, rfl⟩ := m_mapNow (w := w) rfl h.1
  obtain ⟨z4, f4, g1, g2, g3⟩ := x_layMap (Or.inl rfl) h.2.1 h.1 (show m < 625 by omega)
  obtain ⟨w5, f5, k1, k2⟩ := m_lay (w := w) rfl h.1 (show m < 625 by omega)
  rw [f2, f3]
  dsimp only [Option.bind]
  rw [f4, f5]
  refine pp_e rfl rfl (Rel_M h ⟨fun b _ => by rw [g2], fun b hb => g3 b (by omega)⟩ (KM1_1 k2) ?_ ?_)
  · rw [k1]; exact layR_ok h.1 m
  · rw [k1]; exact g1
