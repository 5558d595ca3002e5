/-! ===== sheets ===== -/
theorem Rel_S {z z' w w' : mm_S} (h : Rel z w) (h1 : ∀ b, ¬ (39 ≤ b ∧ b ≤ 41) → z'.1 b = z.1 b) (h2 : z'.2 = z.2) (h3 : ∀ b, ¬ (18 ≤ b ∧ b ≤ 21) → w'.1 b = w.1 b) (ht : rSheet z' w') : Rel z' w' := by
  obtain ⟨g1, g2, g3, g4, g5, g6⟩ := h
  have k1 : ∀ o r, (o = 1 ∨ o = 13) → RM o z r → RM o z' r := fun o r ho hm => RM_k hm (fun b hb => h1 b (by omega)) (by rw [h2])
  refine ⟨by rw [h3 1 (by omega)]; exact g1, by rw [h3 1 (by omega)]; exact k1 1 _ (Or.inl rfl) g2, ?_, ?_, ht, ?_⟩
  · unfold rKept
    rw [h1 0 (by omega), h3 0 (by omega), h3 2 (by omega)]
    exact ⟨g3.1, g3.2.imp id fun x => ⟨x.1, x.2.1, k1 13 _ (Or.inr rfl) x.2.2⟩⟩
  · unfold rTape
    rw [h1 37 (by omega), h1 38 (by omega), h3 0 (by omega), h3 13 (by omega)]
    exact g4
  · unfold rFind
    rw [h1 42 (by omega), h3 4 (by omega)]
    exact g6
theorem ix_x (s i : Nat) : nI s * 40 + nI i = nI (40 * s + i) := by rw [show (40 : Int32) = nI 40 from rfl, pk_mul, nI_add, Nat.mul_comm]
theorem ix_m (s i : Nat) : 40 * nI s + nI i = nI (40 * s + i) := by rw [show (40 : Int32) = nI 40 from rfl, pk_mul, nI_add]
theorem x_sheet {s m : Nat} (hs : s < 4) (hm : m ≤ 40) (z : mm_S) : hh_c (sX3_sheet_79 (nI s) (nI m) z) (fun q => q.1 = nI m ∧ q.2.1 40 = upd (z.1 40) s (nI m) ∧ (∀ i, i < m → q.2.1 41 (40 * s + i) = 0) ∧ (∀ k, (k < 40 * s ∨ 40 * s + 40 ≤ k) → q.2.1 41 k = z.1 41 k) ∧ (∀ b, b ≠ 40 → b ≠ 41 → q.2.1 b = z.1 b) ∧ q.2.2 = z.2) := by
  unfold sX3_sheet_79 sX3_sheet_90 sX3_sheet_93
  rw [ex_N _ _ (show s < lenX 40 from hs)]
  dsimp only
  refine hh_up (fun j t => ∃ z', t = (nI s, nI m, nI j, z') ∧ j ≤ m ∧ z'.1 40 = upd (z.1 40) s (nI m) ∧ (∀ i, i < j → z'.1 41 (40 * s + i) = 0) ∧ (∀ k, (k < 40 * s ∨ 40 * s + 40 ≤ k) → z'.1 41 k = z.1 41 k) ∧ (∀ b, b ≠ 40 → b ≠ 41 → z'.1 b = z.1 b) ∧ z'.2 = z.2) m (by omega) ⟨(mm_ui z.1 40 s (nI m), z.2), rfl, Nat.zero_le _, ru_r z.1 40 s (nI m), fun i hi => absurd hi (by omega), fun k _ => by show mm_ui z.1 40 s (nI m) 41 k = _; rw [ru_n _ _ (show (41 : Nat) ≠ 40 by decide)], fun b hb _ => ru_n _ _ hb, rfl⟩ ?_
  rintro j t hj ⟨z', rfl, hjm, a1, a2, a3, a4, a5⟩
  have hle : nI m ≤ nI j ↔ m ≤ j := nI_leI (by omega) (by omega)
  unfold lX3_sheet_93 sX3_sheet_116
  dsimp only
  refine hh_i (fun y => hh_v ?_) (fun y => ?_)
  · obtain rfl : j = m := by have := hle.mp y; omega
    exact ⟨rfl, a1, a2, a3, a4, a5⟩
  have hj2 : j < m := Nat.lt_of_not_le fun x => y (hle.mpr x)
  rw [ix_x, ex_N _ _ (show 40 * s + j < lenX 41 from (by omega : 40 * s + j < 160))]
  refine hh_v ⟨hj2, (mm_ui z'.1 41 (40 * s + j) 0, z'.2), by rw [nI_1], hj2, by dsimp only; rw [ru_n _ _ (show (40 : Nat) ≠ 41 by decide)]; exact a1, fun i hi => ?_, fun k hk => ?_, fun b hb hb2 => (ru_n _ _ hb2).trans (a4 b hb hb2), a5⟩
  · dsimp only
    by_cases q : i = j
    · rw [q, ru_s]
    · rw [ru_i _ _ (by omega)]; exact a2 i (by omega)
  · dsimp only
    rw [ru_i _ _ (by omega)]; exact a3 k hk
theorem m_sheet {s : Nat} (hs : s < 4) (w : mm_S) : hh_c (sX4_sheet_83 (nI s) w) (fun q => q.1 = w.1 19 s ∧ (∀ i, i < 40 → q.2.1 20 (40 * s + i) = 0) ∧ (∀ k, (k < 40 * s ∨ 40 * s + 40 ≤ k) → q.2.1 20 k = w.1 20 k) ∧ ∀ b, b ≠ 20 → q.2.1 b = w.1 b) := by
  unfold sX4_sheet_83 sX4_sheet_86
  refine hh_up (fun j t => ∃ w', t = (nI s, nI j, w') ∧ (∀ i, i < j → w'.1 20 (40 * s + i) = 0) ∧ (∀ k, (k < 40 * s ∨ 40 * s + 40 ≤ k) → w'.1 20 k = w.1 20 k) ∧ ∀ b, b ≠ 20 → w'.1 b = w.1 b) 40 (by omega) ⟨w, rfl, fun i hi => absurd hi (by omega), fun _ _ => rfl, fun _ _ => rfl⟩ ?_
  rintro j t hj ⟨w', rfl, a2, a3, a4⟩
  have h40 : (40 : Int32) ≤ nI j ↔ 40 ≤ j := nI_leI (a := 40) (by decide) (by omega)
  unfold lX4_sheet_86 sX4_sheet_106
  dsimp only
  refine hh_i (fun y => hh_f (gI hs (by decide)) (hh_v ?_)) (fun y => ?_)
  · obtain rfl : j = 40 := by have := h40.mp y; omega
    exact ⟨by rw [nI_clamp (by omega), a4 19 (by decide)], a2, a3, a4⟩
  have hj2 : j < 40 := Nat.lt_of_not_le fun x => y (h40.mpr x)
  rw [ix_m]
  refine hh_f (gI (show 40 * s + j < 160 by omega) (by decide)) (hh_v ⟨hj2, (mm_ui w'.1 20 (40 * s + j) 0, w'.2), by rw [nI_1, nI_clamp (by omega)], fun i hi => ?_, fun k hk => ?_, fun b hb => (ru_n _ _ hb).trans (a4 b hb)⟩)
  · dsimp only
    by_cases q : i = j
    · rw [q, ru_s]
    · rw [ru_i _ _ (by omega)]; exact a2 i (by omega)
  · dsimp only
    rw [ru_i _ _ (by omega)]; exact a3 k hk
theorem pp_sheet {z w : mm_S} (h : Rel z w) {s m : Nat} (hs : s < 4) (hm : m ≤ 40) {bits : Int32} (hb : bits = 0 ∨ bits = 8 ∨ bits = 16 ∨ bits = 32) : PP (sX3_sheet_79 (nI s) (nI m) (mm_ui z.1 39 s bits, z.2)) (sX4_sheet_83 (nI s) (mm_ui (mm_ui w.1 18 s bits) 19 s (nI m), w.2)) := by
  obtain ⟨⟨u, z'⟩, f1, rfl, c1, c2, c3, c4, c5⟩ := x_sheet hs hm (mm_ui z.1 39 s bits, z.2)
  obtain ⟨⟨v, w'⟩, g1, e1, d2, d3, d4⟩ := m_sheet hs (mm_ui (mm_ui w.1 18 s bits) 19 s (nI m), w.2)
  dsimp only at c1 c2 c3 c4 c5 e1 d2 d3 d4
  rw [ru_s] at e1
  subst e1
  rw [f1, g1]
  have x39 : z'.1 39 = upd (z.1 39) s bits := (c4 39 (by decide) (by decide)).trans (ru_r _ _ _ _)
  have x40 : z'.1 40 = upd (z.1 40) s (nI m) := by rw [c1, ru_n _ _ (show (40 : Nat) ≠ 39 by decide)]
  have y18 : w'.1 18 = upd (w.1 18) s bits := by rw [d4 18 (by decide), ru_n _ _ (show (18 : Nat) ≠ 19 by decide), ru_r]
  have y19 : w'.1 19 = upd (w.1 19) s (nI m) := by rw [d4 19 (by decide), ru_r, ru_n _ _ (show (19 : Nat) ≠ 18 by decide)]
  refine pp_e rfl rfl (Rel_S h (fun b hb => (c4 b (by omega) (by omega)).trans (ru_n _ _ (by omega))) c5 (fun b hb => by rw [d4 b (by omega), ru_n _ _ (by omega), ru_n _ _ (by omega)]) ?_)
  intro q hq
  obtain ⟨r1, r2, n, r3, r4, r5, r6⟩ := h.2.2.2.2.1 q hq
  rw [x39, x40, y18, y19]
  by_cases e : q = s
  · subst e
    rw [up_s, up_s, up_s, up_s]
    exact ⟨rfl, hb, m, hm, rfl, rfl, fun i hi => by rw [c2 i hi, d2 i (by omega)]⟩
  · rw [up_n _ _ e, up_n _ _ e, up_n _ _ e, up_n _ _ e]
    refine ⟨r1, r2, n, r3, r4, r5, fun i hi => ?_⟩
    rw [c3 _ (by omega), d3 _ (by omega), ru_n _ _ (show (41 : Nat) ≠ 39 by decide), ru_n _ _ (show (20 : Nat) ≠ 19 by decide), ru_n _ _ (show (20 : Nat) ≠ 18 by decide)]
    exact r6 i hi
theorem pq_sheet {z w : mm_S} (h : Rel z w) (x1 x2 x3 : Int32) : PP (sX3_sheet x1 x2 x3 z) (sX4_sheet x1 x2 x3 w) := by
  unfold sX3_sheet sX3_sheet_0 sX3_sheet_4 sX4_sheet sX4_sheet_0
  refine pp_if (x_isSheet _) (m_within0 x1 (n := 3) (by decide)) (fun _ => pp_b (pp_f0 h)) (fun hs => ?_)
  obtain ⟨s, hs, rfl⟩ := hs
  have key : ∀ bits : Int32, (bits = 0 ∨ bits = 8 ∨ bits = 16 ∨ bits = 32) → PP (sX3_sheet_35 (nI s) bits x3 z) (sX4_sheet_36 (nI s) bits x3 w) := by
    intro bits hb
    unfold sX3_sheet_35 sX4_sheet_36
    refine pp_if2 Iff.rfl Iff.rfl (fun h0 => ?_) (fun _ => pp_b (pp_f6 h))
    obtain ⟨n, hn, rfl⟩ := nI_of (show ¬ x3 < 0 from fun t => Int32.lt_irrefl (Int32.lt_of_lt_of_le t h0))
    unfold sX3_sheet_46 sX4_sheet_48
    refine pp_if2 Iff.rfl Iff.rfl (fun h4 => ?_) (fun _ => pp_b (pp_f0 h))
    have hn40 : n ≤ 40 := (nI_leI (b := 40) hn (by decide)).mp h4
    have g := gI (show s < 4 from hs) (by decide)
    unfold sX3_sheet_58 sX4_sheet_61 sX4_sheet_68
    rw [if_neg g]
    rw [nI_clamp (show s < 2 ^ 31 by omega)] at *
    by_cases hz : bits = 0
    · rw [if_pos hz, if_pos hz, if_neg g, ex_N _ _ (show s < lenX 39 from hs)]
      exact pp_sheet (m := 0) h hs (by omega) hb
    · rw [if_neg hz, if_neg hz, if_neg g, ex_N _ _ (show s < lenX 39 from hs)]
      exact pp_sheet h hs hn40 hb
  refine pp_if2 Iff.rfl Iff.rfl (fun e => key _ (by simp [e])) (fun _ => ?_)
  refine pp_if2 Iff.rfl Iff.rfl (fun e => key _ (by simp [e])) (fun _ => ?_)
  refine pp_if2 Iff.rfl Iff.rfl (fun e => key _ (by simp [e])) (fun _ => ?_)
  exact pp_if2 Iff.rfl Iff.rfl (fun e => key _ (by simp [e])) (fun _ => pp_b (pp_f0 h))
theorem x_miss {z w : mm_S} (h : Rel z w) {s : Nat} (hs : s < 4) : pX3_isMissing (nI s) z = 0 ↔ ¬ w.1 18 s = 0 := by
  unfold pX3_isMissing
  rw [at_N _ (show s < lenX 39 from hs), (h.2.2.2.2.1 s hs).1]
  by_cases q : w.1 18 s = 0
  · rw [if_pos q]; exact ⟨fun t => absurd t (by decide), fun t => absurd q t⟩
  · rw [if_neg q]; exact ⟨fun _ => q, fun _ => rfl⟩
theorem pp_miss {α : Type} {z w : mm_S} (h : Rel z w) {s : Nat} (hs : s < 4) {X1 X2 M1 M2 : Option (α × mm_S)} (h1 : w.1 18 s = 0 → PP X1 M1) (h2 : ¬ w.1 18 s = 0 → PP X2 M2) : PP (if pX3_isMissing (nI s) z = 0 then X2 else X1) (if nI s < 0 ∨ 4 ≤ Int32.toNatClampNeg (nI s) then none else if w.1 18 (Int32.toNatClampNeg (nI s)) = 0 then M1 else M2) := by
  have g := gI (show s < 4 from hs) (by decide)
  rw [if_neg g, nI_clamp (by omega)]
  by_cases q : w.1 18 s = 0
  · rw [if_neg (fun t => ((x_miss h hs).mp t) q), if_pos q]; exact h1 q
  · rw [if_pos ((x_miss h hs).mpr q), if_neg q]; exact h2 q
theorem pq_write {z w : mm_S} (h : Rel z w) (x1 x2 x3 : Int32) : PP (sX3_write x1 x2 x3 z) (sX4_write x1 x2 x3 w) := by
  unfold sX3_write sX3_write_0 sX3_write_4 sX4_write sX4_write_0
  refine pp_if (x_isSheet _) (m_within0 x1 (n := 3) (by decide)) (fun _ => pp_b (pp_f0 h)) (fun hs => ?_)
  obtain ⟨s, hs, rfl⟩ := hs
  unfold sX3_write_13 sX3_write_18 sX4_write_14
  refine pp_miss h hs (fun _ => pp_b (pp_f5 h)) (fun _ => ?_)
  obtain ⟨r1, r2, n, r3, r4, r5, r6⟩ := h.2.2.2.2.1 s hs
  have g := gI (show s < 4 from hs) (by decide)
  unfold sX3_write_27 sX3_write_42 sX4_write_31
  rw [if_neg g, at_N _ (show s < lenX 40 from hs), nI_clamp (by omega), r4, r5]
  refine pp_if (ls_m x2 (by omega)) (ls_m x2 (by omega)) (fun _ => pp_b (pp_f0 h)) (fun ⟨i, hi, e⟩ => ?_)
  subst e
  have hidx : 40 * s + i < 160 := by omega
  unfold sX3_write_51 sX3_write_77 sX4_write_54 sX4_write_75
  rw [if_neg g, ix_x, ix_m, at_N _ (show s < lenX 39 from hs), ex_N _ _ (show 40 * s + i < lenX 41 from hidx), if_neg (gI hidx (by decide)), nI_clamp (show s < 2 ^ 31 by omega), nI_clamp (show 40 * s + i < 2 ^ 31 by omega), r1]
  have ec : pX4_cutTo x3 (w.1 18 s) = pX3_lowestBits x3 (w.1 18 s) := rfl
  rw [ec]
  generalize pX3_lowestBits x3 (w.1 18 s) = v
  refine pp_e rfl rfl (Rel_S h (fun b hb => ru_n _ _ (by omega)) rfl (fun b hb => ru_n _ _ (by omega)) ?_)
  intro q hq
  obtain ⟨s1, s2, m, s3, s4, s5, s6⟩ := h.2.2.2.2.1 q hq
  dsimp only
  rw [ru_n _ _ (show (39 : Nat) ≠ 41 by decide), ru_n _ _ (show (40 : Nat) ≠ 41 by decide), ru_n _ _ (show (18 : Nat) ≠ 20 by decide), ru_n _ _ (show (19 : Nat) ≠ 20 by decide)]
  refine ⟨s1, s2, m, s3, s4, s5, fun k hk => ?_⟩
  by_cases e : 40 * q + k = 40 * s + i
  · rw [e, ru_s, ru_s]
  · rw [ru_i _ _ e, ru_i _ _ e]; exact s6 k hk
theorem lgs (x y : Int64) : 0 < lg_cmp x y ↔ y < x := by
  unfold lg_cmp
  by_cases h : x > y
  · rw [if_pos h]; exact ⟨fun _ => h, fun _ => by decide⟩
  · rw [if_neg h]
    by_cases h2 : x = y
    · rw [if_pos h2]; exact ⟨fun t => absurd t (by decide), fun t => absurd t h⟩
    · rw [if_neg h2]; exact ⟨fun t => absurd t (by decide), fun t => absurd t h⟩
theorem lgN {a m n : Nat} (ha : a < 2 ^ 31) (hm : m < 2 ^ 31) (hn : n < 2 ^ 31) : 0 < lg_cmp (Int32.toInt64 (nI a) + Int32.toInt64 (nI m)) (Int32.toInt64 (nI n)) ↔ n < a + m := by
  rw [lgs, nI_l ha, nI_l hm, nI_l hn, lN_add]
  exact pk_lLT (by omega) (by omega)
theorem le0 (c : Int32) : c ≤ 0 ↔ ¬ 0 < c := ⟨fun h t => Int32.lt_irrefl (Int32.lt_of_lt_of_le t h), fun h => Int32.not_lt.mp h⟩
theorem x_hasN (x1 x2 x3 : Int32) (z : mm_S) : pX3_hasNumbers x1 x2 x3 z = 0 ↔ ¬ (¬ x2 < 0 ∧ ¬ x3 < 0 ∧ ¬ 0 < lg_cmp (Int32.toInt64 x2 + Int32.toInt64 x3) (Int32.toInt64 (pX3_at 40 x1 z))) := by
  unfold pX3_hasNumbers
  by_cases a : x2 < 0
  · rw [if_pos a]; exact ⟨fun _ t => t.1 a, fun _ => rfl⟩
  · rw [if_neg a]
    by_cases b : x3 < 0
    · rw [if_pos b]; exact ⟨fun _ t => t.2.1 b, fun _ => rfl⟩
    · rw [if_neg b]
      by_cases c : 0 < lg_cmp (Int32.toInt64 x2 + Int32.toInt64 x3) (Int32.toInt64 (pX3_at 40 x1 z))
      · rw [if_pos c]; exact ⟨fun _ t => t.2.2 c, fun _ => rfl⟩
      · rw [if_neg c]; exact ⟨fun t => absurd t (by decide), fun t => absurd ⟨a, b, c⟩ t⟩
/-- the numbers go by a row of their own -/
theorem m_copyGo {s a t b m : Nat} (hs : 40 * s + a + m ≤ 160) (ht : 40 * t + b + m ≤ 160) (hm : m ≤ 40) (w : mm_S) : hh_c (sX4_copy_126 (nI s) (nI a) (nI t) (nI b) (nI m) w) (fun q => q.1 = nI m ∧ q.2.1 20 = va_cpy (w.1 20) (w.1 20) (40 * s + a) (40 * t + b) m ∧ ∀ k, k ≠ 20 → k ≠ 21 → q.2.1 k = w.1 k) := by
  unfold sX4_copy_126 sX4_copy_129
  refine hh_up (fun j u => ∃ w', u = (nI s, nI a, nI t, nI b, nI m, nI j, w') ∧ j ≤ m ∧ (∀ i, i < j → w'.1 21 i = w.1 20 (40 * s + a + i)) ∧ ∀ k, k ≠ 21 → w'.1 k = w.1 k) m (by omega) ⟨w, rfl, Nat.zero_le _, fun i hi => absurd hi (by omega), fun _ _ => rfl⟩ ?_
  rintro j u hj ⟨w', rfl, hjm, a1, a2⟩
  have hle : nI m ≤ nI j ↔ m ≤ j := nI_leI (by omega) (by omega)
  unfold lX4_copy_129 sX4_copy_157
  dsimp only
  refine hh_i (fun y => ?_) (fun y => ?_)
  · obtain rfl : j = m := by have := hle.mp y; omega
    refine hh_map (P := fun q : Int32 × mm_S => q.1 = nI j ∧ q.2.1 20 = va_cpy (w.1 20) (w.1 20) (40 * s + a) (40 * t + b) j ∧ ∀ k, k ≠ 20 → k ≠ 21 → q.2.1 k = w.1 k) ?_ (fun q hq => hq)
    unfold sX4_copy_166
    refine hh_up (fun i u => ∃ w2, u = (nI t, nI b, nI j, nI i, w2) ∧ i ≤ j ∧ w2.1 20 = va_cpy (w.1 20) (w.1 20) (40 * s + a) (40 * t + b) i ∧ ∀ k, k ≠ 20 → w2.1 k = w'.1 k) j (by omega) ⟨w', rfl, Nat.zero_le _, ?_, fun _ _ => rfl⟩ ?_
    · rw [a2 20 (by decide)]
      funext k
      unfold va_cpy
      rw [if_neg (by omega)]
    clear y
    rintro i u hi ⟨w2, rfl, him, b1, b2⟩
    have hle2 : nI j ≤ nI i ↔ j ≤ i := nI_leI (by omega) (by omega)
    unfold lX4_copy_166 sX4_copy_195
    dsimp only
    refine hh_i (fun y => hh_v ?_) (fun y => ?_)
    · obtain rfl : i = j := by have := hle2.mp y; omega
      exact ⟨rfl, b1, fun k k1 k2 => (b2 k k1).trans (a2 k k2)⟩
    have hi2 : i < j := Nat.lt_of_not_le fun x => y (hle2.mpr x)
    rw [ix_m, nI_add]
    refine hh_f (gI (show i < 40 by omega) (by decide)) (hh_f (gI (show 40 * t + b + i < 160 by omega) (by decide)) (hh_v ⟨hi2, (mm_ui w2.1 20 (40 * t + b + i) (w2.1 21 i), w2.2), by rw [nI_1, nI_clamp (show 40 * t + b + i < 2 ^ 31 by omega), nI_clamp (show i < 2 ^ 31 by omega)], hi2, ?_, fun k hk => (ru_n _ _ hk).trans (b2 k hk)⟩))
    dsimp only
    rw [ru_r, b1, b2 21 (by decide), a1 i hi2]
    funext k
    unfold upd va_cpy
    by_cases e : k = 40 * t + b + i
    · subst e
      rw [if_pos rfl, if_pos (by omega), show 40 * t + b + i - (40 * t + b) = i by omega]
    · rw [if_neg e]
      by_cases e2 : 40 * t + b ≤ k ∧ k < 40 * t + b + i
      · rw [if_pos e2, if_pos (by omega)]
      · rw [if_neg e2, if_neg (by omega)]
  have hj2 : j < m := Nat.lt_of_not_le fun x => y (hle.mpr x)
  rw [ix_m, nI_add]
  refine hh_f (gI (show 40 * s + a + j < 160 by omega) (by decide)) (hh_f (gI (show j < 40 by omega) (by decide)) (hh_v ⟨hj2, (mm_ui w'.1 21 j (w'.1 20 (40 * s + a + j)), w'.2), by rw [nI_1, nI_clamp (show 40 * s + a + j < 2 ^ 31 by omega), nI_clamp (show j < 2 ^ 31 by omega)], hj2, fun i hi => ?_, fun k hk => (ru_n _ _ hk).trans (a2 k hk)⟩))
  dsimp only
  by_cases e : i = j
  · rw [e, ru_s, a2 20 (by decide)]
  · rw [ru_i _ _ e]; exact a1 i (by omega)
theorem mv_lies {x m : Nat} (h : x + m ≤ 160) : ¬ pX3_lies (nI x) 0 (Int32.ofNat (lenX 41) - nI m) = 0 := by
  have e : Int32.ofNat (lenX 41) - nI m = nI (160 - m) := nI_dif (a := 160) (b := m) (by omega)
  rw [e]
  unfold pX3_lies
  rw [if_neg (nI_pos (show x < 2 ^ 31 by omega)), if_neg (nI_nlt (show x ≤ 160 - m by omega) (by omega))]
  decide
theorem mv_in {x y m : Nat} (hx : x + m ≤ 160) (hy : y + m ≤ 160) {z : mm_S} : tX3_moveNumbers 41 (nI x) (nI y) (nI m) z = (mm_cp z.1 41 41 x y m, z.2) := by
  unfold tX3_moveNumbers
  rw [if_neg (nI_pos (show m < 2 ^ 31 by omega)), if_neg (mv_lies hx), if_neg (mv_lies hy), nI_clamp (show x < 2 ^ 31 by omega), nI_clamp (show y < 2 ^ 31 by omega), nI_clamp (show m < 2 ^ 31 by omega)]
theorem pq_copy {z w : mm_S} (h : Rel z w) (x1 x2 x3 x4 x5 : Int32) : PP (sX3_copy x1 x2 x3 x4 x5 z) (sX4_copy x1 x2 x3 x4 x5 w) := by
  unfold sX3_copy sX3_copy_0 sX3_copy_4 sX4_copy sX4_copy_0
  refine pp_if (x_isSheet _) (m_within0 x1 (n := 3) (by decide)) (fun _ => pp_b (pp_f0 h)) (fun hs => ?_)
  unfold sX3_copy_11
  refine pp_if (x_isSheet _) (m_within0 x3 (n := 3) (by decide)) (fun _ => pp_b (pp_f0 h)) (fun ht => ?_)
  obtain ⟨s, hs, rfl⟩ := hs
  obtain ⟨t, ht, rfl⟩ := ht
  unfold sX3_copy_20 sX3_copy_25 sX4_copy_21
  refine pp_miss h hs (fun _ => pp_b (pp_f5 h)) (fun _ => ?_)
  unfold sX3_copy_33
  refine pp_miss h ht (fun _ => pp_b (pp_f5 h)) (fun _ => ?_)
  obtain ⟨r1, r2, n, r3, r4, r5, r6⟩ := h.2.2.2.2.1 s hs
  obtain ⟨s1, s2, n2, s3, s4, s5, s6⟩ := h.2.2.2.2.1 t ht
  have g := gI (show s < 4 from hs) (by decide)
  have g2 := gI (show t < 4 from ht) (by decide)
  unfold sX3_copy_42 sX4_copy_47
  rw [if_neg g, if_neg g2, at_N _ (show s < lenX 39 from hs), at_N _ (show t < lenX 39 from ht), r1, s1, nI_clamp (show s < 2 ^ 31 by omega), nI_clamp (show t < 2 ^ 31 by omega)]
  refine pp_if2 Iff.rfl Iff.rfl (fun _ => ?_) (fun _ => pp_b (pp_f2 h))
  have hX1 := x_hasN (nI s) x2 x5 z
  have hX2 := x_hasN (nI t) x4 x5 z
  rw [at_N _ (show s < lenX 40 from hs), r4] at hX1
  rw [at_N _ (show t < lenX 40 from ht), s4] at hX2
  by_cases good : (¬ x2 < 0 ∧ ¬ x5 < 0 ∧ ¬ 0 < lg_cmp (Int32.toInt64 x2 + Int32.toInt64 x5) (Int32.toInt64 (nI n))) ∧ (¬ x4 < 0 ∧ ¬ x5 < 0 ∧ ¬ 0 < lg_cmp (Int32.toInt64 x4 + Int32.toInt64 x5) (Int32.toInt64 (nI n2)))
  · obtain ⟨⟨p1, p3, p4⟩, p2, -, p5⟩ := good
    unfold sX3_copy_67 sX3_copy_75 sX3_copy_87 sX4_copy_70
    rw [if_neg (fun e => hX1.mp e ⟨p1, p3, p4⟩), if_neg (fun e => hX2.mp e ⟨p2, p3, p5⟩), if_neg p1, if_neg p2, if_neg p3, if_neg g, nI_clamp (show s < 2 ^ 31 by omega), r5, if_neg p4, if_neg g2, nI_clamp (show t < 2 ^ 31 by omega), s5, if_pos ((le0 _).mpr p5)]
    obtain ⟨a, ha, rfl⟩ := nI_of p1
    obtain ⟨b, hb, rfl⟩ := nI_of p2
    obtain ⟨m, hm, rfl⟩ := nI_of p3
    have q4 : a + m ≤ n := Nat.le_of_not_lt fun x => p4 ((lgN ha hm (by omega)).mpr x)
    have q5 : b + m ≤ n2 := Nat.le_of_not_lt fun x => p5 ((lgN hb hm (by omega)).mpr x)
    obtain ⟨⟨v, w'⟩, f1, rfl, f2, f3⟩ := m_copyGo (s := s) (a := a) (t := t) (b := b) (m := m) (by omega) (by omega) (by omega) w
    dsimp only at f2 f3
    unfold sX3_copy_96 sX3_copy_118
    rw [ix_x, ix_x, f1, mv_in (show 40 * s + a + m ≤ 160 by omega) (show 40 * t + b + m ≤ 160 by omega)]
    have z41 : mm_cp z.1 41 41 (40 * s + a) (40 * t + b) m 41 = va_cpy (z.1 41) (z.1 41) (40 * s + a) (40 * t + b) m := if_pos rfl
    have zn : ∀ q, q ≠ 41 → mm_cp z.1 41 41 (40 * s + a) (40 * t + b) m q = z.1 q := fun q hq => if_neg hq
    refine pp_e rfl rfl (Rel_S h (fun k hk => zn k (by omega)) rfl (fun k hk => f3 k (by omega) (by omega)) ?_)
    intro q hq
    obtain ⟨u1, u2, nq, u3, u4, u5, u6⟩ := h.2.2.2.2.1 q hq
    dsimp only
    rw [zn 39 (by decide), zn 40 (by decide), z41, f2, f3 18 (by decide) (by decide), f3 19 (by decide) (by decide)]
    refine ⟨u1, u2, nq, u3, u4, u5, fun i hi => ?_⟩
    unfold va_cpy
    by_cases e : 40 * t + b ≤ 40 * q + i ∧ 40 * q + i < 40 * t + b + m
    · rw [if_pos e, if_pos e, show 40 * s + a + (40 * q + i - (40 * t + b)) = 40 * s + (a + (40 * q + i - (40 * t + b))) by omega]
      exact r6 _ (by omega)
    · rw [if_neg e, if_neg e]; exact u6 i hi
  · have hF : sX3_copy_67 (nI s) x2 (nI t) x4 x5 z = (sX3_finding 0 z).bind fun q => some (q.1, q.2) := by
      unfold sX3_copy_67 sX3_copy_75 sX3_copy_87
      by_cases c1 : pX3_hasNumbers (nI s) x2 x5 z = 0
      · rw [if_pos c1]
      · rw [if_neg c1, if_pos]
        refine hX2.mpr fun c2 => good ⟨?_, c2⟩
        exact Classical.byContradiction fun x => c1 (hX1.mpr x)
    rw [hF]
    unfold sX4_copy_70
    by_cases p1 : x2 < 0
    · rw [if_pos p1]; exact pp_b (pp_f0 h)
    rw [if_neg p1]
    by_cases p2 : x4 < 0
    · rw [if_pos p2]; exact pp_b (pp_f0 h)
    rw [if_neg p2]
    by_cases p3 : x5 < 0
    · rw [if_pos p3]; exact pp_b (pp_f0 h)
    rw [if_neg p3, if_neg g, nI_clamp (show s < 2 ^ 31 by omega), r5]
    by_cases p4 : 0 < lg_cmp (Int32.toInt64 x2 + Int32.toInt64 x5) (Int32.toInt64 (nI n))
    · rw [if_pos p4]; exact pp_b (pp_f0 h)
    rw [if_neg p4, if_neg g2, nI_clamp (show t < 2 ^ 31 by omega), s5, if_neg]
    · exact pp_b (pp_f0 h)
    · intro p5
      exact good ⟨⟨p1, p3, p4⟩, p2, p3, (le0 _).mp p5⟩
/-- where it ends -/
def isE (P : Nat → Prop) (E L : Nat) : Prop := L ≤ E ∧ (∀ i, i < L → P i) ∧ (L < E → ¬ P L)
theorem isE_1 {P : Nat → Prop} {E L M : Nat} (h : isE P E L) (h2 : isE P E M) : L = M := by
  refine Nat.le_antisymm (Nat.le_of_not_lt fun t => ?_) (Nat.le_of_not_lt fun t => ?_)
  · exact h2.2.2 (by have := h.1; omega) (h.2.1 M t)
  · exact h.2.2 (by have := h2.1; omega) (h2.2.1 L t)
theorem min_x {a b : Nat} (ha : a < 2 ^ 31) (hb : b < 2 ^ 31) : mm_min (nI a) (nI b) = nI (min a b) := by
  show (if nI b < nI a then nI b else nI a) = _
  by_cases q : b < a
  · rw [if_pos (nI_lt q ha), Nat.min_eq_right (by omega)]
  · rw [if_neg (nI_nlt (by omega) hb), Nat.min_eq_left (by omega)]
def ldR (r : Nat → Int32) (f : Nat → Int32) : Nat → Nat → Int32
  | 0 => r
  | j + 1 => upd (ldR r f j) (15 + j) (f j)
theorem ldR_ok {r f : Nat → Int32} (h : okR r) : ∀ j, j ≤ 36 → (∀ i, i < j → isN (f i) 5) → okR (ldR r f j)
  | 0, _, _ => h
  | j + 1, hj, hf => by
    obtain ⟨v, hv, e⟩ := hf j (by omega)
    show okR (upd (ldR r f j) (15 + j) (f j))
    rw [e]
    exact okR_st (ldR_ok h j (by omega) fun i hi => hf i (by omega)) (by omega) hv
theorem pq_load {z w : mm_S} (h : Rel z w) (x1 : Int32) : PP (sX3_load x1 z) (sX4_load x1 w) := by
  unfold sX3_load sX3_load_0 sX3_load_4 sX4_load sX4_load_0
  refine pp_if (x_isSheet _) (m_within0 x1 (n := 3) (by decide)) (fun _ => pp_b (pp_f0 h)) (fun hs => ?_)
  obtain ⟨s, hs, rfl⟩ := hs
  unfold sX3_load_13 sX3_load_18 sX4_load_14
  refine pp_miss h hs (fun _ => pp_b (pp_f5 h)) (fun _ => ?_)
  obtain ⟨r1, r2, n, r3, r4, r5, r6⟩ := h.2.2.2.2.1 s hs
  have g := gI (show s < 4 from hs) (by decide)
  have hmin : min n 36 ≤ 36 ∧ min n 36 ≤ n := by omega
  have hx : hh_c (sX3_load_27 (nI s) z) (fun q => ∃ L, isE (fun i => isN (w.1 20 (40 * s + i)) 5) (min n 36) L ∧ q.1 = nI L ∧ RM 1 q.2 (ldR (w.1 1) (fun i => w.1 20 (40 * s + i)) L) ∧ KX1 z q.2) := by
    unfold sX3_load_27 sX3_load_41 sX3_load_43
    rw [at_N _ (show s < lenX 40 from hs), r4, show (36 : Int32) = nI 36 from rfl, min_x (by omega) (by decide)]
    refine hh_up (fun j t => ∃ z', t = (nI s, nI (min n 36), nI j, z') ∧ j ≤ min n 36 ∧ (∀ i, i < j → isN (w.1 20 (40 * s + i)) 5) ∧ RM 1 z' (ldR (w.1 1) (fun i => w.1 20 (40 * s + i)) j) ∧ z'.1 = z.1 ∧ ∀ b, b ≠ 3 → z'.2 b = z.2 b) (min n 36) (by omega) ⟨z, rfl, Nat.zero_le _, fun i hi => absurd hi (by omega), h.2.1, rfl, fun _ _ => rfl⟩ ?_
    rintro j t hj ⟨z', rfl, hjn, a1, a2, a3, a4⟩
    have hk : KX1 z z' := ⟨fun b _ => by rw [a3], fun b hb => a4 b (by omega)⟩
    have hle : nI (min n 36) ≤ nI j ↔ min n 36 ≤ j := nI_leI (by omega) (by omega)
    unfold lX3_load_43 sX3_load_56 sX3_load_61 sX3_load_79
    dsimp only
    refine hh_i (fun y => hh_v ?_) (fun y => ?_)
    · obtain rfl : j = min n 36 := by have := hle.mp y; omega
      exact ⟨_, ⟨Nat.le_refl _, a1, fun t => absurd t (by omega)⟩, rfl, a2, hk⟩
    have hj2 : j < min n 36 := Nat.lt_of_not_le fun x => y (hle.mpr x)
    have e1 : pX3_numberOf (nI s) (nI j) z' = w.1 20 (40 * s + j) := by
      unfold pX3_numberOf
      rw [ix_x, at_N _ (show 40 * s + j < lenX 41 from (by omega : 40 * s + j < 160)), a3]
      exact r6 j (by omega)
    rw [e1]
    by_cases y2 : isN (w.1 20 (40 * s + j)) 5
    · refine hh_f (fun t => (x_isStuff _).mp t y2) ?_
      obtain ⟨v, hv, e⟩ := y2
      have hsb : sb 2 z' (stf (ldR (w.1 1) (fun i => w.1 20 (40 * s + i)) j)) := a2.2.2.2.2.2.2.2.2.2
      obtain ⟨p1, p2, p3⟩ := x_put hsb (show j < 36 by omega) hv
      rw [e]
      refine hh_v ⟨hj2, _, by rw [nI_1], hj2, fun i hi => ?_, ?_, ?_, ?_⟩
      · by_cases x : i = j
        · subst x; exact ⟨v, hv, e⟩
        · exact a1 i (by omega)
      · show RM 1 _ (upd (ldR (w.1 1) (fun i => w.1 20 (40 * s + i)) j) (15 + j) (w.1 20 (40 * s + j)))
        rw [e]
        exact RM_st a2 (show j < 36 by omega) (fun b _ => by rw [p1]) (by rw [stf_u (by omega)]; exact p2)
      · rw [p1, a3]
      · intro b hb; rw [p3 b hb, a4 b hb]
    · exact hh_t ((x_isStuff _).mpr y2) (hh_v ⟨j, ⟨by omega, a1, fun _ => y2⟩, rfl, a2, hk⟩)
  have hm : hh_c (sX4_load_31 (nI s) w) (fun q => ∃ L, isE (fun i => isN (w.1 20 (40 * s + i)) 5) (min n 36) L ∧ q.1 = nI L ∧ q.2.1 1 = ldR (w.1 1) (fun i => w.1 20 (40 * s + i)) L ∧ ∀ b, b ≠ 1 → q.2.1 b = w.1 b) := by
    unfold sX4_load_31 sX4_load_33
    refine hh_up (fun j t => ∃ w', t = (nI s, nI j, w') ∧ j ≤ min n 36 ∧ (∀ i, i < j → isN (w.1 20 (40 * s + i)) 5) ∧ w'.1 1 = ldR (w.1 1) (fun i => w.1 20 (40 * s + i)) j ∧ ∀ b, b ≠ 1 → w'.1 b = w.1 b) (min n 36) (by omega) ⟨w, rfl, Nat.zero_le _, fun i hi => absurd hi (by omega), rfl, fun _ _ => rfl⟩ ?_
    rintro j t hj ⟨w', rfl, hjn, a1, a2, a3⟩
    have hle : nI n ≤ nI j ↔ n ≤ j := nI_leI (by omega) (by omega)
    have hc : pX4_isCell (nI j) = 0 ↔ ¬ isN (nI j) 36 := m_isCell _
    have hc2 : isN (nI j) 36 ↔ j < 36 := ⟨fun ⟨k, hk, e⟩ => by have := (nI_eq (by omega) (by omega)).mp e; omega, fun t => ⟨j, t, rfl⟩⟩
    unfold lX4_load_33 sX4_load_87
    dsimp only
    refine hh_f g ?_
    rw [nI_clamp (show s < 2 ^ 31 by omega), a3 19 (by decide), r5]
    refine hh_i (fun y => hh_v ?_) (fun y => hh_i (fun y2 => hh_v ?_) (fun y2 => ?_))
    · have := hle.mp y
      exact ⟨j, ⟨hjn, a1, fun t => absurd t (by omega)⟩, rfl, a2, a3⟩
    · have : ¬ j < 36 := fun t => hc.mp y2 (hc2.mpr t)
      exact ⟨j, ⟨hjn, a1, fun t => absurd t (by omega)⟩, rfl, a2, a3⟩
    have hjn2 : j < n := Nat.lt_of_not_le fun x => y (hle.mpr x)
    have hj36 : j < 36 := Classical.byContradiction fun x => y2 (hc.mpr fun t => x (hc2.mp t))
    have hidx : 40 * s + j < 160 := by omega
    rw [ix_m]
    refine hh_f (gI hidx (by decide)) ?_
    rw [nI_clamp (show 40 * s + j < 2 ^ 31 by omega), a3 20 (by decide)]
    have gg := gI hidx (by decide)
    rw [nI_clamp (show 40 * s + j < 2 ^ 31 by omega)] at gg
    have t0 : (15 : Int32) + nI j = nI (15 + j) := nI_add 15 _
    by_cases y3 : isN (w.1 20 (40 * s + j)) 5
    · refine hh_f (fun t => (m_isStuff _).mp t y3) (hh_f gg ?_)
      rw [t0]
      refine hh_f (gI (show 15 + j < 97 by omega) (by decide)) ?_
      rw [nI_clamp (show 15 + j < 2 ^ 31 by omega)]
      refine hh_v ⟨by omega, (mm_ui w'.1 1 (15 + j) (w.1 20 (40 * s + j)), w'.2), by rw [nI_1], by omega, fun i hi => ?_, ?_, fun b hb => (ru_n _ _ hb).trans (a3 b hb)⟩
      · by_cases x : i = j
        · subst x; exact y3
        · exact a1 i (by omega)
      · dsimp only
        rw [ru_r, a2]; rfl
    · exact hh_t ((m_isStuff _).mpr y3) (hh_v ⟨j, ⟨hjn, a1, fun _ => y3⟩, rfl, a2, a3⟩)
  obtain ⟨⟨u, z'⟩, f1, L, hL, rfl, c1, c2⟩ := hx
  obtain ⟨⟨v, w'⟩, g1, L2, hL2, rfl, d1, d2⟩ := hm
  dsimp only at c1 c2 d1 d2
  obtain rfl := isE_1 hL hL2
  rw [f1, g1]
  refine pp_e rfl rfl (Rel_M h c2 (KM1_1 d2) ?_ (by rw [d1]; exact c1))
  rw [d1]
  exact ldR_ok h.1 L (by have := hL.1; omega) hL.2.1
theorem pq_judge {z w : mm_S} (h : Rel z w) (x1 x2 : Int32) : PP (sX3_judge x1 x2 z) (sX4_judge x1 x2 w) := by
  obtain ⟨-, -, e3⟩ := r_nC h
  unfold sX3_judge sX3_judge_0 sX3_judge_4 sX4_judge sX4_judge_0
  refine pp_if (x_isSheet _) (m_within0 x1 (n := 3) (by decide)) (fun _ => pp_b (pp_f0 h)) (fun hs => ?_)
  obtain ⟨s, hs, rfl⟩ := hs
  unfold sX3_judge_13 sX3_judge_18 sX4_judge_14
  refine pp_miss h hs (fun _ => pp_b (pp_f5 h)) (fun _ => ?_)
  unfold sX3_judge_27 sX3_judge_32 sX4_judge_31
  refine pp_if (x_isCrew h _) (m_isCrew h _) (fun _ => pp_b (pp_f0 h)) (fun hk => ?_)
  obtain ⟨k, hk, rfl⟩ := hk
  have hk6 : k < 6 := by omega
  obtain ⟨r1, r2, n, r3, r4, r5, r6⟩ := h.2.2.2.2.1 s hs
  have g := gI (show s < 4 from hs) (by decide)
  have hx : hh_c (sX3_judge_41 (nI s) (nI k) z) (fun q => (∃ L, isE (fun i => w.1 20 (40 * s + i) = tI (hrd (w.1 1) k i)) (min n 36) L ∧ q.1 = if L = min n 36 then 0 else nI (1 + L)) ∧ KX z q.2) := by
    unfold sX3_judge_41
    refine hh_bd (x_fillHeard (x := 43) (Or.inl rfl) h.2.1 h.1 hk6 (Or.inl rfl)) (fun z1 h1 => ?_)
    obtain ⟨a1, a2⟩ := h1
    have hk1 : KX z z1 := KX_T (Or.inl rfl) (Or.inl rfl) a2
    unfold sX3_judge_53 sX3_judge_67 sX3_judge_70
    rw [at_N _ (show s < lenX 40 from hs), hk1.1 40 (by omega), r4, show (36 : Int32) = nI 36 from rfl, min_x (by omega) (by decide)]
    refine hh_up (fun j t => t = (nI s, nI (min n 36), nI j, z1) ∧ j ≤ min n 36 ∧ ∀ i, i < j → w.1 20 (40 * s + i) = tI (hrd (w.1 1) k i)) (min n 36) (by omega) ⟨rfl, Nat.zero_le _, fun i hi => absurd hi (by omega)⟩ ?_
    rintro j t hj ⟨rfl, hjn, b1⟩
    have hle : nI (min n 36) ≤ nI j ↔ min n 36 ≤ j := nI_leI (by omega) (by omega)
    unfold lX3_judge_70
    dsimp only
    refine hh_i (fun y => hh_v ?_) (fun y => ?_)
    · obtain rfl : j = min n 36 := by have := hle.mp y; omega
      exact ⟨⟨_, ⟨Nat.le_refl _, b1, fun t => absurd t (by omega)⟩, by rw [if_pos rfl]⟩, hk1⟩
    have hj2 : j < min n 36 := Nat.lt_of_not_le fun x => y (hle.mpr x)
    have e1 : pX3_numberOf (nI s) (nI j) z1 = w.1 20 (40 * s + j) := by
      unfold pX3_numberOf
      rw [ix_x, at_N _ (show 40 * s + j < lenX 41 from (by omega : 40 * s + j < 160)), hk1.1 41 (by omega)]
      exact r6 j (by omega)
    rw [e1, at_N _ (show j < lenX 43 from (by omega : j < 36)), a1 j (by omega)]
    refine hh_i (fun y2 => hh_v ⟨hj2, by rw [nI_1], hj2, fun i hi => ?_⟩) (fun y2 => hh_v ⟨⟨j, ⟨by omega, b1, fun _ => y2⟩, ?_⟩, hk1⟩)
    · by_cases x : i = j
      · subst x; exact y2
      · exact b1 i (by omega)
    · rw [if_neg (by omega)]
      exact nI_add 1 j
  have hm : hh_c (sX4_judge_46 (nI s) (nI k) w) (fun q => (∃ L, isE (fun i => w.1 20 (40 * s + i) = tI (hrd (w.1 1) k i)) (min n 36) L ∧ q.1 = if L = min n 36 then 0 else nI (1 + L)) ∧ KM w q.2) := by
    unfold sX4_judge_46
    refine hh_bd (m_findHeard (w := w) rfl h.1 hk6 (Or.inl rfl)) (fun w1 h1 => ?_)
    obtain ⟨a1, a2⟩ := h1
    have hk1 : KM w w1 := KM_1 (k := 7) (by decide) a2
    unfold sX4_judge_55 sX4_judge_70
    refine hh_f g ?_
    rw [nI_clamp (show s < 2 ^ 31 by omega), a2 19 (by decide), r5, show (36 : Int32) = nI 36 from rfl, min_x (by decide) (by omega), show min 36 n = min n 36 by omega]
    refine hh_up (fun j t => t = (nI s, nI (min n 36), nI j, w1) ∧ j ≤ min n 36 ∧ ∀ i, i < j → w.1 20 (40 * s + i) = tI (hrd (w.1 1) k i)) (min n 36) (by omega) ⟨rfl, Nat.zero_le _, fun i hi => absurd hi (by omega)⟩ ?_
    rintro j t hj ⟨rfl, hjn, b1⟩
    have hle : nI (min n 36) ≤ nI j ↔ min n 36 ≤ j := nI_leI (by omega) (by omega)
    have heq : nI j = nI (min n 36) ↔ j = min n 36 := nI_eq (by omega) (by omega)
    unfold lX4_judge_70
    dsimp only
    refine hh_i (fun y => ?_) (fun y => ?_)
    · have e : j = min n 36 := by have := hle.mp y; omega
      refine hh_t (heq.mpr e) (hh_v ⟨⟨j, ⟨by omega, b1, fun t => absurd t (by omega)⟩, by rw [if_pos e]⟩, hk1⟩)
    have hj2 : j < min n 36 := Nat.lt_of_not_le fun x => y (hle.mpr x)
    have hidx : 40 * s + j < 160 := by omega
    have hle2 := hrd_le _ h.1 hk6 j
    have h1e4 : (10000 : Int32) ≤ nI (hrd (w.1 1) k j) ↔ 10000 ≤ hrd (w.1 1) k j := nI_leI (a := 10000) (by decide) (by omega)
    have gj := gI (show j < 36 by omega) (by decide)
    rw [ix_m]
    refine hh_f (gI hidx (by decide)) (hh_f gj ?_)
    have nx : (w.1 20 (40 * s + j) = tI (hrd (w.1 1) k j)) → mm_mt (fun s' : Int32 × Int32 × Int32 × mm_S => j < min n 36 ∧ s' = (nI s, nI (min n 36), nI (j + 1), w1) ∧ j + 1 ≤ min n 36 ∧ ∀ i, i < j + 1 → w.1 20 (40 * s + i) = tI (hrd (w.1 1) k i)) (fun q : Int32 × mm_S => (∃ L, isE (fun i => w.1 20 (40 * s + i) = tI (hrd (w.1 1) k i)) (min n 36) L ∧ q.1 = if L = min n 36 then 0 else nI (1 + L)) ∧ KM w q.2) (Sum.inl (nI s, nI (min n 36), nI j + 1, w1)) := fun y2 => ⟨hj2, by rw [nI_1], hj2, fun i hi => by
      by_cases x : i = j
      · subst x; exact y2
      · exact b1 i (by omega)⟩
    have fin : ¬ (w.1 20 (40 * s + j) = tI (hrd (w.1 1) k j)) → hh_c (if nI j = nI (min n 36) then some (.inr (0, w1)) else some (.inr ((1 + nI j), w1))) (mm_mt (fun s' : Int32 × Int32 × Int32 × mm_S => j < min n 36 ∧ s' = (nI s, nI (min n 36), nI (j + 1), w1) ∧ j + 1 ≤ min n 36 ∧ ∀ i, i < j + 1 → w.1 20 (40 * s + i) = tI (hrd (w.1 1) k i)) (fun q : Int32 × mm_S => (∃ L, isE (fun i => w.1 20 (40 * s + i) = tI (hrd (w.1 1) k i)) (min n 36) L ∧ q.1 = if L = min n 36 then 0 else nI (1 + L)) ∧ KM w q.2)) := fun y2 => hh_f (fun t => by have := heq.mp t; omega) (hh_v ⟨⟨j, ⟨by omega, b1, fun _ => y2⟩, by rw [if_neg (by omega)]; exact nI_add 1 j⟩, hk1⟩)
    rw [nI_clamp (show 40 * s + j < 2 ^ 31 by omega), nI_clamp (show j < 2 ^ 31 by omega), a1 j (by omega), a2 20 (by decide)]
    rw [nI_clamp (show j < 2 ^ 31 by omega)] at gj
    refine hh_i (fun y2 => ?_) (fun y2 => hh_f gj ?_)
    · have hd : tI (hrd (w.1 1) k j) = -1 := tI_2 (by have := h1e4.mp y2; omega)
      rw [hd] at nx fin
      exact hh_i (fun y3 => hh_v (nx y3)) (fun y3 => fin y3)
    · have hd : tI (hrd (w.1 1) k j) = nI (hrd (w.1 1) k j) := tI_1 (Nat.lt_of_not_le fun x => y2 (h1e4.mpr x))
      rw [hd] at nx fin
      exact hh_i (fun y3 => hh_v (nx y3)) (fun y3 => fin y3)
  obtain ⟨⟨u, z'⟩, f1, ⟨L, hL, e1⟩, c1⟩ := hx
  obtain ⟨⟨v, w'⟩, g1, ⟨L2, hL2, e2⟩, d1⟩ := hm
  dsimp only at e1 e2 c1 d1
  obtain rfl := isE_1 hL hL2
  rw [f1, g1, e1, e2]
  exact pp_e rfl rfl (Rel_K h c1 d1)
