/-! ===== spots, counts ===== -/
section SP
variable {r : Nat → Int32}
theorem okR_sp (h : okR r) {i : Nat} (hi : i < 10) {v : Int32} (hv : v = -1 ∨ isN v 6) : okR (upd r (5 + i) v) := by
  obtain ⟨a1, a2, a3, a4, a5, a6, a7, a8, a9⟩ := h
  refine ⟨by rw [up_n _ _ (by omega)]; exact a1, by rw [up_n _ _ (by omega)]; exact a2, by rw [up_n _ _ (by omega)]; exact a3, by rw [up_n _ _ (by omega)]; exact a4, fun q hq => ?_, fun q hq => ?_, fun k hk => ?_, fun i hi => ?_, fun i hi => ?_⟩
  · by_cases e : q = i
    · subst e; rw [up_s]; exact hv
    · rw [up_n _ _ (by omega)]; exact a5 q hq
  · rw [up_n _ _ (by omega)]; exact a6 q hq
  · rw [up_n _ _ (by omega), up_n _ _ (by omega), up_n _ _ (by omega)]; exact a7 k hk
  · rw [up_n _ _ (by omega)]; exact a8 i hi
  · rw [up_n _ _ (by omega), up_n _ _ (by omega), up_n _ _ (by omega)]; exact a9 i hi
theorem RM_sp {o : Nat} {z : mm_S} (h : RM o z r) {i : Nat} (hi : i < 10) (v : Int32) : RM o (mm_ui z.1 (o + 11) i v, z.2) (upd r (5 + i) v) := by
  obtain ⟨a1, a2, a3, a4, a5, a6, a7, a8, a9, a10⟩ := h
  have nn : ∀ b, b ≠ o + 11 → mm_ui z.1 (o + 11) i v b = z.1 b := fun b hb => ru_n _ _ hb
  unfold RM
  dsimp only
  rw [nn o (by omega), nn (o + 4) (by omega), nn (o + 5) (by omega), nn (o + 6) (by omega), nn (o + 7) (by omega), nn (o + 8) (by omega), nn (o + 9) (by omega), nn (o + 10) (by omega)]
  refine ⟨by rw [up_n _ _ (by omega)]; exact a1, by rw [up_n _ _ (by omega)]; exact a2, by rw [up_n _ _ (by omega)]; exact a3, by rw [up_n _ _ (by omega)]; exact a4, by rw [up_n _ _ (by omega)]; exact a5, fun q hq => ?_, fun k hk => ?_, fun i hi => ?_, fun i hi => ?_, sb_o a10 rfl (stf_o fun c hc => up_n _ _ (by omega))⟩
  · by_cases e : q = i
    · subst e; rw [ru_s, up_s]
    · rw [ru_i _ _ e, up_n _ _ (by omega)]; exact a6 q hq
  · rw [up_n _ _ (by omega), up_n _ _ (by omega), up_n _ _ (by omega)]; exact a7 k hk
  · rw [up_n _ _ (by omega)]; exact a8 i hi
  · rw [up_n _ _ (by omega), up_n _ _ (by omega), up_n _ _ (by omega)]; exact a9 i hi
end SP
theorem pp_hold {z w : mm_S} (h : Rel z w) {i : Nat} (hi : i < 10) {v : Int32} (hv : v = -1 ∨ isN v 6) : PP (sX3_hold_26 (nI i) v z) (sX4_hold_27 (nI i) v w) := by
  have t0 : (5 : Int32) + nI i = nI (5 + i) := nI_add 5 _
  unfold sX3_hold_26 sX3_hold_39 sX4_hold_27 sX4_hold_36
  rw [t0, if_neg (gI (show 5 + i < 97 by omega) (by decide)), nI_clamp (by omega), ex_N _ _ (show i < lenX 12 from hi)]
  refine pp_e rfl rfl (Rel_M h ⟨fun b hb => ru_n _ _ (by omega), fun b _ => rfl⟩ (KM1_1 fun b hb => ru_n _ _ hb) ?_ ?_)
  · show okR (mm_ui w.1 1 (5 + i) v 1)
    rw [ru_r]
    exact okR_sp h.1 hi hv
  · show RM 1 _ (mm_ui w.1 1 (5 + i) v 1)
    rw [ru_r]
    exact RM_sp h.2.1 hi v
theorem pq_hold {z w : mm_S} (h : Rel z w) (x1 x2 : Int32) : PP (sX3_hold x1 x2 z) (sX4_hold x1 x2 w) := by
  obtain ⟨-, -, e3⟩ := r_nC h
  unfold sX3_hold sX3_hold_0 sX3_hold_4 sX3_hold_17 sX4_hold sX4_hold_0
  refine pp_if (x_isSpot _) (m_within0 x1 (n := 9) (by decide)) (fun _ => pp_b (pp_f0 h)) (fun hs => ?_)
  obtain ⟨i, hi, rfl⟩ := hs
  refine pp_if2 Iff.rfl Iff.rfl (fun e => pp_hold h hi (Or.inl e)) (fun _ => ?_)
  refine pp_if (x_isCrew h _) (m_isCrew h _) (fun _ => pp_b (pp_f0 h)) (fun hk => pp_hold h hi (Or.inr (isN_w hk (by omega))))
theorem x_isOfKind {z : mm_S} {k o : Nat} (hk : k < 7) (ho : o < 7) : hh_c (sX3_isOfKind (nI k) (nI o) z) (fun q => q = (if und k o = true then 1 else 0, z)) := by
  unfold sX3_isOfKind sX3_isOfKind_0 sX3_isOfKind_4
  refine hh_up (fun j s => ∃ a, a < 8 ∧ dep a + j ≤ 4 ∧ s = (nI o, kI a, nI j, z) ∧ und k o = und a o) 4 (by decide) ⟨k, by omega, dep_p k (by omega), by rw [kI_1 hk]; rfl, rfl⟩ ?_
  rintro j s hj ⟨a, ha, hd, rfl, hu⟩
  have h7j : ¬ (7 : Int32) ≤ nI j := fun t => by have := (nI_leI (a := 7) (by decide) (by omega)).mp t; omega
  unfold lX3_isOfKind_4 sX3_isOfKind_30
  dsimp only
  by_cases h7 : a < 7
  · rw [kI_1 h7]
    refine hh_f h7j (hh_f (nI_nm (by omega)) (hh_i (fun q => hh_v ?_) (fun q => hh_v ?_)))
    · have e := (nI_eq (by omega) (by omega)).mp q
      show _ = _
      rw [hu, e, if_pos (und_r _ ho)]
    · have e : a ≠ o := fun x => q (by rw [x])
      have d1 := dep_s a h7
      exact ⟨by omega, abv a, by omega, by omega, by rw [x_abv a h7, nI_1], by rw [hu, und_s a h7 o ho e]⟩
  · obtain rfl : a = 7 := by omega
    refine hh_f h7j (hh_t rfl (hh_v ?_))
    show _ = _
    rw [hu, und_7 o ho]; rfl
theorem pq_as {z w : mm_S} (h : Rel z w) (x1 x2 : Int32) : PP (sX3_as x1 x2 z) (sX4_as x1 x2 w) := by
  unfold sX3_as sX3_as_0 sX3_as_4 sX3_as_11 sX4_as sX4_as_0
  refine pp_if (x_isSpot _) (m_within0 x1 (n := 9) (by decide)) (fun _ => pp_b (pp_f0 h)) (fun hs => ?_)
  refine pp_if (x_isKind _) (m_isKind _) (fun _ => pp_b (pp_f0 h)) (fun ho => ?_)
  obtain ⟨i, hi, rfl⟩ := hs
  obtain ⟨o, ho, rfl⟩ := ho
  have t0 : (5 : Int32) + nI i = nI (5 + i) := nI_add 5 _
  have ex : pX3_at 12 (nI i) z = w.1 1 (5 + i) := by
    rw [at_N _ (show i < lenX 12 from hi)]
    exact h.2.1.2.2.2.2.2.1 i hi
  unfold sX3_as_20 sX3_as_32 sX4_as_21
  rw [ex, t0, if_neg (gI (show 5 + i < 97 by omega) (by decide)), nI_clamp (by omega)]
  rcases h.1.2.2.2.2.1 i hi with e | ⟨k, hk, e⟩
  · rw [e, if_pos rfl, if_neg (show ¬ (0 : Int32) ≤ -1 by decide)]
    exact pp_b (pp_f5 h)
  · rw [e, if_neg (nI_nm (by omega)), if_pos (show (0 : Int32) ≤ nI k from (nI_leI (a := 0) (by decide) (by omega)).mpr (Nat.zero_le _))]
    have hkn := (ok_kn h.1 hk).2
    obtain ⟨q1, f1, rfl⟩ := x_isOfKind (z := z) hkn ho
    obtain ⟨q2, f2, rfl⟩ := m_isUnder (w := w) hkn ho
    unfold sX3_as_43 sX3_as_55 sX3_as_58 sX4_as_42 sX4_as_55
    rw [x_kindOf (Or.inl rfl) h.2.1 h.1 hk, f1, m_kind rfl h.1 hk]
    dsimp only [Option.bind]
    rw [f2]
    dsimp only [Option.bind]
    by_cases u : und (knd (w.1 1) k) o = true
    · rw [if_pos u, if_neg (by decide), if_neg (by decide)]
      exact pp_e rfl rfl h
    · rw [if_neg u, if_pos rfl, if_pos rfl]
      exact pp_b (pp_f2 h)
def heC (r : Nat → Int32) (n : Nat) : Nat := fb_ct (fun i => decide (r (5 + i) ≠ -1)) n
theorem x_held {z : mm_S} {r : Nat → Int32} (hm : RM 1 z r) : pX0_heldSpots 1 z = nI (heC r 10) := by
  have key : ∀ k j, j + k ≤ 10 → mm_lp (lX0_heldSpots 1 z) (fun s => s) k j (nI (heC r j)) = nI (heC r (j + k)) := by
    intro k
    induction k with
    | zero => intro j _; rfl
    | succ k ih =>
      intro j hj
      have e : pX3_at (1 + 11) (nI j) z = r (5 + j) := by
        rw [at_N _ (show j < lenX (1 + 11) from (by omega : j < 10))]
        exact hm.2.2.2.2.2.1 j (by omega)
      have ih2 := ih (j + 1) (by omega)
      rw [show j + 1 + k = j + (k + 1) by omega] at ih2
      have es : heC r (j + 1) = heC r j + (if decide (r (5 + j) ≠ -1) = true then 1 else 0) := rfl
      unfold mm_lp lX0_heldSpots
      rw [e]
      unfold lX0_heldSpots at ih2
      by_cases q : r (5 + j) = -1
      · rw [if_pos q]
        dsimp only
        rw [es, if_neg (by simp [q]), Nat.add_zero] at ih2
        exact ih2
      · rw [if_neg q]
        dsimp only
        rw [es, if_pos (by simp [q]), ← nI_1] at ih2
        exact ih2
  have := key 10 0 (by omega)
  exact this
theorem m_held {w : mm_S} {r : Nat → Int32} (hw : w.1 1 = r) (hr : okR r) : hh_c (sX4_count_99 0 0 w) (fun q => q = (nI (heC r 10), w)) := by
  unfold sX4_count_99
  refine hh_up (fun j s => s = (nI (heC r j), nI j, w)) 10 (by decide) rfl ?_
  rintro j _ hj rfl
  have h10 : (10 : Int32) ≤ nI j ↔ 10 ≤ j := nI_leI (a := 10) (by decide) (by omega)
  have t0 : (5 : Int32) + nI j = nI (5 + j) := nI_add 5 _
  unfold lX4_count_99
  dsimp only
  refine hh_i (fun q => hh_v ?_) (fun q => ?_)
  · obtain rfl : j = 10 := by have := h10.mp q; omega
    rfl
  have hj2 : j < 10 := Nat.lt_of_not_le fun y => q (h10.mpr y)
  have es : heC r (j + 1) = heC r j + (if decide (r (5 + j) ≠ -1) = true then 1 else 0) := rfl
  rw [t0]
  refine hh_f (gI (show 5 + j < 97 by omega) (by decide)) ?_
  rw [nI_clamp (by omega), hw]
  rcases hr.2.2.2.2.1 j hj2 with e | ⟨k, hk, e⟩
  · rw [e] at es ⊢
    refine hh_f (by decide) (hh_v ⟨hj2, ?_⟩)
    rw [es, if_neg (by simp), nI_1, Int32.add_zero]
    rfl
  · have hne : ¬ nI k = -1 := nI_nm (by omega)
    rw [e] at es ⊢
    refine hh_t ((nI_leI (a := 0) (by decide) (by omega)).mpr (Nat.zero_le _)) (hh_v ⟨hj2, ?_⟩)
    rw [es, if_pos (by simp [hne]), nI_1, nI_1]
theorem pq_count {z w : mm_S} (h : Rel z w) (x1 : Int32) : PP (sX3_count x1 z) (sX4_count x1 w) := by
  obtain ⟨n, hn, e1, e2, -⟩ := h.2.2.2.1
  have hm := h.2.1
  unfold sX3_count sX3_count_0 sX4_count sX4_count_0
  refine pp_if2 Iff.rfl Iff.rfl (fun _ => pp_e rfl (by rw [hm.1]) h) (fun _ => ?_)
  refine pp_if2 Iff.rfl Iff.rfl (fun _ => pp_e rfl (by rw [hm.2.1]) h) (fun _ => ?_)
  refine pp_if2 Iff.rfl Iff.rfl (fun _ => ?_) (fun _ => ?_)
  · obtain ⟨q1, f1, rfl⟩ := m_cellsOf (r_ms h) (s := 2) (by decide)
    obtain ⟨q2, f2, rfl⟩ := m_bits (ls64 (fun c => decide (stf (w.1 1) c = 2)) 36) w
    have f1 : sX4_cellsOf 2 w = some (ls64 (fun c => decide (stf (w.1 1) c = 2)) 36, w) := f1
    rw [f1]
    dsimp only [Option.bind]
    rw [f2, x_holes hm]
    exact pp_e rfl rfl h
  refine pp_if2 Iff.rfl Iff.rfl (fun _ => pp_e rfl (by rw [hm.2.2.1]) h) (fun _ => ?_)
  refine pp_if2 Iff.rfl Iff.rfl (fun _ => pp_e rfl (by rw [hm.2.2.2.1]) h) (fun _ => ?_)
  refine pp_if2 Iff.rfl Iff.rfl (fun _ => pp_e rfl (by rw [e1, e2]) h) (fun _ => ?_)
  refine pp_if2 Iff.rfl Iff.rfl (fun _ => pp_e rfl (by rw [hm.2.2.2.2.1]) h) (fun _ => ?_)
  refine pp_if2 Iff.rfl Iff.rfl (fun _ => ?_) (fun _ => pp_b (pp_f0 h))
  obtain ⟨q1, f1, rfl⟩ := m_held (w := w) rfl h.1
  rw [f1, x_held hm]
  exact pp_e rfl rfl h
/-! ===== feed ===== -/
theorem fd_0 : ∀ k, k < 4 → (Int32.toUInt32 (8 * nI k) &&& Int32.toUInt32 31) = UInt32.ofNat (8 * k) ∧ ((8 * nI k) &&& 31) = nI (8 * k) ∧ ((nI (8 * k)).toBitVec.smod 32).toNat = 8 * k ∧ ((UInt32.ofNat (8 * k)).toBitVec % 32).toNat = 8 * k := by decide +kernel
theorem fd_255 : ∀ i, i < 32 → (255 : Int32).toBitVec.getLsbD i = decide (i < 8) := by decide +kernel
theorem fd_b (x : Int32) {k : Nat} (hk : k < 4) : ((Int32.toUInt32 x >>> (Int32.toUInt32 (8 * nI k) &&& Int32.toUInt32 31)).toInt32 &&& 255) = ((x >>> ((8 * nI k) &&& 31)) &&& 255) := by
  obtain ⟨h1, h2, h3, h4⟩ := fd_0 k hk
  rw [h1, h2]
  apply Int32.toBitVec_inj.mp
  rw [Int32.toBitVec_and, Int32.toBitVec_and, Int32.toBitVec_shiftRight]
  have e : (Int32.toUInt32 x >>> UInt32.ofNat (8 * k)).toInt32.toBitVec = x.toBitVec >>> ((UInt32.ofNat (8 * k)).toBitVec % 32) := rfl
  rw [e]
  apply BitVec.eq_of_getLsbD_eq
  intro i hi
  rw [BitVec.getLsbD_and, BitVec.getLsbD_and, fd_255 i hi, BitVec.getLsbD_sshiftRight', h3, BitVec.ushiftRight_eq', BitVec.getLsbD_ushiftRight, h4]
  by_cases q : i < 8
  · rw [if_pos (show 8 * k + i < 32 by omega)]
    simp [show ¬ 32 ≤ i by omega]
  · simp [q]
theorem fd_n (x : Int32) : isN (x &&& 255) 256 := by
  obtain ⟨n, hn, rfl⟩ := wb_of32 x
  refine ⟨n &&& 255, ?_, ?_⟩
  · have : n &&& 255 ≤ 255 := Nat.and_le_right
    omega
  · exact nx_and n 255
/-- the tape changes -/
theorem Rel_T {z z' w w' : mm_S} (h : Rel z w) (h1 : ∀ b, b ≠ 37 → b ≠ 38 → z'.1 b = z.1 b) (h2 : z'.2 = z.2) (h3 : ∀ b, b ≠ 0 → b ≠ 13 → w'.1 b = w.1 b) (h4 : w'.1 0 3 = w.1 0 3) (ht : rTape z' w') : Rel z' w' := by
  obtain ⟨g1, g2, g3, g4, g5, g6⟩ := h
  have k1 : ∀ o r, (o = 1 ∨ o = 13) → RM o z r → RM o z' r := fun o r ho hm => RM_k hm (fun b hb => h1 b (by omega) (by omega)) (by rw [h2])
  refine ⟨by rw [h3 1 (by decide) (by decide)]; exact g1, by rw [h3 1 (by decide) (by decide)]; exact k1 1 _ (Or.inl rfl) g2, ?_, ht, ?_, ?_⟩
  · unfold rKept
    rw [h1 0 (by decide) (by decide), h4, h3 2 (by decide) (by decide)]
    exact ⟨g3.1, g3.2.imp id fun x => ⟨x.1, x.2.1, k1 13 _ (Or.inr rfl) x.2.2⟩⟩
  · unfold rSheet
    rw [h1 39 (by decide) (by decide), h1 40 (by decide) (by decide), h1 41 (by decide) (by decide), h3 18 (by decide) (by decide), h3 19 (by decide) (by decide), h3 20 (by decide) (by decide)]
    exact g5
  · unfold rFind
    rw [h1 42 (by decide) (by decide), h3 4 (by decide) (by decide)]
    exact g6
def fdB (x : Int32) (n j : Nat) : Int32 := (x >>> ((8 * nI (n - 1 - j)) &&& 31)) &&& 255
def fdT (t : Nat → Int32) (a : Nat) (x : Int32) (n : Nat) : Nat → Nat → Int32
  | 0 => t
  | j + 1 => upd (fdT t a x n j) (a + j) (fdB x n j)
theorem fdT_o (t : Nat → Int32) (a : Nat) (x : Int32) (n : Nat) : ∀ j i, i < a → fdT t a x n j i = t i
  | 0, i, _ => rfl
  | j + 1, i, hi => by
    show upd (fdT t a x n j) (a + j) (fdB x n j) i = t i
    rw [up_n _ _ (by omega)]
    exact fdT_o t a x n j i hi
theorem fdT_n (t : Nat → Int32) (a : Nat) (x : Int32) (n : Nat) : ∀ j i, i < j → fdT t a x n j (a + i) = fdB x n i
  | 0, i, h => absurd h (by omega)
  | j + 1, i, h => by
    show upd (fdT t a x n j) (a + j) (fdB x n j) (a + i) = fdB x n i
    by_cases q : i = j
    · subst q; exact up_s _ _ _
    · rw [up_n _ _ (by omega)]
      exact fdT_n t a x n j i (by omega)
theorem pq_feed {z w : mm_S} (h : Rel z w) (x1 x2 : Int32) : PP (sX3_feed x1 x2 z) (sX4_feed x1 x2 w) := by
  obtain ⟨a, ha, t1, t2, t3⟩ := id h.2.2.2.1
  unfold sX3_feed sX3_feed_0 sX3_feed_6 sX4_feed sX4_feed_0
  refine pp_if (ls_1 x2 (n := 4) (by decide)) (ls_1 x2 (n := 4) (by decide)) (fun _ => pp_b (pp_f0 h)) (fun ⟨n, n1, n2, e⟩ => ?_)
  subst e
  have hle : nI a + nI n ≤ 120 ↔ a + n ≤ 120 := by rw [nI_add]; exact nI_leI (b := 120) (by omega) (by decide)
  unfold sX3_feed_15 sX4_feed_16
  rw [t1, t2]
  refine pp_if2 Iff.rfl Iff.rfl (fun hy => ?_) (fun _ => pp_b (pp_f1 h))
  have hy := hle.mp hy
  have hm1 : nI n - 1 = nI (n - 1) := by rw [show (1 : Int32) = nI 1 from rfl, nI_dif (by omega)]
  have stepE : ∀ j, j < n → nI (n - j) - 1 = nI (n - 1 - j) := fun j hj => by rw [show (1 : Int32) = nI 1 from rfl, nI_dif (by omega)]; congr 1; omega
  have stepN : ∀ j, j < n → nI (n - 1 - j) + Int32.ofInt (-1) = nI (n - (j + 1)) - 1 := fun j hj => by
    rw [show n - 1 - j = n - (j + 1) by omega]
    rw [show Int32.ofInt (-1) = -1 from by decide]
    exact (Int32.sub_eq_add_neg _ _).symm
  have hx : hh_c (sX3_feed_35 x1 (nI n) z) (fun q => q.1 = nI (a + n) ∧ q.2.1 37 1 = nI (a + n) ∧ q.2.1 38 = fdT (z.1 38) a x1 n n ∧ (∀ b, b ≠ 37 → b ≠ 38 → q.2.1 b = z.1 b) ∧ q.2.2 = z.2) := by
    unfold sX3_feed_35 sX3_feed_39
    refine hh_up (fun j s => ∃ z', s = (x1, nI (n - j) - 1, z') ∧ j ≤ n ∧ z'.1 37 1 = nI (a + j) ∧ z'.1 38 = fdT (z.1 38) a x1 n j ∧ (∀ b, b ≠ 37 → b ≠ 38 → z'.1 b = z.1 b) ∧ z'.2 = z.2) n (by omega) ⟨z, rfl, Nat.zero_le _, t1, rfl, fun _ _ _ => rfl, rfl⟩ ?_
    rintro j s hj ⟨z', rfl, hjn, b1, b2, b3, b4⟩
    unfold lX3_feed_39
    dsimp only
    by_cases y : j = n
    · subst y
      rw [Nat.sub_self]
      exact hh_t (show nI 0 - 1 < 0 by decide) (hh_v ⟨b1, b1, b2, b3, b4⟩)
    have hj2 : j < n := by omega
    rw [stepE j hj2]
    refine hh_f (nI_pos (by omega)) ?_
    rw [fd_b x1 (show n - 1 - j < 4 by omega)]
    unfold sX2_add sX2_add_0 sX2_add_13 sX2_add_23
    rw [b1, ex_N _ _ (show a + j < lenX 38 from (by omega : a + j < 120))]
    dsimp only
    refine hh_v ⟨hj2, _, by rw [stepN j hj2], hj2, ?_, ?_, fun b hb1 hb2 => ?_, by exact b4⟩
    · dsimp only
      rw [ru_s, ru_n _ _ (show (37 : Nat) ≠ 38 by decide), b1, nI_1]; rfl
    · dsimp only
      rw [ru_n _ _ (show (38 : Nat) ≠ 37 by decide), ru_r, b2]; rfl
    · dsimp only
      rw [ru_n _ _ hb1, ru_n _ _ hb2]; exact b3 b hb1 hb2
  have hmm : hh_c (sX4_feed_34 x1 (nI n) w) (fun q => q.1 = nI (a + n) ∧ q.2.1 0 18 = nI (a + n) ∧ q.2.1 13 = fdT (w.1 13) a x1 n n ∧ (∀ b, b ≠ 0 → b ≠ 13 → q.2.1 b = w.1 b) ∧ q.2.1 0 3 = w.1 0 3) := by
    unfold sX4_feed_34 sX4_feed_38
    refine hh_up (fun j s => ∃ w', s = (x1, nI (n - j) - 1, w') ∧ j ≤ n ∧ w'.1 0 18 = nI (a + j) ∧ w'.1 13 = fdT (w.1 13) a x1 n j ∧ (∀ b, b ≠ 0 → b ≠ 13 → w'.1 b = w.1 b) ∧ w'.1 0 3 = w.1 0 3) n (by omega) ⟨w, rfl, Nat.zero_le _, t2, rfl, fun _ _ _ => rfl, rfl⟩ ?_
    rintro j s hj ⟨w', rfl, hjn, b1, b2, b3, b4⟩
    unfold lX4_feed_38 sX4_feed_61
    dsimp only
    by_cases y : j = n
    · subst y
      rw [Nat.sub_self]
      exact hh_t (show nI 0 - 1 < 0 by decide) (hh_v ⟨b1, b1, b2, b3, b4⟩)
    have hj2 : j < n := by omega
    rw [stepE j hj2]
    refine hh_f (nI_pos (by omega)) ?_
    rw [b1]
    refine hh_f (gI (show a + j < 120 by omega) (by decide)) ?_
    rw [nI_clamp (by omega)]
    refine hh_v ⟨hj2, _, by rw [stepN j hj2], hj2, ?_, ?_, fun b hb1 hb2 => ?_, ?_⟩
    · dsimp only
      rw [ru_s, ru_n _ _ (show (0 : Nat) ≠ 13 by decide), b1, nI_1]; rfl
    · dsimp only
      rw [ru_n _ _ (show (13 : Nat) ≠ 0 by decide), ru_r, b2]; rfl
    · dsimp only
      rw [ru_n _ _ hb1, ru_n _ _ hb2]; exact b3 b hb1 hb2
    · dsimp only
      rw [ru_i _ _ (show (3 : Nat) ≠ 18 by decide), ru_n _ _ (show (0 : Nat) ≠ 13 by decide)]; exact b4
  obtain ⟨⟨u, z'⟩, f1, rfl, c1, c2, c3, c4⟩ := hx
  obtain ⟨⟨v, w'⟩, g1, rfl, d1, d2, d3, d4⟩ := hmm
  dsimp only at c1 c2 c3 c4 d1 d2 d3 d4
  rw [f1, g1]
  refine pp_e rfl rfl (Rel_T h c3 c4 d3 d4 ⟨a + n, hy, c1, d1, fun i hi => ?_⟩)
  rw [c2, d2]
  by_cases q : i < a
  · rw [fdT_o _ _ _ _ _ _ q, fdT_o _ _ _ _ _ _ q]
    exact t3 i q
  · rw [show i = a + (i - a) by omega, fdT_n _ _ _ _ _ _ (show i - a < n by omega), fdT_n _ _ _ _ _ _ (show i - a < n by omega)]
    exact ⟨fd_n _, rfl⟩
