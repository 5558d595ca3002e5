/-! ===== the class's times ===== -/
/-- a time, as the class tells it -/
def tI (d : Nat) : Int32 := if d < 10000 then nI d else -1
theorem tI_1 {d : Nat} (h : d < 10000) : tI d = nI d := if_pos h
theorem tI_2 {d : Nat} (h : ¬ d < 10000) : tI d = -1 := if_neg h
theorem nI_nm {n : Nat} (h : n < 2 ^ 31) : ¬ nI n = -1 := fun e => by
  have := congrArg Int32.toInt e
  rw [nI_toInt h] at this
  have e2 : (-1 : Int32).toInt = -1 := by decide
  omega
theorem tI_m {d : Nat} : tI d = -1 ↔ ¬ d < 10000 := by
  by_cases h : d < 10000
  · rw [tI_1 h]
    exact ⟨fun e => absurd e (nI_nm (by omega)), fun e => absurd h e⟩
  · rw [tI_2 h]
    exact ⟨fun _ => h, fun _ => rfl⟩
theorem at_N {k i : Nat} (z : mm_S) (h : i < lenX k) : pX3_at k (nI i) z = z.1 k i := by
  have hl := lenX_lt k
  unfold pX3_at
  rw [if_neg (nI_pos (by omega)), if_neg (show ¬ Int32.ofNat (lenX k) ≤ nI i from nI_ge h hl), nI_clamp (by omega)]
theorem ex_N {k i : Nat} (v : Int32) (z : mm_S) (h : i < lenX k) : tX3_exchange k (nI i) v z = (z.1 k i, (mm_ui z.1 k i v, z.2)) := by
  have hl := lenX_lt k
  unfold tX3_exchange
  rw [if_neg (nI_pos (by omega)), if_pos (show nI i < Int32.ofNat (lenX k) from nI_lt h hl), nI_clamp (by omega)]
/-- nothing but the rock's sound -/
def frR (o : Nat) (z z' : mm_S) : Prop := (∀ b, b ≠ o → z'.1 b = z.1 b) ∧ (∀ b, b ≠ o → b ≠ o + 2 → z'.2 b = z.2 b)
theorem frR_0 (o : Nat) (z : mm_S) : frR o z z := ⟨fun _ _ => rfl, fun _ _ _ => rfl⟩
theorem frR_t {o : Nat} {z z' z'' : mm_S} (h : frR o z z') (h2 : frR o z' z'') : frR o z z'' := ⟨fun b hb => (h2.1 b hb).trans (h.1 b hb), fun b hb hb2 => (h2.2 b hb hb2).trans (h.2 b hb hb2)⟩
theorem sb_fr {o : Nat} {z z' : mm_S} {st : Nat → Nat} (h : frR o z z') (hs : sb o z st) : sb o z' st := ⟨hs.1, fun s h5 => by
  rw [h.2 (o + 1) (by omega) (by omega)]
  exact hs.2 s h5⟩
theorem tdb_of {o a : Nat} {z : mm_S} {st : Nat → Nat} (ho : o = 2 ∨ o = 14 ∨ o = 26) (ha : a < 36) (h : sb o z st) : tdb st a := by
  have key : ∀ t, t ≤ 217 → (∃ z', bfs st a o t z') ∨ ∀ c k, tW st a c k → ∃ k', k' < 217 ∧ tW st a c k' := by
    intro t
    induction t with
    | zero => exact fun _ => Or.inl ⟨_, (bfs_0 ho ha h).1⟩
    | succ t ih =>
      intro ht
      rcases ih (by omega) with ⟨z', hb⟩ | hb
      · by_cases q : z'.1 o 3 < nI t
        · refine Or.inr fun c k hw => ?_
          obtain ⟨k', h1, h2⟩ := bfs_end hb (Or.inr q) (by omega) c k hw
          exact ⟨k', by omega, h2⟩
        · exact Or.inl ⟨_, (bfs_step hb (by omega) q).1⟩
      · exact Or.inr hb
  intro c k hw
  rcases key 217 (Nat.le_refl _) with ⟨z', hb⟩ | hb
  · obtain ⟨k', h1, h2⟩ := bfs_end hb (Or.inl (by decide)) (by decide) c k hw
    have : td st a c ≤ k' := wk_dm h2
    omega
  · obtain ⟨k', h1, h2⟩ := hb c k hw
    have : td st a c ≤ k' := wk_dm h2
    omega
theorem td_le {st : Nat → Nat} {a c : Nat} (h : tdb st a) (hd : td st a c < 10000) : td st a c ≤ 216 := h c _ (wk_dW hd)
theorem x_timeBetween {o a c : Nat} {z : mm_S} {st : Nat → Nat} (ho : o = 2 ∨ o = 14 ∨ o = 26) (ha : a < 36) (hc : c < 36) (h : sb o z st) : hh_c (sX1_timeBetween o (nI a) (nI c) z) (fun q => q.1 = tI (td st a c) ∧ frR o z q.2) := by
  unfold sX1_timeBetween sX1_timeBetween_0 sX1_timeBetween_5 sX1_timeBetween_7
  dsimp only
  obtain ⟨b0, b1, b2⟩ := bfs_0 ho ha h
  refine hh_up (fun j s => ∃ z', s = (nI c, nI j, z') ∧ bfs st a o j z' ∧ frR o z z' ∧ ∀ k, k < j → ¬ tW st a c k) 217 (by decide) ⟨_, rfl, b0, ⟨b1, b2⟩, fun k hk => absurd hk (Nat.not_lt_zero k)⟩ ?_
  rintro j s hj ⟨z', rfl, hb, hf, hn⟩
  have hend : (216 < j ∨ z'.1 o 3 < nI j) → ∀ k, ¬ tW st a c k := fun q k hw => by
    obtain ⟨k', h1, h2⟩ := bfs_end hb q (by omega) c k hw
    exact hn k' h1 h2
  have h216 : (216 : Int32) < nI j ↔ 216 < j := nI_ltI (a := 216) (by decide) (by omega)
  unfold lX1_timeBetween_7
  dsimp only
  refine hh_i (fun q => hh_v ?_) (fun q1 => hh_i (fun q => hh_v ?_) (fun q2 => ?_))
  · refine ⟨(tI_2 ?_).symm, hf⟩
    have : td st a c = 10000 := wk_dN (hend (Or.inl (h216.mp q)))
    omega
  · refine ⟨(tI_2 ?_).symm, hf⟩
    have : td st a c = 10000 := wk_dN (hend (Or.inr q))
    omega
  have hj2 : j ≤ 216 := Nat.le_of_not_lt fun x => q1 (h216.mpr x)
  obtain ⟨c1, c2, c3, c4, c5⟩ := bfs_step hb hj2 q2
  have hf2 := frR_t hf ⟨c4, c5⟩
  refine hh_i (fun q => hh_v ⟨by omega, _, ?_, c1, hf2, ?_⟩) (fun q => hh_map (P := fun v => v = _) ⟨_, rfl, rfl⟩ ?_)
  · rw [nI_1]
  · intro k hk hw
    by_cases x : k < j
    · exact hn k x hw
    · obtain rfl : k = j := by omega
      have := (c2 c hc).mpr ⟨hw, hn⟩
      rw [(tb_has0 (by omega)).mp q] at this
      cases this
  · rintro _ rfl
    have hbt : tb (tX1_cellsComeIntoAt o (nI j) z').1 c = true := by
      cases x : tb (tX1_cellsComeIntoAt o (nI j) z').1 c with
      | true => rfl
      | false => exact absurd ((tb_has0 (by omega)).mpr x) q
    obtain ⟨hw, hm⟩ := (c2 c hc).mp hbt
    have e : td st a c = j := wk_du hw (by omega) hm
    exact ⟨by rw [e, tI_1 (by omega)], hf2⟩
theorem x_cellsWithin {o a lim : Nat} {z : mm_S} {st : Nat → Nat} (ho : o = 2 ∨ o = 14 ∨ o = 26) (ha : a < 36) (hl : lim < 10000) (h : sb o z st) : hh_c (sX1_cellsWithin o (nI a) (nI lim) z) (fun q => tb_S q.1 ∧ (∀ c, c < 36 → (tb q.1 c = true ↔ td st a c ≤ lim)) ∧ frR o z q.2) := by
  unfold sX1_cellsWithin sX1_cellsWithin_0 sX1_cellsWithin_5 sX1_cellsWithin_7
  dsimp only
  obtain ⟨b0, b1, b2⟩ := bfs_0 ho ha h
  refine hh_up (fun j s => ∃ z', s = (nI lim, nI j, z') ∧ bfs st a o j z' ∧ frR o z z' ∧ j ≤ lim + 1) 217 (by decide) ⟨_, rfl, b0, ⟨b1, b2⟩, Nat.zero_le _⟩ ?_
  rintro j s hj ⟨z', rfl, hb, hf, hjl⟩
  have h216 : (216 : Int32) < nI j ↔ 216 < j := nI_ltI (a := 216) (by decide) (by omega)
  have hend : (216 < j ∨ z'.1 o 3 < nI j ∨ lim < j) → tb_S (z'.2 o 2) ∧ (∀ c, c < 36 → (tb (z'.2 o 2) c = true ↔ td st a c ≤ lim)) ∧ frR o z z' := by
    intro q
    refine ⟨hb.2.1, fun c hc => ?_, hf⟩
    rw [hb.2.2.2.1 c hc]
    constructor
    · rintro ⟨k, hk, hw⟩
      have : td st a c ≤ k := wk_dm hw
      omega
    · intro x
      have hw := wk_dW (S := tS st a) (E := tE st) (c := c) (show td st a c < 10000 by omega)
      rcases q with q | q | q
      · exact bfs_end hb (Or.inl q) (by omega) c _ hw
      · exact bfs_end hb (Or.inr q) (by omega) c _ hw
      · exact ⟨_, show td st a c < j by omega, hw⟩
  unfold lX1_cellsWithin_7
  dsimp only
  refine hh_i (fun q => hh_map (P := fun v => v = _) ⟨_, rfl, rfl⟩ ?_) (fun q1 => hh_i (fun q => hh_map (P := fun v => v = _) ⟨_, rfl, rfl⟩ ?_) (fun q2 => hh_i (fun q => hh_map (P := fun v => v = _) ⟨_, rfl, rfl⟩ ?_) (fun q3 => hh_v ?_)))
  · rintro _ rfl
    exact hend (Or.inl (h216.mp q))
  · rintro _ rfl
    exact hend (Or.inr (Or.inl q))
  · rintro _ rfl
    exact hend (Or.inr (Or.inr ((nI_ltI (by omega) (by omega)).mp q)))
  · have hj2 : j ≤ 216 := Nat.le_of_not_lt fun x => q1 (h216.mpr x)
    obtain ⟨c1, c2, c3, c4, c5⟩ := bfs_step hb hj2 q2
    have hlj : ¬ lim < j := fun x => q3 (nI_lt x (by omega))
    exact ⟨by omega, _, by rw [nI_1], c1, frR_t hf ⟨c4, c5⟩, by omega⟩
/-- nothing but the rock's sound and one row -/
def frT (o x : Nat) (z z' : mm_S) : Prop := (∀ b, b ≠ o → b ≠ x → z'.1 b = z.1 b) ∧ (∀ b, b ≠ o → b ≠ o + 2 → z'.2 b = z.2 b)
theorem frT_t {o x : Nat} {z z' z'' : mm_S} (h : frT o x z z') (h2 : frT o x z' z'') : frT o x z z'' := ⟨fun b hb hb2 => (h2.1 b hb hb2).trans (h.1 b hb hb2), fun b hb hb2 => (h2.2 b hb hb2).trans (h.2 b hb hb2)⟩
theorem sb_frT {o x : Nat} {z z' : mm_S} {st : Nat → Nat} (h : frT o x z z') (hs : sb o z st) : sb o z' st := ⟨hs.1, fun s h5 => by
  rw [h.2 (o + 1) (by omega) (by omega)]
  exact hs.2 s h5⟩
/-- the inner loop: a time into the row, for each cell that comes now -/
theorem x_timesFrom_in {o x t : Nat} {he : Int64} {z : mm_S} (hS : tb_S he) (hx : lenX x = 36) :
    hh_c (sX1_timesFrom_34 o x (nI t) he z) (fun r => ∃ z', r = .inl (x, nI (t + 1), z') ∧ z'.2 = z.2 ∧ (∀ b, b ≠ x → z'.1 b = z.1 b) ∧ ∀ c, c < 36 → z'.1 x c = if tb he c = true then nI t else z.1 x c) := by
  unfold sX1_timesFrom_34 sX1_timesFrom_37
  refine hh_up (fun j s => ∃ z', s = (x, nI t, he, nI j, z') ∧ j ≤ 36 ∧ z'.2 = z.2 ∧ (∀ b, b ≠ x → z'.1 b = z.1 b) ∧ ∀ c, c < 36 → z'.1 x c = if c < j ∧ tb he c = true then nI t else z.1 x c) 36 (by decide) ⟨z, rfl, by decide, rfl, fun _ _ => rfl, fun c _ => ?_⟩ ?_
  · rw [if_neg (by omega)]
  rintro j s hj ⟨z', rfl, _, h2, h1, hr⟩
  have h36 : (36 : Int32) ≤ nI j ↔ 36 ≤ j := nI_leI (a := 36) (by decide) (by omega)
  unfold lX1_timesFrom_37 sX1_timesFrom_72
  dsimp only
  refine hh_i (fun q => hh_v ⟨z', by rw [nI_1], h2, h1, fun c hc => ?_⟩) (fun q1 => hh_i (fun q => hh_v ⟨z', by rw [nI_1], h2, h1, fun c hc => ?_⟩) (fun q2 => hh_i (fun q => hh_v ?_) (fun q => hh_v ?_)))
  · have := h36.mp q
    rw [hr c hc]
    simp only [show c < j by omega, true_and]
  · rw [hr c hc]
    have hz := (tb_z _).mp ((lgc_0 _ _).mp q)
    by_cases x1 : c < j
    · simp only [x1, true_and]
    · have hj3 : ¬ 36 ≤ j := fun x => q1 (h36.mpr x)
      have := hz (c - j) (by omega)
      rw [tb_ushr _ (by omega), show j + (c - j) = c by omega] at this
      simp [this]
  · have hj3 : ¬ 36 ≤ j := fun x => q1 (h36.mpr x)
    refine ⟨by omega, z', by rw [nI_1], by omega, h2, h1, fun c hc => ?_⟩
    rw [hr c hc]
    have hb := (tb_has0 (by omega)).mp q
    by_cases x1 : c = j
    · subst x1
      simp [hb]
    · have : (c < j ↔ c < j + 1) := by omega
      simp only [this]
  · have hj3 : ¬ 36 ≤ j := fun x => q1 (h36.mpr x)
    have hb : tb he j = true := by
      cases y : tb he j with
      | true => rfl
      | false => exact absurd ((tb_has0 (by omega)).mpr y) q
    rw [ex_N _ _ (by omega)]
    refine ⟨by omega, (mm_ui z'.1 x j (nI t), z'.2), by rw [nI_1], by omega, h2, fun b hb => (ru_n _ _ hb).trans (h1 b hb), fun c hc => ?_⟩
    by_cases x1 : c = j
    · subst x1
      show mm_ui z'.1 x c (nI t) x c = _
      rw [ru_s]
      simp [hb]
    · show mm_ui z'.1 x j (nI t) x c = _
      rw [ru_i _ _ x1, hr c hc]
      have : (c < j ↔ c < j + 1) := by omega
      simp only [this]
theorem x_timesFrom {o a x : Nat} {z : mm_S} {st : Nat → Nat} (ho : o = 2 ∨ o = 14 ∨ o = 26) (ha : a < 36) (hx : lenX x = 36) (hxo : x ≠ o) (h : sb o z st) : hh_c (sX1_timesFrom o (nI a) x z) (fun z' => (∀ c, c < 36 → z'.1 x c = tI (td st a c)) ∧ frT o x z z') := by
  unfold sX1_timesFrom sX1_timesFrom_0 sX1_timesFrom_5 sX1_timesFrom_10 sX1_timesFrom_12
  dsimp only
  have hs1 : sb o (tJ7_fill_53178 x (-1) z) st := h
  obtain ⟨b0, b1, b2⟩ := bfs_0 ho ha hs1
  generalize hz1 : tX1_knock o (nI a) (tJ7_fill_53178 x (-1) z) = z1 at *
  have hr0 : ∀ c, c < 36 → z1.1 x c = -1 := fun c hc => by
    rw [b1 x hxo]
    show mm_rw z.1 x (mm_fr (lenX x) (-1) (z.1 x)) x c = -1
    rw [mm_rw_s]
    unfold mm_fr
    rw [if_pos (by omega)]
  have hf0 : frT o x z z1 := ⟨fun b hb hb2 => by
    rw [b1 b hb]
    exact mm_rw_n _ _ hb2, fun b hb hb2 => b2 b hb hb2⟩
  refine hh_up (fun j s => ∃ z', s = (x, nI j, z') ∧ bfs st a o j z' ∧ frT o x z z' ∧ ∀ c, c < 36 → z'.1 x c = if td st a c < j then nI (td st a c) else -1) 217 (by decide) ⟨_, rfl, b0, hf0, fun c hc => by rw [hr0 c hc, if_neg (by omega)]⟩ ?_
  rintro j s hj ⟨z', rfl, hb, hf, hr⟩
  have h216 : (216 : Int32) < nI j ↔ 216 < j := nI_ltI (a := 216) (by decide) (by omega)
  have hend : (216 < j ∨ z'.1 o 3 < nI j) → (∀ c, c < 36 → z'.1 x c = tI (td st a c)) ∧ frT o x z z' := by
    intro q
    refine ⟨fun c hc => ?_, hf⟩
    rw [hr c hc]
    unfold tI
    by_cases y : td st a c < 10000
    · obtain ⟨k', h1, h2⟩ := bfs_end hb q (by omega) c _ (wk_dW y)
      have : td st a c ≤ k' := wk_dm h2
      rw [if_pos y, if_pos (by omega)]
    · rw [if_neg y, if_neg (by omega)]
  unfold lX1_timesFrom_12
  dsimp only
  refine hh_i (fun q => hh_v (hend (Or.inl (h216.mp q)))) (fun q1 => hh_i (fun q => hh_v (hend (Or.inr q))) (fun q2 => ?_))
  have hj2 : j ≤ 216 := Nat.le_of_not_lt fun x => q1 (h216.mpr x)
  obtain ⟨c1, c2, c3, c4, c5⟩ := bfs_step hb hj2 q2
  refine hh_w (x_timesFrom_in c3 hx) ?_
  rintro _ ⟨z2, rfl, e2, e1, er⟩
  refine ⟨by omega, z2, rfl, ?_, ⟨fun b hb hb2 => ?_, fun b hb hb2 => ?_⟩, fun c hc => ?_⟩
  · obtain ⟨g1, g2, g3, g4, g5, g6⟩ := c1
    unfold bfs sb
    rw [e2, e1 o (Ne.symm hxo)]
    exact ⟨g1, g2, g3, g4, g5, g6⟩
  · rw [e1 b hb2, c4 b hb]; exact hf.1 b hb hb2
  · rw [e2, c5 b hb hb2]; exact hf.2 b hb hb2
  · rw [er c hc, c4 x hxo, hr c hc]
    by_cases y : tb (tX1_cellsComeIntoAt o (nI j) z').1 c = true
    · obtain ⟨hw, hm⟩ := (c2 c hc).mp y
      have e : td st a c = j := wk_du hw (by omega) hm
      rw [if_pos y, e, if_pos (by omega)]
    · rw [if_neg y]
      by_cases y2 : td st a c < j + 1
      · have y3 : td st a c ≠ j := fun e => y ((c2 c hc).mpr ⟨by
          have := wk_dW (S := tS st a) (E := tE st) (c := c) (show td st a c < 10000 by omega)
          rw [← e]; exact this, fun i hi hw => by
          have : td st a c ≤ i := wk_dm hw
          omega⟩)
        rw [if_pos y2, if_pos (by omega)]
      · rw [if_neg y2, if_neg (by omega)]
theorem st_N {o : Nat} {z : mm_S} {st : Nat → Nat} {c : Nat} (h : sb o z st) (hc : c < 36) : pX1_stuffAt o (nI c) z = nI (st c) := by
  unfold pX1_stuffAt
  have e : ∀ s, s < 5 → (pX3_has (z.2 (o + 1) s) (nI c) = 0 ↔ ¬ st c = s) := fun s hs => by
    rw [tb_has0 (by omega), (h.2 s hs).2 c hc]
    simp
  have h5 := h.1 c hc
  have hs5 : st c = 0 ∨ st c = 1 ∨ st c = 2 ∨ st c = 3 ∨ st c = 4 := by omega
  simp only [st_at, Nat.zero_add, Nat.reduceAdd, e 0 (by decide), e 1 (by decide), e 2 (by decide), e 3 (by decide), e 4 (by decide)]
  rcases hs5 with q | q | q | q | q <;> rw [q] <;> simp
theorem pa_N {o : Nat} {z : mm_S} {st : Nat → Nat} {c : Nat} (h : sb o z st) (hc : c < 36) (h2 : st c ≠ 2) : pX1_paceOf o (nI c) z = nI (pc (st c)) := by
  unfold pX1_paceOf
  rw [st_N h hc]
  exact rk_pc _ (h.1 c hc) h2
theorem td_h {st : Nat → Nat} {a c : Nat} (h : td st a c < 10000) : st c ≠ 2 ∧ st a ≠ 2 := by
  have hw := wk_dW h
  have h1 : st c ≠ 2 := by
    rcases wk_inv hw with q | ⟨b, j, e, _, q, _⟩
    · rw [q.2.1]; exact q.2.2.2
    · exact q.2.1
  refine ⟨h1, ?_⟩
  have key : ∀ c k, tW st a c k → st a ≠ 2 := wk_ind (fun c k q => q.2.2.2) (fun _ _ _ _ _ ih _ => ih)
  exact key _ _ hw
theorem x_timesTo {o a x : Nat} {z : mm_S} {st : Nat → Nat} (ho : o = 2 ∨ o = 14 ∨ o = 26) (ha : a < 36) (hx : lenX x = 36) (hxo : x ≠ o) (h : sb o z st) : hh_c (sX1_timesTo o (nI a) x z) (fun z' => (∀ c, c < 36 → z'.1 x c = tI (bd st a c)) ∧ frT o x z z') := by
  unfold sX1_timesTo sX1_timesTo_0 sX1_timesTo_6 sX1_timesTo_15
  have htd := tdb_of ho ha h
  refine hh_bd (x_timesFrom ho ha hx hxo h) (fun z1 h1 => ?_)
  obtain ⟨hr1, hf1⟩ := h1
  have hs1 := sb_frT hf1 h
  refine hh_up (fun j s => ∃ z', s = (x, pX1_paceOf o (nI a) z1, nI j, z') ∧ j ≤ 36 ∧ (∀ c, c < 36 → z'.1 x c = if c < j then tI (bd st a c) else z1.1 x c) ∧ frT o x z z' ∧ sb o z' st) 36 (by decide) ⟨z1, rfl, by decide, fun c _ => by rw [if_neg (by omega)], hf1, hs1⟩ ?_
  rintro j s hj ⟨z', rfl, _, hr, hf, hs⟩
  have h36 : (36 : Int32) ≤ nI j ↔ 36 ≤ j := nI_leI (a := 36) (by decide) (by omega)
  unfold lX1_timesTo_15 sX1_timesTo_54
  dsimp only
  refine hh_i (fun q => hh_v ⟨fun c hc => ?_, hf⟩) (fun q1 => ?_)
  · have := h36.mp q
    rw [hr c hc, if_pos (by omega)]
  have hj3 : j < 36 := Nat.lt_of_not_le fun x => q1 (h36.mpr x)
  have hv : pX3_at x (nI j) z' = tI (td st a j) := by
    rw [at_N _ (by omega), hr j hj3, if_neg (by omega), hr1 j hj3]
  rw [hv]
  obtain ⟨hA, hB⟩ := bd_td (c := j) htd
  refine hh_i (fun q => hh_v ⟨by omega, z', by rw [nI_1], by omega, fun c hc => ?_, hf, hs⟩) (fun q => hh_v ?_)
  · rw [hr c hc]
    by_cases y : c = j
    · subst y
      have e := hB (tI_m.mp q)
      rw [if_neg (by omega), if_pos (by omega), hr1 c hc, e.1, e.2]
    · have : (c < j ↔ c < j + 1) := by omega
      simp only [this]
  · have hd : td st a j < 10000 := Classical.byContradiction fun y => q (tI_m.mpr y)
    obtain ⟨g1, g2, g3⟩ := hA hd
    have gh := td_h hd
    have p1 := pc_1 (st a)
    have p2 := pc_1 (st j)
    rw [ex_N _ _ (by omega), tI_1 hd, pa_N hs1 ha gh.2, pa_N hs hj3 gh.1, nI_add, pk_sub (by omega)]
    refine ⟨by omega, (mm_ui z'.1 x j (nI (td st a j + pc (st a) - pc (st j))), z'.2), by rw [nI_1], by omega, fun c hc => ?_, ⟨fun b hb hb2 => (ru_n _ _ hb2).trans (hf.1 b hb hb2), hf.2⟩, hs⟩
    by_cases y : c = j
    · subst y
      show mm_ui z'.1 x c _ x c = _
      rw [ru_s, if_pos (by omega), tI_1 g2]
      congr 1
      omega
    · show mm_ui z'.1 x j _ x c = _
      rw [ru_i _ _ y, hr c hc]
      have : (c < j ↔ c < j + 1) := by omega
      simp only [this]
