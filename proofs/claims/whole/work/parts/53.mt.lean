/-! ===== the reference's times ===== -/
theorem hh_be {α β : Type} {x : Option α} {a : α} {F : α → Option β} {Q : β → Prop} (h : x = some a) (hf : hh_c (F a) Q) : hh_c (x.bind F) Q := by
  subst h
  exact hf
theorem hh_eq {α : Type} {x : Option α} {a : α} {Q : α → Prop} (h : x = some a) (hq : Q a) : hh_c x Q := ⟨a, h, hq⟩
/-- the cell on a side of a cell (36: none) -/
def sd (c s : Nat) : Nat := if s = 0 then (if c < 6 then 36 else c - 6) else if s = 1 then (if 30 ≤ c then 36 else c + 6) else if s = 2 then (if c % 6 = 0 then 36 else c - 1) else (if c % 6 = 5 then 36 else c + 1)
noncomputable def be_0 (c s : Nat) : Int32 := pX4_beside (nI c) (nI s) (fun _ _ => 0, fun _ _ => 0)
theorem be_1 : ∀ c, c < 36 → ∀ s, s < 4 → be_0 c s = if sd c s = 36 then -1 else nI (sd c s) := by decide +kernel
theorem be_N {c s : Nat} (z : mm_S) (hc : c < 36) (hs : s < 4) : pX4_beside (nI c) (nI s) z = if sd c s = 36 then -1 else nI (sd c s) := (show pX4_beside (nI c) (nI s) z = be_0 c s from rfl).trans (be_1 c hc s hs)
theorem sd_0 (c : Nat) : sd c 0 = if c < 6 then 36 else c - 6 := rfl
theorem sd_1 (c : Nat) : sd c 1 = if 30 ≤ c then 36 else c + 6 := rfl
theorem sd_2 (c : Nat) : sd c 2 = if c % 6 = 0 then 36 else c - 1 := rfl
theorem sd_3 (c : Nat) : sd c 3 = if c % 6 = 5 then 36 else c + 1 := rfl
theorem sd_ad {c : Nat} (hc : c < 36) (b : Nat) : ad c b ↔ ∃ s, s < 4 ∧ sd c s = b ∧ b < 36 := by
  constructor
  · rintro ⟨_, hb, h⟩
    rcases h with h | h | ⟨h, h2⟩ | ⟨h, h2⟩
    · exact ⟨1, by decide, by rw [sd_1, if_neg (by omega)]; omega, hb⟩
    · exact ⟨0, by decide, by rw [sd_0, if_neg (by omega)]; omega, hb⟩
    · exact ⟨3, by decide, by rw [sd_3, if_neg h2]; omega, hb⟩
    · exact ⟨2, by decide, by rw [sd_2, if_neg h2]; omega, hb⟩
  · rintro ⟨s, hs, h, hb⟩
    unfold ad
    have h4 : s = 0 ∨ s = 1 ∨ s = 2 ∨ s = 3 := by omega
    rcases h4 with rfl | rfl | rfl | rfl
    · rw [sd_0] at h
      by_cases q : c < 6
      · rw [if_pos q] at h; omega
      · rw [if_neg q] at h; omega
    · rw [sd_1] at h
      by_cases q : 30 ≤ c
      · rw [if_pos q] at h; omega
      · rw [if_neg q] at h; omega
    · rw [sd_2] at h
      by_cases q : c % 6 = 0
      · rw [if_pos q] at h; omega
      · rw [if_neg q] at h; omega
    · rw [sd_3] at h
      by_cases q : c % 6 = 5
      · rw [if_pos q] at h; omega
      · rw [if_neg q] at h; omega
/-- the reference's row of cells -/
def ms (w : mm_S) (st : Nat → Nat) : Prop := ∀ c, c < 36 → st c < 5 ∧ w.1 1 (15 + c) = nI (st c)
theorem m_stuffIs {w : mm_S} {st : Nat → Nat} {c : Nat} (h : ms w st) (hc : c < 36) : sX4_stuffIs (nI c) w = some (nI (st c), w) := by
  unfold sX4_stuffIs sX4_stuffIs_0
  have e : (15 : Int32) + nI c = nI (15 + c) := nI_add 15 c
  rw [e, nI_clamp (by omega), if_neg (by rintro (q | q); exact absurd q (nI_pos (by omega)); omega), (h c hc).2]
theorem m_isHole {w : mm_S} {st : Nat → Nat} {c : Nat} (h : ms w st) (hc : c < 36) : sX4_isHole (nI c) w = some (if st c = 2 then 1 else 0, w) := by
  unfold sX4_isHole sX4_isHole_0
  rw [m_stuffIs h hc]
  show (if nI (st c) = 2 then sX4_isHole_9 w else some (0, w)) = _
  have h5 := (h c hc).1
  have e : nI (st c) = 2 ↔ st c = 2 := nI_eq (b := 2) (by omega) (by decide)
  by_cases q : st c = 2
  · rw [if_pos (e.mpr q), if_pos q]; rfl
  · rw [if_neg (fun x => q (e.mp x)), if_neg q]
theorem m_pace : ∀ s, s < 5 → s ≠ 2 → pX4_pace (nI s) = nI (pc s) := by decide +kernel
theorem m_pace2 : ∀ s, s < 5 → pX4_pace (nI s) = nI (pc s) := by decide +kernel
def Tm (k : Nat) (w : mm_S) (c : Nat) : Nat := (w.1 k c).toNatClampNeg
def rT (k : Nat) (w : mm_S) : Prop := ∀ c, c < 36 → w.1 k c = nI (Tm k w c) ∧ Tm k w c ≤ 10000
def wt (st : Nat → Nat) (fr b c : Nat) : Nat := if fr = 0 then pc (st b) else pc (st c)
def fE (st : Nat → Nat) (fr b c e : Nat) : Prop := ad b c ∧ st c ≠ 2 ∧ e = wt st fr b c
theorem wt_1 (st : Nat → Nat) (fr b c : Nat) : 1 ≤ wt st fr b c ∧ wt st fr b c ≤ 6 := by
  unfold wt
  by_cases h : fr = 0
  · rw [if_pos h]; exact pc_1 _
  · rw [if_neg h]; exact pc_1 _
theorem fE_1 (st : Nat → Nat) : fE st 1 = tE st := by
  funext b c e
  simp [fE, tE, wt]
theorem fE_0 (st : Nat → Nat) : fE st 0 = bE st := by
  funext b c e
  simp [fE, bE, wt]
theorem Tm_u {k b v : Nat} {w : mm_S} (hv : v < 2 ^ 31) (c : Nat) : Tm k (mm_ui w.1 k b (nI v), w.2) c = if c = b then v else Tm k w c := by
  unfold Tm
  show (mm_ui w.1 k b (nI v) k c).toNatClampNeg = _
  by_cases h : c = b
  · subst h
    rw [ru_s, if_pos rfl, nI_clamp hv]
  · rw [ru_i _ _ h, if_neg h]
theorem rT_u {k b v : Nat} {w : mm_S} (h : rT k w) (hv : v ≤ 10000) : rT k (mm_ui w.1 k b (nI v), w.2) := by
  intro c hc
  rw [Tm_u (by omega)]
  by_cases q : c = b
  · subst q
    rw [if_pos rfl]
    exact ⟨ru_s _ _ _ _, hv⟩
  · rw [if_neg q]
    refine ⟨?_, (h c hc).2⟩
    show mm_ui w.1 k b (nI v) k c = _
    rw [ru_i _ _ q]
    exact (h c hc).1
def clz (st : Nat → Nat) (fr k : Nat) (w : mm_S) (c s : Nat) : Prop := sd c s < 36 → st (sd c s) ≠ 2 → Tm k w c + wt st fr c (sd c s) < 10000 → Tm k w (sd c s) ≤ Tm k w c + wt st fr c (sd c s)
/-- what holds all along: a row of ways' sums, no more in sum than M -/
def ft (st : Nat → Nat) (fr a k : Nat) (w0 w : mm_S) : Prop := rT k w ∧ (∀ c, c < 36 → Tm k w c < 10000 → wk_W (tS st a) (fE st fr) c (Tm k w c)) ∧ (∀ c j, tS st a c j → Tm k w c ≤ j) ∧ ∀ b, b ≠ k → w.1 b = w0.1 b
section FT
variable {st : Nat → Nat} {fr a k : Nat} {w0 : mm_S}
theorem lenM_36 {k : Nat} (hk : k = 5 ∨ k = 6 ∨ k = 7 ∨ k = 8 ∨ k = 12) : lenM k = 36 ∧ k ≠ 1 := by rcases hk with rfl | rfl | rfl | rfl | rfl <;> exact ⟨rfl, by decide⟩
theorem ms_fr {w : mm_S} (h : ms w0 st) (hf : ∀ b, b ≠ k → w.1 b = w0.1 b) (hk : k ≠ 1) : ms w st := fun c hc => by
  rw [hf 1 (Ne.symm hk)]
  exact h c hc
theorem m_in {c M : Nat} {w1 : mm_S} {nr : Nat} (hfr : fr < 2) (hk : lenM k = 36 ∧ k ≠ 1) (h0 : ms w0 st) (hc : c < 36) (hw : ft st fr a k w0 w1) (hnr : nr < 2) (hM : fb_sm (Tm k w1) 36 + nr ≤ M) (hcl : nr = 0 → ∀ c' s, c' < c → s < 4 → clz st fr k w1 c' s) :
    hh_c (sX4_findTimes_65 (nI fr) k (nI nr) (nI c) 0 w1) (fun r => ∃ nr' w', r = .inl (nI fr, k, nI nr', nI (c + 1), w') ∧ nr' < 2 ∧ ft st fr a k w0 w' ∧ fb_sm (Tm k w') 36 + nr' ≤ M ∧ (nr' = 0 → ∀ c' s, c' < c + 1 → s < 4 → clz st fr k w' c' s)) := by
  unfold sX4_findTimes_65
  refine hh_up (fun j s => ∃ nr' w', s = (nI fr, k, nI nr', nI c, nI j, w') ∧ nr' < 2 ∧ ft st fr a k w0 w' ∧ fb_sm (Tm k w') 36 + nr' ≤ M ∧ (nr' = 0 → (∀ c' s, c' < c → s < 4 → clz st fr k w' c' s) ∧ ∀ s, s < j → clz st fr k w' c s)) 4 (by decide) ⟨nr, w1, rfl, hnr, hw, hM, fun h => ⟨hcl h, fun s hs => absurd hs (Nat.not_lt_zero s)⟩⟩ ?_
  rintro j s hj ⟨nr', w', rfl, hnr', hft, hM', hcl'⟩
  obtain ⟨g1, g2, g3, g4⟩ := hft
  have hms := ms_fr h0 g4 hk.2
  have h4 : (4 : Int32) ≤ nI j ↔ 4 ≤ j := nI_leI (a := 4) (by decide) (by omega)
  have hcg : ¬ (nI c < 0 ∨ lenM k ≤ Int32.toNatClampNeg (nI c)) := by rw [hk.1]; exact nI_in hc (by decide)
  have hcc : Int32.toNatClampNeg (nI c) = c := nI_clamp (by omega)
  -- one that takes nothing in
  have nxt : (j < 4 → clz st fr k w' c j) → j < 4 → mm_mt (fun s' => j < 4 ∧ ∃ nr' w', s' = (nI fr, k, nI nr', nI c, nI (j + 1), w') ∧ nr' < 2 ∧ ft st fr a k w0 w' ∧ fb_sm (Tm k w') 36 + nr' ≤ M ∧ (nr' = 0 → (∀ c' s, c' < c → s < 4 → clz st fr k w' c' s) ∧ ∀ s, s < j + 1 → clz st fr k w' c s)) (fun r => ∃ nr' w', r = Sum.inl (nI fr, k, nI nr', nI (c + 1), w') ∧ nr' < 2 ∧ ft st fr a k w0 w' ∧ fb_sm (Tm k w') 36 + nr' ≤ M ∧ (nr' = 0 → ∀ c' s, c' < c + 1 → s < 4 → clz st fr k w' c' s)) (Sum.inl (nI fr, k, nI nr', nI c, nI j + 1, w') : (Int32 × Nat × Int32 × Int32 × Int32 × mm_S) ⊕ ((Int32 × Nat × Int32 × Int32 × mm_S) ⊕ ((Int32 × Nat × Int32 × mm_S) ⊕ mm_S))) := by
    intro hz hj4
    refine ⟨hj4, nr', w', by rw [nI_1], hnr', ⟨g1, g2, g3, g4⟩, hM', fun h => ⟨(hcl' h).1, fun s hs => ?_⟩⟩
    by_cases q : s < j
    · exact (hcl' h).2 s q
    · obtain rfl : s = j := by omega
      exact hz hj4
  unfold lX4_findTimes_65
  dsimp only
  refine hh_i (fun q => hh_v ⟨nr', w', by rw [nI_1], hnr', ⟨g1, g2, g3, g4⟩, hM', fun h c' s hc' hs => ?_⟩) (fun q1 => ?_)
  · by_cases x : c' < c
    · exact (hcl' h).1 c' s x hs
    · obtain rfl : c' = c := by omega
      have := h4.mp q
      exact (hcl' h).2 s (by omega)
  have hj4 : j < 4 := Nat.lt_of_not_le fun x => q1 (h4.mpr x)
  have hcg2 := hcg
  rw [hcc] at hcg2
  rw [if_neg hcg, hcc]
  have hTc := g1 c hc
  rw [hTc.1]
  have h1e4 : (10000 : Int32) ≤ nI (Tm k w' c) ↔ 10000 ≤ Tm k w' c := nI_leI (a := 10000) (by decide) (by omega)
  refine hh_i (fun q => hh_v ⟨nr', w', by rw [nI_1], hnr', ⟨g1, g2, g3, g4⟩, hM', fun h c' s hc' hs => ?_⟩) (fun q2 => ?_)
  · by_cases x : c' < c
    · exact (hcl' h).1 c' s x hs
    · obtain rfl : c' = c := by omega
      intro _ _ y
      have := h1e4.mp q
      omega
  have hT2 : Tm k w' c < 10000 := Nat.lt_of_not_le fun x => q2 (h1e4.mpr x)
  rw [be_N _ hc hj4]
  by_cases hb : sd c j = 36
  · rw [if_pos hb]
    refine hh_t (by decide) ?_
    unfold sX4_findTimes_104 sX4_findTimes_135
    refine hh_t (by decide) (hh_v (nxt (fun _ x => by omega) hj4))
  rw [if_neg hb]
  have hsd : sd c j < 36 := by
    have : sd c j ≤ 36 := by
      unfold sd
      repeat' split
      all_goals omega
    omega
  refine hh_f (nI_pos (by omega)) ?_
  refine hh_be (m_isHole hms hsd) ?_
  dsimp only
  by_cases hh : st (sd c j) = 2
  · rw [if_pos hh]
    refine hh_f (by decide) ?_
    unfold sX4_findTimes_104 sX4_findTimes_135
    refine hh_t (by decide) (hh_v (nxt (fun _ _ x => absurd hh x) hj4))
  rw [if_neg hh]
  refine hh_t rfl ?_
  -- the sum that would come
  have key : hh_c (sX4_findTimes_135 (nI fr) k (nI nr') (nI c) (nI j) (nI (sd c j)) (nI (Tm k w' c + wt st fr c (sd c j))) w') (mm_mt (fun s' => j < 4 ∧ ∃ nr' w', s' = (nI fr, k, nI nr', nI c, nI (j + 1), w') ∧ nr' < 2 ∧ ft st fr a k w0 w' ∧ fb_sm (Tm k w') 36 + nr' ≤ M ∧ (nr' = 0 → (∀ c' s, c' < c → s < 4 → clz st fr k w' c' s) ∧ ∀ s, s < j + 1 → clz st fr k w' c s)) (fun r => ∃ nr' w', r = Sum.inl (nI fr, k, nI nr', nI (c + 1), w') ∧ nr' < 2 ∧ ft st fr a k w0 w' ∧ fb_sm (Tm k w') 36 + nr' ≤ M ∧ (nr' = 0 → ∀ c' s, c' < c + 1 → s < 4 → clz st fr k w' c' s))) := by
    have hwt := wt_1 st fr c (sd c j)
    unfold sX4_findTimes_135
    have e1 : (10000 : Int32) ≤ nI (Tm k w' c + wt st fr c (sd c j)) ↔ 10000 ≤ Tm k w' c + wt st fr c (sd c j) := nI_leI (a := 10000) (by decide) (by omega)
    have hbg : ¬ (nI (sd c j) < 0 ∨ lenM k ≤ Int32.toNatClampNeg (nI (sd c j))) := by rw [hk.1]; exact nI_in hsd (by decide)
    refine hh_i (fun q => hh_v (nxt (fun _ _ _ x => ?_) hj4)) (fun q3 => hh_f hbg ?_)
    · have := e1.mp q
      omega
    have hbg2 := hbg
    rw [nI_clamp (show sd c j < 2 ^ 31 by omega)] at hbg2
    have hv : Tm k w' c + wt st fr c (sd c j) < 10000 := Nat.lt_of_not_le fun x => q3 (e1.mpr x)
    rw [nI_clamp (show sd c j < 2 ^ 31 by omega), (g1 _ hsd).1]
    have hTb := (g1 _ hsd).2
    refine hh_i (fun q => hh_v (nxt (fun _ _ _ _ => (nI_leI (by omega) (by omega)).mp q) hj4)) (fun q4 => hh_f hbg2 ?_)
    have hlt : Tm k w' c + wt st fr c (sd c j) < Tm k w' (sd c j) := Nat.lt_of_not_le fun x => q4 (nI_le x (by omega))
    unfold sX4_findTimes_158
    have hsm := fb_sm_upd (Tm k w') (Tm k w' c + wt st fr c (sd c j)) hsd
    have hcg2 : fb_sm (Tm k (mm_ui w'.1 k (sd c j) (nI (Tm k w' c + wt st fr c (sd c j))), w'.2)) 36 = fb_sm (fun q => if q = sd c j then Tm k w' c + wt st fr c (sd c j) else Tm k w' q) 36 := fb_sm_cong fun q _ => Tm_u (by omega) q
    refine hh_v ⟨hj4, 1, _, by rw [nI_1]; rfl, by decide, ⟨rT_u g1 (by omega), fun q hq hlt2 => ?_, fun q i hs => ?_, fun b hb => (ru_n _ _ hb).trans (g4 b hb)⟩, by omega, fun h => absurd h (by decide)⟩
    · rw [Tm_u (by omega)] at hlt2 ⊢
      by_cases x : q = sd c j
      · rw [if_pos x, x]
        exact wk_s (g2 c hc hT2) ⟨(sd_ad hc _).mpr ⟨j, hj4, rfl, hsd⟩, hh, rfl⟩
      · rw [if_neg x] at hlt2 ⊢
        exact g2 q hq hlt2
    · rw [Tm_u (by omega)]
      have := g3 q i hs
      by_cases x : q = sd c j
      · rw [if_pos x]
        subst x
        omega
      · rw [if_neg x]; exact this
  have hf01 : fr = 0 ∨ fr = 1 := by omega
  refine hh_f hcg2 ?_
  rcases hf01 with rfl | rfl
  · refine hh_t rfl ?_
    refine hh_be (m_stuffIs hms hc) ?_
    dsimp only
    rw [m_pace2 _ (hms c hc).1, hTc.1, nI_add]
    exact key
  · refine hh_f (by decide) ?_
    refine hh_be (m_stuffIs hms hsd) ?_
    dsimp only
    rw [m_pace2 _ (hms _ hsd).1, hTc.1, nI_add]
    exact key
theorem m_pass {M : Nat} {w1 : mm_S} (hfr : fr < 2) (hk : lenM k = 36 ∧ k ≠ 1) (h0 : ms w0 st) (hw : ft st fr a k w0 w1) (hM : fb_sm (Tm k w1) 36 ≤ M) :
    hh_c (sX4_findTimes_55 (nI fr) k 0 0 w1) (fun r => ∃ nr' w', r = .inl (nI fr, k, nI nr', w') ∧ nr' < 2 ∧ ft st fr a k w0 w' ∧ fb_sm (Tm k w') 36 + nr' ≤ M ∧ (nr' = 0 → ∀ c' s, c' < 36 → s < 4 → clz st fr k w' c' s)) := by
  unfold sX4_findTimes_55
  refine hh_up (fun j s => ∃ nr' w', s = (nI fr, k, nI nr', nI j, w') ∧ nr' < 2 ∧ ft st fr a k w0 w' ∧ fb_sm (Tm k w') 36 + nr' ≤ M ∧ (nr' = 0 → ∀ c' s, c' < j → s < 4 → clz st fr k w' c' s)) 36 (by decide) ⟨0, w1, rfl, by decide, hw, hM, fun _ c' s hc' => absurd hc' (Nat.not_lt_zero c')⟩ ?_
  rintro j s hj ⟨nr', w', rfl, hnr', hft, hM', hcl'⟩
  have h36 : (36 : Int32) ≤ nI j ↔ 36 ≤ j := nI_leI (a := 36) (by decide) (by omega)
  unfold lX4_findTimes_55
  dsimp only
  refine hh_i (fun q => hh_v ⟨nr', w', rfl, hnr', hft, hM', fun h c' s hc' hs => hcl' h c' s (by have := h36.mp q; omega) hs⟩) (fun q => ?_)
  have hj2 : j < 36 := Nat.lt_of_not_le fun x => q (h36.mpr x)
  refine hh_w (m_in hfr hk h0 hj2 hft hnr' hM' hcl') ?_
  rintro _ ⟨nr2, w2, rfl, c1, c2, c3, c4⟩
  exact ⟨hj2, nr2, w2, rfl, c1, c2, c3, c4⟩
theorem m_loop {w1 : mm_S} (hfr : fr < 2) (hk : lenM k = 36 ∧ k ≠ 1) (h0 : ms w0 st) (hw : ft st fr a k w0 w1) :
    hh_c (sX4_findTimes_41 (nI fr) k w1) (fun w' => (∀ c, c < 36 → w'.1 k c = nI (wk_d (tS st a) (fE st fr) c)) ∧ ∀ b, b ≠ k → w'.1 b = w0.1 b) := by
  unfold sX4_findTimes_41 sX4_findTimes_44
  refine hh_ms (fun s => ∃ nr w', s = (nI fr, k, nI nr, w') ∧ nr < 2 ∧ ft st fr a k w0 w' ∧ (nr = 0 → ∀ c s, c < 36 → s < 4 → clz st fr k w' c s)) (fun s => if s.2.2.1 = 0 then 0 else fb_sm (Tm s.2.1 s.2.2.2) 36 + 1) ⟨1, w1, rfl, by decide, hw, fun h => absurd h (by decide)⟩ ?_ ?_
  · dsimp only
    rw [if_neg (by decide)]
    have : fb_sm (Tm k w1) 36 ≤ 36 * 10000 := fb_sm_bound fun c hc => (hw.1 c hc).2
    omega
  rintro s ⟨nr, w', rfl, hnr, hft, hcl⟩
  unfold lX4_findTimes_44
  dsimp only
  have e0 : nI nr = 0 ↔ nr = 0 := nI_eq (b := 0) (by omega) (by decide)
  refine hh_i (fun q => hh_v ⟨fun c hc => ?_, hft.2.2.2⟩) (fun q => ?_)
  · rw [(hft.1 c hc).1]
    congr 1
    refine wk_fix (S := tS st a) (E := fE st fr) (fun c k h => h.2.1 ▸ h.1) (fun b c e h => ⟨h.1.1, h.1.2.1⟩) (fun c hc => (hft.1 c hc).2) hft.2.1 hft.2.2.1 (fun b c e he hlt => ?_) c hc
    obtain ⟨had, hh, rfl⟩ := he
    obtain ⟨s, hs, e1, _⟩ := (sd_ad had.1 c).mp had
    subst e1
    exact hcl (e0.mp q) b s had.1 hs had.2.1 hh hlt
  · obtain rfl : nr = 1 := by
      have : ¬ nr = 0 := fun x => q (e0.mpr x)
      omega
    refine hh_w (m_pass hfr hk h0 hft (Nat.le_refl _)) ?_
    rintro _ ⟨nr2, w2, rfl, c1, c2, c3, c4⟩
    refine ⟨⟨nr2, w2, rfl, c1, c2, c4⟩, ?_⟩
    dsimp only
    rw [if_neg q]
    have e2 : nI nr2 = 0 ↔ nr2 = 0 := nI_eq (b := 0) (by omega) (by decide)
    by_cases x : nr2 = 0
    · rw [if_pos (e2.mpr x)]; omega
    · rw [if_neg (fun y => x (e2.mp y))]; omega
/-- times from a cell, or to it, come into a row -/
theorem m_findTimes (hfr : fr < 2) (hk : lenM k = 36 ∧ k ≠ 1) (ha : a < 36) (h0 : ms w0 st) :
    hh_c (sX4_findTimes (nI a) (nI fr) k w0) (fun w' => (∀ c, c < 36 → w'.1 k c = nI (wk_d (tS st a) (fE st fr) c)) ∧ ∀ b, b ≠ k → w'.1 b = w0.1 b) := by
  unfold sX4_findTimes sX4_findTimes_0 sX4_findTimes_3
  refine hh_up (fun j s => ∃ w', s = (nI a, nI fr, k, nI j, w') ∧ (∀ c, c < j → w'.1 k c = nI 10000) ∧ ∀ b, b ≠ k → w'.1 b = w0.1 b) 36 (by decide) ⟨w0, rfl, fun c hc => absurd hc (Nat.not_lt_zero c), fun _ _ => rfl⟩ ?_
  rintro j s hj ⟨w', rfl, hr, hf⟩
  have h36 : (36 : Int32) ≤ nI j ↔ 36 ≤ j := nI_leI (a := 36) (by decide) (by omega)
  have hag : ¬ (nI a < 0 ∨ lenM k ≤ Int32.toNatClampNeg (nI a)) := by rw [hk.1]; exact nI_in ha (by decide)
  unfold lX4_findTimes_3 sX4_findTimes_17
  dsimp only
  refine hh_i (fun q => ?_) (fun q => ?_)
  · obtain rfl : j = 36 := by have := h36.mp q; omega
    have hT : ∀ c, c < 36 → Tm k w' c = 10000 := fun c hc => by
      unfold Tm
      rw [hr c hc, nI_clamp (by decide)]
    have hrT : rT k w' := fun c hc => by
      rw [hT c hc]
      exact ⟨hr c hc, Nat.le_refl _⟩
    refine hh_be (m_isHole (ms_fr h0 hf hk.2) ha) ?_
    dsimp only
    by_cases hh : st a = 2
    · rw [if_pos hh]
      refine hh_f (by decide) (hh_f hag (hh_map (m_loop (w0 := w0) hfr hk h0 ?_) (fun _ h => h)))
      rw [nI_clamp (by omega)]
      refine ⟨rT_u (v := 10000) hrT (Nat.le_refl _), fun c hc hlt => ?_, fun c i hs => absurd hh hs.2.2.2, fun b hb => (ru_n _ _ hb).trans (hf b hb)⟩
      have e := Tm_u (k := k) (b := a) (v := 10000) (w := w') (by decide) c
      have e2 : Tm k (mm_ui w'.1 k a 10000, w'.2) c = if c = a then 10000 else Tm k w' c := e
      rw [e2] at hlt
      by_cases x : c = a
      · rw [if_pos x] at hlt; omega
      · rw [if_neg x, hT c hc] at hlt; omega
    · rw [if_neg hh]
      refine hh_t rfl (hh_f hag (hh_map (m_loop (w0 := w0) hfr hk h0 ?_) (fun _ h => h)))
      rw [nI_clamp (by omega)]
      have e2 : ∀ c, Tm k (mm_ui w'.1 k a 0, w'.2) c = if c = a then 0 else Tm k w' c := fun c => Tm_u (k := k) (b := a) (v := 0) (w := w') (by decide) c
      refine ⟨rT_u (v := 0) hrT (Nat.zero_le _), fun c hc hlt => ?_, fun c i hs => ?_, fun b hb => (ru_n _ _ hb).trans (hf b hb)⟩
      · rw [e2] at hlt ⊢
        by_cases x : c = a
        · rw [if_pos x]; exact wk_0 ⟨ha, x, rfl, hh⟩
        · rw [if_neg x, hT c hc] at hlt; omega
      · rw [e2, if_pos hs.2.1]; exact Nat.zero_le _
  · have hj2 : j < 36 := Nat.lt_of_not_le fun x => q (h36.mpr x)
    have hjg : ¬ (nI j < 0 ∨ lenM k ≤ Int32.toNatClampNeg (nI j)) := by rw [hk.1]; exact nI_in hj2 (by decide)
    refine hh_f hjg (hh_v ⟨hj2, _, by rw [nI_1], fun c hc => ?_, fun b hb => (ru_n _ _ hb).trans (hf b hb)⟩)
    show mm_ui w'.1 k (nI j).toNatClampNeg 10000 k c = _
    rw [nI_clamp (by omega)]
    by_cases x : c = j
    · subst x
      exact ru_s _ _ _ _
    · rw [ru_i _ _ x]
      exact hr c (by omega)
end FT
theorem m_from {st : Nat → Nat} {a k : Nat} {w0 : mm_S} (hk : k = 5 ∨ k = 6 ∨ k = 7 ∨ k = 8) (ha : a < 36) (h0 : ms w0 st) : hh_c (sX4_findTimes (nI a) 1 k w0) (fun w' => (∀ c, c < 36 → w'.1 k c = nI (td st a c)) ∧ ∀ b, b ≠ k → w'.1 b = w0.1 b) := by
  have := m_findTimes (fr := 1) (a := a) (st := st) (k := k) (w0 := w0) (by decide) (lenM_36 (by omega)) ha h0
  rw [fE_1] at this
  exact this
theorem m_to {st : Nat → Nat} {a k : Nat} {w0 : mm_S} (hk : k = 5 ∨ k = 6 ∨ k = 7 ∨ k = 8) (ha : a < 36) (h0 : ms w0 st) : hh_c (sX4_findTimes (nI a) 0 k w0) (fun w' => (∀ c, c < 36 → w'.1 k c = nI (bd st a c)) ∧ ∀ b, b ≠ k → w'.1 b = w0.1 b) := by
  have := m_findTimes (fr := 0) (a := a) (st := st) (k := k) (w0 := w0) (by decide) (lenM_36 (by omega)) ha h0
  rw [fE_0] at this
  exact this
theorem m_timeOf {st : Nat → Nat} {a c : Nat} {w0 : mm_S} (ha : a < 36) (hc : c < 36) (h0 : ms w0 st) : hh_c (sX4_timeOf (nI a) (nI c) w0) (fun q => q.1 = nI (td st a c) ∧ ∀ b, b ≠ 5 → q.2.1 b = w0.1 b) := by
  unfold sX4_timeOf sX4_timeOf_0
  refine hh_bd (m_from (k := 5) (by decide) ha h0) (fun w' h => ?_)
  unfold sX4_timeOf_10
  refine hh_f (nI_in hc (by decide)) (hh_v ⟨?_, h.2⟩)
  rw [nI_clamp (by omega)]
  exact h.1 c hc
