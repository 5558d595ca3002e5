/-! ===== costs of ways to dig: the reference ===== -/
def cs (st : Nat → Nat) (c : Nat) : Nat := if st c = 2 then 0 else 1
def cS (st : Nat → Nat) (op : Nat → Bool) (a c k : Nat) : Prop := a < 36 ∧ c = a ∧ k = cs st a ∧ op a = true
def cE (st : Nat → Nat) (op : Nat → Bool) (b c e : Nat) : Prop := ad b c ∧ op c = true ∧ e = cs st c
/-- the least cost of a way to dig from a to c (10000: none) -/
noncomputable def cd (st : Nat → Nat) (op : Nat → Bool) (a c : Nat) : Nat := wk_d (cS st op a) (cE st op) c
theorem cs_1 (st : Nat → Nat) (c : Nat) : cs st c ≤ 1 := by unfold cs; split <;> omega
theorem sh_0 {x : Int64} (h : tb_S x) {c : Nat} (hc : c < 36) : lg_cmp ((x >>> (Int32.toInt64 (nI c) &&& 63)) &&& 1) 0 = 0 ↔ tb x c = false := by
  obtain ⟨n, hn, rfl⟩ := tb_SN h
  rw [lgc_0, wb_c c (by omega), pf_shr (d := c) (by rw [wb_tb, wb_sm c (by omega), BitVec.toNat_ofNat, Nat.mod_eq_of_lt (by omega)]) (by omega)]
  have hlt : n / 2 ^ c < 2 ^ 36 := Nat.lt_of_le_of_lt (Nat.div_le_self _ _) hn
  have e1 : lN (n / 2 ^ c) &&& (1 : Int64) = lN (n / 2 ^ c &&& 1) := wb_and (a := n / 2 ^ c) (b := 1) (by omega) (by decide)
  rw [e1, Nat.and_one_is_mod, tb_lN, Nat.testBit_eq_decide_div_mod_eq]
  have : n / 2 ^ c % 2 < 2 := Nat.mod_lt _ (by decide)
  rw [show (0 : Int64) = lN 0 from rfl, lN_eq (by omega) (by decide)]
  simp only [show c < 64 by omega, decide_true, Bool.true_and, decide_eq_false_iff_not]
  omega
theorem m_costOf {w : mm_S} {st : Nat → Nat} {c : Nat} (h : ms w st) (hc : c < 36) : sX4_costOf (nI c) w = some (nI (cs st c), w) := by
  unfold sX4_costOf sX4_costOf_0
  rw [m_isHole h hc]
  unfold cs
  by_cases q : st c = 2
  · rw [if_pos q, if_pos q]; rfl
  · rw [if_neg q, if_neg q]; rfl
def clc (st : Nat → Nat) (x : Int64) (w : mm_S) (c s : Nat) : Prop := sd c s < 36 → tb x (sd c s) = true → Tm 12 w c + cs st (sd c s) < 10000 → Tm 12 w (sd c s) ≤ Tm 12 w c + cs st (sd c s)
/-- what holds all along: a row of ways' costs -/
def fc (st : Nat → Nat) (x : Int64) (a : Nat) (w0 w : mm_S) : Prop := rT 12 w ∧ (∀ c, c < 36 → Tm 12 w c < 10000 → wk_W (cS st (tb x) a) (cE st (tb x)) c (Tm 12 w c)) ∧ (∀ c j, cS st (tb x) a c j → Tm 12 w c ≤ j) ∧ ∀ b, b ≠ 12 → w.1 b = w0.1 b
section FC
variable {st : Nat → Nat} {x : Int64} {a : Nat} {w0 : mm_S}
theorem mc_in {c M : Nat} {w1 : mm_S} {nr : Nat} (hx : tb_S x) (h0 : ms w0 st) (hc : c < 36) (hw : fc st x a w0 w1) (hnr : nr < 2) (hM : fb_sm (Tm 12 w1) 36 + nr ≤ M) (hcl : nr = 0 → ∀ c' s, c' < c → s < 4 → clc st x w1 c' s) :
    hh_c (sX4_findCosts_90 x (nI nr) (nI c) 0 w1) (fun r => ∃ nr' w', r = .inl (x, nI nr', nI (c + 1), w') ∧ nr' < 2 ∧ fc st x a w0 w' ∧ fb_sm (Tm 12 w') 36 + nr' ≤ M ∧ (nr' = 0 → ∀ c' s, c' < c + 1 → s < 4 → clc st x w' c' s)) := by
  unfold sX4_findCosts_90
  refine hh_up (fun j s => ∃ nr' w', s = (x, nI nr', nI c, nI j, w') ∧ nr' < 2 ∧ fc st x a w0 w' ∧ fb_sm (Tm 12 w') 36 + nr' ≤ M ∧ (nr' = 0 → (∀ c' s, c' < c → s < 4 → clc st x w' c' s) ∧ ∀ s, s < j → clc st x w' c s)) 4 (by decide) ⟨nr, w1, rfl, hnr, hw, hM, fun h => ⟨hcl h, fun s hs => absurd hs (Nat.not_lt_zero s)⟩⟩ ?_
  rintro j s hj ⟨nr', w', rfl, hnr', hft, hM', hcl'⟩
  obtain ⟨g1, g2, g3, g4⟩ := hft
  have hms := ms_fr h0 g4 (by decide)
  have h4 : (4 : Int32) ≤ nI j ↔ 4 ≤ j := nI_leI (a := 4) (by decide) (by omega)
  have hcg := gI (show c < 36 from hc) (by decide)
  have hcc : Int32.toNatClampNeg (nI c) = c := nI_clamp (by omega)
  have nxt : (j < 4 → clc st x w' c j) → j < 4 → mm_mt (fun s' => j < 4 ∧ ∃ nr' w', s' = (x, nI nr', nI c, nI (j + 1), w') ∧ nr' < 2 ∧ fc st x a w0 w' ∧ fb_sm (Tm 12 w') 36 + nr' ≤ M ∧ (nr' = 0 → (∀ c' s, c' < c → s < 4 → clc st x w' c' s) ∧ ∀ s, s < j + 1 → clc st x w' c s)) (fun r => ∃ nr' w', r = Sum.inl (x, nI nr', nI (c + 1), w') ∧ nr' < 2 ∧ fc st x a w0 w' ∧ fb_sm (Tm 12 w') 36 + nr' ≤ M ∧ (nr' = 0 → ∀ c' s, c' < c + 1 → s < 4 → clc st x w' c' s)) (Sum.inl (x, nI nr', nI c, nI j + 1, w') : (Int64 × Int32 × Int32 × Int32 × mm_S) ⊕ ((Int64 × Int32 × Int32 × mm_S) ⊕ ((Int64 × Int32 × mm_S) ⊕ mm_S))) := by
    intro hz hj4
    refine ⟨hj4, nr', w', by rw [nI_1], hnr', ⟨g1, g2, g3, g4⟩, hM', fun h => ⟨(hcl' h).1, fun s hs => ?_⟩⟩
    by_cases q : s < j
    · exact (hcl' h).2 s q
    · obtain rfl : s = j := by omega
      exact hz hj4
  unfold lX4_findCosts_90
  dsimp only
  refine hh_i (fun q => hh_v ⟨nr', w', by rw [nI_1], hnr', ⟨g1, g2, g3, g4⟩, hM', fun h c' s hc' hs => ?_⟩) (fun q1 => ?_)
  · by_cases y : c' < c
    · exact (hcl' h).1 c' s y hs
    · obtain rfl : c' = c := by omega
      have := h4.mp q
      exact (hcl' h).2 s (by omega)
  have hj4 : j < 4 := Nat.lt_of_not_le fun y => q1 (h4.mpr y)
  have hcg2 := hcg
  rw [hcc] at hcg2
  rw [if_neg hcg, hcc]
  have hTc := g1 c hc
  rw [hTc.1]
  have h1e4 : (10000 : Int32) ≤ nI (Tm 12 w' c) ↔ 10000 ≤ Tm 12 w' c := nI_leI (a := 10000) (by decide) (by omega)
  refine hh_i (fun q => hh_v ⟨nr', w', by rw [nI_1], hnr', ⟨g1, g2, g3, g4⟩, hM', fun h c' s hc' hs => ?_⟩) (fun q2 => ?_)
  · by_cases y : c' < c
    · exact (hcl' h).1 c' s y hs
    · obtain rfl : c' = c := by omega
      intro _ _ y
      have := h1e4.mp q
      omega
  have hT2 : Tm 12 w' c < 10000 := Nat.lt_of_not_le fun y => q2 (h1e4.mpr y)
  rw [be_N _ hc hj4]
  by_cases hb : sd c j = 36
  · rw [if_pos hb]
    refine hh_t (by decide) ?_
    unfold sX4_findCosts_156
    refine hh_t (by decide) (hh_v (nxt (fun _ y => by omega) hj4))
  rw [if_neg hb]
  have hsd : sd c j < 36 := by
    have : sd c j ≤ 36 := by
      unfold sd
      repeat' split
      all_goals omega
    omega
  refine hh_f (nI_pos (by omega)) ?_
  have hs0 := sh_0 hx hsd
  refine hh_i (fun q => ?_) (fun q3 => ?_)
  · unfold sX4_findCosts_156
    refine hh_t (by decide) (hh_v (nxt (fun _ _ y => ?_) hj4))
    rw [hs0.mp q] at y
    cases y
  have hop : tb x (sd c j) = true := by
    cases y : tb x (sd c j) with
    | true => rfl
    | false => exact absurd (hs0.mpr y) q3
  refine hh_f hcg2 ?_
  refine hh_be (m_costOf hms hsd) ?_
  have hc1 := cs_1 st (sd c j)
  dsimp only
  rw [nI_add]
  unfold sX4_findCosts_156 sX4_findCosts_185
  have e1 : (10000 : Int32) ≤ nI (Tm 12 w' c + cs st (sd c j)) ↔ 10000 ≤ Tm 12 w' c + cs st (sd c j) := nI_leI (a := 10000) (by decide) (by omega)
  have hbg := gI (show sd c j < 36 from hsd) (by decide)
  refine hh_i (fun q => hh_v (nxt (fun _ _ _ y => ?_) hj4)) (fun q3 => hh_f hbg ?_)
  · have := e1.mp q
    omega
  have hbg2 := hbg
  rw [nI_clamp (show sd c j < 2 ^ 31 by omega)] at hbg2
  have hv : Tm 12 w' c + cs st (sd c j) < 10000 := Nat.lt_of_not_le fun y => q3 (e1.mpr y)
  rw [nI_clamp (show sd c j < 2 ^ 31 by omega), (g1 _ hsd).1]
  have hTb := (g1 _ hsd).2
  refine hh_i (fun q => hh_v (nxt (fun _ _ _ _ => (nI_leI (by omega) (by omega)).mp q) hj4)) (fun q4 => hh_f hbg2 ?_)
  have hlt : Tm 12 w' c + cs st (sd c j) < Tm 12 w' (sd c j) := Nat.lt_of_not_le fun y => q4 (nI_le y (by omega))
  have hsm := fb_sm_upd (Tm 12 w') (Tm 12 w' c + cs st (sd c j)) hsd
  have hcg3 : fb_sm (Tm 12 (mm_ui w'.1 12 (sd c j) (nI (Tm 12 w' c + cs st (sd c j))), w'.2)) 36 = fb_sm (fun q => if q = sd c j then Tm 12 w' c + cs st (sd c j) else Tm 12 w' q) 36 := fb_sm_cong fun q _ => Tm_u (by omega) q
  refine hh_v ⟨hj4, 1, _, by rw [nI_1]; rfl, by decide, ⟨rT_u g1 (by omega), fun q hq hlt2 => ?_, fun q i hs => ?_, fun b hb => (ru_n _ _ hb).trans (g4 b hb)⟩, by omega, fun h => absurd h (by decide)⟩
  · rw [Tm_u (by omega)] at hlt2 ⊢
    by_cases y : q = sd c j
    · rw [if_pos y, y]
      exact wk_s (g2 c hc hT2) ⟨(sd_ad hc _).mpr ⟨j, hj4, rfl, hsd⟩, hop, rfl⟩
    · rw [if_neg y] at hlt2 ⊢
      exact g2 q hq hlt2
  · rw [Tm_u (by omega)]
    have := g3 q i hs
    by_cases y : q = sd c j
    · rw [if_pos y]
      subst y
      omega
    · rw [if_neg y]; exact this
theorem mc_pass {M : Nat} {w1 : mm_S} (hx : tb_S x) (h0 : ms w0 st) (hw : fc st x a w0 w1) (hM : fb_sm (Tm 12 w1) 36 ≤ M) :
    hh_c (sX4_findCosts_80 x 0 0 w1) (fun r => ∃ nr' w', r = .inl (x, nI nr', w') ∧ nr' < 2 ∧ fc st x a w0 w' ∧ fb_sm (Tm 12 w') 36 + nr' ≤ M ∧ (nr' = 0 → ∀ c' s, c' < 36 → s < 4 → clc st x w' c' s)) := by
  unfold sX4_findCosts_80
  refine hh_up (fun j s => ∃ nr' w', s = (x, nI nr', nI j, w') ∧ nr' < 2 ∧ fc st x a w0 w' ∧ fb_sm (Tm 12 w') 36 + nr' ≤ M ∧ (nr' = 0 → ∀ c' s, c' < j → s < 4 → clc st x w' c' s)) 36 (by decide) ⟨0, w1, rfl, by decide, hw, hM, fun _ c' s hc' => absurd hc' (Nat.not_lt_zero c')⟩ ?_
  rintro j s hj ⟨nr', w', rfl, hnr', hft, hM', hcl'⟩
  have h36 : (36 : Int32) ≤ nI j ↔ 36 ≤ j := nI_leI (a := 36) (by decide) (by omega)
  unfold lX4_findCosts_80
  dsimp only
  refine hh_i (fun q => hh_v ⟨nr', w', rfl, hnr', hft, hM', fun h c' s hc' hs => hcl' h c' s (by have := h36.mp q; omega) hs⟩) (fun q => ?_)
  have hj2 : j < 36 := Nat.lt_of_not_le fun y => q (h36.mpr y)
  refine hh_w (mc_in hx h0 hj2 hft hnr' hM' hcl') ?_
  rintro _ ⟨nr2, w2, rfl, c1, c2, c3, c4⟩
  exact ⟨hj2, nr2, w2, rfl, c1, c2, c3, c4⟩
theorem mc_loop {w1 : mm_S} {nr : Nat} (hx : tb_S x) (hnr : nr < 2) (h0 : ms w0 st) (hw : fc st x a w0 w1) (hz : nr = 0 → ∀ c s, c < 36 → s < 4 → clc st x w1 c s) :
    hh_c (sX4_findCosts_65 x (nI nr) w1) (fun w' => (∀ c, c < 36 → w'.1 12 c = nI (cd st (tb x) a c)) ∧ ∀ b, b ≠ 12 → w'.1 b = w0.1 b) := by
  unfold sX4_findCosts_65 sX4_findCosts_69
  refine hh_ms (fun s => ∃ nr w', s = (x, nI nr, w') ∧ nr < 2 ∧ fc st x a w0 w' ∧ (nr = 0 → ∀ c s, c < 36 → s < 4 → clc st x w' c s)) (fun s => if s.2.1 = 0 then 0 else fb_sm (Tm 12 s.2.2) 36 + 1) ⟨nr, w1, rfl, hnr, hw, hz⟩ ?_ ?_
  · dsimp only
    have : fb_sm (Tm 12 w1) 36 ≤ 36 * 10000 := fb_sm_bound fun c hc => (hw.1 c hc).2
    split <;> omega
  rintro s ⟨nr, w', rfl, hnr, hft, hcl⟩
  unfold lX4_findCosts_69
  dsimp only
  have e0 : nI nr = 0 ↔ nr = 0 := nI_eq (b := 0) (by omega) (by decide)
  refine hh_i (fun q => hh_v ⟨fun c hc => ?_, hft.2.2.2⟩) (fun q => ?_)
  · rw [(hft.1 c hc).1]
    congr 1
    refine wk_fix (S := cS st (tb x) a) (E := cE st (tb x)) (fun c k h => h.2.1 ▸ h.1) (fun b c e h => ⟨h.1.1, h.1.2.1⟩) (fun c hc => (hft.1 c hc).2) hft.2.1 hft.2.2.1 (fun b c e he hlt => ?_) c hc
    obtain ⟨had, hh, rfl⟩ := he
    obtain ⟨s, hs, e1, _⟩ := (sd_ad had.1 c).mp had
    subst e1
    exact hcl (e0.mp q) b s had.1 hs had.2.1 hh hlt
  · obtain rfl : nr = 1 := by
      have : ¬ nr = 0 := fun y => q (e0.mpr y)
      omega
    refine hh_w (mc_pass hx h0 hft (Nat.le_refl _)) ?_
    rintro _ ⟨nr2, w2, rfl, c1, c2, c3, c4⟩
    refine ⟨⟨nr2, w2, rfl, c1, c2, c4⟩, ?_⟩
    dsimp only
    rw [if_neg q]
    have e2 : nI nr2 = 0 ↔ nr2 = 0 := nI_eq (b := 0) (by omega) (by decide)
    by_cases y : nr2 = 0
    · rw [if_pos (e2.mpr y)]; omega
    · rw [if_neg (fun t => y (e2.mp t))]; omega
theorem m_findCosts (hx : tb_S x) (ha : a < 36) (h0 : ms w0 st) :
    hh_c (sX4_findCosts (nI a) x w0) (fun w' => (∀ c, c < 36 → w'.1 12 c = nI (cd st (tb x) a c)) ∧ ∀ b, b ≠ 12 → w'.1 b = w0.1 b) := by
  unfold sX4_findCosts sX4_findCosts_0 sX4_findCosts_3
  refine hh_up (fun j s => ∃ w', s = (nI a, x, nI j, w') ∧ (∀ c, c < j → w'.1 12 c = nI 10000) ∧ ∀ b, b ≠ 12 → w'.1 b = w0.1 b) 36 (by decide) ⟨w0, rfl, fun c hc => absurd hc (Nat.not_lt_zero c), fun _ _ => rfl⟩ ?_
  rintro j s hj ⟨w', rfl, hr, hf⟩
  have h36 : (36 : Int32) ≤ nI j ↔ 36 ≤ j := nI_leI (a := 36) (by decide) (by omega)
  have hag := gI (show a < 36 from ha) (by decide)
  unfold lX4_findCosts_3 sX4_findCosts_20
  dsimp only
  refine hh_i (fun q => ?_) (fun q => ?_)
  · obtain rfl : j = 36 := by have := h36.mp q; omega
    have hT : ∀ c, c < 36 → Tm 12 w' c = 10000 := fun c hc => by
      unfold Tm
      rw [hr c hc, nI_clamp (by decide)]
    have hrT : rT 12 w' := fun c hc => by
      rw [hT c hc]
      exact ⟨hr c hc, Nat.le_refl _⟩
    have hs1 := sh_1 hx ha
    refine hh_i (fun q1 => ?_) (fun q1 => ?_)
    · refine hh_be (m_costOf (ms_fr h0 hf (by decide)) ha) ?_
      dsimp only
      refine hh_f hag (hh_map (mc_loop (nr := 1) (w0 := w0) (st := st) (a := a) hx (by decide) h0 ?_ (fun h => absurd h (by decide))) (fun _ h => h))
      rw [nI_clamp (by omega)]
      have hc1 := cs_1 st a
      have e2 : ∀ c, Tm 12 (mm_ui w'.1 12 a (nI (cs st a)), w'.2) c = if c = a then cs st a else Tm 12 w' c := fun c => Tm_u (by omega) c
      refine ⟨rT_u hrT (by omega), fun c hc hlt => ?_, fun c i hs => ?_, fun b hb => (ru_n _ _ hb).trans (hf b hb)⟩
      · rw [e2] at hlt ⊢
        by_cases y : c = a
        · rw [if_pos y]; exact wk_0 ⟨ha, y, rfl, hs1.mp q1⟩
        · rw [if_neg y, hT c hc] at hlt; omega
      · rw [e2, if_pos hs.2.1, hs.2.2.1]
        exact Nat.le_refl _
    · refine hh_f hag (hh_map (mc_loop (nr := 0) (w0 := w0) (st := st) (a := a) hx (by decide) h0 ?_ ?_) (fun _ h => h))
      all_goals rw [nI_clamp (by omega)]
      all_goals have e2 : ∀ c, Tm 12 (mm_ui w'.1 12 a 10000, w'.2) c = if c = a then 10000 else Tm 12 w' c := fun c => Tm_u (v := 10000) (by decide) c
      · refine ⟨rT_u (v := 10000) hrT (by omega), fun c hc hlt => ?_, fun c i hs => absurd (hs1.mpr hs.2.2.2) q1, fun b hb => (ru_n _ _ hb).trans (hf b hb)⟩
        rw [e2] at hlt
        by_cases y : c = a
        · rw [if_pos y] at hlt; omega
        · rw [if_neg y, hT c hc] at hlt; omega
      · intro _ c s hc _ _ _ hlt
        rw [e2] at hlt
        by_cases y : c = a
        · rw [if_pos y] at hlt; omega
        · rw [if_neg y, hT c hc] at hlt; omega
  · have hj2 : j < 36 := Nat.lt_of_not_le fun y => q (h36.mpr y)
    refine hh_f (gI hj2 (by decide)) (hh_v ⟨hj2, _, by rw [nI_1], fun c hc => ?_, fun b hb => (ru_n _ _ hb).trans (hf b hb)⟩)
    show mm_ui w'.1 12 (nI j).toNatClampNeg 10000 12 c = _
    rw [nI_clamp (by omega)]
    by_cases y : c = j
    · subst y
      exact ru_s _ _ _ _
    · rw [ru_i _ _ y]
      exact hr c (by omega)
end FC
/-! ===== dry cells ===== -/
noncomputable def dryP (st : Nat → Nat) (c : Nat) : Bool := @decide (st c ≠ 3 ∧ ∀ b, ad c b → st b ≠ 3) (Classical.propDecidable _)
theorem dryP_t {st : Nat → Nat} {c : Nat} : dryP st c = true ↔ st c ≠ 3 ∧ ∀ b, ad c b → st b ≠ 3 := by unfold dryP; exact @decide_eq_true_iff _ (Classical.propDecidable _)
theorem m_dry {w : mm_S} {st : Nat → Nat} (h : ms w st) : hh_c (sX4_dryNow w) (fun q => q = (ls64 (dryP st) 36, w)) := by
  unfold sX4_dryNow sX4_dryNow_0 sX4_dryNow_4
  refine hh_up (fun j t => t = (ls64 (dryP st) j, nI j, w)) 36 (by decide) rfl ?_
  rintro j _ hj rfl
  have h36 : (36 : Int32) ≤ nI j ↔ 36 ≤ j := nI_leI (a := 36) (by decide) (by omega)
  unfold lX4_dryNow_4
  dsimp only
  refine hh_i (fun q => hh_v ?_) (fun q => ?_)
  · obtain rfl : j = 36 := by have := h36.mp q; omega
    rfl
  have hj2 : j < 36 := Nat.lt_of_not_le fun y => q (h36.mpr y)
  have hst := (h j hj2).1
  rw [m_stuffIs h hj2]
  have e3 : nI (st j) = 3 ↔ st j = 3 := nI_eq (b := 3) (by omega) (by decide)
  -- the four sides
  have side : ∀ d : Int32, (d = 0 ∨ d = 1) → (d = 0 ↔ st j = 3) → hh_c (sX4_dryNow_29 (ls64 (dryP st) j) (nI j) d 0 w) (mm_mt (fun s' : Int64 × Int32 × mm_S => j < 36 ∧ s' = (ls64 (dryP st) (j + 1), nI (j + 1), w)) (fun q : Int64 × mm_S => q = (ls64 (dryP st) 36, w))) := by
    intro d hd hd0
    unfold sX4_dryNow_29
    refine hh_up (fun i t => ∃ d' : Int32, t = (ls64 (dryP st) j, nI j, d', nI i, w) ∧ (d' = 0 ∨ d' = 1) ∧ (d' = 0 ↔ st j = 3 ∨ ∃ s, s < i ∧ sd j s < 36 ∧ st (sd j s) = 3)) 4 (by decide) ⟨d, rfl, hd, ?_⟩ ?_
    · rw [hd0]
      exact ⟨fun t => Or.inl t, fun t => t.elim id fun ⟨s, hs, _⟩ => absurd hs (by omega)⟩
    rintro i _ hi ⟨d', rfl, hd', hiff⟩
    have h4 : (4 : Int32) ≤ nI i ↔ 4 ≤ i := nI_leI (a := 4) (by decide) (by omega)
    unfold lX4_dryNow_29 sX4_dryNow_63
    dsimp only
    refine hh_i (fun q => ?_) (fun q => ?_)
    · obtain rfl : i = 4 := by have := h4.mp q; omega
      have hdr : dryP st j = true ↔ ¬ d' = 0 := by
        rw [dryP_t, hiff]
        constructor
        · rintro ⟨t1, t2⟩ (t3 | ⟨s, hs, t3, t4⟩)
          · exact t1 t3
          · exact t2 _ ((sd_ad hj2 _).mpr ⟨s, hs, rfl, t3⟩) t4
        · intro t
          refine ⟨fun y => t (Or.inl y), fun b hb y => t (Or.inr ?_)⟩
          obtain ⟨s, hs, e, hb36⟩ := (sd_ad hj2 b).mp hb
          subst e
          exact ⟨s, hs, hb36, y⟩
      refine hh_i (fun y => hh_v ⟨hj2, ?_⟩) (fun y => hh_v ⟨hj2, ?_⟩)
      · have hf : ¬ dryP st j = true := fun t => hdr.mp t y
        rw [nI_1, or0L]
        simp only [ls64, if_neg hf]
      · rw [nI_1]
        simp only [ls64, if_pos (hdr.mpr y)]
    have hi4 : i < 4 := Nat.lt_of_not_le fun y => q (h4.mpr y)
    have up : ∀ P : Prop, (P ↔ sd j i < 36 ∧ st (sd j i) = 3) → ∀ d2 : Int32, (d2 = 0 ↔ d' = 0 ∨ P) → (d2 = 0 ↔ st j = 3 ∨ ∃ s, s < i + 1 ∧ sd j s < 36 ∧ st (sd j s) = 3) := by
      intro P hP d2 h2
      rw [h2, hiff, hP]
      constructor
      · rintro ((t | ⟨s, hs, t⟩) | t)
        · exact Or.inl t
        · exact Or.inr ⟨s, by omega, t⟩
        · exact Or.inr ⟨i, by omega, t⟩
      · rintro (t | ⟨s, hs, t⟩)
        · exact Or.inl (Or.inl t)
        · by_cases y : s = i
          · subst y; exact Or.inr t
          · exact Or.inl (Or.inr ⟨s, by omega, t⟩)
    refine hh_i (fun y => hh_v ⟨hi4, 0, by rw [nI_1], Or.inl rfl, up (sd j i < 36 ∧ st (sd j i) = 3) Iff.rfl 0 ⟨fun _ => Or.inl y, fun _ => rfl⟩⟩) (fun y => ?_)
    have hd1 : d' = 1 := hd'.resolve_left y
    subst hd1
    have h10 : ¬ (1 : Int32) = 0 := by decide
    rw [be_N _ hj2 hi4]
    by_cases hb : sd j i = 36
    · rw [if_pos hb]
      refine hh_t (by decide) (hh_v ⟨hi4, 1, by rw [nI_1], Or.inr rfl, up False ⟨False.elim, fun t => by omega⟩ 1 ⟨fun t => absurd t h10, fun t => t.elim id False.elim⟩⟩)
    rw [if_neg hb]
    have hsd : sd j i < 36 := by
      have : sd j i ≤ 36 := by
        unfold sd
        repeat' split
        all_goals omega
      omega
    refine hh_f (nI_pos (by omega)) ?_
    refine hh_be (m_stuffIs h hsd) ?_
    have hst2 := (h _ hsd).1
    have e4 : nI (st (sd j i)) = 3 ↔ st (sd j i) = 3 := nI_eq (b := 3) (by omega) (by decide)
    dsimp only
    refine hh_i (fun t => hh_v ⟨hi4, 0, by rw [nI_1], Or.inl rfl, up _ Iff.rfl 0 ⟨fun _ => Or.inr ⟨hsd, e4.mp t⟩, fun _ => rfl⟩⟩) (fun t => hh_v ⟨hi4, 1, by rw [nI_1], Or.inr rfl, up False ⟨False.elim, fun x => t (e4.mpr x.2)⟩ 1 ⟨fun t => absurd t h10, fun t => t.elim id False.elim⟩⟩)
  show hh_c (if nI (st j) = 3 then _ else _) _
  unfold sX4_dryNow_19
  refine hh_i (fun y => side 0 (Or.inl rfl) ⟨fun _ => e3.mp y, fun _ => rfl⟩) (fun y => side 1 (Or.inr rfl) ⟨fun t => absurd t (by decide), fun t => absurd (e3.mpr t) y⟩)
theorem x_dryC {o : Nat} {z : mm_S} {st : Nat → Nat} (h : sb o z st) : pX1_dryCells o z = ls64 (dryP st) 36 := by
  have e : pX1_cellsOf o 3 z = z.2 (o + 1) 3 := cof_N (s := 3) z (by decide)
  obtain ⟨g1, g2⟩ := h.2 3 (by decide)
  unfold pX1_dryCells
  rw [e]
  refine tb_extS (tb_andS tb_SA) tb_lsS fun i hi => ?_
  rw [tb_and, tb_ALL, tb_not _ (by omega), tb_or, tb_ls (by decide), g2 i hi]
  have hbs := tb_bes g1 hi
  have key : dryP st i = !(decide (st i = 3) || tb (pX3_besides (z.2 (o + 1) 3)) i) := by
    rw [Bool.eq_iff_iff, dryP_t, Bool.not_eq_true', Bool.or_eq_false_iff, decide_eq_false_iff_not]
    constructor
    · rintro ⟨t1, t2⟩
      refine ⟨t1, ?_⟩
      cases y : tb (pX3_besides (z.2 (o + 1) 3)) i with
      | false => rfl
      | true =>
        obtain ⟨b, hb, had⟩ := hbs.mp y
        have hb36 := had.1
        rw [g2 b hb36, decide_eq_true_eq] at hb
        exact absurd hb (t2 b (ad_s had))
    · rintro ⟨t1, t2⟩
      refine ⟨t1, fun b had y => ?_⟩
      have : tb (pX3_besides (z.2 (o + 1) 3)) i = true := hbs.mpr ⟨b, by rw [g2 b had.2.1, decide_eq_true y], ad_s had⟩
      rw [t2] at this
      cases this
  rw [key]
