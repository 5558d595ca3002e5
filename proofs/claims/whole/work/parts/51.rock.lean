/-! ===== times: what both mean ===== -/
def pc (s : Nat) : Nat := if s = 0 then 2 else if s = 1 then 6 else if s = 3 then 3 else 1
theorem pc_1 (s : Nat) : 1 ≤ pc s ∧ pc s ≤ 6 := by
  unfold pc
  by_cases h0 : s = 0
  · rw [if_pos h0]; omega
  · rw [if_neg h0]
    by_cases h1 : s = 1
    · rw [if_pos h1]; omega
    · rw [if_neg h1]
      by_cases h3 : s = 3
      · rw [if_pos h3]; omega
      · rw [if_neg h3]; omega
def tS (st : Nat → Nat) (a c k : Nat) : Prop := a < 36 ∧ c = a ∧ k = 0 ∧ st a ≠ 2
def tE (st : Nat → Nat) (b c e : Nat) : Prop := ad b c ∧ st c ≠ 2 ∧ e = pc (st c)
def bE (st : Nat → Nat) (b c e : Nat) : Prop := ad b c ∧ st c ≠ 2 ∧ e = pc (st b)
abbrev tW (st : Nat → Nat) (a c k : Nat) : Prop := wk_W (tS st a) (tE st) c k
/-- TIME from a to c (10000: none) -/
noncomputable def td (st : Nat → Nat) (a c : Nat) : Nat := wk_d (tS st a) (tE st) c
/-- the same, from c to a -/
noncomputable def bd (st : Nat → Nat) (a c : Nat) : Nat := wk_d (tS st a) (bE st) c
theorem tW_c {st : Nat → Nat} {a c k : Nat} (h : tW st a c k) : c < 36 := by
  rcases wk_inv h with q | ⟨b, j, e, _, q, _⟩
  · exact q.2.1 ▸ q.1
  · exact q.1.2.1
theorem bd_1 {st : Nat → Nat} {a : Nat} : ∀ c k, wk_W (tS st a) (tE st) c k → ∃ k', wk_W (tS st a) (bE st) c k' ∧ k' + pc (st c) = k + pc (st a) := by
  refine wk_ind (fun c k h => ?_) (fun b j c e _ ih he => ?_)
  · have h' := h
    obtain ⟨_, rfl, rfl, _⟩ := h
    exact ⟨0, wk_0 h', rfl⟩
  · obtain ⟨k', h1, h2⟩ := ih
    refine ⟨k' + pc (st b), wk_s h1 ⟨he.1, he.2.1, rfl⟩, ?_⟩
    have := he.2.2
    omega
theorem bd_2 {st : Nat → Nat} {a : Nat} : ∀ c k, wk_W (tS st a) (bE st) c k → ∃ k', wk_W (tS st a) (tE st) c k' ∧ k + pc (st c) = k' + pc (st a) := by
  refine wk_ind (fun c k h => ?_) (fun b j c e _ ih he => ?_)
  · have h' := h
    obtain ⟨_, rfl, rfl, _⟩ := h
    exact ⟨0, wk_0 h', rfl⟩
  · obtain ⟨k', h1, h2⟩ := ih
    refine ⟨k' + pc (st c), wk_s h1 ⟨he.1, he.2.1, rfl⟩, ?_⟩
    have := he.2.2
    omega
/-- all ways are short -/
def tdb (st : Nat → Nat) (a : Nat) : Prop := ∀ c k, tW st a c k → td st a c ≤ 216
theorem bd_td {st : Nat → Nat} {a c : Nat} (h : tdb st a) : (td st a c < 10000 → td st a c ≤ 216 ∧ bd st a c < 10000 ∧ bd st a c + pc (st c) = td st a c + pc (st a)) ∧ (¬ td st a c < 10000 → td st a c = 10000 ∧ bd st a c = 10000) := by
  have b1 := pc_1 (st a)
  have b2 := pc_1 (st c)
  constructor
  · intro q
    have w := wk_dW q
    have l := h c _ w
    obtain ⟨k', h1, h2⟩ := bd_1 c _ w
    have l2 := wk_dm h1
    have h2 : k' + pc (st c) = td st a c + pc (st a) := h2
    have e0 : bd st a c ≤ k' := l2
    have w2 := wk_dW (S := tS st a) (E := bE st) (c := c) (show bd st a c < 10000 by omega)
    obtain ⟨k'', h3, h4⟩ := bd_2 c _ w2
    have l3 : td st a c ≤ k'' := wk_dm h3
    have h4 : bd st a c + pc (st c) = k'' + pc (st a) := h4
    omega
  · intro q
    have e : td st a c = 10000 := by
      have : td st a c ≤ 10000 := wk_dle c
      omega
    refine ⟨e, wk_dN fun k hk => ?_⟩
    obtain ⟨k', h3, _⟩ := bd_2 c k hk
    have := h c k' h3
    omega
/-! ===== sound in the class's rock ===== -/
/-- the sets are the cells' stuffs -/
def sb (o : Nat) (z : mm_S) (st : Nat → Nat) : Prop := (∀ c, c < 36 → st c < 5) ∧ ∀ s, s < 5 → tb_S (z.2 (o + 1) s) ∧ ∀ c, c < 36 → tb (z.2 (o + 1) s) c = decide (st c = s)
def pend (st : Nat → Nat) (a t s c : Nat) : Prop := (t = 0 ∧ tS st a c s) ∨ ∃ b j e, j < t ∧ tW st a b j ∧ (∀ i, i < j → ¬ tW st a b i) ∧ tE st b c e ∧ s = j + e
def bfs (st : Nat → Nat) (a o t : Nat) (z : mm_S) : Prop :=
  sb o z st ∧ tb_S (z.2 o 2) ∧ (∀ i, i < 8 → tb_S (z.2 (o + 2) i)) ∧ (∀ c, c < 36 → (tb (z.2 o 2) c = true ↔ ∃ k, k < t ∧ tW st a c k)) ∧
  (∀ s, t ≤ s → s < t + 8 → ∀ c, c < 36 → tb (z.2 o 2) c = false → (tb (z.2 (o + 2) (s % 8)) c = true ↔ pend st a t s c)) ∧
  ∃ l, z.1 o 3 = nI l ∧ (∀ c s, c < 36 → tb (z.2 o 2) c = false → pend st a t s c → s ≤ l) ∧ l ≤ 6 * fb_ct (tb (z.2 o 2)) 36 ∧ l ≤ t + 5
theorem rk_slN {t : Nat} (h : t < 2 ^ 31) : rk_sl (nI t) = t % 8 := by
  unfold rk_sl
  rw [pk_andN (by omega) 3 (by decide), nI_clamp (by omega)]
theorem rk_pc : ∀ j, j < 5 → j ≠ 2 → pX3_at14 46 (nI j) = nI (pc j) := by decide +kernel
theorem rk_up (g : Nat → Int64) (k i : Nat) (y : Int64) (c : Nat) : tb (vp_updL g k (g k ||| y) i) c = (tb (g i) c || (decide (i = k) && tb y c)) := by
  unfold vp_updL
  by_cases h : i = k
  · subst h; simp [tb_or]
  · simp [h]
theorem rk_inb {t : Nat} (ht : t < 2 ^ 30) (nx : Int64) (sets g : Nat → Int64) (i c : Nat) {s : Nat} (hs : s < 5) (hb : ∀ j, j < 5 → tb (sets j) c = decide (s = j)) :
    tb (rk_in (nI t) nx sets 5 0 g i) c = (tb (g i) c || (tb nx c && (decide (s ≠ 2) && decide (i = (t + pc s) % 8)))) := by
  have e0 : rk_sl (nI t + pX3_at14 46 (nI 0)) = (t + pc 0) % 8 := by rw [rk_pc 0 (by decide) (by decide), nI_add, rk_slN (by have := pc_1 0; omega)]
  have e1 : rk_sl (nI t + pX3_at14 46 (nI 1)) = (t + pc 1) % 8 := by rw [rk_pc 1 (by decide) (by decide), nI_add, rk_slN (by have := pc_1 1; omega)]
  have e3 : rk_sl (nI t + pX3_at14 46 (nI 3)) = (t + pc 3) % 8 := by rw [rk_pc 3 (by decide) (by decide), nI_add, rk_slN (by have := pc_1 3; omega)]
  have e4 : rk_sl (nI t + pX3_at14 46 (nI 4)) = (t + pc 4) % 8 := by rw [rk_pc 4 (by decide) (by decide), nI_add, rk_slN (by have := pc_1 4; omega)]
  simp only [rk_in, Nat.zero_add, Nat.reduceAdd, Nat.reduceEqDiff, if_true, if_false, e0, e1, e3, e4, rk_up, tb_and]
  rw [hb 0 (by decide), hb 1 (by decide), hb 3 (by decide), hb 4 (by decide)]
  have hs5 : s = 0 ∨ s = 1 ∨ s = 2 ∨ s = 3 ∨ s = 4 := by omega
  rcases hs5 with rfl | rfl | rfl | rfl | rfl <;> simp <;> cases tb nx c <;> simp
theorem rk_inS {t : Nat} (nx : Int64) (hn : tb_S nx) (sets : Nat → Int64) : ∀ (k j : Nat) (g : Nat → Int64), (∀ i, i < 8 → tb_S (g i)) → ∀ i, i < 8 → tb_S (rk_in (nI t) nx sets k j g i)
  | 0, _, g, hg => hg
  | k + 1, j, g, hg => by
    rw [rk_in_s]
    refine rk_inS nx hn sets k (j + 1) _ (fun i hi => ?_)
    by_cases h : j = 2
    · rw [if_pos h]; exact hg i hi
    · rw [if_neg h]
      intro q hq
      rw [rk_up, hg i hi q hq, tb_and, hn q hq]
      simp
/-- where the loop ends all is reached -/
theorem bfs_end {st : Nat → Nat} {a o t : Nat} {z : mm_S} (h : bfs st a o t z) (he : 216 < t ∨ z.1 o 3 < nI t) (ht2 : t < 1000) : ∀ c k, tW st a c k → ∃ k', k' < t ∧ tW st a c k' := by
  obtain ⟨h1, h2, h3, h4, h5, l, h6, h7, h8, h9⟩ := h
  have hl : l < t := by
    have := fb_ct_le (tb (z.2 o 2)) 36
    rcases he with q | q
    · omega
    · rw [h6] at q
      exact (nI_ltI (by omega) (by omega)).mp q
  have ht : 0 < t := by omega
  refine wk_ind (fun c k hs => ⟨0, ht, ?_⟩) (fun b j c e hb ih he => ?_)
  · have := hs.2.2.1
    subst this
    exact wk_0 hs
  · obtain ⟨j1, hj1, hw1⟩ := ih
    obtain ⟨j0, hw0, hm0⟩ := wk_least ⟨j1, hw1⟩
    have hj0 : j0 < t := by
      refine Classical.byContradiction fun q => hm0 j1 (by omega) hw1
    have hc := he.1.2.1
    cases hr : tb (z.2 o 2) c with
    | true => exact (h4 c hc).mp hr
    | false =>
      have := h7 c (j0 + e) hc hr (Or.inr ⟨b, j0, e, hj0, hw0, hm0, he, rfl⟩)
      exact ⟨j0 + e, by omega, wk_s hw0 he⟩
theorem bfs_step {st : Nat → Nat} {a o t : Nat} {z : mm_S} (h : bfs st a o t z) (ht : t ≤ 216) (hg : ¬ z.1 o 3 < nI t) :
    bfs st a o (t + 1) (tX1_cellsComeIntoAt o (nI t) z).2 ∧ (∀ c, c < 36 → (tb (tX1_cellsComeIntoAt o (nI t) z).1 c = true ↔ tW st a c t ∧ ∀ i, i < t → ¬ tW st a c i)) ∧ tb_S (tX1_cellsComeIntoAt o (nI t) z).1 ∧
    (∀ b, b ≠ o → (tX1_cellsComeIntoAt o (nI t) z).2.1 b = z.1 b) ∧ (∀ b, b ≠ o → b ≠ o + 2 → (tX1_cellsComeIntoAt o (nI t) z).2.2 b = z.2 b) := by
  obtain ⟨h1, h2, h3, h4, h5, l, h6, h7, h8, h9⟩ := h
  have hl : t ≤ l := by
    rw [h6] at hg
    have := fb_ct_le (tb (z.2 o 2)) 36
    exact Nat.le_of_not_lt fun q => hg (nI_lt q (by omega))
  have hsl : rk_sl (nI t) = t % 8 := rk_slN (by omega)
  have hS : tb_S (rk_he o (nI t) z) := by
    unfold rk_he
    rw [hsl]
    exact tb_andS (h3 _ (by omega))
  have hW0 : ∀ c k, tS st a c k → k = 0 := fun c k q => q.2.2.1
  -- the cells that come now
  have H : ∀ c, c < 36 → (tb (rk_he o (nI t) z) c = true ↔ tW st a c t ∧ ∀ i, i < t → ¬ tW st a c i) := by
    intro c hc
    unfold rk_he
    rw [hsl, tb_and, tb_not _ (by omega)]
    constructor
    · intro q
      rw [Bool.and_eq_true, Bool.not_eq_true'] at q
      obtain ⟨q1, q2⟩ := q
      have q3 := (h5 t (Nat.le_refl _) (by omega) c hc q2).mp q1
      refine ⟨?_, fun i hi hw => ?_⟩
      · rcases q3 with ⟨rfl, q4⟩ | ⟨b, j, e, _, hw, _, he, rfl⟩
        · exact wk_0 q4
        · exact wk_s hw he
      · have := (h4 c hc).mpr ⟨i, hi, hw⟩
        rw [q2] at this
        cases this
    · rintro ⟨q1, q2⟩
      have hr : tb (z.2 o 2) c = false := by
        cases hr : tb (z.2 o 2) c with
        | false => rfl
        | true =>
          obtain ⟨k, hk, hw⟩ := (h4 c hc).mp hr
          exact absurd hw (q2 k hk)
      rw [hr, Bool.not_false, Bool.and_true]
      refine (h5 t (Nat.le_refl _) (by omega) c hc hr).mpr ?_
      rcases wk_inv q1 with q | ⟨b, j, e, hw, he, q⟩
      · exact Or.inl ⟨hW0 c t q, q⟩
      · have he1 := (pc_1 (st c)).1
        have he2 := he.2.2
        refine Or.inr ⟨b, j, e, by omega, hw, fun i hi hwi => ?_, he, q⟩
        exact q2 (i + e) (by omega) (wk_s hwi he)
  have hnone : ∀ c k, c < 36 → tb (z.2 o 2) c = false → ¬ (k < t ∧ tW st a c k) := fun c k hc hr q => by
    have := (h4 c hc).mpr ⟨k, q⟩
    rw [hr] at this
    cases this
  by_cases hz : lg_cmp (rk_he o (nI t) z) 0 = 0
  · -- nothing comes now
    have eu : tX1_cellsComeIntoAt o (nI t) z = (0, (z.1, mm_rw z.2 (o + 2) (vp_updL (z.2 (o + 2)) (rk_sl (nI t)) 0))) := by
      unfold tX1_cellsComeIntoAt
      rw [if_pos hz]
    rw [eu]
    have hz0 := (lgc_0 _ _).mp hz
    have hno : ∀ c, c < 36 → ¬ (tW st a c t ∧ ∀ i, i < t → ¬ tW st a c i) := fun c hc q => by
      have := (H c hc).mpr q
      rw [hz0, tb_0] at this
      cases this
    have hstep : ∀ c, c < 36 → ((∃ k, k < t + 1 ∧ tW st a c k) ↔ ∃ k, k < t ∧ tW st a c k) := by
      intro c hc
      constructor
      · rintro ⟨k, hk, hw⟩
        by_cases q : k < t
        · exact ⟨k, q, hw⟩
        · obtain rfl : k = t := by omega
          refine Classical.byContradiction fun hx => hno c hc ⟨hw, fun i hi hwi => hx ⟨i, hi, hwi⟩⟩
      · rintro ⟨k, hk, hw⟩
        exact ⟨k, by omega, hw⟩
    have hpend : ∀ c s, c < 36 → t < s → (pend st a (t + 1) s c ↔ pend st a t s c) := by
      intro c s hc hs
      unfold pend
      constructor
      · rintro (⟨q, _⟩ | ⟨b, j, e, hj, hw, hm, he, q⟩)
        · omega
        · by_cases q2 : j < t
          · exact Or.inr ⟨b, j, e, q2, hw, hm, he, q⟩
          · obtain rfl : j = t := by omega
            exact absurd ⟨hw, hm⟩ (hno b he.1.1)
      · rintro (⟨_, q⟩ | ⟨b, j, e, hj, hw, hm, he, q⟩)
        · have := hW0 c s q
          omega
        · exact Or.inr ⟨b, j, e, by omega, hw, hm, he, q⟩
    have ne : o + 1 ≠ o + 2 := by omega
    have ne2 : o ≠ o + 2 := by omega
    refine ⟨⟨⟨h1.1, fun s hs => ?_⟩, ?_, fun i hi => ?_, fun c hc => ?_, fun s hs1 hs2 c hc hr => ?_, l, h6, fun c s hc hr hp => ?_, ?_, by omega⟩, fun c hc => ?_, tb_S0, fun b _ => rfl, fun b _ hb => mm_rw_n _ _ hb⟩
    all_goals try dsimp only
    all_goals try dsimp only at *
    · rw [mm_rw_n _ _ ne]; exact h1.2 s hs
    · rw [mm_rw_n _ _ ne2]; exact h2
    · show tb_S (mm_rw z.2 (o + 2) _ (o + 2) i)
      rw [mm_rw_s]
      unfold vp_updL
      by_cases q : i = rk_sl (nI t)
      · rw [if_pos q]; exact tb_S0
      · rw [if_neg q]; exact h3 i hi
    · rw [mm_rw_n _ _ ne2, hstep c hc]; exact h4 c hc
    · rw [mm_rw_n _ _ ne2] at hr
      rw [mm_rw_s, hpend c s hc (by omega)]
      unfold vp_updL
      rw [hsl]
      by_cases q : s % 8 = t % 8
      · rw [if_pos q, tb_0]
        have hs8 : s = t + 8 := by omega
        constructor
        · intro x; cases x
        · rintro (⟨_, x⟩ | ⟨b, j, e, hj, _, _, he, x⟩)
          · have := hW0 c s x; omega
          · have e1 := (pc_1 (st c)).2
            have e2 := he.2.2
            omega
      · rw [if_neg q]
        exact h5 s (by omega) (by omega) c hc hr
    · rw [mm_rw_n _ _ ne2] at hr
      refine Nat.le_of_not_lt fun q => ?_
      have hp' := (hpend c s hc (by omega)).mp hp
      have := h7 c s hc hr hp'
      omega
    · rw [mm_rw_n _ _ ne2]; exact h8
    · constructor
      · intro x
        rw [tb_0] at x
        cases x
      · intro x; exact absurd x (hno c hc)
  · -- something comes
    have eu : tX1_cellsComeIntoAt o (nI t) z = (rk_he o (nI t) z, (if lg_cmp (rk_nx o (nI t) z) 0 = 0 then z.1 else mm_ui z.1 o 3 (nI t + 6), mm_rw (mm_rw z.2 o (vp_updL (z.2 o) 2 (z.2 o 2 ||| rk_he o (nI t) z))) (o + 2) (rk_in (nI t) (rk_nx o (nI t) z) (z.2 (o + 1)) 5 0 (vp_updL (z.2 (o + 2)) (rk_sl (nI t)) 0)))) := by
      unfold tX1_cellsComeIntoAt
      rw [if_neg hz]
    rw [eu]
    generalize hHe : rk_he o (nI t) z = he at *
    have hne : ∃ c, c < 36 ∧ tb he c = true := by
      refine Classical.byContradiction fun hx => hz ((lgc_0 _ _).mpr ((tb_zS hS).mpr fun i hi => ?_))
      cases q : tb he i with
      | false => rfl
      | true => exact absurd ⟨i, hi, q⟩ hx
    have hnxS : tb_S (rk_nx o (nI t) z) := by
      unfold rk_nx
      rw [hHe]
      exact tb_andS (tb_besS hS)
    have hnx : ∀ c, c < 36 → (tb (rk_nx o (nI t) z) c = true ↔ (∃ b, tb he b = true ∧ ad b c) ∧ tb (z.2 o 2 ||| he) c = false) := by
      intro c hc
      unfold rk_nx
      rw [hHe, tb_and, tb_not _ (by omega), Bool.and_eq_true, Bool.not_eq_true', tb_bes hS hc]
    generalize hNx : rk_nx o (nI t) z = nx at *
    have ne : o + 1 ≠ o + 2 := by omega
    have ne2 : o ≠ o + 2 := by omega
    have ne3 : o + 1 ≠ o := by omega
    have eR : mm_rw (mm_rw z.2 o (vp_updL (z.2 o) 2 (z.2 o 2 ||| he))) (o + 2) (rk_in (nI t) nx (z.2 (o + 1)) 5 0 (vp_updL (z.2 (o + 2)) (rk_sl (nI t)) 0)) o 2 = z.2 o 2 ||| he := by
      rw [mm_rw_n _ _ ne2, mm_rw_s]
      simp [vp_updL]
    have hheb : ∀ b, tb he b = true → b < 36 := fun b q => by
      refine Classical.byContradiction fun x => ?_
      rw [hS b (by omega)] at q
      cases q
    have hrch : ∀ c, c < 36 → (tb (z.2 o 2 ||| he) c = true ↔ ∃ k, k < t + 1 ∧ tW st a c k) := by
      intro c hc
      rw [tb_or, Bool.or_eq_true, h4 c hc, H c hc]
      constructor
      · rintro (⟨k, hk, hw⟩ | ⟨hw, _⟩)
        · exact ⟨k, by omega, hw⟩
        · exact ⟨t, by omega, hw⟩
      · rintro ⟨k, hk, hw⟩
        by_cases q : ∃ i, i < t ∧ tW st a c i
        · exact Or.inl q
        · refine Or.inr ⟨?_, fun i hi hwi => q ⟨i, hi, hwi⟩⟩
          by_cases q2 : k < t
          · exact absurd ⟨k, q2, hw⟩ q
          · obtain rfl : k = t := by omega
            exact hw
    have hct : fb_ct (tb (z.2 o 2)) 36 + 1 ≤ fb_ct (tb (z.2 o 2 ||| he)) 36 := by
      obtain ⟨c, hc, hcb⟩ := hne
      have hcr : tb (z.2 o 2) c = false := by
        cases q : tb (z.2 o 2) c with
        | false => rfl
        | true =>
          obtain ⟨k, hk, hw⟩ := (h4 c hc).mp q
          exact absurd hw (((H c hc).mp hcb).2 k hk)
      have e1 := fb_ct_upd (tb (z.2 o 2)) true hc
      have e2 : fb_ct (fun k => if k = c then true else tb (z.2 o 2) k) 36 ≤ fb_ct (tb (z.2 o 2 ||| he)) 36 := by
        refine fb_ct_sub fun k _ hk => ?_
        rw [tb_or]
        by_cases q : k = c
        · subst q; rw [hcb, Bool.or_true]
        · simp only [if_neg q] at hk
          rw [hk, Bool.true_or]
      rw [hcr] at e1
      simp only [Bool.false_eq_true, if_false, if_true] at e1
      omega
    have hpend : ∀ c s, c < 36 → t < s → tb (z.2 o 2 ||| he) c = false → (pend st a (t + 1) s c ↔ pend st a t s c ∨ (tb nx c = true ∧ st c ≠ 2 ∧ s = t + pc (st c))) := by
      intro c s hc hs hr
      constructor
      · rintro (⟨q, _⟩ | ⟨b, j, e, hj, hw, hm, hE, q⟩)
        · omega
        · by_cases q2 : j < t
          · exact Or.inl (Or.inr ⟨b, j, e, q2, hw, hm, hE, q⟩)
          · obtain rfl : j = t := by omega
            have hb := (H b hE.1.1).mpr ⟨hw, hm⟩
            exact Or.inr ⟨(hnx c hc).mpr ⟨⟨b, hb, hE.1⟩, hr⟩, hE.2.1, by rw [q, hE.2.2]⟩
      · rintro ((⟨_, q⟩ | ⟨b, j, e, hj, hw, hm, hE, q⟩) | ⟨q1, q2, q3⟩)
        · have := hW0 c s q
          omega
        · exact Or.inr ⟨b, j, e, by omega, hw, hm, hE, q⟩
        · obtain ⟨⟨b, hb, had⟩, _⟩ := (hnx c hc).mp q1
          obtain ⟨hw, hm⟩ := (H b (hheb b hb)).mp hb
          exact Or.inr ⟨b, t, pc (st c), by omega, hw, hm, ⟨had, q2, rfl⟩, q3⟩
    have hl2 : ∃ l', (if lg_cmp nx 0 = 0 then z.1 else mm_ui z.1 o 3 (nI t + 6)) o 3 = nI l' ∧ l ≤ l' ∧ (∀ c, c < 36 → tb nx c = true → t + 6 ≤ l') ∧ l' ≤ t + 6 ∧ l' ≤ 6 * fb_ct (tb (z.2 o 2 ||| he)) 36 := by
      by_cases q : lg_cmp nx 0 = 0
      · rw [if_pos q]
        have q0 := (lgc_0 _ _).mp q
        refine ⟨l, h6, Nat.le_refl _, fun c _ hc => ?_, by omega, by omega⟩
        rw [q0, tb_0] at hc
        cases hc
      · rw [if_neg q, ru_s]
        refine ⟨t + 6, nI_add t 6, by omega, fun _ _ _ => Nat.le_refl _, Nat.le_refl _, by omega⟩
    obtain ⟨l', e6, g1, g2, g3, g4⟩ := hl2
    refine ⟨⟨⟨h1.1, fun s hs => ?_⟩, ?_, fun i hi => ?_, fun c hc => ?_, fun s hs1 hs2 c hc hr => ?_, l', e6, fun c s hc hr hp => ?_, ?_, by omega⟩, fun c hc => H c hc, hS, fun b hb => ?_, fun b hb hb2 => ?_⟩
    all_goals try dsimp only
    all_goals try dsimp only at *
    · rw [mm_rw_n _ _ ne, mm_rw_n _ _ ne3]; exact h1.2 s hs
    · rw [eR]
      exact tb_orS h2 hS
    · show tb_S (mm_rw _ (o + 2) _ (o + 2) i)
      rw [mm_rw_s]
      refine rk_inS nx hnxS _ 5 0 _ (fun i hi => ?_) i hi
      unfold vp_updL
      by_cases q : i = rk_sl (nI t)
      · rw [if_pos q]; exact tb_S0
      · rw [if_neg q]; exact h3 i hi
    · rw [eR]; exact hrch c hc
    · rw [eR] at hr
      have hr0 : tb (z.2 o 2) c = false := by
        rw [tb_or] at hr
        exact (Bool.or_eq_false_iff.mp hr).1
      rw [mm_rw_s, rk_inb (s := st c) (by omega) nx _ _ (s % 8) c (h1.1 c hc) (fun j hj => (h1.2 j hj).2 c hc), hpend c s hc (by omega) hr, Bool.or_eq_true]
      have eold : tb (vp_updL (z.2 (o + 2)) (rk_sl (nI t)) 0 (s % 8)) c = true ↔ pend st a t s c := by
        unfold vp_updL
        rw [hsl]
        by_cases q : s % 8 = t % 8
        · rw [if_pos q, tb_0]
          have hs8 : s = t + 8 := by omega
          constructor
          · intro x; cases x
          · rintro (⟨_, x⟩ | ⟨b, j, e, hj, _, _, hE, x⟩)
            · have := hW0 c s x; omega
            · have e1 := (pc_1 (st c)).2
              have e2 := hE.2.2
              omega
        · rw [if_neg q]
          exact h5 s (by omega) (by omega) c hc hr0
      rw [eold]
      have p1 := pc_1 (st c)
      simp only [Bool.and_eq_true, decide_eq_true_eq]
      constructor
      · rintro (x | ⟨x1, x2, x3⟩)
        · exact Or.inl x
        · exact Or.inr ⟨x1, x2, by omega⟩
      · rintro (x | ⟨x1, x2, x3⟩)
        · exact Or.inl x
        · exact Or.inr ⟨x1, x2, by omega⟩
    · rw [eR] at hr
      have hr0 : tb (z.2 o 2) c = false := by
        rw [tb_or] at hr
        exact (Bool.or_eq_false_iff.mp hr).1
      refine Nat.le_of_not_lt fun q => ?_
      rcases (hpend c s hc (by omega) hr).mp hp with x | ⟨x1, _, x3⟩
      · have := h7 c s hc hr0 x
        omega
      · have := g2 c hc x1
        have p1 := pc_1 (st c)
        omega
    · rw [eR]; exact g4
    · show (if lg_cmp nx 0 = 0 then z.1 else mm_ui z.1 o 3 (nI t + 6)) b = z.1 b
      by_cases q : lg_cmp nx 0 = 0
      · rw [if_pos q]
      · rw [if_neg q, ru_n _ _ hb]
    · show mm_rw _ (o + 2) _ b = z.2 b
      rw [mm_rw_n _ _ hb2, mm_rw_n _ _ hb]
theorem lenX_2 {o : Nat} (h : o = 2 ∨ o = 14 ∨ o = 26) : lenX (o + 2) = 8 := by rcases h with rfl | rfl | rfl <;> rfl
theorem nI_n0 : ∀ k : Nat, k < 100 → ¬ nI k < 0 := fun k hk => nI_pos (by omega)
theorem cof_N {o : Nat} (z : mm_S) {s : Nat} (hs : s < 5) : pX1_cellsOf o (nI s) z = z.2 (o + 1) s := by
  unfold pX1_cellsOf
  rw [if_neg (nI_pos (by omega)), if_neg (show ¬ (5 : Int32) ≤ nI s from nI_ge hs (by decide)), nI_clamp (by omega)]
theorem bfs_0 {st : Nat → Nat} {a o : Nat} {z : mm_S} (ho : o = 2 ∨ o = 14 ∨ o = 26) (ha : a < 36) (h : sb o z st) :
    bfs st a o 0 (tX1_knock o (nI a) z) ∧ (∀ b, b ≠ o → (tX1_knock o (nI a) z).1 b = z.1 b) ∧ (∀ b, b ≠ o → b ≠ o + 2 → (tX1_knock o (nI a) z).2 b = z.2 b) := by
  have ne : o + 1 ≠ o := by omega
  have ne1 : o + 1 ≠ o + 2 := by omega
  have ne2 : o ≠ o + 2 := by omega
  have ne3 : o + 2 ≠ o := by omega
  have e1 : ∀ k : mm_S, pX1_cellsOf o 2 k = k.2 (o + 1) 2 := fun k => cof_N (s := 2) k (by decide)
  have eZ : tX1_knock o (nI a) z = (mm_ui z.1 o 3 0, mm_ul (mm_ul (mm_rw z.2 (o + 2) (mm_fr 8 0 (z.2 (o + 2)))) (o + 2) 0 (pX3_setOf (nI a) &&& (z.2 (o + 1) 2 ^^^ (-1)))) o 2 0) := by
    unfold tX1_knock tJ7_fill_d0a16
    rw [lenX_2 ho]
    simp only [e1, mm_rw_n _ _ ne1]
  rw [eZ]
  have eR : mm_ul (mm_ul (mm_rw z.2 (o + 2) (mm_fr 8 0 (z.2 (o + 2)))) (o + 2) 0 (pX3_setOf (nI a) &&& (z.2 (o + 1) 2 ^^^ (-1)))) o 2 0 o 2 = 0 := rl_s _ _ _ _
  have eC : ∀ i, i < 8 → mm_ul (mm_ul (mm_rw z.2 (o + 2) (mm_fr 8 0 (z.2 (o + 2)))) (o + 2) 0 (pX3_setOf (nI a) &&& (z.2 (o + 1) 2 ^^^ (-1)))) o 2 0 (o + 2) i = if i = 0 then pX3_setOf (nI a) &&& (z.2 (o + 1) 2 ^^^ (-1)) else 0 := by
    intro i hi
    rw [rl_n _ _ ne3]
    by_cases q : i = 0
    · subst q
      rw [rl_s, if_pos rfl]
    · rw [rl_i _ _ q, mm_rw_s, if_neg q]
      unfold mm_fr
      rw [if_pos hi]
  refine ⟨⟨⟨h.1, fun s hs => ?_⟩, ?_, fun i hi => ?_, fun c hc => ?_, fun s hs1 hs2 c hc hr => ?_, 0, ?_, fun c s hc hr hp => ?_, Nat.zero_le _, by omega⟩, fun b hb => ru_n _ _ hb, fun b hb hb2 => ?_⟩
  all_goals try dsimp only
  all_goals try dsimp only at *
  · show tb_S (mm_ul (mm_ul _ (o + 2) 0 _) o 2 0 (o + 1) s) ∧ _
    rw [rl_n _ _ ne, rl_n _ _ ne1, mm_rw_n _ _ ne1]
    exact h.2 s hs
  · rw [eR]; exact tb_S0
  · rw [eC i hi]
    by_cases q : i = 0
    · rw [if_pos q]
      exact tb_andS (tb_setS ha)
    · rw [if_neg q]; exact tb_S0
  · rw [eR, tb_0]
    constructor
    · intro x; cases x
    · rintro ⟨k, hk, _⟩
      omega
  · rw [eC _ (by omega)]
    have hs8 : s % 8 = s := Nat.mod_eq_of_lt (by omega)
    rw [hs8]
    have hz2 := (h.2 2 (by decide)).2 c hc
    have hp : pend st a 0 s c ↔ tS st a c s := by
      constructor
      · rintro (⟨_, q⟩ | ⟨b, j, e, hj, _⟩)
        · exact q
        · omega
      · intro q; exact Or.inl ⟨rfl, q⟩
    rw [hp]
    by_cases q : s = 0
    · rw [if_pos q, tb_and, tb_set (by omega), tb_not _ (by omega), hz2]
      simp only [Bool.and_eq_true, decide_eq_true_eq, Bool.not_eq_true', decide_eq_false_iff_not]
      unfold tS
      constructor
      · rintro ⟨rfl, x⟩; exact ⟨ha, rfl, q, x⟩
      · rintro ⟨_, rfl, _, x⟩; exact ⟨rfl, x⟩
    · rw [if_neg q, tb_0]
      constructor
      · intro x; cases x
      · intro x; exact absurd x.2.2.1 q
  · exact (ru_s _ _ _ _).trans rfl
  · rcases hp with ⟨_, q⟩ | ⟨b, j, e, hj, _⟩
    · have := q.2.2.1
      omega
    · omega
  · show mm_ul (mm_ul (mm_rw z.2 (o + 2) _) (o + 2) 0 _) o 2 0 b = z.2 b
    rw [rl_n _ _ hb, rl_n _ _ hb2, mm_rw_n _ _ hb2]
