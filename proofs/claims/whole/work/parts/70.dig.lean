/-! ===== costs of ways to dig: the class ===== -/
theorem x_flood {s T : Int64} (hs : tb_S s) (z : mm_S) : hh_c (sX3_flood s T z) (fun q => q.2 = z ∧ tb_S q.1 ∧ (∀ c, tb s c = true → tb q.1 c = true) ∧ (∀ b c, tb q.1 b = true → ad b c → tb T c = true → tb q.1 c = true) ∧ ∀ P : Nat → Prop, (∀ c, tb s c = true → P c) → (∀ b c, P b → ad b c → tb T c = true → P c) → ∀ c, tb q.1 c = true → P c) := by
  unfold sX3_flood sX3_flood_0 sX3_flood_6
  refine hh_up (fun j t => ∃ g, t = (T, g, nI j, z) ∧ tb_S g ∧ (∀ c, tb s c = true → tb g c = true) ∧ (∀ P : Nat → Prop, (∀ c, tb s c = true → P c) → (∀ b c, P b → ad b c → tb T c = true → P c) → ∀ c, tb g c = true → P c) ∧ j ≤ fb_ct (tb g) 36) 36 (by decide) ⟨s, rfl, hs, fun _ h => h, fun P h _ => h, Nat.zero_le _⟩ ?_
  rintro j t hj ⟨g, rfl, hg, h1, h2, h3⟩
  have h36 : (36 : Int32) ≤ nI j ↔ 36 ≤ j := nI_leI (a := 36) (by decide) (by omega)
  have hgc : ∀ b, tb g b = true → b < 36 := fun b hb => Nat.lt_of_not_le fun y => by rw [hg b y] at hb; cases hb
  have hw : ∀ c, c < 36 → (tb (g ||| (pX3_besides g &&& T)) c = true ↔ tb g c = true ∨ ((∃ b, tb g b = true ∧ ad b c) ∧ tb T c = true)) := fun c hc => by
    rw [tb_or, tb_and, Bool.or_eq_true, Bool.and_eq_true, tb_bes hg hc]
  have hwS : tb_S (g ||| (pX3_besides g &&& T)) := tb_orS hg (tb_andS (tb_besS hg))
  unfold lX3_flood_6
  dsimp only
  refine hh_i (fun q => hh_v ⟨rfl, hg, h1, fun b c _ had _ => ?_, h2⟩) (fun q => hh_i (fun q2 => hh_v ⟨rfl, hg, h1, fun b c hb had hT => ?_, h2⟩) (fun q2 => hh_v ⟨Nat.lt_of_not_le fun y => q (h36.mpr y), _, by rw [nI_1], hwS, fun c hc => ?_, fun P p1 p2 c hc => ?_, ?_⟩))
  · have hl := fb_ct_le (tb g) 36
    have := h36.mp q
    exact fb_ct_all.mp (show fb_ct (tb g) 36 = 36 by omega) c had.2.1
  · rw [← (lgc_0 _ _).mp q2]
    exact (hw c had.2.1).mpr (Or.inr ⟨⟨b, hb, had⟩, hT⟩)
  · rw [tb_or, h1 c hc]; rfl
  · have hc36 : c < 36 := Nat.lt_of_not_le fun y => by rw [hwS c y] at hc; cases hc
    rcases (hw c hc36).mp hc with t | ⟨⟨b, hb, had⟩, hT⟩
    · exact h2 P p1 p2 c t
    · exact p2 b c (h2 P p1 p2 b hb) had hT
  · obtain ⟨c, hc, hcw, hcg⟩ : ∃ c, c < 36 ∧ tb (g ||| (pX3_besides g &&& T)) c = true ∧ tb g c = false := by
      refine Classical.byContradiction fun hx => q2 ((lgc_0 _ _).mpr (tb_extS hwS hg fun i hi => ?_))
      cases y : tb g i with
      | true => rw [tb_or, y]; rfl
      | false =>
        cases y2 : tb (g ||| (pX3_besides g &&& T)) i with
        | false => rfl
        | true => exact absurd ⟨i, hi, y2, y⟩ hx
    have e1 := fb_ct_upd (tb g) true hc
    have e2 : fb_ct (fun k => if k = c then true else tb g k) 36 ≤ fb_ct (tb (g ||| (pX3_besides g &&& T))) 36 := by
      refine fb_ct_sub fun k _ hk => ?_
      by_cases y : k = c
      · rw [y]; exact hcw
      · simp only [if_neg y] at hk
        rw [tb_or, hk]; rfl
    rw [hcg] at e1
    simp only [Bool.false_eq_true, if_false, if_true] at e1
    omega
section CD
variable {st : Nat → Nat} {op : Nat → Bool} {a : Nat}
theorem cW_c {c k : Nat} (h : wk_W (cS st op a) (cE st op) c k) : c < 36 := by
  rcases wk_inv h with q | ⟨b, j, e, _, q, _⟩
  · exact q.2.1 ▸ q.1
  · exact q.1.2.1
noncomputable def kcB (st : Nat → Nat) (op : Nat → Bool) (a n c : Nat) : Bool := @decide (∃ k, k ≤ n ∧ wk_W (cS st op a) (cE st op) c k) (Classical.propDecidable _)
theorem kcB_t {n c : Nat} : kcB st op a n c = true ↔ ∃ k, k ≤ n ∧ wk_W (cS st op a) (cE st op) c k := by unfold kcB; exact @decide_eq_true_iff _ (Classical.propDecidable _)
theorem kcB_36 {c k : Nat} (h : wk_W (cS st op a) (cE st op) c k) : kcB st op a 36 c = true := by
  have key : ∀ n, n ≤ fb_ct (kcB st op a n) 36 ∨ ∃ m, m < n ∧ ∀ c, kcB st op a (m + 1) c = true → kcB st op a m c = true := by
    intro n
    induction n with
    | zero => exact Or.inl (Nat.zero_le _)
    | succ n ih =>
      rcases ih with ih | ⟨m, hm, ih⟩
      · by_cases hx : ∃ c, kcB st op a (n + 1) c = true ∧ kcB st op a n c = false
        · obtain ⟨c, h1, h2⟩ := hx
          obtain ⟨k, _, hk⟩ := kcB_t.mp h1
          have e1 := fb_ct_upd (kcB st op a n) true (cW_c hk)
          have e2 : fb_ct (fun k => if k = c then true else kcB st op a n k) 36 ≤ fb_ct (kcB st op a (n + 1)) 36 := by
            refine fb_ct_sub fun q _ hq => ?_
            by_cases y : q = c
            · rw [y]; exact h1
            · simp only [if_neg y] at hq
              obtain ⟨k2, hk2, hw2⟩ := kcB_t.mp hq
              exact kcB_t.mpr ⟨k2, by omega, hw2⟩
          rw [h2] at e1
          simp only [Bool.false_eq_true, if_false, if_true] at e1
          exact Or.inl (by omega)
        · refine Or.inr ⟨n, by omega, fun c hc => ?_⟩
          cases y : kcB st op a n c with
          | true => rfl
          | false => exact absurd ⟨c, hc, y⟩ hx
      · exact Or.inr ⟨m, by omega, ih⟩
  rcases key 36 with h1 | ⟨m, hm, h1⟩
  · have := fb_ct_le (kcB st op a 36) 36
    exact fb_ct_all.mp (show fb_ct (kcB st op a 36) 36 = 36 by omega) c (cW_c h)
  · have all : ∀ c k, wk_W (cS st op a) (cE st op) c k → kcB st op a m c = true := by
      refine wk_ind (fun c k hs => h1 c (kcB_t.mpr ⟨k, ?_, wk_0 hs⟩)) (fun b j c e _ ih he => h1 c ?_)
      · have := cs_1 st a
        rw [hs.2.2.1]; omega
      · obtain ⟨k, hk, hw⟩ := kcB_t.mp ih
        have := cs_1 st c
        have := he.2.2
        exact kcB_t.mpr ⟨k + e, by omega, wk_s hw he⟩
    obtain ⟨k2, hk2, hw2⟩ := kcB_t.mp (all c k h)
    exact kcB_t.mpr ⟨k2, by omega, hw2⟩
theorem cd_36 {c k : Nat} (h : wk_W (cS st op a) (cE st op) c k) : cd st op a c ≤ 36 := by
  obtain ⟨k2, hk2, hw2⟩ := kcB_t.mp (kcB_36 h)
  have : cd st op a c ≤ k2 := wk_dm hw2
  omega
theorem cd_W {c : Nat} (h : cd st op a c < 10000) : wk_W (cS st op a) (cE st op) c (cd st op a c) ∧ cd st op a c ≤ 36 := ⟨wk_dW h, cd_36 (wk_dW h)⟩
theorem cd_s {b c : Nat} (hb : cd st op a b < 10000) (had : ad b c) (ho : op c = true) : cd st op a c ≤ cd st op a b + cs st c := wk_dm (wk_s (wk_dW hb) ⟨had, ho, rfl⟩)
end CD
theorem x_costOfWay {O H : Int64} {st : Nat → Nat} {a t : Nat} (hO : tb_S O) (hH : ∀ c, c < 36 → tb H c = decide (st c = 2)) (ha : a < 36) (ht : t < 36) (z : mm_S) : hh_c (sX3_costOfWay O H (nI a) (nI t) z) (fun q => q = (tI (cd st (tb O) a t), z)) := by
  have hsS : tb_S (pX3_setOf (nI a) &&& O) := tb_andS (tb_setS ha)
  have hst : ∀ c, tb (pX3_setOf (nI a) &&& O) c = true ↔ c = a ∧ tb O c = true := fun c => by
    rw [tb_and, tb_set (by omega), Bool.and_eq_true, decide_eq_true_eq]
  have hoh : ∀ c, c < 36 → (tb (O &&& H) c = true ↔ tb O c = true ∧ st c = 2) := fun c hc => by
    rw [tb_and, Bool.and_eq_true, hH c hc, decide_eq_true_eq]
  have hS36 : ∀ {x : Int64}, tb_S x → ∀ b, tb x b = true → b < 36 := fun hx b hb => Nat.lt_of_not_le fun y => by rw [hx b y] at hb; cases hb
  have cs0 : ∀ c, st c = 2 → cs st c = 0 := fun c h => if_pos h
  have cs1 : ∀ c, ¬ st c = 2 → cs st c = 1 := fun c h => if_neg h
  unfold sX3_costOfWay sX3_costOfWay_0
  refine hh_bd (x_flood (s := (pX3_setOf (nI a) &&& O) &&& (O &&& H)) (tb_andS hsS) z) (fun q hq => ?_)
  obtain ⟨kn, z1⟩ := q
  obtain ⟨e0, f1, f2, f3, f4⟩ := hq
  dsimp only at e0 f1 f2 f3 f4 ⊢
  subst e0
  unfold sX3_costOfWay_26 sX3_costOfWay_29
  refine hh_up (fun j s => ∃ kn, s = (O, nI t, pX3_setOf (nI a) &&& O, O &&& H, kn, nI j, z1) ∧ tb_S kn ∧ (∀ c, c < 36 → (tb kn c = true ↔ cd st (tb O) a c ≤ j)) ∧ ∀ i, i < j → ¬ cd st (tb O) a t ≤ i) 37 (by decide) ⟨kn, rfl, f1, fun c hc => ⟨fun h => ?_, fun h => ?_⟩, fun i hi => absurd hi (by omega)⟩ ?_
  · refine f4 (fun c => cd st (tb O) a c ≤ 0) (fun c hc => ?_) (fun b c hb had hT => ?_) c h
    · rw [tb_and, Bool.and_eq_true] at hc
      obtain ⟨h1, h2⟩ := hc
      obtain ⟨rfl, h3⟩ := (hst c).mp h1
      have := cs0 c ((hoh c ha).mp h2).2
      have h4 : cd st (tb O) c c ≤ cs st c := wk_dm (wk_0 ⟨ha, rfl, rfl, h3⟩)
      show cd st (tb O) c c ≤ 0
      omega
    · have hx := (hoh c had.2.1).mp hT
      have := cs0 c hx.2
      have hb : cd st (tb O) a b ≤ 0 := hb
      have := cd_s (st := st) (op := tb O) (a := a) (b := b) (c := c) (by omega) had hx.1
      show cd st (tb O) a c ≤ 0
      omega
  · have hw := wk_dW (S := cS st (tb O) a) (E := cE st (tb O)) (c := c) (show cd st (tb O) a c < 10000 by omega)
    have key : ∀ c k, wk_W (cS st (tb O) a) (cE st (tb O)) c k → k ≤ 0 → tb kn c = true := by
      refine wk_ind (fun c k hs hk => f2 c ?_) (fun b j c e hb ih he hk => ?_)
      · obtain ⟨h1, rfl, h3, h4⟩ := hs
        have h5 : st c = 2 := Classical.byContradiction fun y => by have := cs1 c y; omega
        rw [tb_and, (hst c).mpr ⟨rfl, h4⟩, (hoh c ha).mpr ⟨h4, h5⟩]; rfl
      · have h5 : st c = 2 := Classical.byContradiction fun y => by have := cs1 c y; have := he.2.2; omega
        exact f3 b c (ih (by omega)) he.1 ((hoh c he.1.2.1).mpr ⟨he.2.1, h5⟩)
    exact key c _ hw h
  clear f1 f2 f3 f4 kn
  rintro j s hj ⟨kn, rfl, k1, k2, k3⟩
  have h36 : (36 : Int32) < nI j ↔ 36 < j := nI_ltI (a := 36) (by decide) (by omega)
  unfold lX3_costOfWay_29 sX3_costOfWay_43 sX3_costOfWay_73
  dsimp only
  refine hh_i (fun q => hh_v ?_) (fun q => ?_)
  · have := h36.mp q
    have hn := k3 36 (by omega)
    have : ¬ cd st (tb O) a t < 10000 := fun y => hn (cd_W y).2
    rw [tI_2 this]
    exact rfl
  have hj2 : j < 37 := by
    have : ¬ 36 < j := fun y => q (h36.mpr y)
    omega
  rw [tb_has _ (show t < 64 by omega)]
  by_cases y : tb kn t = true
  · rw [if_pos y]
    refine hh_f (by decide) (hh_v ?_)
    have h1 := (k2 t ht).mp y
    have h2 : cd st (tb O) a t = j := by
      refine Nat.le_antisymm h1 (Nat.le_of_not_lt fun u => k3 _ u (Nat.le_refl _))
    rw [h2, tI_1 (by omega)]
    exact rfl
  rw [if_neg y]
  refine hh_t rfl ?_
  have hpS : tb_S (kn ||| ((pX3_besides kn ||| (pX3_setOf (nI a) &&& O)) &&& O)) := tb_orS k1 (tb_andS2 hO)
  have hp : ∀ c, c < 36 → (tb (kn ||| ((pX3_besides kn ||| (pX3_setOf (nI a) &&& O)) &&& O)) c = true ↔ tb kn c = true ∨ ((∃ b, tb kn b = true ∧ ad b c) ∨ c = a) ∧ tb O c = true) := fun c hc => by
    rw [tb_or, tb_and, tb_or, Bool.or_eq_true, Bool.and_eq_true, Bool.or_eq_true, tb_bes k1 hc, hst c]
    constructor
    · rintro (u | ⟨u | ⟨u, _⟩, v⟩)
      · exact Or.inl u
      · exact Or.inr ⟨Or.inl u, v⟩
      · exact Or.inr ⟨Or.inr u, v⟩
    · rintro (u | ⟨u | u, v⟩)
      · exact Or.inl u
      · exact Or.inr ⟨Or.inl u, v⟩
      · exact Or.inr ⟨Or.inr ⟨u, v⟩, v⟩
  refine hh_bd (x_flood (T := O &&& H) hpS z1) (fun q hq => ?_)
  obtain ⟨kn2, z2⟩ := q
  obtain ⟨e0, f1, f2, f3, f4⟩ := hq
  dsimp only at e0 f1 f2 f3 f4 ⊢
  subst e0
  refine hh_v ⟨hj2, kn2, by rw [nI_1], f1, fun c hc => ⟨fun h => ?_, fun h => ?_⟩, fun i hi u => ?_⟩
  · refine f4 (fun c => cd st (tb O) a c ≤ j + 1) (fun c hc => ?_) (fun b c hb had hT => ?_) c h
    · have hc36 := hS36 hpS c hc
      rcases (hp c hc36).mp hc with u | ⟨⟨b, hb, had⟩ | u, v⟩
      · have := (k2 c hc36).mp u
        show cd st (tb O) a c ≤ j + 1
        omega
      · have := (k2 b had.1).mp hb
        have h1 := cd_s (st := st) (op := tb O) (a := a) (b := b) (c := c) (by omega) had v
        have := cs_1 st c
        show cd st (tb O) a c ≤ j + 1
        omega
      · subst u
        have h4 : cd st (tb O) c c ≤ cs st c := wk_dm (wk_0 ⟨ha, rfl, rfl, v⟩)
        have := cs_1 st c
        show cd st (tb O) c c ≤ j + 1
        omega
    · have hx := (hoh c had.2.1).mp hT
      have := cs0 c hx.2
      have hb : cd st (tb O) a b ≤ j + 1 := hb
      have := cd_s (st := st) (op := tb O) (a := a) (b := b) (c := c) (by omega) had hx.1
      show cd st (tb O) a c ≤ j + 1
      omega
  · have hw := wk_dW (S := cS st (tb O) a) (E := cE st (tb O)) (c := c) (show cd st (tb O) a c < 10000 by omega)
    have key : ∀ c k, wk_W (cS st (tb O) a) (cE st (tb O)) c k → k ≤ j + 1 → tb kn2 c = true := by
      refine wk_ind (fun c k hs hk => f2 c ?_) (fun b i c e hb ih he hk => ?_)
      · obtain ⟨h1, rfl, h3, h4⟩ := hs
        exact (hp c h1).mpr (Or.inr ⟨Or.inr rfl, h4⟩)
      · by_cases h5 : st c = 2
        · exact f3 b c (ih (by omega)) he.1 ((hoh c he.1.2.1).mpr ⟨he.2.1, h5⟩)
        · have := cs1 c h5
          have := he.2.2
          have h6 : cd st (tb O) a b ≤ i := wk_dm hb
          exact f2 c ((hp c he.1.2.1).mpr (Or.inr ⟨Or.inl ⟨b, (k2 b he.1.1).mpr (by omega), he.1⟩, he.2.1⟩))
    exact key c _ hw h
  · have h1 : ¬ cd st (tb O) a t ≤ j := fun v => y ((k2 t ht).mpr v)
    omega
/-! ===== dig, ways ===== -/
theorem hol_x {o : Nat} {z : mm_S} {st : Nat → Nat} (h : sb o z st) : ∀ c, c < 36 → tb (pX1_cellsOf o 2 z) c = decide (st c = 2) := fun c hc => by
  have e : pX1_cellsOf o 2 z = z.2 (o + 1) 2 := cof_N (s := 2) z (by decide)
  rw [e]
  exact (h.2 2 (by decide)).2 c hc
theorem pq_dig {z w : mm_S} (h : Rel z w) (x1 x2 : Int32) : PP (sX3_dig x1 x2 z) (sX4_dig x1 x2 w) := by
  unfold sX3_dig sX3_dig_0 sX3_dig_4 sX4_dig sX4_dig_0
  refine pp_if (x_isCell _) (m_isCell _) (fun _ => pp_b (pp_f0 h)) (fun hc => ?_)
  unfold sX3_dig_11
  refine pp_if (x_isCell _) (m_isCell _) (fun _ => pp_b (pp_f0 h)) (fun hv => ?_)
  obtain ⟨a, ha, rfl⟩ := hc
  obtain ⟨t, ht, rfl⟩ := hv
  unfold sX3_dig_20 sX4_dig_21
  rw [x_dryC (r_sb h)]
  obtain ⟨q1, f1, rfl⟩ := x_costOfWay (O := ls64 (dryP (stf (w.1 1))) 36) tb_lsS (hol_x (r_sb h)) ha ht z
  obtain ⟨q2, g1, rfl⟩ := m_dry (r_ms h)
  obtain ⟨w2, g2, e1, e2⟩ := m_findCosts (x := ls64 (dryP (stf (w.1 1))) 36) tb_lsS ha (r_ms h)
  rw [f1, g1]
  dsimp only [Option.bind]
  rw [g2]
  dsimp only [Option.bind]
  unfold sX4_dig_30
  rw [if_neg (gI ht (by decide)), nI_clamp (by omega), e1 t ht]
  have hr : Rel z w2 := Rel_K h (KX_0 z) (KM_1 (k := 12) (by decide) e2)
  exact pp_b (pp_told hr _ (wk_dle t))
theorem pq_ways {z w : mm_S} (h : Rel z w) (x1 : Int32) : PP (sX3_ways x1 z) (sX4_ways x1 w) := by
  unfold sX3_ways sX3_ways_0 sX3_ways_4 sX4_ways sX4_ways_0
  refine pp_if (x_isCell _) (m_isCell _) (fun _ => pp_bl (pp_f0 h)) (fun hc => ?_)
  obtain ⟨a, ha, rfl⟩ := hc
  have hO : tb_S (ls64 (dryP (stf (w.1 1))) 36) := tb_lsS
  unfold sX3_ways_14 sX3_ways_25 sX4_ways_15
  rw [x_dryC (r_sb h)]
  generalize hOe : ls64 (dryP (stf (w.1 1))) 36 = O at *
  refine pp_v (a := ls64 (fun c => decide (cd (stf (w.1 1)) (tb O) a c < 10000)) 36) h ?_ ?_
  · refine hh_bd (x_flood (s := pX3_setOf (nI a) &&& O) (tb_andS (tb_setS ha)) z) (fun q hq => hh_v ?_)
    obtain ⟨kn, z1⟩ := q
    obtain ⟨e0, f1, f2, f3, f4⟩ := hq
    dsimp only at e0 f1 f2 f3 f4 ⊢
    subst e0
    refine ⟨tb_extS f1 tb_lsS fun i hi => ?_, KX_0 _⟩
    rw [tb_ls (by decide), Bool.eq_iff_iff]
    simp only [hi, decide_true, Bool.true_and, decide_eq_true_eq]
    constructor
    · refine f4 (fun c => cd (stf (w.1 1)) (tb O) a c < 10000) (fun c hc => ?_) (fun b c hb had hT => ?_) i
      · rw [tb_and, tb_set (by omega), Bool.and_eq_true, decide_eq_true_eq] at hc
        obtain ⟨rfl, h3⟩ := hc
        have := cd_36 (wk_0 (S := cS (stf (w.1 1)) (tb O) c) (E := cE (stf (w.1 1)) (tb O)) ⟨ha, rfl, rfl, h3⟩)
        show cd (stf (w.1 1)) (tb O) c c < 10000
        omega
      · have := cd_36 (wk_s (wk_dW hb) (show cE (stf (w.1 1)) (tb O) b c _ from ⟨had, hT, rfl⟩))
        show cd (stf (w.1 1)) (tb O) a c < 10000
        omega
    · intro hlt
      have key : ∀ c k, wk_W (cS (stf (w.1 1)) (tb O) a) (cE (stf (w.1 1)) (tb O)) c k → tb kn c = true := by
        refine wk_ind (fun c k hs => f2 c ?_) (fun b j c e _ ih he => f3 b c ih he.1 he.2.1)
        obtain ⟨h1, rfl, h3, h4⟩ := hs
        rw [tb_and, tb_set (by omega), h4]
        simp
      exact key i _ (wk_dW hlt)
  · refine hh_bd (m_dry (r_ms h)) (fun q hq => ?_)
    subst hq
    dsimp only
    rw [hOe]
    refine hh_bd (m_findCosts hO ha (r_ms h)) (fun w2 hw => ?_)
    obtain ⟨e1, e2⟩ := hw
    unfold sX4_ways_24 sX4_ways_29
    refine hh_up (fun j s => s = (ls64 (fun c => decide (cd (stf (w.1 1)) (tb O) a c < 10000)) j, nI j, w2)) 36 (by decide) rfl ?_
    rintro j _ hj rfl
    have h36 : (36 : Int32) ≤ nI j ↔ 36 ≤ j := nI_leI (a := 36) (by decide) (by omega)
    unfold lX4_ways_29
    dsimp only
    refine hh_i (fun q => hh_v ?_) (fun q => ?_)
    · obtain rfl : j = 36 := by have := h36.mp q; omega
      exact ⟨rfl, KM_1 (k := 12) (by decide) e2⟩
    have hj2 : j < 36 := Nat.lt_of_not_le fun y => q (h36.mpr y)
    refine hh_f (gI hj2 (by decide)) ?_
    have hle : cd (stf (w.1 1)) (tb O) a j ≤ 10000 := wk_dle j
    rw [nI_clamp (by omega), e1 j hj2]
    have e : (10000 : Int32) ≤ nI (cd (stf (w.1 1)) (tb O) a j) ↔ 10000 ≤ cd (stf (w.1 1)) (tb O) a j := nI_leI (a := 10000) (by decide) (by omega)
    refine hh_i (fun y => hh_v ⟨hj2, ?_⟩) (fun y => hh_v ⟨hj2, ?_⟩)
    · have := e.mp y
      rw [nI_1, or0L]
      simp only [ls64, decide_eq_true_eq, if_neg (show ¬ cd (stf (w.1 1)) (tb O) a j < 10000 by omega)]
    · rw [nI_1]
      simp only [ls64, decide_eq_true_eq, if_pos (show cd (stf (w.1 1)) (tb O) a j < 10000 from Nat.lt_of_not_le fun t => y (e.mpr t))]
