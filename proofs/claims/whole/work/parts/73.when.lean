/-! ===== when ===== -/
/-- the first of 1 .. n at which it is otherwise than at 0 (0: none) -/
def fsW (g : Nat → Nat) : Nat → Nat
  | 0 => 0
  | n + 1 => if fsW g n = 0 then (if g (n + 1) = g 0 then 0 else n + 1) else fsW g n
section FW
variable {g : Nat → Nat}
theorem fsW_z {n : Nat} (h : fsW g n = 0) (h2 : g (n + 1) = g 0) : fsW g (n + 1) = 0 := by
  show (if fsW g n = 0 then (if g (n + 1) = g 0 then 0 else n + 1) else fsW g n) = 0
  rw [if_pos h, if_pos h2]
theorem fsW_y {n : Nat} (h : fsW g n = 0) (h2 : ¬ g (n + 1) = g 0) : fsW g (n + 1) = n + 1 := by
  show (if fsW g n = 0 then (if g (n + 1) = g 0 then 0 else n + 1) else fsW g n) = n + 1
  rw [if_pos h, if_neg h2]
theorem fsW_st {a : Nat} (h : fsW g a ≠ 0) : ∀ d, fsW g (a + d) = fsW g a
  | 0 => rfl
  | d + 1 => by
    have ih := fsW_st h d
    show (if fsW g (a + d) = 0 then (if g (a + d + 1) = g 0 then 0 else a + d + 1) else fsW g (a + d)) = fsW g a
    rw [if_neg (by rw [ih]; exact h), ih]
theorem fsW_to {a b : Nat} (h : fsW g a ≠ 0) (hab : a ≤ b) : fsW g b = fsW g a := by
  have := fsW_st h (b - a)
  rw [show a + (b - a) = b by omega] at this
  exact this
end FW
theorem tI_inj {a b : Nat} (ha : a ≤ 10000) (hb : b ≤ 10000) : tI a = tI b ↔ a = b := by
  constructor
  · intro h
    by_cases q : a < 10000
    · by_cases p : b < 10000
      · rw [tI_1 q, tI_1 p] at h
        exact (nI_eq (by omega) (by omega)).mp h
      · rw [tI_2 p] at h
        exact absurd q (tI_m.mp h)
    · by_cases p : b < 10000
      · rw [tI_2 q] at h
        exact absurd p (tI_m.mp h.symm)
      · omega
  · rintro rfl; rfl
noncomputable def whG (r : Nat → Int32) (k c n : Nat) : Nat := hrd (yrN r n) k c
theorem pp_w {z w : mm_S} (h : Rel z w) {X M : Option (Int32 × mm_S)} {W : Nat} (hx : hh_c X (fun q => ∃ z', KX z z' ∧ (if W = 0 then sX3_finding 3 z' else some (nI W, z')) = some q)) (hm : hh_c M (fun q => ∃ w', (∀ i, i < 97 → w'.1 1 i = w.1 1 i) ∧ KM1 w w' ∧ (if W = 0 then sX4_finding (-1000004) w' else some (nI W, w')) = some q)) : PP X M := by
  obtain ⟨q, rfl, z', k1, e1⟩ := hx
  obtain ⟨p, rfl, w', he, k2, e2⟩ := hm
  have hr : Rel z' w' := Rel_M h (KX1_of k1) k2 (okR_97 h.1 he) (RM_97 (RM_K (Or.inl rfl) h.2.1 k1) he)
  rw [← e1, ← e2]
  by_cases t : W = 0
  · rw [if_pos t, if_pos t]; exact pp_f3 hr
  · rw [if_neg t, if_neg t]; exact pp_e rfl rfl hr
theorem fin_xs (W : Nat) (z : mm_S) : ∃ q, (if W = 0 then sX3_finding 3 z else some (nI W, z)) = some q := by
  by_cases t : W = 0
  · rw [if_pos t, show (3 : Int32) = nI 3 from rfl, x_find 3 (by decide)]; exact ⟨_, rfl⟩
  · rw [if_neg t]; exact ⟨_, rfl⟩
theorem fin_ms (W : Nat) (w : mm_S) : ∃ q, (if W = 0 then sX4_finding (-1000004) w else some (nI W, w)) = some q := by
  have e : sX4_finding (-1000004) w = sX4_finding (-1000001 - nI 3) w := rfl
  by_cases t : W = 0
  · rw [if_pos t, e, m_find 3 (by decide)]; exact ⟨_, rfl⟩
  · rw [if_neg t]; exact ⟨_, rfl⟩
theorem pq_when {z w : mm_S} (h : Rel z w) (x1 x2 : Int32) : PP (sX3_when x1 x2 z) (sX4_when x1 x2 w) := by
  obtain ⟨-, -, e3⟩ := r_nC h
  unfold sX3_when sX3_when_0 sX3_when_5 sX4_when sX4_when_0
  refine pp_if (x_isCrew h _) (m_isCrew h _) (fun _ => pp_b (pp_f0 h)) (fun hk => ?_)
  unfold sX3_when_12
  refine pp_if (x_isCell _) (m_isCell _) (fun _ => pp_b (pp_f0 h)) (fun hv => ?_)
  obtain ⟨k, hk, rfl⟩ := hk
  obtain ⟨c, hc, rfl⟩ := hv
  have hk6 : k < 6 := by omega
  obtain ⟨u, f1, hu⟩ := late_m h (show 60 ≤ 60 by omega)
  have f1 : sX4_isTooLate 60 w = some (u, w) := f1
  unfold sX3_when_21 sX4_when_22
  rw [f1]
  show PP _ (if u = 0 then sX4_when_38 (nI k) (nI c) w else sX4_when_31 w)
  refine pp_if2 (late_x h (n := 60) (by omega)) hu (fun hy => ?_) (fun _ => pp_b (pp_f4 h))
  have okn : ∀ n, n ≤ 60 → okR (yrN (w.1 1) n) ∧ yrf (yrN (w.1 1) n) = yrf (w.1 1) + n := fun n hn => yrN_ok h.1 n (by omega)
  have hg : ∀ n, n ≤ 60 → whG (w.1 1) k c n ≤ 10000 := fun n hn => hrd_le _ (okn n hn).1 hk6 c
  refine pp_w (W := fsW (whG (w.1 1) k c) 60) h ?_ ?_
  · unfold sX3_when_43
    refine hh_bd (x_heardAt (Or.inl rfl) h.2.1 h.1 hk6 hc) (fun q hq => ?_)
    obtain ⟨v, z1⟩ := q
    obtain ⟨rfl, hf⟩ := hq
    dsimp only at hf ⊢
    have hk1 : KX z z1 := KX_R (Or.inl rfl) hf
    have hR1 : RM 1 z1 (w.1 1) := RM_K (Or.inl rfl) h.2.1 hk1
    obtain ⟨g1, g2, g3⟩ := x_become (o := 25) (y := 1) (Or.inr (Or.inr ⟨rfl, rfl⟩)) hR1
    unfold sX3_when_53 sX3_when_64 sX3_when_67
    dsimp only
    generalize tX0_become 25 1 z1 = z2 at *
    have hk2 : KX z z2 := KX_t hk1 ⟨fun b hb => g2 b (by omega) (by omega), fun b hb => g3 b (by omega)⟩
    show hh_c (mm_wh lX3_when_67 mm_fu (nI k, nI c, tI (whG (w.1 1) k c 0), nI (0 + 1), z2)) _
    refine hh_up (fun j s => ∃ z', s = (nI k, nI c, tI (whG (w.1 1) k c 0), nI (j + 1), z') ∧ j ≤ 60 ∧ RM 25 z' (yrN (w.1 1) j) ∧ fsW (whG (w.1 1) k c) j = 0 ∧ KX z z') 60 (by omega) ⟨z2, rfl, by omega, g1, rfl, hk2⟩ ?_
    rintro j s hj ⟨z', rfl, _, hR, h0, hkz⟩
    have h60 : (60 : Int32) < nI (j + 1) ↔ 60 < j + 1 := nI_ltI (a := 60) (by decide) (by omega)
    have key : ∀ z3, j < 60 → RM 25 z3 (yrN (w.1 1) (j + 1)) → KX z z3 → hh_c (sX3_when_81 (nI k) (nI c) (tI (whG (w.1 1) k c 0)) (nI (j + 1)) z3) (mm_mt (fun s' : Int32 × Int32 × Int32 × Int32 × mm_S => j < 60 ∧ ∃ z', s' = (nI k, nI c, tI (whG (w.1 1) k c 0), nI (j + 1 + 1), z') ∧ j + 1 ≤ 60 ∧ RM 25 z' (yrN (w.1 1) (j + 1)) ∧ fsW (whG (w.1 1) k c) (j + 1) = 0 ∧ KX z z') (fun q : Int32 × mm_S => ∃ z', KX z z' ∧ (if fsW (whG (w.1 1) k c) 60 = 0 then sX3_finding 3 z' else some (nI (fsW (whG (w.1 1) k c) 60), z')) = some q)) := by
      intro z3 hj2 p1 hk3
      unfold sX3_when_81 sX3_when_90 sX3_when_94
      refine hh_bd (x_heardAt (r := yrN (w.1 1) (j + 1)) (Or.inr (Or.inr rfl)) p1 (okn (j + 1) hj2).1 hk6 hc) (fun q hq => ?_)
      obtain ⟨v, z4⟩ := q
      obtain ⟨rfl, hf4⟩ := hq
      dsimp only at hf4 ⊢
      have hk4 : KX z z4 := KX_t hk3 (KX_R (Or.inr (Or.inr rfl)) hf4)
      have hR4 : RM 25 z4 (yrN (w.1 1) (j + 1)) := RM_k p1 (fun b hb => hf4.1 b (by omega)) (hf4.2 27 (by decide) (by decide))
      have hin : tI (hrd (yrN (w.1 1) (j + 1)) k c) = tI (whG (w.1 1) k c 0) ↔ whG (w.1 1) k c (j + 1) = whG (w.1 1) k c 0 := tI_inj (hg (j + 1) hj2) (hg 0 (by omega))
      refine hh_i (fun t => hh_v ⟨hj2, z4, by rw [nI_1], hj2, hR4, fsW_z h0 (hin.mp t), hk4⟩) (fun t => ?_)
      have hy1 := fsW_y h0 (fun x => t (hin.mpr x))
      have hy2 := fsW_to (g := whG (w.1 1) k c) (a := j + 1) (b := 60) (by omega) (by omega)
      refine hh_v ⟨z4, hk4, ?_⟩
      rw [hy2, hy1, if_neg (by omega)]
    unfold lX3_when_67
    dsimp only
    refine hh_i (fun y => ?_) (fun y => ?_)
    · obtain rfl : j = 60 := by have := h60.mp y; omega
      obtain ⟨q, hq⟩ := fin_xs (fsW (whG (w.1 1) k c) 60) z'
      have hq2 := hq
      rw [if_pos h0] at hq2
      rw [hq2]
      exact hh_v ⟨z', hkz, hq⟩
    have hj2 : j < 60 := by
      have : ¬ 60 < j + 1 := fun t => y (h60.mpr t)
      omega
    obtain ⟨p1, p2, p3⟩ := x_year hR (okn j hj).1
    exact key _ hj2 p1 (KX_t hkz ⟨fun b hb => p2 b (by omega), fun b hb => p3 b (by omega)⟩)
  · unfold sX4_when_38
    refine hh_bd (m_copy (w := w) (a := 1) (b := 3) (Or.inl rfl) (Or.inr (Or.inr rfl)) (by decide)) (fun w1 h1 => ?_)
    obtain ⟨c1, c2⟩ := h1
    unfold sX4_when_49
    refine hh_bd (m_findHeard (w := w1) (r := w.1 1) (c2 1 (by decide)) h.1 hk6 (Or.inl rfl)) (fun w2 h2 => ?_)
    obtain ⟨d1, d2⟩ := h2
    unfold sX4_when_58
    refine hh_f (gI hc (by decide)) ?_
    rw [nI_clamp (by omega), d1 c hc]
    unfold sX4_when_71
    -- putting back, and what is told
    have back : ∀ (w5 : mm_S), (∀ i, i < 97 → w5.1 3 i = w.1 1 i) → (∀ b, ¬ (b = 1 ∨ b = 3 ∨ b = 7) → w5.1 b = w.1 b) → ∀ w6 : mm_S, (∀ i, i < 97 → w6.1 1 i = w5.1 3 i) → (∀ b, b ≠ 1 → w6.1 b = w5.1 b) → (∀ i, i < 97 → w6.1 1 i = w.1 1 i) ∧ KM1 w w6 := by
      intro w5 a1 a2 w6 b1 b2
      refine ⟨fun i hi => (b1 i hi).trans (a1 i hi), fun b hb => (b2 b (by omega)).trans (a2 b (by omega)), ?_, ?_⟩
      · rw [b2 0 (by decide), a2 0 (by decide)]
      · rw [b2 0 (by decide), a2 0 (by decide)]
    refine hh_ms (fun s => ∃ (n : Nat) (o : Int32) (w' : mm_S), s = (nI k, nI c, nI (whG (w.1 1) k c 0), nI n, o, w') ∧ n ≤ 60 ∧ w'.1 1 = yrN (w.1 1) n ∧ (∀ i, i < 97 → w'.1 3 i = w.1 1 i) ∧ (∀ b, ¬ (b = 1 ∨ b = 3 ∨ b = 7) → w'.1 b = w.1 b) ∧ ((o = 0 ∧ fsW (whG (w.1 1) k c) n = 0) ∨ (o = 1 ∧ n ≠ 0 ∧ fsW (whG (w.1 1) k c) n = n))) (fun s => 60 - gN s.2.2.2.1) ⟨0, 0, w2, rfl, by omega, (d2 1 (by decide)).trans (c2 1 (by decide)), fun i hi => by rw [d2 3 (by decide), c1 i hi], fun b hb => (d2 b (by omega)).trans (c2 b (by omega)), Or.inl ⟨rfl, rfl⟩⟩ (by dsimp only; omega) ?_
    rintro s ⟨n, o, w', rfl, hn, r1, a1, a2, ho⟩
    have h60 : (60 : Int32) ≤ nI n ↔ 60 ≤ n := nI_leI (a := 60) (by decide) (by omega)
    have h00 : ∀ m : Nat, m ≤ 100 → (0 : Int32) ≤ nI m := fun m hm => (nI_leI (a := 0) (by decide) (by omega)).mpr (Nat.zero_le _)
    have h01 : ¬ (0 : Int32) ≤ -1 := by decide
    have hgn : gN (nI n) = n := nI_clamp (by omega)
    unfold lX4_when_71
    dsimp only
    -- the end: none
    have endN : fsW (whG (w.1 1) k c) 60 = 0 → ∀ (B : Prop) (m : Nat), hh_c ((sX4_putBack (-1) w').bind fun q7 => if (0 : Int32) ≤ q7.1 then ((sX4_when_157 (nI m) q7.2).map fun w => (Sum.inr w)) else ((sX4_when_148 q7.2).map fun w => (Sum.inr w))) (mm_mt (fun _ : Int32 × Int32 × Int32 × Int32 × Int32 × mm_S => B) (fun q : Int32 × mm_S => ∃ w', (∀ i, i < 97 → w'.1 1 i = w.1 1 i) ∧ KM1 w w' ∧ (if fsW (whG (w.1 1) k c) 60 = 0 then sX4_finding (-1000004) w' else some (nI (fsW (whG (w.1 1) k c) 60), w')) = some q)) := by
      intro hz B m
      refine hh_bd (m_putBack (-1)) (fun q hq => ?_)
      obtain ⟨v, w6⟩ := q
      obtain ⟨rfl, b1, b2⟩ := hq
      dsimp only at b1 b2 ⊢
      rw [if_neg h01]
      obtain ⟨k1, k2⟩ := back w' a1 a2 w6 b1 b2
      obtain ⟨q, hq⟩ := fin_ms (fsW (whG (w.1 1) k c) 60) w6
      have hq2 := hq
      rw [if_pos hz] at hq2
      unfold sX4_when_148
      rw [hq2]
      exact hh_v ⟨w6, k1, k2, hq⟩
    have endY : fsW (whG (w.1 1) k c) 60 = n → n ≠ 0 → ∀ (B : Prop), hh_c ((sX4_putBack (nI n) w').bind fun q7 => if (0 : Int32) ≤ q7.1 then ((sX4_when_157 (nI n) q7.2).map fun w => (Sum.inr w)) else ((sX4_when_148 q7.2).map fun w => (Sum.inr w))) (mm_mt (fun _ : Int32 × Int32 × Int32 × Int32 × Int32 × mm_S => B) (fun q : Int32 × mm_S => ∃ w', (∀ i, i < 97 → w'.1 1 i = w.1 1 i) ∧ KM1 w w' ∧ (if fsW (whG (w.1 1) k c) 60 = 0 then sX4_finding (-1000004) w' else some (nI (fsW (whG (w.1 1) k c) 60), w')) = some q)) := by
      intro hz hnz B
      refine hh_bd (m_putBack (nI n)) (fun q hq => ?_)
      obtain ⟨v, w6⟩ := q
      obtain ⟨rfl, b1, b2⟩ := hq
      dsimp only at b1 b2 ⊢
      rw [if_pos (h00 n (by omega))]
      obtain ⟨k1, k2⟩ := back w' a1 a2 w6 b1 b2
      unfold sX4_when_157
      exact hh_v ⟨w6, k1, k2, by rw [if_neg (by omega), hz]⟩
    rcases ho with ⟨rfl, ho⟩ | ⟨rfl, hnz, ho⟩
    · refine hh_i (fun y => ?_) (fun y => ?_)
      · have hn60 : n = 60 := by have := h60.mp y; omega
        refine hh_t rfl ?_
        exact hh_w (endN (by rw [← hn60]; exact ho) False n) (fun q hq => by cases q with | inl s => exact False.elim hq | inr q => exact hq)
      refine hh_t rfl ?_
      have hn2 : n < 60 := Nat.lt_of_not_le fun t => y (h60.mpr t)
      obtain ⟨on1, on2⟩ := okn n hn
      obtain ⟨on3, -⟩ := okn (n + 1) hn2
      refine hh_bd (m_yearsGo (n := 1) on1 r1 (by omega)) (fun q hq => ?_)
      obtain ⟨v, w3⟩ := q
      obtain ⟨rfl, d3, d4⟩ := hq
      dsimp only at d3 d4 ⊢
      have d3 : w3.1 1 = yrN (w.1 1) (n + 1) := d3
      have hho := hoF_le (yrN (yrN (w.1 1) n) 1)
      rw [if_pos (h00 _ (by omega)), nI_1]
      unfold sX4_when_101
      refine hh_bd (m_findHeard (r := yrN (w.1 1) (n + 1)) d3 on3 hk6 (Or.inl rfl)) (fun w4 h4 => ?_)
      obtain ⟨d5, d6⟩ := h4
      unfold sX4_when_110
      refine hh_f (gI hc (by decide)) ?_
      rw [nI_clamp (by omega), d5 c hc]
      have hin : nI (hrd (yrN (w.1 1) (n + 1)) k c) = nI (whG (w.1 1) k c 0) ↔ whG (w.1 1) k c (n + 1) = whG (w.1 1) k c 0 := nI_eq (by have := hg (n + 1) hn2; unfold whG at this; omega) (by have := hg 0 (by omega); omega)
      have f3 : ∀ i, i < 97 → w4.1 3 i = w.1 1 i := fun i hi => by rw [d6 3 (by decide), d4 3 (by decide)]; exact a1 i hi
      have f4 : ∀ b, ¬ (b = 1 ∨ b = 3 ∨ b = 7) → w4.1 b = w.1 b := fun b hb => ((d6 b (by omega)).trans (d4 b (by omega))).trans (a2 b hb)
      have hmu : 60 - gN (nI (n + 1)) < 60 - gN (nI n) := by
        rw [hgn, show gN (nI (n + 1)) = n + 1 from nI_clamp (by omega)]; omega
      refine hh_i (fun t => hh_v ⟨⟨n + 1, 0, w4, rfl, hn2, (d6 1 (by decide)).trans d3, f3, f4, Or.inl ⟨rfl, fsW_z ho (hin.mp t)⟩⟩, hmu⟩) (fun t => hh_v ⟨⟨n + 1, 1, w4, rfl, hn2, (d6 1 (by decide)).trans d3, f3, f4, Or.inr ⟨rfl, by omega, fsW_y ho (fun x => t (hin.mpr x))⟩⟩, hmu⟩)
    · have h10 : ¬ (1 : Int32) = 0 := by decide
      have hW : fsW (whG (w.1 1) k c) 60 = n := (fsW_to (a := n) (by omega) hn).trans ho
      have fin := endY hW hnz False
      refine hh_i (fun y => hh_f h10 ?_) (fun y => hh_f h10 (hh_f h10 ?_))
      · exact hh_w fin (fun q hq => by cases q with | inl s => exact False.elim hq | inr q => exact hq)
      · exact hh_w fin (fun q hq => by cases q with | inl s => exact False.elim hq | inr q => exact hq)
