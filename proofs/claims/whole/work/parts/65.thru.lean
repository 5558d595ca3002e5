/-! ===== going through the maps that fit ===== -/
noncomputable def cntF (r : Nat → Int32) : Nat → Nat
  | 0 => 0
  | n + 1 => @ite _ (fitR (layR r n)) (Classical.propDecidable _) (cntF r n + 1) (cntF r n)
noncomputable def fstF (r : Nat → Int32) : Nat → Nat
  | 0 => 0
  | n + 1 => @ite _ (fitR (layR r n)) (Classical.propDecidable _) (if fstF r n = 0 then n + 1 else fstF r n) (fstF r n)
noncomputable def lstF (r : Nat → Int32) : Nat → Nat
  | 0 => 0
  | n + 1 => @ite _ (fitR (layR r n)) (Classical.propDecidable _) (n + 1) (lstF r n)
def ulP (r : Nat → Int32) (m i : Nat) : Bool := decide (stf (layR r m) (uns r i) ≠ stf r (uns r i))
def ulk (r : Nat → Int32) (m : Nat) : Nat := fb_ct (ulP r m) (nU r)
noncomputable def neaF (r : Nat → Int32) : Nat → Nat × Nat
  | 0 => (0, 0)
  | n + 1 => @ite _ (fitR (layR r n)) (Classical.propDecidable _) (if (neaF r n).1 = 0 ∨ ulk r n < (neaF r n).2 then (n + 1, ulk r n) else neaF r n) (neaF r n)
def bitI (r : Nat → Int32) (m i : Nat) : Int32 := 1 <<< (nI (stf (layR r m) (uns r i)) &&& 31)
noncomputable def orF (r : Nat → Int32) (i : Nat) : Nat → Int32
  | 0 => 0
  | n + 1 => @ite _ (fitR (layR r n)) (Classical.propDecidable _) (orF r i n ||| bitI r n i) (orF r i n)
theorem fold_k {α : Type} {r : Nat → Int32} {F : Nat → α} (hF : ∀ n, ¬ fitR (layR r n) → F (n + 1) = F n) (a : Nat) : ∀ d, (∀ i, a ≤ i → i < a + d → ¬ fitR (layR r i)) → F (a + d) = F a
  | 0, _ => rfl
  | d + 1, h => by
    rw [show a + (d + 1) = a + d + 1 by omega, hF _ (h _ (by omega) (by omega))]
    exact fold_k hF a d fun i h1 h2 => h i h1 (by omega)
theorem fold_nx {α : Type} {r : Nat → Int32} {F : Nat → α} (hF : ∀ n, ¬ fitR (layR r n) → F (n + 1) = F n) {a b : Nat} (h : isNx r a b) : F b = F a := by
  have := fold_k hF a (b - a) (fun i h1 h2 => h.2.2.1 i h1 (by have := h.1; omega))
  rw [show a + (b - a) = b by have := h.1; omega] at this
  exact this
section FO
variable {r : Nat → Int32}
theorem cntF_n (n : Nat) (h : ¬ fitR (layR r n)) : cntF r (n + 1) = cntF r n := if_neg h
theorem fstF_n (n : Nat) (h : ¬ fitR (layR r n)) : fstF r (n + 1) = fstF r n := if_neg h
theorem lstF_n (n : Nat) (h : ¬ fitR (layR r n)) : lstF r (n + 1) = lstF r n := if_neg h
theorem neaF_n (n : Nat) (h : ¬ fitR (layR r n)) : neaF r (n + 1) = neaF r n := if_neg h
theorem orF_n (i n : Nat) (h : ¬ fitR (layR r n)) : orF r i (n + 1) = orF r i n := if_neg h
theorem cntF_y {n : Nat} (h : fitR (layR r n)) : cntF r (n + 1) = cntF r n + 1 := if_pos h
theorem fstF_y {n : Nat} (h : fitR (layR r n)) : fstF r (n + 1) = if fstF r n = 0 then n + 1 else fstF r n := if_pos h
theorem lstF_y {n : Nat} (h : fitR (layR r n)) : lstF r (n + 1) = n + 1 := if_pos h
theorem neaF_y {n : Nat} (h : fitR (layR r n)) : neaF r (n + 1) = if (neaF r n).1 = 0 ∨ ulk r n < (neaF r n).2 then (n + 1, ulk r n) else neaF r n := if_pos h
theorem orF_y {i n : Nat} (h : fitR (layR r n)) : orF r i (n + 1) = orF r i n ||| bitI r n i := if_pos h
theorem cntF_le : ∀ n, cntF r n ≤ n
  | 0 => Nat.le_refl _
  | n + 1 => by
    have := cntF_le n
    by_cases h : fitR (layR r n)
    · rw [cntF_y h]; omega
    · rw [cntF_n n h]; omega
theorem fstF_le : ∀ n, fstF r n ≤ n
  | 0 => Nat.le_refl _
  | n + 1 => by
    have := fstF_le n
    by_cases h : fitR (layR r n)
    · rw [fstF_y h]; split <;> omega
    · rw [fstF_n n h]; omega
theorem lstF_le : ∀ n, lstF r n ≤ n
  | 0 => Nat.le_refl _
  | n + 1 => by
    have := lstF_le n
    by_cases h : fitR (layR r n)
    · rw [lstF_y h]; omega
    · rw [lstF_n n h]; omega
theorem ulk_le (m : Nat) : ulk r m ≤ nU r := fb_ct_le _ _
theorem neaF_le (hn : nU r < 5) : ∀ n, (neaF r n).1 ≤ n ∧ (neaF r n).2 ≤ 4
  | 0 => ⟨Nat.le_refl _, Nat.zero_le _⟩
  | n + 1 => by
    have := neaF_le hn n
    have hu := ulk_le (r := r) n
    by_cases h : fitR (layR r n)
    · rw [neaF_y h]
      split
      · exact ⟨Nat.le_refl _, by dsimp only; omega⟩
      · exact ⟨by omega, this.2⟩
    · rw [neaF_n n h]
      exact ⟨by omega, this.2⟩
theorem mI_neg {m : Nat} (h : m < 10001) : mI m < 0 ↔ m = 0 := by
  by_cases q : m = 0
  · subst q
    exact ⟨fun _ => rfl, fun _ => by decide⟩
  · rw [mI_1 q]
    exact ⟨fun t => absurd t (nI_pos (by omega)), fun t => absurd t q⟩
theorem mI_s (m : Nat) : mI (m + 1) = nI m := mI_1 (by omega)
def goQ (r : Nat → Int32) (b best : Nat) (w : mm_S) (t : (Int32 × Int32 × Int32 × mm_S) ⊕ mm_S) : Prop := ∃ (best' b' : Nat) (w' : mm_S), t = Sum.inl (nI (mapR r), nI best', nI b', w') ∧ isNx r (b + 1) b' ∧ likeR r (w'.1 1) ∧ (b' < 5 ^ nU r → w'.1 1 = layR r b') ∧ (∀ i, i < nU r → w'.1 10 i = w.1 10 i ||| bitI r b i) ∧
    (if w.1 0 12 < 0 ∨ ulk r b < best then w'.1 0 12 = nI b ∧ best' = ulk r b else w'.1 0 12 = w.1 0 12 ∧ best' = best) ∧ (∀ j, j ≠ 12 → w'.1 0 j = w.1 0 j) ∧ ∀ c, ¬ (c = 0 ∨ c = 1 ∨ c = 5 ∨ c = 10) → w'.1 c = w.1 c
/-- the inner loop: how a map that fits is unlike what is -/
theorem m_goIn (hr : okR r) {b : Nat} (hb : b < 5 ^ nU r) {w : mm_S} (hw : w.1 1 = layR r b) {best : Nat} (hbest : best ≤ 4) : hh_c (sX4_goThrough_104 (nI (mapR r)) (nI best) (nI b) 0 (nI (mapR r)) 0 w) (goQ r b best w) := by
  have hn := ok_nU hr
  have hp := p5_le hr
  have hm := mapR_lt hr
  have hN : (5 : Nat) ^ nU r = 5 ^ nU r := rfl
  have hlb := like_l hr b
  have hr2 := layR_ok hr b
  unfold sX4_goThrough_104
  refine hh_up (fun i s => ∃ w', s = (nI (mapR r), nI best, nI b, nI (fb_ct (ulP r b) i), nI (mapR r / 5 ^ i), nI i, w') ∧ i ≤ nU r ∧ (∀ q, q < nU r → w'.1 10 q = if q < i then w.1 10 q ||| bitI r b q else w.1 10 q) ∧ ∀ c, c ≠ 10 → w'.1 c = w.1 c) 4 (by decide) ⟨w, by rw [Nat.pow_zero, Nat.div_one]; rfl, Nat.zero_le _, fun q _ => by rw [if_neg (by omega)], fun _ _ => rfl⟩ ?_
  rintro i s hi ⟨w', rfl, hin, hv, hf⟩
  have hw2 : w'.1 1 = layR r b := by rw [hf 1 (by decide), hw]
  have e3 : w'.1 1 3 = nI (nU r) := by rw [hw2, layR_o hr b (by omega)]; exact hn.1
  have hle : nI (nU r) ≤ nI i ↔ nU r ≤ i := nI_leI (by omega) (by omega)
  have hul : fb_ct (ulP r b) i ≤ i := fb_ct_le _ _
  unfold lX4_goThrough_104
  dsimp only
  rw [e3]
  refine hh_i (fun q => ?_) (fun q => ?_)
  · obtain rfl : i = nU r := by have := hle.mp q; omega
    have e0 : w'.1 0 = w.1 0 := hf 0 (by decide)
    have hv2 : ∀ q, q < nU r → w'.1 10 q = w.1 10 q ||| bitI r b q := fun q hq => by rw [hv q hq, if_pos hq]
    have take : (w.1 0 12 < 0 ∨ ulk r b < best) → hh_c ((sX4_goThrough_194 (nI (mapR r)) (nI b) (nI (fb_ct (ulP r b) (nU r))) ((mm_ui w'.1 0 12 (nI b)), w'.2)).map fun w => (Sum.inr w : (Int32 × Int32 × Int32 × Int32 × Int32 × Int32 × mm_S) ⊕ ((Int32 × Int32 × Int32 × mm_S) ⊕ mm_S))) (mm_mt (fun s' => nU r < 4 ∧ ∃ w', s' = (nI (mapR r), nI best, nI b, nI (fb_ct (ulP r b) (nU r + 1)), nI (mapR r / 5 ^ (nU r + 1)), nI (nU r + 1), w') ∧ nU r + 1 ≤ nU r ∧ (∀ q, q < nU r → w'.1 10 q = if q < nU r + 1 then w.1 10 q ||| bitI r b q else w.1 10 q) ∧ ∀ c, c ≠ 10 → w'.1 c = w.1 c) (goQ r b best w)) := by
      intro ht
      unfold sX4_goThrough_194 sX4_goThrough_205
      rw [nI_1]
      have n0 : ∀ c, c ≠ 0 → mm_ui w'.1 0 12 (nI b) c = w'.1 c := fun c hc => ru_n _ _ hc
      obtain ⟨q7, f7, b', rd', k1, k2, k3, k4, k5, k6⟩ := m_nextFit (w := (mm_ui w'.1 0 12 (nI b), w'.2)) (rd := layR r b) (by show mm_ui w'.1 0 12 (nI b) 1 = _; rw [n0 1 (by decide), hw2]) hr hlb (a := b + 1) (by omega)
      rw [f7]
      obtain ⟨v7, w7⟩ := q7
      dsimp only at k2 k3 k6
      subst k2
      refine hh_v ⟨ulk r b, b', w7, rfl, k1, by rw [k3]; exact k4, fun t => by rw [k3]; exact k5 t, fun i hi => ?_, ?_, fun j hj => ?_, fun c hc => ?_⟩
      · rw [k6 10 (by decide) (by decide), n0 10 (by decide)]; exact hv2 i hi
      · rw [if_pos ht]
        exact ⟨by rw [k6 0 (by decide) (by decide)]; exact ru_s _ _ _ _, rfl⟩
      · rw [k6 0 (by decide) (by decide), ru_i _ _ hj, e0]
      · rw [k6 c (by omega) (by omega), n0 c (by omega)]; exact hf c (by omega)
    rw [e0]
    refine hh_i (fun y => take (Or.inl y)) (fun y => ?_)
    have hlt : nI best ≤ nI (fb_ct (ulP r b) (nU r)) ↔ best ≤ ulk r b := nI_leI (by omega) (by omega)
    refine hh_i (fun y2 => ?_) (fun y2 => take (Or.inr (Nat.lt_of_not_le fun t => y2 (hlt.mpr t))))
    rw [nI_1]
    obtain ⟨q7, f7, b', rd', k1, k2, k3, k4, k5, k6⟩ := m_nextFit (w := w') (rd := layR r b) hw2 hr hlb (a := b + 1) (by omega)
    rw [f7]
    obtain ⟨v7, w7⟩ := q7
    dsimp only at k2 k3 k6
    subst k2
    unfold sX4_goThrough_205
    refine hh_v ⟨best, b', w7, rfl, k1, by rw [k3]; exact k4, fun t => by rw [k3]; exact k5 t, fun i hi => ?_, ?_, fun j hj => ?_, fun c hc => ?_⟩
    · rw [k6 10 (by decide) (by decide)]; exact hv2 i hi
    · rw [if_neg (fun t => t.elim y fun t => by have := hlt.mp y2; omega)]
      exact ⟨by rw [k6 0 (by decide) (by decide), e0], rfl⟩
    · rw [k6 0 (by decide) (by decide), e0]
    · rw [k6 c (by omega) (by omega)]; exact hf c (by omega)
  have hi2 : i < nU r := Nat.lt_of_not_le fun y => q (hle.mpr y)
  have hu := ok_un hr (show i < 4 by omega)
  have t0 : (69 : Int32) + nI i = nI (69 + i) := nI_add 69 _
  have g1 := gI (show 69 + i < 97 by omega) (by decide)
  rw [t0]
  refine hh_f g1 ?_
  have e7 : w'.1 1 (69 + i) = nI (uns r i) := by rw [hw2, layR_o hr b (by omega)]; exact hu.1
  rw [nI_clamp (show 69 + i < 2 ^ 31 by omega), e7, m_stuffIs (ok_ms hr2 hw2) hu.2]
  have hmi : mapR r / 5 ^ i ≤ mapR r := Nat.div_le_self _ _
  have hdig : mapR r / 5 ^ i % 5 = stf r (uns r i) := by
    have := mapK_dig hr (n := nU r) (by omega) (nU r) (Nat.le_refl _) i hi2
    rw [show nU r - nU r + i = i by omega] at this
    exact this
  have s5 := (ok_st hr2 hu.2).2
  have s6 := (ok_st hr hu.2).2
  show hh_c (sX4_goThrough_131 (nI (mapR r)) (nI best) (nI b) (nI (fb_ct (ulP r b) i)) (nI (mapR r / 5 ^ i)) (nI i) (nI (stf (layR r b) (uns r i))) w') _
  have g2 := gI (show i < 4 by omega) (by decide)
  unfold sX4_goThrough_131 sX4_goThrough_164
  rw [nI_rem5 (by omega), hdig]
  have he : nI (stf (layR r b) (uns r i)) = nI (stf r (uns r i)) ↔ stf (layR r b) (uns r i) = stf r (uns r i) := nI_eq (by omega) (by omega)
  have fin : ∀ d, d = fb_ct (ulP r b) (i + 1) → mm_mt (fun s' : Int32 × Int32 × Int32 × Int32 × Int32 × Int32 × mm_S => i < 4 ∧ ∃ w' : mm_S, s' = (nI (mapR r), nI best, nI b, nI (fb_ct (ulP r b) (i + 1)), nI (mapR r / 5 ^ (i + 1)), nI (i + 1), w') ∧ i + 1 ≤ nU r ∧ (∀ q, q < nU r → w'.1 10 q = if q < i + 1 then w.1 10 q ||| bitI r b q else w.1 10 q) ∧ ∀ c, c ≠ 10 → w'.1 c = w.1 c) (goQ r b best w) (Sum.inl (nI (mapR r), nI best, nI b, nI d, nI (mapR r / 5 ^ i) / 5, nI i + 1, (mm_ui w'.1 10 (Int32.toNatClampNeg (nI i)) (w'.1 10 (Int32.toNatClampNeg (nI i)) ||| (1 <<< (nI (stf (layR r b) (uns r i)) &&& 31))), w'.2))) := by
    rintro d rfl
    refine ⟨by omega, (mm_ui w'.1 10 i (w'.1 10 i ||| bitI r b i), w'.2), ?_, hi2, fun a ha => ?_, fun c hc => (ru_n _ _ hc).trans (hf c hc)⟩
    · rw [show (5 : Int32) = nI 5 from rfl, nI_quo (by omega) (by decide), nI_1, nI_clamp (show i < 2 ^ 31 by omega), Nat.pow_succ, ← Nat.div_div_eq_div_mul]; rfl
    · show mm_ui w'.1 10 i (w'.1 10 i ||| bitI r b i) 10 a = _
      by_cases t : a = i
      · subst t
        rw [ru_s, if_pos (by omega), hv a ha, if_neg (by omega)]
      · rw [ru_i _ _ t, hv a ha]
        have : (a < i ↔ a < i + 1) := by omega
        simp only [this]
  refine hh_i (fun y => hh_f g2 (hh_f g2 (hh_v ?_))) (fun y => hh_f g2 (hh_f g2 (hh_v ?_)))
  · rw [Int32.add_zero]
    refine fin _ ?_
    rw [fb_ct_succ, if_neg (by simp [ulP, he.mp y]), Nat.add_zero]
  · rw [nI_1]
    refine fin _ ?_
    rw [fb_ct_succ, if_pos (by simp only [ulP, decide_eq_true_eq]; exact fun t => y (he.mpr t))]
end FO
