/-! ===== items: what is read, and the class's reading ===== -/
def filR (r : Nat → Int32) (v a : Nat) : Nat → Nat → Int32
  | 0 => r
  | j + 1 => upd (filR r v a j) (15 + (a + j)) (nI v)
def apI (r : Nat → Int32) (it : Nat × Nat × Nat × Nat) : Nat → Int32 := if it.1 < 10 then addC r it.1 it.2.1 it.2.2.1 else if it.1 = 20 then addB r it.2.1 it.2.2.1 it.2.2.2 else if it.1 = 21 then addU r it.2.1 else filR r (it.1 - 10) it.2.1 (it.2.2.1 + 1 - it.2.1)
def okI (r : Nat → Int32) (it : Nat × Nat × Nat × Nat) : Prop := (it.1 < 7 ∧ nC r < 6 ∧ it.2.1 < 36 ∧ it.2.2.1 < 21) ∨ (it.1 = 20 ∧ nB r < 8 ∧ it.2.1 < 36 ∧ it.2.2.1 < 36 ∧ it.2.2.2 < 100) ∨ (it.1 = 21 ∧ nU r < 4 ∧ it.2.1 < 36) ∨ (10 ≤ it.1 ∧ it.1 < 15 ∧ it.2.1 ≤ it.2.2.1 ∧ it.2.2.1 < 36)
section AP
variable {r : Nat → Int32}
theorem filR_ok (h : okR r) {v a : Nat} (hv : v < 5) : ∀ j, a + j ≤ 36 → okR (filR r v a j)
  | 0, _ => h
  | j + 1, hj => okR_st (filR_ok h hv j (by omega)) (show a + j < 36 by omega) hv
theorem filR_o (v a : Nat) : ∀ j, a + j ≤ 36 → ∀ i, (i < 15 ∨ 51 ≤ i) → filR r v a j i = r i
  | 0, _, _, _ => rfl
  | j + 1, hj, i, hi => by
    show upd (filR r v a j) (15 + (a + j)) (nI v) i = r i
    rw [up_n _ _ (by omega)]
    exact filR_o v a j (by omega) i hi
theorem ap_C {k c f d : Nat} (hk : k < 10) : apI r (k, c, f, d) = addC r k c f := if_pos hk
theorem ap_B (a b c : Nat) : apI r (20, a, b, c) = addB r a b c := rfl
theorem ap_U (a b c : Nat) : apI r (21, a, b, c) = addU r a := rfl
theorem ap_S {q a b c : Nat} (hq : q < 5) : apI r (10 + q, a, b, c) = filR r q a (b + 1 - a) := by
  unfold apI
  dsimp only
  rw [if_neg (by omega), if_neg (by omega), if_neg (by omega), show 10 + q - 10 = q by omega]
theorem ap_ok (h : okR r) {it : Nat × Nat × Nat × Nat} (hi : okI r it) : okR (apI r it) := by
  obtain ⟨k, a, b, c⟩ := it
  rcases hi with ⟨h1, h2, h3, h4⟩ | ⟨h1, h2, h3, h4, h5⟩ | ⟨h1, h2, h3⟩ | ⟨h1, h2, h3, h4⟩
  · dsimp only at h1 h2 h3 h4
    rw [ap_C (by omega)]
    exact okR_C h h2 h1 h3 h4
  · dsimp only at h1 h2 h3 h4 h5
    subst h1
    exact okR_B h h2 h3 h4 h5
  · dsimp only at h1 h2 h3
    subst h1
    exact okR_U h h2 h3
  · dsimp only at h1 h2 h3 h4
    obtain ⟨q, rfl⟩ : ∃ q, k = 10 + q := ⟨k - 10, by omega⟩
    rw [ap_S (by omega)]
    exact filR_ok h (by omega) _ (by omega)
end AP
section PI
variable (T : Nat → Int32) (n : Nat)
abbrev numB (s lo hi : Nat) : Prop := kK T n s = 2 ∧ lo ≤ vK T n s ∧ vK T n s ≤ hi
noncomputable def pC2 (k cell s : Nat) : Nat ⊕ ((Nat × Nat × Nat × Nat) × Nat) := if wdK T n s = 15 then (if numB T n (nx T n s) 1 20 then .inr ((k, cell, vK T n (nx T n s), 0), nx T n (nx T n s)) else .inl (nx T n s)) else .inr ((k, cell, 6, 0), s)
noncomputable def pC1 (k s : Nat) : Nat ⊕ ((Nat × Nat × Nat × Nat) × Nat) := if wdK T n s = 14 then (if numB T n (nx T n s) 0 35 then pC2 T n k (vK T n (nx T n s)) (nx T n (nx T n s)) else .inl (nx T n s)) else pC2 T n k 0 s
noncomputable def pS2 (q a s : Nat) : Nat ⊕ ((Nat × Nat × Nat × Nat) × Nat) := if wdK T n s = 16 then (if numB T n (nx T n s) a 35 then .inr ((10 + q, a, vK T n (nx T n s), 0), nx T n (nx T n s)) else .inl (nx T n s)) else .inr ((10 + q, a, a, 0), s)
noncomputable def pS1 (q s : Nat) : Nat ⊕ ((Nat × Nat × Nat × Nat) × Nat) := if numB T n s 0 35 then pS2 T n q (vK T n s) (nx T n s) else .inl s
noncomputable def pH3 (a b s : Nat) : Nat ⊕ ((Nat × Nat × Nat × Nat) × Nat) := if numB T n s 0 99 then .inr ((20, a, b, vK T n s), nx T n s) else .inl s
noncomputable def pH2 (a s : Nat) : Nat ⊕ ((Nat × Nat × Nat × Nat) × Nat) := if numB T n s 0 35 then pH3 T n a (vK T n s) (nx T n s) else .inl s
noncomputable def pH1 (s : Nat) : Nat ⊕ ((Nat × Nat × Nat × Nat) × Nat) := if numB T n s 0 35 then pH2 T n (vK T n s) (nx T n s) else .inl s
noncomputable def pU (r : Nat → Int32) (s : Nat) : Nat ⊕ ((Nat × Nat × Nat × Nat) × Nat) := if numB T n s 0 35 ∧ ∀ i, i < nU r → uns r i ≠ vK T n s then .inr ((21, vK T n s, 0, 0), nx T n s) else .inl s
noncomputable def pI (r : Nat → Int32) (s : Nat) : Nat ⊕ ((Nat × Nat × Nat × Nat) × Nat) :=
  if wdK T n s < 7 then (if nC r < 6 then pC1 T n (wdK T n s) (nx T n s) else .inl s)
  else if wdK T n s < 12 then pS1 T n (wdK T n s - 7) (nx T n s)
  else if wdK T n s = 12 then (if nB r < 8 then pH1 T n (nx T n s) else .inl s)
  else if wdK T n s = 13 then (if nU r < 4 then pU T n r (nx T n s) else .inl s)
  else .inl s
end PI
/-- an item that is read is a good one, and something was read -/
def gdP (T : Nat → Int32) (n : Nat) (r : Nat → Int32) (s : Nat) (x : Nat ⊕ ((Nat × Nat × Nat × Nat) × Nat)) : Prop := match x with
  | .inl p => p ≤ n
  | .inr (it, s') => okI r it ∧ s ≤ s' ∧ s' ≤ n
section GD
variable {T : Nat → Int32} {n : Nat} {r : Nat → Int32}
theorem gd_w {s t : Nat} {x : Nat ⊕ ((Nat × Nat × Nat × Nat) × Nat)} (h : gdP T n r t x) (hst : s ≤ t) : gdP T n r s x := by
  cases x with
  | inl p => exact h
  | inr q => exact ⟨h.1, Nat.le_trans hst h.2.1, h.2.2⟩
theorem gd_C2 {k cell s : Nat} (hk : k < 7) (hn : nC r < 6) (hc : cell < 36) (hs : s ≤ n) : gdP T n r s (pC2 T n k cell s) := by
  have h1 := nx_le (T := T) hs
  have h2 := nx_le (T := T) h1.2.1
  unfold pC2
  by_cases c1 : wdK T n s = 15
  · rw [if_pos c1]
    by_cases c2 : numB T n (nx T n s) 1 20
    · rw [if_pos c2]
      exact ⟨Or.inl ⟨hk, hn, hc, by have := c2.2.2; show vK T n (nx T n s) < 21; omega⟩, by omega, h2.2.1⟩
    · rw [if_neg c2]; exact h1.2.1
  · rw [if_neg c1]
    exact ⟨Or.inl ⟨hk, hn, hc, by show 6 < 21; omega⟩, Nat.le_refl _, hs⟩
theorem gd_C1 {k s : Nat} (hk : k < 7) (hn : nC r < 6) (hs : s ≤ n) : gdP T n r s (pC1 T n k s) := by
  have h1 := nx_le (T := T) hs
  have h2 := nx_le (T := T) h1.2.1
  unfold pC1
  by_cases c1 : wdK T n s = 14
  · rw [if_pos c1]
    by_cases c2 : numB T n (nx T n s) 0 35
    · rw [if_pos c2]
      exact gd_w (gd_C2 hk hn (by have := c2.2.2; omega) h2.2.1) (by omega)
    · rw [if_neg c2]; exact h1.2.1
  · rw [if_neg c1]
    exact gd_C2 hk hn (by omega) hs
theorem gd_S1 {q s : Nat} (hq : q < 5) (hs : s ≤ n) : gdP T n r s (pS1 T n q s) := by
  have h1 := nx_le (T := T) hs
  have h2 := nx_le (T := T) h1.2.1
  have h3 := nx_le (T := T) h2.2.1
  unfold pS1 pS2
  by_cases c0 : numB T n s 0 35
  · rw [if_pos c0]
    have := c0.2.2
    by_cases c1 : wdK T n (nx T n s) = 16
    · rw [if_pos c1]
      by_cases c2 : numB T n (nx T n (nx T n s)) (vK T n s) 35
      · rw [if_pos c2]
        have := c2.2
        exact ⟨Or.inr (Or.inr (Or.inr ⟨by show 10 ≤ 10 + q; omega, by show 10 + q < 15; omega, by show vK T n s ≤ vK T n (nx T n (nx T n s)); omega, by show vK T n (nx T n (nx T n s)) < 36; omega⟩)), by omega, h3.2.1⟩
      · rw [if_neg c2]; exact h2.2.1
    · rw [if_neg c1]
      exact ⟨Or.inr (Or.inr (Or.inr ⟨by show 10 ≤ 10 + q; omega, by show 10 + q < 15; omega, Nat.le_refl _, by show vK T n s < 36; omega⟩)), by omega, h1.2.1⟩
  · rw [if_neg c0]; exact hs
theorem gd_H1 {s : Nat} (hn : nB r < 8) (hs : s ≤ n) : gdP T n r s (pH1 T n s) := by
  have h1 := nx_le (T := T) hs
  have h2 := nx_le (T := T) h1.2.1
  have h3 := nx_le (T := T) h2.2.1
  unfold pH1 pH2 pH3
  by_cases c0 : numB T n s 0 35
  · rw [if_pos c0]
    by_cases c1 : numB T n (nx T n s) 0 35
    · rw [if_pos c1]
      by_cases c2 : numB T n (nx T n (nx T n s)) 0 99
      · rw [if_pos c2]
        have := c0.2.2
        have := c1.2.2
        have := c2.2.2
        exact ⟨Or.inr (Or.inl ⟨rfl, hn, by show vK T n s < 36; omega, by show vK T n (nx T n s) < 36; omega, by show vK T n (nx T n (nx T n s)) < 100; omega⟩), by omega, h3.2.1⟩
      · rw [if_neg c2]; exact h2.2.1
    · rw [if_neg c1]; exact h1.2.1
  · rw [if_neg c0]; exact hs
theorem gd_U {s : Nat} (hn : nU r < 4) (hs : s ≤ n) : gdP T n r s (pU T n r s) := by
  have h1 := nx_le (T := T) hs
  unfold pU
  by_cases c0 : numB T n s 0 35 ∧ ∀ i, i < nU r → uns r i ≠ vK T n s
  · rw [if_pos c0]
    have := c0.1.2.2
    exact ⟨Or.inr (Or.inr (Or.inl ⟨rfl, hn, by show vK T n s < 36; omega⟩)), h1.1, h1.2.1⟩
  · rw [if_neg c0]; exact hs
theorem gd_I {s : Nat} (hs : s ≤ n) : gdP T n r (s + 1) (pI T n r s) := by
  have h1 := nx_le (T := T) hs
  unfold pI
  by_cases c : wdK T n s < 17
  · have hsn := wd_k c
    by_cases c0 : wdK T n s < 7
    · rw [if_pos c0]
      by_cases c1 : nC r < 6
      · rw [if_pos c1]; exact gd_w (gd_C1 c0 c1 h1.2.1) (by omega)
      · rw [if_neg c1]; exact hs
    rw [if_neg c0]
    by_cases c2 : wdK T n s < 12
    · rw [if_pos c2]; exact gd_w (gd_S1 (by omega) h1.2.1) (by omega)
    rw [if_neg c2]
    by_cases c3 : wdK T n s = 12
    · rw [if_pos c3]
      by_cases c1 : nB r < 8
      · rw [if_pos c1]; exact gd_w (gd_H1 c1 h1.2.1) (by omega)
      · rw [if_neg c1]; exact hs
    rw [if_neg c3]
    by_cases c4 : wdK T n s = 13
    · rw [if_pos c4]
      by_cases c1 : nU r < 4
      · rw [if_pos c1]; exact gd_w (gd_U c1 h1.2.1) (by omega)
      · rw [if_neg c1]; exact hs
    rw [if_neg c4]; exact hs
  · rw [if_neg (by omega), if_neg (by omega), if_neg (by omega), if_neg (by omega)]; exact hs
end GD
/-! the class reads an item -/
def FX (z z' : mm_S) : Prop := (∀ b, ¬ (b = 25 ∨ (29 ≤ b ∧ b ≤ 36) ∨ b = 37) → z'.1 b = z.1 b) ∧ ∀ b, b ≠ 27 → z'.2 b = z.2 b
theorem FX_0 (z : mm_S) : FX z z := ⟨fun _ _ => rfl, fun _ _ => rfl⟩
theorem FX_t {z z' z'' : mm_S} (h : FX z z') (h2 : FX z' z'') : FX z z'' := ⟨fun b hb => (h2.1 b hb).trans (h.1 b hb), fun b hb => (h2.2 b hb).trans (h.2 b hb)⟩
theorem FX_37 {z z' : mm_S} (h : f37 z z') : FX z z' := ⟨fun b hb => h.1 b (by omega), fun b _ => by rw [h.2]⟩
theorem RM_37 {z z' : mm_S} {r : Nat → Int32} (h : RM 25 z r) (hf : f37 z z') : RM 25 z' r := RM_k h (fun b hb => hf.1 b (by omega)) (by rw [hf.2])
theorem TX_c {T : Nat → Int32} {n s : Nat} {z z' : mm_S} (h : TX T n s z) (h1 : z'.1 37 = z.1 37) (h2 : z'.1 38 = z.1 38) : TX T n s z' := by
  unfold TX
  rw [h1, h2]
  exact h
def XQ (T : Nat → Int32) (n : Nat) (z0 : mm_S) (r : Nat → Int32) (res : Nat ⊕ ((Nat × Nat × Nat × Nat) × Nat)) (q : Int32 × mm_S) : Prop := match res with
  | .inl p => q.1 = 0 ∧ q.2.1 37 3 = nI p ∧ FX z0 q.2
  | .inr (it, s') => q.1 = 1 ∧ TX T n s' q.2 ∧ RM 25 q.2 (apI r it) ∧ FX z0 q.2
section XR
variable {T : Nat → Int32} {n : Nat} {r : Nat → Int32} {z0 : mm_S}
theorem x_isNum {s : Nat} {z : mm_S} (h : TX T n s z) {lo hi : Nat} (hlo : lo < 100) (hhi : hi < 100) : pX2_isNumber (nI lo) (nI hi) z = 0 ↔ ¬ numB T n s lo hi := by
  have hk := kK_le (T := T) (n := n) s
  have hv : vK T n s ≤ 1000 := vF_le s _
  have k2 : nI (kK T n s) = 2 ↔ kK T n s = 2 := nI_eq (b := 2) (by omega) (by decide)
  unfold pX2_isNumber pX3_lies
  rw [h.2.2.1]
  by_cases c : kK T n s = 2
  · rw [if_pos (k2.mpr c), h.2.2.2.2.2.1 c]
    have e1 : nI (vK T n s) < nI lo ↔ vK T n s < lo := nI_ltI (by omega) (by omega)
    have e2 : nI hi < nI (vK T n s) ↔ hi < vK T n s := nI_ltI (by omega) (by omega)
    by_cases c1 : vK T n s < lo
    · rw [if_pos (e1.mpr c1), if_pos rfl]
      exact ⟨fun _ x => by have := x.2.1; omega, fun _ => rfl⟩
    · rw [if_neg (fun x => c1 (e1.mp x))]
      by_cases c2 : hi < vK T n s
      · rw [if_pos (e2.mpr c2), if_pos rfl]
        exact ⟨fun _ x => by have := x.2.2; omega, fun _ => rfl⟩
      · rw [if_neg (fun x => c2 (e2.mp x)), if_neg (by decide)]
        exact ⟨fun x => absurd x (by decide), fun x => absurd ⟨c, by omega, by omega⟩ x⟩
  · rw [if_neg (fun x => c (k2.mp x))]
    exact ⟨fun _ x => c x.1, fun _ => rfl⟩
theorem xq_l {p s : Nat} {z : mm_S} (h : TX T n s z) (hp : p = s) (hf : FX z0 z) : XQ T n z0 r (.inl p) (0, z) := ⟨rfl, by rw [hp]; exact h.2.2.2.1, hf⟩
theorem x_c90 {s k c f : Nat} {z : mm_S} (h : TX T n s z) (hR : RM 25 z r) (hr : okR r) (hn : nC r < 6) (hk : k < 7) (hf : FX z0 z) : hh_c (sX2_readCrew_90 25 (nI k) (nI c) (nI f) z) (XQ T n z0 r (.inr ((k, c, f, 0), s))) := by
  obtain ⟨g1, g2, g3, -⟩ := x_addCrew (Or.inr (Or.inr rfl)) hR hr hn k c f
  unfold sX2_readCrew_90 sX2_readCrew_98
  refine hh_v ⟨rfl, TX_c h (g2 37 (by decide) (by decide) (by decide) (by decide)) (g2 38 (by decide) (by decide) (by decide) (by decide)), ?_, FX_t hf ⟨fun b hb => g2 b (by omega) (by omega) (by omega) (by omega), fun b _ => by rw [g3]⟩⟩
  rw [ap_C (by omega)]
  exact g1
theorem x_c51 (hn : n ≤ 120) (hT : ∀ i, i < n → isN (T i) 256) {s k c : Nat} {z : mm_S} (h : TX T n s z) (hR : RM 25 z r) (hr : okR r) (hn6 : nC r < 6) (hk : k < 7) (hf : FX z0 z) : hh_c (sX2_readCrew_51 25 (nI k) (nI c) z) (XQ T n z0 r (pC2 T n k c s)) := by
  have h10 : ¬ (1 : Int32) = 0 := by decide
  unfold sX2_readCrew_51 pC2
  refine hh_be (x_isWord hn h (w := 15) (by decide)) ?_
  dsimp only
  by_cases c1 : wdK T n s = 15
  · rw [if_pos c1, if_pos c1]
    refine hh_f h10 ?_
    unfold sX2_readCrew_64
    refine hh_bd (x_next hn hT h) (fun z1 h1 => ?_)
    obtain ⟨t1, f1⟩ := h1
    unfold sX2_readCrew_68
    have hnum := x_isNum t1 (lo := 1) (hi := 20) (by decide) (by decide)
    by_cases c2 : numB T n (nx T n s) 1 20
    · rw [if_pos c2]
      refine hh_f (fun e => hnum.mp e c2) ?_
      refine hh_bd (x_next hn hT t1) (fun z2 h2 => ?_)
      rw [t1.2.2.2.2.2.1 c2.1]
      exact x_c90 h2.1 (RM_37 (RM_37 hR f1) h2.2) hr hn6 hk (FX_t (FX_t hf (FX_37 f1)) (FX_37 h2.2))
    · rw [if_neg c2]
      exact hh_t (hnum.mpr c2) (hh_v (xq_l t1 rfl (FX_t hf (FX_37 f1))))
  · rw [if_neg c1, if_neg c1]
    exact hh_t rfl (x_c90 h hR hr hn6 hk hf)
theorem x_readCrew (hn : n ≤ 120) (hT : ∀ i, i < n → isN (T i) 256) {s k : Nat} {z : mm_S} (h : TX T n s z) (hR : RM 25 z r) (hr : okR r) (hk : k < 7) (hf : FX z0 z) : hh_c (sX2_readCrew 25 (nI k) z) (XQ T n z0 r (if nC r < 6 then pC1 T n k (nx T n s) else .inl s)) := by
  have h10 : ¬ (1 : Int32) = 0 := by decide
  have hc := ok_nC hr
  have e4 : z.1 25 4 = nI (nC r) := hR.2.1.trans hc.1
  have l6 : nI (nC r) < 6 ↔ nC r < 6 := nI_ltI (b := 6) (by omega) (by decide)
  unfold sX2_readCrew sX2_readCrew_0
  rw [e4]
  by_cases c6 : nC r < 6
  · rw [if_pos c6]
    refine hh_t (l6.mpr c6) (hh_bd (x_next hn hT h) (fun z1 h1 => ?_))
    obtain ⟨t1, f1⟩ := h1
    have hR1 := RM_37 hR f1
    have hf1 := FX_t hf (FX_37 f1)
    unfold sX2_readCrew_15 pC1
    refine hh_be (x_isWord hn t1 (w := 14) (by decide)) ?_
    dsimp only
    by_cases c1 : wdK T n (nx T n s) = 14
    · rw [if_pos c1, if_pos c1]
      refine hh_f h10 ?_
      unfold sX2_readCrew_26
      refine hh_bd (x_next hn hT t1) (fun z2 h2 => ?_)
      obtain ⟨t2, f2⟩ := h2
      unfold sX2_readCrew_30
      have hnum := x_isNum t2 (lo := 0) (hi := 35) (by decide) (by decide)
      by_cases c2 : numB T n (nx T n (nx T n s)) 0 35
      · rw [if_pos c2]
        refine hh_f (fun e => hnum.mp e c2) ?_
        refine hh_bd (x_next hn hT t2) (fun z3 h3 => ?_)
        rw [t2.2.2.2.2.2.1 c2.1]
        exact x_c51 hn hT h3.1 (RM_37 (RM_37 hR1 f2) h3.2) hr c6 hk (FX_t (FX_t hf1 (FX_37 f2)) (FX_37 h3.2))
      · rw [if_neg c2]
        exact hh_t (hnum.mpr c2) (hh_v (xq_l t2 rfl (FX_t hf1 (FX_37 f2))))
    · rw [if_neg c1, if_neg c1]
      exact hh_t rfl (x_c51 (c := 0) hn hT t1 hR1 hr c6 hk hf1)
  · rw [if_neg c6]
    exact hh_f (fun e => c6 (l6.mp e)) (hh_v (xq_l h rfl hf))
theorem x_s63 {s q a b : Nat} {z : mm_S} (h : TX T n s z) (hR : RM 25 z r) (hr : okR r) (hq : q < 5) (hab : a ≤ b) (hb : b < 36) (hf : FX z0 z) : hh_c (sX2_readStuff_63 25 (nI q) (nI a) (nI b) z) (XQ T n z0 r (.inr ((10 + q, a, b, 0), s))) := by
  unfold sX2_readStuff_63 sX2_readStuff_66
  refine hh_up (fun j u => ∃ z', u = (25, nI q, nI b, nI (a + j), z') ∧ a + j ≤ b + 1 ∧ RM 25 z' (filR r q a j) ∧ z'.1 = z.1 ∧ ∀ b, b ≠ 27 → z'.2 b = z.2 b) 36 (by decide) ⟨z, rfl, by omega, hR, rfl, fun _ _ => rfl⟩ ?_
  rintro j u hj ⟨z', rfl, hjb, a1, a2, a3⟩
  have h1 : nI b < nI (a + j) ↔ b < a + j := nI_ltI (by omega) (by omega)
  have h2 : (36 : Int32) ≤ nI (a + j) ↔ 36 ≤ a + j := nI_leI (a := 36) (by decide) (by omega)
  have fin : b < a + j → XQ T n z0 r (.inr ((10 + q, a, b, 0), s)) (1, z') := by
    intro hx
    refine ⟨rfl, TX_c h (by rw [a2]) (by rw [a2]), ?_, FX_t hf ⟨fun b _ => by rw [a2], a3⟩⟩
    rw [ap_S hq, show b + 1 - a = j by omega]
    exact a1
  unfold lX2_readStuff_66 sX2_readStuff_90
  dsimp only
  refine hh_i (fun y => hh_v (fin (h1.mp y))) (fun y => ?_)
  have hjb2 : a + j ≤ b := Nat.le_of_not_lt fun x => y (h1.mpr x)
  refine hh_f (fun x => by have := h2.mp x; omega) ?_
  obtain ⟨p1, p2, p3⟩ := x_put (o := 26) (c := a + j) (v := q) a1.2.2.2.2.2.2.2.2.2 (by omega) hq
  exact hh_v ⟨by omega, _, by rw [nI_1]; rfl, by omega, RM_st (c := a + j) a1 (by omega) (fun b _ => by rw [p1]) (by rw [stf_u (by omega)]; exact p2), p1.trans a2, fun b hb => (p3 b (by omega)).trans (a3 b hb)⟩
theorem x_readStuff (hn : n ≤ 120) (hT : ∀ i, i < n → isN (T i) 256) {s q : Nat} {z : mm_S} (h : TX T n s z) (hR : RM 25 z r) (hr : okR r) (hq : q < 5) (hf : FX z0 z) : hh_c (sX2_readStuff 25 (nI q) z) (XQ T n z0 r (pS1 T n q (nx T n s))) := by
  have h10 : ¬ (1 : Int32) = 0 := by decide
  unfold sX2_readStuff sX2_readStuff_0
  refine hh_bd (x_next hn hT h) (fun z1 h1 => ?_)
  obtain ⟨t1, f1⟩ := h1
  have hR1 := RM_37 hR f1
  have hf1 := FX_t hf (FX_37 f1)
  unfold sX2_readStuff_4 pS1
  have hnum := x_isNum t1 (lo := 0) (hi := 35) (by decide) (by decide)
  by_cases c0 : numB T n (nx T n s) 0 35
  · rw [if_pos c0]
    refine hh_f (fun e => hnum.mp e c0) ?_
    refine hh_bd (x_next hn hT t1) (fun z2 h2 => ?_)
    obtain ⟨t2, f2⟩ := h2
    have hR2 := RM_37 hR1 f2
    have hf2 := FX_t hf1 (FX_37 f2)
    rw [t1.2.2.2.2.2.1 c0.1]
    have hv := c0.2.2
    unfold sX2_readStuff_25 pS2
    refine hh_be (x_isWord hn t2 (w := 16) (by decide)) ?_
    dsimp only
    by_cases c1 : wdK T n (nx T n (nx T n s)) = 16
    · rw [if_pos c1, if_pos c1]
      refine hh_f h10 ?_
      unfold sX2_readStuff_37
      refine hh_bd (x_next hn hT t2) (fun z3 h3 => ?_)
      obtain ⟨t3, f3⟩ := h3
      unfold sX2_readStuff_41
      have hnum2 := x_isNum t3 (lo := vK T n (nx T n s)) (hi := 35) (by omega) (by decide)
      by_cases c2 : numB T n (nx T n (nx T n (nx T n s))) (vK T n (nx T n s)) 35
      · rw [if_pos c2]
        refine hh_f (fun e => hnum2.mp e c2) ?_
        refine hh_bd (x_next hn hT t3) (fun z4 h4 => ?_)
        rw [t3.2.2.2.2.2.1 c2.1]
        exact x_s63 h4.1 (RM_37 (RM_37 hR2 f3) h4.2) hr hq c2.2.1 (by have := c2.2.2; omega) (FX_t (FX_t hf2 (FX_37 f3)) (FX_37 h4.2))
      · rw [if_neg c2]
        exact hh_t (hnum2.mpr c2) (hh_v (xq_l t3 rfl (FX_t hf2 (FX_37 f3))))
    · rw [if_neg c1, if_neg c1]
      exact hh_t rfl (x_s63 t2 hR2 hr hq (Nat.le_refl _) (by omega) hf2)
  · rw [if_neg c0]
    exact hh_t (hnum.mpr c0) (hh_v (xq_l t1 rfl hf1))
theorem x_readHeard (hn : n ≤ 120) (hT : ∀ i, i < n → isN (T i) 256) {s : Nat} {z : mm_S} (h : TX T n s z) (hR : RM 25 z r) (hr : okR r) (hf : FX z0 z) : hh_c (sX2_readHeard 25 z) (XQ T n z0 r (if nB r < 8 then pH1 T n (nx T n s) else .inl s)) := by
  have hc := ok_nB hr
  have e4 : z.1 25 10 = nI (nB r) := hR.2.2.1.trans hc.1
  have l8 : nI (nB r) < 8 ↔ nB r < 8 := nI_ltI (b := 8) (by omega) (by decide)
  unfold sX2_readHeard sX2_readHeard_0
  rw [e4]
  by_cases c8 : nB r < 8
  · rw [if_pos c8]
    refine hh_t (l8.mpr c8) (hh_bd (x_next hn hT h) (fun z1 h1 => ?_))
    obtain ⟨t1, f1⟩ := h1
    have hR1 := RM_37 hR f1
    have hf1 := FX_t hf (FX_37 f1)
    unfold sX2_readHeard_15 pH1
    have hnum := x_isNum t1 (lo := 0) (hi := 35) (by decide) (by decide)
    by_cases c0 : numB T n (nx T n s) 0 35
    · rw [if_pos c0]
      refine hh_f (fun e => hnum.mp e c0) ?_
      refine hh_bd (x_next hn hT t1) (fun z2 h2 => ?_)
      obtain ⟨t2, f2⟩ := h2
      have hR2 := RM_37 hR1 f2
      have hf2 := FX_t hf1 (FX_37 f2)
      rw [t1.2.2.2.2.2.1 c0.1]
      unfold sX2_readHeard_36 pH2
      have hnum2 := x_isNum t2 (lo := 0) (hi := 35) (by decide) (by decide)
      by_cases c1 : numB T n (nx T n (nx T n s)) 0 35
      · rw [if_pos c1]
        refine hh_f (fun e => hnum2.mp e c1) ?_
        refine hh_bd (x_next hn hT t2) (fun z3 h3 => ?_)
        obtain ⟨t3, f3⟩ := h3
        have hR3 := RM_37 hR2 f3
        have hf3 := FX_t hf2 (FX_37 f3)
        rw [t2.2.2.2.2.2.1 c1.1]
        unfold sX2_readHeard_57 pH3
        have hnum3 := x_isNum t3 (lo := 0) (hi := 99) (by decide) (by decide)
        by_cases c2 : numB T n (nx T n (nx T n (nx T n s))) 0 99
        · rw [if_pos c2]
          refine hh_f (fun e => hnum3.mp e c2) ?_
          rw [t3.2.2.2.2.2.1 c2.1]
          obtain ⟨g1, g2, g3, -⟩ := x_addBook (Or.inr (Or.inr rfl)) hR3 hr c8 (vK T n (nx T n s)) (vK T n (nx T n (nx T n s))) (vK T n (nx T n (nx T n (nx T n s))))
          unfold sX2_readHeard_79 sX2_readHeard_83
          have t4 := TX_c t3 (g2 37 (by decide) (by decide) (by decide) (by decide)) (g2 38 (by decide) (by decide) (by decide) (by decide))
          have hf4 : FX z0 _ := FX_t hf3 ⟨fun b hb => g2 b (by omega) (by omega) (by omega) (by omega), fun b _ => by rw [g3]⟩
          refine hh_bd (x_next hn hT t4) (fun z5 h5 => hh_v ⟨rfl, h5.1, RM_37 g1 h5.2, FX_t hf4 (FX_37 h5.2)⟩)
        · rw [if_neg c2]
          exact hh_t (hnum3.mpr c2) (hh_v (xq_l t3 rfl hf3))
      · rw [if_neg c1]
        exact hh_t (hnum2.mpr c1) (hh_v (xq_l t2 rfl hf2))
    · rw [if_neg c0]
      exact hh_t (hnum.mpr c0) (hh_v (xq_l t1 rfl hf1))
  · rw [if_neg c8]
    exact hh_f (fun e => c8 (l8.mp e)) (hh_v (xq_l h rfl hf))
theorem x_readUnsure (hn : n ≤ 120) (hT : ∀ i, i < n → isN (T i) 256) {s : Nat} {z : mm_S} (h : TX T n s z) (hR : RM 25 z r) (hr : okR r) (hf : FX z0 z) : hh_c (sX2_readUnsure 25 z) (XQ T n z0 r (if nU r < 4 then pU T n r (nx T n s) else .inl s)) := by
  have hc := ok_nU hr
  have e4 : z.1 25 6 = nI (nU r) := hR.2.2.2.1.trans hc.1
  have l4 : nI (nU r) < 4 ↔ nU r < 4 := nI_ltI (b := 4) (by omega) (by decide)
  unfold sX2_readUnsure sX2_readUnsure_0
  rw [e4]
  by_cases c4 : nU r < 4
  · rw [if_pos c4]
    refine hh_t (l4.mpr c4) (hh_bd (x_next hn hT h) (fun z1 h1 => ?_))
    obtain ⟨t1, f1⟩ := h1
    have hR1 := RM_37 hR f1
    have hf1 := FX_t hf (FX_37 f1)
    unfold sX2_readUnsure_14 pU
    have hnum := x_isNum t1 (lo := 0) (hi := 35) (by decide) (by decide)
    by_cases c0 : numB T n (nx T n s) 0 35
    · refine hh_f (fun e => hnum.mp e c0) ?_
      rw [t1.2.2.2.2.2.1 c0.1]
      have hun := x_isUnsure (c := vK T n (nx T n s)) (Or.inr (Or.inr rfl)) hR1 hr (by have := c0.2.2; omega)
      by_cases c1 : ∀ i, i < nU r → uns r i ≠ vK T n (nx T n s)
      · rw [if_pos (show numB T n (nx T n s) 0 35 ∧ ∀ i, i < nU r → uns r i ≠ vK T n (nx T n s) from ⟨c0, c1⟩)]
        refine hh_t (hun.mpr c1) ?_
        obtain ⟨g1, g2, g3, -⟩ := x_addUnsure (Or.inr (Or.inr rfl)) hR1 hr c4 (vK T n (nx T n s))
        unfold sX2_readUnsure_45 sX2_readUnsure_49
        have t4 := TX_c t1 (g2 37 (by decide) (by decide)) (g2 38 (by decide) (by decide))
        have hf4 : FX z0 _ := FX_t hf1 ⟨fun b hb => g2 b (by omega) (by omega), fun b _ => by rw [g3]⟩
        refine hh_bd (x_next hn hT t4) (fun z5 h5 => hh_v ⟨rfl, h5.1, RM_37 g1 h5.2, FX_t hf4 (FX_37 h5.2)⟩)
      · rw [if_neg (show ¬ (numB T n (nx T n s) 0 35 ∧ ∀ i, i < nU r → uns r i ≠ vK T n (nx T n s)) from fun x => c1 x.2)]
        exact hh_f (fun e => c1 (hun.mp e)) (hh_v (xq_l t1 rfl hf1))
    · rw [if_neg (show ¬ (numB T n (nx T n s) 0 35 ∧ ∀ i, i < nU r → uns r i ≠ vK T n (nx T n s)) from fun x => c0 x.1)]
      exact hh_t (hnum.mpr c0) (hh_v (xq_l t1 rfl hf1))
  · rw [if_neg c4]
    exact hh_f (fun e => c4 (l4.mp e)) (hh_v (xq_l h rfl hf))
theorem xq_01 {res : Nat ⊕ ((Nat × Nat × Nat × Nat) × Nat)} {q : Int32 × mm_S} (h : XQ T n z0 r res q) : q = (0, q.2) ∨ q = (1, q.2) := by
  obtain ⟨a, b⟩ := q
  cases res with
  | inl p => exact Or.inl (by rw [show a = 0 from h.1])
  | inr x => exact Or.inr (by rw [show a = 1 from h.1])
theorem xq_if {res : Nat ⊕ ((Nat × Nat × Nat × Nat) × Nat)} {q : Int32 × mm_S} (h : XQ T n z0 r res q) : hh_c (if q.1 = 0 then some (0, q.2) else if q.1 = 1 then some (1, q.2) else none) (XQ T n z0 r res) := by
  rcases xq_01 h with e | e
  · rw [e] at h ⊢
    exact hh_t rfl (hh_v h)
  · rw [e] at h ⊢
    exact hh_f (show ¬ (1 : Int32) = 0 by decide) (hh_t rfl (hh_v h))
theorem x_readItem (hn : n ≤ 120) (hT : ∀ i, i < n → isN (T i) 256) {s : Nat} {z : mm_S} (h : TX T n s z) (hR : RM 25 z r) (hr : okR r) (hf : FX z0 z) : hh_c (sX2_readItem 25 z) (XQ T n z0 r (pI T n r s)) := by
  have h10 : ¬ (1 : Int32) = 0 := by decide
  unfold sX2_readItem sX2_readItem_0 pI
  refine hh_be (x_kindTold hn h) ?_
  dsimp only
  unfold sX2_readItem_5 kdI
  by_cases c0 : wdK T n s < 7
  · rw [if_pos c0, if_pos c0]
    refine hh_f (nI_nm (by omega)) (hh_bd (x_readCrew hn hT h hR hr c0 hf) (fun q hq => xq_if hq))
  rw [if_neg c0, if_neg c0]
  refine hh_t rfl ?_
  unfold sX2_readItem_17
  refine hh_be (x_stuffTold hn h) ?_
  dsimp only
  unfold sX2_readItem_22 sdI
  by_cases c1 : wdK T n s < 12
  · rw [if_pos c1, if_pos (show 7 ≤ wdK T n s ∧ wdK T n s < 12 from ⟨by omega, c1⟩)]
    refine hh_f (nI_nm (by omega)) (hh_bd (x_readStuff hn hT h hR hr (show wdK T n s - 7 < 5 by omega) hf) (fun q hq => xq_if hq))
  rw [if_neg c1, if_neg (show ¬ (7 ≤ wdK T n s ∧ wdK T n s < 12) from fun x => c1 x.2)]
  refine hh_t rfl ?_
  unfold sX2_readItem_34
  refine hh_be (x_isWord hn h (w := 12) (by decide)) ?_
  dsimp only
  by_cases c2 : wdK T n s = 12
  · rw [if_pos c2, if_pos c2]
    refine hh_f h10 ?_
    unfold sX2_readItem_43
    exact hh_bd (x_readHeard hn hT h hR hr hf) (fun q hq => xq_if hq)
  rw [if_neg c2, if_neg c2]
  refine hh_t rfl ?_
  unfold sX2_readItem_49
  refine hh_be (x_isWord hn h (w := 13) (by decide)) ?_
  dsimp only
  by_cases c3 : wdK T n s = 13
  · rw [if_pos c3, if_pos c3]
    refine hh_f h10 ?_
    unfold sX2_readItem_58 sX2_readItem_66
    refine hh_bd (x_readUnsure hn hT h hR hr hf) (fun q hq => ?_)
    rcases xq_01 hq with e | e
    · rw [e] at hq ⊢
      exact hh_t rfl (hh_v hq)
    · rw [e] at hq ⊢
      exact hh_f h10 (hh_v hq)
  · rw [if_neg c3, if_neg c3]
    exact hh_t rfl (hh_v (xq_l h rfl hf))
end XR
