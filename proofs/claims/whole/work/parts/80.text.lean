/-! ===== texts ===== -/
theorem m_isSo {w : mm_S} {r : Nat → Int32} {it : Nat × Nat × Nat × Nat} {k : Nat} (hw : w.1 1 = r) (hr : okR r) (hi : okI r it) (hk : k ≤ 110) (h0 : w.1 16 (4 * k) = nI it.1) (h1 : w.1 16 (4 * k + 1) = nI it.2.1) (h2 : w.1 16 (4 * k + 2) = nI it.2.2.1) (h3 : w.1 16 (4 * k + 3) = nI it.2.2.2) :
    hh_c (sX4_isSo (nI (4 * k)) w) (fun q => 0 ≤ q.1 ∧ q.2.1 1 = apI r it ∧ ∀ b, b ≠ 1 → q.2.1 b = w.1 b) := by
  obtain ⟨a, b, c, d⟩ := it
  dsimp only at h0 h1 h2 h3
  have e1 : nI (4 * k) + 1 = nI (4 * k + 1) := nI_1 _
  have e2 : nI (4 * k) + 2 = nI (4 * k + 2) := nI_add _ 2
  have e3 : nI (4 * k) + 3 = nI (4 * k + 3) := nI_add _ 3
  have h00 : ∀ m : Nat, m < 2 ^ 31 → (0 : Int32) ≤ nI m := fun m hm => (nI_leI (a := 0) (by decide) hm).mpr (Nat.zero_le _)
  have ha : a < 22 := by
    rcases hi with ⟨q, _⟩ | ⟨q, _⟩ | ⟨q, _⟩ | ⟨_, q, _⟩ <;> (dsimp only at q; omega)
  have l10 : (10 : Int32) ≤ nI a ↔ 10 ≤ a := nI_leI (a := 10) (by decide) (by omega)
  unfold sX4_isSo sX4_isSo_0
  rw [e1, e2]
  refine hh_f (gI (show 4 * k + 1 < 480 by omega) (by decide)) (hh_f (gI (show 4 * k + 2 < 480 by omega) (by decide)) (hh_f (gI (show 4 * k < 480 by omega) (by decide)) ?_))
  rw [nI_clamp (show 4 * k < 2 ^ 31 by omega), nI_clamp (show 4 * k + 1 < 2 ^ 31 by omega), nI_clamp (show 4 * k + 2 < 2 ^ 31 by omega), h0, h1, h2]
  rcases hi with ⟨q1, q2, q3, q4⟩ | ⟨q1, q2, q3, q4, q5⟩ | ⟨q1, q2, q3⟩ | ⟨q1, q2, q3, q4⟩
  · dsimp only at q1 q2 q3 q4
    refine hh_f (fun x => by have := l10.mp x; omega) ?_
    obtain ⟨w', f1, f2, f3⟩ := m_comes hw hr q2 a b c
    rw [f1]
    refine hh_v ⟨h00 _ (by omega), ?_, f3⟩
    rw [ap_C (by omega)]
    exact f2
  · dsimp only at q1 q2 q3 q4 q5
    subst q1
    refine hh_t (l10.mpr (by decide)) ?_
    unfold sX4_isSo_42
    refine hh_t rfl ?_
    rw [e3]
    refine hh_f (gI (show 4 * k + 3 < 480 by omega) (by decide)) ?_
    obtain ⟨w', f1, f2, f3⟩ := m_enters hw hr q2 b c d
    rw [nI_clamp (by omega), h3, f1]
    exact hh_v ⟨h00 _ (by omega), f2, f3⟩
  · dsimp only at q1 q2 q3
    subst q1
    refine hh_t (l10.mpr (by decide)) ?_
    unfold sX4_isSo_42
    refine hh_f (by decide) ?_
    unfold sX4_isSo_64
    refine hh_t rfl ?_
    obtain ⟨w', f1, f2, f3⟩ := m_getsUnsure hw hr q2 b
    rw [f1]
    exact hh_v ⟨h00 _ (by omega), f2, f3⟩
  · dsimp only at q1 q2 q3 q4
    obtain ⟨q, rfl⟩ : ∃ q, a = 10 + q := ⟨a - 10, by omega⟩
    have n20 : ¬ nI (10 + q) = 20 := fun e => by have := (nI_eq (b := 20) (by omega) (by decide)).mp e; omega
    have n21 : ¬ nI (10 + q) = 21 := fun e => by have := (nI_eq (b := 21) (by omega) (by decide)).mp e; omega
    refine hh_t (l10.mpr (by omega)) ?_
    unfold sX4_isSo_42
    refine hh_f n20 ?_
    unfold sX4_isSo_64
    refine hh_f n21 ?_
    unfold sX4_isSo_77 sX4_isSo_80
    rw [ap_S (by omega)]
    refine hh_up (fun j u => ∃ w', u = (nI c, nI (10 + q), nI (b + j), w') ∧ b + j ≤ c + 1 ∧ w'.1 1 = filR r q b j ∧ ∀ b, b ≠ 1 → w'.1 b = w.1 b) 36 (by decide) ⟨w, rfl, by omega, hw, fun _ _ => rfl⟩ ?_
    rintro j u hj ⟨w', rfl, hjc, a1, a2⟩
    have hlt : nI c < nI (b + j) ↔ c < b + j := nI_ltI (by omega) (by omega)
    unfold lX4_isSo_80 sX4_isSo_101
    dsimp only
    refine hh_i (fun y => hh_v ⟨by show (0 : Int32) ≤ 0; decide, ?_, a2⟩) (fun y => ?_)
    · have := hlt.mp y
      rw [show c + 1 - b = j by omega]
      exact a1
    have hjc2 : b + j ≤ c := Nat.le_of_not_lt fun x => y (hlt.mpr x)
    rw [show (15 : Int32) + nI (b + j) = nI (15 + (b + j)) from nI_add 15 _]
    refine hh_f (gI (show 15 + (b + j) < 97 by omega) (by decide)) ?_
    rw [nI_clamp (by omega), show (10 : Int32) = nI 10 from rfl, nI_dif (show 10 ≤ 10 + q by omega), show 10 + q - 10 = q by omega]
    refine hh_v ⟨by omega, (mm_ui w'.1 1 (15 + (b + j)) (nI q), w'.2), by rw [nI_1]; rfl, by omega, ?_, fun b hb => (ru_n _ _ hb).trans (a2 b hb)⟩
    dsimp only
    rw [ru_r, a1]; rfl
section PT
variable (T : Nat → Int32) (n : Nat)
noncomputable def pT : Nat → (Nat → Int32) → Nat → Nat → Nat ⊕ (Nat × (Nat → Int32))
  | 0, _, s, _ => .inl s
  | k + 1, r, s, j => match pI T n r s with
    | .inl p => .inl p
    | .inr q => if kK T n q.2 = 0 then .inr (j + 1, apI r q.1) else if kK T n q.2 = 3 then pT k (apI r q.1) (nx T n q.2) (j + 1) else .inl q.2
noncomputable def pE (k : Nat) (r : Nat → Int32) (s j : Nat) : Nat ⊕ (Nat × (Nat → Int32)) := if kK T n s = 0 then .inr (j, r) else if kK T n s = 3 then pT T n k r (nx T n s) j else .inl s
end PT
section TT
variable {T : Nat → Int32} {n : Nat}
theorem pT_l {k s j p : Nat} {r : Nat → Int32} (h : pI T n r s = .inl p) : pT T n (k + 1) r s j = .inl p := by
  show (match pI T n r s with
    | .inl p => (.inl p : Nat ⊕ (Nat × (Nat → Int32)))
    | .inr q => if kK T n q.2 = 0 then .inr (j + 1, apI r q.1) else if kK T n q.2 = 3 then pT T n k (apI r q.1) (nx T n q.2) (j + 1) else .inl q.2) = _
  rw [h]
theorem pT_r {k s j s' : Nat} {r : Nat → Int32} {it : Nat × Nat × Nat × Nat} (h : pI T n r s = .inr (it, s')) : pT T n (k + 1) r s j = pE T n k (apI r it) s' (j + 1) := by
  show (match pI T n r s with
    | .inl p => (.inl p : Nat ⊕ (Nat × (Nat → Int32)))
    | .inr q => if kK T n q.2 = 0 then .inr (j + 1, apI r q.1) else if kK T n q.2 = 3 then pT T n k (apI r q.1) (nx T n q.2) (j + 1) else .inl q.2) = _
  rw [h]
  rfl
def XT (n : Nat) (z0 : mm_S) (R : Nat ⊕ (Nat × (Nat → Int32))) (q : Int32 × mm_S) : Prop := match R with
  | .inl p => q.1 = -1 - nI p ∧ p ≤ n ∧ FX z0 q.2
  | .inr (j, r) => q.1 = nI j ∧ 1 ≤ j ∧ j ≤ 110 ∧ RM 25 q.2 r ∧ okR r ∧ FX z0 q.2
theorem x_into (hn : n ≤ 120) (hT : ∀ i, i < n → isN (T i) 256) {s0 : Nat} {r0 : Nat → Int32} (hr0 : okR r0) {z0 z : mm_S} (h : TX T n s0 z) (hR : RM 25 z r0) (hf : FX z0 z) : hh_c (sX2_readInto_9 25 z) (XT n z0 (pT T n 121 r0 s0 0)) := by
  unfold sX2_readInto_9 sX2_readInto_11
  refine hh_up (fun j u => ∃ k r s z', u = (25, nI (j + 1), z') ∧ pT T n 121 r0 s0 0 = pT T n k r s j ∧ 121 ≤ k + s ∧ 2 * j ≤ s ∧ okR r ∧ TX T n s z' ∧ RM 25 z' r ∧ FX z0 z') 60 (by decide) ⟨121, r0, s0, z, rfl, rfl, by omega, by omega, hr0, h, hR, hf⟩ ?_
  rintro j u hj ⟨k, r, s, z', rfl, hp, hks, hjs, hr, ht, hm, hfx⟩
  have hs := ht.1
  obtain ⟨k, rfl⟩ : ∃ k', k = k' + 1 := ⟨k - 1, by omega⟩
  have h120 : ¬ (120 : Int32) < nI (j + 1) := fun x => by have := (nI_ltI (a := 120) (by decide) (by omega)).mp x; omega
  have hgd := gd_I (T := T) (r := r) hs
  unfold lX2_readInto_11
  dsimp only
  refine hh_f h120 (hh_bd (x_readItem hn hT ht hm hr hfx) (fun q hq => ?_))
  obtain ⟨v, z2⟩ := q
  cases hpi : pI T n r s with
  | inl p =>
    rw [hpi] at hq hgd
    obtain ⟨rfl, q2, q3⟩ := hq
    dsimp only at q2 q3 ⊢
    refine hh_t rfl ?_
    unfold sX2_readInto_25
    rw [hp, pT_l hpi]
    exact hh_v ⟨by show -1 - z2.1 37 3 = -1 - nI p; rw [q2], hgd, q3⟩
  | inr x =>
    obtain ⟨it, s'⟩ := x
    rw [hpi] at hq hgd
    obtain ⟨rfl, q2, q3, q4⟩ := hq
    obtain ⟨g1, g2, g3⟩ := hgd
    dsimp only at q2 q3 q4 ⊢
    have hkl := kK_le (T := T) (n := n) s'
    have k0 : nI (kK T n s') = 0 ↔ kK T n s' = 0 := nI_eq (b := 0) (by omega) (by decide)
    have k3 : nI (kK T n s') = 3 ↔ kK T n s' = 3 := nI_eq (b := 3) (by omega) (by decide)
    refine hh_f (by decide) ?_
    rw [q2.2.2.1]
    rw [pT_r hpi] at hp
    unfold pE at hp
    refine hh_i (fun y => ?_) (fun y => hh_i (fun y2 => ?_) (fun y2 => ?_))
    · rw [if_pos (k0.mp y)] at hp
      rw [hp]
      exact hh_v ⟨rfl, by omega, by omega, q3, ap_ok hr g1, q4⟩
    · rw [if_neg (fun e => y (k0.mpr e)), if_pos (k3.mp y2)] at hp
      have hlt := kK_3 (k3.mp y2)
      have hnx := nx_le (T := T) g3
      refine hh_bd (x_next hn hT q2) (fun z3 h3 => ?_)
      unfold sX2_readInto_60
      exact hh_v ⟨by omega, k, _, _, z3, by rw [nI_1], hp, by omega, by omega, ap_ok hr g1, h3.1, RM_37 q3 h3.2, FX_t q4 (FX_37 h3.2)⟩
    · rw [if_neg (fun e => y (k0.mpr e)), if_neg (fun e => y2 (k3.mpr e))] at hp
      rw [hp]
      exact hh_v ⟨by show -1 - z2.1 37 3 = -1 - nI s'; rw [q2.2.2.2.1], g3, q4⟩
/-! the reference -/
def apN (r0 : Nat → Int32) (L : Nat → Nat × Nat × Nat × Nat) : Nat → Nat → Int32
  | 0 => r0
  | q + 1 => apI (apN r0 L q) (L q)
theorem apN_c {r0 : Nat → Int32} {L L' : Nat → Nat × Nat × Nat × Nat} : ∀ {j : Nat}, (∀ q, q < j → L q = L' q) → apN r0 L j = apN r0 L' j
  | 0, _ => rfl
  | j + 1, h => by
    show apI (apN r0 L j) (L j) = apI (apN r0 L' j) (L' j)
    rw [apN_c (fun q hq => h q (by omega)), h j (by omega)]
/-- the items that were noted -/
def itS (r0 : Nat → Int32) (j : Nat) (r : Nat → Int32) (w : mm_S) : Prop := ∃ L : Nat → Nat × Nat × Nat × Nat, (∀ q, q < j → w.1 16 (4 * q) = nI (L q).1 ∧ w.1 16 (4 * q + 1) = nI (L q).2.1 ∧ w.1 16 (4 * q + 2) = nI (L q).2.2.1 ∧ w.1 16 (4 * q + 3) = nI (L q).2.2.2) ∧ (∀ q, q < j → okI (apN r0 L q) (L q)) ∧ apN r0 L j = r
theorem itS_0 (r0 : Nat → Int32) (w : mm_S) : itS r0 0 r0 w := ⟨fun _ => (0, 0, 0, 0), fun q hq => absurd hq (by omega), fun q hq => absurd hq (by omega), rfl⟩
theorem itS_s {r0 r : Nat → Int32} {j : Nat} {w w' : mm_S} {it : Nat × Nat × Nat × Nat} (h : itS r0 j r w) (hi : okI r it) (h0 : w'.1 16 (4 * j) = nI it.1) (h1 : w'.1 16 (4 * j + 1) = nI it.2.1) (h2 : w'.1 16 (4 * j + 2) = nI it.2.2.1) (h3 : w'.1 16 (4 * j + 3) = nI it.2.2.2) (h4 : ∀ i, i < 4 * j → w'.1 16 i = w.1 16 i) : itS r0 (j + 1) (apI r it) w' := by
  obtain ⟨L, a1, a2, a3⟩ := h
  have hL : ∀ q, q < j → L q = (fun q => if q = j then it else L q) q := fun q hq => by
    show L q = if q = j then it else L q
    rw [if_neg (by omega)]
  have hc : ∀ q, q ≤ j → apN r0 L q = apN r0 (fun q => if q = j then it else L q) q := fun q hq => apN_c fun p hp => hL p (by omega)
  refine ⟨fun q => if q = j then it else L q, fun q hq => ?_, fun q hq => ?_, ?_⟩
  · by_cases e : q = j
    · subst e
      simp only [if_true]
      exact ⟨h0, h1, h2, h3⟩
    · simp only [if_neg e]
      have := a1 q (by omega)
      rw [h4 _ (by omega), h4 _ (by omega), h4 _ (by omega), h4 _ (by omega)]
      exact this
  · by_cases e : q = j
    · subst e
      rw [← hc q (Nat.le_refl _), a3]
      simp only [if_true]
      exact hi
    · rw [← hc q (by omega)]
      simp only [if_neg e]
      exact a2 q (by omega)
  · show apI (apN r0 (fun q => if q = j then it else L q) j) ((fun q => if q = j then it else L q) j) = _
    rw [← hc j (Nat.le_refl _), a3]
    simp only [if_true]
theorem itS_c {r0 r : Nat → Int32} {j : Nat} {w w' : mm_S} (h : itS r0 j r w) (he : w'.1 16 = w.1 16) : itS r0 j r w' := by
  obtain ⟨L, a1, a2, a3⟩ := h
  exact ⟨L, fun q hq => by rw [he]; exact a1 q hq, a2, a3⟩
def FE (w w' : mm_S) : Prop := (∀ b, ¬ (b = 0 ∨ b = 1 ∨ b = 16 ∨ b = 17) → w'.1 b = w.1 b) ∧ (∀ j, ¬ (18 ≤ j ∧ j ≤ 30) → w'.1 0 j = w.1 0 j) ∧ w'.1 0 18 = 0
def MT (w0 : mm_S) (R : Nat ⊕ (Nat × (Nat → Int32))) (q : Int32 × mm_S) : Prop := match R with
  | .inl p => q.1 = -1 - nI p ∧ q.2.1 1 = w0.1 1 ∧ FE w0 q.2
  | .inr (j, r) => q.1 = nI j ∧ q.2.1 1 = r ∧ FE w0 q.2
theorem m_endW {w0 w : mm_S} {p : Nat} (h1 : w.1 0 23 = 1) (h2 : w.1 0 19 = nI p) (hf : FM w0 w) : hh_c (sX4_text_141 w) (MT w0 (.inl p)) := by
  unfold sX4_text_141 sX4_text_146
  dsimp only
  refine hh_f (show ¬ mm_ui w.1 0 18 0 0 23 = 0 by rw [ru_i _ _ (show (23 : Nat) ≠ 18 by decide), h1]; decide) (hh_v ⟨?_, ?_, fun b hb => ?_, fun j hj => ?_, ?_⟩) <;> dsimp only
  · rw [ru_i _ _ (show (19 : Nat) ≠ 18 by decide), h2]
  · rw [ru_n _ _ (by decide)]; exact hf.1 1 (by omega)
  · rw [ru_n _ _ (by omega)]; exact hf.1 b (by omega)
  · rw [ru_i _ _ (by omega)]; exact hf.2 j (by omega)
  · rw [ru_s]
theorem m_endG {w0 w : mm_S} {j : Nat} {r : Nat → Int32} (hr0 : okR (w0.1 1)) (h1 : w.1 0 23 = 0) (h2 : w.1 0 27 = nI j) (hj : j ≤ 110) (hi : itS (w0.1 1) j r w) (hf : FM w0 w) : hh_c (sX4_text_141 w) (MT w0 (.inr (j, r))) := by
  obtain ⟨L, a1, a2, a3⟩ := hi
  have hok : ∀ q, q ≤ j → okR (apN (w0.1 1) L q) := by
    intro q
    induction q with
    | zero => exact fun _ => hr0
    | succ q ih => exact fun hq => ap_ok (ih (by omega)) (a2 q (by omega))
  unfold sX4_text_141 sX4_text_146
  dsimp only
  refine hh_t (show mm_ui w.1 0 18 0 0 23 = 0 by rw [ru_i _ _ (show (23 : Nat) ≠ 18 by decide)]; exact h1) ?_
  unfold sX4_text_164
  refine hh_up (fun k u => ∃ w', u = (nI k, nI k, w') ∧ k ≤ j ∧ w'.1 1 = apN (w0.1 1) L k ∧ ∀ b, b ≠ 1 → w'.1 b = mm_ui w.1 0 18 0 b) j (by omega) ⟨_, rfl, Nat.zero_le _, ?_, fun _ _ => rfl⟩ ?_
  · dsimp only; rw [ru_n _ _ (by decide)]; exact hf.1 1 (by omega)
  rintro k u hk ⟨w', rfl, hkj, b1, b2⟩
  have e27 : w'.1 0 27 = nI j := by rw [b2 0 (by decide), ru_i _ _ (by decide)]; exact h2
  have hle : nI j ≤ nI k ↔ j ≤ k := nI_leI (by omega) (by omega)
  unfold lX4_text_164
  dsimp only
  rw [e27]
  refine hh_i (fun y => hh_v ?_) (fun y => ?_)
  · obtain rfl : k = j := by have := hle.mp y; omega
    refine ⟨rfl, b1.trans a3, fun b hb => ?_, fun i hi => ?_, ?_⟩ <;> dsimp only
    · rw [b2 b (by omega), ru_n _ _ (by omega)]; exact hf.1 b (by omega)
    · rw [b2 0 (by decide), ru_i _ _ (by omega)]; exact hf.2 i (by omega)
    · rw [b2 0 (by decide), ru_s]
  have hk2 : k < j := Nat.lt_of_not_le fun x => y (hle.mpr x)
  have e16 : w'.1 16 = w.1 16 := (b2 16 (by decide)).trans (ru_n _ _ (by decide))
  obtain ⟨c0, c1, c2, c3⟩ := a1 k hk2
  rw [show (4 : Int32) * nI k = nI (4 * k) by rw [show (4 : Int32) = nI 4 from rfl, pk_mul]]
  refine hh_bd (m_isSo b1 (hok k hkj) (a2 k hk2) (by omega) (by rw [e16]; exact c0) (by rw [e16]; exact c1) (by rw [e16]; exact c2) (by rw [e16]; exact c3)) (fun q hq => ?_)
  unfold sX4_text_190
  rw [if_pos hq.1]
  exact hh_v ⟨hk2, q.2, by rw [nI_1], hk2, hq.2.1, fun b hb => (hq.2.2 b hb).trans (b2 b hb)⟩
theorem kK_4 {s : Nat} (h : kK T n s = 4) : ¬ T s = 59 := by
  unfold kK at h
  split at h
  · omega
  split at h
  · omega
  split at h
  · omega
  split at h
  · omega
  · assumption
theorem m_loopT (hn : n ≤ 120) (hT : ∀ i, i < n → isN (T i) 256) {R : Nat ⊕ (Nat × (Nat → Int32))} {w0 w : mm_S} (hr0 : okR (w0.1 1)) (hI : (∃ p, R = .inl p ∧ w.1 0 23 = 1 ∧ w.1 0 19 = nI p ∧ FM w0 w) ∨ ∃ k r s j, R = pE T n k r s j ∧ 121 ≤ k + s ∧ 2 * j ≤ s + 1 ∧ okR r ∧ PM T n r j s w ∧ itS (w0.1 1) j r w ∧ FM w0 w) : hh_c (sX4_text_84 w) (MT w0 R) := by
  have h10 : ¬ (1 : Int32) = 0 := by decide
  unfold sX4_text_84
  refine hh_ms (fun w => (∃ p, R = .inl p ∧ w.1 0 23 = 1 ∧ w.1 0 19 = nI p ∧ FM w0 w) ∨ ∃ k r s j, R = pE T n k r s j ∧ 121 ≤ k + s ∧ 2 * j ≤ s + 1 ∧ okR r ∧ PM T n r j s w ∧ itS (w0.1 1) j r w ∧ FM w0 w) (fun w => if w.1 0 23 = 0 then 130 - gN (w.1 0 19) else 0) hI (by split <;> omega) ?_
  clear hI w
  rintro w (⟨p, hR, h1, h2, h3⟩ | ⟨k, r, s, j, hR, hks, hjs, hr, hP, hit, hfm⟩)
  · -- something was wrong
    have hb : ∀ x : Int32, hh_c ((sX4_must x w).bind fun q5 => ((sX4_text_141 q5).map fun w => (Sum.inr w : mm_S ⊕ (Int32 × mm_S)))) (mm_mt (fun w' : mm_S => ((∃ p, R = .inl p ∧ w'.1 0 23 = 1 ∧ w'.1 0 19 = nI p ∧ FM w0 w') ∨ ∃ k r s j, R = pE T n k r s j ∧ 121 ≤ k + s ∧ 2 * j ≤ s + 1 ∧ okR r ∧ PM T n r j s w' ∧ itS (w0.1 1) j r w' ∧ FM w0 w') ∧ (if w'.1 0 23 = 0 then 130 - gN (w'.1 0 19) else 0) < (if w.1 0 23 = 0 then 130 - gN (w.1 0 19) else 0)) (MT w0 R)) := by
      intro x
      refine hh_be (must_W h1 x) (hh_map (P := MT w0 R) ?_ (fun a ha => ha))
      rw [hR]
      refine m_endW ?_ ?_ (FM_t h3 (FM_u w (by decide) _)) <;> dsimp only
      · rw [ru_s]
      · rw [ru_i _ _ (by decide)]; exact h2
    unfold lX4_text_84
    exact hh_f (by rw [h1]; exact h10) (hh_i (fun _ => hb 1) (fun _ => hb 0))
  · obtain ⟨tm, p1, p2, p3, p4, p5, p6⟩ := id hP
    have hs := tm.1
    have hkl := kK_le (T := T) (n := n) s
    have e3 : w.1 0 21 = 3 ↔ 3 ≤ kK T n s := by
      rw [tm.2.2.1]
      have := nI_eq (a := min 3 (kK T n s)) (b := 3) (by omega) (by decide)
      exact this.trans (by omega)
    have e0 : w.1 0 21 = 0 ↔ kK T n s = 0 := by
      rw [tm.2.2.1]
      have := nI_eq (a := min 3 (kK T n s)) (b := 0) (by omega) (by decide)
      exact this.trans (by omega)
    have bad : kK T n s ≠ 0 → kK T n s ≠ 3 → hh_c ((sX4_must 0 w).bind fun q5 => ((sX4_text_141 q5).map fun w => (Sum.inr w : mm_S ⊕ (Int32 × mm_S)))) (mm_mt (fun w' : mm_S => ((∃ p, R = .inl p ∧ w'.1 0 23 = 1 ∧ w'.1 0 19 = nI p ∧ FM w0 w') ∨ ∃ k r s j, R = pE T n k r s j ∧ 121 ≤ k + s ∧ 2 * j ≤ s + 1 ∧ okR r ∧ PM T n r j s w' ∧ itS (w0.1 1) j r w' ∧ FM w0 w') ∧ (if w'.1 0 23 = 0 then 130 - gN (w'.1 0 19) else 0) < (if w.1 0 23 = 0 then 130 - gN (w.1 0 19) else 0)) (MT w0 R)) := by
      intro k0 k3
      unfold pE at hR
      rw [if_neg k0, if_neg k3] at hR
      refine hh_be (must_0 p1) (hh_map (P := MT w0 R) ?_ (fun a ha => ha))
      rw [hR]
      refine m_endW ?_ ?_ (FM_t hfm (FM_u w (by decide) _)) <;> dsimp only
      · rw [ru_s]
      · rw [ru_i _ _ (by decide)]; exact tm.2.2.2.1
    unfold lX4_text_84
    refine hh_t p1 (hh_i (fun y => ?_) (fun y => ?_))
    · have hk3 := e3.mp y
      have hsn : s < n := Nat.lt_of_not_le fun x => by have := (kK_0 (T := T) (n := n)).mpr x; omega
      have e59 : w.1 13 (Int32.toNatClampNeg (w.1 0 19)) = T s := by rw [tm.2.2.2.1, nI_clamp (by omega), tm.2.2.2.2.2.2 s hsn]
      refine hh_f (show ¬ (w.1 0 19 < 0 ∨ 120 ≤ Int32.toNatClampNeg (w.1 0 19)) by rw [tm.2.2.2.1]; exact gI (show s < 120 by omega) (by decide)) ?_
      by_cases c3 : kK T n s = 3
      · refine hh_t (e59.trans (kK_3 c3).2) ?_
        unfold pE at hR
        rw [if_neg (by omega), if_pos c3] at hR
        have hnx := nx_le (T := T) hs
        have hnl := hnx.2.2 hsn
        obtain ⟨k, rfl⟩ : ∃ k', k = k' + 1 := ⟨k - 1, by omega⟩
        refine hh_bd (must_1 hn hT tm p1) (fun w1 h1 => ?_)
        obtain ⟨t1, q1, q2, q3⟩ := h1
        have hP1 : PM T n r j (nx T n s) w1 := ⟨t1, q1, (q3 27 (by omega)).trans p2, (q3 28 (by omega)).trans p3, (q3 29 (by omega)).trans p4, (q3 30 (by omega)).trans p5, fun i hi => by rw [q2 17 (by decide)]; exact p6 i hi⟩
        have hit1 := itS_c hit (q2 16 (by decide))
        have hf1 : FM w0 w1 := FM_t hfm ⟨fun b hb => q2 b (by omega), fun i hi => q3 i (by omega)⟩
        have hgd := gd_I (T := T) (r := r) hnx.2.1
        unfold sX4_text_118 sX4_text_122
        refine hh_bd (m_readItem hn hT (show j ≤ 110 by omega) hr hP1) (fun w2 h2 => hh_v ?_)
        have hmu0 : (if w.1 0 23 = 0 then 130 - gN (w.1 0 19) else 0) = 130 - s := by
          rw [if_pos p1, tm.2.2.2.1, show gN (nI s) = s from nI_clamp (by omega)]
        show _ ∧ (if w2.1 0 23 = 0 then 130 - gN (w2.1 0 19) else 0) < (if w.1 0 23 = 0 then 130 - gN (w.1 0 19) else 0)
        rw [hmu0]
        cases hpi : pI T n r (nx T n s) with
        | inl p =>
          rw [hpi] at h2
          obtain ⟨g1, g2, g3⟩ := h2
          rw [pT_l hpi] at hR
          refine ⟨Or.inl ⟨p, hR, g1, g2, FM_t hf1 g3⟩, ?_⟩
          rw [g1, if_neg h10]; omega
        | inr x =>
          obtain ⟨it, s'⟩ := x
          rw [hpi] at h2 hgd
          obtain ⟨g1, g2, g3⟩ := hgd
          obtain ⟨m1, m2, m3, m4, m5, m6, m7, m8, m9, m10, m11, m12, m13⟩ := h2
          rw [pT_r hpi] at hR
          refine ⟨Or.inr ⟨k, apI r it, s', j + 1, hR, by omega, by omega, ap_ok hr g1, ⟨m1, m2, m3, m4, m5, m6, m7⟩, itS_s hit1 g1 m8 m9 m10 m11 m12, FM_t hf1 m13⟩, ?_⟩
          rw [m2, if_pos rfl, m1.2.2.2.1, show gN (nI s') = s' from nI_clamp (by omega)]
          omega
      · have c4 : kK T n s = 4 := by omega
        refine hh_f (fun x => kK_4 c4 (e59.symm.trans x)) (hh_f (fun x => by have := e0.mp x; omega) (bad (by omega) c3))
    · have hk3 : ¬ 3 ≤ kK T n s := fun x => y (e3.mpr x)
      refine hh_i (fun y0 => ?_) (fun y0 => bad (fun x => y0 (e0.mpr x)) (by omega))
      unfold pE at hR
      rw [if_pos (e0.mp y0)] at hR
      refine hh_bd (must_1 hn hT tm p1) (fun w1 h1 => hh_map (P := MT w0 R) ?_ (fun a ha => ha))
      obtain ⟨t1, q1, q2, q3⟩ := h1
      rw [hR]
      exact m_endG hr0 q1 ((q3 27 (by omega)).trans p2) (by omega) (itS_c hit (q2 16 (by decide))) (FM_t hfm ⟨fun b hb => q2 b (by omega), fun i hi => q3 i (by omega)⟩)
theorem m_textT (hn : n ≤ 120) (hT : ∀ i, i < n → isN (T i) 256) {w : mm_S} (hr : okR (w.1 1)) (h18 : w.1 0 18 = nI n) (h13 : ∀ i, i < n → w.1 13 i = T i) : hh_c (sX4_text w) (MT w (pT T n 121 (w.1 1) (sK T n 0) 0)) := by
  have hU := ok_nU hr
  have hC := ok_nC hr
  have hB := ok_nB hr
  unfold sX4_text sX4_text_0 sX4_text_5 sX4_text_10 sX4_text_15 sX4_text_25 sX4_text_35 sX4_text_45 sX4_text_47
  dsimp only
  have n1 : ∀ (f : Nat → Nat → Int32) (j : Nat) (v : Int32), mm_ui f 0 j v 1 = f 1 := fun f j v => ru_n _ _ (by decide)
  simp only [n1]
  refine hh_up (fun j u => ∃ w', u = (nI j, w') ∧ j ≤ nU (w.1 1) ∧ w'.1 0 20 = 0 ∧ w'.1 0 23 = 0 ∧ w'.1 0 27 = 0 ∧ w'.1 0 28 = w.1 1 1 ∧ w'.1 0 29 = w.1 1 2 ∧ w'.1 0 30 = w.1 1 3 ∧ (∀ i, i < j → w'.1 17 i = nI (uns (w.1 1) i)) ∧ FM w w') 4 (by decide) ⟨_, rfl, Nat.zero_le _, ?_, ?_, ?_, ?_, ?_, ?_, fun i hi => absurd hi (by omega), ?_⟩ ?_
  · dsimp only; rw [ru_i _ _ (by decide), ru_i _ _ (by decide), ru_i _ _ (by decide), ru_i _ _ (by decide), ru_i _ _ (by decide), ru_s]
  · dsimp only; rw [ru_i _ _ (by decide), ru_i _ _ (by decide), ru_i _ _ (by decide), ru_i _ _ (by decide), ru_s]
  · dsimp only; rw [ru_i _ _ (by decide), ru_i _ _ (by decide), ru_i _ _ (by decide), ru_s]
  · dsimp only; rw [ru_i _ _ (by decide), ru_i _ _ (by decide), ru_s]
  · dsimp only; rw [ru_i _ _ (by decide), ru_s]
  · dsimp only; rw [ru_s]
  · exact ⟨fun b hb => by dsimp only; rw [ru_n _ _ (by omega), ru_n _ _ (by omega), ru_n _ _ (by omega), ru_n _ _ (by omega), ru_n _ _ (by omega), ru_n _ _ (by omega)], fun j hj => by dsimp only; rw [ru_i _ _ (by omega), ru_i _ _ (by omega), ru_i _ _ (by omega), ru_i _ _ (by omega), ru_i _ _ (by omega), ru_i _ _ (by omega)]⟩
  rintro j u hj ⟨w', rfl, hjn, a20, a23, a27, a28, a29, a30, a17, af⟩
  have hle : nI (nU (w.1 1)) ≤ nI j ↔ nU (w.1 1) ≤ j := nI_leI (by omega) (by omega)
  have w1 : w'.1 1 = w.1 1 := af.1 1 (by omega)
  unfold lX4_text_47 sX4_text_70
  dsimp only
  rw [a30, hU.1]
  refine hh_i (fun y => ?_) (fun y => ?_)
  · have hjn2 : j = nU (w.1 1) := by have := hle.mp y; omega
    refine hh_bd (m_nextE (T := T) (e := 0) hn hT (Nat.zero_le _) ((af.2 18 (by omega)).trans h18) a20 (fun i hi => by rw [af.1 13 (by omega)]; exact h13 i hi)) (fun w2 h2 => hh_map (P := MT w (pT T n 121 (w.1 1) (sK T n 0) 0)) ?_ (fun a ha => ha))
    obtain ⟨t2, f2⟩ := h2
    have hP : PM T n (w.1 1) 0 (sK T n 0) w2 := ⟨t2, (f2.2 23 (by omega)).trans a23, (f2.2 27 (by omega)).trans a27, (f2.2 28 (by omega)).trans (a28.trans hC.1), (f2.2 29 (by omega)).trans (a29.trans hB.1), (f2.2 30 (by omega)).trans (a30.trans hU.1), fun i hi => by rw [f2.1 17 (by decide)]; exact a17 i (by omega)⟩
    have hfw : FM w w2 := FM_t af (FM_f f2)
    have hgd := gd_I (T := T) (r := w.1 1) t2.1
    unfold sX4_text_80
    refine hh_bd (m_readItem hn hT (show 0 ≤ 110 by omega) hr hP) (fun w3 h3 => m_loopT hn hT hr ?_)
    cases hpi : pI T n (w.1 1) (sK T n 0) with
    | inl p =>
      rw [hpi] at h3
      obtain ⟨g1, g2, g3⟩ := h3
      exact Or.inl ⟨p, pT_l hpi, g1, g2, FM_t hfw g3⟩
    | inr x =>
      obtain ⟨it, s'⟩ := x
      rw [hpi] at h3 hgd
      obtain ⟨g1, g2, g3⟩ := hgd
      obtain ⟨m1, m2, m3, m4, m5, m6, m7, m8, m9, m10, m11, m12, m13⟩ := h3
      exact Or.inr ⟨120, apI (w.1 1) it, s', 1, pT_r hpi, by omega, by omega, ap_ok hr g1, ⟨m1, m2, m3, m4, m5, m6, m7⟩, itS_s (itS_0 _ w2) g1 m8 m9 m10 m11 m12, FM_t hfw m13⟩
  have hj2 : j < nU (w.1 1) := Nat.lt_of_not_le fun x => y (hle.mpr x)
  have hu := ok_un hr (show j < 4 by omega)
  rw [show (69 : Int32) + nI j = nI (69 + j) from nI_add 69 _]
  refine hh_f (gI (show 69 + j < 97 by omega) (by decide)) (hh_f (gI (show j < 4 by omega) (by decide)) ?_)
  rw [nI_clamp (show 69 + j < 2 ^ 31 by omega), nI_clamp (show j < 2 ^ 31 by omega), w1, hu.1]
  have n0 : mm_ui w'.1 17 j (nI (uns (w.1 1) j)) 0 = w'.1 0 := ru_n _ _ (by decide)
  refine hh_v ⟨by omega, (mm_ui w'.1 17 j (nI (uns (w.1 1) j)), w'.2), by rw [nI_1], hj2, ?_, ?_, ?_, ?_, ?_, ?_, fun i hi => ?_, FM_t af ⟨fun b hb => ru_n _ _ (by omega), fun i _ => by dsimp only; rw [n0]⟩⟩
  · dsimp only; rw [n0]; exact a20
  · dsimp only; rw [n0]; exact a23
  · dsimp only; rw [n0]; exact a27
  · dsimp only; rw [n0]; exact a28
  · dsimp only; rw [n0]; exact a29
  · dsimp only; rw [n0]; exact a30.trans hU.1
  · dsimp only
    by_cases q : i = j
    · rw [q, ru_s]
    · rw [ru_i _ _ q]; exact a17 i (by omega)
end TT
theorem Rel_G {z z' w w' : mm_S} (h : Rel z w) (h1 : ∀ b, (b = 0 ∨ b = 13 ∨ (17 ≤ b ∧ b ≤ 24) ∨ (39 ≤ b ∧ b ≤ 42)) → z'.1 b = z.1 b) (h2 : z'.2 15 = z.2 15) (h3 : ∀ b, (b = 2 ∨ b = 4 ∨ (18 ≤ b ∧ b ≤ 20)) → w'.1 b = w.1 b) (h4 : w'.1 0 3 = w.1 0 3) (g1 : okR (w'.1 1)) (g2 : RM 1 z' (w'.1 1)) (g3 : rTape z' w') : Rel z' w' := by
  obtain ⟨-, -, k3, -, k5, k6⟩ := h
  refine ⟨g1, g2, ?_, g3, ?_, ?_⟩
  · unfold rKept
    rw [h1 0 (by omega), h4, h3 2 (by omega)]
    exact ⟨k3.1, k3.2.imp id fun x => ⟨x.1, x.2.1, RM_k x.2.2 (fun b hb => h1 b (by omega)) h2⟩⟩
  · unfold rSheet
    rw [h1 39 (by omega), h1 40 (by omega), h1 41 (by omega), h3 18 (by omega), h3 19 (by omega), h3 20 (by omega)]
    exact k5
  · unfold rFind
    rw [h1 42 (by omega), h3 4 (by omega)]
    exact k6
theorem ng1 : ∀ p, p < 121 → (-1 : Int32) - nI p ≤ 0 := by decide +kernel
theorem pq_text {z w : mm_S} (h : Rel z w) : PP (sX3_text z) (sX4_text w) := by
  obtain ⟨n, hn, t1, t2, t3⟩ := h.2.2.2.1
  obtain ⟨g1, g2, g3⟩ := x_become (o := 25) (y := 1) (Or.inr (Or.inr ⟨rfl, rfl⟩)) h.2.1
  obtain ⟨⟨v, w'⟩, f1, hM⟩ := m_textT (T := z.1 38) hn (fun i hi => (t3 i hi).1) h.1 t2 (fun i hi => (t3 i hi).2)
  have hX : hh_c (sX2_readInto 25 (tX0_become 25 1 z)) (XT n (tX0_become 25 1 z) (pT (z.1 38) n 121 (w.1 1) (sK (z.1 38) n 0) 0)) := by
    have e38 : (tX0_become 25 1 z).1 38 = z.1 38 := g2 38 (by decide) (by omega)
    have e37 : (tX0_become 25 1 z).1 37 = z.1 37 := g2 37 (by decide) (by omega)
    unfold sX2_readInto sX2_readInto_0 sX2_readInto_5
    refine hh_bd (x_nextE (T := z.1 38) (e := 0) hn (fun i hi => (t3 i hi).1) (Nat.zero_le _) ?_ ?_ ?_) (fun z1 h1 => x_into hn (fun i hi => (t3 i hi).1) h.1 h1.1 (RM_37 (RM_37 g1 (f37_u _ 4 0)) h1.2) (FX_t (FX_37 (f37_u _ 4 0)) (FX_37 h1.2)))
    · dsimp only; rw [ru_i _ _ (by decide), e37]; exact t1
    · dsimp only; rw [ru_s]; rfl
    · dsimp only; rw [ru_n _ _ (by decide), e38]
  obtain ⟨⟨u, z'⟩, f2, hX⟩ := hX
  unfold sX3_text sX3_text_0 sX3_text_11
  dsimp only
  rw [f1, f2]
  dsimp only [Option.bind]
  unfold sX3_text_23 sX3_text_31 sX3_text_46
  have kz : ∀ b, ¬ (b = 25 ∨ (29 ≤ b ∧ b ≤ 36) ∨ b = 37) → FX (tX0_become 25 1 z) z' → z'.1 b = z.1 b := fun b hb hf => (hf.1 b hb).trans (g2 b (by omega) (by omega))
  have kz2 : ∀ b, b ≠ 27 → FX (tX0_become 25 1 z) z' → z'.2 b = z.2 b := fun b hb hf => (hf.2 b hb).trans (g3 b (by omega))
  cases hp : pT (z.1 38) n 121 (w.1 1) (sK (z.1 38) n 0) 0 with
  | inl p =>
    rw [hp] at hX hM
    obtain ⟨x1, x2, x3⟩ := hX
    obtain ⟨y1, y2, y3, y4, y5⟩ := hM
    dsimp only at x1 x3 y1 y2 y3 y4 y5
    rw [x1, y1, if_pos (ng1 p (by omega))]
    refine pp_e rfl rfl (Rel_G h (fun b hb => (ru_n _ _ (by omega)).trans (kz b (by omega) x3)) (kz2 15 (by decide) x3) (fun b hb => y3 b (by omega)) (y4 3 (by omega)) (by rw [y2]; exact h.1) ?_ ⟨0, by decide, (ru_s z'.1 37 1 0 : mm_ui z'.1 37 1 0 37 1 = 0), y5, fun i hi => absurd hi (by omega)⟩)
    rw [y2]
    exact RM_k h.2.1 (fun b hb => (ru_n _ _ (by omega)).trans (kz b (by omega) x3)) (kz2 3 (by decide) x3)
  | inr q =>
    obtain ⟨j, r⟩ := q
    rw [hp] at hX hM
    obtain ⟨x1, x2, x3, x4, x5, x6⟩ := hX
    obtain ⟨y1, y2, y3, y4, y5⟩ := hM
    dsimp only at x1 x4 x6 y1 y2 y3 y4 y5
    have hnot : ¬ nI j ≤ 0 := fun e => by have := (nI_leI (b := 0) (by omega) (by decide)).mp e; omega
    rw [x1, y1, if_neg hnot]
    have m25 : RM 25 (mm_ui z'.1 37 1 0, z'.2) r := RM_37 x4 (f37_u z' 1 0)
    obtain ⟨b1, b2, b3⟩ := x_become0 (o := 1) (y := 25) (Or.inr (Or.inr (Or.inr ⟨rfl, rfl⟩))) m25
    refine pp_e rfl rfl (Rel_G h (fun b hb => ?_) ?_ (fun b hb => y3 b (by omega)) (y4 3 (by omega)) (by rw [y2]; exact x5) (by rw [y2]; exact b1) ⟨0, by decide, ?_, y5, fun i hi => absurd hi (by omega)⟩)
    · rw [b2 b (by omega) (by omega)]
      exact (ru_n _ _ (by omega)).trans (kz b (by omega) x6)
    · rw [b3 15 (by decide)]
      exact kz2 15 (by decide) x6
    · rw [b2 37 (by decide) (by omega)]
      exact (ru_s z'.1 37 1 0 : mm_ui z'.1 37 1 0 37 1 = 0)
