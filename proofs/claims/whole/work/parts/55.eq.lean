/-! ===== class and reference side by side ===== -/
def rKept (z w : mm_S) : Prop := z.1 0 2 = w.1 0 3 ∧ (z.1 0 2 = 0 ∨ (z.1 0 2 = 1 ∧ okR (w.1 2) ∧ RM 13 z (w.1 2)))
def rTape (z w : mm_S) : Prop := ∃ n, n ≤ 120 ∧ z.1 37 1 = nI n ∧ w.1 0 18 = nI n ∧ ∀ i, i < n → isN (z.1 38 i) 256 ∧ w.1 13 i = z.1 38 i
def rSheet (z w : mm_S) : Prop := ∀ s, s < 4 → z.1 39 s = w.1 18 s ∧ (w.1 18 s = 0 ∨ w.1 18 s = 8 ∨ w.1 18 s = 16 ∨ w.1 18 s = 32) ∧ ∃ n, n ≤ 40 ∧ z.1 40 s = nI n ∧ w.1 19 s = nI n ∧ ∀ i, i < n → z.1 41 (40 * s + i) = w.1 20 (40 * s + i)
def rFind (z w : mm_S) : Prop := (∀ i, i < 7 → z.1 42 i = w.1 4 (i + 1)) ∧ w.1 4 0 = w.1 4 1 + w.1 4 2 + w.1 4 3 + w.1 4 4 + w.1 4 5 + w.1 4 6 + w.1 4 7
def Rel (z w : mm_S) : Prop := okR (w.1 1) ∧ RM 1 z (w.1 1) ∧ rKept z w ∧ rTape z w ∧ rSheet z w ∧ rFind z w
/-- what the class's asking leaves -/
def KX (z z' : mm_S) : Prop := (∀ b, ¬ (b = 2 ∨ b = 14 ∨ (25 ≤ b ∧ b ≤ 36) ∨ b = 43 ∨ b = 44) → z'.1 b = z.1 b) ∧ ∀ b, ¬ (b = 2 ∨ b = 4 ∨ b = 14 ∨ b = 16 ∨ (25 ≤ b ∧ b ≤ 36) ∨ b = 45) → z'.2 b = z.2 b
/-- what the reference's asking leaves -/
def KM (w w' : mm_S) : Prop := (∀ b, ¬ (b = 0 ∨ b = 3 ∨ (5 ≤ b ∧ b ≤ 12) ∨ b = 16 ∨ b = 17 ∨ b = 21) → w'.1 b = w.1 b) ∧ w'.1 0 3 = w.1 0 3 ∧ w'.1 0 18 = w.1 0 18
theorem KX_0 (z : mm_S) : KX z z := ⟨fun _ _ => rfl, fun _ _ => rfl⟩
theorem KX_t {z z' z'' : mm_S} (h : KX z z') (h2 : KX z' z'') : KX z z'' := ⟨fun b hb => (h2.1 b hb).trans (h.1 b hb), fun b hb => (h2.2 b hb).trans (h.2 b hb)⟩
theorem KM_0 (w : mm_S) : KM w w := ⟨fun _ _ => rfl, rfl, rfl⟩
theorem KM_t {w w' w'' : mm_S} (h : KM w w') (h2 : KM w' w'') : KM w w'' := ⟨fun b hb => (h2.1 b hb).trans (h.1 b hb), h2.2.1.trans h.2.1, h2.2.2.trans h.2.2⟩
theorem KX_R {o : Nat} (ho : o = 2 ∨ o = 14 ∨ o = 26) {z z' : mm_S} (h : frR o z z') : KX z z' := ⟨fun b hb => h.1 b (by omega), fun b hb => h.2 b (by omega) (by omega)⟩
theorem KX_T {o x : Nat} (ho : o = 2 ∨ o = 14 ∨ o = 26) (hx : x = 43 ∨ x = 44) {z z' : mm_S} (h : frT o x z z') : KX z z' := ⟨fun b hb => h.1 b (by omega) (by omega), fun b hb => h.2 b (by omega) (by omega)⟩
theorem KM_1 {k : Nat} (hk : 5 ≤ k ∧ k ≤ 12) {w w' : mm_S} (h : ∀ b, b ≠ k → w'.1 b = w.1 b) : KM w w' := ⟨fun b hb => h b (by omega), by rw [h 0 (by omega)], by rw [h 0 (by omega)]⟩
theorem RM_K {o : Nat} (ho : o = 1 ∨ o = 13) {z z' : mm_S} {r : Nat → Int32} (h : RM o z r) (hk : KX z z') : RM o z' r := RM_k h (fun b hb => hk.1 b (by omega)) (hk.2 (o + 2) (by omega))
theorem Rel_K {z z' w w' : mm_S} (h : Rel z w) (hk : KX z z') (hm : KM w w') : Rel z' w' := by
  obtain ⟨h1, h2, h3, h4, h5, h6⟩ := h
  obtain ⟨m1, m2, m3⟩ := id hm
  have e1 := m1 1 (by omega)
  have e2 := m1 2 (by omega)
  have e4 := m1 4 (by omega)
  have e13 := m1 13 (by omega)
  have e18 := m1 18 (by omega)
  have e19 := m1 19 (by omega)
  have e20 := m1 20 (by omega)
  refine ⟨by rw [e1]; exact h1, by rw [e1]; exact RM_K (Or.inl rfl) h2 hk, ?_, ?_, ?_, ?_⟩
  · unfold rKept
    rw [hk.1 0 (by omega), m2, e2]
    refine ⟨h3.1, h3.2.imp id fun x => ⟨x.1, x.2.1, RM_K (Or.inr rfl) x.2.2 hk⟩⟩
  · unfold rTape
    rw [hk.1 37 (by omega), hk.1 38 (by omega), m3, e13]
    exact h4
  · unfold rSheet
    rw [hk.1 39 (by omega), hk.1 40 (by omega), hk.1 41 (by omega), e18, e19, e20]
    exact h5
  · unfold rFind
    rw [hk.1 42 (by omega), e4]
    exact h6
section PP
variable {α : Type}
/-- both come to one answer, and stay side by side -/
def PP (X M : Option (α × mm_S)) : Prop := ∃ (x : α) (z' w' : mm_S), X = some (x, z') ∧ M = some (x, w') ∧ Rel z' w'
theorem pp_v {z w : mm_S} (h : Rel z w) {a : α} {X M : Option (α × mm_S)} (hx : hh_c X (fun q => q.1 = a ∧ KX z q.2)) (hm : hh_c M (fun q => q.1 = a ∧ KM w q.2)) : PP X M := by
  obtain ⟨⟨x, z'⟩, rfl, e1, hk⟩ := hx
  obtain ⟨⟨y, w'⟩, rfl, e2, hl⟩ := hm
  exact ⟨a, z', w', by rw [← e1], by rw [← e2], Rel_K h hk hl⟩
theorem pp_e {X M : Option (α × mm_S)} {a : α} {z' w' : mm_S} (hx : X = some (a, z')) (hm : M = some (a, w')) (h : Rel z' w') : PP X M := ⟨a, z', w', hx, hm, h⟩
theorem pp_b {X M : Option (α × mm_S)} (h : PP X M) : PP (X.bind fun q => some (q.1, q.2)) (M.bind fun q => some (q.1, q.2)) := by
  obtain ⟨x, z', w', rfl, rfl, h⟩ := h
  exact ⟨x, z', w', rfl, rfl, h⟩
theorem pp_b1 {X M : Option (α × mm_S)} (h : PP X M) : PP (X.bind fun q => some (q.1, q.2)) M := by
  obtain ⟨x, z', w', rfl, rfl, h⟩ := h
  exact ⟨x, z', w', rfl, rfl, h⟩
theorem pp_b2 {X M : Option (α × mm_S)} (h : PP X M) : PP X (M.bind fun q => some (q.1, q.2)) := by
  obtain ⟨x, z', w', rfl, rfl, h⟩ := h
  exact ⟨x, z', w', rfl, rfl, h⟩
end PP
theorem pp_bl {X M : Option (Int32 × mm_S)} (h : PP X M) : PP (X.bind fun q => some (Int32.toInt64 q.1, q.2)) (M.bind fun q => some (Int32.toInt64 q.1, q.2)) := by
  obtain ⟨x, z', w', rfl, rfl, h⟩ := h
  exact ⟨_, z', w', rfl, rfl, h⟩
/-! ===== findings ===== -/
theorem x_find (k : Nat) (hk : k < 7) (z : mm_S) : sX3_finding (nI k) z = some (-1000001 - nI k, (mm_ui z.1 42 k (z.1 42 k + 1), z.2)) := by
  unfold sX3_finding sX3_finding_0 sX3_finding_19
  have h7 : k < lenX 42 := hk
  dsimp only
  rw [at_N _ h7, ex_N _ _ h7]
theorem m_find (k : Nat) (hk : k < 7) (w : mm_S) : sX4_finding (-1000001 - nI k) w = some (-1000001 - nI k, (mm_ui (mm_ui w.1 4 (k + 1) (w.1 4 (k + 1) + 1)) 4 0 (w.1 4 0 + 1), w.2)) := by
  have e : ∀ k, k < 7 → (-1000001 : Int32) - (-1000001 - nI k) + 1 = nI (k + 1) := by decide +kernel
  unfold sX4_finding sX4_finding_0
  rw [e k hk]
  unfold sX4_finding_10
  have hg : ¬ (nI (k + 1) < 0 ∨ lenM 4 ≤ Int32.toNatClampNeg (nI (k + 1))) := gI (show k + 1 < 8 by omega) (by decide)
  rw [if_neg hg, if_neg hg, nI_clamp (by omega)]
  unfold sX4_finding_15 sX4_finding_25
  dsimp only
  rw [ru_i _ _ (show (0 : Nat) ≠ k + 1 by omega)]
theorem fi_s (a b c d e f g : Int32) (k : Nat) (hk : k < 7) : a + b + c + d + e + f + g + 1 = (if k = 0 then a + 1 else a) + (if k = 1 then b + 1 else b) + (if k = 2 then c + 1 else c) + (if k = 3 then d + 1 else d) + (if k = 4 then e + 1 else e) + (if k = 5 then f + 1 else f) + (if k = 6 then g + 1 else g) := by
  have h : k = 0 ∨ k = 1 ∨ k = 2 ∨ k = 3 ∨ k = 4 ∨ k = 5 ∨ k = 6 := by omega
  rcases h with rfl | rfl | rfl | rfl | rfl | rfl | rfl <;> simp <;> ac_rfl
theorem pp_find {z w : mm_S} (h : Rel z w) (k : Nat) (hk : k < 7) : PP (sX3_finding (nI k) z) (sX4_finding (-1000001 - nI k) w) := by
  refine pp_e (x_find k hk z) (m_find k hk w) ?_
  obtain ⟨h1, h2, h3, h4, h5, h6⟩ := h
  have n1 : ∀ b, b ≠ 42 → mm_ui z.1 42 k (z.1 42 k + 1) b = z.1 b := fun b hb => ru_n _ _ hb
  have n4 : ∀ b, b ≠ 4 → mm_ui (mm_ui w.1 4 (k + 1) (w.1 4 (k + 1) + 1)) 4 0 (w.1 4 0 + 1) b = w.1 b := fun b hb => by rw [ru_n _ _ hb, ru_n _ _ hb]
  unfold Rel rKept rTape rSheet
  dsimp only
  simp only [n1 0 (by decide), n1 37 (by decide), n1 38 (by decide), n1 39 (by decide), n1 40 (by decide), n1 41 (by decide), n4 0 (by decide), n4 1 (by decide), n4 2 (by decide), n4 13 (by decide), n4 18 (by decide), n4 19 (by decide), n4 20 (by decide)]
  have hk1 : ∀ o r, (o = 1 ∨ o = 13) → RM o z r → RM o (mm_ui z.1 42 k (z.1 42 k + 1), z.2) r := fun o r ho hm => RM_k hm (fun b hb => n1 b (by omega)) rfl
  refine ⟨h1, hk1 1 _ (Or.inl rfl) h2, ⟨h3.1, h3.2.imp id fun x => ⟨x.1, x.2.1, hk1 13 _ (Or.inr rfl) x.2.2⟩⟩, h4, h5, fun i hi => ?_, ?_⟩
  · show mm_ui z.1 42 k (z.1 42 k + 1) 42 i = mm_ui (mm_ui w.1 4 (k + 1) (w.1 4 (k + 1) + 1)) 4 0 (w.1 4 0 + 1) 4 (i + 1)
    rw [ru_i _ _ (show i + 1 ≠ 0 by omega)]
    by_cases e : i = k
    · subst e
      rw [ru_s, ru_s, h6.1 i hi]
    · rw [ru_i _ _ e, ru_i _ _ (show i + 1 ≠ k + 1 by omega)]
      exact h6.1 i hi
  · show mm_ui (mm_ui w.1 4 (k + 1) (w.1 4 (k + 1) + 1)) 4 0 (w.1 4 0 + 1) 4 0 = _
    have e : ∀ j, j ≠ 0 → mm_ui (mm_ui w.1 4 (k + 1) (w.1 4 (k + 1) + 1)) 4 0 (w.1 4 0 + 1) 4 j = if k = j - 1 then w.1 4 j + 1 else w.1 4 j := fun j hj => by
      rw [ru_i _ _ hj]
      by_cases e : k = j - 1
      · rw [if_pos e]
        have : j = k + 1 := by omega
        subst this
        exact ru_s _ _ _ _
      · rw [if_neg e]
        exact ru_i _ _ (by omega)
    rw [ru_s]
    show _ = mm_ui (mm_ui w.1 4 (k + 1) (w.1 4 (k + 1) + 1)) 4 0 (w.1 4 0 + 1) 4 1 + mm_ui (mm_ui w.1 4 (k + 1) (w.1 4 (k + 1) + 1)) 4 0 (w.1 4 0 + 1) 4 2 + mm_ui (mm_ui w.1 4 (k + 1) (w.1 4 (k + 1) + 1)) 4 0 (w.1 4 0 + 1) 4 3 + mm_ui (mm_ui w.1 4 (k + 1) (w.1 4 (k + 1) + 1)) 4 0 (w.1 4 0 + 1) 4 4 + mm_ui (mm_ui w.1 4 (k + 1) (w.1 4 (k + 1) + 1)) 4 0 (w.1 4 0 + 1) 4 5 + mm_ui (mm_ui w.1 4 (k + 1) (w.1 4 (k + 1) + 1)) 4 0 (w.1 4 0 + 1) 4 6 + mm_ui (mm_ui w.1 4 (k + 1) (w.1 4 (k + 1) + 1)) 4 0 (w.1 4 0 + 1) 4 7
    rw [e 1 (by decide), e 2 (by decide), e 3 (by decide), e 4 (by decide), e 5 (by decide), e 6 (by decide), e 7 (by decide), h6.2]
    exact fi_s _ _ _ _ _ _ _ k hk
theorem pp_f0 {z w : mm_S} (h : Rel z w) : PP (sX3_finding 0 z) (sX4_finding (-1000001) w) := pp_find h 0 (by decide)
theorem pp_f1 {z w : mm_S} (h : Rel z w) : PP (sX3_finding 1 z) (sX4_finding (-1000002) w) := pp_find h 1 (by decide)
theorem pp_f2 {z w : mm_S} (h : Rel z w) : PP (sX3_finding 2 z) (sX4_finding (-1000003) w) := pp_find h 2 (by decide)
theorem pp_f3 {z w : mm_S} (h : Rel z w) : PP (sX3_finding 3 z) (sX4_finding (-1000004) w) := pp_find h 3 (by decide)
theorem pp_f4 {z w : mm_S} (h : Rel z w) : PP (sX3_finding 4 z) (sX4_finding (-1000005) w) := pp_find h 4 (by decide)
theorem pp_f5 {z w : mm_S} (h : Rel z w) : PP (sX3_finding 5 z) (sX4_finding (-1000006) w) := pp_find h 5 (by decide)
theorem pp_f6 {z w : mm_S} (h : Rel z w) : PP (sX3_finding 6 z) (sX4_finding (-1000007) w) := pp_find h 6 (by decide)
/-- an answer, or none -/
theorem pp_told {z w : mm_S} (h : Rel z w) (d : Nat) (hd : d ≤ 10000) : PP (sX3_orNone (tI d) z) (sX4_told (nI d) w) := by
  unfold sX3_orNone sX3_orNone_0 sX4_told sX4_told_0
  by_cases q : d < 10000
  · rw [if_neg (fun e => absurd q (tI_m.mp e)), if_neg (nI_pos (by omega)), if_pos (show nI d < 10000 from nI_lt (b := 10000) q (by decide)), tI_1 q]
    exact pp_e rfl rfl h
  · rw [if_pos (tI_m.mpr q), if_neg (nI_pos (by omega)), if_neg (show ¬ nI d < 10000 from nI_nlt (b := 10000) (by omega) (by omega))]
    exact pp_b (pp_f3 h)
/-! ===== tests of arguments ===== -/
theorem ls_0 (x : Int32) {n : Nat} (hn : n < 2 ^ 31) : (if x < 0 then (0 : Int32) else if nI n < x then 0 else 1) = 0 ↔ ¬ isN x (n + 1) := by
  by_cases h : x < 0
  · rw [if_pos h]
    refine ⟨fun _ => ?_, fun _ => rfl⟩
    rintro ⟨k, hk, rfl⟩
    exact nI_pos (by omega) h
  · obtain ⟨j, hj, rfl⟩ := nI_of h
    rw [if_neg h]
    by_cases q : nI n < nI j
    · rw [if_pos q]
      refine ⟨fun _ => ?_, fun _ => rfl⟩
      rintro ⟨k, hk, e⟩
      have := (nI_eq hj (by omega)).mp e
      have := (nI_ltI hn hj).mp q
      omega
    · rw [if_neg q]
      exact ⟨fun e => absurd e (by decide), fun e => absurd ⟨j, Nat.lt_succ_of_le (Nat.le_of_not_lt fun y => q (nI_lt y hj)), rfl⟩ e⟩
theorem x_isCell (x : Int32) : pX3_isCell x = 0 ↔ ¬ isN x 36 := ls_0 x (n := 35) (by decide)
theorem x_isStuff (x : Int32) : pX3_isStuff x = 0 ↔ ¬ isN x 5 := ls_0 x (n := 4) (by decide)
theorem x_isKind (x : Int32) : pX3_isKind x = 0 ↔ ¬ isN x 7 := ls_0 x (n := 6) (by decide)
theorem x_isSpot (x : Int32) : pX3_isSpot x = 0 ↔ ¬ isN x 10 := ls_0 x (n := 9) (by decide)
theorem x_isSheet (x : Int32) : pX3_isSheet x = 0 ↔ ¬ isN x 4 := ls_0 x (n := 3) (by decide)
theorem x_lies0 (x : Int32) {n : Nat} (hn : n < 2 ^ 31) : pX3_lies x 0 (nI n) = 0 ↔ ¬ isN x (n + 1) := ls_0 x hn
theorem m_isCell (x : Int32) : pX4_isCell x = 0 ↔ ¬ isN x 36 := ls_0 x (n := 35) (by decide)
theorem m_isStuff (x : Int32) : pX4_isStuff x = 0 ↔ ¬ isN x 5 := ls_0 x (n := 4) (by decide)
theorem m_isKind (x : Int32) : pX4_isKind x = 0 ↔ ¬ isN x 7 := ls_0 x (n := 6) (by decide)
theorem m_within0 (x : Int32) {n : Nat} (hn : n < 2 ^ 31) : pX4_within x 0 (nI n) = 0 ↔ ¬ isN x (n + 1) := ls_0 x hn
/-- below a number, less one: none below 0 -/
theorem ls_m (x : Int32) {n : Nat} (hn : n < 2 ^ 31) : (if x < 0 then (0 : Int32) else if nI n - 1 < x then 0 else 1) = 0 ↔ ¬ isN x n := by
  cases n with
  | zero =>
    refine ⟨fun _ => ?_, fun _ => ?_⟩
    · rintro ⟨k, hk, _⟩; omega
    · by_cases h : x < 0
      · rw [if_pos h]
      · rw [if_neg h, if_pos]
        obtain ⟨j, hj, rfl⟩ := nI_of h
        rw [Int32.lt_iff_toInt_lt, nI_toInt hj, show (nI 0 - 1).toInt = -1 by decide]
        omega
  | succ n =>
    rw [nI_pred]
    exact ls_0 x (by omega)
theorem x_isCrew {z w : mm_S} (h : Rel z w) (x : Int32) : pX3_isCrew x z = 0 ↔ ¬ isN x (nC (w.1 1)) := by
  have e := ok_nC h.1
  unfold pX3_isCrew pX3_lies
  rw [h.2.1.2.1, e.1]
  exact ls_m x (by omega)
theorem m_isCrew {z w : mm_S} (h : Rel z w) (x : Int32) : pX4_isCrew x w = 0 ↔ ¬ isN x (nC (w.1 1)) := by
  have e := ok_nC h.1
  unfold pX4_isCrew pX4_within
  rw [e.1]
  exact ls_m x (by omega)
/-- a test that both make -/
theorem pp_if {α : Type} {a b : Int32} {P : Prop} {X1 X2 M1 M2 : Option (α × mm_S)} (ha : a = 0 ↔ ¬ P) (hb : b = 0 ↔ ¬ P) (h1 : ¬ P → PP X1 M1) (h2 : P → PP X2 M2) : PP (if a = 0 then X1 else X2) (if b = 0 then M1 else M2) := by
  by_cases p : P
  · rw [if_neg (fun e => (ha.mp e) p), if_neg (fun e => (hb.mp e) p)]
    exact h2 p
  · rw [if_pos (ha.mpr p), if_pos (hb.mpr p)]
    exact h1 p
theorem pp_if2 {α : Type} {a b : Prop} [Decidable a] [Decidable b] {P : Prop} {X1 X2 M1 M2 : Option (α × mm_S)} (ha : a ↔ P) (hb : b ↔ P) (h1 : P → PP X1 M1) (h2 : ¬ P → PP X2 M2) : PP (if a then X1 else X2) (if b then M1 else M2) := by
  by_cases p : P
  · rw [if_pos (ha.mpr p), if_pos (hb.mpr p)]
    exact h1 p
  · rw [if_neg (fun e => p (ha.mp e)), if_neg (fun e => p (hb.mp e))]
    exact h2 p
