/-! ===== tokens ===== -/
def rnF (P : Nat → Bool) : Nat → Nat → Nat
  | 0, i => i
  | k + 1, i => if P i = true then rnF P k (i + 1) else i
def rn (P : Nat → Bool) (n i : Nat) : Nat := rnF P (n - i) i
theorem rn_y {P : Nat → Bool} {n i : Nat} (h : i < n) (hp : P i = true) : rn P n i = rn P n (i + 1) := by
  unfold rn
  rw [show n - i = (n - (i + 1)) + 1 by omega]
  show (if P i = true then rnF P (n - (i + 1)) (i + 1) else i) = _
  rw [if_pos hp]
theorem rn_n {P : Nat → Bool} {n i : Nat} (h : ¬ (i < n ∧ P i = true)) : rn P n i = i := by
  unfold rn
  cases hk : n - i with
  | zero => rfl
  | succ k =>
    show (if P i = true then rnF P k (i + 1) else i) = i
    rw [if_neg (fun hp => h ⟨by omega, hp⟩)]
theorem rnF_le (P : Nat → Bool) : ∀ k i, i ≤ rnF P k i ∧ rnF P k i ≤ i + k
  | 0, i => ⟨Nat.le_refl _, Nat.le_refl _⟩
  | k + 1, i => by
    show i ≤ (if P i = true then rnF P k (i + 1) else i) ∧ (if P i = true then rnF P k (i + 1) else i) ≤ i + (k + 1)
    have := rnF_le P k (i + 1)
    split <;> omega
theorem rn_le (P : Nat → Bool) {n i : Nat} (h : i ≤ n) : i ≤ rn P n i ∧ rn P n i ≤ n := by
  have := rnF_le P (n - i) i
  unfold rn
  omega
def ltB (b : Int32) : Bool := !decide (b < 97) && !decide (122 < b)
def dgB (b : Int32) : Bool := !decide (b < 48) && !decide (57 < b)
theorem ltc_0 (b : Int32) : (if b < 97 then (0 : Int32) else if 122 < b then 0 else 1) = 0 ↔ ¬ ltB b = true := by
  unfold ltB
  by_cases h : b < 97
  · simp [h]
  · by_cases h2 : 122 < b
    · simp [h, h2]
    · simp [h, h2]
theorem dgc_0 (b : Int32) : (if b < 48 then (0 : Int32) else if 57 < b then 0 else 1) = 0 ↔ ¬ dgB b = true := by
  unfold dgB
  by_cases h : b < 48
  · simp [h]
  · by_cases h2 : 57 < b
    · simp [h, h2]
    · simp [h, h2]
theorem x_lt (b : Int32) (z : mm_S) : pX2_isLetter b z = 0 ↔ ¬ ltB b = true := ltc_0 b
theorem x_dg (b : Int32) (z : mm_S) : pX2_isDigit b z = 0 ↔ ¬ dgB b = true := dgc_0 b
theorem m_lt (b : Int32) : pX4_within b 97 122 = 0 ↔ ¬ ltB b = true := ltc_0 b
theorem m_dg (b : Int32) : pX4_within b 48 57 = 0 ↔ ¬ dgB b = true := dgc_0 b
theorem dg_n {c : Nat} (hc : c < 256) (h : dgB (nI c) = true) : 48 ≤ c ∧ c ≤ 57 := by
  unfold dgB at h
  rw [Bool.and_eq_true, Bool.not_eq_true', Bool.not_eq_true', decide_eq_false_iff_not, decide_eq_false_iff_not] at h
  have h1 : nI c < 48 ↔ c < 48 := nI_ltI (b := 48) (by omega) (by decide)
  have h2 : 57 < nI c ↔ 57 < c := nI_ltI (a := 57) (by decide) (by omega)
  rw [h1, h2] at h
  omega
section TK
variable (T : Nat → Int32) (n : Nat)
def sK (e : Nat) : Nat := rn (fun i => decide (T i = 32)) n e
def kK (s : Nat) : Nat := if n ≤ s then 0 else if ltB (T s) = true then 1 else if dgB (T s) = true then 2 else if T s = 59 then 3 else 4
def fK (s : Nat) : Nat := if n ≤ s then s else if ltB (T s) = true then rn (fun i => ltB (T i)) n s else if dgB (T s) = true then rn (fun i => dgB (T i)) n s else s + 1
def vF (s : Nat) : Nat → Nat
  | 0 => 0
  | i + 1 => min 1000 (10 * vF s i + (gN (T (s + i)) - 48))
def vK (s : Nat) : Nat := vF T s (fK T n s - s)
def nx (s : Nat) : Nat := sK T n (fK T n s)
end TK
section TL
variable {T : Nat → Int32} {n : Nat}
theorem sK_le {e : Nat} (h : e ≤ n) : e ≤ sK T n e ∧ sK T n e ≤ n := rn_le _ h
theorem fK_le {s : Nat} (h : s ≤ n) : s ≤ fK T n s ∧ fK T n s ≤ n ∧ (s < n → s < fK T n s) := by
  unfold fK
  by_cases h0 : n ≤ s
  · rw [if_pos h0]; omega
  rw [if_neg h0]
  by_cases h1 : ltB (T s) = true
  · rw [if_pos h1, rn_y (by omega) h1]
    have := rn_le (fun i => ltB (T i)) (n := n) (i := s + 1) (by omega)
    omega
  rw [if_neg h1]
  by_cases h2 : dgB (T s) = true
  · rw [if_pos h2, rn_y (by omega) h2]
    have := rn_le (fun i => dgB (T i)) (n := n) (i := s + 1) (by omega)
    omega
  rw [if_neg h2]; omega
theorem nx_le {s : Nat} (h : s ≤ n) : s ≤ nx T n s ∧ nx T n s ≤ n ∧ (s < n → s < nx T n s) := by
  have h1 := fK_le (T := T) h
  have h2 := sK_le (T := T) (n := n) h1.2.1
  unfold nx
  omega
theorem kK_0 {s : Nat} : kK T n s = 0 ↔ n ≤ s := by
  unfold kK
  by_cases h0 : n ≤ s
  · rw [if_pos h0]; exact ⟨fun _ => h0, fun _ => rfl⟩
  · rw [if_neg h0]
    refine ⟨fun e => ?_, fun e => absurd e h0⟩
    split at e
    · omega
    · split at e
      · omega
      · split at e <;> omega
theorem kK_le (s : Nat) : kK T n s ≤ 4 := by
  unfold kK
  repeat' split
  all_goals omega
theorem kK_w {s : Nat} : kK T n s = 1 ↔ s < n ∧ ltB (T s) = true := by
  unfold kK
  by_cases h0 : n ≤ s
  · rw [if_pos h0]; exact ⟨fun e => absurd e (by decide), fun e => absurd e.1 (by omega)⟩
  rw [if_neg h0]
  by_cases h1 : ltB (T s) = true
  · rw [if_pos h1]; exact ⟨fun _ => ⟨by omega, h1⟩, fun _ => rfl⟩
  · rw [if_neg h1]
    refine ⟨fun e => ?_, fun e => absurd e.2 h1⟩
    split at e
    · omega
    · split at e <;> omega
theorem kK_3 {s : Nat} : kK T n s = 3 → s < n ∧ T s = 59 := by
  unfold kK
  intro e
  split at e
  · omega
  split at e
  · omega
  split at e
  · omega
  split at e
  · exact ⟨by omega, by assumption⟩
  · omega
theorem vF_le (s : Nat) : ∀ i, vF T s i ≤ 1000
  | 0 => Nat.zero_le _
  | i + 1 => Nat.min_le_left _ _
/-- the class's token -/
def TX (T : Nat → Int32) (n s : Nat) (z : mm_S) : Prop := s ≤ n ∧ z.1 37 1 = nI n ∧ z.1 37 2 = nI (kK T n s) ∧ z.1 37 3 = nI s ∧ z.1 37 4 = nI (fK T n s) ∧ (kK T n s = 2 → z.1 37 5 = nI (vK T n s)) ∧ z.1 38 = T
def TM (T : Nat → Int32) (n s : Nat) (w : mm_S) : Prop := s ≤ n ∧ w.1 0 18 = nI n ∧ w.1 0 21 = nI (min 3 (kK T n s)) ∧ w.1 0 19 = nI s ∧ w.1 0 20 = nI (fK T n s) ∧ (kK T n s = 2 → w.1 0 22 = nI (vK T n s)) ∧ ∀ i, i < n → w.1 13 i = T i
def f37 (z z' : mm_S) : Prop := (∀ b, b ≠ 37 → z'.1 b = z.1 b) ∧ z'.2 = z.2
theorem f37_0 (z : mm_S) : f37 z z := ⟨fun _ _ => rfl, rfl⟩
theorem f37_t {z z' z'' : mm_S} (h : f37 z z') (h2 : f37 z' z'') : f37 z z'' := ⟨fun b hb => (h2.1 b hb).trans (h.1 b hb), h2.2.trans h.2⟩
theorem f37_u (z : mm_S) (j : Nat) (v : Int32) : f37 z (mm_ui z.1 37 j v, z.2) := ⟨fun b hb => ru_n _ _ hb, rfl⟩
theorem x_byte {z : mm_S} (h : z.1 38 = T) {i : Nat} (hi : i < 120) : pX3_at 38 (nI i) z = T i := by rw [at_N _ (show i < lenX 38 from hi), h]
theorem x_endWord (hn : n ≤ 120) {s : Nat} (hs : s ≤ n) {z : mm_S} (h1 : z.1 37 1 = nI n) (h4 : z.1 37 4 = nI s) (h38 : z.1 38 = T) : hh_c (sX2_endWord z) (fun z' => z'.1 37 4 = nI (rn (fun i => ltB (T i)) n s) ∧ (∀ j, j ≠ 4 → z'.1 37 j = z.1 37 j) ∧ f37 z z') := by
  unfold sX2_endWord sX2_endWord_0
  refine hh_up (fun j z' => s + j ≤ n ∧ z'.1 37 4 = nI (s + j) ∧ rn (fun i => ltB (T i)) n (s + j) = rn (fun i => ltB (T i)) n s ∧ (∀ j, j ≠ 4 → z'.1 37 j = z.1 37 j) ∧ f37 z z') n (by omega) ⟨hs, h4, rfl, fun _ _ => rfl, f37_0 z⟩ ?_
  rintro j z' hj ⟨a1, a2, a3, a4, a5⟩
  have hle : nI n ≤ nI (s + j) ↔ n ≤ s + j := nI_leI (by omega) (by omega)
  unfold lX2_endWord_0 sX2_endWord_22 sX2_endWord_38
  rw [a4 1 (by decide), h1, a2]
  refine hh_i (fun y => hh_v ?_) (fun y => ?_)
  · have := hle.mp y
    rw [rn_n (by omega)] at a3
    exact ⟨by rw [a2, a3], a4, a5⟩
  have hj2 : s + j < n := Nat.lt_of_not_le fun x => y (hle.mpr x)
  rw [x_byte (z := z') (T := T) ((a5.1 38 (by decide)).trans h38) (show s + j < 120 by omega)]
  by_cases q : ltB (T (s + j)) = true
  · refine hh_f (fun e => (x_lt _ z').mp e q) (hh_v ⟨by omega, by omega, ?_, ?_, fun i hi => ?_, f37_t a5 (f37_u z' _ _)⟩)
    · dsimp only; rw [ru_s]; first | (rw [a2, nI_1]; rfl) | (rw [nI_1]; rfl)
    · rw [← a3, rn_y hj2 q]; rfl
    · dsimp only; rw [ru_i _ _ hi]; exact a4 i hi
  · refine hh_t ((x_lt _ z').mpr q) (hh_v ?_)
    rw [rn_n (fun x => q x.2)] at a3
    exact ⟨by rw [a2, a3], a4, a5⟩
theorem x_endNumber (hn : n ≤ 120) (hT : ∀ i, i < n → isN (T i) 256) {s : Nat} (hs : s ≤ n) {z : mm_S} (h1 : z.1 37 1 = nI n) (h4 : z.1 37 4 = nI s) (h38 : z.1 38 = T) : hh_c (sX2_endNumber z) (fun z' => z'.1 37 4 = nI (rn (fun i => dgB (T i)) n s) ∧ z'.1 37 5 = nI (vF T s (rn (fun i => dgB (T i)) n s - s)) ∧ (∀ j, j ≠ 4 → j ≠ 5 → z'.1 37 j = z.1 37 j) ∧ f37 z z') := by
  unfold sX2_endNumber sX2_endNumber_0 sX2_endNumber_5
  refine hh_up (fun j z' => s + j ≤ n ∧ z'.1 37 4 = nI (s + j) ∧ z'.1 37 5 = nI (vF T s j) ∧ rn (fun i => dgB (T i)) n (s + j) = rn (fun i => dgB (T i)) n s ∧ (∀ j, j ≠ 4 → j ≠ 5 → z'.1 37 j = z.1 37 j) ∧ f37 z z') n (by omega) ⟨hs, ?_, ?_, rfl, fun j h4 h5 => ?_, f37_u z _ _⟩ ?_
  · dsimp only; rw [ru_i _ _ (by decide)]; exact h4
  · dsimp only; rw [ru_s]; rfl
  · dsimp only; rw [ru_i _ _ h5]
  rintro j z' hj ⟨a1, a2, a2b, a3, a4, a5⟩
  have hle : nI n ≤ nI (s + j) ↔ n ≤ s + j := nI_leI (by omega) (by omega)
  unfold lX2_endNumber_5 sX2_endNumber_27 sX2_endNumber_67 sX2_endNumber_77
  rw [a4 1 (by decide) (by decide), h1, a2]
  refine hh_i (fun y => hh_v ?_) (fun y => ?_)
  · have := hle.mp y
    rw [rn_n (by omega)] at a3
    exact ⟨by rw [a2, a3], by rw [a2b, ← a3, show s + j - s = j by omega], a4, a5⟩
  have hj2 : s + j < n := Nat.lt_of_not_le fun x => y (hle.mpr x)
  have hb := x_byte (z := z') (T := T) ((a5.1 38 (by decide)).trans h38) (show s + j < 120 by omega)
  rw [hb]
  by_cases q : dgB (T (s + j)) = true
  · obtain ⟨c, hc, e⟩ := hT (s + j) hj2
    have hd : 48 ≤ c ∧ c ≤ 57 := dg_n hc (by rw [← e]; exact q)
    have hv := vF_le (T := T) s j
    have em : mm_min (nI (vF T s j) * 10 + (T (s + j) - 48)) 1000 = nI (vF T s (j + 1)) := by
      rw [e, show (48 : Int32) = nI 48 from rfl, nI_dif hd.1, show (10 : Int32) = nI 10 from rfl, pk_mul, nI_add, show (1000 : Int32) = nI 1000 from rfl, min_x (by omega) (by decide)]
      show _ = nI (min 1000 (10 * vF T s j + (gN (T (s + j)) - 48)))
      rw [e, gN_N (by omega)]
      congr 1
      omega
    refine hh_f (fun e => (x_dg _ z').mp e q) (hh_v ⟨by omega, by omega, ?_, ?_, ?_, fun i hi hi5 => ?_, f37_t a5 (f37_t (f37_u z' _ _) (f37_u _ _ _))⟩)
    · dsimp only; rw [ru_s]; first | (rw [ru_i _ _ (show (4 : Nat) ≠ 5 by decide), a2, nI_1]; rfl) | (rw [nI_1]; rfl)
    · dsimp only; rw [ru_i _ _ (show (5 : Nat) ≠ 4 by decide), ru_s, a2b, em]
    · rw [← a3, rn_y hj2 q]; rfl
    · dsimp only; rw [ru_i _ _ hi, ru_i _ _ hi5]; exact a4 i hi hi5
  · refine hh_t ((x_dg _ z').mpr q) (hh_v ?_)
    rw [rn_n (fun x => q x.2)] at a3
    exact ⟨by rw [a2, a3], by rw [a2b, ← a3, show s + j - s = j by omega], a4, a5⟩
theorem x_tok (hn : n ≤ 120) (hT : ∀ i, i < n → isN (T i) 256) {s : Nat} (hs : s ≤ n) {z : mm_S} (h1 : z.1 37 1 = nI n) (h3 : z.1 37 3 = nI s) (h4 : z.1 37 4 = nI s) (h38 : z.1 38 = T) : hh_c (sX2_nextToken_56 z) (fun z' => TX T n s z' ∧ f37 z z') := by
  have hlt : nI s < nI n ↔ s < n := nI_ltI (by omega) (by omega)
  have u1 : ∀ v j, j ≠ 2 → mm_ui z.1 37 2 v 37 j = z.1 37 j := fun v j hj => ru_i _ _ hj
  have u2 : ∀ v b, b ≠ 37 → mm_ui z.1 37 2 v b = z.1 b := fun v b hb => ru_n _ _ hb
  unfold sX2_nextToken_56 sX2_nextToken_68
  rw [h3, h1]
  refine hh_i (fun y => ?_) (fun y => ?_)
  · have hs2 := hlt.mp y
    rw [x_byte h38 (show s < 120 by omega)]
    have n0 : ¬ n ≤ s := by omega
    by_cases q1 : ltB (T s) = true
    · refine hh_f (fun e => (x_lt _ z).mp e q1) ?_
      unfold sX2_nextToken_99 sX2_nextToken_103 sX2_nextToken_150
      have ek : kK T n s = 1 := kK_w.mpr ⟨hs2, q1⟩
      have ef : fK T n s = rn (fun i => ltB (T i)) n s := by unfold fK; rw [if_neg n0, if_pos q1]
      refine hh_bd (x_endWord (T := T) (z := (mm_ui z.1 37 2 1, z.2)) hn hs (by dsimp only; rw [u1 _ _ (by decide)]; exact h1) (by dsimp only; rw [u1 _ _ (by decide)]; exact h4) (by dsimp only; rw [u2 _ _ (by decide)]; exact h38)) (fun z' h => hh_v ⟨⟨hs, ?_, ?_, ?_, ?_, fun t => ?_, ?_⟩, f37_t (f37_u z _ _) h.2.2⟩)
      · rw [h.2.1 1 (by decide)]; dsimp only; rw [u1 _ _ (by decide)]; exact h1
      · rw [h.2.1 2 (by decide)]; dsimp only; rw [ru_s, ek]; rfl
      · rw [h.2.1 3 (by decide)]; dsimp only; rw [u1 _ _ (by decide)]; exact h3
      · rw [h.1, ef]
      · omega
      · rw [h.2.2.1 38 (by decide)]; dsimp only; rw [u2 _ _ (by decide)]; exact h38
    refine hh_t ((x_lt _ z).mpr q1) ?_
    by_cases q2 : dgB (T s) = true
    · refine hh_f (fun e => (x_dg _ z).mp e q2) ?_
      unfold sX2_nextToken_118 sX2_nextToken_122 sX2_nextToken_150
      have ek : kK T n s = 2 := by unfold kK; rw [if_neg n0, if_neg q1, if_pos q2]
      have ef : fK T n s = rn (fun i => dgB (T i)) n s := by unfold fK; rw [if_neg n0, if_neg q1, if_pos q2]
      refine hh_bd (x_endNumber (T := T) (z := (mm_ui z.1 37 2 2, z.2)) hn hT hs (by dsimp only; rw [u1 _ _ (by decide)]; exact h1) (by dsimp only; rw [u1 _ _ (by decide)]; exact h4) (by dsimp only; rw [u2 _ _ (by decide)]; exact h38)) (fun z' h => hh_v ⟨⟨hs, ?_, ?_, ?_, ?_, fun _ => ?_, ?_⟩, f37_t (f37_u z _ _) h.2.2.2⟩)
      · rw [h.2.2.1 1 (by decide) (by decide)]; dsimp only; rw [u1 _ _ (by decide)]; exact h1
      · rw [h.2.2.1 2 (by decide) (by decide)]; dsimp only; rw [ru_s, ek]; rfl
      · rw [h.2.2.1 3 (by decide) (by decide)]; dsimp only; rw [u1 _ _ (by decide)]; exact h3
      · rw [h.1, ef]
      · rw [h.2.1]; unfold vK; rw [ef]
      · rw [h.2.2.2.1 38 (by decide)]; dsimp only; rw [u2 _ _ (by decide)]; exact h38
    refine hh_t ((x_dg _ z).mpr q2) ?_
    have ef : fK T n s = s + 1 := by unfold fK; rw [if_neg n0, if_neg q1, if_neg q2]
    have fin : ∀ k, kK T n s = k → (k = 3 ∨ k = 4) → TX T n s (mm_ui (mm_ui z.1 37 2 (nI k)) 37 4 (mm_ui z.1 37 2 (nI k) 37 3 + 1), z.2) ∧ f37 z (mm_ui (mm_ui z.1 37 2 (nI k)) 37 4 (mm_ui z.1 37 2 (nI k) 37 3 + 1), z.2) := by
      intro k ek hk
      refine ⟨⟨hs, ?_, ?_, ?_, ?_, fun t => by omega, ?_⟩, f37_t (f37_u z 2 (nI k)) (f37_u _ _ _)⟩
      · dsimp only; rw [ru_i _ _ (by decide), ru_i _ _ (by decide)]; exact h1
      · dsimp only; rw [ru_i _ _ (by decide), ru_s, ek]
      · dsimp only; rw [ru_i _ _ (by decide), ru_i _ _ (by decide)]; exact h3
      · dsimp only; rw [ru_s, ru_i _ _ (by decide), h3, nI_1, ef]
      · dsimp only; rw [ru_n _ _ (by decide), ru_n _ _ (by decide)]; exact h38
    unfold sX2_nextToken_140 sX2_nextToken_150
    refine hh_i (fun q3 => hh_v ?_) (fun q3 => hh_v ?_)
    · exact fin 3 (by unfold kK; rw [if_neg n0, if_neg q1, if_neg q2, if_pos q3]) (Or.inl rfl)
    · exact fin 4 (by unfold kK; rw [if_neg n0, if_neg q1, if_neg q2, if_neg q3]) (Or.inr rfl)
  · have hs2 : n ≤ s := Nat.le_of_not_lt fun x => y (hlt.mpr x)
    have ek : kK T n s = 0 := kK_0.mpr hs2
    have ef : fK T n s = s := by unfold fK; rw [if_pos hs2]
    unfold sX2_nextToken_84 sX2_nextToken_150
    refine hh_v ⟨⟨hs, ?_, ?_, ?_, ?_, fun t => by omega, ?_⟩, f37_u z _ _⟩
    · dsimp only; rw [u1 _ _ (by decide)]; exact h1
    · dsimp only; rw [ru_s, ek]; rfl
    · dsimp only; rw [u1 _ _ (by decide)]; exact h3
    · dsimp only; rw [u1 _ _ (by decide), ef]; exact h4
    · dsimp only; rw [u2 _ _ (by decide)]; exact h38
theorem x_nextE (hn : n ≤ 120) (hT : ∀ i, i < n → isN (T i) 256) {e : Nat} (he : e ≤ n) {z : mm_S} (h1 : z.1 37 1 = nI n) (h4 : z.1 37 4 = nI e) (h38 : z.1 38 = T) : hh_c (sX2_nextToken z) (fun z' => TX T n (sK T n e) z' ∧ f37 z z') := by
  unfold sX2_nextToken sX2_nextToken_0 sX2_nextToken_8
  refine hh_up (fun j z' => e + j ≤ n ∧ z'.1 37 3 = nI (e + j) ∧ rn (fun i => decide (T i = 32)) n (e + j) = sK T n e ∧ z'.1 37 1 = nI n ∧ f37 z z') n (by omega) ⟨he, ?_, rfl, ?_, f37_u z _ _⟩ ?_
  · dsimp only; rw [ru_s]; exact h4
  · dsimp only; rw [ru_i _ _ (by decide)]; exact h1
  rintro j z' hj ⟨a1, a2, a3, a4, a5⟩
  have hle : nI n ≤ nI (e + j) ↔ n ≤ e + j := nI_leI (by omega) (by omega)
  have h38' := (a5.1 38 (by decide)).trans h38
  have fin : rn (fun i => decide (T i = 32)) n (e + j) = e + j → hh_c (sX2_nextToken_56 (mm_ui z'.1 37 4 (nI (e + j)), z'.2)) (fun z' => TX T n (sK T n e) z' ∧ f37 z z') := by
    intro hr
    rw [hr] at a3
    rw [← a3]
    refine hh_w (x_tok hn hT a1 ?_ ?_ ?_ ?_) (fun z2 h2 => ⟨h2.1, f37_t (f37_t a5 (f37_u z' _ _)) h2.2⟩)
    · dsimp only; rw [ru_i _ _ (by decide)]; exact a4
    · dsimp only; rw [ru_i _ _ (by decide)]; exact a2
    · dsimp only; rw [ru_s]
    · dsimp only; rw [ru_n _ _ (by decide)]; exact h38'
  unfold lX2_nextToken_8 sX2_nextToken_45
  rw [a4, a2]
  refine hh_i (fun y => hh_map (fin ?_) (fun a ha => ha)) (fun y => ?_)
  · have := hle.mp y
    exact rn_n (by omega)
  have hj2 : e + j < n := Nat.lt_of_not_le fun x => y (hle.mpr x)
  rw [x_byte h38' (show e + j < 120 by omega)]
  refine hh_i (fun y2 => hh_v ⟨by omega, by omega, ?_, ?_, ?_, f37_t a5 (f37_u z' _ _)⟩) (fun y2 => hh_map (fin ?_) (fun a ha => ha))
  · dsimp only; rw [ru_s, nI_1]; rfl
  · rw [← a3, rn_y hj2 (decide_eq_true y2)]; rfl
  · dsimp only; rw [ru_i _ _ (by decide)]; exact a4
  · exact rn_n (fun x => y2 (of_decide_eq_true x.2))
theorem x_next (hn : n ≤ 120) (hT : ∀ i, i < n → isN (T i) 256) {s : Nat} {z : mm_S} (h : TX T n s z) : hh_c (sX2_nextToken z) (fun z' => TX T n (nx T n s) z' ∧ f37 z z') :=
  x_nextE hn hT (fK_le h.1).2.1 h.2.1 h.2.2.2.2.1 h.2.2.2.2.2.2
/-! the reference's -/
def f0 (w w' : mm_S) : Prop := (∀ b, b ≠ 0 → w'.1 b = w.1 b) ∧ ∀ j, ¬ (19 ≤ j ∧ j ≤ 22) → w'.1 0 j = w.1 0 j
theorem f0_0 (w : mm_S) : f0 w w := ⟨fun _ _ => rfl, fun _ _ => rfl⟩
theorem f0_t {w w' w'' : mm_S} (h : f0 w w') (h2 : f0 w' w'') : f0 w w'' := ⟨fun b hb => (h2.1 b hb).trans (h.1 b hb), fun b hb => (h2.2 b hb).trans (h.2 b hb)⟩
theorem f0_u (w : mm_S) {j : Nat} (hj : 19 ≤ j ∧ j ≤ 22) (v : Int32) : f0 w (mm_ui w.1 0 j v, w.2) := ⟨fun b hb => ru_n _ _ hb, fun i hi => by show mm_ui w.1 0 j v 0 i = w.1 0 i; rw [ru_i _ _ (show i ≠ j by omega)]⟩
theorem m_byte {w : mm_S} (hn : n ≤ 120) (h18 : w.1 0 18 = nI n) (h13 : ∀ i, i < n → w.1 13 i = T i) {i : Nat} (hi : i ≤ n) : sX4_byteAt (nI i) w = some (if i < n then T i else -1, w) := by
  have hle : nI n ≤ nI i ↔ n ≤ i := nI_leI (by omega) (by omega)
  unfold sX4_byteAt sX4_byteAt_0
  rw [h18]
  by_cases q : n ≤ i
  · rw [if_pos (hle.mpr q), if_neg (by omega)]
  · rw [if_neg (fun x => q (hle.mp x)), if_neg (gI (show i < 120 by omega) (by decide)), nI_clamp (by omega), if_pos (by omega), h13 i (by omega)]
theorem m_runL (hn : n ≤ 120) {s : Nat} (hs : s ≤ n) {w : mm_S} (h1 : w.1 0 18 = nI n) (h4 : w.1 0 20 = nI s) (h13 : ∀ i, i < n → w.1 13 i = T i) : hh_c (sX4_next_84 w) (fun w' => w'.1 0 20 = nI (rn (fun i => ltB (T i)) n s) ∧ (∀ j, j ≠ 20 → w'.1 0 j = w.1 0 j) ∧ f0 w w') := by
  unfold sX4_next_84
  refine hh_up (fun j w' => s + j ≤ n ∧ w'.1 0 20 = nI (s + j) ∧ rn (fun i => ltB (T i)) n (s + j) = rn (fun i => ltB (T i)) n s ∧ (∀ j, j ≠ 20 → w'.1 0 j = w.1 0 j) ∧ f0 w w') n (by omega) ⟨hs, h4, rfl, fun _ _ => rfl, f0_0 w⟩ ?_
  rintro j w' hj ⟨a1, a2, a3, a4, a5⟩
  unfold lX4_next_84 sX4_next_102 sX4_next_112 sX4_next_206
  rw [a2]
  refine hh_be (m_byte (T := T) hn ((a4 18 (by decide)).trans h1) (fun i hi => by rw [a5.1 13 (by decide)]; exact h13 i hi) a1) ?_
  dsimp only
  by_cases q : s + j < n ∧ ltB (T (s + j)) = true
  · rw [if_pos q.1]
    refine hh_f (fun e => (m_lt _).mp e q.2) (hh_v ⟨by omega, by omega, ?_, ?_, fun i hi => ?_, f0_t a5 (f0_u w' (by decide) _)⟩)
    · dsimp only; rw [ru_s]; first | (rw [a2, nI_1]; rfl) | (rw [nI_1]; rfl)
    · rw [← a3, rn_y q.1 q.2]; rfl
    · dsimp only; rw [ru_i _ _ hi]; exact a4 i hi
  · have hb : ¬ ltB (if s + j < n then T (s + j) else -1) = true := by
      by_cases q2 : s + j < n
      · rw [if_pos q2]; exact fun x => q ⟨q2, x⟩
      · rw [if_neg q2]; decide
    refine hh_t ((m_lt _).mpr hb) (hh_v ?_)
    rw [rn_n q] at a3
    exact ⟨by rw [a2, a3], a4, a5⟩
theorem m_runD (hn : n ≤ 120) (hT : ∀ i, i < n → isN (T i) 256) {s : Nat} (hs : s ≤ n) {w : mm_S} (h1 : w.1 0 18 = nI n) (h4 : w.1 0 20 = nI s) (h5 : w.1 0 22 = 0) (h13 : ∀ i, i < n → w.1 13 i = T i) : hh_c (sX4_next_131 w) (fun w' => w'.1 0 20 = nI (rn (fun i => dgB (T i)) n s) ∧ w'.1 0 22 = nI (vF T s (rn (fun i => dgB (T i)) n s - s)) ∧ (∀ j, j ≠ 20 → j ≠ 22 → w'.1 0 j = w.1 0 j) ∧ f0 w w') := by
  unfold sX4_next_131
  refine hh_up (fun j w' => s + j ≤ n ∧ w'.1 0 20 = nI (s + j) ∧ w'.1 0 22 = nI (vF T s j) ∧ rn (fun i => dgB (T i)) n (s + j) = rn (fun i => dgB (T i)) n s ∧ (∀ j, j ≠ 20 → j ≠ 22 → w'.1 0 j = w.1 0 j) ∧ f0 w w') n (by omega) ⟨hs, h4, h5, rfl, fun _ _ _ => rfl, f0_0 w⟩ ?_
  rintro j w' hj ⟨a1, a2, a2b, a3, a4, a5⟩
  have hby := m_byte (T := T) (w := w') hn ((a4 18 (by decide) (by decide)).trans h1) (fun i hi => by rw [a5.1 13 (by decide)]; exact h13 i hi) a1
  unfold lX4_next_131 sX4_next_149 sX4_next_178 sX4_next_188 sX4_next_206
  rw [a2]
  refine hh_be hby ?_
  dsimp only
  by_cases q : s + j < n ∧ dgB (T (s + j)) = true
  · rw [if_pos q.1] at hby ⊢
    obtain ⟨c, hc, e⟩ := hT (s + j) q.1
    have hd : 48 ≤ c ∧ c ≤ 57 := dg_n hc (by rw [← e]; exact q.2)
    have hv := vF_le (T := T) s j
    have em : mm_min 1000 (((10 * nI (vF T s j)) + T (s + j)) - 48) = nI (vF T s (j + 1)) := by
      rw [e, show (48 : Int32) = nI 48 from rfl, show (10 : Int32) = nI 10 from rfl, pk_mul, nI_add, nI_dif (by omega), show (1000 : Int32) = nI 1000 from rfl, min_x (by decide) (by omega)]
      show _ = nI (min 1000 (10 * vF T s j + (gN (T (s + j)) - 48)))
      rw [e, gN_N (by omega)]
      congr 1
      omega
    refine hh_f (fun e => (m_dg _).mp e q.2) ?_
    rw [a2]
    refine hh_be hby (hh_v ⟨by omega, by omega, ?_, ?_, ?_, fun i hi hi5 => ?_, f0_t a5 (f0_t (f0_u w' (j := 22) (by decide) _) (f0_u _ (by decide) _))⟩)
    · dsimp only; rw [ru_s]; first | (rw [ru_i _ _ (show (20 : Nat) ≠ 22 by decide), a2, nI_1]; rfl) | (rw [nI_1]; rfl)
    · dsimp only; rw [ru_i _ _ (show (22 : Nat) ≠ 20 by decide), ru_s, a2b, em]
    · rw [← a3, rn_y q.1 q.2]; rfl
    · dsimp only; rw [ru_i _ _ hi, ru_i _ _ hi5]; exact a4 i hi hi5
  · have hb : ¬ dgB (if s + j < n then T (s + j) else -1) = true := by
      by_cases q2 : s + j < n
      · rw [if_pos q2]; exact fun x => q ⟨q2, x⟩
      · rw [if_neg q2]; decide
    refine hh_t ((m_dg _).mpr hb) (hh_v ?_)
    rw [rn_n q] at a3
    exact ⟨by rw [a2, a3], by rw [a2b, ← a3, show s + j - s = j by omega], a4, a5⟩
theorem m_tok (hn : n ≤ 120) (hT : ∀ i, i < n → isN (T i) 256) {s : Nat} (hs : s ≤ n) {w : mm_S} (h1 : w.1 0 18 = nI n) (h3 : w.1 0 19 = nI s) (h13 : ∀ i, i < n → w.1 13 i = T i) : hh_c (sX4_next_43 (if s < n then T s else -1) w) (fun w' => TM T n s w' ∧ f0 w w') := by
  unfold sX4_next_43 sX4_next_51
  dsimp only
  -- the state before the branching
  have key : ∀ w1 : mm_S, f0 w w1 → w1.1 0 18 = nI n → w1.1 0 19 = nI s → w1.1 0 20 = nI s → w1.1 0 22 = 0 → (∀ i, i < n → w1.1 13 i = T i) → hh_c (sX4_next_56 (if s < n then T s else -1) w1) (fun w' => TM T n s w' ∧ f0 w w') := by
    intro w1 hf b1 b3 b4 b5 b13
    have u1 : ∀ v j, j ≠ 21 → mm_ui w1.1 0 21 v 0 j = w1.1 0 j := fun v j hj => ru_i _ _ hj
    have u2 : ∀ v b, b ≠ 0 → mm_ui w1.1 0 21 v b = w1.1 b := fun v b hb => ru_n _ _ hb
    have fu : ∀ v, f0 w (mm_ui w1.1 0 21 v, w1.2) := fun v => f0_t hf (f0_u w1 (by decide) v)
    unfold sX4_next_56
    by_cases hs2 : s < n
    · obtain ⟨c, hc, e⟩ := hT s hs2
      have n0 : ¬ n ≤ s := by omega
      rw [if_pos hs2]
      refine hh_t (by rw [e]; exact (nI_leI (a := 0) (by decide) (by omega)).mpr (Nat.zero_le _)) ?_
      by_cases q1 : ltB (T s) = true
      · have ek : kK T n s = 1 := kK_w.mpr ⟨hs2, q1⟩
        have ef : fK T n s = rn (fun i => ltB (T i)) n s := by unfold fK; rw [if_neg n0, if_pos q1]
        refine hh_f (fun e => (m_lt _).mp e q1) ?_
        refine hh_w (m_runL (T := T) (w := (mm_ui w1.1 0 21 1, w1.2)) hn hs (by dsimp only; rw [u1 _ _ (by decide)]; exact b1) (by dsimp only; rw [u1 _ _ (by decide)]; exact b4) (fun i hi => by dsimp only; rw [u2 _ _ (by decide)]; exact b13 i hi)) (fun w' h => ⟨⟨hs, ?_, ?_, ?_, ?_, fun t => ?_, fun i hi => ?_⟩, f0_t (fu _) h.2.2⟩)
        · rw [h.2.1 18 (by decide)]; dsimp only; rw [u1 _ _ (by decide)]; exact b1
        · rw [h.2.1 21 (by decide)]; dsimp only; rw [ru_s, ek]; rfl
        · rw [h.2.1 19 (by decide)]; dsimp only; rw [u1 _ _ (by decide)]; exact b3
        · rw [h.1, ef]
        · omega
        · rw [h.2.2.1 13 (by decide)]; dsimp only; rw [u2 _ _ (by decide)]; exact b13 i hi
      refine hh_t ((m_lt _).mpr q1) ?_
      by_cases q2 : dgB (T s) = true
      · have ek : kK T n s = 2 := by unfold kK; rw [if_neg n0, if_neg q1, if_pos q2]
        have ef : fK T n s = rn (fun i => dgB (T i)) n s := by unfold fK; rw [if_neg n0, if_neg q1, if_pos q2]
        refine hh_f (fun e => (m_dg _).mp e q2) ?_
        refine hh_w (m_runD (T := T) (w := (mm_ui w1.1 0 21 2, w1.2)) hn hT hs (by dsimp only; rw [u1 _ _ (by decide)]; exact b1) (by dsimp only; rw [u1 _ _ (by decide)]; exact b4) (by dsimp only; rw [u1 _ _ (by decide)]; exact b5) (fun i hi => by dsimp only; rw [u2 _ _ (by decide)]; exact b13 i hi)) (fun w' h => ⟨⟨hs, ?_, ?_, ?_, ?_, fun t => ?_, fun i hi => ?_⟩, f0_t (fu _) h.2.2.2⟩)
        · rw [h.2.2.1 18 (by decide) (by decide)]; dsimp only; rw [u1 _ _ (by decide)]; exact b1
        · rw [h.2.2.1 21 (by decide) (by decide)]; dsimp only; rw [ru_s, ek]; rfl
        · rw [h.2.2.1 19 (by decide) (by decide)]; dsimp only; rw [u1 _ _ (by decide)]; exact b3
        · rw [h.1, ef]
        · rw [h.2.1]; unfold vK; rw [ef]
        · rw [h.2.2.2.1 13 (by decide)]; dsimp only; rw [u2 _ _ (by decide)]; exact b13 i hi
      refine hh_t ((m_dg _).mpr q2) ?_
      have ef : fK T n s = s + 1 := by unfold fK; rw [if_neg n0, if_neg q1, if_neg q2]
      have ek : kK T n s = 3 ∨ kK T n s = 4 := by
        unfold kK
        rw [if_neg n0, if_neg q1, if_neg q2]
        split
        · exact Or.inl rfl
        · exact Or.inr rfl
      unfold sX4_next_196 sX4_next_206
      refine hh_v ⟨⟨hs, ?_, ?_, ?_, ?_, fun t => by omega, fun i hi => ?_⟩, f0_t (fu 3) (f0_u _ (by decide) _)⟩
      · dsimp only; rw [ru_i _ _ (by decide), u1 _ _ (by decide)]; exact b1
      · dsimp only; rw [ru_i _ _ (by decide), ru_s, show min 3 (kK T n s) = 3 by omega]; rfl
      · dsimp only; rw [ru_i _ _ (by decide), u1 _ _ (by decide)]; exact b3
      · dsimp only; rw [ru_s, u1 _ _ (by decide), b4, nI_1, ef]
      · dsimp only; rw [ru_n _ _ (by decide), u2 _ _ (by decide)]; exact b13 i hi
    · have ek : kK T n s = 0 := kK_0.mpr (by omega)
      have ef : fK T n s = s := by unfold fK; rw [if_pos (by omega)]
      rw [if_neg hs2]
      refine hh_f (by decide) ?_
      unfold sX4_next_65 sX4_next_206
      refine hh_v ⟨⟨hs, ?_, ?_, ?_, ?_, fun t => by omega, fun i hi => ?_⟩, fu 0⟩
      · dsimp only; rw [u1 _ _ (by decide)]; exact b1
      · dsimp only; rw [ru_s, ek]; rfl
      · dsimp only; rw [u1 _ _ (by decide)]; exact b3
      · dsimp only; rw [u1 _ _ (by decide), ef]; exact b4
      · dsimp only; rw [u2 _ _ (by decide)]; exact b13 i hi
  refine key _ (f0_t (f0_u w (j := 20) (by decide) _) (f0_u _ (j := 22) (by decide) _)) ?_ ?_ ?_ ?_ (fun i hi => ?_)
  · dsimp only; rw [ru_i _ _ (by decide), ru_i _ _ (by decide)]; exact h1
  · dsimp only; rw [ru_i _ _ (by decide), ru_i _ _ (by decide)]; exact h3
  · dsimp only; rw [ru_i _ _ (by decide), ru_s]; exact h3
  · dsimp only; rw [ru_s]
  · dsimp only; rw [ru_n _ _ (by decide), ru_n _ _ (by decide)]; exact h13 i hi
theorem m_nextE (hn : n ≤ 120) (hT : ∀ i, i < n → isN (T i) 256) {e : Nat} (he : e ≤ n) {w : mm_S} (h1 : w.1 0 18 = nI n) (h4 : w.1 0 20 = nI e) (h13 : ∀ i, i < n → w.1 13 i = T i) : hh_c (sX4_next w) (fun w' => TM T n (sK T n e) w' ∧ f0 w w') := by
  unfold sX4_next sX4_next_0 sX4_next_8
  refine hh_up (fun j w' => e + j ≤ n ∧ w'.1 0 19 = nI (e + j) ∧ rn (fun i => decide (T i = 32)) n (e + j) = sK T n e ∧ w'.1 0 18 = nI n ∧ f0 w w') n (by omega) ⟨he, ?_, rfl, ?_, f0_u w (by decide) _⟩ ?_
  · dsimp only; rw [ru_s]; exact h4
  · dsimp only; rw [ru_i _ _ (by decide)]; exact h1
  rintro j w' hj ⟨a1, a2, a3, a4, a5⟩
  have h13' : ∀ i, i < n → w'.1 13 i = T i := fun i hi => by rw [a5.1 13 (by decide)]; exact h13 i hi
  have hby := m_byte (T := T) (w := w') hn a4 h13' a1
  unfold lX4_next_8 sX4_next_21 sX4_next_31
  rw [a2]
  refine hh_be hby ?_
  dsimp only
  by_cases q : e + j < n ∧ T (e + j) = 32
  · refine hh_t (by rw [if_pos q.1]; exact q.2) (hh_v ⟨by omega, by omega, ?_, ?_, ?_, f0_t a5 (f0_u w' (by decide) _)⟩)
    · dsimp only; rw [ru_s]; first | (rw [a2, nI_1]; rfl) | (rw [nI_1]; rfl)
    · rw [← a3, rn_y q.1 (decide_eq_true q.2)]; rfl
    · dsimp only; rw [ru_i _ _ (by decide)]; exact a4
  · have hb : ¬ (if e + j < n then T (e + j) else -1) = 32 := by
      by_cases q2 : e + j < n
      · rw [if_pos q2]; exact fun x => q ⟨q2, x⟩
      · rw [if_neg q2]; decide
    refine hh_f hb ?_
    rw [a2]
    refine hh_be hby ?_
    dsimp only
    have hr : rn (fun i => decide (T i = 32)) n (e + j) = e + j := rn_n (fun x => q ⟨x.1, of_decide_eq_true x.2⟩)
    rw [hr] at a3
    rw [← a3]
    exact hh_map (m_tok hn hT a1 a4 a2 h13') (fun w2 h2 => ⟨h2.1, f0_t a5 h2.2⟩)
theorem m_next2 (hn : n ≤ 120) (hT : ∀ i, i < n → isN (T i) 256) {s : Nat} {w : mm_S} (h : TM T n s w) : hh_c (sX4_next w) (fun w' => TM T n (nx T n s) w' ∧ f0 w w') :=
  m_nextE hn hT (fK_le h.1).2.1 h.2.1 h.2.2.2.2.1 h.2.2.2.2.2.2
end TL
