/-! ===== items: the reference's reading ===== -/
def FM (w w' : mm_S) : Prop := (∀ b, ¬ (b = 0 ∨ b = 16 ∨ b = 17) → w'.1 b = w.1 b) ∧ ∀ j, ¬ (19 ≤ j ∧ j ≤ 30) → w'.1 0 j = w.1 0 j
theorem FM_0 (w : mm_S) : FM w w := ⟨fun _ _ => rfl, fun _ _ => rfl⟩
theorem FM_t {w w' w'' : mm_S} (h : FM w w') (h2 : FM w' w'') : FM w w'' := ⟨fun b hb => (h2.1 b hb).trans (h.1 b hb), fun b hb => (h2.2 b hb).trans (h.2 b hb)⟩
theorem FM_f {w w' : mm_S} (h : f0 w w') : FM w w' := ⟨fun b hb => h.1 b (by omega), fun j hj => h.2 j (by omega)⟩
theorem FM_u (w : mm_S) {j : Nat} (hj : 19 ≤ j ∧ j ≤ 30) (v : Int32) : FM w (mm_ui w.1 0 j v, w.2) := ⟨fun b hb => by show mm_ui w.1 0 j v b = w.1 b; rw [ru_n _ _ (show b ≠ 0 by omega)], fun i hi => by show mm_ui w.1 0 j v 0 i = w.1 0 i; rw [ru_i _ _ (show i ≠ j by omega)]⟩
/-- nothing is wrong yet: token, counts -/
def GS (T : Nat → Int32) (n : Nat) (w0 : mm_S) (m a b c s : Nat) (w : mm_S) : Prop := TM T n s w ∧ w.1 0 23 = 0 ∧ w.1 0 27 = nI m ∧ w.1 0 28 = nI a ∧ w.1 0 29 = nI b ∧ w.1 0 30 = nI c ∧ w.1 16 = w0.1 16 ∧ w.1 17 = w0.1 17 ∧ FM w0 w
/-- something was wrong -/
def WS (w0 : mm_S) (p m c : Nat) (w : mm_S) : Prop := w.1 0 23 = 1 ∧ w.1 0 19 = nI p ∧ w.1 0 27 = nI m ∧ w.1 0 30 = nI c ∧ FM w0 w
section MI
variable {T : Nat → Int32} {n : Nat} {w0 : mm_S}
theorem must_W {w : mm_S} (h : w.1 0 23 = 1) (x : Int32) : sX4_must x w = some (mm_ui w.1 0 23 1, w.2) := by
  have h10 : ¬ (1 : Int32) = 0 := by decide
  unfold sX4_must sX4_must_0 sX4_must_20 sX4_must_31
  dsimp only
  rw [if_neg (show ¬ w.1 0 23 = 0 by rw [h]; exact h10), if_neg (show ¬ mm_ui w.1 0 23 1 0 23 = 0 by rw [ru_s]; exact h10)]
theorem must_0 {w : mm_S} (h : w.1 0 23 = 0) : sX4_must 0 w = some (mm_ui w.1 0 23 1, w.2) := by
  have h10 : ¬ (1 : Int32) = 0 := by decide
  unfold sX4_must sX4_must_0 sX4_must_20 sX4_must_31
  dsimp only
  rw [if_pos h, if_pos (show (0 : Int32) = 0 from rfl), if_neg (show ¬ mm_ui w.1 0 23 1 0 23 = 0 by rw [ru_s]; exact h10)]
theorem TM_u {s : Nat} {w : mm_S} (h : TM T n s w) {j : Nat} (hj : j = 23 ∨ (27 ≤ j ∧ j ≤ 30)) (v : Int32) : TM T n s (mm_ui w.1 0 j v, w.2) := by
  obtain ⟨g0, g1, g2, g3, g4, g5, g6⟩ := h
  refine ⟨g0, ?_, ?_, ?_, ?_, fun t => ?_, fun i hi => ?_⟩
  · dsimp only; rw [ru_i _ _ (by omega)]; exact g1
  · dsimp only; rw [ru_i _ _ (by omega)]; exact g2
  · dsimp only; rw [ru_i _ _ (by omega)]; exact g3
  · dsimp only; rw [ru_i _ _ (by omega)]; exact g4
  · dsimp only; rw [ru_i _ _ (by omega)]; exact g5 t
  · dsimp only; rw [ru_n _ _ (by decide)]; exact g6 i hi
theorem must_1 (hn : n ≤ 120) (hT : ∀ i, i < n → isN (T i) 256) {s : Nat} {w : mm_S} (ht : TM T n s w) (h : w.1 0 23 = 0) : hh_c (sX4_must 1 w) (fun w' => TM T n (nx T n s) w' ∧ w'.1 0 23 = 0 ∧ (∀ b, b ≠ 0 → w'.1 b = w.1 b) ∧ ∀ j, ¬ (19 ≤ j ∧ j ≤ 23) → w'.1 0 j = w.1 0 j) := by
  have h10 : ¬ (1 : Int32) = 0 := by decide
  unfold sX4_must sX4_must_0 sX4_must_20 sX4_must_31
  dsimp only
  rw [if_pos h, if_neg h10, if_pos (show mm_ui w.1 0 23 0 0 23 = 0 by rw [ru_s])]
  refine hh_bd (m_next2 hn hT (TM_u ht (Or.inl rfl) 0)) (fun w' h' => hh_v ⟨h'.1, ?_, fun b hb => ?_, fun j hj => ?_⟩)
  · rw [h'.2.2 23 (by omega)]; dsimp only; rw [ru_s]
  · rw [h'.2.1 b hb]; dsimp only; rw [ru_n _ _ hb]
  · rw [h'.2.2 j (by omega)]; dsimp only; rw [ru_i _ _ (by omega)]
theorem W_u {p m c : Nat} {w : mm_S} (h : WS w0 p m c w) : WS w0 p m c (mm_ui w.1 0 23 1, w.2) := by
  obtain ⟨g1, g2, g3, g4, g5⟩ := h
  refine ⟨by dsimp only; rw [ru_s], ?_, ?_, ?_, FM_t g5 (FM_u w (by decide) _)⟩
  · dsimp only; rw [ru_i _ _ (by decide)]; exact g2
  · dsimp only; rw [ru_i _ _ (by decide)]; exact g3
  · dsimp only; rw [ru_i _ _ (by decide)]; exact g4
theorem G_W {m a b c s : Nat} {w : mm_S} (h : GS T n w0 m a b c s w) : WS w0 s m c (mm_ui w.1 0 23 1, w.2) := by
  obtain ⟨g0, g1, g2, g3, g4, g5, g6, g7, g8⟩ := h
  refine ⟨by dsimp only; rw [ru_s], ?_, ?_, ?_, FM_t g8 (FM_u w (by decide) _)⟩
  · dsimp only; rw [ru_i _ _ (by decide)]; exact g0.2.2.2.1
  · dsimp only; rw [ru_i _ _ (by decide)]; exact g2
  · dsimp only; rw [ru_i _ _ (by decide)]; exact g5
theorem W_must {p m c : Nat} {w : mm_S} (h : WS w0 p m c w) (x : Int32) : hh_c (sX4_must x w) (WS w0 p m c) := ⟨_, must_W h.1 x, W_u h⟩
theorem G_must0 {m a b c s : Nat} {w : mm_S} (h : GS T n w0 m a b c s w) : hh_c (sX4_must 0 w) (WS w0 s m c) := ⟨_, must_0 h.2.1, G_W h⟩
theorem G_must1 (hn : n ≤ 120) (hT : ∀ i, i < n → isN (T i) 256) {m a b c s : Nat} {w : mm_S} (h : GS T n w0 m a b c s w) : hh_c (sX4_must 1 w) (GS T n w0 m a b c (nx T n s)) := by
  obtain ⟨g0, g1, g2, g3, g4, g5, g6, g7, g8⟩ := h
  refine hh_w (must_1 hn hT g0 g1) (fun w' h' => ?_)
  obtain ⟨k0, k1, k2, k3⟩ := h'
  exact ⟨k0, k1, (k3 27 (by omega)).trans g2, (k3 28 (by omega)).trans g3, (k3 29 (by omega)).trans g4, (k3 30 (by omega)).trans g5, (k2 16 (by decide)).trans g6, (k2 17 (by decide)).trans g7, FM_t g8 ⟨fun b hb => k2 b (by omega), fun j hj => k3 j (by omega)⟩⟩
theorem G_u {m a b c s : Nat} {w : mm_S} (h : GS T n w0 m a b c s w) {j : Nat} (hj : 28 ≤ j ∧ j ≤ 30) (v : Nat) : GS T n w0 m (if j = 28 then v else a) (if j = 29 then v else b) (if j = 30 then v else c) s (mm_ui w.1 0 j (nI v), w.2) := by
  obtain ⟨g0, g1, g2, g3, g4, g5, g6, g7, g8⟩ := h
  refine ⟨TM_u g0 (Or.inr (by omega)) _, ?_, ?_, ?_, ?_, ?_, ?_, ?_, FM_t g8 (FM_u w (by omega) _)⟩
  · dsimp only; rw [ru_i _ _ (by omega)]; exact g1
  · dsimp only; rw [ru_i _ _ (by omega)]; exact g2
  · dsimp only
    by_cases q : j = 28
    · rw [if_pos q, ← q, ru_s]
    · rw [if_neg q, ru_i _ _ (by omega)]; exact g3
  · dsimp only
    by_cases q : j = 29
    · rw [if_pos q, ← q, ru_s]
    · rw [if_neg q, ru_i _ _ (by omega)]; exact g4
  · dsimp only
    by_cases q : j = 30
    · rw [if_pos q, ← q, ru_s]
    · rw [if_neg q, ru_i _ _ (by omega)]; exact g5
  · dsimp only; rw [ru_n _ _ (by decide)]; exact g6
  · dsimp only; rw [ru_n _ _ (by decide)]; exact g7
theorem W_u2 {p m c : Nat} {w : mm_S} (h : WS w0 p m c w) {j : Nat} (hj : j = 28 ∨ j = 29) (v : Int32) : WS w0 p m c (mm_ui w.1 0 j v, w.2) := by
  obtain ⟨g1, g2, g3, g4, g5⟩ := h
  refine ⟨?_, ?_, ?_, ?_, FM_t g5 (FM_u w (by omega) _)⟩
  · dsimp only; rw [ru_i _ _ (by omega)]; exact g1
  · dsimp only; rw [ru_i _ _ (by omega)]; exact g2
  · dsimp only; rw [ru_i _ _ (by omega)]; exact g3
  · dsimp only; rw [ru_i _ _ (by omega)]; exact g4
/-! numbers, words that may be -/
theorem W_num {p m c : Nat} {w : mm_S} (h : WS w0 p m c w) (x y : Int32) : hh_c (sX4_number x y w) (fun q => WS w0 p m c q.2) := by
  unfold sX4_number sX4_number_0 sX4_number_31
  refine hh_i (fun _ => hh_i (fun _ => ?_) (fun _ => ?_)) (fun _ => ?_)
  all_goals exact hh_bd (W_must h _) (fun w' h' => hh_v h')
theorem m_isNum {s : Nat} {w : mm_S} (h : TM T n s w) {lo hi : Nat} (hlo : lo < 1001) (hhi : hi < 100) (hk : kK T n s = 2) : pX4_within (w.1 0 22) (nI lo) (nI hi) = 0 ↔ ¬ (lo ≤ vK T n s ∧ vK T n s ≤ hi) := by
  have hv : vK T n s ≤ 1000 := vF_le s _
  unfold pX4_within
  rw [h.2.2.2.2.2.1 hk]
  have e1 : nI (vK T n s) < nI lo ↔ vK T n s < lo := nI_ltI (by omega) (by omega)
  have e2 : nI hi < nI (vK T n s) ↔ hi < vK T n s := nI_ltI (by omega) (by omega)
  by_cases c1 : vK T n s < lo
  · rw [if_pos (e1.mpr c1)]
    exact ⟨fun _ x => by have := x.1; omega, fun _ => rfl⟩
  · rw [if_neg (fun x => c1 (e1.mp x))]
    by_cases c2 : hi < vK T n s
    · rw [if_pos (e2.mpr c2)]
      exact ⟨fun _ x => by have := x.2; omega, fun _ => rfl⟩
    · rw [if_neg (fun x => c2 (e2.mp x))]
      exact ⟨fun x => absurd x (by decide), fun x => absurd ⟨by omega, by omega⟩ x⟩
theorem G_num (hn : n ≤ 120) (hT : ∀ i, i < n → isN (T i) 256) {m a b c s : Nat} {w : mm_S} (h : GS T n w0 m a b c s w) {lo hi : Nat} (hlo : lo < 1001) (hhi : hi < 100) (hB : numB T n s lo hi) : hh_c (sX4_number (nI lo) (nI hi) w) (fun q => q.1 = nI (vK T n s) ∧ GS T n w0 m a b c (nx T n s) q.2) := by
  have e : w.1 0 21 = 2 := by rw [h.1.2.2.1, hB.1]; rfl
  unfold sX4_number sX4_number_0 sX4_number_31
  refine hh_t e (hh_f (fun x => (m_isNum h.1 hlo hhi hB.1).mp x hB.2) (hh_bd (G_must1 hn hT h) (fun w' h' => hh_v ⟨h.1.2.2.2.2.2.1 hB.1, h'⟩)))
theorem G_numW {m a b c s : Nat} {w : mm_S} (h : GS T n w0 m a b c s w) {lo hi : Nat} (hlo : lo < 1001) (hhi : hi < 100) (hB : ¬ numB T n s lo hi) : hh_c (sX4_number (nI lo) (nI hi) w) (fun q => WS w0 s m c q.2) := by
  have hk := kK_le (T := T) (n := n) s
  have e : w.1 0 21 = 2 ↔ kK T n s = 2 := by
    rw [h.1.2.2.1]
    have := nI_eq (a := min 3 (kK T n s)) (b := 2) (by omega) (by decide)
    exact this.trans (by omega)
  unfold sX4_number sX4_number_0 sX4_number_31
  refine hh_i (fun x => hh_t ((m_isNum h.1 hlo hhi (e.mp x)).mpr fun y => hB ⟨e.mp x, y⟩) ?_) (fun _ => ?_)
  all_goals exact hh_bd (G_must0 h) (fun w' h' => hh_v h')
theorem W_isNext {p m c : Nat} {w : mm_S} (h : WS w0 p m c w) (x : Nat) : sX4_isNext x w = some (0, w) := by
  unfold sX4_isNext sX4_isNext_0 sX4_isNext_30
  rw [h.1, if_neg (by decide), if_pos rfl]
theorem G_isNext0 (hn : n ≤ 120) {m a b c s : Nat} {w : mm_S} (h : GS T n w0 m a b c s w) {x : Nat} (hx : x < 17) (hw : ¬ wdK T n s = x) : sX4_isNext x w = some (0, w) := by
  unfold sX4_isNext sX4_isNext_0 sX4_isNext_30
  rw [h.2.1, if_pos rfl, m_isWord hn h.1 hx]
  dsimp only [Option.bind]
  rw [if_neg hw, if_pos rfl, if_pos rfl]
theorem G_isNext1 (hn : n ≤ 120) (hT : ∀ i, i < n → isN (T i) 256) {m a b c s : Nat} {w : mm_S} (h : GS T n w0 m a b c s w) {x : Nat} (hx : x < 17) (hw : wdK T n s = x) : hh_c (sX4_isNext x w) (fun q => q.1 = 1 ∧ GS T n w0 m a b c (nx T n s) q.2) := by
  have h10 : ¬ (1 : Int32) = 0 := by decide
  unfold sX4_isNext sX4_isNext_0
  refine hh_t h.2.1 (hh_be (m_isWord hn h.1 hx) ?_)
  dsimp only
  rw [if_pos hw]
  refine hh_f h10 ?_
  unfold sX4_isNext_15 sX4_isNext_30
  exact hh_bd (G_must1 hn hT h) (fun w' h' => hh_f h10 (hh_t rfl (hh_v ⟨rfl, h'⟩)))
/-! an item noted -/
theorem m_item {m : Nat} (hm : m ≤ 110) {w : mm_S} (h : w.1 0 27 = nI m) (x1 x2 x3 x4 : Int32) : hh_c (sX4_item x1 x2 x3 x4 w) (fun w' => w'.1 0 27 = nI (m + 1) ∧ (∀ j, j ≠ 27 → w'.1 0 j = w.1 0 j) ∧ w'.1 16 (4 * m) = x1 ∧ w'.1 16 (4 * m + 1) = x2 ∧ w'.1 16 (4 * m + 2) = x3 ∧ w'.1 16 (4 * m + 3) = x4 ∧ (∀ i, i < 4 * m → w'.1 16 i = w.1 16 i) ∧ ∀ b, b ≠ 0 → b ≠ 16 → w'.1 b = w.1 b) := by
  have e0 : (4 : Int32) * nI m = nI (4 * m) := by rw [show (4 : Int32) = nI 4 from rfl, pk_mul]
  have e1 : nI (4 * m) + 1 = nI (4 * m + 1) := nI_1 _
  have e2 : nI (4 * m) + 2 = nI (4 * m + 2) := nI_add _ 2
  have e3 : nI (4 * m) + 3 = nI (4 * m + 3) := nI_add _ 3
  unfold sX4_item sX4_item_0
  rw [h, e0]
  refine hh_f (gI (show 4 * m < 480 by omega) (by decide)) ?_
  unfold sX4_item_16
  rw [e1]
  refine hh_f (gI (show 4 * m + 1 < 480 by omega) (by decide)) ?_
  unfold sX4_item_26
  rw [e2]
  refine hh_f (gI (show 4 * m + 2 < 480 by omega) (by decide)) ?_
  unfold sX4_item_36
  rw [e3]
  refine hh_f (gI (show 4 * m + 3 < 480 by omega) (by decide)) ?_
  unfold sX4_item_47 sX4_item_57
  rw [nI_clamp (show 4 * m < 2 ^ 31 by omega), nI_clamp (show 4 * m + 1 < 2 ^ 31 by omega), nI_clamp (show 4 * m + 2 < 2 ^ 31 by omega), nI_clamp (show 4 * m + 3 < 2 ^ 31 by omega)]
  dsimp only
  refine hh_v ⟨?_, fun j hj => ?_, ?_, ?_, ?_, ?_, fun i hi => ?_, fun b hb hb2 => ?_⟩ <;> dsimp only
  · rw [ru_s, ru_n _ _ (by decide), ru_n _ _ (by decide), ru_n _ _ (by decide), ru_n _ _ (by decide), h, nI_1]
  · rw [ru_i _ _ hj, ru_n _ _ (by decide), ru_n _ _ (by decide), ru_n _ _ (by decide), ru_n _ _ (by decide)]
  · rw [ru_n _ _ (by decide), ru_i _ _ (by omega), ru_i _ _ (by omega), ru_i _ _ (by omega), ru_s]
  · rw [ru_n _ _ (by decide), ru_i _ _ (by omega), ru_i _ _ (by omega), ru_s]
  · rw [ru_n _ _ (by decide), ru_i _ _ (by omega), ru_s]
  · rw [ru_n _ _ (by decide), ru_s]
  · rw [ru_n _ _ (by decide), ru_i _ _ (by omega), ru_i _ _ (by omega), ru_i _ _ (by omega), ru_i _ _ (by omega)]
  · rw [ru_n _ _ hb, ru_n _ _ hb2, ru_n _ _ hb2, ru_n _ _ hb2, ru_n _ _ hb2]
theorem W_item {p m c : Nat} (hm : m ≤ 110) {w : mm_S} (h : WS w0 p m c w) (x1 x2 x3 x4 : Int32) : hh_c (sX4_item x1 x2 x3 x4 w) (WS w0 p (m + 1) c) := by
  obtain ⟨g1, g2, g3, g4, g5⟩ := h
  refine hh_w (m_item hm g3 x1 x2 x3 x4) (fun w' k => ?_)
  exact ⟨(k.2.1 23 (by decide)).trans g1, (k.2.1 19 (by decide)).trans g2, k.1, (k.2.1 30 (by decide)).trans g4, FM_t g5 ⟨fun b hb => k.2.2.2.2.2.2.2 b (by omega) (by omega), fun j hj => k.2.1 j (by omega)⟩⟩
/-- what a reading leaves -/
def mqR (T : Nat → Int32) (n : Nat) (w0 : mm_S) (r : Nat → Int32) (m : Nat) (res : Nat ⊕ ((Nat × Nat × Nat × Nat) × Nat)) (w : mm_S) : Prop := match res with
  | .inl p => w.1 0 23 = 1 ∧ w.1 0 19 = nI p ∧ FM w0 w
  | .inr (it, s') => TM T n s' w ∧ w.1 0 23 = 0 ∧ w.1 0 27 = nI (m + 1) ∧ w.1 0 28 = nI (nC (apI r it)) ∧ w.1 0 29 = nI (nB (apI r it)) ∧ w.1 0 30 = nI (nU (apI r it)) ∧ (∀ i, i < nU (apI r it) → w.1 17 i = nI (uns (apI r it) i)) ∧ w.1 16 (4 * m) = nI it.1 ∧ w.1 16 (4 * m + 1) = nI it.2.1 ∧ w.1 16 (4 * m + 2) = nI it.2.2.1 ∧ w.1 16 (4 * m + 3) = nI it.2.2.2 ∧ (∀ i, i < 4 * m → w.1 16 i = w0.1 16 i) ∧ FM w0 w
theorem W_Q {r : Nat → Int32} {p m m2 c : Nat} {w : mm_S} (h : WS w0 p m c w) : mqR T n w0 r m2 (.inl p) w := ⟨h.1, h.2.1, h.2.2.2.2⟩
theorem G_item {r : Nat → Int32} {m a b c s : Nat} (hm : m ≤ 110) {w : mm_S} (h : GS T n w0 m a b c s w) {k x y z : Nat} (h1 : a = nC (apI r (k, x, y, z))) (h2 : b = nB (apI r (k, x, y, z))) (h3 : c = nU (apI r (k, x, y, z))) (h4 : ∀ i, i < nU (apI r (k, x, y, z)) → w0.1 17 i = nI (uns (apI r (k, x, y, z)) i)) : hh_c (sX4_item (nI k) (nI x) (nI y) (nI z) w) (mqR T n w0 r m (.inr ((k, x, y, z), s))) := by
  obtain ⟨g0, g1, g2, g3, g4, g5, g6, g7, g8⟩ := h
  refine hh_w (m_item hm g2 _ _ _ _) (fun w' q => ?_)
  obtain ⟨q1, q2, q3, q4, q5, q6, q7, q8⟩ := q
  obtain ⟨t0, t1, t2, t3, t4, t5, t6⟩ := g0
  refine ⟨⟨t0, (q2 18 (by decide)).trans t1, (q2 21 (by decide)).trans t2, (q2 19 (by decide)).trans t3, (q2 20 (by decide)).trans t4, fun e => (q2 22 (by decide)).trans (t5 e), fun i hi => by rw [q8 13 (by decide) (by decide)]; exact t6 i hi⟩, (q2 23 (by decide)).trans g1, q1, by rw [q2 28 (by decide), g3, h1], by rw [q2 29 (by decide), g4, h2], by rw [q2 30 (by decide), g5, h3], fun i hi => by rw [q8 17 (by decide) (by decide), g7]; exact h4 i hi, q3, q4, q5, q6, fun i hi => by rw [q7 i hi, g6], FM_t g8 ⟨fun b hb => q8 b (by omega) (by omega), fun j hj => q2 j (by omega)⟩⟩
end MI
section NR
variable {r : Nat → Int32}
theorem n_C (h : nC r < 6) (k c f : Nat) : nC (addC r k c f) = nC r + 1 ∧ nB (addC r k c f) = nB r ∧ nU (addC r k c f) = nU r ∧ ∀ i, uns (addC r k c f) i = uns r i ∨ 4 ≤ i := by
  have e := fun j => addC_e r k c f j h
  refine ⟨?_, ?_, ?_, fun i => ?_⟩
  · unfold nC; rw [e, if_pos rfl]; exact gN_N (show gN (r 1) + 1 < 2 ^ 31 by unfold nC at h; omega)
  · unfold nB; rw [e, if_neg (by decide), if_neg (by omega), if_neg (by omega), if_neg (by omega)]
  · unfold nU; rw [e, if_neg (by decide), if_neg (by omega), if_neg (by omega), if_neg (by omega)]
  · by_cases q : 4 ≤ i
    · exact Or.inr q
    · left
      unfold uns
      rw [e, if_neg (by omega), if_neg (by omega), if_neg (by omega), if_neg (by omega)]
theorem n_B (h : nB r < 8) (k c f : Nat) : nC (addB r k c f) = nC r ∧ nB (addB r k c f) = nB r + 1 ∧ nU (addB r k c f) = nU r ∧ ∀ i, uns (addB r k c f) i = uns r i ∨ 4 ≤ i := by
  have e := fun j => addB_e r k c f j h
  refine ⟨?_, ?_, ?_, fun i => ?_⟩
  · unfold nC; rw [e, if_neg (by decide), if_neg (by omega), if_neg (by omega), if_neg (by omega)]
  · unfold nB; rw [e, if_pos rfl]; exact gN_N (show gN (r 2) + 1 < 2 ^ 31 by unfold nB at h; omega)
  · unfold nU; rw [e, if_neg (by decide), if_neg (by omega), if_neg (by omega), if_neg (by omega)]
  · by_cases q : 4 ≤ i
    · exact Or.inr q
    · left
      unfold uns
      rw [e, if_neg (by omega), if_neg (by omega), if_neg (by omega), if_neg (by omega)]
theorem n_U (h : nU r < 4) {c : Nat} (hc : c < 36) : nC (addU r c) = nC r ∧ nB (addU r c) = nB r ∧ nU (addU r c) = nU r + 1 ∧ ∀ i, uns (addU r c) i = if i = nU r then c else uns r i := by
  have e := fun j => addU_e r c j
  refine ⟨?_, ?_, ?_, fun i => ?_⟩
  · unfold nC; rw [e, if_neg (by decide), if_neg (by omega)]
  · unfold nB; rw [e, if_neg (by decide), if_neg (by omega)]
  · unfold nU; rw [e, if_pos rfl]; exact gN_N (show gN (r 3) + 1 < 2 ^ 31 by unfold nU at h; omega)
  · unfold uns
    rw [e, if_neg (by omega)]
    by_cases q : i = nU r
    · rw [if_pos (by omega), if_pos q, gN_N (by omega)]
    · rw [if_neg (by omega), if_neg q]
theorem n_S (q a b : Nat) (hb : a + b ≤ 36) : nC (filR r q a b) = nC r ∧ nB (filR r q a b) = nB r ∧ nU (filR r q a b) = nU r ∧ ∀ i, uns (filR r q a b) i = uns r i := by
  have e := fun i hi => filR_o (r := r) q a b hb i hi
  refine ⟨?_, ?_, ?_, fun i => ?_⟩
  · unfold nC; rw [e 1 (by omega)]
  · unfold nB; rw [e 2 (by omega)]
  · unfold nU; rw [e 3 (by omega)]
  · unfold uns; rw [e _ (by omega)]
end NR
section MR
variable {T : Nat → Int32} {n : Nat} {r : Nat → Int32} {w0 : mm_S}
/-- the reference stands at an item -/
def PM (T : Nat → Int32) (n : Nat) (r : Nat → Int32) (m s : Nat) (w : mm_S) : Prop := TM T n s w ∧ w.1 0 23 = 0 ∧ w.1 0 27 = nI m ∧ w.1 0 28 = nI (nC r) ∧ w.1 0 29 = nI (nB r) ∧ w.1 0 30 = nI (nU r) ∧ ∀ i, i < nU r → w.1 17 i = nI (uns r i)
theorem P_G {m s : Nat} {w : mm_S} (h : PM T n r m s w) : GS T n w m (nC r) (nB r) (nU r) s w := ⟨h.1, h.2.1, h.2.2.1, h.2.2.2.1, h.2.2.2.2.1, h.2.2.2.2.2.1, rfl, rfl, FM_0 w⟩
noncomputable def stC (k cell : Int32) (w : mm_S) : Option mm_S := (sX4_isNext 15 w).bind fun q17 => if q17.1 = 0 then (sX4_item k cell 6 0 q17.2).bind fun q18 => (sX4_readItem_101 q18) else (sX4_number 1 20 q17.2).bind fun q19 => (sX4_item k cell q19.1 0 q19.2).bind fun q20 => (sX4_readItem_101 q20)
theorem st_70 (k : Int32) (w : mm_S) : sX4_readItem_70 k w = stC k 0 w := rfl
theorem st_60 (k : Int32) (w : mm_S) : sX4_readItem_60 k w = (sX4_number 0 35 w).bind fun q => stC k q.1 q.2 := rfl
theorem W_C {p m c : Nat} (hm : m ≤ 110) {w : mm_S} (h : WS w0 p m c w) (k cell : Int32) : hh_c (stC k cell w) (mqR T n w0 r m (.inl p)) := by
  unfold stC
  rw [W_isNext h 15]
  dsimp only [Option.bind]
  rw [if_pos rfl]
  unfold sX4_readItem_101 sX4_readItem_233
  exact hh_bd (W_item hm h k cell 6 0) (fun w' h' => hh_v (W_Q h'))
theorem W_50 {p m c : Nat} (hm : m ≤ 110) {w : mm_S} (h : WS w0 p m c w) (k : Int32) : hh_c (sX4_readItem_50 k w) (mqR T n w0 r m (.inl p)) := by
  unfold sX4_readItem_50
  rw [W_isNext h 14]
  dsimp only [Option.bind]
  rw [if_pos rfl, st_70]
  exact W_C hm h k 0
theorem G_C (hn : n ≤ 120) (hT : ∀ i, i < n → isN (T i) 256) {m s k cell : Nat} (hm : m ≤ 110) {w : mm_S} (hk : k < 7) (h6 : nC r < 6) (h : GS T n w0 m (nC r + 1) (nB r) (nU r) s w) (hu5 : nU r < 5) (hu : ∀ i, i < nU r → w0.1 17 i = nI (uns r i)) : hh_c (stC (nI k) (nI cell) w) (mqR T n w0 r m (pC2 T n k cell s)) := by
  have h10 : ¬ (1 : Int32) = 0 := by decide
  have itm : ∀ (f s : Nat) (w : mm_S), GS T n w0 m (nC r + 1) (nB r) (nU r) s w → hh_c (sX4_item (nI k) (nI cell) (nI f) (nI 0) w) (mqR T n w0 r m (.inr ((k, cell, f, 0), s))) := by
    intro f s w hg
    obtain ⟨c1, c2, c3, c4⟩ := n_C h6 k cell f
    refine G_item hm hg ?_ ?_ ?_ (fun i hi => ?_)
    · rw [ap_C (by omega)]; exact c1.symm
    · rw [ap_C (by omega)]; exact c2.symm
    · rw [ap_C (by omega)]; exact c3.symm
    · rw [ap_C (by omega)] at hi ⊢
      rw [c3] at hi
      rw [(c4 i).resolve_right (by omega)]
      exact hu i hi
  unfold stC pC2
  by_cases c1 : wdK T n s = 15
  · rw [if_pos c1]
    refine hh_bd (G_isNext1 hn hT h (by decide) c1) (fun q hq => ?_)
    obtain ⟨v, w1⟩ := q
    obtain ⟨rfl, g1⟩ := hq
    dsimp only at g1 ⊢
    rw [if_neg h10]
    by_cases c2 : numB T n (nx T n s) 1 20
    · rw [if_pos c2]
      refine hh_bd (G_num (lo := 1) (hi := 20) hn hT g1 (by decide) (by decide) c2) (fun q hq => ?_)
      obtain ⟨v, w2⟩ := q
      obtain ⟨rfl, g2⟩ := hq
      dsimp only at g2 ⊢
      unfold sX4_readItem_101 sX4_readItem_233
      exact hh_bd (itm _ _ w2 g2) (fun w' h' => hh_v h')
    · rw [if_neg c2]
      refine hh_bd (G_numW (lo := 1) (hi := 20) g1 (by decide) (by decide) c2) (fun q hq => ?_)
      unfold sX4_readItem_101 sX4_readItem_233
      exact hh_bd (W_item hm hq _ _ _ _) (fun w' h' => hh_v (W_Q h'))
  · rw [if_neg c1, G_isNext0 hn h (by decide) c1]
    dsimp only [Option.bind]
    rw [if_pos rfl]
    unfold sX4_readItem_101 sX4_readItem_233
    exact hh_bd (itm 6 s w h) (fun w' h' => hh_v h')
theorem G_50 (hn : n ≤ 120) (hT : ∀ i, i < n → isN (T i) 256) {m s k : Nat} (hm : m ≤ 110) {w : mm_S} (hk : k < 7) (h6 : nC r < 6) (h : GS T n w0 m (nC r + 1) (nB r) (nU r) s w) (hu5 : nU r < 5) (hu : ∀ i, i < nU r → w0.1 17 i = nI (uns r i)) : hh_c (sX4_readItem_50 (nI k) w) (mqR T n w0 r m (pC1 T n k s)) := by
  have h10 : ¬ (1 : Int32) = 0 := by decide
  unfold sX4_readItem_50 pC1
  by_cases c1 : wdK T n s = 14
  · rw [if_pos c1]
    refine hh_bd (G_isNext1 hn hT h (by decide) c1) (fun q hq => ?_)
    obtain ⟨v, w1⟩ := q
    obtain ⟨rfl, g1⟩ := hq
    dsimp only at g1 ⊢
    rw [if_neg h10, st_60]
    by_cases c2 : numB T n (nx T n s) 0 35
    · rw [if_pos c2]
      refine hh_bd (G_num (lo := 0) (hi := 35) hn hT g1 (by decide) (by decide) c2) (fun q hq => ?_)
      obtain ⟨v, w2⟩ := q
      obtain ⟨rfl, g2⟩ := hq
      exact G_C hn hT hm hk h6 g2 hu5 hu
    · rw [if_neg c2]
      exact hh_bd (G_numW (lo := 0) (hi := 35) g1 (by decide) (by decide) c2) (fun q hq => W_C hm hq _ _)
  · rw [if_neg c1, G_isNext0 hn h (by decide) c1]
    dsimp only [Option.bind]
    rw [if_pos rfl, st_70]
    exact G_C (cell := 0) hn hT hm hk h6 h hu5 hu
theorem W_121 {p m c : Nat} (hm : m ≤ 110) {w : mm_S} (h : WS w0 p m c w) (x y : Int32) : hh_c (sX4_readItem_121 x y w) (mqR T n w0 r m (.inl p)) := by
  unfold sX4_readItem_121
  rw [W_isNext h 16]
  dsimp only [Option.bind]
  rw [if_pos rfl]
  unfold sX4_readItem_152 sX4_readItem_233
  exact hh_bd (W_item hm h _ _ _ _) (fun w' h' => hh_v (W_Q h'))
theorem G_113 (hn : n ≤ 120) (hT : ∀ i, i < n → isN (T i) 256) {m s q : Nat} (hm : m ≤ 110) {w : mm_S} (hq : q < 5) (h : GS T n w0 m (nC r) (nB r) (nU r) s w) (hu : ∀ i, i < nU r → w0.1 17 i = nI (uns r i)) : hh_c (sX4_readItem_113 (nI q) w) (mqR T n w0 r m (pS1 T n q s)) := by
  have h10 : ¬ (1 : Int32) = 0 := by decide
  have e10 : (10 : Int32) + nI q = nI (10 + q) := nI_add 10 q
  have itm : ∀ (a b s : Nat) (w : mm_S), a ≤ b → b < 36 → GS T n w0 m (nC r) (nB r) (nU r) s w → hh_c (sX4_item (nI (10 + q)) (nI a) (nI b) (nI 0) w) (mqR T n w0 r m (.inr ((10 + q, a, b, 0), s))) := by
    intro a b s w hab hb hg
    obtain ⟨c1, c2, c3, c4⟩ := n_S (r := r) q a (b + 1 - a) (by omega)
    refine G_item hm hg ?_ ?_ ?_ (fun i hi => ?_)
    · rw [ap_S hq]; exact c1.symm
    · rw [ap_S hq]; exact c2.symm
    · rw [ap_S hq]; exact c3.symm
    · rw [ap_S hq] at hi ⊢
      rw [c3] at hi
      rw [c4 i]
      exact hu i hi
  unfold sX4_readItem_113 pS1
  by_cases c0 : numB T n s 0 35
  · rw [if_pos c0]
    refine hh_bd (G_num (lo := 0) (hi := 35) hn hT h (by decide) (by decide) c0) (fun x hx => ?_)
    obtain ⟨v, w1⟩ := x
    obtain ⟨rfl, g1⟩ := hx
    dsimp only at g1 ⊢
    have hv := c0.2.2
    unfold sX4_readItem_121 pS2
    by_cases c1 : wdK T n (nx T n s) = 16
    · rw [if_pos c1]
      refine hh_bd (G_isNext1 hn hT g1 (by decide) c1) (fun x hx => ?_)
      obtain ⟨v, w2⟩ := x
      obtain ⟨rfl, g2⟩ := hx
      dsimp only at g2 ⊢
      rw [if_neg h10, e10]
      by_cases c2 : numB T n (nx T n (nx T n s)) (vK T n s) 35
      · rw [if_pos c2]
        refine hh_bd (G_num (lo := vK T n s) (hi := 35) hn hT g2 (by omega) (by decide) c2) (fun x hx => ?_)
        obtain ⟨v, w3⟩ := x
        obtain ⟨rfl, g3⟩ := hx
        dsimp only at g3 ⊢
        unfold sX4_readItem_152 sX4_readItem_233
        exact hh_bd (itm _ _ _ w3 c2.2.1 (by have := c2.2.2; omega) g3) (fun w' h' => hh_v h')
      · rw [if_neg c2]
        refine hh_bd (G_numW (lo := vK T n s) (hi := 35) g2 (by omega) (by decide) c2) (fun x hx => ?_)
        unfold sX4_readItem_152 sX4_readItem_233
        exact hh_bd (W_item hm hx _ _ _ _) (fun w' h' => hh_v (W_Q h'))
    · rw [if_neg c1, G_isNext0 hn g1 (by decide) c1]
      dsimp only [Option.bind]
      rw [if_pos rfl, e10]
      unfold sX4_readItem_152 sX4_readItem_233
      exact hh_bd (itm _ _ _ w1 (Nat.le_refl _) (by omega) g1) (fun w' h' => hh_v h')
  · rw [if_neg c0]
    exact hh_bd (G_numW (lo := 0) (hi := 35) h (by decide) (by decide) c0) (fun x hx => W_121 hm hx _ _)
theorem W_210 {p m c : Nat} (hm : m ≤ 110) {w : mm_S} (h : WS w0 p m c w) (x y : Int32) : hh_c (sX4_readItem_210 x y w) (mqR T n w0 r m (.inl p)) := by
  unfold sX4_readItem_210 sX4_readItem_226 sX4_readItem_233
  exact hh_bd (W_num h _ _) (fun q hq => hh_bd (W_item hm hq _ _ _ _) (fun w' h' => hh_v (W_Q h')))
theorem W_201 {p m c : Nat} (hm : m ≤ 110) {w : mm_S} (h : WS w0 p m c w) (x : Int32) : hh_c (sX4_readItem_201 x w) (mqR T n w0 r m (.inl p)) := by
  unfold sX4_readItem_201
  exact hh_bd (W_num h _ _) (fun q hq => W_210 hm hq _ _)
theorem W_193 {p m c : Nat} (hm : m ≤ 110) {w : mm_S} (h : WS w0 p m c w) : hh_c (sX4_readItem_193 w) (mqR T n w0 r m (.inl p)) := by
  unfold sX4_readItem_193
  exact hh_bd (W_num h _ _) (fun q hq => W_201 hm hq _)
theorem G_193 (hn : n ≤ 120) (hT : ∀ i, i < n → isN (T i) 256) {m s : Nat} (hm : m ≤ 110) {w : mm_S} (h8 : nB r < 8) (h : GS T n w0 m (nC r) (nB r + 1) (nU r) s w) (hu5 : nU r < 5) (hu : ∀ i, i < nU r → w0.1 17 i = nI (uns r i)) : hh_c (sX4_readItem_193 w) (mqR T n w0 r m (pH1 T n s)) := by
  unfold sX4_readItem_193 pH1
  by_cases c0 : numB T n s 0 35
  · rw [if_pos c0]
    refine hh_bd (G_num (lo := 0) (hi := 35) hn hT h (by decide) (by decide) c0) (fun x hx => ?_)
    obtain ⟨v, w1⟩ := x
    obtain ⟨rfl, g1⟩ := hx
    dsimp only at g1 ⊢
    unfold sX4_readItem_201 pH2
    by_cases c1 : numB T n (nx T n s) 0 35
    · rw [if_pos c1]
      refine hh_bd (G_num (lo := 0) (hi := 35) hn hT g1 (by decide) (by decide) c1) (fun x hx => ?_)
      obtain ⟨v, w2⟩ := x
      obtain ⟨rfl, g2⟩ := hx
      dsimp only at g2 ⊢
      unfold sX4_readItem_210 pH3
      by_cases c2 : numB T n (nx T n (nx T n s)) 0 99
      · rw [if_pos c2]
        refine hh_bd (G_num (lo := 0) (hi := 99) hn hT g2 (by decide) (by decide) c2) (fun x hx => ?_)
        obtain ⟨v, w3⟩ := x
        obtain ⟨rfl, g3⟩ := hx
        dsimp only at g3 ⊢
        obtain ⟨d1, d2, d3, d4⟩ := n_B h8 (vK T n s) (vK T n (nx T n s)) (vK T n (nx T n (nx T n s)))
        unfold sX4_readItem_226 sX4_readItem_233
        refine hh_bd (G_item (k := 20) hm g3 ?_ ?_ ?_ (fun i hi => ?_)) (fun w' h' => hh_v h')
        · rw [ap_B]; exact d1.symm
        · rw [ap_B]; exact d2.symm
        · rw [ap_B]; exact d3.symm
        · rw [ap_B] at hi ⊢
          rw [d3] at hi
          rw [(d4 i).resolve_right (by omega)]
          exact hu i hi
      · rw [if_neg c2]
        refine hh_bd (G_numW (lo := 0) (hi := 99) g2 (by decide) (by decide) c2) (fun x hx => ?_)
        unfold sX4_readItem_226 sX4_readItem_233
        exact hh_bd (W_item hm hx _ _ _ _) (fun w' h' => hh_v (W_Q h'))
    · rw [if_neg c1]
      exact hh_bd (G_numW (lo := 0) (hi := 35) g1 (by decide) (by decide) c1) (fun x hx => W_210 hm hx _ _)
  · rw [if_neg c0]
    exact hh_bd (G_numW (lo := 0) (hi := 35) h (by decide) (by decide) c0) (fun x hx => W_201 hm hx _)
/-! unsure -/
theorem W_112 {p m c : Nat} {w : mm_S} (h : WS w0 p m c w) (v : Int32) : hh_c (sX4_readUnsure_112 v w) (WS w0 p m c) := by
  unfold sX4_readUnsure_112 sX4_readUnsure_148
  rw [h.1]
  exact hh_f (by decide) (hh_v h)
theorem W_55 {p m c : Nat} (hc : c ≤ 4) {w : mm_S} (h : WS w0 p m c w) (v : Int32) : hh_c (sX4_readUnsure_55 0 v 0 w) (WS w0 p m c) := by
  unfold sX4_readUnsure_55
  refine hh_up (fun j u => ∃ b : Int32, u = (b, v, nI j, w) ∧ j ≤ c) 4 (by decide) ⟨0, rfl, Nat.zero_le _⟩ ?_
  rintro j u hj ⟨b, rfl, hjc⟩
  have hle : nI c ≤ nI j ↔ c ≤ j := nI_leI (by omega) (by omega)
  have fin : ∀ x : Int32, hh_c ((sX4_must x w).bind fun q6 => ((sX4_readUnsure_112 v q6).map fun w => (Sum.inr w : (Int32 × Int32 × Int32 × mm_S) ⊕ mm_S))) (mm_mt (fun s' : Int32 × Int32 × Int32 × mm_S => j < 4 ∧ ∃ b : Int32, s' = (b, v, nI (j + 1), w) ∧ j + 1 ≤ c) (WS w0 p m c)) := fun x => hh_bd (W_must h x) (fun w' h' => hh_map (W_112 h' v) (fun a ha => ha))
  unfold lX4_readUnsure_55
  dsimp only
  rw [h.2.2.2.1]
  refine hh_i (fun _ => hh_i (fun _ => hh_i (fun _ => fin 0) (fun _ => hh_i (fun _ => fin 0) (fun _ => fin 1))) (fun _ => fin 0)) (fun y => ?_)
  have hj2 : j < c := Nat.lt_of_not_le fun x => y (hle.mpr x)
  refine hh_i (fun _ => hh_f (gI (show j < 4 by omega) (by decide)) (hh_i (fun _ => hh_v ?_) (fun _ => hh_v ?_))) (fun _ => hh_v ?_)
  · exact ⟨by omega, 1, by rw [nI_1], hj2⟩
  · exact ⟨by omega, 0, by rw [nI_1], hj2⟩
  · exact ⟨by omega, 1, by rw [nI_1], hj2⟩
theorem W_27 {p m c : Nat} (hc : c ≤ 4) {w : mm_S} (h : WS w0 p m c w) : hh_c (sX4_readUnsure_27 w) (WS w0 p m c) := by
  unfold sX4_readUnsure_27
  exact hh_i (fun _ => hh_i (fun _ => W_55 hc h _) (fun _ => W_55 hc h _)) (fun _ => W_55 hc h _)
theorem G_112 {m s v : Nat} (hm : m ≤ 110) {w : mm_S} (hr : okR r) (h4 : nU r < 4) (hv : v < 36) (h : GS T n w0 m (nC r) (nB r) (nU r) s w) (hu : ∀ i, i < nU r → w0.1 17 i = nI (uns r i)) : hh_c (sX4_readUnsure_112 (nI v) w) (mqR T n w0 r m (.inr ((21, v, 0, 0), s))) := by
  obtain ⟨d1, d2, d3, d4⟩ := n_U h4 hv
  obtain ⟨g0, g1, g2, g3, g4, g5, g6, g7, g8⟩ := h
  unfold sX4_readUnsure_112
  rw [g1, g5]
  refine hh_t rfl (hh_f (gI (show nU r < 4 from h4) (by decide)) ?_)
  rw [nI_clamp (by omega)]
  unfold sX4_readUnsure_129 sX4_readUnsure_139 sX4_readUnsure_148
  dsimp only
  have e0 : ∀ j, mm_ui w.1 17 (nU r) (nI v) 0 j = w.1 0 j := fun j => by rw [ru_n _ _ (show (0 : Nat) ≠ 17 by decide)]
  rw [e0, g5, nI_1]
  have hst : GS T n (mm_ui w.1 17 (nU r) (nI v), w.2) m (nC r) (nB r) (nU r + 1) s (mm_ui (mm_ui w.1 17 (nU r) (nI v)) 0 30 (nI (nU r + 1)), w.2) := by
    have hTM : TM T n s (mm_ui w.1 17 (nU r) (nI v), w.2) := by
      obtain ⟨t0, t1, t2, t3, t4, t5, t6⟩ := g0
      exact ⟨t0, (e0 _).trans t1, (e0 _).trans t2, (e0 _).trans t3, (e0 _).trans t4, fun e => (e0 _).trans (t5 e), fun i hi => by dsimp only; rw [ru_n _ _ (show (13 : Nat) ≠ 17 by decide)]; exact t6 i hi⟩
    have hg : GS T n (mm_ui w.1 17 (nU r) (nI v), w.2) m (nC r) (nB r) (nU r) s (mm_ui w.1 17 (nU r) (nI v), w.2) := ⟨hTM, (e0 _).trans g1, (e0 _).trans g2, (e0 _).trans g3, (e0 _).trans g4, (e0 _).trans g5, rfl, rfl, FM_0 _⟩
    exact G_u hg (j := 30) (by decide) (nU r + 1)
  have f1 : FM w0 (mm_ui w.1 17 (nU r) (nI v), w.2) := FM_t g8 ⟨fun b hb => ru_n _ _ (by omega), fun j _ => e0 j⟩
  refine hh_bd (G_item (r := r) (k := 21) (x := v) (y := 0) (z := 0) hm hst ?_ ?_ ?_ (fun i hi => ?_)) (fun w' h' => hh_v ?_)
  · rw [ap_U]; exact d1.symm
  · rw [ap_U]; exact d2.symm
  · rw [ap_U]; exact d3.symm
  · rw [ap_U] at hi ⊢
    rw [d3] at hi
    rw [d4 i]
    dsimp only
    by_cases q : i = nU r
    · rw [q, ru_s, if_pos rfl]
    · rw [ru_i _ _ q, if_neg q, g7]
      exact hu i (by omega)
  · obtain ⟨k1, k2, k3, k4, k5, k6, k7, k8, k9, k10, k11, k12, k13⟩ := h'
    refine ⟨k1, k2, k3, k4, k5, k6, k7, k8, k9, k10, k11, fun i hi => ?_, FM_t f1 k13⟩
    rw [k12 i hi]
    dsimp only
    rw [ru_n _ _ (show (16 : Nat) ≠ 17 by decide), g6]
theorem G_27 (hn : n ≤ 120) (hT : ∀ i, i < n → isN (T i) 256) {m s : Nat} (hm : m ≤ 110) {w : mm_S} (hr : okR r) (h4 : nU r < 4) (h : GS T n w0 m (nC r) (nB r) (nU r) s w) (hu : ∀ i, i < nU r → w0.1 17 i = nI (uns r i)) : hh_c (sX4_readUnsure_27 w) (mqR T n w0 r m (pU T n r s)) := by
  have hk := kK_le (T := T) (n := n) s
  have hvl : vK T n s ≤ 1000 := vF_le s _
  have h10 : ¬ (1 : Int32) = 0 := by decide
  have k2 : w.1 0 21 = 2 ↔ kK T n s = 2 := by
    rw [h.1.2.2.1]
    have := nI_eq (a := min 3 (kK T n s)) (b := 2) (by omega) (by decide)
    exact this.trans (by omega)
  -- from either value
  have key : ∀ (v : Int32), ((∃ q, v = nI q ∧ q ≤ 1000 ∧ q = vK T n s ∧ kK T n s = 2) ∨ (v = -1 ∧ ¬ kK T n s = 2)) → hh_c (sX4_readUnsure_55 0 v 0 w) (mqR T n w0 r m (pU T n r s)) := by
    intro v hv
    unfold sX4_readUnsure_55
    refine hh_up (fun j u => ∃ b : Int32, u = (b, v, nI j, w) ∧ j ≤ nU r ∧ (b = 0 ∨ b = 1) ∧ (b = 0 ↔ ∀ i, i < j → nI (uns r i) ≠ v)) 4 (by decide) ⟨0, rfl, Nat.zero_le _, Or.inl rfl, ⟨fun _ i hi => absurd hi (by omega), fun _ => rfl⟩⟩ ?_
    rintro j u hj ⟨b, rfl, hjc, hb, hbi⟩
    have hle : nI (nU r) ≤ nI j ↔ nU r ≤ j := nI_leI (by omega) (by omega)
    unfold lX4_readUnsure_55
    dsimp only
    rw [h.2.2.2.2.2.1]
    refine hh_i (fun y => ?_) (fun y => ?_)
    · have hjn : j = nU r := by have := hle.mp y; omega
      subst hjn
      -- where it is none
      have bad : ¬ (numB T n s 0 35 ∧ ∀ i, i < nU r → uns r i ≠ vK T n s) → hh_c ((sX4_must 0 w).bind fun q6 => ((sX4_readUnsure_112 v q6).map fun w => (Sum.inr w : (Int32 × Int32 × Int32 × mm_S) ⊕ mm_S))) (mm_mt (fun s' : Int32 × Int32 × Int32 × mm_S => nU r < 4 ∧ ∃ b : Int32, s' = (b, v, nI (nU r + 1), w) ∧ nU r + 1 ≤ nU r ∧ (b = 0 ∨ b = 1) ∧ (b = 0 ↔ ∀ i, i < nU r + 1 → nI (uns r i) ≠ v)) (mqR T n w0 r m (pU T n r s))) := by
        intro hno
        unfold pU
        rw [if_neg hno]
        exact hh_bd (G_must0 h) (fun w' h' => hh_map (W_112 h' v) (fun a ha => (W_Q ha : mqR T n w0 r m (.inl s) a)))
      rcases hv with ⟨q, rfl, hq, hqv, hk2⟩ | ⟨rfl, hk2⟩
      · have lt0 : ¬ nI q < 0 := nI_pos (by omega)
        have l36 : (36 : Int32) ≤ nI q ↔ 36 ≤ q := nI_leI (a := 36) (by decide) (by omega)
        have eqv : ∀ i, i < nU r → (nI (uns r i) ≠ nI q ↔ uns r i ≠ q) := fun i hi => by
          have := (ok_un hr (show i < 4 by omega)).2
          exact not_congr (nI_eq (by omega) (by omega))
        refine hh_i (fun y2 => hh_f lt0 (hh_i (fun y3 => bad ?_) (fun y3 => ?_))) (fun y2 => bad ?_)
        · intro x
          have := l36.mp y3
          have := x.1.2.2
          omega
        · have h36 : q < 36 := Nat.lt_of_not_le fun x => y3 (l36.mpr x)
          have hgood : numB T n s 0 35 ∧ ∀ i, i < nU r → uns r i ≠ vK T n s := ⟨⟨hk2, Nat.zero_le _, by omega⟩, fun i hi => by rw [← hqv]; exact (eqv i hi).mp (hbi.mp y2 i hi)⟩
          unfold pU
          rw [if_pos hgood, ← hqv]
          refine hh_bd (G_must1 hn hT h) (fun w' h' => hh_map (G_112 hm hr h4 h36 h' hu) (fun a ha => ha))
        · intro x
          exact y2 (hbi.mpr fun i hi => (eqv i hi).mpr (by rw [hqv]; exact x.2 i hi))
      · refine hh_i (fun y2 => hh_t (by decide) (bad fun x => hk2 x.1.1)) (fun y2 => bad fun x => hk2 x.1.1)
    · have hj2 : j < nU r := Nat.lt_of_not_le fun x => y (hle.mpr x)
      rcases hb with rfl | rfl
      · refine hh_t rfl (hh_f (gI (show j < 4 by omega) (by decide)) ?_)
        rw [nI_clamp (by omega), h.2.2.2.2.2.2.2.1, hu j hj2]
        refine hh_i (fun y2 => hh_v ⟨by omega, 1, by rw [nI_1], hj2, Or.inr rfl, ?_⟩) (fun y2 => hh_v ⟨by omega, 0, by rw [nI_1], hj2, Or.inl rfl, ?_⟩)
        · exact ⟨fun t => absurd t h10, fun t => absurd y2 (t j (by omega))⟩
        · refine ⟨fun _ i hi => ?_, fun _ => rfl⟩
          by_cases x : i = j
          · subst x; exact y2
          · exact hbi.mp rfl i (by omega)
      · refine hh_f h10 (hh_v ⟨by omega, 1, by rw [nI_1], hj2, Or.inr rfl, ?_⟩)
        exact ⟨fun t => absurd t h10, fun t => hbi.mpr fun i hi => t i (by omega)⟩
  unfold sX4_readUnsure_27
  rw [h.2.1]
  refine hh_t rfl (hh_i (fun y => key _ (Or.inl ⟨vK T n s, h.1.2.2.2.2.2.1 (k2.mp y), hvl, rfl, k2.mp y⟩)) (fun y => key _ (Or.inr ⟨rfl, fun x => y (k2.mpr x)⟩)))
theorem m_readItem (hn : n ≤ 120) (hT : ∀ i, i < n → isN (T i) 256) {m s : Nat} (hm : m ≤ 110) {w : mm_S} (hr : okR r) (h : PM T n r m s w) : hh_c (sX4_readItem w) (mqR T n w r m (pI T n r s)) := by
  have h10 : ¬ (1 : Int32) = 0 := by decide
  have hg := P_G h
  have hu := h.2.2.2.2.2.2
  have u5 := (ok_nU hr).2
  have c7 := (ok_nC hr).2
  have b9 := (ok_nB hr).2
  unfold sX4_readItem sX4_readItem_0 pI
  refine hh_be (m_kinds hn h.1) ?_
  unfold sX4_readItem_9
  refine hh_be (m_stuffs hn h.1) ?_
  dsimp only
  unfold sX4_readItem_18 kdI sdI
  by_cases c0 : wdK T n s < 7
  · rw [if_pos c0, if_pos c0]
    refine hh_f (nI_pos (by omega)) ?_
    rw [h.2.2.2.1]
    have l6 : (6 : Int32) ≤ nI (nC r) ↔ 6 ≤ nC r := nI_leI (a := 6) (by decide) (by omega)
    unfold sX4_readItem_40
    by_cases c1 : nC r < 6
    · rw [if_pos c1]
      refine hh_f (fun x => by have := l6.mp x; omega) ?_
      refine hh_bd (G_must1 hn hT hg) (fun w1 h1 => ?_)
      have e28 : w1.1 0 28 + 1 = nI (nC r + 1) := by rw [h1.2.2.2.1, nI_1]
      rw [e28]
      exact G_50 hn hT hm c0 c1 (G_u h1 (j := 28) (by decide) (nC r + 1)) u5 hu
    · rw [if_neg c1]
      refine hh_t (l6.mpr (by omega)) ?_
      exact hh_bd (G_must0 hg) (fun w1 h1 => W_50 hm (W_u2 h1 (Or.inl rfl) _) _)
  rw [if_neg c0, if_neg c0]
  refine hh_t (by decide) ?_
  by_cases c1 : wdK T n s < 12
  · rw [if_pos c1, if_pos (show 7 ≤ wdK T n s ∧ wdK T n s < 12 from ⟨by omega, c1⟩)]
    refine hh_f (nI_pos (by omega)) ?_
    exact hh_bd (G_must1 hn hT hg) (fun w1 h1 => G_113 hn hT hm (by omega) h1 hu)
  rw [if_neg c1, if_neg (show ¬ (7 ≤ wdK T n s ∧ wdK T n s < 12) from fun x => c1 x.2)]
  refine hh_t (by decide) ?_
  refine hh_be (m_isWord hn h.1 (w := 12) (by decide)) ?_
  dsimp only
  by_cases c2 : wdK T n s = 12
  · rw [if_pos c2, if_pos c2]
    refine hh_f h10 ?_
    unfold sX4_readItem_165 sX4_readItem_183
    rw [h.2.2.2.2.1]
    have l8 : (8 : Int32) ≤ nI (nB r) ↔ 8 ≤ nB r := nI_leI (a := 8) (by decide) (by omega)
    by_cases c3 : nB r < 8
    · rw [if_pos c3]
      refine hh_f (fun x => by have := l8.mp x; omega) ?_
      refine hh_bd (G_must1 hn hT hg) (fun w1 h1 => ?_)
      have e29 : w1.1 0 29 + 1 = nI (nB r + 1) := by rw [h1.2.2.2.2.1, nI_1]
      rw [e29]
      exact G_193 hn hT hm c3 (G_u h1 (j := 29) (by decide) (nB r + 1)) u5 hu
    · rw [if_neg c3]
      refine hh_t (l8.mpr (by omega)) ?_
      exact hh_bd (G_must0 hg) (fun w1 h1 => W_193 hm (W_u2 h1 (Or.inr rfl) _))
  rw [if_neg c2, if_neg c2]
  refine hh_t rfl ?_
  unfold sX4_readUnsure sX4_readUnsure_0 sX4_readItem_233
  refine hh_bd (P := mqR T n w r m (if wdK T n s = 13 then (if nU r < 4 then pU T n r (nx T n s) else .inl s) else .inl s)) (hh_be (m_isWord hn h.1 (w := 13) (by decide)) ?_) (fun w' h' => hh_v h')
  dsimp only
  by_cases c3 : wdK T n s = 13
  · rw [if_pos c3, if_pos c3]
    refine hh_f h10 ?_
    rw [h.2.2.2.2.2.1]
    have l4 : (4 : Int32) ≤ nI (nU r) ↔ 4 ≤ nU r := nI_leI (a := 4) (by decide) (by omega)
    by_cases c4 : nU r < 4
    · rw [if_pos c4]
      refine hh_f (fun x => by have := l4.mp x; omega) ?_
      exact hh_bd (G_must1 hn hT hg) (fun w1 h1 => G_27 hn hT hm hr c4 h1 hu)
    · rw [if_neg c4]
      refine hh_t (l4.mpr (by omega)) ?_
      exact hh_bd (G_must0 hg) (fun w1 h1 => hh_w (W_27 (by omega) h1) (fun a ha => W_Q ha))
  · rw [if_neg c3, if_neg c3]
    refine hh_t rfl ?_
    exact hh_bd (G_must0 hg) (fun w1 h1 => hh_w (W_27 (by omega) h1) (fun a ha => W_Q ha))
end MR
