/-! ===== words ===== -/
def wl (w : Nat) : Nat := mm_sl.getD w 0
theorem wl_le : ∀ w, w < 17 → 2 ≤ wl w ∧ wl w ≤ 6 := by decide +kernel
section WD
variable (T : Nat → Int32) (n : Nat)
def mt (s w : Nat) : Prop := kK T n s = 1 ∧ fK T n s = s + wl w ∧ ∀ i, i < wl w → T (s + i) = tx_ch w i
noncomputable def wdK (s : Nat) : Nat := @dite _ (∃ w, w < 17 ∧ mt T n s w) (Classical.propDecidable _) (fun h => Classical.choose h) (fun _ => 17)
end WD
theorem wd_tab : ∀ a, a < 17 → ∀ b, b < 17 → wl a = wl b → (∀ i, i < wl a → tx_ch a i = tx_ch b i) → a = b := by decide +kernel
section WL
variable {T : Nat → Int32} {n : Nat}
theorem wd_u {s a b : Nat} (ha : a < 17) (hb : b < 17) (h1 : mt T n s a) (h2 : mt T n s b) : a = b := by
  have e : wl a = wl b := by have := h1.2.1; have := h2.2.1; omega
  exact wd_tab a ha b hb e fun i hi => (h1.2.2 i hi).symm.trans (h2.2.2 i (by omega))
theorem wd_iff {s w : Nat} (hw : w < 17) : wdK T n s = w ↔ mt T n s w := by
  unfold wdK
  by_cases h : ∃ w, w < 17 ∧ mt T n s w
  · rw [dif_pos h]
    have hc := Classical.choose_spec h
    exact ⟨fun e => by rw [← e]; exact hc.2, fun e => wd_u hc.1 hw hc.2 e⟩
  · rw [dif_neg h]
    exact ⟨fun e => by omega, fun e => absurd ⟨w, hw, e⟩ h⟩
theorem wd_le (s : Nat) : wdK T n s ≤ 17 := by
  unfold wdK
  by_cases h : ∃ w, w < 17 ∧ mt T n s w
  · rw [dif_pos h]; exact Nat.le_of_lt (Classical.choose_spec h).1
  · rw [dif_neg h]; exact Nat.le_refl _
theorem wd_k {s : Nat} (h : wdK T n s < 17) : s < n := by
  have := (wd_iff h).mp rfl
  exact (kK_w.mp this.1).1
theorem tx_atN {w k : Nat} (z : mm_S) (hk : k < wl w) : tx_at w (nI k) z = some (tx_ch w k, z) := by
  have hw : wl w < 2 ^ 31 := by
    by_cases h : w < 17
    · have := (wl_le w h).2; omega
    · have : wl w = 0 := by
        unfold wl mm_sl
        rw [List.getD_eq_getElem?_getD, List.getElem?_eq_none (by simp only [List.length_cons, List.length_nil]; omega)]
        rfl
      omega
  unfold tx_at
  rw [if_neg (show ¬ (nI k < 0 ∨ mm_sl.getD w 0 ≤ Int32.toNatClampNeg (nI k)) from gI (L := wl w) hk hw), nI_clamp (by omega)]
theorem tx_lenN (w : Nat) : tx_len w = nI (wl w) := rfl
theorem x_isWord (hn : n ≤ 120) {s : Nat} {z : mm_S} (h : TX T n s z) {w : Nat} (hw : w < 17) : sX2_isWord w z = some (if wdK T n s = w then 1 else 0, z) := by
  obtain ⟨g0, g1, g2, g3, g4, g5, g6⟩ := h
  have hf := fK_le (T := T) g0
  have hwl := wl_le w hw
  have hk := kK_le (T := T) (n := n) s
  have k1 : nI (kK T n s) = 1 ↔ kK T n s = 1 := nI_eq (b := 1) (by omega) (by decide)
  have hh : hh_c (sX2_isWord w z) (fun q => q = (if wdK T n s = w then 1 else 0, z)) := by
    unfold sX2_isWord sX2_isWord_0
    rw [g2, g3, g4, tx_lenN, nI_dif hf.1]
    have l1 : nI (fK T n s - s) = nI (wl w) ↔ fK T n s - s = wl w := nI_eq (by omega) (by omega)
    refine hh_i (fun y => hh_i (fun y2 => ?_) (fun y2 => hh_v ?_)) (fun y => hh_v ?_)
    · have q1 := k1.mp y
      have q2 := l1.mp y2
      unfold sX2_isWord_28
      refine hh_up (fun k u => u = (w, nI k, z) ∧ k ≤ wl w ∧ ∀ i, i < k → T (s + i) = tx_ch w i) 6 (by decide) ⟨rfl, Nat.zero_le _, fun i hi => absurd hi (by omega)⟩ ?_
      rintro k u hk6 ⟨rfl, hkw, hm⟩
      have hle : nI (wl w) ≤ nI k ↔ wl w ≤ k := nI_leI (by omega) (by omega)
      unfold lX2_isWord_28
      dsimp only
      rw [tx_lenN]
      refine hh_i (fun y3 => hh_v ?_) (fun y3 => ?_)
      · have := hle.mp y3
        show _ = _
        rw [if_pos ((wd_iff hw).mpr ⟨q1, by omega, fun i hi => hm i (by omega)⟩)]
      have hk2 : k < wl w := Nat.lt_of_not_le fun x => y3 (hle.mpr x)
      refine hh_be (tx_atN z hk2) ?_
      dsimp only
      rw [g3, nI_add, x_byte g6 (show s + k < 120 by omega)]
      refine hh_i (fun y4 => hh_v ⟨by omega, by rw [nI_1], hk2, fun i hi => ?_⟩) (fun y4 => ?_)
      · by_cases x : i = k
        · rw [x]; exact y4
        · exact hm i (by omega)
      · unfold sX2_isWord_57
        refine hh_v ?_
        show _ = _
        rw [if_neg (fun e => y4 (((wd_iff hw).mp e).2.2 k hk2))]
    · rw [if_neg (fun e => y2 (l1.mpr (by have := ((wd_iff hw).mp e).2.1; omega)))]
    · rw [if_neg (fun e => y (k1.mpr ((wd_iff hw).mp e).1))]
  obtain ⟨q, hq, rfl⟩ := hh
  exact hq
theorem m_isWord (hn : n ≤ 120) {s : Nat} {v : mm_S} (h : TM T n s v) {w : Nat} (hw : w < 17) : sX4_isWord w v = some (if wdK T n s = w then 1 else 0, v) := by
  obtain ⟨g0, g1, g2, g3, g4, g5, g6⟩ := h
  have hf := fK_le (T := T) g0
  have hwl := wl_le w hw
  have hk := kK_le (T := T) (n := n) s
  have k1 : nI (min 3 (kK T n s)) = 1 ↔ min 3 (kK T n s) = 1 := nI_eq (b := 1) (by omega) (by decide)
  -- the loop, also where it is none from the first
  have lp : ∀ b : Int32, (b = 1 ∧ kK T n s = 1 ∧ fK T n s = s + wl w) ∨ (b = 0 ∧ ¬ mt T n s w) → hh_c (sX4_isWord_32 w b 0 v) (fun q => q = (if wdK T n s = w then 1 else 0, v)) := by
    intro b hb
    unfold sX4_isWord_32
    refine hh_up (fun k u => ∃ b : Int32, u = (w, b, nI k, v) ∧ k ≤ wl w ∧ ((b = 1 ∧ kK T n s = 1 ∧ fK T n s = s + wl w ∧ ∀ i, i < k → T (s + i) = tx_ch w i) ∨ (b = 0 ∧ ¬ mt T n s w))) 6 (by decide) ⟨b, rfl, Nat.zero_le _, hb.imp (fun x => ⟨x.1, x.2.1, x.2.2, fun i hi => absurd hi (by omega)⟩) id⟩ ?_
    rintro k u hk6 ⟨b, rfl, hkw, hb⟩
    have hle : nI (wl w) ≤ nI k ↔ wl w ≤ k := nI_leI (by omega) (by omega)
    have h10 : ¬ (1 : Int32) = 0 := by decide
    unfold lX4_isWord_32 sX4_isWord_63
    dsimp only
    rw [tx_lenN]
    rcases hb with ⟨rfl, q1, q2, hm⟩ | ⟨rfl, hno⟩
    · refine hh_i (fun y3 => hh_f h10 (hh_t rfl (hh_v ?_))) (fun y3 => hh_f h10 ?_)
      · have := hle.mp y3
        show _ = _
        rw [if_pos ((wd_iff hw).mpr ⟨q1, q2, fun i hi => hm i (by omega)⟩)]
      have hk2 : k < wl w := Nat.lt_of_not_le fun x => y3 (hle.mpr x)
      rw [g3, nI_add]
      refine hh_f (gI (show s + k < 120 by omega) (by decide)) ?_
      refine hh_be (tx_atN v hk2) ?_
      dsimp only
      rw [nI_clamp (by omega), g6 (s + k) (by omega)]
      refine hh_i (fun y4 => hh_v ⟨by omega, 1, by rw [nI_1], hk2, Or.inl ⟨rfl, q1, q2, fun i hi => ?_⟩⟩) (fun y4 => hh_v ⟨by omega, 0, by rw [nI_1], hk2, Or.inr ⟨rfl, fun e => y4 (e.2.2 k hk2)⟩⟩)
      by_cases x : i = k
      · rw [x]; exact y4
      · exact hm i (by omega)
    · have fin : mm_mt (fun s' : Nat × Int32 × Int32 × mm_S => k < 6 ∧ ∃ b : Int32, s' = (w, b, nI (k + 1), v) ∧ k + 1 ≤ wl w ∧ ((b = 1 ∧ kK T n s = 1 ∧ fK T n s = s + wl w ∧ ∀ i, i < k + 1 → T (s + i) = tx_ch w i) ∨ (b = 0 ∧ ¬ mt T n s w))) (fun q : Int32 × mm_S => q = (if wdK T n s = w then 1 else 0, v)) (Sum.inr (0, v)) := by
        show _ = _
        rw [if_neg (fun e => hno ((wd_iff hw).mp e))]
      exact hh_i (fun _ => hh_t rfl (hh_v fin)) (fun _ => hh_t rfl (hh_t rfl (hh_v fin)))
  have hh : hh_c (sX4_isWord w v) (fun q => q = (if wdK T n s = w then 1 else 0, v)) := by
    unfold sX4_isWord sX4_isWord_0
    rw [g2, g3, g4, tx_lenN, nI_dif hf.1]
    have l1 : nI (fK T n s - s) = nI (wl w) ↔ fK T n s - s = wl w := nI_eq (by omega) (by omega)
    refine hh_i (fun y => hh_i (fun y2 => lp 1 (Or.inl ⟨rfl, ?_, ?_⟩)) (fun y2 => lp 0 (Or.inr ⟨rfl, fun e => y2 (l1.mpr ?_)⟩))) (fun y => lp 0 (Or.inr ⟨rfl, fun e => y (k1.mpr ?_)⟩))
    · have := k1.mp y; omega
    · have := l1.mp y2; omega
    · have := e.2.1; omega
    · have := e.1; omega
  obtain ⟨q, hq, rfl⟩ := hh
  exact hq
def kdI (d : Nat) : Int32 := if d < 7 then nI d else -1
def sdI (d : Nat) : Int32 := if 7 ≤ d ∧ d < 12 then nI (d - 7) else -1
theorem x_kindTold (hn : n ≤ 120) {s : Nat} {z : mm_S} (h : TX T n s z) : sX2_kindTold z = some (kdI (wdK T n s), z) := by
  have h10 : ¬ (1 : Int32) = 0 := by decide
  unfold sX2_kindTold sX2_kindTold_0
  rw [x_isWord hn h (w := 0) (by decide)]
  dsimp only [Option.bind]
  by_cases c0 : wdK T n s = 0
  · rw [if_pos c0, if_neg h10, c0]; rfl
  rw [if_neg c0, if_pos rfl, x_isWord hn h (w := 1) (by decide)]
  dsimp only [Option.bind]
  by_cases c1 : wdK T n s = 1
  · rw [if_pos c1, if_neg h10, c1]; rfl
  rw [if_neg c1, if_pos rfl, x_isWord hn h (w := 2) (by decide)]
  dsimp only [Option.bind]
  by_cases c2 : wdK T n s = 2
  · rw [if_pos c2, if_neg h10, c2]; rfl
  rw [if_neg c2, if_pos rfl, x_isWord hn h (w := 3) (by decide)]
  dsimp only [Option.bind]
  by_cases c3 : wdK T n s = 3
  · rw [if_pos c3, if_neg h10, c3]; rfl
  rw [if_neg c3, if_pos rfl, x_isWord hn h (w := 4) (by decide)]
  dsimp only [Option.bind]
  by_cases c4 : wdK T n s = 4
  · rw [if_pos c4, if_neg h10, c4]; rfl
  rw [if_neg c4, if_pos rfl, x_isWord hn h (w := 5) (by decide)]
  dsimp only [Option.bind]
  by_cases c5 : wdK T n s = 5
  · rw [if_pos c5, if_neg h10, c5]; rfl
  rw [if_neg c5, if_pos rfl, x_isWord hn h (w := 6) (by decide)]
  dsimp only [Option.bind]
  by_cases c6 : wdK T n s = 6
  · rw [if_pos c6, if_neg h10, c6]; rfl
  rw [if_neg c6, if_pos rfl]
  unfold kdI
  rw [if_neg (by omega)]
theorem x_stuffTold (hn : n ≤ 120) {s : Nat} {z : mm_S} (h : TX T n s z) : sX2_stuffTold z = some (sdI (wdK T n s), z) := by
  have h10 : ¬ (1 : Int32) = 0 := by decide
  unfold sX2_stuffTold sX2_stuffTold_0
  rw [x_isWord hn h (w := 7) (by decide)]
  dsimp only [Option.bind]
  by_cases c0 : wdK T n s = 7
  · rw [if_pos c0, if_neg h10, c0]; rfl
  rw [if_neg c0, if_pos rfl, x_isWord hn h (w := 8) (by decide)]
  dsimp only [Option.bind]
  by_cases c1 : wdK T n s = 8
  · rw [if_pos c1, if_neg h10, c1]; rfl
  rw [if_neg c1, if_pos rfl, x_isWord hn h (w := 9) (by decide)]
  dsimp only [Option.bind]
  by_cases c2 : wdK T n s = 9
  · rw [if_pos c2, if_neg h10, c2]; rfl
  rw [if_neg c2, if_pos rfl, x_isWord hn h (w := 10) (by decide)]
  dsimp only [Option.bind]
  by_cases c3 : wdK T n s = 10
  · rw [if_pos c3, if_neg h10, c3]; rfl
  rw [if_neg c3, if_pos rfl, x_isWord hn h (w := 11) (by decide)]
  dsimp only [Option.bind]
  by_cases c4 : wdK T n s = 11
  · rw [if_pos c4, if_neg h10, c4]; rfl
  rw [if_neg c4, if_pos rfl]
  unfold sdI
  rw [if_neg (by omega)]
theorem m_kinds (hn : n ≤ 120) {s : Nat} {v : mm_S} (h : TM T n s v) : sX4_oneOf 14 v = some (kdI (wdK T n s), v) := by
  have h10 : ¬ (1 : Int32) = 0 := by decide
  have hh : hh_c (sX4_oneOf 14 v) (fun q => q = (kdI (wdK T n s), v)) := by
    unfold sX4_oneOf sX4_oneOf_0 sX4_oneOf_4
    refine hh_up (fun j u => u = (14, if wdK T n s < j then nI (wdK T n s) else -1, nI j, v)) 7 (by decide) rfl ?_
    rintro j u hj rfl
    have hle : nI 7 ≤ nI j ↔ 7 ≤ j := nI_leI (by decide) (by omega)
    unfold lX4_oneOf_4 sX4_oneOf_20
    dsimp only
    rw [show Int32.ofNat (lenM 14) = nI 7 from rfl]
    refine hh_i (fun y => hh_v ?_) (fun y => ?_)
    · obtain rfl : j = 7 := by have := hle.mp y; omega
      rfl
    have hj2 : j < 7 := Nat.lt_of_not_le fun x => y (hle.mpr x)
    refine hh_f (gI (show j < lenM 14 from hj2) (by decide)) ?_
    rw [nI_clamp (by omega), show snM 14 j = j from if_pos rfl]
    refine hh_be (m_isWord hn h (show j < 17 by omega)) ?_
    dsimp only
    by_cases c : wdK T n s = j
    · rw [if_pos c]
      refine hh_f h10 (hh_v ⟨hj2, ?_⟩)
      rw [nI_1, if_pos (by omega), c]
    · rw [if_neg c]
      refine hh_t rfl (hh_v ⟨hj2, ?_⟩)
      have : (wdK T n s < j ↔ wdK T n s < j + 1) := by omega
      rw [nI_1]
      simp only [this]
  obtain ⟨q, hq, rfl⟩ := hh
  exact hq
theorem m_stuffs (hn : n ≤ 120) {s : Nat} {v : mm_S} (h : TM T n s v) : sX4_oneOf 15 v = some (sdI (wdK T n s), v) := by
  have h10 : ¬ (1 : Int32) = 0 := by decide
  have hh : hh_c (sX4_oneOf 15 v) (fun q => q = (sdI (wdK T n s), v)) := by
    unfold sX4_oneOf sX4_oneOf_0 sX4_oneOf_4
    refine hh_up (fun j u => u = (15, if 7 ≤ wdK T n s ∧ wdK T n s < 7 + j then nI (wdK T n s - 7) else -1, nI j, v)) 5 (by decide) ?_ ?_
    · rw [if_neg (by omega)]; rfl
    rintro j u hj rfl
    have hle : nI 5 ≤ nI j ↔ 5 ≤ j := nI_leI (by decide) (by omega)
    unfold lX4_oneOf_4 sX4_oneOf_20
    dsimp only
    rw [show Int32.ofNat (lenM 15) = nI 5 from rfl]
    refine hh_i (fun y => hh_v ?_) (fun y => ?_)
    · obtain rfl : j = 5 := by have := hle.mp y; omega
      rfl
    have hj2 : j < 5 := Nat.lt_of_not_le fun x => y (hle.mpr x)
    refine hh_f (gI (show j < lenM 15 from hj2) (by decide)) ?_
    rw [nI_clamp (by omega), show snM 15 j = 7 + j from if_neg (by decide)]
    refine hh_be (m_isWord hn h (show 7 + j < 17 by omega)) ?_
    dsimp only
    by_cases c : wdK T n s = 7 + j
    · rw [if_pos c]
      refine hh_f h10 (hh_v ⟨hj2, ?_⟩)
      rw [nI_1, if_pos (by omega), c, show 7 + j - 7 = j by omega]
    · rw [if_neg c]
      refine hh_t rfl (hh_v ⟨hj2, ?_⟩)
      have : (7 ≤ wdK T n s ∧ wdK T n s < 7 + j ↔ 7 ≤ wdK T n s ∧ wdK T n s < 7 + (j + 1)) := by omega
      rw [nI_1]
      simp only [this]
  obtain ⟨q, hq, rfl⟩ := hh
  exact hq
end WL
