/-! ===== times there and back ===== -/
section RV
variable {st : Nat → Nat}
theorem bE_pre {a b c : Nat} (hb : b < 36) (hc : c < 36) (had : ad c b) (h1 : st c ≠ 2) : ∀ x k, wk_W (tS st b) (bE st) x k → wk_W (tS st c) (bE st) x (pc (st c) + k) := by
  refine wk_ind (fun x k h => ?_) (fun x j y e _ ih he => ?_)
  · obtain ⟨_, rfl, rfl, h4⟩ := h
    have := wk_s (S := tS st c) (E := bE st) (wk_0 ⟨hc, rfl, rfl, h1⟩) (show bE st c x (pc (st c)) from ⟨had, h4, rfl⟩)
    rw [Nat.zero_add] at this
    exact this
  · have := wk_s ih he
    rw [Nat.add_assoc] at this
    exact this
theorem tE_pre {a b c : Nat} (hb : b < 36) (hc : c < 36) (had : ad c b) (h1 : st c ≠ 2) : ∀ x k, wk_W (tS st b) (tE st) x k → wk_W (tS st c) (tE st) x (pc (st b) + k) := by
  refine wk_ind (fun x k h => ?_) (fun x j y e _ ih he => ?_)
  · obtain ⟨_, rfl, rfl, h4⟩ := h
    have := wk_s (S := tS st c) (E := tE st) (wk_0 ⟨hc, rfl, rfl, h1⟩) (show tE st c x (pc (st x)) from ⟨had, h4, rfl⟩)
    rw [Nat.zero_add] at this
    exact this
  · have := wk_s ih he
    rw [Nat.add_assoc] at this
    exact this
theorem rv_1 {a : Nat} (ha : a < 36) : ∀ c k, wk_W (tS st a) (tE st) c k → c < 36 ∧ st c ≠ 2 ∧ wk_W (tS st c) (bE st) a k := by
  refine wk_ind (fun c k h => ?_) (fun b j c e _ ih he => ?_)
  · obtain ⟨_, rfl, rfl, h4⟩ := h
    exact ⟨ha, h4, wk_0 ⟨ha, rfl, rfl, h4⟩⟩
  · have hc := he.1.2.1
    have := bE_pre (a := a) ih.1 hc (ad_s he.1) he.2.1 a j ih.2.2
    rw [Nat.add_comm] at this
    rw [he.2.2]
    exact ⟨hc, he.2.1, this⟩
theorem rv_2 {c : Nat} (hc : c < 36) : ∀ a k, wk_W (tS st c) (bE st) a k → a < 36 ∧ st a ≠ 2 ∧ wk_W (tS st a) (tE st) c k := by
  refine wk_ind (fun a k h => ?_) (fun b j a e _ ih he => ?_)
  · obtain ⟨_, rfl, rfl, h4⟩ := h
    exact ⟨hc, h4, wk_0 ⟨hc, rfl, rfl, h4⟩⟩
  · have ha := he.1.2.1
    have := tE_pre (a := c) ih.1 ha (ad_s he.1) he.2.1 c j ih.2.2
    rw [Nat.add_comm] at this
    rw [he.2.2]
    exact ⟨ha, he.2.1, this⟩
theorem wk_dle2 {S S' : Nat → Nat → Prop} {E E' : Nat → Nat → Nat → Prop} {c c' : Nat} (h : ∀ k, wk_W S' E' c' k → wk_W S E c k) : wk_d S E c ≤ wk_d S' E' c' := by
  have h1 := wk_dle (S := S) (E := E) c
  rcases Nat.lt_or_ge (wk_d S' E' c') 10000 with q | q
  · exact wk_dm (h _ (wk_dW q))
  · omega
theorem td_bd {a c : Nat} (ha : a < 36) (hc : c < 36) : bd st c a = td st a c :=
  Nat.le_antisymm (wk_dle2 fun k hk => (rv_1 ha c k hk).2.2) (wk_dle2 fun k hk => (rv_2 hc a k hk).2.2)
end RV
/-! ===== asks: unlike times ===== -/
noncomputable def tmA (r : Nat → Int32) (k c m : Nat) : Nat := td (stf (layR r m)) (plc r k) c
def tix (t : Nat) : Nat := if t < 10000 then t + 1 else 0
def rix (t : Nat) : Nat := if t = 0 then 299 else t - 1
theorem tix_x (t : Nat) : tI t + 1 = nI (tix t) := by
  unfold tix
  by_cases h : t < 10000
  · rw [tI_1 h, if_pos h, nI_1]
  · rw [tI_2 h, if_neg h]; rfl
theorem tix_le {t : Nat} (h : t ≤ 216 ∨ t = 10000) : tix t ≤ 217 := by unfold tix; split <;> omega
theorem rix_t {t : Nat} (h : t ≤ 216 ∨ t = 10000) : min 299 t = rix (tix t) := by
  rcases h with h | h
  · have e : tix t = t + 1 := if_pos (by omega)
    rw [e]
    unfold rix
    rw [if_neg (by omega)]; omega
  · subst h; rfl
theorem rix_lt {t : Nat} (h : t < 256) : rix t < 300 := by unfold rix; split <;> omega
theorem rix_i {s t : Nat} (hs : s < 256) (ht : t < 256) (h : rix s = rix t) : s = t := by
  unfold rix at h
  split at h <;> split at h <;> omega
noncomputable def hitF (r : Nat → Int32) (k c : Nat) : Nat → Nat → Bool
  | 0 => fun _ => false
  | n + 1 => @ite _ (fitR (layR r n)) (Classical.propDecidable _) (fun t => if t = tix (tmA r k c n) then true else hitF r k c n t) (hitF r k c n)
theorem hitF_n {r : Nat → Int32} {k c : Nat} (n : Nat) (h : ¬ fitR (layR r n)) : hitF r k c (n + 1) = hitF r k c n := if_neg h
theorem hitF_y {r : Nat → Int32} {k c n : Nat} (h : fitR (layR r n)) : hitF r k c (n + 1) = fun t => if t = tix (tmA r k c n) then true else hitF r k c n t := if_pos h
noncomputable def dsF (r : Nat → Int32) (k c n : Nat) : Nat := fb_ct (hitF r k c n) 256
theorem dsF_n {r : Nat → Int32} {k c : Nat} (n : Nat) (h : ¬ fitR (layR r n)) : dsF r k c (n + 1) = dsF r k c n := by unfold dsF; rw [hitF_n n h]
theorem dsF_0 (r : Nat → Int32) (k c : Nat) : dsF r k c 0 = 0 := fb_ct_zero.mpr fun _ _ => rfl
theorem dsF_le (r : Nat → Int32) (k c n : Nat) : dsF r k c n ≤ 256 := fb_ct_le _ _
theorem dsF_y {r : Nat → Int32} {k c n : Nat} (h : fitR (layR r n)) (ht : tix (tmA r k c n) < 256) : dsF r k c (n + 1) = if hitF r k c n (tix (tmA r k c n)) = true then dsF r k c n else dsF r k c n + 1 := by
  have e := fb_ct_upd (hitF r k c n) true ht
  unfold dsF
  rw [hitF_y h]
  by_cases q : hitF r k c n (tix (tmA r k c n)) = true
  · rw [if_pos q]
    simp only [q, if_true] at e
    omega
  · rw [if_neg q]
    simp only [q, if_true, Bool.false_eq_true, if_false] at e
    omega
section UL
variable {r : Nat → Int32}
theorem m_unlike (hr : okR r) {k c : Nat} (hk : k < 6) (hc : c < 36) (hT : ∀ m, m < 5 ^ nU r → tmA r k c m ≤ 216 ∨ tmA r k c m = 10000) {w : mm_S} (hw : w.1 1 = r) :
    hh_c (sX4_unlike (nI k) (nI c) w) (fun q => q.1 = nI (dsF r k c (5 ^ nU r)) ∧ q.2.1 1 = r ∧ ∀ b, ¬ (b = 1 ∨ b = 5 ∨ b = 11) → q.2.1 b = w.1 b) := by
  have hn := ok_nU hr
  have hp := p5_le hr
  have hm := mapR_lt hr
  unfold sX4_unlike sX4_unlike_0
  refine hh_bd (m_mapNow hw hr) (fun q hq => ?_)
  subst hq
  unfold sX4_unlike_5 sX4_unlike_11
  dsimp only
  refine hh_up (fun j s => ∃ w' : mm_S, s = (nI k, nI c, nI (mapR r), 0, nI j, w') ∧ w'.1 1 = r ∧ (∀ i, i < j → w'.1 11 i = 0) ∧ ∀ b, ¬ (b = 1 ∨ b = 5 ∨ b = 11) → w'.1 b = w.1 b) 300 (by decide) ⟨w, rfl, hw, fun i hi => absurd hi (by omega), fun _ _ => rfl⟩ ?_
  rintro j s hj ⟨w', rfl, a1, a2, a3⟩
  have h300 : (300 : Int32) ≤ nI j ↔ 300 ≤ j := nI_leI (a := 300) (by decide) (by omega)
  unfold lX4_unlike_11 sX4_unlike_27
  dsimp only
  refine hh_i (fun y => ?_) (fun y => ?_)
  · have hj3 := h300.mp y
    refine hh_bd (m_nextFit (rd := r) a1 hr (like_0 hr) (a := 0) (Nat.zero_le _)) (fun q hq => ?_)
    obtain ⟨v, w2⟩ := q
    obtain ⟨b, rd', k1, k2, k3, k4, k5, k6⟩ := hq
    dsimp only at k2 k3 k6 ⊢
    subst k2
    unfold sX4_unlike_40
    refine hh_map (P := fun q : Int32 × mm_S => q.1 = nI (dsF r k c (5 ^ nU r)) ∧ q.2.1 1 = r ∧ ∀ b, ¬ (b = 1 ∨ b = 5 ∨ b = 11) → q.2.1 b = w.1 b) ?_ (fun a ha => ha)
    refine hh_ms (fun s => ∃ (b : Nat) (w' : mm_S), s = (nI k, nI c, nI (mapR r), nI (dsF r k c b), nI b, w') ∧ likeR r (w'.1 1) ∧ b ≤ 5 ^ nU r ∧ (b < 5 ^ nU r → fitR (layR r b) ∧ w'.1 1 = layR r b) ∧ (∀ t, t < 256 → w'.1 11 (rix t) = if hitF r k c b t = true then 1 else 0) ∧ ∀ b, ¬ (b = 1 ∨ b = 5 ∨ b = 11) → w'.1 b = w.1 b) (fun s => 625 - gN s.2.2.2.2.1) ⟨b, w2, ?_, by rw [k3]; exact k4, k1.2.1, fun t => ⟨k1.2.2.2 t, by rw [k3]; exact k5 t⟩, fun t ht => ?_, fun b hb => ?_⟩ (by dsimp only; omega) ?_
    · rw [fold_nx (F := dsF r k c) dsF_n k1, dsF_0]; rfl
    · rw [fold_nx (F := hitF r k c) hitF_n k1, k6 11 (by decide) (by decide), a2 _ (by have := rix_lt ht; omega)]; rfl
    · rw [k6 b (by omega) (by omega)]; exact a3 b hb
    clear k1 k3 k4 k5 k6 a1 a2 a3 y hj3
    rintro s ⟨b, wi, rfl, h1, h2, h3, h4, h5⟩
    have e3 : wi.1 1 3 = nI (nU r) := by rw [h1.2.1 3 (by omega)]; exact hn.1
    have hgb : gN (nI b) = b := nI_clamp (by omega)
    have hle : nI (5 ^ nU r) ≤ nI b ↔ 5 ^ nU r ≤ b := nI_leI (by omega) (by omega)
    unfold lX4_unlike_40
    dsimp only
    refine hh_bd (m_maps (r := r) e3 hn.2) (fun q hq => ?_)
    subst hq
    dsimp only
    refine hh_i (fun y => ?_) (fun y => ?_)
    · obtain rfl : b = 5 ^ nU r := by have := hle.mp y; omega
      refine hh_bd (m_lay rfl h1.1 (show mapR r < 625 by omega)) (fun w4 hw4 => ?_)
      obtain ⟨k1, k2⟩ := hw4
      rw [h1.2.2, layR_map hr] at k1
      unfold sX4_unlike_114
      exact hh_v ⟨rfl, k1, fun b hb => (k2 b (by omega)).trans (h5 b hb)⟩
    have hb : b < 5 ^ nU r := Nat.lt_of_not_le fun t => y (hle.mpr t)
    obtain ⟨hfit, hw1⟩ := h3 hb
    have hr2 := layR_ok hr b
    have hpl : nI (plc (layR r b) k) = nI (plc r k) := by rw [lay_plc hr]
    unfold sX4_unlike_49
    refine hh_be (m_place hw1 hr2 hk) ?_
    dsimp only
    rw [hpl]
    refine hh_bd (m_timeOf (ok_pl hr hk).2 hc (ok_ms hr2 hw1)) (fun q hq => ?_)
    obtain ⟨v, w3⟩ := q
    obtain ⟨rfl, j2⟩ := hq
    dsimp only at j2 ⊢
    have hT2 := hT b hb
    have hd : tmA r k c b ≤ 10000 := by omega
    have em : mm_min 299 (nI (tmA r k c b)) = nI (min 299 (tmA r k c b)) := by
      show (if nI _ < (299 : Int32) then nI _ else (299 : Int32)) = _
      by_cases t : tmA r k c b < 299
      · rw [if_pos (show nI _ < (299 : Int32) from nI_lt (b := 299) t (by decide)), Nat.min_eq_right (by omega)]
      · rw [if_neg (show ¬ nI _ < (299 : Int32) from nI_nlt (b := 299) (by omega) (by omega)), Nat.min_eq_left (by omega)]; rfl
    have htl := tix_le hT2
    have hrl := rix_lt (t := tix (tmA r k c b)) (by omega)
    have g3 := gI (show rix (tix (tmA r k c b)) < 300 by omega) (by decide)
    show hh_c (sX4_unlike_68 (nI k) (nI c) (nI (mapR r)) (nI (dsF r k c b)) (nI b) (mm_min 299 (nI (tmA r k c b))) w3) _
    rw [em, rix_t hT2]
    unfold sX4_unlike_68
    refine hh_f g3 ?_
    have e11 : w3.1 11 (Int32.toNatClampNeg (nI (rix (tix (tmA r k c b))))) = if hitF r k c b (tix (tmA r k c b)) = true then 1 else 0 := by
      rw [nI_clamp (by omega), j2 11 (by decide)]
      exact h4 _ (by omega)
    have fin : ∀ v, v = nI (dsF r k c (b + 1)) → hh_c (sX4_unlike_96 (nI k) (nI c) (nI (mapR r)) v (nI b) (mm_ui w3.1 11 (Int32.toNatClampNeg (nI (rix (tix (tmA r k c b))))) 1, w3.2)) (mm_mt (fun s' : Int32 × Int32 × Int32 × Int32 × Int32 × mm_S => (∃ (b : Nat) (w' : mm_S), s' = (nI k, nI c, nI (mapR r), nI (dsF r k c b), nI b, w') ∧ likeR r (w'.1 1) ∧ b ≤ 5 ^ nU r ∧ (b < 5 ^ nU r → fitR (layR r b) ∧ w'.1 1 = layR r b) ∧ (∀ t, t < 256 → w'.1 11 (rix t) = if hitF r k c b t = true then 1 else 0) ∧ ∀ b, ¬ (b = 1 ∨ b = 5 ∨ b = 11) → w'.1 b = w.1 b) ∧ 625 - gN s'.2.2.2.2.1 < 625 - gN (nI b)) (fun q : Int32 × mm_S => q.1 = nI (dsF r k c (5 ^ nU r)) ∧ q.2.1 1 = r ∧ ∀ b, ¬ (b = 1 ∨ b = 5 ∨ b = 11) → q.2.1 b = w.1 b)) := by
      rintro v rfl
      unfold sX4_unlike_96 sX4_unlike_106
      rw [nI_1, nI_clamp (show rix (tix (tmA r k c b)) < 2 ^ 31 by omega)]
      have nn : ∀ a, a ≠ 11 → mm_ui w3.1 11 (rix (tix (tmA r k c b))) 1 a = w3.1 a := fun a ha => ru_n _ _ ha
      refine hh_bd (m_nextFit (w := (mm_ui w3.1 11 (rix (tix (tmA r k c b))) 1, w3.2)) (rd := layR r b) ((nn 1 (by decide)).trans ((j2 1 (by decide)).trans hw1)) hr (like_l hr b) (a := b + 1) (by omega)) (fun q hq => ?_)
      obtain ⟨v, w5⟩ := q
      obtain ⟨b', rd', k1, k2, k3, k4, k5, k6⟩ := hq
      dsimp only at k2 k3 k6 ⊢
      subst k2
      have hb1 := k1.1
      have hb2 := k1.2.1
      refine hh_v ⟨⟨b', w5, ?_, by rw [k3]; exact k4, k1.2.1, fun t => ⟨k1.2.2.2 t, by rw [k3]; exact k5 t⟩, fun t ht => ?_, fun a ha => ?_⟩, ?_⟩
      · rw [fold_nx (F := dsF r k c) dsF_n k1]
      · rw [fold_nx (F := hitF r k c) hitF_n k1, k6 11 (by decide) (by decide), hitF_y hfit]
        by_cases x : t = tix (tmA r k c b)
        · rw [x, ru_s]; simp
        · rw [ru_i _ _ (fun e => x (rix_i ht (by omega) e)), j2 11 (by decide), h4 t ht]
          simp only [if_neg x]
      · rw [k6 a (by omega) (by omega), nn a (by omega), j2 a (by omega)]; exact h5 a ha
      · dsimp only
        rw [hgb, show gN (nI b') = b' from nI_clamp (by omega)]
        omega
    have hds := dsF_y (k := k) (c := c) hfit (show tix (tmA r k c b) < 256 by omega)
    rw [e11]
    by_cases x : hitF r k c b (tix (tmA r k c b)) = true
    · rw [if_pos x] at hds ⊢
      refine hh_f (by decide) (hh_f g3 ?_)
      rw [Int32.add_zero]
      exact fin _ (by rw [hds])
    · rw [if_neg x] at hds ⊢
      refine hh_t rfl (hh_f g3 ?_)
      rw [nI_1]
      exact fin _ (by rw [hds])
  have hj2 : j < 300 := Nat.lt_of_not_le fun t => y (h300.mpr t)
  refine hh_f (gI hj2 (by decide)) (hh_v ⟨hj2, (mm_ui w'.1 11 j 0, w'.2), by rw [nI_1, nI_clamp (by omega)], ?_, fun i hi => ?_, fun b hb => (ru_n _ _ (by omega)).trans (a3 b hb)⟩)
  · exact (congrFun (rfl : _ = mm_ui w'.1 11 j 0) 1).trans ((ru_n _ _ (by decide)).trans a1)
  · dsimp only
    by_cases t : i = j
    · rw [t, ru_s]
    · rw [ru_i _ _ t]; exact a2 i (by omega)
end UL
