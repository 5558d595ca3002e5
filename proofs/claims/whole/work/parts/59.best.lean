/-! ===== which is best: kindFor, place ===== -/
def amx (f : Nat → Nat) : Nat → Nat × Nat
  | 0 => (0, 0)
  | n + 1 => if (amx f n).2 < f n + 1 then (n, f n + 1) else amx f n
theorem amx_y {f : Nat → Nat} {n : Nat} (h : (amx f n).2 < f n + 1) : amx f (n + 1) = (n, f n + 1) := if_pos h
theorem amx_n {f : Nat → Nat} {n : Nat} (h : ¬ (amx f n).2 < f n + 1) : amx f (n + 1) = amx f n := if_neg h
theorem amx_le {f : Nat → Nat} {b : Nat} (h : ∀ c, f c ≤ b) : ∀ n, (amx f n).2 ≤ b + 1
  | 0 => Nat.zero_le _
  | n + 1 => by
    have := amx_le h n
    have := h n
    by_cases q : (amx f n).2 < f n + 1
    · rw [amx_y q]; dsimp only; omega
    · rw [amx_n q]; omega
def mI (m : Nat) : Int32 := if m = 0 then -1 else nI (m - 1)
theorem mI_1 {m : Nat} (h : m ≠ 0) : mI m = nI (m - 1) := if_neg h
theorem mI_le {a m : Nat} (ha : a < 10000) (hm : m < 10000) : nI a ≤ mI m ↔ ¬ m < a + 1 := by
  by_cases h : m = 0
  · subst h
    refine ⟨fun q => ?_, fun q => absurd (Nat.succ_pos a) q⟩
    have : nI a ≤ -1 := q
    rw [Int32.le_iff_toInt_le, nI_toInt (by omega), show (-1 : Int32).toInt = -1 by decide] at this
    omega
  · rw [mI_1 h, nI_leI (by omega) (by omega)]
    omega
theorem mI_max {a m : Nat} (ha : a < 10000) (hm : m < 10000) : mm_max (mI m) (nI a) = if m < a + 1 then nI a else mI m := by
  unfold mm_max
  by_cases h : m = 0
  · subst h
    have l : mI 0 < nI a := by
      show (-1 : Int32) < nI a
      rw [Int32.lt_iff_toInt_lt, nI_toInt (by omega), show (-1 : Int32).toInt = -1 by decide]
      omega
    rw [if_pos l, if_pos (show 0 < a + 1 by omega)]
  · rw [mI_1 h]
    by_cases q : m < a + 1
    · rw [if_pos q]
      by_cases q2 : nI (m - 1) < nI a
      · rw [if_pos q2]
      · rw [if_neg q2]
        have : ¬ m - 1 < a := fun t => q2 (nI_lt t (by omega))
        congr 1; omega
    · rw [if_neg q, if_neg (nI_nlt (by omega) (by omega))]
theorem up_up (r : Nat → Int32) (i : Nat) (x y : Int32) : upd (upd r i x) i y = upd r i y := by
  funext j
  unfold upd
  by_cases h : j = i
  · rw [if_pos h, if_pos h]
  · rw [if_neg h, if_neg h, if_neg h]
theorem up_id (r : Nat → Int32) (i : Nat) : upd r i (r i) = r := by
  funext j
  unfold upd
  by_cases h : j = i
  · rw [if_pos h, h]
  · rw [if_neg h]
theorem ctS {x : Int64} (h : tb_S x) : fb_ct (tb x) 64 = fb_ct (tb x) 36 := by
  have := fb_ct_split (tb x) 36 28
  rw [show 36 + 28 = 64 from rfl] at this
  have z : fb_ct (fun k => tb x (36 + k)) 28 = 0 := fb_ct_zero.mpr fun k _ => h _ (by omega)
  rw [this, z, Nat.add_zero]
theorem td_cg {st st' : Nat → Nat} (h : ∀ c, c < 36 → st' c = st c) {a : Nat} (ha : a < 36) (c : Nat) : td st' a c = td st a c := by
  have e1 : tS st' a = tS st a := by
    funext c k
    unfold tS
    rw [h a ha]
  have e2 : tE st' = tE st := by
    funext b c e
    refine propext ⟨fun q => ?_, fun q => ?_⟩
    · have hc := q.1.2.1
      obtain ⟨q1, q2, q3⟩ := q
      rw [h c hc] at q2 q3
      exact ⟨q1, q2, q3⟩
    · have hc := q.1.2.1
      obtain ⟨q1, q2, q3⟩ := q
      rw [← h c hc] at q2 q3
      exact ⟨q1, q2, q3⟩
  unfold td
  rw [e1, e2]
/-! another kind, another cell -/
section RK
variable {r : Nat → Int32} {k f v : Nat}
theorem u_stf (hk : k < 6) (hf : f < 3) : ∀ c, c < 36 → stf (upd r (51 + 3 * k + f) (nI v)) c = stf r c := stf_o fun c hc => up_n _ _ (by omega)
theorem u_nC : nC (upd r (51 + 3 * k + f) (nI v)) = nC r := by unfold nC; rw [up_n _ _ (by omega)]
theorem u_kn (o : Nat) (hf : f < 3) (hv : v < 100) : knd (upd r (51 + 3 * k + f) (nI v)) o = if o = k ∧ f = 0 then v else knd r o := by
  unfold knd
  by_cases q : o = k ∧ f = 0
  · obtain ⟨rfl, rfl⟩ := q
    rw [if_pos ⟨rfl, rfl⟩, show 51 + 3 * o = 51 + 3 * o + 0 from rfl, up_s, gN_N (by omega)]
  · rw [if_neg q, up_n _ _ (by omega)]
theorem u_pl (o : Nat) (hf : f < 3) (hv : v < 100) : plc (upd r (51 + 3 * k + f) (nI v)) o = if o = k ∧ f = 1 then v else plc r o := by
  unfold plc
  by_cases q : o = k ∧ f = 1
  · obtain ⟨rfl, rfl⟩ := q
    rw [if_pos ⟨rfl, rfl⟩, show 52 + 3 * o = 51 + 3 * o + 1 by omega, up_s, gN_N (by omega)]
  · rw [if_neg q, up_n _ _ (by omega)]
theorem u_fc (o : Nat) (hf : f < 3) (hv : v < 100) : frc (upd r (51 + 3 * k + f) (nI v)) o = if o = k ∧ f = 2 then v else frc r o := by
  unfold frc
  by_cases q : o = k ∧ f = 2
  · obtain ⟨rfl, rfl⟩ := q
    rw [if_pos ⟨rfl, rfl⟩, show 53 + 3 * o = 51 + 3 * o + 2 by omega, up_s, gN_N (by omega)]
  · rw [if_neg q, up_n _ _ (by omega)]
end RK
/-- in how many cells crew k is heard, from c -/
noncomputable def plF (r : Nat → Int32) (k c : Nat) : Nat := fb_ct (fun i => decide (td (stf r) c i ≤ car (knd r k) (frc r k))) 36
theorem plF_le (r : Nat → Int32) (k c : Nat) : plF r k c ≤ 36 := fb_ct_le _ _
theorem pq_place {z w : mm_S} (h : Rel z w) (x1 : Int32) : PP (sX3_place x1 z) (sX4_place x1 w) := by
  obtain ⟨-, -, e3⟩ := r_nC h
  have o1 : (1 : Nat) = 1 ∨ (1 : Nat) = 13 ∨ (1 : Nat) = 25 := Or.inl rfl
  unfold sX3_place sX3_place_0 sX3_place_5 sX4_place sX4_place_0
  refine pp_if (x_isCrew h _) (m_isCrew h _) (fun _ => pp_b (pp_f0 h)) (fun hk => ?_)
  obtain ⟨k, hk, rfl⟩ := hk
  have hk6 : k < 6 := by omega
  have hr := h.1
  have hcl := car_le (k := knd (w.1 1) k) (ok_fc hr hk6).2
  have hP := plF_le (w.1 1) k
  refine pp_v h (a := nI (amx (plF (w.1 1) k) 36).1) ?_ ?_
  · unfold sX3_place_14 sX3_place_21
    refine hh_up (fun j s => ∃ z', s = (nI k, nI (amx (plF (w.1 1) k) j).1, mI (amx (plF (w.1 1) k) j).2, nI j, z') ∧ frR 2 z z') 36 (by decide) ⟨z, rfl, frR_0 _ _⟩ ?_
    rintro j s hj ⟨z', rfl, hf⟩
    have h36 : (36 : Int32) ≤ nI j ↔ 36 ≤ j := nI_leI (a := 36) (by decide) (by omega)
    have hm2 : RM 1 z' (w.1 1) := RM_k h.2.1 (fun b hb => hf.1 b (by omega)) (hf.2 3 (by omega) (by omega))
    unfold lX3_place_21
    dsimp only
    refine hh_i (fun q => hh_v ?_) (fun q => ?_)
    · obtain rfl : j = 36 := by have := h36.mp q; omega
      exact ⟨rfl, KX_R (Or.inl rfl) hf⟩
    have hj2 : j < 36 := Nat.lt_of_not_le fun y => q (h36.mpr y)
    rw [x_carriesOf o1 hm2 hr hk6]
    refine hh_bd (x_cellsWithin (Or.inl rfl) hj2 (by omega) hm2.2.2.2.2.2.2.2.2.2) (fun q2 h2 => ?_)
    obtain ⟨x, z2⟩ := q2
    obtain ⟨hS, hx, hf2⟩ := h2
    dsimp only at hS hx hf2
    have hf3 := frR_t hf hf2
    have ec : pJ13_bitCount_95d88 x = nI (plF (w.1 1) k j) := by
      rw [x_bits, ctS hS]
      congr 1
      refine fb_ct_cong fun i hi => ?_
      have := hx i hi
      cases e : tb x i
      · have : ¬ td (stf (w.1 1)) j i ≤ car (knd (w.1 1) k) (frc (w.1 1) k) := fun t => by rw [this.mpr t] at e; cases e
        rw [decide_eq_false this]
      · rw [decide_eq_true (this.mp e)]
    rw [ec]
    unfold sX3_place_53
    have hle := amx_le hP j
    have hPj := hP j
    have em := mI_le (a := plF (w.1 1) k j) (m := (amx (plF (w.1 1) k) j).2) (by omega) (by omega)
    refine hh_i (fun y => hh_v ⟨hj2, z2, ?_, hf3⟩) (fun y => hh_v ⟨hj2, z2, ?_, hf3⟩)
    · rw [amx_n (em.mp y), nI_1]
    · have y2 := Classical.byContradiction fun t => y (em.mpr t)
      rw [amx_y y2, nI_1]
      rfl
  · unfold sX4_place_15
    refine hh_be (m_place rfl hr hk6) ?_
    unfold sX4_place_22 sX4_place_30
    dsimp only
    have epl := ok_pl hr hk6
    have e51 : 52 + 3 * k = 51 + 3 * k + 1 := by omega
    refine hh_up (fun j s => ∃ w' x, s = (nI k, nI (plc (w.1 1) k), (if j = 0 then -1 else nI (amx (plF (w.1 1) k) j).1), mI (amx (plF (w.1 1) k) j).2, nI j, w') ∧ w'.1 1 = upd (w.1 1) (51 + 3 * k + 1) x ∧ ∀ b, b ≠ 1 → b ≠ 7 → w'.1 b = w.1 b) 36 (by decide) ⟨w, _, rfl, (up_id _ _).symm, fun _ _ _ => rfl⟩ ?_
    rintro j s hj ⟨w', x, rfl, hw1, hf⟩
    have h36 : (36 : Int32) ≤ nI j ↔ 36 ≤ j := nI_leI (a := 36) (by decide) (by omega)
    have hat : pX4_at (nI k) 1 = nI (51 + 3 * k + 1) := m_at (k := k) (f := 1)
    unfold lX4_place_30
    dsimp only
    rw [hat, nI_clamp (show 51 + 3 * k + 1 < 2 ^ 31 by omega)]
    have hg : ¬ (nI (51 + 3 * k + 1) < 0 ∨ 97 ≤ 51 + 3 * k + 1) := by
      rintro (q | q)
      · exact nI_pos (by omega) q
      · omega
    refine hh_i (fun q => hh_f hg (hh_map (P := fun v => v = _) ⟨_, rfl, rfl⟩ ?_)) (fun q => hh_f hg ?_)
    · rintro _ rfl
      obtain rfl : j = 36 := by have := h36.mp q; omega
      refine ⟨rfl, ⟨fun b hb => ?_, ?_, ?_⟩⟩
      · by_cases b1 : b = 1
        · subst b1
          dsimp only
          rw [ru_r, hw1, up_up, ← epl.1, e51, up_id]
        · dsimp only
          rw [ru_n _ _ b1]
          exact hf b b1 (by omega)
      · dsimp only
        rw [ru_n _ _ (by decide), hf 0 (by decide) (by decide)]
      · dsimp only
        rw [ru_n _ _ (by decide), hf 0 (by decide) (by decide)]
    have hj2 : j < 36 := Nat.lt_of_not_le fun y => q (h36.mpr y)
    have hok := okR_u hr hk6 (f := 1) (v := j) (Or.inr (Or.inl ⟨rfl, hj2⟩))
    have hw3 : (mm_ui w'.1 1 (51 + 3 * k + 1) (nI j), w'.2).1 1 = upd (w.1 1) (51 + 3 * k + 1) (nI j) := by
      show mm_ui w'.1 1 _ _ 1 = _
      rw [ru_r, hw1, up_up]
    unfold sX4_place_49
    refine hh_bd (m_reachOf hw3 hok hk6) (fun q2 h2 => ?_)
    refine hh_bd (m_bits q2.1 q2.2) (fun q3 h3 => ?_)
    subst h3
    have ec : fb_ct (tb q2.1) 64 = plF (w.1 1) k j := by
      rw [h2.1, ctS tb_lsS]
      refine fb_ct_cong fun i hi => ?_
      rw [tb_ls (by decide)]
      simp only [hi, decide_true, Bool.true_and]
      congr 1
      unfold hrd
      rw [u_pl k (by decide) (by omega), if_pos (show k = k ∧ 1 = 1 from ⟨rfl, rfl⟩), u_kn k (by decide) (by omega), if_neg (show ¬ (k = k ∧ 1 = 0) by omega), u_fc k (by decide) (by omega), if_neg (show ¬ (k = k ∧ 1 = 2) by omega), td_cg (u_stf hk6 (by decide)) hj2]
      have hs := sta_le (knd (w.1 1) k)
      by_cases t : td (stf (w.1 1)) j i ≤ car (knd (w.1 1) k) (frc (w.1 1) k)
      · rw [if_pos t]
        simp only [t]
        exact eq_true (by omega)
      · rw [if_neg t]
        simp only [t]
        exact eq_false (by omega)
    dsimp only
    rw [ec]
    have hf4 : ∀ b, b ≠ 1 → b ≠ 7 → q2.2.1 b = w.1 b := fun b b1 b7 => by
      rw [h2.2 b b7]
      show mm_ui w'.1 1 _ _ b = _
      rw [ru_n _ _ b1]
      exact hf b b1 b7
    have hw4 : q2.2.1 1 = upd (w.1 1) (51 + 3 * k + 1) (nI j) := by rw [h2.2 1 (by decide)]; exact hw3
    have hle := amx_le hP j
    have hPj := hP j
    have em := mI_le (a := plF (w.1 1) k j) (m := (amx (plF (w.1 1) k) j).2) (by omega) (by omega)
    have ex := mI_max (a := plF (w.1 1) k j) (m := (amx (plF (w.1 1) k) j).2) (by omega) (by omega)
    unfold sX4_place_59
    rw [ex]
    refine hh_i (fun y => hh_v ⟨hj2, q2.2, nI j, ?_, hw4, hf4⟩) (fun y => hh_v ⟨hj2, q2.2, nI j, ?_, hw4, hf4⟩)
    · have y2 := em.mp y
      have j0 : j ≠ 0 := fun t => by subst t; exact y2 (Nat.succ_pos _)
      rw [amx_n y2, nI_1, if_neg y2, if_neg j0, if_neg (by omega)]
    · have y2 := Classical.byContradiction fun t => y (em.mpr t)
      rw [amx_y y2, nI_1, if_pos y2, if_neg (by omega)]
      rfl
/-- how many others hear crew k, were it of a kind -/
noncomputable def kfP (r : Nat → Int32) (k v o : Nat) : Bool := decide (o ≠ k) && decide (td (stf r) (plc r k) (plc r o) ≤ car v (frc r k) ∧ td (stf r) (plc r k) (plc r o) + sta v + 1 ≤ heb (knd r o))
noncomputable def kfF (r : Nat → Int32) (k v : Nat) : Nat := fb_ct (kfP r k v) (nC r)
theorem x_hearersAs {z : mm_S} {r : Nat → Int32} (hm : RM 1 z r) (hr : okR r) {k v : Nat} (hk : k < 6) (hv : v < 7) (ht : ∀ c, c < 36 → z.1 43 c = tI (td (stf r) (plc r k) c)) : hh_c (sX3_hearersAs (nI k) (nI v) z) (fun q => q = (nI (kfF r k v), z)) := by
  have o1 : (1 : Nat) = 1 ∨ (1 : Nat) = 13 ∨ (1 : Nat) = 25 := Or.inl rfl
  have hn := ok_nC hr
  have hcl := car_le (k := v) (ok_fc hr hk).2
  unfold sX3_hearersAs sX3_hearersAs_0 sX3_hearersAs_13 sX3_hearersAs_19
  rw [x_forceOf o1 hm hr hk, x_car v hv _ (ok_fc hr hk).2]
  refine hh_up (fun j s => s = (nI k, nI v, nI (car v (frc r k)), nI (fb_ct (kfP r k v) j), nI j, z) ∧ j ≤ nC r) 6 (by decide) ⟨rfl, Nat.zero_le _⟩ ?_
  rintro j _ hj ⟨rfl, hjn⟩
  unfold lX3_hearersAs_19
  dsimp only
  rw [hm.2.1, hn.1]
  have hle : nI (nC r) ≤ nI j ↔ nC r ≤ j := nI_leI (by omega) (by omega)
  refine hh_i (fun q => hh_v ?_) (fun q => ?_)
  · obtain rfl : j = nC r := by have := hle.mp q; omega
    rfl
  have hj2 : j < nC r := Nat.lt_of_not_le fun y => q (hle.mpr y)
  have hj6 : j < 6 := by omega
  have hpl := (ok_pl hr hj6).2
  rw [x_placeOf o1 hm hr hj6, at_N _ (show plc r j < lenX 43 from hpl), ht _ hpl]
  have ej : nI j = nI k ↔ j = k := nI_eq (by omega) (by omega)
  have hd : td (stf r) (plc r k) (plc r j) ≤ 10000 := wk_dle _
  have hs := sta_le v
  have no : kfP r k v j = false → mm_mt (fun s' => j < 6 ∧ s' = (nI k, nI v, nI (car v (frc r k)), nI (fb_ct (kfP r k v) (j + 1)), nI (j + 1), z) ∧ j + 1 ≤ nC r) (fun q : Int32 × mm_S => q = (nI (kfF r k v), z)) (Sum.inl (nI k, nI v, nI (car v (frc r k)), nI (fb_ct (kfP r k v) j), nI j + 1, z)) := fun e => ⟨hj6, by rw [nI_1, fb_ct_succ, e]; rfl, hj2⟩
  unfold sX3_hearersAs_49
  generalize hdd : td (stf r) (plc r k) (plc r j) = d at *
  refine hh_i (fun y => ?_) (fun y => ?_)
  · have y2 := tI_m.mp y
    have e : kfP r k v j = false := by
      simp only [kfP, hdd, Bool.and_eq_false_iff, decide_eq_false_iff_not]
      right; omega
    exact hh_i (fun _ => hh_v (no e)) (fun _ => hh_v (no e))
  have d1 : d < 10000 := Classical.byContradiction fun t => y (tI_m.mpr t)
  rw [tI_1 d1]
  refine hh_i (fun y2 => ?_) (fun y2 => ?_)
  · have y3 := (nI_ltI (by omega) (by omega)).mp y2
    have e : kfP r k v j = false := by
      simp only [kfP, hdd, Bool.and_eq_false_iff, decide_eq_false_iff_not]
      right; omega
    exact hh_i (fun _ => hh_v (no e)) (fun _ => hh_v (no e))
  have y3 : d ≤ car v (frc r k) := Nat.le_of_not_lt fun t => y2 (nI_lt t (by omega))
  unfold sX3_hearersAs_77
  rw [x_kindOf o1 hm hr hj6, x_heb _ (ok_kn hr hj6).2, x_sta v hv, nI_add]
  have eh := heb_1 (k := knd r j) (d := d + sta v) (by omega)
  refine hh_i (fun y4 => ?_) (fun y4 => ?_)
  · have y5 := eh.mp y4
    have e : kfP r k v j = false := by
      simp only [kfP, hdd, Bool.and_eq_false_iff, decide_eq_false_iff_not]
      right; omega
    exact hh_i (fun _ => hh_v (no e)) (fun _ => hh_v (no e))
  have y5 : d + sta v + 1 ≤ heb (knd r j) := Classical.byContradiction fun t => y4 (eh.mpr t)
  refine hh_i (fun y6 => hh_v (no ?_)) (fun y6 => hh_v ?_)
  · simp [kfP, ej.mp y6]
  · have e : kfP r k v j = true := by
      simp only [kfP, hdd, Bool.and_eq_true, decide_eq_true_eq]
      exact ⟨fun t => y6 (ej.mpr t), y3, y5⟩
    refine ⟨hj6, ?_, hj2⟩
    rw [nI_1, nI_1, fb_ct_succ, e]
    rfl
theorem kfF_le (r : Nat → Int32) (k v : Nat) : kfF r k v ≤ nC r := fb_ct_le _ _
theorem m_heardBy {w w0 : mm_S} {r : Nat → Int32} (hr : okR r) {k v : Nat} (hk : k < 6) (hv : v < 7) (hw : w.1 1 = upd r (51 + 3 * k + 0) (nI v)) (h0 : ∀ b, b ≠ 1 → b ≠ 7 → w.1 b = w0.1 b) : hh_c (sX4_heardBy (nI k) w) (fun q => q.1 = nI (kfF r k v) ∧ q.2.1 1 = upd r (51 + 3 * k + 0) (nI v) ∧ ∀ b, b ≠ 1 → b ≠ 7 → q.2.1 b = w0.1 b) := by
  have hn := ok_nC hr
  have hok := okR_u hr hk (f := 0) (v := v) (Or.inl ⟨rfl, hv⟩)
  have en : upd r (51 + 3 * k + 0) (nI v) 1 = nI (nC r) := by rw [up_n _ _ (by omega)]; exact hn.1
  unfold sX4_heardBy sX4_heardBy_0 sX4_heardBy_4
  refine hh_up (fun j s => ∃ w', s = (nI k, nI (fb_ct (kfP r k v) j), nI j, w') ∧ j ≤ nC r ∧ w'.1 1 = upd r (51 + 3 * k + 0) (nI v) ∧ ∀ b, b ≠ 1 → b ≠ 7 → w'.1 b = w0.1 b) 6 (by decide) ⟨w, rfl, Nat.zero_le _, hw, h0⟩ ?_
  rintro j s hj ⟨w', rfl, hjn, hw', hf⟩
  unfold lX4_heardBy_4 sX4_heardBy_36
  dsimp only
  rw [hw', en]
  have hle : nI (nC r) ≤ nI j ↔ nC r ≤ j := nI_leI (by omega) (by omega)
  refine hh_i (fun q => hh_v ?_) (fun q => ?_)
  · obtain rfl : j = nC r := by have := hle.mp q; omega
    exact ⟨rfl, hw', hf⟩
  have hj2 : j < nC r := Nat.lt_of_not_le fun y => q (hle.mpr y)
  have hj6 : j < 6 := by omega
  have ej : nI j = nI k ↔ j = k := nI_eq (by omega) (by omega)
  have add0 : nI (fb_ct (kfP r k v) j) + 0 = nI (fb_ct (kfP r k v) j + 0) := nI_add _ 0
  refine hh_i (fun y => hh_v ⟨hj6, w', ?_, hj2, hw', hf⟩) (fun y => hh_bd (m_doesHear hw' hok hj6 hk) (fun q2 h2 => ?_))
  · rw [nI_1, add0, fb_ct_succ]
    simp [kfP, ej.mp y]
  obtain ⟨u, w2⟩ := q2
  obtain ⟨e1, hf2⟩ := h2
  dsimp only at e1 hf2
  have hjk : j ≠ k := fun t => y (ej.mpr t)
  have hw2 : w2.1 1 = upd r (51 + 3 * k + 0) (nI v) := by rw [hf2 1 (by decide)]; exact hw'
  have hf3 : ∀ b, b ≠ 1 → b ≠ 7 → w2.1 b = w0.1 b := fun b b1 b7 => (hf2 b b7).trans (hf b b1 b7)
  have hb := heb_le (knd r j)
  have eq : (hrd (upd r (51 + 3 * k + 0) (nI v)) k (plc (upd r (51 + 3 * k + 0) (nI v)) j) + 1 ≤ heb (knd (upd r (51 + 3 * k + 0) (nI v)) j)) ↔ kfP r k v j = true := by
    unfold hrd
    rw [u_pl j (by decide) (by omega), if_neg (show ¬ (j = k ∧ 0 = 1) by omega), u_pl k (by decide) (by omega), if_neg (show ¬ (k = k ∧ 0 = 1) by omega), u_kn k (by decide) (by omega), if_pos (show k = k ∧ 0 = 0 from ⟨rfl, rfl⟩), u_kn j (by decide) (by omega), if_neg (show ¬ (j = k ∧ 0 = 0) by omega), u_fc k (by decide) (by omega), if_neg (show ¬ (k = k ∧ 0 = 2) by omega), td_cg (u_stf hk (by decide)) (ok_pl hr hk).2]
    simp only [kfP, Bool.and_eq_true, decide_eq_true_eq]
    by_cases t : td (stf r) (plc r k) (plc r j) ≤ car v (frc r k)
    · rw [if_pos t]
      exact ⟨fun u => ⟨hjk, t, u⟩, fun u => u.2.2⟩
    · rw [if_neg t]
      exact ⟨fun u => by omega, fun u => absurd u.2.1 t⟩
  by_cases c : kfP r k v j = true
  · rw [if_pos (eq.mpr c)] at e1
    subst e1
    exact hh_f (show ¬ (1 : Int32) = 0 by decide) (hh_v ⟨hj6, w2, by rw [nI_1, nI_1, fb_ct_succ, c]; rfl, hj2, hw2, hf3⟩)
  · rw [if_neg (fun t => c (eq.mp t))] at e1
    subst e1
    have c2 : kfP r k v j = false := by simpa using c
    exact hh_t rfl (hh_v ⟨hj6, w2, by rw [nI_1, add0, fb_ct_succ, c2]; rfl, hj2, hw2, hf3⟩)
theorem pq_kindFor {z w : mm_S} (h : Rel z w) (x1 : Int32) : PP (sX3_kindFor x1 z) (sX4_kindFor x1 w) := by
  obtain ⟨-, -, e3⟩ := r_nC h
  have o1 : (1 : Nat) = 1 ∨ (1 : Nat) = 13 ∨ (1 : Nat) = 25 := Or.inl rfl
  unfold sX3_kindFor sX3_kindFor_0 sX3_kindFor_5 sX4_kindFor sX4_kindFor_0
  refine pp_if (x_isCrew h _) (m_isCrew h _) (fun _ => pp_b (pp_f0 h)) (fun hk => ?_)
  obtain ⟨k, hk, rfl⟩ := hk
  have hk6 : k < 6 := by omega
  have hr := h.1
  have hP : ∀ v, kfF (w.1 1) k v ≤ 6 := fun v => Nat.le_trans (kfF_le _ _ _) (by omega)
  refine pp_v h (a := nI (amx (kfF (w.1 1) k) 7).1) ?_ ?_
  · unfold sX3_kindFor_14
    rw [x_placeOf o1 h.2.1 hr hk6]
    refine hh_bd (x_timesFrom (x := 43) (Or.inl rfl) (ok_pl hr hk6).2 rfl (by decide) (r_sb h)) (fun z1 h1 => ?_)
    have hm2 : RM 1 z1 (w.1 1) := RM_k h.2.1 (fun b hb => h1.2.1 b (by omega) (by omega)) (h1.2.2 3 (by omega) (by omega))
    unfold sX3_kindFor_36 sX3_kindFor_43
    refine hh_up (fun j s => s = (nI k, nI (amx (kfF (w.1 1) k) j).1, mI (amx (kfF (w.1 1) k) j).2, nI j, z1)) 7 (by decide) rfl ?_
    rintro j _ hj rfl
    have h7 : (7 : Int32) ≤ nI j ↔ 7 ≤ j := nI_leI (a := 7) (by decide) (by omega)
    unfold lX3_kindFor_43
    dsimp only
    refine hh_i (fun q => hh_v ?_) (fun q => ?_)
    · obtain rfl : j = 7 := by have := h7.mp q; omega
      exact ⟨rfl, KX_T (Or.inl rfl) (Or.inl rfl) h1.2⟩
    have hj2 : j < 7 := Nat.lt_of_not_le fun y => q (h7.mpr y)
    refine hh_bd (x_hearersAs hm2 hr hk6 hj2 h1.1) (fun q2 h2 => ?_)
    subst h2
    unfold sX3_kindFor_59
    dsimp only
    have hle := amx_le hP j
    have hPj := hP j
    have em := mI_le (a := kfF (w.1 1) k j) (m := (amx (kfF (w.1 1) k) j).2) (by omega) (by omega)
    refine hh_i (fun y => hh_v ⟨hj2, ?_⟩) (fun y => hh_v ⟨hj2, ?_⟩)
    · rw [amx_n (em.mp y), nI_1]
    · have y2 := Classical.byContradiction fun t => y (em.mpr t)
      rw [amx_y y2, nI_1]
      rfl
  · unfold sX4_kindFor_15
    refine hh_be (m_kind rfl hr hk6) ?_
    unfold sX4_kindFor_22 sX4_kindFor_30
    dsimp only
    have epl := ok_kn hr hk6
    refine hh_up (fun j s => ∃ w' x, s = (nI k, nI (knd (w.1 1) k), (if j = 0 then -1 else nI (amx (kfF (w.1 1) k) j).1), mI (amx (kfF (w.1 1) k) j).2, nI j, w') ∧ w'.1 1 = upd (w.1 1) (51 + 3 * k + 0) x ∧ ∀ b, b ≠ 1 → b ≠ 7 → w'.1 b = w.1 b) 7 (by decide) ⟨w, _, rfl, (up_id _ _).symm, fun _ _ _ => rfl⟩ ?_
    rintro j s hj ⟨w', x, rfl, hw1, hf⟩
    have h7 : (6 : Int32) < nI j ↔ 6 < j := nI_ltI (a := 6) (by decide) (by omega)
    have hat : pX4_at (nI k) 0 = nI (51 + 3 * k + 0) := m_at (k := k) (f := 0)
    unfold lX4_kindFor_30
    dsimp only
    rw [hat, nI_clamp (show 51 + 3 * k + 0 < 2 ^ 31 by omega)]
    have hg : ¬ (nI (51 + 3 * k + 0) < 0 ∨ 97 ≤ 51 + 3 * k + 0) := by
      rintro (q | q)
      · exact nI_pos (by omega) q
      · omega
    refine hh_i (fun q => hh_f hg (hh_map (P := fun v => v = _) ⟨_, rfl, rfl⟩ ?_)) (fun q => hh_f hg ?_)
    · rintro _ rfl
      obtain rfl : j = 7 := by have := h7.mp q; omega
      refine ⟨rfl, ⟨fun b hb => ?_, ?_, ?_⟩⟩
      · by_cases b1 : b = 1
        · subst b1
          dsimp only
          rw [ru_r, hw1, up_up, ← epl.1, show 51 + 3 * k = 51 + 3 * k + 0 from rfl, up_id]
        · dsimp only
          rw [ru_n _ _ b1]
          exact hf b b1 (by omega)
      · dsimp only
        rw [ru_n _ _ (by decide), hf 0 (by decide) (by decide)]
      · dsimp only
        rw [ru_n _ _ (by decide), hf 0 (by decide) (by decide)]
    have hj2 : j < 7 := by
      have : ¬ 6 < j := fun y => q (h7.mpr y)
      omega
    unfold sX4_kindFor_49
    refine hh_bd (m_heardBy (w0 := w) hr hk6 hj2 (by show mm_ui w'.1 1 _ _ 1 = _; rw [ru_r, hw1, up_up]) (fun b b1 b7 => by show mm_ui w'.1 1 _ _ b = _; rw [ru_n _ _ b1]; exact hf b b1 b7)) (fun q2 h2 => ?_)
    obtain ⟨u, w2⟩ := q2
    obtain ⟨e1, hw2, hf2⟩ := h2
    dsimp only at e1 hw2 hf2
    subst e1
    have hle := amx_le hP j
    have hPj := hP j
    have em := mI_le (a := kfF (w.1 1) k j) (m := (amx (kfF (w.1 1) k) j).2) (by omega) (by omega)
    have ex := mI_max (a := kfF (w.1 1) k j) (m := (amx (kfF (w.1 1) k) j).2) (by omega) (by omega)
    unfold sX4_kindFor_56
    rw [ex]
    refine hh_i (fun y => hh_v ⟨hj2, w2, nI j, ?_, hw2, hf2⟩) (fun y => hh_v ⟨hj2, w2, nI j, ?_, hw2, hf2⟩)
    · have y2 := em.mp y
      have j0 : j ≠ 0 := fun t => by subst t; exact y2 (Nat.succ_pos _)
      rw [amx_n y2, nI_1, if_neg y2, if_neg j0, if_neg (by omega)]
    · have y2 := Classical.byContradiction fun t => y (em.mpr t)
      rw [amx_y y2, nI_1, if_pos y2, if_neg (by omega)]
      rfl
