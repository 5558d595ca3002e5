/-! ===== hearing: side by side ===== -/
theorem pf_lI {a : Nat} (h : a < 2 ^ 63) : (lN a).toInt = (a : Int) := lg_ofNat_toInt h
theorem pf_shr {a d : Nat} {D : Int64} (hD : (D.toBitVec.smod 64).toNat = d) (h : a < 2 ^ 62) : lN a >>> D = lN (a / 2 ^ d) := by
  have hd : a / 2 ^ d ≤ a := Nat.div_le_self _ _
  apply Int64.toInt_inj.mp
  have e : (lN a >>> D).toInt = (lN a).toInt >>> d := by
    rw [← hD]
    exact BitVec.toInt_sshiftRight ..
  rw [e, Int.shiftRight_eq_div_pow, pf_lI (by omega), pf_lI (by omega)]
  rfl
theorem tb_SN {x : Int64} (h : tb_S x) : ∃ n, n < 2 ^ 36 ∧ x = lN n := by
  obtain ⟨n, hn, rfl⟩ := wb_of x
  refine ⟨n, Nat.lt_pow_two_of_testBit n fun i hi => ?_, rfl⟩
  have := h i hi
  rw [tb_lN] at this
  by_cases q : i < 64
  · simpa [q] using this
  · exact Nat.testBit_lt_two_pow (Nat.lt_of_lt_of_le hn (Nat.pow_le_pow_right (by decide) (by omega)))
theorem sh_1 {x : Int64} (h : tb_S x) {c : Nat} (hc : c < 36) : lg_cmp ((x >>> (Int32.toInt64 (nI c) &&& 63)) &&& 1) 1 = 0 ↔ tb x c = true := by
  obtain ⟨n, hn, rfl⟩ := tb_SN h
  rw [lgc_0, wb_c c (by omega), pf_shr (d := c) (by rw [wb_tb, wb_sm c (by omega), BitVec.toNat_ofNat, Nat.mod_eq_of_lt (by omega)]) (by omega)]
  have hlt : n / 2 ^ c < 2 ^ 36 := Nat.lt_of_le_of_lt (Nat.div_le_self _ _) hn
  have e1 : lN (n / 2 ^ c) &&& (1 : Int64) = lN (n / 2 ^ c &&& 1) := wb_and (a := n / 2 ^ c) (b := 1) (by omega) (by decide)
  rw [e1, Nat.and_one_is_mod, tb_lN, Nat.testBit_eq_decide_div_mod_eq]
  have : n / 2 ^ c % 2 < 2 := Nat.mod_lt _ (by decide)
  rw [show (1 : Int64) = lN 1 from rfl, lN_eq (by omega) (by decide)]
  simp [show c < 64 by omega]
theorem m_reachOf {w : mm_S} {r : Nat → Int32} (hw : w.1 1 = r) (hr : okR r) {k : Nat} (hk : k < 6) : hh_c (sX4_reachOf (nI k) w) (fun q => q.1 = ls64 (fun c => decide (hrd r k c < 10000)) 36 ∧ ∀ b, b ≠ 7 → q.2.1 b = w.1 b) := by
  unfold sX4_reachOf sX4_reachOf_0
  refine hh_bd (m_findHeard hw hr hk (Or.inl rfl)) (fun w1 h1 => ?_)
  unfold sX4_reachOf_9 sX4_reachOf_14
  refine hh_up (fun j t => t = (ls64 (fun c => decide (hrd r k c < 10000)) j, nI j, w1)) 36 (by decide) rfl ?_
  rintro j _ hj rfl
  have h36 : (36 : Int32) ≤ nI j ↔ 36 ≤ j := nI_leI (a := 36) (by decide) (by omega)
  unfold lX4_reachOf_14
  dsimp only
  refine hh_i (fun q => hh_v ⟨?_, h1.2⟩) (fun q => ?_)
  · obtain rfl : j = 36 := by have := h36.mp q; omega
    rfl
  have hj2 : j < 36 := Nat.lt_of_not_le fun y => q (h36.mpr y)
  have hle := hrd_le r hr hk j
  refine hh_f (gI hj2 (by decide)) ?_
  rw [nI_clamp (by omega), h1.1 j hj2]
  have e : (10000 : Int32) ≤ nI (hrd r k j) ↔ 10000 ≤ hrd r k j := nI_leI (a := 10000) (by decide) (by omega)
  refine hh_i (fun y => hh_v ⟨hj2, ?_⟩) (fun y => hh_v ⟨hj2, ?_⟩)
  · have := e.mp y
    rw [nI_1, or0L]
    simp only [ls64, decide_eq_true_eq, if_neg (show ¬ hrd r k j < 10000 by omega)]
  · rw [nI_1]
    simp only [ls64, decide_eq_true_eq, if_pos (show hrd r k j < 10000 from Nat.lt_of_not_le fun t => y (e.mpr t))]
theorem pq_reach {z w : mm_S} (h : Rel z w) (x1 : Int32) : PP (sX3_reach x1 z) (sX4_reach x1 w) := by
  obtain ⟨-, -, e3⟩ := r_nC h
  unfold sX3_reach sX3_reach_0 sX4_reach sX4_reach_0
  refine pp_if (x_isCrew h _) (m_isCrew h _) (fun _ => pp_bl (pp_f0 h)) (fun hk => pp_b ?_)
  obtain ⟨k, hk, rfl⟩ := hk
  have hk6 : k < 6 := by omega
  refine pp_v h (a := ls64 (fun c => decide (hrd (w.1 1) k c < 10000)) 36) (hh_w (x_reachOf (Or.inl rfl) h.2.1 h.1 hk6) (fun q hq => ⟨?_, KX_R (Or.inl rfl) hq.2.2⟩)) (hh_w (m_reachOf rfl h.1 hk6) (fun q hq => ⟨hq.1, KM_1 (by decide) hq.2⟩))
  refine tb_extS hq.1 tb_lsS fun i hi => ?_
  rw [tb_ls (by decide)]
  have := hq.2.1 i hi
  cases e : tb q.1 i
  · simp only [Bool.false_eq, Bool.and_eq_false_iff, decide_eq_false_iff_not]
    exact Or.inr fun y => by rw [this.mpr y] at e; cases e
  · simp [hi, this.mp e]
theorem heb_le (k : Nat) : heb k ≤ 61 := by
  unfold heb
  repeat' split
  all_goals omega
theorem heb_1 {k d : Nat} (hd : d ≤ 10000) : hebI k < nI d ↔ ¬ d + 1 ≤ heb k := by
  have hb := heb_le k
  unfold hebI
  by_cases h : heb k = 0
  · rw [if_pos h]
    refine ⟨fun _ => by omega, fun _ => ?_⟩
    rw [Int32.lt_iff_toInt_lt, nI_toInt (by omega), show (-1 : Int32).toInt = -1 by decide]
    omega
  · rw [if_neg h, nI_ltI (by omega) (by omega)]
    omega
def ls32 (P : Nat → Bool) : Nat → Int32
  | 0 => 0
  | n + 1 => if P n = true then ls32 P n ||| ((1 : Int32) <<< (nI n &&& 31)) else ls32 P n
theorem or0I (x : Int32) : x ||| 0 = x := by
  apply Int32.toBitVec_inj.mp
  rw [Int32.toBitVec_or]
  simp
theorem m_doesHear {w : mm_S} {r : Nat → Int32} (hw : w.1 1 = r) (hr : okR r) {k o : Nat} (hk : k < 6) (ho : o < 6) : hh_c (sX4_doesHear (nI k) (nI o) w) (fun q => q.1 = (if hrd r o (plc r k) + 1 ≤ heb (knd r k) then 1 else 0) ∧ ∀ b, b ≠ 7 → q.2.1 b = w.1 b) := by
  unfold sX4_doesHear sX4_doesHear_0
  refine hh_bd (m_findHeard hw hr ho (Or.inl rfl)) (fun w1 h1 => ?_)
  have hw1 : w1.1 1 = r := by rw [h1.2 1 (by decide), hw]
  have hpl := (ok_pl hr hk).2
  unfold sX4_doesHear_9 sX4_doesHear_28
  refine hh_be (m_place hw1 hr hk) ?_
  dsimp only
  refine hh_f (gI hpl (by decide)) (hh_be (m_hearsBy hw1 hr hk) ?_)
  dsimp only
  rw [nI_clamp (by omega), h1.1 _ hpl]
  have e := heb_1 (k := knd r k) (hrd_le r hr ho (plc r k))
  refine hh_i (fun y => hh_v ⟨?_, h1.2⟩) (fun y => hh_v ⟨?_, h1.2⟩)
  · rw [if_neg (e.mp y)]
  · rw [if_pos (Classical.byContradiction fun t => y (e.mpr t))]
noncomputable def hsP (r : Nat → Int32) (k o : Nat) : Bool := decide (o ≠ k) && decide (hrd r o (plc r k) + 1 ≤ heb (knd r k))
theorem x_hears {z : mm_S} {r : Nat → Int32} (hm : RM 1 z r) (hr : okR r) {k : Nat} (hk : k < 6) : hh_c (sX3_hears_14 (nI k) z) (fun q => q.1 = ls32 (hsP r k) (nC r) ∧ frR 2 z q.2) := by
  have o1 : (1 : Nat) = 1 ∨ (1 : Nat) = 13 ∨ (1 : Nat) = 25 := Or.inl rfl
  have hn := ok_nC hr
  unfold sX3_hears_14 sX3_hears_31
  rw [x_kindOf o1 hm hr hk, x_heb _ (ok_kn hr hk).2]
  refine hh_up (fun j s => ∃ z', s = (nI k, hebI (knd r k), ls32 (hsP r k) j, nI j, z') ∧ j ≤ nC r ∧ frR 2 z z') 6 (by decide) ⟨z, rfl, Nat.zero_le _, frR_0 _ _⟩ ?_
  rintro j s hj ⟨z', rfl, hjn, hf⟩
  have hm2 : RM 1 z' r := RM_k hm (fun b hb => hf.1 b (by omega)) (hf.2 3 (by omega) (by omega))
  unfold lX3_hears_31
  dsimp only
  rw [hm2.2.1, hn.1]
  have hle : nI (nC r) ≤ nI j ↔ nC r ≤ j := nI_leI (by omega) (by omega)
  refine hh_i (fun q => hh_v ?_) (fun q => ?_)
  · obtain rfl : j = nC r := by have := hle.mp q; omega
    exact ⟨rfl, hf⟩
  have hj2 : j < nC r := Nat.lt_of_not_le fun y => q (hle.mpr y)
  rw [x_placeOf o1 hm2 hr hk]
  refine hh_bd (x_heardAt o1 hm2 hr (show j < 6 by omega) (ok_pl hr hk).2) (fun q2 h2 => ?_)
  obtain ⟨v, z2⟩ := q2
  obtain ⟨e1, hf2⟩ := h2
  dsimp only at e1 hf2
  subst e1
  have hf3 := frR_t hf hf2
  unfold sX3_hears_62
  have ej : nI j = nI k ↔ j = k := nI_eq (by omega) (by omega)
  have hd := hrd_le r hr (show j < 6 by omega) (plc r k)
  have hb := heb_le (knd r k)
  have no : hsP r k j = false → mm_mt (fun s' => j < 6 ∧ ∃ z', s' = (nI k, hebI (knd r k), ls32 (hsP r k) (j + 1), nI (j + 1), z') ∧ j + 1 ≤ nC r ∧ frR 2 z z') (fun q : Int32 × mm_S => q.1 = ls32 (hsP r k) (nC r) ∧ frR 2 z q.2) (Sum.inl (nI k, hebI (knd r k), ls32 (hsP r k) j, nI j + 1, z2)) := fun e => ⟨by omega, z2, by rw [nI_1]; simp [ls32, e], hj2, hf3⟩
  refine hh_i (fun y => hh_v (no ?_)) (fun y => hh_i (fun y2 => hh_v (no ?_)) (fun y2 => hh_i (fun y3 => hh_v (no ?_)) (fun y3 => hh_v ?_)))
  · simp [hsP, ej.mp y]
  · have := tI_m.mp y2
    simp only [hsP, Bool.and_eq_false_iff, decide_eq_false_iff_not]
    right; omega
  · have hd2 : hrd r j (plc r k) < 10000 := Classical.byContradiction fun t => y2 (tI_m.mpr t)
    rw [tI_1 hd2] at y3
    have := (heb_1 hd).mp y3
    simp only [hsP, Bool.and_eq_false_iff, decide_eq_false_iff_not]
    right; exact this
  · have hd2 : hrd r j (plc r k) < 10000 := Classical.byContradiction fun t => y2 (tI_m.mpr t)
    rw [tI_1 hd2] at y3
    have h3 : hrd r j (plc r k) + 1 ≤ heb (knd r k) := Classical.byContradiction fun t => y3 ((heb_1 hd).mpr t)
    have e : hsP r k j = true := by
      simp only [hsP, Bool.and_eq_true, decide_eq_true_eq]
      exact ⟨fun t => y (ej.mpr t), h3⟩
    exact ⟨by omega, z2, by rw [nI_1]; simp [ls32, e], hj2, hf3⟩
theorem m_hears {w : mm_S} {r : Nat → Int32} (hw : w.1 1 = r) (hr : okR r) {k : Nat} (hk : k < 6) : hh_c (sX4_hears_15 (nI k) w) (fun q => q.1 = ls32 (hsP r k) (nC r) ∧ ∀ b, b ≠ 7 → q.2.1 b = w.1 b) := by
  have hn := ok_nC hr
  unfold sX4_hears_15 sX4_hears_19
  refine hh_up (fun j s => ∃ w', s = (nI k, ls32 (hsP r k) j, nI j, w') ∧ j ≤ nC r ∧ ∀ b, b ≠ 7 → w'.1 b = w.1 b) 6 (by decide) ⟨w, rfl, Nat.zero_le _, fun _ _ => rfl⟩ ?_
  rintro j s hj ⟨w', rfl, hjn, hf⟩
  have hw2 : w'.1 1 = r := by rw [hf 1 (by decide), hw]
  unfold lX4_hears_19 sX4_hears_53
  dsimp only
  rw [hw2, hn.1]
  have hle : nI (nC r) ≤ nI j ↔ nC r ≤ j := nI_leI (by omega) (by omega)
  refine hh_i (fun q => hh_v ?_) (fun q => ?_)
  · obtain rfl : j = nC r := by have := hle.mp q; omega
    exact ⟨rfl, hf⟩
  have hj2 : j < nC r := Nat.lt_of_not_le fun y => q (hle.mpr y)
  have ej : nI j = nI k ↔ j = k := nI_eq (by omega) (by omega)
  refine hh_i (fun y => hh_v ⟨by omega, w', ?_, hj2, hf⟩) (fun y => hh_bd (m_doesHear hw2 hr hk (show j < 6 by omega)) (fun q2 h2 => ?_))
  · rw [nI_1, or0I]
    simp [ls32, hsP, ej.mp y]
  obtain ⟨v, w2⟩ := q2
  obtain ⟨e1, hf2⟩ := h2
  dsimp only at e1 hf2
  have hf3 : ∀ b, b ≠ 7 → w2.1 b = w.1 b := fun b hb => (hf2 b hb).trans (hf b hb)
  by_cases c : hrd r j (plc r k) + 1 ≤ heb (knd r k)
  · rw [if_pos c] at e1
    subst e1
    have e : hsP r k j = true := by
      simp only [hsP, Bool.and_eq_true, decide_eq_true_eq]
      exact ⟨fun t => y (ej.mpr t), c⟩
    exact hh_f (show ¬ (1 : Int32) = 0 by decide) (hh_v ⟨by omega, w2, by rw [nI_1]; simp [ls32, e], hj2, hf3⟩)
  · rw [if_neg c] at e1
    subst e1
    have e : hsP r k j = false := by
      simp only [hsP, Bool.and_eq_false_iff, decide_eq_false_iff_not]
      right; exact c
    exact hh_t rfl (hh_v ⟨by omega, w2, by rw [nI_1, or0I]; simp [ls32, e], hj2, hf3⟩)
theorem pq_hears {z w : mm_S} (h : Rel z w) (x1 : Int32) : PP (sX3_hears x1 z) (sX4_hears x1 w) := by
  obtain ⟨-, -, e3⟩ := r_nC h
  unfold sX3_hears sX3_hears_0 sX4_hears sX4_hears_0
  refine pp_if (x_isCrew h _) (m_isCrew h _) (fun _ => pp_b (pp_f0 h)) (fun hk => ?_)
  obtain ⟨k, hk, rfl⟩ := hk
  exact pp_v h (hh_w (x_hears h.2.1 h.1 (by omega)) (fun q hq => ⟨hq.1, KX_R (Or.inl rfl) hq.2⟩)) (hh_w (m_hears rfl h.1 (by omega)) (fun q hq => ⟨hq.1, KM_1 (by decide) hq.2⟩))
/-! how many are heard; where none is -/
theorem pq_many {z w : mm_S} (h : Rel z w) (x1 : Int32) : PP (sX3_many x1 z) (sX4_many x1 w) := by
  have hr := h.1
  have hn := ok_nC hr
  have o1 : (1 : Nat) = 1 ∨ (1 : Nat) = 13 ∨ (1 : Nat) = 25 := Or.inl rfl
  unfold sX3_many sX3_many_0 sX4_many sX4_many_0
  refine pp_if (x_isCell _) (m_isCell _) (fun _ => pp_b (pp_f0 h)) (fun hc => ?_)
  obtain ⟨c, hc, rfl⟩ := hc
  refine pp_v h (a := nI (fb_ct (fun k => decide (hrd (w.1 1) k c < 10000)) (nC (w.1 1)))) ?_ ?_
  · unfold sX3_many_13 sX3_many_17
    refine hh_up (fun j s => ∃ z', s = (nI c, nI (fb_ct (fun k => decide (hrd (w.1 1) k c < 10000)) j), nI j, z') ∧ j ≤ nC (w.1 1) ∧ frR 2 z z') 6 (by decide) ⟨z, rfl, Nat.zero_le _, frR_0 _ _⟩ ?_
    rintro j s hj ⟨z', rfl, hjn, hf⟩
    have hm2 : RM 1 z' (w.1 1) := RM_k h.2.1 (fun b hb => hf.1 b (by omega)) (hf.2 3 (by omega) (by omega))
    unfold lX3_many_17 sX3_many_41
    dsimp only
    rw [hm2.2.1, hn.1]
    have hle : nI (nC (w.1 1)) ≤ nI j ↔ nC (w.1 1) ≤ j := nI_leI (by omega) (by omega)
    refine hh_i (fun q => hh_v ?_) (fun q => ?_)
    · have e : j = nC (w.1 1) := by have := hle.mp q; omega
      rw [← e]
      exact ⟨rfl, KX_R (Or.inl rfl) hf⟩
    have hj2 : j < nC (w.1 1) := Nat.lt_of_not_le fun y => q (hle.mpr y)
    refine hh_bd (x_heardAt o1 hm2 hr (show j < 6 by omega) hc) (fun q2 h2 => ?_)
    obtain ⟨v, z2⟩ := q2
    obtain ⟨e1, hf2⟩ := h2
    dsimp only at e1 hf2
    subst e1
    have hf3 := frR_t hf hf2
    refine hh_i (fun y => hh_v ⟨by omega, z2, ?_, hj2, hf3⟩) (fun y => hh_v ⟨by omega, z2, ?_, hj2, hf3⟩)
    · have := tI_m.mp y
      rw [nI_1, fb_ct_succ]
      simp [this]
    · have : hrd (w.1 1) j c < 10000 := Classical.byContradiction fun t => y (tI_m.mpr t)
      rw [nI_1, nI_1, fb_ct_succ]
      simp [this]
  · unfold sX4_many_14 sX4_many_18
    refine hh_up (fun j s => ∃ w', s = (nI c, nI (fb_ct (fun k => decide (hrd (w.1 1) k c < 10000)) j), nI j, w') ∧ j ≤ nC (w.1 1) ∧ ∀ b, b ≠ 7 → w'.1 b = w.1 b) 6 (by decide) ⟨w, rfl, Nat.zero_le _, fun _ _ => rfl⟩ ?_
    rintro j s hj ⟨w', rfl, hjn, hf⟩
    have hw2 : w'.1 1 = w.1 1 := hf 1 (by decide)
    unfold lX4_many_18 sX4_many_50
    dsimp only
    rw [hw2, hn.1]
    have hle : nI (nC (w.1 1)) ≤ nI j ↔ nC (w.1 1) ≤ j := nI_leI (by omega) (by omega)
    refine hh_i (fun q => hh_v ?_) (fun q => ?_)
    · have e : j = nC (w.1 1) := by have := hle.mp q; omega
      rw [← e]
      exact ⟨rfl, KM_1 (by decide) hf⟩
    have hj2 : j < nC (w.1 1) := Nat.lt_of_not_le fun y => q (hle.mpr y)
    refine hh_bd (m_reachOf hw2 hr (show j < 6 by omega)) (fun q2 h2 => ?_)
    obtain ⟨v, w2⟩ := q2
    obtain ⟨e1, hf2⟩ := h2
    dsimp only at e1 hf2
    subst e1
    have hf3 : ∀ b, b ≠ 7 → w2.1 b = w.1 b := fun b hb => (hf2 b hb).trans (hf b hb)
    have hb := sh_1 (x := ls64 (fun c => decide (hrd (w.1 1) j c < 10000)) 36) tb_lsS hc
    rw [tb_ls (by decide)] at hb
    simp only [hc, decide_true, Bool.true_and, decide_eq_true_eq] at hb
    refine hh_i (fun y => hh_v ⟨by omega, w2, ?_, hj2, hf3⟩) (fun y => hh_v ⟨by omega, w2, ?_, hj2, hf3⟩)
    · have := hb.mp y
      rw [nI_1, nI_1, fb_ct_succ]
      simp [this]
    · have : ¬ hrd (w.1 1) j c < 10000 := fun t => y (hb.mpr t)
      rw [nI_1, fb_ct_succ, show nI (fb_ct (fun k => decide (hrd (w.1 1) k c < 10000)) j) + 0 = nI (fb_ct (fun k => decide (hrd (w.1 1) k c < 10000)) j + 0) from nI_add _ 0]
      simp [this]
noncomputable def silS (r : Nat → Int32) : Int64 := ls64 (fun c => decide (stf r c ≠ 2 ∧ ∀ k, k < nC r → ¬ hrd r k c < 10000)) 36
theorem x_silent {o : Nat} {z : mm_S} {r : Nat → Int32} (ho : o = 1 ∨ o = 13 ∨ o = 25) (hm : RM o z r) (hr : okR r) : hh_c (sX0_silentCells o z) (fun q => q.1 = silS r ∧ frR (o + 1) z q.2) := by
  have hn := ok_nC hr
  unfold sX0_silentCells sX0_silentCells_0 sX0_silentCells_11
  rw [show pX1_cellsOf (o + 1) 2 z = z.2 (o + 1 + 1) 2 from cof_N (s := 2) z (by decide)]
  have hs := hm.2.2.2.2.2.2.2.2.2
  refine hh_up (fun j s => ∃ (z' : mm_S) (x : Int64), s = (x, nI j, z') ∧ j ≤ nC r ∧ frR (o + 1) z z' ∧ tb_S x ∧ ∀ c, c < 36 → (tb x c = true ↔ stf r c = 2 ∨ ∃ k, k < j ∧ hrd r k c < 10000)) 6 (by decide) ⟨z, _, rfl, Nat.zero_le _, frR_0 _ _, (hs.2 2 (by decide)).1, fun c hc => ?_⟩ ?_
  · rw [(hs.2 2 (by decide)).2 c hc]
    simp
  rintro j s hj ⟨z', x, rfl, hjn, hf, hS, hx⟩
  have hm2 : RM o z' r := RM_k hm (fun b hb => hf.1 b (by omega)) (hf.2 (o + 2) (by omega) (by omega))
  unfold lX0_silentCells_11 sX0_silentCells_27
  dsimp only
  rw [hm2.2.1, hn.1]
  have hle : nI (nC r) ≤ nI j ↔ nC r ≤ j := nI_leI (by omega) (by omega)
  refine hh_i (fun q => hh_v ⟨?_, hf⟩) (fun q => ?_)
  · have e : j = nC r := by have := hle.mp q; omega
    subst e
    unfold silS
    refine tb_extS (tb_andS tb_SA) tb_lsS fun i hi => ?_
    rw [tb_and, tb_ALL, tb_not _ (by omega), tb_ls (by decide)]
    have hxi := hx i hi
    cases ex : tb x i
    · have : ¬ (stf r i = 2 ∨ ∃ k, k < nC r ∧ hrd r k i < 10000) := fun y => by rw [hxi.mpr y] at ex; cases ex
      have h2 : stf r i ≠ 2 ∧ ∀ k, k < nC r → ¬ hrd r k i < 10000 := ⟨fun y => this (Or.inl y), fun k hk y => this (Or.inr ⟨k, hk, y⟩)⟩
      simp only [decide_eq_true h2]
      simp [hi]
    · have : ¬ (stf r i ≠ 2 ∧ ∀ k, k < nC r → ¬ hrd r k i < 10000) := fun y => by
        rcases hxi.mp ex with t | ⟨k, hk, t⟩
        · exact y.1 t
        · exact y.2 k hk t
      simp only [decide_eq_false this]
      simp
  have hj2 : j < nC r := Nat.lt_of_not_le fun y => q (hle.mpr y)
  refine hh_bd (x_reachOf ho hm2 hr (show j < 6 by omega)) (fun q2 h2 => hh_v ⟨by omega, q2.2, _, by rw [nI_1], hj2, frR_t hf h2.2.2, tb_orS hS h2.1, fun c hc => ?_⟩)
  rw [tb_or, Bool.or_eq_true, hx c hc, h2.2.1 c hc]
  constructor
  · rintro ((y | ⟨k, hk, y⟩) | y)
    · exact Or.inl y
    · exact Or.inr ⟨k, by omega, y⟩
    · exact Or.inr ⟨j, by omega, y⟩
  · rintro (y | ⟨k, hk, y⟩)
    · exact Or.inl (Or.inl y)
    · by_cases t : k = j
      · subst t; exact Or.inr y
      · exact Or.inl (Or.inr ⟨k, by omega, y⟩)
theorem m_silent {w : mm_S} {r : Nat → Int32} (hw : w.1 1 = r) (hr : okR r) : hh_c (sX4_silentNow w) (fun q => q.1 = silS r ∧ ∀ b, b ≠ 7 → q.2.1 b = w.1 b) := by
  have hn := ok_nC hr
  unfold sX4_silentNow sX4_silentNow_0
  refine hh_bd (m_cellsOf (ok_ms hr hw) (s := 2) (by decide)) (fun q0 h0 => ?_)
  subst h0
  unfold sX4_silentNow_14 sX4_silentNow_16
  dsimp only
  refine hh_up (fun j s => ∃ (w' : mm_S) (x : Int64), s = (x, nI j, w') ∧ j ≤ nC r ∧ (∀ b, b ≠ 7 → w'.1 b = w.1 b) ∧ tb_S x ∧ ∀ c, c < 36 → (tb x c = true ↔ stf r c ≠ 2 ∧ ∀ k, k < j → ¬ hrd r k c < 10000)) 6 (by decide) ⟨w, _, rfl, Nat.zero_le _, fun _ _ => rfl, tb_andS tb_SA, fun c hc => ?_⟩ ?_
  · rw [tb_and, tb_ALL, tb_not _ (by omega), tb_ls (by decide)]
    simp [hc]
  rintro j s hj ⟨w', x, rfl, hjn, hf, hS, hx⟩
  have hw2 : w'.1 1 = r := by rw [hf 1 (by decide), hw]
  unfold lX4_silentNow_16 sX4_silentNow_38
  dsimp only
  rw [hw2, hn.1]
  have hle : nI (nC r) ≤ nI j ↔ nC r ≤ j := nI_leI (by omega) (by omega)
  refine hh_i (fun q => hh_v ⟨?_, hf⟩) (fun q => ?_)
  · have e : j = nC r := by have := hle.mp q; omega
    subst e
    unfold silS
    refine tb_extS hS tb_lsS fun i hi => ?_
    rw [tb_ls (by decide)]
    have hxi := hx i hi
    cases ex : tb x i
    · have : ¬ (stf r i ≠ 2 ∧ ∀ k, k < nC r → ¬ hrd r k i < 10000) := fun y => by rw [hxi.mpr y] at ex; cases ex
      simp only [decide_eq_false this]
      simp
    · simp only [decide_eq_true (hxi.mp ex)]
      simp [hi]
  have hj2 : j < nC r := Nat.lt_of_not_le fun y => q (hle.mpr y)
  refine hh_bd (m_reachOf hw2 hr (show j < 6 by omega)) (fun q2 h2 => hh_v ⟨by omega, q2.2, _, by rw [nI_1], hj2, fun b hb => (h2.2 b hb).trans (hf b hb), tb_andS hS, fun c hc => ?_⟩)
  rw [tb_and, tb_not _ (by omega), h2.1, tb_ls (by decide), Bool.and_eq_true, hx c hc]
  simp only [hc, decide_true, Bool.true_and, Bool.not_eq_true', decide_eq_false_iff_not]
  constructor
  · rintro ⟨⟨y1, y2⟩, y3⟩
    refine ⟨y1, fun k hk => ?_⟩
    by_cases t : k = j
    · subst t; exact y3
    · exact y2 k (by omega)
  · rintro ⟨y1, y2⟩
    exact ⟨⟨y1, fun k hk => y2 k (by omega)⟩, y2 j (by omega)⟩
theorem pq_silent {z w : mm_S} (h : Rel z w) : PP (sX3_silent z) (sX4_silent w) := by
  unfold sX3_silent sX3_silent_0 sX4_silent sX4_silent_0
  exact pp_b (pp_v h (hh_w (x_silent (Or.inl rfl) h.2.1 h.1) (fun q hq => ⟨hq.1, KX_R (Or.inl rfl) hq.2⟩)) (hh_w (m_silent rfl h.1) (fun q hq => ⟨hq.1, KM_1 (by decide) hq.2⟩)))
/-! two crews -/
theorem two_x {z w : mm_S} (h : Rel z w) (a b : Int32) : pX3_areTwoCrews a b z = 0 ↔ ¬ (isN a (nC (w.1 1)) ∧ isN b (nC (w.1 1)) ∧ a ≠ b) := by
  unfold pX3_areTwoCrews
  by_cases h1 : isN a (nC (w.1 1))
  · rw [if_neg (fun e => (x_isCrew h a).mp e h1)]
    by_cases h2 : isN b (nC (w.1 1))
    · rw [if_neg (fun e => (x_isCrew h b).mp e h2)]
      by_cases h3 : a = b
      · rw [if_pos h3]
        exact ⟨fun _ y => y.2.2 h3, fun _ => rfl⟩
      · rw [if_neg h3]
        exact ⟨fun y => absurd y (by decide), fun y => absurd ⟨h1, h2, h3⟩ y⟩
    · rw [if_pos ((x_isCrew h b).mpr h2)]
      exact ⟨fun _ y => h2 y.2.1, fun _ => rfl⟩
  · rw [if_pos ((x_isCrew h a).mpr h1)]
    exact ⟨fun _ y => h1 y.1, fun _ => rfl⟩
theorem two_m {z w : mm_S} (h : Rel z w) (a b : Int32) : ∃ v, sX4_areTwo a b w = some (v, w) ∧ (v = 0 ↔ ¬ (isN a (nC (w.1 1)) ∧ isN b (nC (w.1 1)) ∧ a ≠ b)) := by
  unfold sX4_areTwo sX4_areTwo_0
  by_cases h1 : isN a (nC (w.1 1))
  · rw [if_neg (fun e => (m_isCrew h a).mp e h1)]
    by_cases h2 : isN b (nC (w.1 1))
    · rw [if_neg (fun e => (m_isCrew h b).mp e h2)]
      by_cases h3 : a = b
      · rw [if_pos h3]
        exact ⟨_, rfl, fun _ y => y.2.2 h3, fun _ => rfl⟩
      · rw [if_neg h3]
        exact ⟨_, rfl, fun y => absurd y (by decide), fun y => absurd ⟨h1, h2, h3⟩ y⟩
    · rw [if_pos ((m_isCrew h b).mpr h2)]
      exact ⟨_, rfl, fun _ y => h2 y.2.1, fun _ => rfl⟩
  · rw [if_pos ((m_isCrew h a).mpr h1)]
    exact ⟨_, rfl, fun _ y => h1 y.1, fun _ => rfl⟩
theorem pq_lag {z w : mm_S} (h : Rel z w) (x1 x2 x3 : Int32) : PP (sX3_lag x1 x2 x3 z) (sX4_lag x1 x2 x3 w) := by
  obtain ⟨-, -, e3⟩ := r_nC h
  obtain ⟨v, hv, hv0⟩ := two_m h x1 x2
  have o1 : (1 : Nat) = 1 ∨ (1 : Nat) = 13 ∨ (1 : Nat) = 25 := Or.inl rfl
  unfold sX3_lag sX3_lag_0 sX4_lag sX4_lag_0
  rw [hv]
  show PP _ (if v = 0 then (sX4_finding (-1000001) w).bind (fun q2 => some (q2.1, q2.2)) else sX4_lag_9 x1 x2 x3 w)
  unfold sX4_lag_9
  refine pp_if (two_x h _ _) hv0 (fun _ => pp_b (pp_f0 h)) (fun ht => pp_if (x_isCell _) (m_isCell _) (fun _ => pp_b (pp_f0 h)) (fun hc => ?_))
  obtain ⟨⟨a, ha, rfl⟩, ⟨b, hb, rfl⟩, -⟩ := ht
  obtain ⟨c, hc, rfl⟩ := hc
  have ha6 : a < 6 := by omega
  have hb6 : b < 6 := by omega
  unfold sX3_lag_22 sX4_lag_23
  obtain ⟨⟨u1, z1⟩, q1, g1, f1⟩ := x_heardAt o1 h.2.1 h.1 ha6 hc
  obtain ⟨w1, p1, k1, m1⟩ := m_findHeard (x := 7) rfl h.1 ha6 (Or.inl rfl)
  have h1 := Rel_K h (KX_R (Or.inl rfl) f1) (KM_1 (by decide) m1)
  have er : w1.1 1 = w.1 1 := m1 1 (by decide)
  obtain ⟨⟨u2, z2⟩, q2, g2, f2⟩ := x_heardAt o1 h1.2.1 h1.1 hb6 hc
  obtain ⟨w2, p2, k2, m2⟩ := m_findHeard (x := 8) rfl h1.1 hb6 (Or.inr rfl)
  have h2 := Rel_K h1 (KX_R (Or.inl rfl) f2) (KM_1 (by decide) m2)
  dsimp only at g1 g2
  subst g1 g2
  rw [er] at q2 k2
  rw [q1, p1]
  show PP (sX3_lag_33 (nI b) (nI c) (tI (hrd (w.1 1) a c)) z1) (sX4_lag_32 (nI b) (nI c) w1)
  unfold sX3_lag_33 sX4_lag_32
  rw [q2, p2]
  show PP (sX3_lag_44 (tI (hrd (w.1 1) a c)) (tI (hrd (w.1 1) b c)) z2) (sX4_lag_41 (nI c) w2)
  have ja : w2.1 7 c = nI (hrd (w.1 1) a c) := by rw [m2 7 (by decide)]; exact k1 c hc
  have jb : w2.1 8 c = nI (hrd (w.1 1) b c) := k2 c hc
  have la := hrd_le (w.1 1) h.1 ha6 c
  have lb := hrd_le (w.1 1) h.1 hb6 c
  unfold sX3_lag_44 sX4_lag_41 sX3_lag_62
  have hg := gI hc (show (36 : Nat) < 2 ^ 31 by decide)
  rw [if_neg hg, if_neg hg, if_neg hg, if_neg hg, nI_clamp (show c < 2 ^ 31 by omega), ja, jb]
  have ea : (10000 : Int32) ≤ nI (hrd (w.1 1) a c) ↔ ¬ hrd (w.1 1) a c < 10000 := (nI_leI (a := 10000) (by decide) (by omega)).trans (by omega)
  have eb : (10000 : Int32) ≤ nI (hrd (w.1 1) b c) ↔ ¬ hrd (w.1 1) b c < 10000 := (nI_leI (a := 10000) (by decide) (by omega)).trans (by omega)
  refine pp_if2 tI_m ea (fun _ => pp_b (pp_f3 h2)) (fun ya => pp_if2 tI_m eb (fun _ => pp_b (pp_f3 h2)) (fun yb => ?_))
  rw [tI_1 (by omega), tI_1 (by omega)]
  exact pp_e rfl rfl h2
def apS (f g : Nat → Nat) : Nat → Int32
  | 0 => 2147483647
  | n + 1 => if f n < 10000 ∧ g n < 10000 ∧ ¬ pX3_lies (nI (f n) - nI (g n)) 0 30 = 0 then apS f g n &&& (((1 : Int32) <<< ((nI (f n) - nI (g n)) &&& 31)) ^^^ (-1)) else apS f g n
theorem and1I (x : Int32) : x &&& (-1) = x := by
  apply Int32.toBitVec_inj.mp
  rw [Int32.toBitVec_and, show (-1 : Int32).toBitVec = BitVec.allOnes 32 by decide, BitVec.and_allOnes]
theorem apS_y {f g : Nat → Nat} {n : Nat} (h : f n < 10000 ∧ g n < 10000 ∧ ¬ pX3_lies (nI (f n) - nI (g n)) 0 30 = 0) : apS f g (n + 1) = apS f g n &&& (((1 : Int32) <<< ((nI (f n) - nI (g n)) &&& 31)) ^^^ (-1)) := if_pos h
theorem apS_n {f g : Nat → Nat} {n : Nat} (h : ¬ (f n < 10000 ∧ g n < 10000 ∧ ¬ pX3_lies (nI (f n) - nI (g n)) 0 30 = 0)) : apS f g (n + 1) = apS f g n := if_neg h
theorem pq_apart {z w : mm_S} (h : Rel z w) (x1 x2 : Int32) : PP (sX3_apart x1 x2 z) (sX4_apart x1 x2 w) := by
  obtain ⟨-, -, e3⟩ := r_nC h
  obtain ⟨v, hv, hv0⟩ := two_m h x1 x2
  have o1 : (1 : Nat) = 1 ∨ (1 : Nat) = 13 ∨ (1 : Nat) = 25 := Or.inl rfl
  unfold sX3_apart sX3_apart_0 sX3_apart_6 sX4_apart sX4_apart_0
  rw [hv]
  show PP _ (if v = 0 then sX4_apart_9 w else sX4_apart_16 x1 x2 w)
  refine pp_if (two_x h _ _) hv0 (fun _ => pp_b (pp_f0 h)) (fun ht => ?_)
  obtain ⟨⟨a, ha, rfl⟩, ⟨b, hb, rfl⟩, -⟩ := ht
  have ha6 : a < 6 := by omega
  have hb6 : b < 6 := by omega
  unfold sX3_apart_15 sX4_apart_16
  obtain ⟨z1, q1, g1, f1⟩ := x_fillHeard (x := 43) o1 h.2.1 h.1 ha6 (Or.inl rfl)
  obtain ⟨w1, p1, k1, m1⟩ := m_findHeard (x := 7) rfl h.1 ha6 (Or.inl rfl)
  have h1 := Rel_K h (KX_T (Or.inl rfl) (Or.inl rfl) f1) (KM_1 (by decide) m1)
  have er : w1.1 1 = w.1 1 := m1 1 (by decide)
  obtain ⟨z2, q2, g2, f2⟩ := x_fillHeard (x := 44) o1 h1.2.1 h1.1 hb6 (Or.inr rfl)
  obtain ⟨w2, p2, k2, m2⟩ := m_findHeard (x := 8) rfl h1.1 hb6 (Or.inr rfl)
  have h2 := Rel_K h1 (KX_T (Or.inl rfl) (Or.inr rfl) f2) (KM_1 (by decide) m2)
  rw [er] at g2 k2
  rw [q1, p1]
  show PP (sX3_apart_27 (nI b) z1) (sX4_apart_25 (nI b) w1)
  unfold sX3_apart_27 sX4_apart_25
  rw [q2, p2]
  show PP (sX3_apart_39 z2) (sX4_apart_34 w2)
  have xa : ∀ c, c < 36 → z2.1 43 c = tI (hrd (w.1 1) a c) := fun c hc => by rw [f2.1 43 (by decide) (by decide)]; exact g1 c hc
  have ja : ∀ c, c < 36 → w2.1 7 c = nI (hrd (w.1 1) a c) := fun c hc => by rw [m2 7 (by decide)]; exact k1 c hc
  have la := hrd_le (w.1 1) h.1 ha6
  have lb := hrd_le (w.1 1) h.1 hb6
  generalize hrd (w.1 1) a = F at *
  generalize hrd (w.1 1) b = G at *
  refine pp_v h2 (a := apS F G 36) ?_ ?_
  · unfold sX3_apart_39 sX3_apart_45
    refine hh_up (fun j s => s = (apS F G j, nI j, z2)) 36 (by decide) rfl ?_
    rintro j _ hj rfl
    have h36 : (36 : Int32) ≤ nI j ↔ 36 ≤ j := nI_leI (a := 36) (by decide) (by omega)
    unfold lX3_apart_45 sX3_apart_63 sX3_apart_74 sX3_apart_97
    dsimp only
    refine hh_i (fun q => hh_v ?_) (fun q => ?_)
    · obtain rfl : j = 36 := by have := h36.mp q; omega
      exact ⟨rfl, KX_0 _⟩
    have hj2 : j < 36 := Nat.lt_of_not_le fun y => q (h36.mpr y)
    rw [at_N _ (show j < lenX 43 from hj2), at_N _ (show j < lenX 44 from hj2), xa j hj2, g2 j hj2]
    refine hh_i (fun y => hh_v ⟨hj2, ?_⟩) (fun y => hh_i (fun y2 => hh_v ⟨hj2, ?_⟩) (fun y2 => ?_))
    · have := tI_m.mp y
      rw [nI_1, apS_n (fun t => this t.1)]
    · have := tI_m.mp y2
      rw [nI_1, apS_n (fun t => this t.2.1)]
    · have d1 : F j < 10000 := Classical.byContradiction fun t => y (tI_m.mpr t)
      have d2 : G j < 10000 := Classical.byContradiction fun t => y2 (tI_m.mpr t)
      rw [tI_1 d1, tI_1 d2]
      refine hh_i (fun y3 => hh_v ⟨hj2, ?_⟩) (fun y3 => hh_v ⟨hj2, ?_⟩)
      · rw [nI_1, apS_n (fun t => t.2.2 y3)]
      · rw [nI_1, apS_y ⟨d1, d2, y3⟩]
  · unfold sX4_apart_34 sX4_apart_40
    refine hh_up (fun j s => s = (apS F G j, nI j, w2)) 36 (by decide) rfl ?_
    rintro j _ hj rfl
    have h36 : (36 : Int32) ≤ nI j ↔ 36 ≤ j := nI_leI (a := 36) (by decide) (by omega)
    unfold lX4_apart_40
    dsimp only
    refine hh_i (fun q => hh_v ?_) (fun q => ?_)
    · obtain rfl : j = 36 := by have := h36.mp q; omega
      exact ⟨rfl, KM_0 _⟩
    have hj2 : j < 36 := Nat.lt_of_not_le fun y => q (h36.mpr y)
    have hg := gI hj2 (show (36 : Nat) < 2 ^ 31 by decide)
    have l1 := la j
    have l2 := lb j
    refine hh_f hg (hh_f hg (hh_f hg ?_))
    rw [nI_clamp (show j < 2 ^ 31 by omega), ja j hj2, k2 j hj2]
    have hg2 := hg
    rw [nI_clamp (show j < 2 ^ 31 by omega)] at hg2
    have ea : (10000 : Int32) ≤ nI (F j) ↔ ¬ F j < 10000 := (nI_leI (a := 10000) (by decide) (by omega)).trans (by omega)
    have eb : (10000 : Int32) ≤ nI (G j) ↔ ¬ G j < 10000 := (nI_leI (a := 10000) (by decide) (by omega)).trans (by omega)
    refine hh_i (fun y => hh_v ⟨hj2, ?_⟩) (fun y => hh_f hg2 (hh_i (fun y2 => hh_v ⟨hj2, ?_⟩) (fun y2 => hh_i (fun y3 => hh_v ⟨hj2, ?_⟩) (fun y3 => hh_v ⟨hj2, ?_⟩))))
    · rw [nI_1, and1I, apS_n (fun t => (ea.mp y) t.1)]
    · rw [nI_1, and1I, apS_n (fun t => (eb.mp y2) t.2.1)]
    · rw [nI_1, and1I, apS_n (fun t => t.2.2 y3)]
    · have d1 : F j < 10000 := Classical.byContradiction fun t => y (ea.mpr t)
      have d2 : G j < 10000 := Classical.byContradiction fun t => y2 (eb.mpr t)
      rw [nI_1, apS_y ⟨d1, d2, y3⟩]
def frS (u : Int32) (f g : Nat → Nat) (n : Nat) : Bool := decide (f n < 10000 ∧ g n < 10000 ∧ nI (g n) - nI (f n) = u)
theorem pq_from {z w : mm_S} (h : Rel z w) (x1 x2 x3 : Int32) : PP (sX3_from x1 x2 x3 z) (sX4_from x1 x2 x3 w) := by
  obtain ⟨-, -, e3⟩ := r_nC h
  obtain ⟨v, hv, hv0⟩ := two_m h x1 x2
  have o1 : (1 : Nat) = 1 ∨ (1 : Nat) = 13 ∨ (1 : Nat) = 25 := Or.inl rfl
  unfold sX3_from sX3_from_0 sX3_from_6 sX3_from_17 sX4_from sX4_from_0
  rw [hv]
  show PP _ (if v = 0 then _ else sX4_from_9 x1 x2 x3 w)
  unfold sX4_from_9
  refine pp_if (two_x h _ _) hv0 (fun _ => pp_bl (pp_f0 h)) (fun ht => ?_)
  obtain ⟨⟨a, ha, rfl⟩, ⟨b, hb, rfl⟩, -⟩ := ht
  have ha6 : a < 6 := by omega
  have hb6 : b < 6 := by omega
  refine pp_if (P := ¬ pX3_lies x3 (-60) 60 = 0) (by simp) (show pX3_lies x3 (-60) 60 = 0 ↔ _ by simp) (fun _ => pp_bl (pp_f0 h)) (fun _ => ?_)
  unfold sX3_from_27
  rw [x_placeOf o1 h.2.1 h.1 ha6]
  have pa := (ok_pl h.1 ha6).2
  have pb := (ok_pl h.1 hb6).2
  obtain ⟨z1, q1, g1, f1⟩ := x_timesTo (x := 43) (Or.inl rfl) pa rfl (by decide) (r_sb h)
  obtain ⟨w1, p1, k1, m1⟩ := m_to (k := 5) (by decide) pa (r_ms h)
  have h1 := Rel_K h (KX_T (Or.inl rfl) (Or.inl rfl) f1) (KM_1 (by decide) m1)
  have er : w1.1 1 = w.1 1 := m1 1 (by decide)
  obtain ⟨z2, q2, g2, f2⟩ := x_timesTo (x := 44) (Or.inl rfl) pb rfl (by decide) (r_sb h1)
  obtain ⟨w2, p2, k2, m2⟩ := m_to (k := 6) (by decide) pb (r_ms h1)
  have h2 := Rel_K h1 (KX_T (Or.inl rfl) (Or.inr rfl) f2) (KM_1 (by decide) m2)
  rw [er] at g2 k2
  have c1 := m_place (w := w) rfl h.1 ha6
  have c2 := m_place (w := w1) er h.1 hb6
  have xb := x_placeOf o1 (show RM 1 z1 (w.1 1) by rw [← er]; exact h1.2.1) h.1 hb6
  unfold sX4_from_28
  rw [q1, c1]
  show PP (sX3_from_49 (nI b) x3 z1) ((sX4_findTimes (nI (plc (w.1 1) a)) 0 5 w).bind fun q5 => sX4_from_43 (nI b) x3 q5)
  rw [p1]
  show PP _ (sX4_from_43 (nI b) x3 w1)
  unfold sX3_from_49 sX4_from_43
  rw [xb, q2, c2]
  show PP (sX3_from_71 x3 z2) ((sX4_findTimes (nI (plc (w.1 1) b)) 0 6 w1).bind fun q7 => sX4_from_58 x3 q7)
  rw [p2]
  show PP _ (sX4_from_58 x3 w2)
  have xa : ∀ c, c < 36 → z2.1 43 c = tI (bd (stf (w.1 1)) (plc (w.1 1) a) c) := fun c hc => by rw [f2.1 43 (by decide) (by decide)]; exact g1 c hc
  have ja : ∀ c, c < 36 → w2.1 5 c = nI (bd (stf (w.1 1)) (plc (w.1 1) a) c) := fun c hc => by rw [m2 5 (by decide)]; exact k1 c hc
  have la : ∀ c, bd (stf (w.1 1)) (plc (w.1 1) a) c ≤ 10000 := fun c => wk_dle c
  have lb : ∀ c, bd (stf (w.1 1)) (plc (w.1 1) b) c ≤ 10000 := fun c => wk_dle c
  generalize bd (stf (w.1 1)) (plc (w.1 1) a) = F at *
  generalize bd (stf (w.1 1)) (plc (w.1 1) b) = G at *
  refine pp_v h2 (a := ls64 (frS x3 F G) 36) ?_ ?_
  · unfold sX3_from_71 sX3_from_77
    refine hh_up (fun j s => s = (x3, ls64 (frS x3 F G) j, nI j, z2)) 36 (by decide) rfl ?_
    rintro j _ hj rfl
    have h36 : (36 : Int32) ≤ nI j ↔ 36 ≤ j := nI_leI (a := 36) (by decide) (by omega)
    unfold lX3_from_77 sX3_from_95 sX3_from_106
    dsimp only
    refine hh_i (fun q => hh_v ?_) (fun q => ?_)
    · obtain rfl : j = 36 := by have := h36.mp q; omega
      exact ⟨rfl, KX_0 _⟩
    have hj2 : j < 36 := Nat.lt_of_not_le fun y => q (h36.mpr y)
    rw [at_N _ (show j < lenX 43 from hj2), at_N _ (show j < lenX 44 from hj2), xa j hj2, g2 j hj2]
    refine hh_i (fun y => hh_v ⟨hj2, ?_⟩) (fun y => hh_i (fun y2 => hh_v ⟨hj2, ?_⟩) (fun y2 => ?_))
    · have := tI_m.mp y
      rw [nI_1]
      simp [ls64, frS, this]
    · have := tI_m.mp y2
      rw [nI_1]
      simp [ls64, frS, this]
    · have d1 : F j < 10000 := Classical.byContradiction fun t => y (tI_m.mpr t)
      have d2 : G j < 10000 := Classical.byContradiction fun t => y2 (tI_m.mpr t)
      rw [tI_1 d1, tI_1 d2]
      refine hh_i (fun y3 => hh_v ⟨hj2, ?_⟩) (fun y3 => hh_v ⟨hj2, ?_⟩)
      · rw [nI_1]
        simp only [ls64, frS, d1, d2, y3, true_and, decide_true, if_true]
        rfl
      · rw [nI_1]
        simp [ls64, frS, y3]
  · unfold sX4_from_58 sX4_from_64
    refine hh_up (fun j s => s = (x3, ls64 (frS x3 F G) j, nI j, w2)) 36 (by decide) rfl ?_
    rintro j _ hj rfl
    have h36 : (36 : Int32) ≤ nI j ↔ 36 ≤ j := nI_leI (a := 36) (by decide) (by omega)
    unfold lX4_from_64
    dsimp only
    refine hh_i (fun q => hh_v ?_) (fun q => ?_)
    · obtain rfl : j = 36 := by have := h36.mp q; omega
      exact ⟨rfl, KM_0 _⟩
    have hj2 : j < 36 := Nat.lt_of_not_le fun y => q (h36.mpr y)
    have hg := gI hj2 (show (36 : Nat) < 2 ^ 31 by decide)
    have l1 := la j
    have l2 := lb j
    refine hh_f hg ?_
    rw [nI_clamp (show j < 2 ^ 31 by omega), ja j hj2, k2 j hj2]
    have hg2 := hg
    rw [nI_clamp (show j < 2 ^ 31 by omega)] at hg2
    have ea : (10000 : Int32) ≤ nI (F j) ↔ ¬ F j < 10000 := (nI_leI (a := 10000) (by decide) (by omega)).trans (by omega)
    have eb : (10000 : Int32) ≤ nI (G j) ↔ ¬ G j < 10000 := (nI_leI (a := 10000) (by decide) (by omega)).trans (by omega)
    refine hh_i (fun y => hh_v ⟨hj2, ?_⟩) (fun y => hh_f hg2 (hh_i (fun y2 => hh_v ⟨hj2, ?_⟩) (fun y2 => hh_f hg2 (hh_f hg2 (hh_i (fun y3 => hh_v ⟨hj2, ?_⟩) (fun y3 => hh_v ⟨hj2, ?_⟩))))))
    · rw [nI_1, or0L]
      simp [ls64, frS, ea.mp y]
    · rw [nI_1, or0L]
      simp [ls64, frS, eb.mp y2]
    · have d1 : F j < 10000 := Classical.byContradiction fun t => y (ea.mpr t)
      have d2 : G j < 10000 := Classical.byContradiction fun t => y2 (eb.mpr t)
      rw [nI_1]
      simp only [ls64, frS, d1, d2, y3, true_and, decide_true, if_true]
    · rw [nI_1, or0L]
      simp [ls64, frS, y3]
