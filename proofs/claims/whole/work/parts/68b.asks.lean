/-! ===== asks: the class's marks ===== -/
section MK
variable {r : Nat → Int32}
/-- what is marked -/
def mkd (r : Nat → Int32) (c n : Nat) (z : mm_S) : Prop := ∀ k, k < nC r → ∀ j, j < 4 → ∀ i, i < 64 → tb (z.2 45 (4 * k + j)) i = hitF r k c n (64 * j + i)
theorem x_marks (hr : okR r) {c n : Nat} (hf : fitR (layR r n)) (hT : ∀ k, k < nC r → tmA r k c n ≤ 216 ∨ tmA r k c n = 10000) {z : mm_S} (hm : RM 1 z r) (h43 : ∀ a, a < 36 → z.1 43 a = tI (td (stf (layR r n)) a c)) (hk0 : mkd r c n z) :
    hh_c (sX3_markTimesOfCrews z) (fun z' => mkd r c (n + 1) z' ∧ z'.1 = z.1 ∧ ∀ b, b ≠ 45 → z'.2 b = z.2 b) := by
  have hn := ok_nC hr
  have e4 : z.1 1 4 = nI (nC r) := hm.2.1.trans hn.1
  unfold sX3_markTimesOfCrews sX3_markTimesOfCrews_0 sX3_markTimesOfCrews_2
  refine hh_up (fun q s => ∃ z', s = (nI q, z') ∧ q ≤ nC r ∧ (∀ k, k < nC r → ∀ j, j < 4 → ∀ i, i < 64 → tb (z'.2 45 (4 * k + j)) i = hitF r k c (if k < q then n + 1 else n) (64 * j + i)) ∧ z'.1 = z.1 ∧ ∀ b, b ≠ 45 → z'.2 b = z.2 b) 6 (by decide) ⟨z, rfl, Nat.zero_le _, fun k hk j hj i hi => by rw [if_neg (by omega)]; exact hk0 k hk j hj i hi, rfl, fun _ _ => rfl⟩ ?_
  rintro q s hq ⟨z', rfl, hqn, hv, h1, h2⟩
  have hle : nI (nC r) ≤ nI q ↔ nC r ≤ q := nI_leI (by omega) (by omega)
  unfold lX3_markTimesOfCrews_2
  dsimp only
  rw [h1, e4]
  refine hh_i (fun y => hh_v ?_) (fun y => ?_)
  · obtain rfl : q = nC r := by have := hle.mp y; omega
    exact ⟨fun k hk j hj i hi => by rw [hv k hk j hj i hi, if_pos hk], h1, h2⟩
  have hq2 : q < nC r := Nat.lt_of_not_le fun t => y (hle.mpr t)
  have hm2 : RM 1 z' r := RM_k hm (fun b _ => by rw [h1]) (h2 3 (by decide))
  have hpl := ok_pl hr (show q < 6 by omega)
  rw [x_placeOf (Or.inl rfl) hm2 hr (show q < 6 by omega), at_N _ (show plc r q < lenX 43 from hpl.2), h1, h43 _ hpl.2]
  have hT2 := hT q hq2
  have htl := tix_le hT2
  have et : tI (td (stf (layR r n)) (plc r q) c) + 1 = nI (tix (tmA r q c n)) := tix_x _
  rw [et]
  generalize htt : tix (tmA r q c n) = t at *
  have e1 : nI q * 4 + nI t / 64 = nI (4 * q + t / 64) := by
    rw [show (64 : Int32) = nI 64 from rfl, show (4 : Int32) = nI 4 from rfl, nI_quo (by omega) (by decide), pk_mul, nI_add, Nat.mul_comm]
  have e2 : nI t - nI t / 64 * 64 = nI (t % 64) := by
    rw [show (64 : Int32) = nI 64 from rfl, nI_quo (by omega) (by decide), pk_mul, nI_dif (by omega)]
    congr 1; omega
  have hidx : 4 * q + t / 64 < 24 := by omega
  rw [e1]
  have h45 : 4 * q + t / 64 < lenX 45 := hidx
  unfold sX3_markTimesOfCrews_63
  rw [e2, putb_N _ _ h45, bits_N _ h45]
  refine hh_v ⟨by omega, (z'.1, mm_ul z'.2 45 (4 * q + t / 64) (z'.2 45 (4 * q + t / 64) ||| ((1 : Int64) <<< (Int32.toInt64 (nI (t % 64)) &&& 63)))), ?_, hq2, fun k hk j hj i hi => ?_, h1, fun b hb => (rl_n _ _ hb).trans (h2 b hb)⟩
  · rw [nI_1]
  · show tb (mm_ul z'.2 45 (4 * q + t / 64) _ 45 (4 * k + j)) i = _
    by_cases x : 4 * k + j = 4 * q + t / 64
    · have hkq : k = q := by omega
      have hjt : j = t / 64 := by omega
      rw [x, rl_s, tb_or, tb_one (by omega), ← x, hv k hk j hj i hi, if_neg (by omega), if_pos (by omega), hitF_y hf, hkq, htt]
      show (_ || decide (i = t % 64)) = (if 64 * j + i = t then true else _)
      by_cases y2 : 64 * j + i = t
      · rw [if_pos y2, decide_eq_true (show i = t % 64 by omega), Bool.or_true]
      · rw [if_neg y2, decide_eq_false (show ¬ i = t % 64 by omega), Bool.or_false]
    · rw [rl_i _ _ x, hv k hk j hj i hi]
      by_cases y2 : k = q
      · rw [if_neg (by omega), if_pos (by omega), hitF_y hf, y2, htt]
        simp only [show ¬ 64 * j + i = t by omega, if_false]
      · have : (k < q ↔ k < q + 1) := by omega
        simp only [this]
def bsF (f : Nat → Nat) : Nat → Nat × Nat
  | 0 => (0, 0)
  | n + 1 => if (bsF f n).2 < f n then (n + 1, f n) else bsF f n
theorem bsF_y {f : Nat → Nat} {n : Nat} (h : (bsF f n).2 < f n) : bsF f (n + 1) = (n + 1, f n) := if_pos h
theorem bsF_n {f : Nat → Nat} {n : Nat} (h : ¬ (bsF f n).2 < f n) : bsF f (n + 1) = bsF f n := if_neg h
theorem bsF_le {f : Nat → Nat} {b : Nat} (h : ∀ c, f c ≤ b) : ∀ n, (bsF f n).1 ≤ n ∧ (bsF f n).2 ≤ b
  | 0 => ⟨Nat.le_refl _, Nat.zero_le _⟩
  | n + 1 => by
    have := bsF_le h n
    have := h n
    by_cases q : (bsF f n).2 < f n
    · rw [bsF_y q]; exact ⟨Nat.le_refl _, by assumption⟩
    · rw [bsF_n q]; omega
theorem x_most (hr : okR r) {c n : Nat} {z : mm_S} (hm : RM 1 z r) (hk0 : mkd r c n z) : hh_c (sX3_crewOfMostTimes z) (fun q => q = (mI (bsF (fun k => dsF r k c n) (nC r)).1, z)) := by
  have hn := ok_nC hr
  have e4 : z.1 1 4 = nI (nC r) := hm.2.1.trans hn.1
  have hb := bsF_le (f := fun k => dsF r k c n) (b := 256) (fun k => dsF_le r k c n)
  unfold sX3_crewOfMostTimes sX3_crewOfMostTimes_0 sX3_crewOfMostTimes_6
  refine hh_up (fun q s => s = (mI (bsF (fun k => dsF r k c n) q).1, nI (bsF (fun k => dsF r k c n) q).2, nI q, z) ∧ q ≤ nC r) 6 (by decide) ⟨rfl, Nat.zero_le _⟩ ?_
  rintro q s hq ⟨rfl, hqn⟩
  have hle : nI (nC r) ≤ nI q ↔ nC r ≤ q := nI_leI (by omega) (by omega)
  unfold lX3_crewOfMostTimes_6
  dsimp only
  rw [e4]
  refine hh_i (fun y => hh_v ?_) (fun y => ?_)
  · obtain rfl : q = nC r := by have := hle.mp y; omega
    rfl
  have hq2 : q < nC r := Nat.lt_of_not_le fun t => y (hle.mpr t)
  have hb2 := hb q
  unfold sX3_crewOfMostTimes_25
  have e0 : nI q * 4 = nI (4 * q + 0) := by rw [show (4 : Int32) = nI 4 from rfl, pk_mul, Nat.mul_comm]; rfl
  have e5 : (nI q + 1) * 4 = nI (4 * q + 4) := by rw [nI_1, show (4 : Int32) = nI 4 from rfl, pk_mul]; congr 1; omega
  rw [e0]
  refine hh_w (P := fun t => t = Sum.inl (mI (bsF (fun k => dsF r k c n) (q + 1)).1, nI (bsF (fun k => dsF r k c n) (q + 1)).2, nI (q + 1), z)) ?_ (fun t ht => by subst ht; exact ⟨by omega, rfl, hq2⟩)
  refine hh_up (fun j s => s = (mI (bsF (fun k => dsF r k c n) q).1, nI (bsF (fun k => dsF r k c n) q).2, nI q, nI (fb_ct (hitF r q c n) (64 * j)), nI (4 * q + j), z) ∧ j ≤ 4) 4 (by decide) ⟨rfl, by decide⟩ ?_
  rintro j s hj ⟨rfl, _⟩
  have hle2 : nI (4 * q + 4) ≤ nI (4 * q + j) ↔ 4 * q + 4 ≤ 4 * q + j := nI_leI (by omega) (by omega)
  unfold lX3_crewOfMostTimes_25
  dsimp only
  rw [e5]
  refine hh_i (fun y2 => ?_) (fun y2 => ?_)
  · obtain rfl : j = 4 := by have := hle2.mp y2; omega
    have hd : fb_ct (hitF r q c n) (64 * 4) = dsF r q c n := rfl
    have hdl := dsF_le r q c n
    rw [hd]
    have hc : nI (dsF r q c n) ≤ nI (bsF (fun k => dsF r k c n) q).2 ↔ dsF r q c n ≤ (bsF (fun k => dsF r k c n) q).2 := nI_leI (by omega) (by omega)
    refine hh_i (fun t => hh_v ?_) (fun t => hh_v ?_)
    · show _ = _
      rw [bsF_n (fun x => by have := hc.mp t; omega), nI_1]
    · have e : bsF (fun k => dsF r k c n) (q + 1) = (q + 1, dsF r q c n) := bsF_y (Nat.lt_of_not_le fun x => t (hc.mpr x))
      show _ = _
      rw [e, nI_1]
      dsimp only
      rw [mI_s]
  have hj2 : j < 4 := by
    have : ¬ 4 * q + 4 ≤ 4 * q + j := fun t => y2 (hle2.mpr t)
    omega
  have hidx : 4 * q + j < 24 := by omega
  have h45 : 4 * q + j < lenX 45 := hidx
  refine hh_v ⟨hj2, ?_, by omega⟩
  rw [bits_N _ h45, x_bits, nI_add, nI_1]
  have hs := fb_ct_split (hitF r q c n) (64 * j) 64
  have hcg : fb_ct (tb (z.2 45 (4 * q + j))) 64 = fb_ct (fun i => hitF r q c n (64 * j + i)) 64 := fb_ct_cong fun i hi => hk0 q hq2 j hj2 i hi
  rw [hcg, ← hs]
  rfl
end MK
theorem orN_s (m : Nat) (hm : m ≤ 10000) (z : mm_S) : ∃ q, sX3_orNone (mI m) z = some q := by
  unfold sX3_orNone sX3_orNone_0
  by_cases h : mI m = -1
  · rw [if_pos h, show (3 : Int32) = nI 3 from rfl, x_find 3 (by decide)]
    exact ⟨_, rfl⟩
  · rw [if_neg h]; exact ⟨_, rfl⟩
theorem told_s (m : Nat) (w : mm_S) : ∃ q, sX4_told (mI m) w = some q := by
  have e : sX4_finding (-1000004) w = sX4_finding (-1000001 - nI 3) w := rfl
  unfold sX4_told sX4_told_0
  rw [e, m_find 3 (by decide)]
  by_cases h : mI m < 0
  · rw [if_pos h]; exact ⟨_, rfl⟩
  · rw [if_neg h]
    by_cases h2 : mI m < 10000
    · rw [if_pos h2]; exact ⟨_, rfl⟩
    · rw [if_neg h2]; exact ⟨_, rfl⟩
theorem pp_q {X M : Option (Int32 × mm_S)} {z w : mm_S} (h : Rel z w) {m : Nat} (hm : m ≤ 10000) (hx : hh_c X (fun q => ∃ z', KX z z' ∧ sX3_orNone (mI m) z' = some q)) (hn : hh_c M (fun q => ∃ w', KM w w' ∧ sX4_told (mI m) w' = some q)) : PP X M := by
  obtain ⟨q, rfl, z', k1, e1⟩ := hx
  obtain ⟨p, rfl, w', k2, e2⟩ := hn
  rw [← e1, ← e2]
  exact pp_mI (Rel_K h k1 k2) m hm
theorem tm_ok {z w : mm_S} (h : Rel z w) {k c m : Nat} (hk : k < 6) (hm : m < 5 ^ nU (w.1 1)) : tmA (w.1 1) k c m ≤ 216 ∨ tmA (w.1 1) k c m = 10000 := by
  have hp := p5_le h.1
  obtain ⟨z', -, g1, -, -⟩ := x_layMap (Or.inl rfl) h.2.1 h.1 (show m < 625 by omega)
  have ht := tdb_of (o := 2) (Or.inl rfl) (ok_pl h.1 hk).2 g1.2.2.2.2.2.2.2.2.2
  have hl : tmA (w.1 1) k c m ≤ 10000 := wk_dle c
  by_cases y : tmA (w.1 1) k c m < 10000
  · exact Or.inl (td_le ht y)
  · exact Or.inr (by omega)
theorem hh_and {α : Type} {x : Option α} {P Q : α → Prop} (h : hh_c x P) (h2 : hh_c x Q) : hh_c x (fun a => P a ∧ Q a) := by
  obtain ⟨a, rfl, ha⟩ := h
  obtain ⟨b, e, hb⟩ := h2
  obtain rfl := Option.some.inj e
  exact ⟨a, rfl, ha, hb⟩
theorem x_begin45 {z w : mm_S} (h : Rel z w) : hh_c (sX3_beginMaps z) (fun q => q.2.2 45 = z.2 45) := by
  obtain ⟨g1, g2, g3⟩ := x_become (o := 25) (y := 1) (Or.inr (Or.inr ⟨rfl, rfl⟩)) h.2.1
  unfold sX3_beginMaps sX3_beginMaps_0 sX3_beginMaps_11
  dsimp only
  exact hh_v (g3 45 (by omega))
theorem x_draft45 {z : mm_S} {r rd : Nat → Int32} (hm : RM 25 z rd) (hl : likeR r rd) {m : Nat} (hm5 : m < 625) (hr : okR r) : hh_c (sX3_draftFitsAs (nI m) z) (fun q => q.2.2 45 = z.2 45) := by
  unfold sX3_draftFitsAs sX3_draftFitsAs_0 sX3_draftFitsAs_8 sX3_draftFitsAs_15 sX3_draftFitsAs_19
  refine hh_bd (x_layMap (Or.inr (Or.inr rfl)) hm hl.1 hm5) (fun z1 h1 => ?_)
  obtain ⟨g1, g2, g3⟩ := h1
  rw [hl.2.2 m] at g1
  refine hh_bd (x_firstWrong (Or.inr (Or.inr rfl)) g1 (layR_ok hr m)) (fun q hq => ?_)
  obtain ⟨v, z2⟩ := q
  obtain ⟨-, hf⟩ := hq
  dsimp only at hf ⊢
  have e : z2.2 45 = z.2 45 := (hf.2 45 (by omega) (by omega)).trans (g3 45 (by omega))
  exact hh_i (fun _ => hh_v e) (fun _ => hh_v e)
theorem mkd_c {r : Nat → Int32} {c n : Nat} {z z' : mm_S} (h : mkd r c n z) (e : z'.2 45 = z.2 45) : mkd r c n z' := fun k hk j hj i hi => by rw [e]; exact h k hk j hj i hi
theorem pq_asks {z w : mm_S} (h : Rel z w) (x1 : Int32) : PP (sX3_asks x1 z) (sX4_asks x1 w) := by
  have hp := p5_le h.1
  obtain ⟨e1, e2, e3⟩ := r_nC h
  unfold sX3_asks sX3_asks_0 sX3_asks_4 sX4_asks sX4_asks_0
  refine pp_if (x_isCell _) (m_isCell _) (fun _ => pp_b (pp_f0 h)) (fun hc => ?_)
  obtain ⟨c, hc, rfl⟩ := hc
  have hb := bsF_le (f := fun k => dsF (w.1 1) k c (5 ^ nU (w.1 1))) (b := 256) (fun k => dsF_le (w.1 1) k c _)
  refine pp_q (m := (bsF (fun k => dsF (w.1 1) k c (5 ^ nU (w.1 1))) (nC (w.1 1))).1) h (by have := hb (nC (w.1 1)); omega) ?_ ?_
  · unfold sX3_asks_13 sX3_asks_21 tJ7_fill_d0a16
    dsimp only
    have h24 : lenX 45 = 24 := rfl
    rw [h24]
    generalize hz0 : ((z.1, mm_rw z.2 45 (mm_fr 24 0 (z.2 45))) : mm_S) = z0
    have hk0 : KX z z0 := by
      subst hz0
      exact ⟨fun _ _ => rfl, fun b hb => mm_rw_n _ _ (by omega)⟩
    have hz45 : ∀ i, i < 24 → z0.2 45 i = 0 := fun i hi => by
      subst hz0
      show mm_rw z.2 45 (mm_fr 24 0 (z.2 45)) 45 i = 0
      rw [mm_rw_s]
      unfold mm_fr
      rw [if_pos hi]
    have h0 : Rel z0 w := Rel_K h hk0 (KM_0 w)
    refine hh_bd (hh_and (x_begin h0) (x_begin45 h0)) (fun q hq => ?_)
    obtain ⟨v, z1⟩ := q
    obtain ⟨⟨e5, hm, hk⟩, h45⟩ := hq
    dsimp only at e5 hm hk h45 ⊢
    subst e5
    unfold sX3_asks_26 sX3_asks_28
    refine hh_up (fun j s => ∃ z' rd, s = (nI c, nI (5 ^ nU (w.1 1)), nI j, z') ∧ j ≤ 5 ^ nU (w.1 1) ∧ RM 25 z' rd ∧ likeR (w.1 1) rd ∧ mkd (w.1 1) c j z' ∧ KX z z') (5 ^ nU (w.1 1)) (by omega) ⟨z1, w.1 1, rfl, Nat.zero_le _, hm, like_0 h.1, ?_, KX_t hk0 hk⟩ ?_
    · intro k hk j hj i hi
      rw [h45, hz45 _ (by omega), tb_0]
      rfl
    rintro j s hj ⟨z', rd, rfl, hjn, hR, hl, hmk, hk2⟩
    have hle : nI (5 ^ nU (w.1 1)) ≤ nI j ↔ 5 ^ nU (w.1 1) ≤ j := nI_leI (by omega) (by omega)
    unfold lX3_asks_28
    dsimp only
    refine hh_i (fun y => ?_) (fun y => ?_)
    · obtain rfl : j = 5 ^ nU (w.1 1) := by have := hle.mp y; omega
      refine hh_bd (x_most h.1 (RM_K (Or.inl rfl) h.2.1 hk2) hmk) (fun q hq => ?_)
      subst hq
      dsimp only
      obtain ⟨q, hq⟩ := orN_s _ (show (bsF (fun k => dsF (w.1 1) k c (5 ^ nU (w.1 1))) (nC (w.1 1))).1 ≤ 10000 by have := hb (nC (w.1 1)); omega) z'
      rw [hq]
      exact hh_v ⟨z', hk2, hq⟩
    have hj2 : j < 5 ^ nU (w.1 1) := Nat.lt_of_not_le fun t => y (hle.mpr t)
    refine hh_bd (hh_and (x_draft hR hl (show j < 625 by omega) h.1) (x_draft45 hR hl (show j < 625 by omega) h.1)) (fun q hq => ?_)
    obtain ⟨u, z2⟩ := q
    obtain ⟨⟨k1, k2, k3, k4⟩, k5⟩ := hq
    dsimp only at k1 k2 k3 k4 k5 ⊢
    have hk3 : KX z z2 := KX_t hk2 k4
    unfold sX3_asks_38
    refine hh_i (fun t => ?_) (fun t => ?_)
    · unfold sX3_asks_60
      refine hh_v ⟨hj2, z2, _, by rw [nI_1], hj2, k3, like_l h.1 j, ?_, hk3⟩
      intro k hk i hi b hb
      rw [hitF_n j (k1.mp t), k5]
      exact hmk k hk i hi b hb
    have hft : fitR (layR (w.1 1) j) := Classical.byContradiction fun x => t (k1.mpr x)
    have hsb : sb 26 z2 (stf (layR (w.1 1) j)) := k3.2.2.2.2.2.2.2.2.2
    unfold sX3_asks_41 sX3_asks_56 sX3_asks_60
    refine hh_bd (x_timesTo (o := 26) (x := 43) (Or.inr (Or.inr rfl)) hc rfl (by decide) hsb) (fun z3 h3 => ?_)
    obtain ⟨f1, f2⟩ := h3
    have hk4 : KX z z3 := KX_t hk3 (KX_T (Or.inr (Or.inr rfl)) (Or.inl rfl) f2)
    have hR3 : RM 25 z3 (layR (w.1 1) j) := RM_k k3 (fun b hb => f2.1 b (by omega) (by omega)) (f2.2 27 (by decide) (by decide))
    refine hh_bd (x_marks h.1 hft (fun k hk => tm_ok h (by omega) hj2) (RM_K (Or.inl rfl) h.2.1 hk4) (fun a ha => by rw [f1 a ha, td_bd ha hc]) (mkd_c hmk ((f2.2 45 (by decide) (by decide)).trans k5))) (fun z4 h4 => ?_)
    obtain ⟨g1, g2, g3⟩ := h4
    exact hh_v ⟨hj2, z4, _, by rw [nI_1], hj2, RM_k hR3 (fun b _ => by rw [g2]) (g3 27 (by decide)), like_l h.1 j, g1, KX_t hk4 ⟨fun b _ => by rw [g2], fun b hb => g3 b (by omega)⟩⟩
  · unfold sX4_asks_14 sX4_asks_21
    refine hh_up (fun q s => ∃ w', s = (nI c, mI (bsF (fun k => dsF (w.1 1) k c (5 ^ nU (w.1 1))) q).1, nI (bsF (fun k => dsF (w.1 1) k c (5 ^ nU (w.1 1))) q).2, nI q, w') ∧ q ≤ nC (w.1 1) ∧ w'.1 1 = w.1 1 ∧ KM w w') 6 (by decide) ⟨w, rfl, Nat.zero_le _, rfl, KM_0 w⟩ ?_
    rintro q s hq ⟨w', rfl, hqn, hw1, hkm⟩
    have hle : nI (nC (w.1 1)) ≤ nI q ↔ nC (w.1 1) ≤ q := nI_leI (by omega) (by omega)
    have hb2 := hb q
    unfold lX4_asks_21
    dsimp only
    rw [hw1, e2]
    refine hh_i (fun y => ?_) (fun y => ?_)
    · obtain rfl : q = nC (w.1 1) := by have := hle.mp y; omega
      obtain ⟨p, hp2⟩ := told_s (bsF (fun k => dsF (w.1 1) k c (5 ^ nU (w.1 1))) (nC (w.1 1))).1 w'
      rw [hp2]
      exact hh_v ⟨w', hkm, hp2⟩
    have hq2 : q < nC (w.1 1) := Nat.lt_of_not_le fun t => y (hle.mpr t)
    refine hh_bd (m_unlike h.1 (show q < 6 by omega) hc (fun m hm => tm_ok h (by omega) hm) hw1) (fun t ht => ?_)
    obtain ⟨v, w2⟩ := t
    obtain ⟨rfl, g1, g2⟩ := ht
    dsimp only at g1 g2 ⊢
    have hdl := dsF_le (w.1 1) q c (5 ^ nU (w.1 1))
    have hcm : nI (dsF (w.1 1) q c (5 ^ nU (w.1 1))) ≤ nI (bsF (fun k => dsF (w.1 1) k c (5 ^ nU (w.1 1))) q).2 ↔ dsF (w.1 1) q c (5 ^ nU (w.1 1)) ≤ (bsF (fun k => dsF (w.1 1) k c (5 ^ nU (w.1 1))) q).2 := nI_leI (by omega) (by omega)
    have hk2 : KM w w2 := by
      refine KM_t hkm ⟨fun b hb => ?_, by rw [g2 0 (by omega)], by rw [g2 0 (by omega)]⟩
      by_cases x : b = 1
      · rw [x, g1, hw1]
      · exact g2 b (by omega)
    unfold sX4_asks_41
    have hmx : ∀ a b : Nat, a < 1000 → b < 1000 → mm_max (nI a) (nI b) = nI (max a b) := by
      intro a b ha hb
      show (if nI a < nI b then nI b else nI a) = _
      by_cases t : a < b
      · rw [if_pos (nI_lt t (by omega)), Nat.max_eq_right (by omega)]
      · rw [if_neg (nI_nlt (by omega) (by omega)), Nat.max_eq_left (by omega)]
    rw [hmx _ _ (by omega) (by omega)]
    refine hh_i (fun t => hh_v ⟨by omega, w2, ?_, hq2, g1, hk2⟩) (fun t => hh_v ⟨by omega, w2, ?_, hq2, g1, hk2⟩)
    · have := hcm.mp t
      rw [bsF_n (by omega), nI_1, Nat.max_eq_left this]
    · have x : (bsF (fun k => dsF (w.1 1) k c (5 ^ nU (w.1 1))) q).2 < dsF (w.1 1) q c (5 ^ nU (w.1 1)) := Nat.lt_of_not_le fun x => t (hcm.mpr x)
      rw [bsF_y x, nI_1, Nat.max_eq_right (by omega), mI_s]
