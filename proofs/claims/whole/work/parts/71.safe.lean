/-! ===== safe ===== -/
noncomputable def ddF (r : Nat → Int32) : Nat → Nat → Bool
  | 0 => dryP (stf r)
  | n + 1 => @ite _ (fitR (layR r n)) (Classical.propDecidable _) (fun c => ddF r n c && dryP (stf (layR r n)) c) (ddF r n)
theorem ddF_n {r : Nat → Int32} (n : Nat) (h : ¬ fitR (layR r n)) : ddF r (n + 1) = ddF r n := if_neg h
theorem ddF_y {r : Nat → Int32} {n : Nat} (h : fitR (layR r n)) : ddF r (n + 1) = fun c => ddF r n c && dryP (stf (layR r n)) c := if_pos h
theorem ls_and (P Q : Nat → Bool) : ls64 P 36 &&& ls64 Q 36 = ls64 (fun c => P c && Q c) 36 := tb_extS (tb_andS tb_lsS) tb_lsS fun i hi => by
  rw [tb_and, tb_ls (by decide), tb_ls (by decide), tb_ls (by decide)]
  simp [hi]
def anI (n : Nat) : Int32 := if n = 0 then 0 else 1
theorem anI_0 (n : Nat) : anI n = 0 ↔ n = 0 := by
  unfold anI
  by_cases h : n = 0
  · rw [if_pos h]; exact ⟨fun _ => h, fun _ => rfl⟩
  · rw [if_neg h]; exact ⟨fun t => absurd t (by decide), fun t => absurd t h⟩
theorem anI_s (n : Nat) : anI (n + 1) = 1 := if_neg (by omega)
theorem orT_s (d : Nat) (z : mm_S) : ∃ q, sX3_orNone (tI d) z = some q := by
  unfold sX3_orNone sX3_orNone_0
  by_cases h : tI d = -1
  · rw [if_pos h, show (3 : Int32) = nI 3 from rfl, x_find 3 (by decide)]
    exact ⟨_, rfl⟩
  · rw [if_neg h]; exact ⟨_, rfl⟩
theorem orT_n (z : mm_S) : sX3_orNone (tI 10000) z = sX3_finding 3 z := by
  unfold sX3_orNone sX3_orNone_0
  rw [if_pos (tI_m.mpr (by omega)), show (3 : Int32) = nI 3 from rfl, x_find 3 (by decide)]
  rfl
theorem toldN_s (d : Nat) (w : mm_S) : ∃ q, sX4_told (nI d) w = some q := by
  have := told_s (d + 1) w
  rw [mI_s] at this
  exact this
theorem pp_t {X M : Option (Int32 × mm_S)} {z w : mm_S} (h : Rel z w) {d : Nat} (hd : d ≤ 10000) (hx : hh_c X (fun q => ∃ z', KX z z' ∧ sX3_orNone (tI d) z' = some q)) (hn : hh_c M (fun q => ∃ w', KM w w' ∧ sX4_told (nI d) w' = some q)) : PP X M := by
  obtain ⟨q, rfl, z', k1, e1⟩ := hx
  obtain ⟨p, rfl, w', k2, e2⟩ := hn
  rw [← e1, ← e2]
  exact pp_told (Rel_K h k1 k2) d hd
section SF
variable {r : Nat → Int32}
theorem m_dryAll (hr : okR r) {w : mm_S} (hw : w.1 1 = r) : hh_c (sX4_dryInAll w) (fun q => q.1 = (if cntF r (5 ^ nU r) = 0 then 0 else ls64 (ddF r (5 ^ nU r)) 36) ∧ q.2.1 1 = r ∧ ∀ b, ¬ (b = 1 ∨ b = 5) → q.2.1 b = w.1 b) := by
  have hn := ok_nU hr
  have hp := p5_le hr
  have hm := mapR_lt hr
  unfold sX4_dryInAll sX4_dryInAll_0
  refine hh_bd (m_mapNow hw hr) (fun q hq => ?_)
  subst hq
  unfold sX4_dryInAll_5
  refine hh_bd (m_dry (ok_ms hr hw)) (fun q hq => ?_)
  subst hq
  unfold sX4_dryInAll_10
  refine hh_bd (m_nextFit (rd := r) hw hr (like_0 hr) (a := 0) (Nat.zero_le _)) (fun q hq => ?_)
  obtain ⟨v, w2⟩ := q
  obtain ⟨b, rd', k1, k2, k3, k4, k5, k6⟩ := hq
  dsimp only at k2 k3 k6 ⊢
  subst k2
  unfold sX4_dryInAll_20
  refine hh_ms (fun s => ∃ (b : Nat) (w' : mm_S), s = (nI (mapR r), ls64 (ddF r b) 36, anI (cntF r b), nI b, w') ∧ likeR r (w'.1 1) ∧ b ≤ 5 ^ nU r ∧ (b < 5 ^ nU r → fitR (layR r b) ∧ w'.1 1 = layR r b) ∧ ∀ b, ¬ (b = 1 ∨ b = 5) → w'.1 b = w.1 b) (fun s => 625 - gN s.2.2.2.1) ⟨b, w2, ?_, by rw [k3]; exact k4, k1.2.1, fun t => ⟨k1.2.2.2 t, by rw [k3]; exact k5 t⟩, fun b hb => k6 b (by omega) (by omega)⟩ (by dsimp only; omega) ?_
  · rw [fold_nx (F := ddF r) ddF_n k1, fold_nx (F := cntF r) cntF_n k1]; rfl
  clear k1 k3 k4 k5 k6
  rintro s ⟨b, wi, rfl, h1, h2, h3, h5⟩
  have e3 : wi.1 1 3 = nI (nU r) := by rw [h1.2.1 3 (by omega)]; exact hn.1
  have hgb : gN (nI b) = b := nI_clamp (by omega)
  have hle : nI (5 ^ nU r) ≤ nI b ↔ 5 ^ nU r ≤ b := nI_leI (by omega) (by omega)
  unfold lX4_dryInAll_20
  dsimp only
  refine hh_bd (m_maps (r := r) e3 hn.2) (fun q hq => ?_)
  subst hq
  dsimp only
  refine hh_i (fun y => ?_) (fun y => ?_)
  · obtain rfl : b = 5 ^ nU r := by have := hle.mp y; omega
    refine hh_bd (m_lay rfl h1.1 (show mapR r < 625 by omega)) (fun w4 hw4 => ?_)
    obtain ⟨k1, k2⟩ := hw4
    rw [h1.2.2, layR_map hr] at k1
    have fr : ∀ b, ¬ (b = 1 ∨ b = 5) → w4.1 b = w.1 b := fun b hb => (k2 b (by omega)).trans (h5 b hb)
    unfold sX4_dryInAll_57
    by_cases t : cntF r (5 ^ nU r) = 0
    · rw [if_pos ((anI_0 _).mpr t), if_pos t]
      exact hh_v ⟨rfl, k1, fr⟩
    · rw [if_neg (fun x => t ((anI_0 _).mp x)), if_neg t]
      exact hh_v ⟨rfl, k1, fr⟩
  have hb : b < 5 ^ nU r := Nat.lt_of_not_le fun t => y (hle.mpr t)
  obtain ⟨hfit, hw1⟩ := h3 hb
  have hr2 := layR_ok hr b
  unfold sX4_dryInAll_29
  refine hh_bd (m_dry (ok_ms hr2 hw1)) (fun q hq => ?_)
  subst hq
  unfold sX4_dryInAll_36
  dsimp only
  rw [nI_1]
  refine hh_bd (m_nextFit (w := wi) (rd := layR r b) hw1 hr (like_l hr b) (a := b + 1) (by omega)) (fun q hq => ?_)
  obtain ⟨v, w5⟩ := q
  obtain ⟨b', rd', k1, k2, k3, k4, k5, k6⟩ := hq
  dsimp only at k2 k3 k6 ⊢
  subst k2
  have hb1 := k1.1
  have hb2 := k1.2.1
  unfold sX4_dryInAll_49
  refine hh_v ⟨⟨b', w5, ?_, by rw [k3]; exact k4, k1.2.1, fun t => ⟨k1.2.2.2 t, by rw [k3]; exact k5 t⟩, fun a ha => (k6 a (by omega) (by omega)).trans (h5 a ha)⟩, ?_⟩
  · rw [fold_nx (F := ddF r) ddF_n k1, fold_nx (F := cntF r) cntF_n k1, ddF_y hfit, cntF_y hfit, anI_s, ls_and]
  · dsimp only
    rw [hgb, show gN (nI b') = b' from nI_clamp (by omega)]
    omega
end SF
theorem cd_0 (st : Nat → Nat) (a c : Nat) : cd st (tb 0) a c = 10000 := wk_dN fun k hk => by
  have : ∀ c k, wk_W (cS st (tb 0) a) (cE st (tb 0)) c k → False := by
    refine wk_ind (fun c k hs => ?_) (fun b j c e _ ih _ => ih)
    have := hs.2.2.2
    rw [tb_0] at this
    cases this
  exact this c k hk
theorem pq_safe {z w : mm_S} (h : Rel z w) (x1 x2 : Int32) : PP (sX3_safe x1 x2 z) (sX4_safe x1 x2 w) := by
  have hp := p5_le h.1
  unfold sX3_safe sX3_safe_0 sX3_safe_4 sX4_safe sX4_safe_0
  refine pp_if (x_isCell _) (m_isCell _) (fun _ => pp_b (pp_f0 h)) (fun hc => ?_)
  unfold sX3_safe_11
  refine pp_if (x_isCell _) (m_isCell _) (fun _ => pp_b (pp_f0 h)) (fun hv => ?_)
  obtain ⟨a, ha, rfl⟩ := hc
  obtain ⟨t, ht, rfl⟩ := hv
  have hcl := cntF_le (r := w.1 1) (5 ^ nU (w.1 1))
  refine pp_t (d := if cntF (w.1 1) (5 ^ nU (w.1 1)) = 0 then 10000 else cd (stf (w.1 1)) (tb (ls64 (ddF (w.1 1) (5 ^ nU (w.1 1))) 36)) a t) h ?_ ?_ ?_
  · split
    · exact Nat.le_refl _
    · exact wk_dle t
  · unfold sX3_safe_20 sX3_safe_31
    rw [x_dryC (r_sb h)]
    refine hh_bd (x_begin h) (fun q hq => ?_)
    obtain ⟨v, z1⟩ := q
    obtain ⟨e1, hm, hk⟩ := hq
    dsimp only at e1 hm hk ⊢
    subst e1
    unfold sX3_safe_40 sX3_safe_43
    refine hh_up (fun j s => ∃ z' rd, s = (nI a, nI t, ls64 (ddF (w.1 1) j) 36, anI (cntF (w.1 1) j), nI (5 ^ nU (w.1 1)), nI j, z') ∧ j ≤ 5 ^ nU (w.1 1) ∧ RM 25 z' rd ∧ likeR (w.1 1) rd ∧ KX z z') (5 ^ nU (w.1 1)) (by omega) ⟨z1, w.1 1, rfl, Nat.zero_le _, hm, like_0 h.1, hk⟩ ?_
    rintro j s hj ⟨z', rd, rfl, hjn, hR, hl, hk2⟩
    have hle : nI (5 ^ nU (w.1 1)) ≤ nI j ↔ 5 ^ nU (w.1 1) ≤ j := nI_leI (by omega) (by omega)
    unfold lX3_safe_43
    dsimp only
    refine hh_i (fun y => ?_) (fun y => ?_)
    · obtain rfl : j = 5 ^ nU (w.1 1) := by have := hle.mp y; omega
      by_cases n0 : cntF (w.1 1) (5 ^ nU (w.1 1)) = 0
      · rw [if_pos ((anI_0 _).mpr n0), if_pos n0]
        obtain ⟨q, hq⟩ := orT_s 10000 z'
        have hq2 := hq
        rw [orT_n] at hq2
        rw [hq2]
        exact hh_v ⟨z', hk2, hq⟩
      · rw [if_neg (fun x => n0 ((anI_0 _).mp x)), if_neg n0]
        have hsb : sb 2 z' (stf (w.1 1)) := (RM_K (Or.inl rfl) h.2.1 hk2).2.2.2.2.2.2.2.2.2
        unfold sX3_safe_92
        obtain ⟨q, hq⟩ := orT_s (cd (stf (w.1 1)) (tb (ls64 (ddF (w.1 1) (5 ^ nU (w.1 1))) 36)) a t) z'
        obtain ⟨q2, f2, rfl⟩ := x_costOfWay (O := ls64 (ddF (w.1 1) (5 ^ nU (w.1 1))) 36) tb_lsS (hol_x hsb) ha ht z'
        rw [f2]
        dsimp only [Option.bind]
        rw [hq]
        exact hh_v ⟨z', hk2, hq⟩
    have hj2 : j < 5 ^ nU (w.1 1) := Nat.lt_of_not_le fun t => y (hle.mpr t)
    refine hh_bd (x_draft hR hl (show j < 625 by omega) h.1) (fun q hq => ?_)
    obtain ⟨u, z2⟩ := q
    obtain ⟨k1, k2, k3, k4⟩ := hq
    dsimp only at k1 k2 k3 k4 ⊢
    unfold sX3_safe_56 sX3_safe_59
    refine hh_i (fun t => hh_v ⟨hj2, z2, _, ?_, hj2, k3, like_l h.1 j, KX_t hk2 k4⟩) (fun t => hh_v ⟨hj2, z2, _, ?_, hj2, k3, like_l h.1 j, KX_t hk2 k4⟩)
    · rw [cntF_n j (k1.mp t), ddF_n j (k1.mp t), nI_1]
    · have hft : fitR (layR (w.1 1) j) := Classical.byContradiction fun x => t (k1.mpr x)
      rw [cntF_y hft, ddF_y hft, nI_1, anI_s, x_dryC (o := 26) k3.2.2.2.2.2.2.2.2.2, ls_and]
  · unfold sX4_safe_21
    refine hh_bd (m_dryAll h.1 rfl) (fun q hq => ?_)
    obtain ⟨O, w2⟩ := q
    obtain ⟨e1, e2, e3⟩ := hq
    dsimp only at e1 e2 e3 ⊢
    have hO : tb_S O := by
      rw [e1]; split
      · exact tb_S0
      · exact tb_lsS
    have hk2 : KM w w2 := ⟨fun b hb => by
      by_cases x : b = 1
      · rw [x, e2]
      · exact e3 b (by omega), by rw [e3 0 (by omega)], by rw [e3 0 (by omega)]⟩
    refine hh_bd (m_findCosts hO ha (ok_ms h.1 e2)) (fun w3 hw => ?_)
    obtain ⟨f1, f2⟩ := hw
    have hk3 : KM w w3 := KM_t hk2 (KM_1 (k := 12) (by decide) f2)
    unfold sX4_safe_30
    refine hh_f (gI ht (by decide)) ?_
    rw [nI_clamp (by omega), f1 t ht]
    have he : cd (stf (w.1 1)) (tb O) a t = if cntF (w.1 1) (5 ^ nU (w.1 1)) = 0 then 10000 else cd (stf (w.1 1)) (tb (ls64 (ddF (w.1 1) (5 ^ nU (w.1 1))) 36)) a t := by
      rw [e1]
      by_cases n0 : cntF (w.1 1) (5 ^ nU (w.1 1)) = 0
      · rw [if_pos n0, if_pos n0, cd_0]
      · rw [if_neg n0, if_neg n0]
    rw [he]
    obtain ⟨p, hp2⟩ := toldN_s (if cntF (w.1 1) (5 ^ nU (w.1 1)) = 0 then 10000 else cd (stf (w.1 1)) (tb (ls64 (ddF (w.1 1) (5 ^ nU (w.1 1))) 36)) a t) w3
    rw [hp2]
    exact hh_v ⟨w3, hk3, hp2⟩
