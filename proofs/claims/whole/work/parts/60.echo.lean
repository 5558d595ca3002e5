/-! ===== echoes ===== -/
/-- the least of some sums (10000: none below) -/
def mnP (Q : Nat → Prop) (V : Nat → Nat) (m : Nat) : Prop := m ≤ 10000 ∧ (∀ c, Q c → m ≤ V c) ∧ (m = 10000 ∨ ∃ c, Q c ∧ V c = m)
theorem mnP_1 {Q : Nat → Prop} {V : Nat → Nat} {m n : Nat} (h : mnP Q V m) (h2 : mnP Q V n) : m = n := by
  have key : ∀ m n, mnP Q V m → mnP Q V n → m ≤ n := fun m n h h2 => by
    rcases h2.2.2 with e | ⟨c, hc, e⟩
    · rw [e]; exact h.1
    · rw [← e]; exact h.2.1 c hc
  have a := key m n h h2
  have b := key n m h2 h
  omega
theorem mnP_0 {Q : Nat → Prop} {V : Nat → Nat} (h : ∀ c, ¬ Q c) : mnP Q V 10000 := ⟨Nat.le_refl _, fun c hc => absurd hc (h c), Or.inl rfl⟩
/-- one more -/
theorem mnP_s {Q Q' : Nat → Prop} {V : Nat → Nat} {m j : Nat} (h : mnP Q V m) (hq : ∀ c, Q' c ↔ Q c ∨ c = j) : mnP Q' V (if V j < m then V j else m) := by
  obtain ⟨h1, h2, h3⟩ := h
  by_cases x : V j < m
  · rw [if_pos x]
    refine ⟨by omega, fun c hc => ?_, Or.inr ⟨j, (hq j).mpr (Or.inr rfl), rfl⟩⟩
    rcases (hq c).mp hc with y | rfl
    · have := h2 c y; omega
    · exact Nat.le_refl _
  · rw [if_neg x]
    refine ⟨h1, fun c hc => ?_, h3.imp id fun ⟨c, hc, e⟩ => ⟨c, (hq c).mpr (Or.inl hc), e⟩⟩
    rcases (hq c).mp hc with y | rfl
    · exact h2 c y
    · omega
theorem mnP_c {Q Q' : Nat → Prop} {V : Nat → Nat} {m : Nat} (h : mnP Q V m) (hq : ∀ c, Q' c ↔ Q c) : mnP Q' V m := ⟨h.1, fun c hc => h.2.1 c ((hq c).mp hc), h.2.2.imp id fun ⟨c, hc, e⟩ => ⟨c, (hq c).mpr hc, e⟩⟩
theorem mnP_b {Q Q' : Nat → Prop} {V : Nat → Nat} {m j : Nat} (h : mnP Q V m) (hj : m ≤ V j) (hq : ∀ c, Q' c → Q c ∨ c = j) (hq2 : ∀ c, Q c → Q' c) : mnP Q' V m := ⟨h.1, fun c hc => by
  rcases hq c hc with y | rfl
  · exact h.2.1 c y
  · exact hj, h.2.2.imp id fun ⟨c, hc, e⟩ => ⟨c, hq2 c hc, e⟩⟩
/-- ECHO of a hole: out of the least sum -/
def ecV (r : Nat → Int32) (k e : Nat) : Nat := if e + 1 ≤ car (knd r k) (frc r k) then e + 1 + sta (knd r k) else 10000
def esV (F G : Nat → Nat) (c : Nat) : Nat := F c + G c
section EC
variable {r : Nat → Int32} {F G : Nat → Nat}
theorem ecV_le (hr : okR r) {k : Nat} (hk : k < 6) (e : Nat) : ecV r k e ≤ 10000 := by
  have hc := car_le (k := knd r k) (ok_fc hr hk).2
  have hs := sta_le (knd r k)
  unfold ecV
  by_cases q : e + 1 ≤ car (knd r k) (frc r k)
  · rw [if_pos q]; omega
  · rw [if_neg q]; omega
theorem x_echoOf {z : mm_S} (hm : RM 1 z r) (hr : okR r) {k h : Nat} (hk : k < 6) (hh : h < 36) (hF : ∀ c, F c ≤ 216 ∨ F c = 10000) (hG : ∀ c, G c ≤ 300 ∨ G c = 10000) (h1 : ∀ c, c < 36 → z.1 43 c = tI (F c)) (h2 : ∀ c, c < 36 → z.1 44 c = tI (G c)) :
    hh_c (sX3_echoOf (nI k) (nI h) z) (fun q => q.2 = z ∧ ∃ e, mnP (ad h) (esV F G) e ∧ q.1 = tI (ecV r k e)) := by
  have o1 : (1 : Nat) = 1 ∨ (1 : Nat) = 13 ∨ (1 : Nat) = 25 := Or.inl rfl
  have hc := car_le (k := knd r k) (ok_fc hr hk).2
  have hst := sta_le (knd r k)
  unfold sX3_echoOf sX3_echoOf_0 sX3_echoOf_8 sX3_echoOf_14
  have hS := tb_besS (tb_setS hh)
  have had : ∀ c, c < 36 → (tb (pX3_besides (pX3_setOf (nI h))) c = true ↔ ad h c) := fun c hc => by
    rw [tb_bes (tb_setS hh) hc]
    constructor
    · rintro ⟨b, hb, q⟩
      rw [tb_set (by omega)] at hb
      have : b = h := by simpa using hb
      subst this; exact q
    · intro q
      exact ⟨h, by rw [tb_set (by omega)]; simp, q⟩
  generalize pX3_besides (pX3_setOf (nI h)) = ar at *
  refine hh_up (fun j s => ∃ e, s = (nI k, ar, (if e = 10000 then -1 else nI (e + 1)), nI j, z) ∧ (e = 10000 ∨ e ≤ 516) ∧ mnP (fun c => ad h c ∧ c < j) (esV F G) e) 36 (by decide) ⟨10000, rfl, Or.inl rfl, mnP_0 fun c q => by omega⟩ ?_
  rintro j s hj ⟨e, rfl, he, hmn⟩
  have h36 : (36 : Int32) ≤ nI j ↔ 36 ≤ j := nI_leI (a := 36) (by decide) (by omega)
  unfold lX3_echoOf_14
  dsimp only
  refine hh_i (fun q => ?_) (fun q => ?_)
  · obtain rfl : j = 36 := by have := h36.mp q; omega
    have hfin : mnP (ad h) (esV F G) e := mnP_c hmn fun c => ⟨fun y => ⟨y, y.2.1⟩, fun y => y.1⟩
    rw [x_carriesOf o1 hm hr hk, x_kindOf o1 hm hr hk, x_sta _ (ok_kn hr hk).2]
    by_cases x : e = 10000
    · rw [if_pos x]
      refine hh_t rfl (hh_v ⟨rfl, e, hfin, ?_⟩)
      unfold ecV
      rw [if_neg (by omega)]; rfl
    · rw [if_neg x]
      refine hh_f (nI_nm (by omega)) (hh_i (fun y => hh_v ⟨rfl, e, hfin, ?_⟩) (fun y => hh_v ⟨rfl, e, hfin, ?_⟩))
      · have := (nI_leI (by omega) (by omega)).mp y
        unfold ecV
        rw [if_pos this, tI_1 (by omega), nI_add]
      · unfold ecV
        rw [if_neg (fun t => y (nI_le t (by omega)))]; rfl
  have hj2 : j < 36 := Nat.lt_of_not_le fun y => q (h36.mpr y)
  unfold sX3_echoOf_32 sX3_echoOf_43 sX3_echoOf_49 sX3_echoOf_93
  rw [at_N _ (show j < lenX 43 from hj2), at_N _ (show j < lenX 44 from hj2), h1 j hj2, h2 j hj2]
  have skip : (∀ c, ad h c ∧ c < j + 1 → (ad h c ∧ c < j) ∨ (c = j ∧ e ≤ esV F G j)) → mm_mt (fun s' => j < 36 ∧ ∃ e, s' = (nI k, ar, (if e = 10000 then (-1 : Int32) else nI (e + 1)), nI (j + 1), z) ∧ (e = 10000 ∨ e ≤ 516) ∧ mnP (fun c => ad h c ∧ c < j + 1) (esV F G) e) (fun q : Int32 × mm_S => q.2 = z ∧ ∃ e, mnP (ad h) (esV F G) e ∧ q.1 = tI (ecV r k e)) (Sum.inl (nI k, ar, (if e = 10000 then (-1 : Int32) else nI (e + 1)), nI j + 1, z)) := fun hsk => by
    refine ⟨hj2, e, by rw [nI_1], he, hmn.1, fun c hc => ?_, hmn.2.2.imp id fun ⟨c, hc, q⟩ => ⟨c, ⟨hc.1, by omega⟩, q⟩⟩
    rcases hsk c hc with y | ⟨rfl, y⟩
    · exact hmn.2.1 c y
    · exact y
  have inf : esV F G j ≥ 10000 → ∀ c, ad h c ∧ c < j + 1 → (ad h c ∧ c < j) ∨ (c = j ∧ e ≤ esV F G j) := fun hi c hc => by
    by_cases y : c = j
    · exact Or.inr ⟨y, Nat.le_trans hmn.1 hi⟩
    · exact Or.inl ⟨hc.1, by omega⟩
  refine hh_i (fun y => hh_v (skip fun c hc => ?_)) (fun y => hh_i (fun y2 => hh_v (skip (inf ?_))) (fun y2 => hh_i (fun y3 => hh_v (skip (inf ?_))) (fun y3 => ?_)))
  · have hb := (tb_has0 (by omega)).mp y
    by_cases t : c = j
    · subst t
      rw [(had c hj2).mpr hc.1] at hb
      cases hb
    · exact Or.inl ⟨hc.1, by omega⟩
  · have := tI_m.mp y2
    unfold esV
    have := hF j
    omega
  · have := tI_m.mp y3
    unfold esV
    have := hG j
    omega
  · have hb : ad h j := (had j hj2).mp (by
      cases t : tb ar j
      · exact absurd ((tb_has0 (by omega)).mpr t) y
      · rfl)
    have d1 : F j < 10000 := Classical.byContradiction fun t => y2 (tI_m.mpr t)
    have d2 : G j < 10000 := Classical.byContradiction fun t => y3 (tI_m.mpr t)
    have f1 : F j ≤ 216 := by have := hF j; omega
    have g1 : G j ≤ 300 := by have := hG j; omega
    rw [tI_1 d1, tI_1 d2, nI_add, nI_1]
    have hs := mnP_s (Q' := fun c => ad h c ∧ c < j + 1) (j := j) hmn (fun c => by
      constructor
      · rintro ⟨t1, t2⟩
        by_cases t : c = j
        · exact Or.inr t
        · exact Or.inl ⟨t1, by omega⟩
      · rintro (⟨t1, t2⟩ | rfl)
        · exact ⟨t1, by omega⟩
        · exact ⟨hb, by omega⟩)
    have ev : esV F G j = F j + G j := rfl
    by_cases x : e = 10000
    · rw [if_pos x]
      refine hh_t rfl (hh_v ⟨hj2, F j + G j, ?_, Or.inr (by omega), ?_⟩)
      · rw [nI_1, if_neg (by omega)]
      · rw [ev, if_pos (by omega)] at hs
        exact hs
    · rw [if_neg x]
      refine hh_f (nI_nm (by omega)) (hh_v ⟨hj2, (if esV F G j < e then esV F G j else e), ?_, ?_, hs⟩)
      · rw [nI_1, ev]
        unfold mm_min
        by_cases t : F j + G j < e
        · rw [if_pos (nI_lt (by omega) (by omega)), if_pos t, if_neg (by omega)]
        · rw [if_neg (nI_nlt (by omega) (by omega)), if_neg t, if_neg x]
      · rw [ev]
        by_cases t : F j + G j < e
        · rw [if_pos t]; omega
        · rw [if_neg t]; exact he
theorem m_echoOf {w : mm_S} (hw : w.1 1 = r) (hr : okR r) {k h : Nat} (hk : k < 6) (hh : h < 36) (hF : ∀ c, F c ≤ 10000) (hG : ∀ c, G c ≤ 10000) (h1 : ∀ c, c < 36 → w.1 5 c = nI (F c)) (h2 : ∀ c, c < 36 → w.1 6 c = nI (G c)) :
    hh_c (sX4_echoOf (nI k) (nI h) w) (fun q => q.2 = w ∧ ∃ e, mnP (ad h) (esV F G) e ∧ q.1 = nI (ecV r k e)) := by
  have hc := car_le (k := knd r k) (ok_fc hr hk).2
  have hst := sta_le (knd r k)
  unfold sX4_echoOf sX4_echoOf_0 sX4_echoOf_7
  refine hh_up (fun j s => ∃ e, s = (nI k, nI h, nI e, nI j, w) ∧ mnP (fun c => c < 36 ∧ ∃ s, s < j ∧ sd h s = c) (esV F G) e) 4 (by decide) ⟨10000, rfl, mnP_0 fun c q => by obtain ⟨_, s, hs, _⟩ := q; omega⟩ ?_
  rintro j s hj ⟨e, rfl, hmn⟩
  have h4 : (4 : Int32) ≤ nI j ↔ 4 ≤ j := nI_leI (a := 4) (by decide) (by omega)
  have he := hmn.1
  unfold lX4_echoOf_7
  dsimp only
  refine hh_i (fun q => ?_) (fun q => ?_)
  · obtain rfl : j = 4 := by have := h4.mp q; omega
    have hfin : mnP (ad h) (esV F G) e := mnP_c hmn fun c => by
      rw [sd_ad hh]
      constructor
      · rintro ⟨s, hs, e1, hc⟩; exact ⟨hc, s, hs, e1⟩
      · rintro ⟨hc, s, hs, e1⟩; exact ⟨s, hs, e1, hc⟩
    refine hh_be (m_carries hw hr hk) ?_
    dsimp only
    rw [nI_1]
    refine hh_i (fun y => hh_be (m_starts hw hr hk) (hh_v ⟨rfl, e, hfin, ?_⟩)) (fun y => hh_map (P := fun v => v = _) ⟨_, rfl, rfl⟩ ?_)
    · have := (nI_leI (by omega) (by omega)).mp y
      unfold ecV
      rw [if_pos this]
      exact nI_add _ _
    · rintro _ rfl
      refine ⟨rfl, e, hfin, ?_⟩
      unfold ecV
      rw [if_neg (fun t => y (nI_le t (by omega)))]; rfl
  have hj2 : j < 4 := Nat.lt_of_not_le fun y => q (h4.mpr y)
  rw [be_N w hh hj2]
  by_cases hb : sd h j = 36
  · rw [if_pos hb]
    refine hh_f (by decide) (hh_v ⟨hj2, e, by rw [nI_1], mnP_c hmn fun c => ?_⟩)
    constructor
    · rintro ⟨hc, s, hs, e1⟩
      refine ⟨hc, s, ?_, e1⟩
      by_cases t : s = j
      · subst t; omega
      · omega
    · rintro ⟨hc, s, hs, e1⟩; exact ⟨hc, s, by omega, e1⟩
  · rw [if_neg hb]
    have hsd : sd h j < 36 := by
      have : sd h j ≤ 36 := by
        unfold sd
        repeat' split
        all_goals omega
      omega
    have hg := gI hsd (show (36 : Nat) < 2 ^ 31 by decide)
    refine hh_t (nI_pos' (by omega)) (hh_f hg (hh_f hg (hh_v ⟨hj2, (if esV F G (sd h j) < e then esV F G (sd h j) else e), ?_, mnP_s hmn fun c => ?_⟩)))
    · rw [nI_1, nI_clamp (by omega), h1 _ hsd, h2 _ hsd, nI_add]
      have := hF (sd h j)
      have := hG (sd h j)
      unfold mm_min esV
      by_cases t : F (sd h j) + G (sd h j) < e
      · rw [if_pos (nI_lt t (by omega)), if_pos t]
      · rw [if_neg (nI_nlt (by omega) (by omega)), if_neg t]
    · constructor
      · rintro ⟨hc, s, hs, e1⟩
        by_cases t : s = j
        · subst t; exact Or.inr e1.symm
        · exact Or.inl ⟨hc, s, by omega, e1⟩
      · rintro (⟨hc, s, hs, e1⟩ | rfl)
        · exact ⟨hc, s, by omega, e1⟩
        · exact ⟨hsd, j, by omega, rfl⟩
end EC
/-- both listen: the crew's times, and those to the cell -/
theorem pp_listen {z w : mm_S} (h : Rel z w) {k c : Nat} (hk : k < 6) (hc : c < 36) : ∃ z' w', sX3_listenForEchoes (nI k) (nI c) z = some z' ∧ sX4_findBoth (nI k) (nI c) w = some w' ∧ Rel z' w' ∧ w'.1 1 = w.1 1 ∧
    (∀ q, q < 36 → z'.1 43 q = tI (td (stf (w.1 1)) (plc (w.1 1) k) q)) ∧ (∀ q, q < 36 → z'.1 44 q = tI (bd (stf (w.1 1)) c q)) ∧ (∀ q, q < 36 → w'.1 5 q = nI (td (stf (w.1 1)) (plc (w.1 1) k) q)) ∧ (∀ q, q < 36 → w'.1 6 q = nI (bd (stf (w.1 1)) c q)) := by
  have o1 : (1 : Nat) = 1 ∨ (1 : Nat) = 13 ∨ (1 : Nat) = 25 := Or.inl rfl
  have pa := (ok_pl h.1 hk).2
  obtain ⟨z1, q1, g1, f1⟩ := x_timesFrom (x := 43) (Or.inl rfl) pa rfl (by decide) (r_sb h)
  obtain ⟨w1, p1, k1, m1⟩ := m_from (k := 5) (by decide) pa (r_ms h)
  have h1 := Rel_K h (KX_T (Or.inl rfl) (Or.inl rfl) f1) (KM_1 (by decide) m1)
  have er : w1.1 1 = w.1 1 := m1 1 (by decide)
  obtain ⟨z2, q2, g2, f2⟩ := x_timesTo (x := 44) (Or.inl rfl) hc rfl (by decide) (r_sb h1)
  obtain ⟨w2, p2, k2, m2⟩ := m_to (k := 6) (by decide) hc (r_ms h1)
  have h2 := Rel_K h1 (KX_T (Or.inl rfl) (Or.inr rfl) f2) (KM_1 (by decide) m2)
  rw [er] at g2 k2
  refine ⟨z2, w2, ?_, ?_, h2, (m2 1 (by decide)).trans er, fun q hq => by rw [f2.1 43 (by decide) (by decide)]; exact g1 q hq, g2, fun q hq => by rw [m2 5 (by decide)]; exact k1 q hq, k2⟩
  · unfold sX3_listenForEchoes sX3_listenForEchoes_0
    rw [x_placeOf o1 h.2.1 h.1 hk, q1]
    show sX3_listenForEchoes_22 (nI c) z1 = _
    unfold sX3_listenForEchoes_22 sX3_listenForEchoes_37
    rw [q2]; rfl
  · unfold sX4_findBoth sX4_findBoth_0
    rw [m_place rfl h.1 hk]
    show ((sX4_findTimes (nI (plc (w.1 1) k)) 1 5 w).bind fun q2 => sX4_findBoth_15 (nI c) q2) = _
    rw [p1]
    show sX4_findBoth_15 (nI c) w1 = _
    unfold sX4_findBoth_15 sX4_findBoth_25
    rw [p2]; rfl
theorem td_216 {z w : mm_S} (h : Rel z w) {a : Nat} (ha : a < 36) (c : Nat) : td (stf (w.1 1)) a c ≤ 216 ∨ td (stf (w.1 1)) a c = 10000 := by
  have htd := tdb_of (Or.inl rfl) ha (r_sb h)
  by_cases q : td (stf (w.1 1)) a c < 10000
  · exact Or.inl (td_le htd q)
  · have : td (stf (w.1 1)) a c ≤ 10000 := wk_dle c
    omega
theorem bd_300 {z w : mm_S} (h : Rel z w) {a : Nat} (ha : a < 36) (c : Nat) : bd (stf (w.1 1)) a c ≤ 300 ∨ bd (stf (w.1 1)) a c = 10000 := by
  have htd := tdb_of (Or.inl rfl) ha (r_sb h)
  obtain ⟨hA, hB⟩ := bd_td (c := c) htd
  by_cases q : td (stf (w.1 1)) a c < 10000
  · obtain ⟨g1, g2, g3⟩ := hA q
    have p1 := pc_1 (stf (w.1 1) a)
    omega
  · exact Or.inr (hB q).2
theorem pq_echo {z w : mm_S} (h : Rel z w) (x1 x2 x3 : Int32) : PP (sX3_echo x1 x2 x3 z) (sX4_echo x1 x2 x3 w) := by
  obtain ⟨-, -, e3⟩ := r_nC h
  unfold sX3_echo sX3_echo_0 sX3_echo_5 sX3_echo_12 sX3_echo_19 sX4_echo sX4_echo_0
  refine pp_if (x_isCrew h _) (m_isCrew h _) (fun _ => pp_b (pp_f0 h)) (fun hk => pp_if (x_isCell _) (m_isCell _) (fun _ => pp_b (pp_f0 h)) (fun hc => pp_if (x_isCell _) (m_isCell _) (fun _ => pp_b (pp_f0 h)) (fun hh => ?_)))
  obtain ⟨k, hk, rfl⟩ := hk
  obtain ⟨c, hc, rfl⟩ := hc
  obtain ⟨q, hq, rfl⟩ := hh
  have hk6 : k < 6 := by omega
  unfold sX3_echo_28 sX3_echo_39 sX4_echo_29
  rw [st_N (r_sb h) hq, m_isHole (r_ms h) hq]
  have hs5 := (r_ms h q hq).1
  have e2 : nI (stf (w.1 1) q) = 2 ↔ stf (w.1 1) q = 2 := nI_eq (b := 2) (by omega) (by decide)
  show PP _ (if (if stf (w.1 1) q = 2 then (1 : Int32) else 0) = 0 then sX4_echo_37 w else sX4_echo_44 (nI k) (nI c) (nI q) w)
  by_cases hx : stf (w.1 1) q = 2
  · rw [if_pos (e2.mpr hx), if_pos hx, if_neg (by decide)]
    unfold sX3_echo_49 sX4_echo_44
    obtain ⟨z1, w1, g1, g2, h1, er, a1, a2, b1, b2⟩ := pp_listen h hk6 hc
    rw [g1, g2]
    show PP (sX3_echo_55 (nI k) (nI q) z1) (sX4_echo_50 (nI k) (nI q) w1)
    unfold sX3_echo_55 sX4_echo_50
    have hm1 : RM 1 z1 (w.1 1) := by rw [← er]; exact h1.2.1
    obtain ⟨⟨u, z2⟩, f1, rfl, e, he, rfl⟩ := x_echoOf hm1 h.1 hk6 hq (td_216 h (ok_pl h.1 hk6).2) (bd_300 h hc) a1 a2
    obtain ⟨⟨v, w2⟩, f2, rfl, e', he', rfl⟩ := m_echoOf er h.1 hk6 hq (fun c => wk_dle c) (fun c => wk_dle c) b1 b2
    have := mnP_1 he he'
    subst this
    rw [f1, f2]
    exact pp_b (pp_told h1 _ (ecV_le h.1 hk6 e))
  · rw [if_neg (fun t => hx (e2.mp t)), if_neg hx, if_pos rfl]
    exact pp_b (pp_f4 h)
/-! chords -/
def nxP (st : Nat → Nat) (V : Nat → Nat) (L m : Nat) : Prop := mnP (fun c => c < 36 ∧ st c = 2 ∧ L < V c + 1) V m
/-- the time before: 0 none, else 1 more -/
def lI (L : Nat) : Int32 := mI L
theorem x_behind {z : mm_S} {r : Nat → Int32} {F G : Nat → Nat} {V : Nat → Nat} (hm : RM 1 z r) (hr : okR r) {k L : Nat} (hk : k < 6) (hL : L ≤ 10000) (hF : ∀ c, F c ≤ 216 ∨ F c = 10000) (hG : ∀ c, G c ≤ 300 ∨ G c = 10000) (h1 : ∀ c, c < 36 → z.1 43 c = tI (F c)) (h2 : ∀ c, c < 36 → z.1 44 c = tI (G c)) (hV : ∀ c, c < 36 → ∃ e, mnP (ad c) (esV F G) e ∧ V c = ecV r k e) :
    hh_c (sX3_echoBehind (mI L) (nI k) z) (fun q => q.2 = z ∧ ∃ m, nxP (stf r) V L m ∧ q.1 = tI m) := by
  have hs := hm.2.2.2.2.2.2.2.2.2
  have hVle : ∀ c, c < 36 → V c ≤ 10000 := fun c hc => by
    obtain ⟨e, _, q⟩ := hV c hc
    rw [q]; exact ecV_le hr hk e
  unfold sX3_echoBehind sX3_echoBehind_0 sX3_echoBehind_5
  refine hh_up (fun j s => ∃ m, s = (mI L, nI k, tI m, nI j, z) ∧ mnP (fun c => (c < 36 ∧ stf r c = 2 ∧ L < V c + 1) ∧ c < j) V m) 36 (by decide) ⟨10000, rfl, mnP_0 fun c q => by omega⟩ ?_
  rintro j s hj ⟨m, rfl, hmn⟩
  have h36 : (36 : Int32) ≤ nI j ↔ 36 ≤ j := nI_leI (a := 36) (by decide) (by omega)
  have hm4 := hmn.1
  unfold lX3_echoBehind_5 sX3_echoBehind_24
  dsimp only
  refine hh_i (fun q => hh_v ?_) (fun q => ?_)
  · obtain rfl : j = 36 := by have := h36.mp q; omega
    exact ⟨rfl, m, mnP_c hmn fun c => ⟨fun y => ⟨y, y.1⟩, fun y => y.1⟩, rfl⟩
  have hj2 : j < 36 := Nat.lt_of_not_le fun y => q (h36.mpr y)
  rw [st_N hs hj2]
  have hs5 := hs.1 j hj2
  have e2 : nI (stf r j) = 2 ↔ stf r j = 2 := nI_eq (b := 2) (by omega) (by decide)
  have skip : (∀ c, ((c < 36 ∧ stf r c = 2 ∧ L < V c + 1) ∧ c < j + 1) → c = j → m ≤ V j) → mnP (fun c => (c < 36 ∧ stf r c = 2 ∧ L < V c + 1) ∧ c < j + 1) V m := fun hsk => ⟨hmn.1, fun c hc => by
    by_cases t : c = j
    · have := hsk c hc t
      subst t; exact this
    · exact hmn.2.1 c ⟨hc.1, by omega⟩, hmn.2.2.imp id fun ⟨c, hc, q⟩ => ⟨c, ⟨hc.1, by omega⟩, q⟩⟩
  refine hh_i (fun y => ?_) (fun y => hh_v ⟨hj2, m, by rw [nI_1], skip fun c hc t => ?_⟩)
  · have hst := e2.mp y
    refine hh_bd (x_echoOf hm hr hk hj2 hF hG h1 h2) (fun q2 hq2 => ?_)
    obtain ⟨u, z2⟩ := q2
    obtain ⟨rfl, e, he, rfl⟩ := hq2
    obtain ⟨e', he', ev⟩ := hV j hj2
    have := mnP_1 he he'
    subst this
    rw [← ev]
    have hVj := hVle j hj2
    unfold sX3_echoBehind_37
    dsimp only
    by_cases c0 : V j < 10000
    · rw [tI_1 c0]
      have em := mI_le (a := V j) (m := L) c0
      have hs := mnP_s (Q' := fun c => (c < 36 ∧ stf r c = 2 ∧ L < V c + 1) ∧ c < j + 1) (j := j) hmn
      by_cases hLV : L < V j + 1
      · have hs' := hs fun c => by
          constructor
          · rintro ⟨t1, t2⟩
            by_cases t : c = j
            · exact Or.inr t
            · exact Or.inl ⟨t1, by omega⟩
          · rintro (⟨t1, t2⟩ | rfl)
            · exact ⟨t1, by omega⟩
            · exact ⟨⟨hj2, hst, hLV⟩, by omega⟩
        refine hh_f (fun t => (em (by omega)).mp t hLV) (hh_i (fun t => hh_v ⟨hj2, _, ?_, hs'⟩) (fun t => hh_i (fun t2 => hh_v ⟨hj2, _, ?_, hs'⟩) (fun t2 => hh_v ⟨hj2, _, ?_, hs'⟩)))
        · have := tI_m.mp t
          rw [nI_1, if_pos (by omega), tI_1 c0]
        · have m1 : m < 10000 := Classical.byContradiction fun x => t (tI_m.mpr x)
          rw [tI_1 m1] at t2
          have := (nI_leI (by omega) (by omega)).mp t2
          rw [nI_1, if_neg (by omega)]
        · have m1 : m < 10000 := Classical.byContradiction fun x => t (tI_m.mpr x)
          rw [tI_1 m1] at t2
          have : ¬ m ≤ V j := fun x => t2 (nI_le x (by omega))
          rw [nI_1, if_pos (by omega), tI_1 c0]
      · have hL2 : L < 10000 ∨ L = 10000 := by omega
        have hy : nI (V j) ≤ mI L := by
          rcases hL2 with x | x
          · exact (em x).mpr hLV
          · rw [x, mI_1 (by decide)]
            exact nI_le (by omega) (by decide)
        exact hh_t hy (hh_v ⟨hj2, m, by rw [nI_1], skip fun c hc t => by subst t; exact absurd hc.1.2.2 hLV⟩)
    · have hV4 : V j = 10000 := by omega
      rw [tI_2 c0]
      have hy : (-1 : Int32) ≤ mI L := by
        by_cases x : L = 0
        · subst x; decide
        · rw [mI_1 x, Int32.le_iff_toInt_le, nI_toInt (by omega), show (-1 : Int32).toInt = -1 by decide]
          omega
      exact hh_t hy (hh_v ⟨hj2, m, by rw [nI_1], skip fun c hc t => by omega⟩)
  · subst t
    exact absurd hc.1.2.1 (fun x => y (e2.mpr x))
theorem m_next {w : mm_S} {r : Nat → Int32} {F G : Nat → Nat} {V : Nat → Nat} (hw : w.1 1 = r) (hr : okR r) {k L n : Nat} (hk : k < 6) (i : Int32) (hL : L ≤ 10000) (hF : ∀ c, F c ≤ 10000) (hG : ∀ c, G c ≤ 10000) (h1 : ∀ c, c < 36 → w.1 5 c = nI (F c)) (h2 : ∀ c, c < 36 → w.1 6 c = nI (G c)) (hV : ∀ c, c < 36 → ∃ e, mnP (ad c) (esV F G) e ∧ V c = ecV r k e) :
    hh_c (sX4_chord_66 (nI k) i (mI L) (nI n) 10000 0 w) (fun q => ∃ m, nxP (stf r) V L m ∧ q = .inl (nI k, i, nI m, nI (n + 1), w)) := by
  have hms := ok_ms hr hw
  have hVle : ∀ c, c < 36 → V c ≤ 10000 := fun c hc => by
    obtain ⟨e, _, q⟩ := hV c hc
    rw [q]; exact ecV_le hr hk e
  unfold sX4_chord_66
  refine hh_up (fun j s => ∃ m, s = (nI k, i, mI L, nI n, nI m, nI j, w) ∧ mnP (fun c => (c < 36 ∧ stf r c = 2 ∧ L < V c + 1) ∧ c < j) V m) 36 (by decide) ⟨10000, rfl, mnP_0 fun c q => by omega⟩ ?_
  rintro j s hj ⟨m, rfl, hmn⟩
  have h36 : (36 : Int32) ≤ nI j ↔ 36 ≤ j := nI_leI (a := 36) (by decide) (by omega)
  have hm4 := hmn.1
  unfold lX4_chord_66
  dsimp only
  refine hh_i (fun q => hh_v ?_) (fun q => ?_)
  · obtain rfl : j = 36 := by have := h36.mp q; omega
    exact ⟨m, mnP_c hmn fun c => ⟨fun y => ⟨y, y.1⟩, fun y => y.1⟩, by rw [nI_1]⟩
  have hj2 : j < 36 := Nat.lt_of_not_le fun y => q (h36.mpr y)
  have skip : (∀ c, ((c < 36 ∧ stf r c = 2 ∧ L < V c + 1) ∧ c < j + 1) → c = j → m ≤ V j) → mnP (fun c => (c < 36 ∧ stf r c = 2 ∧ L < V c + 1) ∧ c < j + 1) V m := fun hsk => ⟨hmn.1, fun c hc => by
    by_cases t : c = j
    · have := hsk c hc t
      subst t; exact this
    · exact hmn.2.1 c ⟨hc.1, by omega⟩, hmn.2.2.imp id fun ⟨c, hc, q⟩ => ⟨c, ⟨hc.1, by omega⟩, q⟩⟩
  refine hh_be (m_isHole hms hj2) ?_
  dsimp only
  have hmL : ¬ (10000 : Int32) ≤ mI L := by
    by_cases x : L = 0
    · subst x; decide
    · rw [mI_1 x]
      exact nI_ge (b := 10000) (by omega) (by decide)
  by_cases hst : stf r j = 2
  · rw [if_pos hst]
    refine hh_f (by decide) ?_
    unfold sX4_chord_82
    refine hh_bd (m_echoOf hw hr hk hj2 hF hG h1 h2) (fun q2 hq2 => ?_)
    obtain ⟨u, w2⟩ := q2
    obtain ⟨rfl, e, he, rfl⟩ := hq2
    obtain ⟨e', he', ev⟩ := hV j hj2
    have := mnP_1 he he'
    subst this
    rw [← ev]
    dsimp only
    have hVj := hVle j hj2
    by_cases hLV : L < V j + 1
    · have hs' := mnP_s (Q' := fun c => (c < 36 ∧ stf r c = 2 ∧ L < V c + 1) ∧ c < j + 1) (j := j) hmn fun c => by
        constructor
        · rintro ⟨t1, t2⟩
          by_cases t : c = j
          · exact Or.inr t
          · exact Or.inl ⟨t1, by omega⟩
        · rintro (⟨t1, t2⟩ | rfl)
          · exact ⟨t1, by omega⟩
          · exact ⟨⟨hj2, hst, hLV⟩, by omega⟩
      have hno : ¬ nI (V j) ≤ mI L := by
        by_cases x : L = 0
        · subst x
          rw [Int32.le_iff_toInt_le, nI_toInt (by omega), show (mI 0).toInt = -1 by decide]
          omega
        · rw [mI_1 x]
          exact nI_ge (by omega) (by omega)
      refine hh_f hno (hh_v ⟨hj2, _, ?_, hs'⟩)
      unfold mm_min
      rw [nI_1]
      by_cases t : V j < m
      · rw [if_pos (nI_lt t (by omega)), if_pos t]
      · rw [if_neg (nI_nlt (by omega) (by omega)), if_neg t]
    · have hy : nI (V j) ≤ mI L := by
        rw [mI_1 (by omega)]
        exact nI_le (by omega) (by omega)
      exact hh_t hy (hh_v ⟨hj2, m, by rw [nI_1], skip fun c hc t => by subst t; exact absurd hc.1.2.2 hLV⟩)
  · rw [if_neg hst]
    refine hh_t rfl ?_
    unfold sX4_chord_92
    refine hh_f hmL (hh_v ⟨hj2, m, ?_, skip fun c hc t => by subst t; exact absurd hc.1.2.1 hst⟩)
    unfold mm_min
    rw [nI_1, if_neg (show ¬ (10000 : Int32) < nI m from nI_nlt (a := 10000) (by omega) (by decide))]
/-- the time behind n echoes and 1 more (10001: there are not so many) -/
def itN (N : Nat → Nat) : Nat → Nat
  | 0 => 0
  | n + 1 => if itN N n ≤ 10000 then N (itN N n) + 1 else 10001
theorem itN_end {N : Nat → Nat} {n : Nat} (h : ¬ itN N n ≤ 10000) : ∀ k, itN N (n + 1 + k) = 10001
  | 0 => if_neg h
  | k + 1 => by
    have := itN_end h k
    show (if itN N (n + 1 + k) ≤ 10000 then N (itN N (n + 1 + k)) + 1 else 10001) = 10001
    rw [this]; rfl
theorem pq_chord {z w : mm_S} (h : Rel z w) (x1 x2 x3 : Int32) : PP (sX3_chord x1 x2 x3 z) (sX4_chord x1 x2 x3 w) := by
  obtain ⟨-, -, e3⟩ := r_nC h
  unfold sX3_chord sX3_chord_0 sX4_chord sX4_chord_0
  refine pp_if (x_isCrew h _) (m_isCrew h _) (fun _ => pp_b (pp_f0 h)) (fun hk => pp_if (x_isCell _) (m_isCell _) (fun _ => pp_b (pp_f0 h)) (fun hc => pp_if (x_lies0 x3 (n := 35) (by decide)) (m_within0 x3 (n := 35) (by decide)) (fun _ => pp_b (pp_f0 h)) (fun hi => ?_)))
  obtain ⟨k, hk, rfl⟩ := hk
  obtain ⟨c, hc, rfl⟩ := hc
  obtain ⟨i, hi, rfl⟩ := hi
  have hk6 : k < 6 := by omega
  unfold sX3_chord_31 sX4_chord_32
  obtain ⟨z1, w1, g1, g2, h1, er, a1, a2, b1, b2⟩ := pp_listen h hk6 hc
  rw [g1, g2]
  show PP (sX3_chord_37 (nI k) (nI i) z1) (sX4_chord_38 (nI k) (nI i) w1)
  have hm1 : RM 1 z1 (w.1 1) := by rw [← er]; exact h1.2.1
  have hF := td_216 h (ok_pl h.1 hk6).2
  have hG := bd_300 h hc
  have hF' : ∀ q, td (stf (w.1 1)) (plc (w.1 1) k) q ≤ 10000 := fun q => wk_dle q
  have hG' : ∀ q, bd (stf (w.1 1)) c q ≤ 10000 := fun q => wk_dle q
  generalize td (stf (w.1 1)) (plc (w.1 1) k) = F at *
  generalize bd (stf (w.1 1)) c = G at *
  have hex : ∀ q, ∃ v, q < 36 → ∃ e, mnP (ad q) (esV F G) e ∧ v = ecV (w.1 1) k e := fun q => by
    by_cases hq : q < 36
    · obtain ⟨⟨u, z2⟩, f1, rfl, e, he, rfl⟩ := x_echoOf hm1 h.1 hk6 hq hF hG a1 a2
      exact ⟨_, fun _ => ⟨e, he, rfl⟩⟩
    · exact ⟨0, fun x => absurd x hq⟩
  obtain ⟨V, hV⟩ := Classical.axiomOfChoice hex
  have hnx : ∀ L, ∃ m, L ≤ 10000 → nxP (stf (w.1 1)) V L m := fun L => by
    by_cases hL : L ≤ 10000
    · obtain ⟨q, _, _, m, hm, _⟩ := x_behind hm1 h.1 hk6 hL hF hG a1 a2 hV
      exact ⟨m, fun _ => hm⟩
    · exact ⟨0, fun x => absurd x hL⟩
  obtain ⟨N, hN⟩ := Classical.axiomOfChoice hnx
  have hN4 : ∀ L, L ≤ 10000 → N L ≤ 10000 := fun L hL => (hN L hL).1
  have it4 : ∀ n, itN N n ≤ 10001 := by
    intro n
    cases n with
    | zero => exact Nat.zero_le _
    | succ n =>
      unfold itN
      by_cases q : itN N n ≤ 10000
      · rw [if_pos q]
        have := hN4 _ q
        omega
      · rw [if_neg q]; exact Nat.le_refl _
  have itS : ∀ n, itN N n ≤ 10000 → itN N (n + 1) = N (itN N n) + 1 := fun n q => if_pos q
  have X : hh_c (sX3_chord_37 (nI k) (nI i) z1) (fun q => (itN N (i + 1) ≤ 10000 ∧ q = (mI (itN N (i + 1)), z1)) ∨ (itN N (i + 1) = 10001 ∧ sX3_finding 3 z1 = some q)) := by
    unfold sX3_chord_37 sX3_chord_43
    refine hh_up (fun j s => s = (nI k, nI i, mI (itN N j), nI j, z1) ∧ itN N j ≤ 10000 ∧ j ≤ i + 1) 37 (by decide) ⟨rfl, Nat.zero_le _, Nat.zero_le _⟩ ?_
    rintro j _ hj ⟨rfl, hit, hji⟩
    unfold lX3_chord_43
    dsimp only
    refine hh_i (fun q => hh_v ?_) (fun q => ?_)
    · have := (nI_ltI (by omega) (by omega)).mp q
      obtain rfl : j = i + 1 := by omega
      exact Or.inl ⟨hit, rfl⟩
    have hj2 : j ≤ i := Nat.le_of_not_lt fun y => q (nI_lt y (by omega))
    refine hh_bd (x_behind hm1 h.1 hk6 hit hF hG a1 a2 hV) (fun q2 hq2 => ?_)
    obtain ⟨u, z2⟩ := q2
    obtain ⟨rfl, m, hm, rfl⟩ := hq2
    have hm' : m = N (itN N j) := mnP_1 hm (hN _ hit)
    unfold sX3_chord_58 sX3_chord_70
    dsimp only
    refine hh_i (fun y => ?_) (fun y => hh_v ?_)
    · have hm4 := hm.1
      have := tI_m.mp y
      have hend : itN N (j + 1) = 10001 := by rw [itS j hit, ← hm']; omega
      have hfin : itN N (i + 1) = 10001 := by
        by_cases x : j = i
        · rw [← x]; exact hend
        · have := itN_end (N := N) (n := j + 1) (by omega) (i - j - 1)
          rw [show j + 1 + 1 + (i - j - 1) = i + 1 by omega] at this
          exact this
      obtain ⟨x, z', w', f1, _, _⟩ := pp_f3 h1
      rw [f1]
      exact hh_v (Or.inr ⟨hfin, rfl⟩)
    · have hm4 := hm.1
      have m1 : m < 10000 := Classical.byContradiction fun x => y (tI_m.mpr x)
      refine ⟨by omega, ?_, by rw [itS j hit]; omega, by omega⟩
      rw [itS j hit, ← hm', mI_1 (by omega), tI_1 m1, nI_1]
      rfl
  have M : hh_c (sX4_chord_38 (nI k) (nI i) w1) (fun q => sX4_told (mI (itN N (i + 1))) w1 = some q) := by
    unfold sX4_chord_38 sX4_chord_44
    refine hh_up (fun j s => s = (nI k, nI i, mI (itN N j), nI j, w1) ∧ j ≤ i + 1) 37 (by decide) ⟨rfl, Nat.zero_le _⟩ ?_
    rintro j _ hj ⟨rfl, hji⟩
    have told : ∀ n, n = i + 1 ∨ itN N n = 10001 ∧ n ≤ i + 1 → mI (itN N n) = mI (itN N (i + 1)) := fun n hn => by
      rcases hn with rfl | ⟨x, hn⟩
      · rfl
      · by_cases y : n = i + 1
        · rw [y]
        · have := itN_end (N := N) (n := n) (by omega) (i - n)
          rw [show n + 1 + (i - n) = i + 1 by omega] at this
          rw [this, x]
    have tt : ∀ n, n = i + 1 ∨ itN N n = 10001 ∧ n ≤ i + 1 → hh_c ((sX4_told (mI (itN N n)) w1).bind fun q5 => some (Sum.inr (q5.1, q5.2) : (Int32 × Int32 × Int32 × Int32 × mm_S) ⊕ (Int32 × mm_S))) (mm_mt (fun s' => j < 37 ∧ s' = (nI k, nI i, mI (itN N (j + 1)), nI (j + 1), w1) ∧ j + 1 ≤ i + 1) (fun q : Int32 × mm_S => sX4_told (mI (itN N (i + 1))) w1 = some q)) := fun n hn => by
      rw [told n hn]
      have hex : ∃ q, sX4_told (mI (itN N (i + 1))) w1 = some q := by
        have h1' : itN N (i + 1) ≠ 0 := by
          unfold itN
          by_cases q : itN N i ≤ 10000
          · rw [if_pos q]; omega
          · rw [if_neg q]; omega
        rw [mI_1 h1']
        have := it4 (i + 1)
        obtain ⟨x, z', w', _, f2, _⟩ := pp_told h1 (itN N (i + 1) - 1) (by omega)
        exact ⟨_, f2⟩
      obtain ⟨q, hq⟩ := hex
      rw [hq]
      exact hh_v rfl
    unfold lX4_chord_44
    dsimp only
    refine hh_i (fun q => ?_) (fun q => hh_i (fun y => ?_) (fun y => ?_))
    · have := (nI_ltI (by omega) (by omega)).mp q
      exact tt j (Or.inl (by omega))
    · refine tt j (Or.inr ⟨?_, hji⟩)
      have := it4 j
      by_cases x : itN N j = 0
      · rw [x] at y; exact absurd y (by decide)
      · rw [mI_1 x] at y
        have := (nI_leI (a := 10000) (by decide) (by omega)).mp y
        omega
    · have hj2 : j ≤ i := Nat.le_of_not_lt fun t => q (nI_lt t (by omega))
      have hit : itN N j ≤ 10000 := by
        have := it4 j
        refine Nat.le_of_not_lt fun t => y ?_
        rw [mI_1 (by omega)]
        exact nI_le (a := 10000) (by omega) (by omega)
      refine hh_w (m_next er h.1 hk6 (nI i) hit hF' hG' b1 b2 hV) ?_
      rintro _ ⟨m, hm, rfl⟩
      have hm' : m = N (itN N j) := mnP_1 hm (hN _ hit)
      refine ⟨by omega, ?_, by omega⟩
      rw [itS j hit, ← hm', mI_1 (by omega)]
      rfl
  obtain ⟨q, hq, hX⟩ := X
  obtain ⟨p, hp, hM⟩ := M
  rw [hq, hp]
  have h1' : itN N (i + 1) ≠ 0 := by
    unfold itN
    by_cases q : itN N i ≤ 10000
    · rw [if_pos q]; omega
    · rw [if_neg q]; omega
  have h4' := it4 (i + 1)
  rw [mI_1 h1'] at hM
  obtain ⟨x, z', w', f1, f2, hR⟩ := pp_told h1 (itN N (i + 1) - 1) (by omega)
  rw [f2] at hM
  cases hM
  rcases hX with ⟨e1, rfl⟩ | ⟨e1, e2⟩
  · rw [tI_1 (by omega)] at f1
    have f3 : sX3_orNone (nI (itN N (i + 1) - 1)) z1 = some (nI (itN N (i + 1) - 1), z1) := by
      unfold sX3_orNone sX3_orNone_0
      rw [if_neg (nI_nm (by omega))]; rfl
    rw [f3] at f1
    cases f1
    exact ⟨_, _, _, by rw [mI_1 h1'], rfl, hR⟩
  · rw [tI_2 (by omega)] at f1
    have f3 : sX3_orNone (-1) z1 = (sX3_finding 3 z1).bind fun q1 => some (q1.1, q1.2) := by
      unfold sX3_orNone sX3_orNone_0
      rw [if_pos rfl]
    rw [f3, e2] at f1
    cases f1
    exact ⟨_, _, _, rfl, rfl, hR⟩
