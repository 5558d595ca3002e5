/-! ===== a mine that changes ===== -/
def KX1 (z z' : mm_S) : Prop := (∀ b, ¬ (b = 1 ∨ (5 ≤ b ∧ b ≤ 12) ∨ b = 2 ∨ b = 14 ∨ (25 ≤ b ∧ b ≤ 36) ∨ b = 43 ∨ b = 44) → z'.1 b = z.1 b) ∧ ∀ b, ¬ (b = 2 ∨ b = 3 ∨ b = 4 ∨ b = 14 ∨ b = 16 ∨ (25 ≤ b ∧ b ≤ 36) ∨ b = 45) → z'.2 b = z.2 b
def KM1 (w w' : mm_S) : Prop := (∀ b, ¬ (b = 1 ∨ b = 0 ∨ b = 3 ∨ (5 ≤ b ∧ b ≤ 12) ∨ b = 16 ∨ b = 17 ∨ b = 21) → w'.1 b = w.1 b) ∧ w'.1 0 3 = w.1 0 3 ∧ w'.1 0 18 = w.1 0 18
theorem KX1_of {z z' : mm_S} (h : KX z z') : KX1 z z' := ⟨fun b hb => h.1 b (by omega), fun b hb => h.2 b (by omega)⟩
theorem KM1_of {w w' : mm_S} (h : KM w w') : KM1 w w' := ⟨fun b hb => h.1 b (by omega), h.2⟩
theorem KX1_t {z z' z'' : mm_S} (h : KX1 z z') (h2 : KX1 z' z'') : KX1 z z'' := ⟨fun b hb => (h2.1 b hb).trans (h.1 b hb), fun b hb => (h2.2 b hb).trans (h.2 b hb)⟩
theorem KM1_t {w w' w'' : mm_S} (h : KM1 w w') (h2 : KM1 w' w'') : KM1 w w'' := ⟨fun b hb => (h2.1 b hb).trans (h.1 b hb), h2.2.1.trans h.2.1, h2.2.2.trans h.2.2⟩
theorem KM1_1 {w w' : mm_S} (h : ∀ b, b ≠ 1 → w'.1 b = w.1 b) : KM1 w w' := ⟨fun b hb => h b (by omega), by rw [h 0 (by decide)], by rw [h 0 (by decide)]⟩
theorem Rel_M {z z' w w' : mm_S} (h : Rel z w) (hk : KX1 z z') (hm : KM1 w w') (g1 : okR (w'.1 1)) (g2 : RM 1 z' (w'.1 1)) : Rel z' w' := by
  obtain ⟨h1, h2, h3, h4, h5, h6⟩ := h
  obtain ⟨m1, m2, m3⟩ := id hm
  have e2 := m1 2 (by omega)
  have e4 := m1 4 (by omega)
  have e13 := m1 13 (by omega)
  have e18 := m1 18 (by omega)
  have e19 := m1 19 (by omega)
  have e20 := m1 20 (by omega)
  refine ⟨g1, g2, ?_, ?_, ?_, ?_⟩
  · unfold rKept
    rw [hk.1 0 (by omega), m2, e2]
    exact ⟨h3.1, h3.2.imp id fun x => ⟨x.1, x.2.1, RM_k x.2.2 (fun b hb => hk.1 b (by omega)) (hk.2 15 (by omega))⟩⟩
  · unfold rTape
    rw [hk.1 37 (by omega), hk.1 38 (by omega), m3, e13]
    exact h4
  · unfold rSheet
    rw [hk.1 39 (by omega), hk.1 40 (by omega), hk.1 41 (by omega), e18, e19, e20]
    exact h5
  · unfold rFind
    rw [hk.1 42 (by omega), e4]
    exact h6
theorem isN_N {k n : Nat} (h : k < n) : isN (nI k) n := ⟨k, h, rfl⟩
theorem up_s (r : Nat → Int32) (i : Nat) (x : Int32) : upd r i x i = x := by simp [upd]
theorem up_n (r : Nat → Int32) {i j : Nat} (x : Int32) (h : j ≠ i) : upd r i x j = r j := by simp [upd, h]
/-! a cell's stuff -/
def setS (st : Nat → Nat) (c v q : Nat) : Nat := if q = c then v else st q
theorem stf_u {r : Nat → Int32} {c v : Nat} (hv : v < 2 ^ 31) : stf (upd r (15 + c) (nI v)) = setS (stf r) c v := by
  funext q
  unfold stf setS
  by_cases h : q = c
  · subst h
    rw [up_s, if_pos rfl, gN_N hv]
  · rw [up_n _ _ (by omega), if_neg h]
theorem okR_st {r : Nat → Int32} (h : okR r) {c v : Nat} (hc : c < 36) (hv : v < 5) : okR (upd r (15 + c) (nI v)) := by
  obtain ⟨a1, a2, a3, a4, a5, a6, a7, a8, a9⟩ := h
  refine ⟨by rw [up_n _ _ (by omega)]; exact a1, by rw [up_n _ _ (by omega)]; exact a2, by rw [up_n _ _ (by omega)]; exact a3, by rw [up_n _ _ (by omega)]; exact a4, fun i hi => ?_, fun q hq => ?_, fun k hk => ?_, fun i hi => ?_, fun i hi => ?_⟩
  · rw [up_n _ _ (by omega)]; exact a5 i hi
  · by_cases e : q = c
    · subst e; rw [up_s]; exact isN_N hv
    · rw [up_n _ _ (by omega)]; exact a6 q hq
  · rw [up_n _ _ (by omega), up_n _ _ (by omega), up_n _ _ (by omega)]; exact a7 k hk
  · rw [up_n _ _ (by omega)]; exact a8 i hi
  · rw [up_n _ _ (by omega), up_n _ _ (by omega), up_n _ _ (by omega)]; exact a9 i hi
theorem RM_st {o : Nat} {z z' : mm_S} {r : Nat → Int32} {c : Nat} {x : Int32} (h : RM o z r) (hc : c < 36) (h1 : ∀ b, b = o ∨ (o + 4 ≤ b ∧ b ≤ o + 11) → z'.1 b = z.1 b) (hs : sb (o + 1) z' (stf (upd r (15 + c) x))) : RM o z' (upd r (15 + c) x) := by
  obtain ⟨a1, a2, a3, a4, a5, a6, a7, a8, a9, a10⟩ := h
  unfold RM
  rw [h1 o (Or.inl rfl), h1 (o + 4) (by omega), h1 (o + 5) (by omega), h1 (o + 6) (by omega), h1 (o + 7) (by omega), h1 (o + 8) (by omega), h1 (o + 9) (by omega), h1 (o + 10) (by omega), h1 (o + 11) (by omega)]
  refine ⟨by rw [up_n _ _ (by omega)]; exact a1, by rw [up_n _ _ (by omega)]; exact a2, by rw [up_n _ _ (by omega)]; exact a3, by rw [up_n _ _ (by omega)]; exact a4, by rw [up_n _ _ (by omega)]; exact a5, fun i hi => ?_, fun k hk => ?_, fun i hi => ?_, fun i hi => ?_, hs⟩
  · rw [up_n _ _ (by omega)]; exact a6 i hi
  · rw [up_n _ _ (by omega), up_n _ _ (by omega), up_n _ _ (by omega)]; exact a7 k hk
  · rw [up_n _ _ (by omega)]; exact a8 i hi
  · rw [up_n _ _ (by omega), up_n _ _ (by omega), up_n _ _ (by omega)]; exact a9 i hi
theorem x_put {o c v : Nat} {z : mm_S} {st : Nat → Nat} (h : sb o z st) (hc : c < 36) (hv : v < 5) : (tX1_put o (nI c) (nI v) z).1 = z.1 ∧ sb o (tX1_put o (nI c) (nI v) z) (setS st c v) ∧ ∀ b, b ≠ o + 1 → (tX1_put o (nI c) (nI v) z).2 b = z.2 b := by
  have e : tX1_put o (nI c) (nI v) z = (z.1, mm_rw z.2 (o + 1) (rk_pt (nI c) (nI v) (z.2 (o + 1)))) := by
    unfold tX1_put
    rw [if_neg (fun x => (x_isCell _).mp x (isN_N hc)), if_neg (fun x => (x_isStuff _).mp x (isN_N hv))]
  rw [e]
  have hk : ∀ s, s < 5 → rk_tk 5 (nI c) (z.2 (o + 1)) s = z.2 (o + 1) s &&& (pX3_setOf (nI c) ^^^ (-1)) := fun s hs => by
    unfold rk_tk
    rw [if_pos hs]
  refine ⟨rfl, ⟨fun q hq => ?_, fun s hs => ?_⟩, fun b hb => mm_rw_n _ _ hb⟩
  · unfold setS
    by_cases x : q = c
    · rw [if_pos x]; exact hv
    · rw [if_neg x]; exact h.1 q hq
  · show tb_S (mm_rw z.2 (o + 1) _ (o + 1) s) ∧ ∀ q, q < 36 → tb (mm_rw z.2 (o + 1) _ (o + 1) s) q = _
    rw [mm_rw_s]
    unfold rk_pt vp_updL
    rw [nI_clamp (show v < 2 ^ 31 by omega), hk v hv, hk s hs]
    obtain ⟨g1, g2⟩ := h.2 s hs
    by_cases x : s = v
    · subst x
      rw [if_pos rfl]
      refine ⟨tb_orS (tb_andS g1) (tb_setS hc), fun q hq => ?_⟩
      rw [tb_or, tb_and, tb_not _ (by omega), tb_set (by omega), g2 q hq]
      unfold setS
      by_cases y : q = c
      · simp [y]
      · simp [y]
    · rw [if_neg x]
      refine ⟨tb_andS g1, fun q hq => ?_⟩
      rw [tb_and, tb_not _ (by omega), tb_set (by omega), g2 q hq]
      unfold setS
      by_cases y : q = c
      · simp [y, Ne.symm x]
      · simp [y]
/-! a new crew -/
def addC (r : Nat → Int32) (k c f : Nat) : Nat → Int32 := upd (upd (upd (upd r (51 + 3 * nC r) (nI k)) (52 + 3 * nC r) (nI c)) (53 + 3 * nC r) (nI f)) 1 (nI (nC r + 1))
def addB (r : Nat → Int32) (a b t : Nat) : Nat → Int32 := upd (upd (upd (upd r (73 + 3 * nB r) (nI a)) (74 + 3 * nB r) (nI b)) (75 + 3 * nB r) (nI t)) 2 (nI (nB r + 1))
def addU (r : Nat → Int32) (c : Nat) : Nat → Int32 := upd (upd r (69 + nU r) (nI c)) 3 (nI (nU r + 1))
theorem addC_e (r : Nat → Int32) (k c f j : Nat) (h : nC r < 6) : addC r k c f j = if j = 1 then nI (nC r + 1) else if j = 51 + 3 * nC r then nI k else if j = 52 + 3 * nC r then nI c else if j = 53 + 3 * nC r then nI f else r j := by
  unfold addC upd
  by_cases a : j = 1
  · rw [if_pos a, if_pos a]
  · rw [if_neg a, if_neg a]
    by_cases b : j = 53 + 3 * nC r
    · rw [if_pos b, if_neg (by omega), if_neg (by omega), if_pos b]
    · rw [if_neg b]
      by_cases d : j = 52 + 3 * nC r
      · rw [if_pos d, if_neg (by omega), if_pos d]
      · rw [if_neg d]
        by_cases e : j = 51 + 3 * nC r
        · rw [if_pos e, if_pos e]
        · rw [if_neg e, if_neg e, if_neg d, if_neg b]
theorem addB_e (r : Nat → Int32) (k c f j : Nat) (h : nB r < 8) : addB r k c f j = if j = 2 then nI (nB r + 1) else if j = 73 + 3 * nB r then nI k else if j = 74 + 3 * nB r then nI c else if j = 75 + 3 * nB r then nI f else r j := by
  unfold addB upd
  by_cases a : j = 2
  · rw [if_pos a, if_pos a]
  · rw [if_neg a, if_neg a]
    by_cases b : j = 75 + 3 * nB r
    · rw [if_pos b, if_neg (by omega), if_neg (by omega), if_pos b]
    · rw [if_neg b]
      by_cases d : j = 74 + 3 * nB r
      · rw [if_pos d, if_neg (by omega), if_pos d]
      · rw [if_neg d]
        by_cases e : j = 73 + 3 * nB r
        · rw [if_pos e, if_pos e]
        · rw [if_neg e, if_neg e, if_neg d, if_neg b]
theorem addU_e (r : Nat → Int32) (c j : Nat) : addU r c j = if j = 3 then nI (nU r + 1) else if j = 69 + nU r then nI c else r j := rfl
theorem stf_o {r r' : Nat → Int32} (h : ∀ c, c < 36 → r' (15 + c) = r (15 + c)) : ∀ c, c < 36 → stf r' c = stf r c := fun c hc => by
  unfold stf
  rw [h c hc]
theorem sb_o {o : Nat} {z z' : mm_S} {st st' : Nat → Nat} (h : sb o z st) (hz : z'.2 (o + 1) = z.2 (o + 1)) (he : ∀ c, c < 36 → st' c = st c) : sb o z' st' := ⟨fun c hc => by rw [he c hc]; exact h.1 c hc, fun s hs => by
  rw [hz]
  exact ⟨(h.2 s hs).1, fun c hc => by rw [he c hc]; exact (h.2 s hs).2 c hc⟩⟩
theorem okR_C {r : Nat → Int32} (h : okR r) (hn : nC r < 6) {k c f : Nat} (hk : k < 7) (hc : c < 36) (hf : f < 21) : okR (addC r k c f) := by
  obtain ⟨a1, a2, a3, a4, a5, a6, a7, a8, a9⟩ := h
  have e := fun j => addC_e r k c f j hn
  refine ⟨?_, ?_, ?_, ?_, fun i hi => ?_, fun q hq => ?_, fun q hq => ⟨?_, ?_, ?_⟩, fun i hi => ?_, fun i hi => ⟨?_, ?_, ?_⟩⟩
  · rw [e, if_neg (by omega), if_neg (by omega), if_neg (by omega), if_neg (by omega)]; exact a1
  · rw [e, if_pos rfl]; exact isN_N (by omega)
  · rw [e, if_neg (by omega), if_neg (by omega), if_neg (by omega), if_neg (by omega)]; exact a3
  · rw [e, if_neg (by omega), if_neg (by omega), if_neg (by omega), if_neg (by omega)]; exact a4
  · rw [e, if_neg (by omega), if_neg (by omega), if_neg (by omega), if_neg (by omega)]; exact a5 i hi
  · rw [e, if_neg (by omega), if_neg (by omega), if_neg (by omega), if_neg (by omega)]; exact a6 q hq
  · rw [e, if_neg (by omega)]
    by_cases x : q = nC r
    · rw [if_pos (by omega)]; exact isN_N hk
    · rw [if_neg (by omega), if_neg (by omega), if_neg (by omega)]; exact (a7 q hq).1
  · rw [e, if_neg (by omega), if_neg (by omega)]
    by_cases x : q = nC r
    · rw [if_pos (by omega)]; exact isN_N hc
    · rw [if_neg (by omega), if_neg (by omega)]; exact (a7 q hq).2.1
  · rw [e, if_neg (by omega), if_neg (by omega), if_neg (by omega)]
    by_cases x : q = nC r
    · rw [if_pos (by omega)]; exact isN_N hf
    · rw [if_neg (by omega)]; exact (a7 q hq).2.2
  · rw [e, if_neg (by omega), if_neg (by omega), if_neg (by omega), if_neg (by omega)]; exact a8 i hi
  · rw [e, if_neg (by omega), if_neg (by omega), if_neg (by omega), if_neg (by omega)]; exact (a9 i hi).1
  · rw [e, if_neg (by omega), if_neg (by omega), if_neg (by omega), if_neg (by omega)]; exact (a9 i hi).2.1
  · rw [e, if_neg (by omega), if_neg (by omega), if_neg (by omega), if_neg (by omega)]; exact (a9 i hi).2.2
theorem okR_B {r : Nat → Int32} (h : okR r) (hn : nB r < 8) {k c f : Nat} (hk : k < 36) (hc : c < 36) (hf : f < 100) : okR (addB r k c f) := by
  obtain ⟨a1, a2, a3, a4, a5, a6, a7, a8, a9⟩ := h
  have e := fun j => addB_e r k c f j hn
  refine ⟨?_, ?_, ?_, ?_, fun i hi => ?_, fun q hq => ?_, fun q hq => ⟨?_, ?_, ?_⟩, fun i hi => ?_, fun q hq => ⟨?_, ?_, ?_⟩⟩
  · rw [e, if_neg (by omega), if_neg (by omega), if_neg (by omega), if_neg (by omega)]; exact a1
  · rw [e, if_neg (by omega), if_neg (by omega), if_neg (by omega), if_neg (by omega)]; exact a2
  · rw [e, if_pos rfl]; exact isN_N (by omega)
  · rw [e, if_neg (by omega), if_neg (by omega), if_neg (by omega), if_neg (by omega)]; exact a4
  · rw [e, if_neg (by omega), if_neg (by omega), if_neg (by omega), if_neg (by omega)]; exact a5 i hi
  · rw [e, if_neg (by omega), if_neg (by omega), if_neg (by omega), if_neg (by omega)]; exact a6 q hq
  · rw [e, if_neg (by omega), if_neg (by omega), if_neg (by omega), if_neg (by omega)]; exact (a7 q hq).1
  · rw [e, if_neg (by omega), if_neg (by omega), if_neg (by omega), if_neg (by omega)]; exact (a7 q hq).2.1
  · rw [e, if_neg (by omega), if_neg (by omega), if_neg (by omega), if_neg (by omega)]; exact (a7 q hq).2.2
  · rw [e, if_neg (by omega), if_neg (by omega), if_neg (by omega), if_neg (by omega)]; exact a8 i hi
  · rw [e, if_neg (by omega)]
    by_cases x : q = nB r
    · rw [if_pos (by omega)]; exact isN_N hk
    · rw [if_neg (by omega), if_neg (by omega), if_neg (by omega)]; exact (a9 q hq).1
  · rw [e, if_neg (by omega), if_neg (by omega)]
    by_cases x : q = nB r
    · rw [if_pos (by omega)]; exact isN_N hc
    · rw [if_neg (by omega), if_neg (by omega)]; exact (a9 q hq).2.1
  · rw [e, if_neg (by omega), if_neg (by omega), if_neg (by omega)]
    by_cases x : q = nB r
    · rw [if_pos (by omega)]; exact isN_N hf
    · rw [if_neg (by omega)]; exact (a9 q hq).2.2
theorem okR_U {r : Nat → Int32} (h : okR r) (hn : nU r < 4) {c : Nat} (hc : c < 36) : okR (addU r c) := by
  obtain ⟨a1, a2, a3, a4, a5, a6, a7, a8, a9⟩ := h
  have e := fun j => addU_e r c j
  refine ⟨?_, ?_, ?_, ?_, fun i hi => ?_, fun q hq => ?_, fun q hq => ⟨?_, ?_, ?_⟩, fun i hi => ?_, fun q hq => ⟨?_, ?_, ?_⟩⟩
  · rw [e, if_neg (by omega), if_neg (by omega)]; exact a1
  · rw [e, if_neg (by omega), if_neg (by omega)]; exact a2
  · rw [e, if_neg (by omega), if_neg (by omega)]; exact a3
  · rw [e, if_pos rfl]; exact isN_N (by omega)
  · rw [e, if_neg (by omega), if_neg (by omega)]; exact a5 i hi
  · rw [e, if_neg (by omega), if_neg (by omega)]; exact a6 q hq
  · rw [e, if_neg (by omega), if_neg (by omega)]; exact (a7 q hq).1
  · rw [e, if_neg (by omega), if_neg (by omega)]; exact (a7 q hq).2.1
  · rw [e, if_neg (by omega), if_neg (by omega)]; exact (a7 q hq).2.2
  · rw [e, if_neg (by omega)]
    by_cases x : i = nU r
    · rw [if_pos (by omega)]; exact isN_N hc
    · rw [if_neg (by omega)]; exact a8 i hi
  · rw [e, if_neg (by omega), if_neg (by omega)]; exact (a9 q hq).1
  · rw [e, if_neg (by omega), if_neg (by omega)]; exact (a9 q hq).2.1
  · rw [e, if_neg (by omega), if_neg (by omega)]; exact (a9 q hq).2.2
section AD
variable {o : Nat} {z : mm_S} {r : Nat → Int32}
theorem x_addCrew (ho : o = 1 ∨ o = 13 ∨ o = 25) (hm : RM o z r) (hr : okR r) (hn : nC r < 6) (k c f : Nat) : RM o (tX0_addCrew o (nI k) (nI c) (nI f) z) (addC r k c f) ∧ (∀ b, b ≠ o → b ≠ o + 4 → b ≠ o + 5 → b ≠ o + 6 → (tX0_addCrew o (nI k) (nI c) (nI f) z).1 b = z.1 b) ∧ (tX0_addCrew o (nI k) (nI c) (nI f) z).2 = z.2 ∧ (tX0_addCrew o (nI k) (nI c) (nI f) z).1 o 4 = nI (nC r + 1) := by
  obtain ⟨l4, l5, l6, -⟩ := oM ho
  have hc := ok_nC hr
  have e4 : z.1 o 4 = nI (nC r) := hm.2.1.trans hc.1
  have eq : tX0_addCrew o (nI k) (nI c) (nI f) z = (mm_ui (mm_ui (mm_ui (mm_ui z.1 (o + 4) (nC r) (nI k)) (o + 5) (nC r) (nI c)) (o + 6) (nC r) (nI f)) o 4 (nI (nC r + 1)), z.2) := by
    unfold tX0_addCrew tX0_addCrew_13 tX0_addCrew_26 tX0_addCrew_39 tX0_addCrew_49
    dsimp only
    rw [e4, ex_N _ _ (by omega)]
    dsimp only
    rw [ru_n _ _ (show o ≠ o + 4 by omega), e4, ex_N _ _ (by omega)]
    dsimp only
    rw [ru_n _ _ (show o ≠ o + 5 by omega), ru_n _ _ (show o ≠ o + 4 by omega), e4, ex_N _ _ (by omega)]
    dsimp only
    rw [ru_n _ _ (show o ≠ o + 6 by omega), ru_n _ _ (show o ≠ o + 5 by omega), ru_n _ _ (show o ≠ o + 4 by omega), e4, nI_1]
  rw [eq]
  have nn : ∀ b, b ≠ o → b ≠ o + 4 → b ≠ o + 5 → b ≠ o + 6 → mm_ui (mm_ui (mm_ui (mm_ui z.1 (o + 4) (nC r) (nI k)) (o + 5) (nC r) (nI c)) (o + 6) (nC r) (nI f)) o 4 (nI (nC r + 1)) b = z.1 b := fun b h1 h2 h3 h4 => by
    rw [ru_n _ _ h1, ru_n _ _ h4, ru_n _ _ h3, ru_n _ _ h2]
  have no : ∀ i, i ≠ 4 → mm_ui (mm_ui (mm_ui (mm_ui z.1 (o + 4) (nC r) (nI k)) (o + 5) (nC r) (nI c)) (o + 6) (nC r) (nI f)) o 4 (nI (nC r + 1)) o i = z.1 o i := fun i hi => by
    rw [ru_i _ _ hi, ru_n _ _ (show o ≠ o + 6 by omega), ru_n _ _ (show o ≠ o + 5 by omega), ru_n _ _ (show o ≠ o + 4 by omega)]
  have e := fun j => addC_e r k c f j hn
  obtain ⟨a1, a2, a3, a4, a5, a6, a7, a8, a9, a10⟩ := hm
  refine ⟨⟨?_, ?_, ?_, ?_, ?_, fun i hi => ?_, fun q hq => ⟨?_, ?_, ?_⟩, fun i hi => ?_, fun i hi => ⟨?_, ?_, ?_⟩, ?_⟩, nn, rfl, ru_s _ _ _ _⟩ <;> try dsimp only
  · rw [no 12 (by decide), e, if_neg (by omega), if_neg (by omega), if_neg (by omega), if_neg (by omega)]; exact a1
  · rw [e, if_pos rfl]; exact ru_s _ _ _ _
  · rw [no 10 (by decide), e, if_neg (by omega), if_neg (by omega), if_neg (by omega), if_neg (by omega)]; exact a3
  · rw [no 6 (by decide), e, if_neg (by omega), if_neg (by omega), if_neg (by omega), if_neg (by omega)]; exact a4
  · rw [no 13 (by decide), e, if_neg (by omega), if_neg (by omega), if_neg (by omega), if_neg (by omega)]; exact a5
  · rw [nn (o + 11) (by omega) (by omega) (by omega) (by omega), e, if_neg (by omega), if_neg (by omega), if_neg (by omega), if_neg (by omega)]; exact a6 i hi
  · rw [ru_n _ _ (by omega), ru_n _ _ (by omega), ru_n _ _ (by omega), e, if_neg (by omega)]
    by_cases x : q = nC r
    · rw [if_pos (by omega), x]; exact ru_s _ _ _ _
    · rw [if_neg (by omega), if_neg (by omega), if_neg (by omega), ru_i _ _ x]; exact (a7 q hq).1
  · rw [ru_n _ _ (by omega), ru_n _ _ (by omega), e, if_neg (by omega), if_neg (by omega)]
    by_cases x : q = nC r
    · rw [if_pos (by omega), x]; exact ru_s _ _ _ _
    · rw [if_neg (by omega), if_neg (by omega), ru_i _ _ x, ru_n _ _ (by omega)]; exact (a7 q hq).2.1
  · rw [ru_n _ _ (by omega), e, if_neg (by omega), if_neg (by omega), if_neg (by omega)]
    by_cases x : q = nC r
    · rw [if_pos (by omega), x]; exact ru_s _ _ _ _
    · rw [if_neg (by omega), ru_i _ _ x, ru_n _ _ (by omega), ru_n _ _ (by omega)]; exact (a7 q hq).2.2
  · rw [nn (o + 7) (by omega) (by omega) (by omega) (by omega), e, if_neg (by omega), if_neg (by omega), if_neg (by omega), if_neg (by omega)]; exact a8 i hi
  · rw [nn (o + 8) (by omega) (by omega) (by omega) (by omega), e, if_neg (by omega), if_neg (by omega), if_neg (by omega), if_neg (by omega)]; exact (a9 i hi).1
  · rw [nn (o + 9) (by omega) (by omega) (by omega) (by omega), e, if_neg (by omega), if_neg (by omega), if_neg (by omega), if_neg (by omega)]; exact (a9 i hi).2.1
  · rw [nn (o + 10) (by omega) (by omega) (by omega) (by omega), e, if_neg (by omega), if_neg (by omega), if_neg (by omega), if_neg (by omega)]; exact (a9 i hi).2.2
  · exact sb_o a10 rfl (stf_o fun q hq => by rw [e, if_neg (by omega), if_neg (by omega), if_neg (by omega), if_neg (by omega)])
theorem x_addBook (ho : o = 1 ∨ o = 13 ∨ o = 25) (hm : RM o z r) (hr : okR r) (hn : nB r < 8) (k c f : Nat) : RM o (tX0_addBook o (nI k) (nI c) (nI f) z) (addB r k c f) ∧ (∀ b, b ≠ o → b ≠ o + 8 → b ≠ o + 9 → b ≠ o + 10 → (tX0_addBook o (nI k) (nI c) (nI f) z).1 b = z.1 b) ∧ (tX0_addBook o (nI k) (nI c) (nI f) z).2 = z.2 ∧ (tX0_addBook o (nI k) (nI c) (nI f) z).1 o 10 = nI (nB r + 1) := by
  obtain ⟨-, -, -, -, l4, l5, l6, -⟩ := oM ho
  have hc := ok_nB hr
  have e4 : z.1 o 10 = nI (nB r) := hm.2.2.1.trans hc.1
  have eq : tX0_addBook o (nI k) (nI c) (nI f) z = (mm_ui (mm_ui (mm_ui (mm_ui z.1 (o + 8) (nB r) (nI k)) (o + 9) (nB r) (nI c)) (o + 10) (nB r) (nI f)) o 10 (nI (nB r + 1)), z.2) := by
    unfold tX0_addBook tX0_addBook_13 tX0_addBook_26 tX0_addBook_39 tX0_addBook_49
    dsimp only
    rw [e4, ex_N _ _ (by omega)]
    dsimp only
    rw [ru_n _ _ (show o ≠ o + 8 by omega), e4, ex_N _ _ (by omega)]
    dsimp only
    rw [ru_n _ _ (show o ≠ o + 9 by omega), ru_n _ _ (show o ≠ o + 8 by omega), e4, ex_N _ _ (by omega)]
    dsimp only
    rw [ru_n _ _ (show o ≠ o + 10 by omega), ru_n _ _ (show o ≠ o + 9 by omega), ru_n _ _ (show o ≠ o + 8 by omega), e4, nI_1]
  rw [eq]
  have nn : ∀ b, b ≠ o → b ≠ o + 8 → b ≠ o + 9 → b ≠ o + 10 → mm_ui (mm_ui (mm_ui (mm_ui z.1 (o + 8) (nB r) (nI k)) (o + 9) (nB r) (nI c)) (o + 10) (nB r) (nI f)) o 10 (nI (nB r + 1)) b = z.1 b := fun b h1 h2 h3 h4 => by
    rw [ru_n _ _ h1, ru_n _ _ h4, ru_n _ _ h3, ru_n _ _ h2]
  have no : ∀ i, i ≠ 10 → mm_ui (mm_ui (mm_ui (mm_ui z.1 (o + 8) (nB r) (nI k)) (o + 9) (nB r) (nI c)) (o + 10) (nB r) (nI f)) o 10 (nI (nB r + 1)) o i = z.1 o i := fun i hi => by
    rw [ru_i _ _ hi, ru_n _ _ (show o ≠ o + 10 by omega), ru_n _ _ (show o ≠ o + 9 by omega), ru_n _ _ (show o ≠ o + 8 by omega)]
  have e := fun j => addB_e r k c f j hn
  obtain ⟨a1, a2, a3, a4, a5, a6, a7, a8, a9, a10⟩ := hm
  refine ⟨⟨?_, ?_, ?_, ?_, ?_, fun i hi => ?_, fun q hq => ⟨?_, ?_, ?_⟩, fun i hi => ?_, fun q hq => ⟨?_, ?_, ?_⟩, ?_⟩, nn, rfl, ru_s _ _ _ _⟩ <;> try dsimp only
  · rw [no 12 (by decide), e, if_neg (by omega), if_neg (by omega), if_neg (by omega), if_neg (by omega)]; exact a1
  · rw [no 4 (by decide), e, if_neg (by omega), if_neg (by omega), if_neg (by omega), if_neg (by omega)]; exact a2
  · rw [e, if_pos rfl]; exact ru_s _ _ _ _
  · rw [no 6 (by decide), e, if_neg (by omega), if_neg (by omega), if_neg (by omega), if_neg (by omega)]; exact a4
  · rw [no 13 (by decide), e, if_neg (by omega), if_neg (by omega), if_neg (by omega), if_neg (by omega)]; exact a5
  · rw [nn (o + 11) (by omega) (by omega) (by omega) (by omega), e, if_neg (by omega), if_neg (by omega), if_neg (by omega), if_neg (by omega)]; exact a6 i hi
  · rw [nn (o + 4) (by omega) (by omega) (by omega) (by omega), e, if_neg (by omega), if_neg (by omega), if_neg (by omega), if_neg (by omega)]; exact (a7 q hq).1
  · rw [nn (o + 5) (by omega) (by omega) (by omega) (by omega), e, if_neg (by omega), if_neg (by omega), if_neg (by omega), if_neg (by omega)]; exact (a7 q hq).2.1
  · rw [nn (o + 6) (by omega) (by omega) (by omega) (by omega), e, if_neg (by omega), if_neg (by omega), if_neg (by omega), if_neg (by omega)]; exact (a7 q hq).2.2
  · rw [nn (o + 7) (by omega) (by omega) (by omega) (by omega), e, if_neg (by omega), if_neg (by omega), if_neg (by omega), if_neg (by omega)]; exact a8 i hi
  · rw [ru_n _ _ (by omega), ru_n _ _ (by omega), ru_n _ _ (by omega), e, if_neg (by omega)]
    by_cases x : q = nB r
    · rw [if_pos (by omega), x]; exact ru_s _ _ _ _
    · rw [if_neg (by omega), if_neg (by omega), if_neg (by omega), ru_i _ _ x]; exact (a9 q hq).1
  · rw [ru_n _ _ (by omega), ru_n _ _ (by omega), e, if_neg (by omega), if_neg (by omega)]
    by_cases x : q = nB r
    · rw [if_pos (by omega), x]; exact ru_s _ _ _ _
    · rw [if_neg (by omega), if_neg (by omega), ru_i _ _ x, ru_n _ _ (by omega)]; exact (a9 q hq).2.1
  · rw [ru_n _ _ (by omega), e, if_neg (by omega), if_neg (by omega), if_neg (by omega)]
    by_cases x : q = nB r
    · rw [if_pos (by omega), x]; exact ru_s _ _ _ _
    · rw [if_neg (by omega), ru_i _ _ x, ru_n _ _ (by omega), ru_n _ _ (by omega)]; exact (a9 q hq).2.2
  · exact sb_o a10 rfl (stf_o fun q hq => by rw [e, if_neg (by omega), if_neg (by omega), if_neg (by omega), if_neg (by omega)])
theorem x_addUnsure (ho : o = 1 ∨ o = 13 ∨ o = 25) (hm : RM o z r) (hr : okR r) (hn : nU r < 4) (c : Nat) : RM o (tX0_addUnsure o (nI c) z) (addU r c) ∧ (∀ b, b ≠ o → b ≠ o + 7 → (tX0_addUnsure o (nI c) z).1 b = z.1 b) ∧ (tX0_addUnsure o (nI c) z).2 = z.2 ∧ (tX0_addUnsure o (nI c) z).1 o 6 = nI (nU r + 1) := by
  obtain ⟨-, -, -, l7, -⟩ := oM ho
  have hc := ok_nU hr
  have e4 : z.1 o 6 = nI (nU r) := hm.2.2.2.1.trans hc.1
  have eq : tX0_addUnsure o (nI c) z = (mm_ui (mm_ui z.1 (o + 7) (nU r) (nI c)) o 6 (nI (nU r + 1)), z.2) := by
    unfold tX0_addUnsure tX0_addUnsure_13 tX0_addUnsure_23
    dsimp only
    rw [e4, ex_N _ _ (by omega)]
    dsimp only
    rw [ru_n _ _ (show o ≠ o + 7 by omega), e4, nI_1]
  rw [eq]
  have nn : ∀ b, b ≠ o → b ≠ o + 7 → mm_ui (mm_ui z.1 (o + 7) (nU r) (nI c)) o 6 (nI (nU r + 1)) b = z.1 b := fun b h1 h2 => by rw [ru_n _ _ h1, ru_n _ _ h2]
  have no : ∀ i, i ≠ 6 → mm_ui (mm_ui z.1 (o + 7) (nU r) (nI c)) o 6 (nI (nU r + 1)) o i = z.1 o i := fun i hi => by rw [ru_i _ _ hi, ru_n _ _ (show o ≠ o + 7 by omega)]
  have e := fun j => addU_e r c j
  obtain ⟨a1, a2, a3, a4, a5, a6, a7, a8, a9, a10⟩ := hm
  refine ⟨⟨?_, ?_, ?_, ?_, ?_, fun i hi => ?_, fun q hq => ⟨?_, ?_, ?_⟩, fun i hi => ?_, fun q hq => ⟨?_, ?_, ?_⟩, ?_⟩, nn, rfl, ru_s _ _ _ _⟩ <;> try dsimp only
  · rw [no 12 (by decide), e, if_neg (by omega), if_neg (by omega)]; exact a1
  · rw [no 4 (by decide), e, if_neg (by omega), if_neg (by omega)]; exact a2
  · rw [no 10 (by decide), e, if_neg (by omega), if_neg (by omega)]; exact a3
  · rw [e, if_pos rfl]; exact ru_s _ _ _ _
  · rw [no 13 (by decide), e, if_neg (by omega), if_neg (by omega)]; exact a5
  · rw [nn (o + 11) (by omega) (by omega), e, if_neg (by omega), if_neg (by omega)]; exact a6 i hi
  · rw [nn (o + 4) (by omega) (by omega), e, if_neg (by omega), if_neg (by omega)]; exact (a7 q hq).1
  · rw [nn (o + 5) (by omega) (by omega), e, if_neg (by omega), if_neg (by omega)]; exact (a7 q hq).2.1
  · rw [nn (o + 6) (by omega) (by omega), e, if_neg (by omega), if_neg (by omega)]; exact (a7 q hq).2.2
  · rw [ru_n _ _ (by omega), e, if_neg (by omega)]
    by_cases x : i = nU r
    · rw [if_pos (by omega), x]; exact ru_s _ _ _ _
    · rw [if_neg (by omega), ru_i _ _ x]; exact a8 i hi
  · rw [nn (o + 8) (by omega) (by omega), e, if_neg (by omega), if_neg (by omega)]; exact (a9 q hq).1
  · rw [nn (o + 9) (by omega) (by omega), e, if_neg (by omega), if_neg (by omega)]; exact (a9 q hq).2.1
  · rw [nn (o + 10) (by omega) (by omega), e, if_neg (by omega), if_neg (by omega)]; exact (a9 q hq).2.2
  · exact sb_o a10 rfl (stf_o fun q hq => by rw [e, if_neg (by omega), if_neg (by omega)])
end AD
/-! the reference's -/
section MA
variable {w : mm_S} {r : Nat → Int32}
theorem m_become {i : Nat} (hi : i < 97) (v : Int32) (w : mm_S) : sX4_become (nI i) v w = some (w.1 1 i, (mm_ui w.1 1 i v, w.2)) := by
  unfold sX4_become sX4_become_0 sX4_become_14
  rw [if_neg (gI hi (by decide)), if_neg (gI hi (by decide)), nI_clamp (by omega)]
theorem m_comes (hw : w.1 1 = r) (hr : okR r) (hn : nC r < 6) (k c f : Nat) : ∃ w', sX4_comes (nI k) (nI c) (nI f) w = some (nI (nC r), w') ∧ w'.1 1 = addC r k c f ∧ ∀ b, b ≠ 1 → w'.1 b = w.1 b := by
  have hc := ok_nC hr
  have e1 : w.1 1 1 = nI (nC r) := by rw [hw]; exact hc.1
  have t0 : pX4_at (nI (nC r)) 0 = nI (51 + 3 * nC r) := m_at (k := nC r) (f := 0)
  have t1 : pX4_at (nI (nC r)) 1 = nI (52 + 3 * nC r) := (m_at (k := nC r) (f := 1)).trans (by congr 1; omega)
  have t2 : pX4_at (nI (nC r)) 2 = nI (53 + 3 * nC r) := (m_at (k := nC r) (f := 2)).trans (by congr 1; omega)
  unfold sX4_comes sX4_comes_0 sX4_comes_20 sX4_comes_32 sX4_comes_44 sX4_comes_54
  rw [e1, t0, t1, t2, if_neg (gI (by omega) (by decide)), if_neg (gI (by omega) (by decide)), if_neg (gI (by omega) (by decide)), nI_clamp (by omega), nI_clamp (by omega), nI_clamp (by omega)]
  refine ⟨_, rfl, ?_, fun b hb => ?_⟩
  · show mm_ui (mm_ui (mm_ui (mm_ui w.1 1 _ _) 1 _ _) 1 _ _) 1 1 (mm_ui (mm_ui (mm_ui w.1 1 _ _) 1 _ _) 1 _ _ 1 1 + 1) 1 = _
    rw [ru_i _ _ (by omega), ru_i _ _ (by omega), ru_i _ _ (by omega), e1, nI_1]
    simp only [ru_r]
    rw [hw]
    rfl
  · show mm_ui (mm_ui (mm_ui (mm_ui w.1 1 _ _) 1 _ _) 1 _ _) 1 1 _ b = _
    rw [ru_n _ _ hb, ru_n _ _ hb, ru_n _ _ hb, ru_n _ _ hb]
theorem m_getsUnsure (hw : w.1 1 = r) (hr : okR r) (hn : nU r < 4) (c : Nat) : ∃ w', sX4_getsUnsure (nI c) w = some (nI (nU r + 1), w') ∧ w'.1 1 = addU r c ∧ ∀ b, b ≠ 1 → w'.1 b = w.1 b := by
  have hc := ok_nU hr
  have e1 : w.1 1 3 = nI (nU r) := by rw [hw]; exact hc.1
  have t0 : (69 : Int32) + nI (nU r) = nI (69 + nU r) := nI_add 69 _
  unfold sX4_getsUnsure sX4_getsUnsure_0 sX4_getsUnsure_15 sX4_getsUnsure_25
  rw [e1, t0, if_neg (gI (by omega) (by decide)), nI_clamp (by omega)]
  dsimp only
  rw [ru_i _ _ (show (3 : Nat) ≠ 69 + nU r by omega), e1, nI_1]
  refine ⟨_, by rw [ru_s], ?_, fun b hb => ?_⟩
  · show mm_ui (mm_ui w.1 1 _ _) 1 3 _ 1 = _
    rw [ru_r, ru_r, hw]; rfl
  · show mm_ui (mm_ui w.1 1 _ _) 1 3 _ b = _
    rw [ru_n _ _ hb, ru_n _ _ hb]
end MA
