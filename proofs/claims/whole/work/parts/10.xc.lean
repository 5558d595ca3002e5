-- X1_knock
def lV_X1_knock : List (Nat × (List mm_V → mm_S → (Option mm_V → mm_S → Option mm_R) → Option mm_R)) := []
def mV_X1_knock (k : Nat) (as : List mm_V) (z : mm_S) (kk : Option mm_V → mm_S → Option mm_R) : Option mm_R := match mm_at lV_X1_knock k with
  | some f => f as z kk
  | none => none
def arV_X1_knock (k : Nat) : Nat := (mm_at [] k).getD 0
def lS_X1_knock : List (Nat × (List mm_V → mm_S → (Option mm_V → mm_S → Option mm_R) → Option mm_R)) := [(20, clo_X3_putBits), (36, clo_X3_bitsAt), (63, clo_X3_setOf), (108, clo_J7_fill_d0a16)]
def mS_X1_knock (k : Nat) (as : List mm_V) (z : mm_S) (kk : Option mm_V → mm_S → Option mm_R) : Option mm_R := match mm_at lS_X1_knock k with
  | some f => f as z kk
  | none => none
def arS_X1_knock (k : Nat) : Nat := (mm_at [(20, 3), (36, 2), (63, 1), (108, 2)] k).getD 0
def ct_X1_knock : List (Nat × List Nat) := []
def go_X1_knock : Nat → mm_K := mm_go (fun k => mm_at flX1 k) (fun k => mm_at clX1 k) (fun k => mm_at glX1 k) arV_X1_knock arS_X1_knock mV_X1_knock mS_X1_knock lenX roX snX 2 3 tbX1_knock ct_X1_knock
def eX1_knock_0 (n : Nat) (o : Nat) (x1 : Int32) (z : mm_S) : Option mm_R := go_X1_knock n 0 [(0, mm_P 1 o), (1, mm_I x1)] [] z
set_option maxRecDepth 100000 in
theorem qX1_knock_0_2 (n : Nat)  (x1 : Int32) (z : mm_S) : eX1_knock_0 (n + 1) 2 x1 z = (let u1 := (tJ7_fill_d0a16 4 0 z); let u2 := (tX3_putBits 4 0 ((pX3_setOf x1) &&& ((pX3_bitsAt 3 2 u1) ^^^ (-1))) u1); some (none, ((mm_ui u2.1 2 3 0), (mm_ul u2.2 2 2 0)))) := rfl
set_option maxRecDepth 100000 in
theorem qX1_knock_0_14 (n : Nat)  (x1 : Int32) (z : mm_S) : eX1_knock_0 (n + 1) 14 x1 z = (let u1 := (tJ7_fill_d0a16 16 0 z); let u2 := (tX3_putBits 16 0 ((pX3_setOf x1) &&& ((pX3_bitsAt 15 2 u1) ^^^ (-1))) u1); some (none, ((mm_ui u2.1 14 3 0), (mm_ul u2.2 14 2 0)))) := rfl
set_option maxRecDepth 100000 in
theorem qX1_knock_0_26 (n : Nat)  (x1 : Int32) (z : mm_S) : eX1_knock_0 (n + 1) 26 x1 z = (let u1 := (tJ7_fill_d0a16 28 0 z); let u2 := (tX3_putBits 28 0 ((pX3_setOf x1) &&& ((pX3_bitsAt 27 2 u1) ^^^ (-1))) u1); some (none, ((mm_ui u2.1 26 3 0), (mm_ul u2.2 26 2 0)))) := rfl
def rm_X1_knock : Room := { frames := 1, cells := 0, slots := 0, locals := 24 }
def f_X1_knock (as : List mm_V) (z : mm_S) (o : mm_R) : Prop := (as.map mm_cat).sum ≤ 2 ∧ ∃ n, go_X1_knock n 0 (mm_ar 0 as) [] z = some o
theorem M_X1_knock : mm_M lyTX lyFA lenX snX 46 48 17 roX rsA nfA nmA ssX yX1_knock cX1_knock 2 (none) rm_X1_knock f_X1_knock :=
  mm_met (rt := 3) (by decide +kernel) ⟨fun h => absurd h (by decide), fun h => absurd h (by decide), fun h => absurd h (by decide), fun h => rfl⟩ tbX1_knock_ok hsnX okFX1 okLX1 okGX1 (fun _ _ _ _ => rfl) (fun _ _ _ _ => rfl) (fun _ h => absurd h List.not_mem_nil) (List.forall_mem_cons.mpr ⟨sS_X3_putBits (Or.inr ⟨_, ln_X1_20⟩) rfl ⟨by decide, by decide⟩, List.forall_mem_cons.mpr ⟨sS_X3_bitsAt (Or.inr ⟨_, ln_X1_36⟩) rfl ⟨by decide, by decide⟩, List.forall_mem_cons.mpr ⟨sS_X3_setOf (Or.inr ⟨_, ln_X1_63⟩) rfl ⟨by decide, by decide⟩, List.forall_mem_cons.mpr ⟨sS_J7_fill_d0a16 (Or.inl lk_X1_108) rfl ⟨by decide, by decide⟩, fun _ h => absurd h List.not_mem_nil⟩⟩⟩⟩)
def tX1_knock (o : Nat) (x1 : Int32) (z : mm_S) : mm_S := let u1 := (tJ7_fill_d0a16 (o + 2) 0 z); let u2 : mm_S := (u1.1, (mm_ul u1.2 (o + 2) 0 ((pX3_setOf x1) &&& ((pX1_cellsOf o 2 u1) ^^^ (-1))))); ((mm_ui u2.1 o 3 0), (mm_ul u2.2 o 2 0))
theorem sp_X1_knock (o : Nat) (x1 : Int32) (z : mm_S) (hk : ∀ v ∈ [mm_P 1 o, mm_I x1], mm_ok 46 lyTX 48 17 v) : f_X1_knock [mm_P 1 o, mm_I x1] z (none, tX1_knock o x1 z) := by
  refine ⟨Nat.le_of_ble_eq_true rfl, 1, ?_⟩
  obtain ⟨h5, h8⟩ := ok1_l (hk (mm_P 1 o) (by simp))
  have e1 : ∀ u : mm_S, pX3_bitsAt (o + 1) 2 u = pX1_cellsOf o 2 u := fun u => bits_5 h5 2 u
  have e2 : ∀ (v : Int64) (u : mm_S), tX3_putBits (o + 2) 0 v u = (u.1, mm_ul u.2 (o + 2) 0 v) := fun v u => putb_N (j := 0) v u (by omega)
  have key : (some (none, (mm_ui (tX3_putBits (o + 2) 0 (pX3_setOf x1 &&& (pX3_bitsAt (o + 1) 2 (tJ7_fill_d0a16 (o + 2) 0 z) ^^^ (-1))) (tJ7_fill_d0a16 (o + 2) 0 z)).1 o 3 0, mm_ul (tX3_putBits (o + 2) 0 (pX3_setOf x1 &&& (pX3_bitsAt (o + 1) 2 (tJ7_fill_d0a16 (o + 2) 0 z) ^^^ (-1))) (tJ7_fill_d0a16 (o + 2) 0 z)).2 o 2 0)) : Option mm_R) = some (none, tX1_knock o x1 z) := by
    rw [e1, e2]
    rfl
  rcases ok1 (hk (mm_P 1 o) (by simp)) with rfl | rfl | rfl
  · exact (qX1_knock_0_2 0 x1 z).trans key
  · exact (qX1_knock_0_14 0 x1 z).trans key
  · exact (qX1_knock_0_26 0 x1 z).trans key
def clo_X1_knock (as : List mm_V) (z : mm_S) (kk : Option mm_V → mm_S → Option mm_R) : Option mm_R := mm_pr as fun t o0 as => bif Nat.beq t 1 then mm_pi as fun a1 as => (match as with | [] => kk none (tX1_knock o0 a1 z) | _ => none) else none
theorem cs_X1_knock : mm_cs lyTX 46 48 17 f_X1_knock clo_X1_knock := by
  intro as z K o hk h
  obtain ⟨t0, o0, r0, rfl, g0⟩ := mm_pr_e h
  obtain ⟨b0, k0⟩ := mm_bif_e g0
  obtain rfl := Nat.eq_of_beq_eq_true b0
  obtain ⟨a1, r1, rfl, g1⟩ := mm_pi_e k0
  rcases r1 with _ | ⟨u, w⟩
  rotate_left
  · cases g1
  exact ⟨_, _, sp_X1_knock o0 a1 z hk, (fun v hv => by cases hv), g1⟩
theorem sV_X1_knock {own : String} {R : Room} {ar : Nat → Nat} {k : Nat} (hlink : Cond.methodLink own k yX1_knock ∈ lw_gd ∨ ∃ host, (own, k, yX1_knock, host) ∈ nmA) (har : ar k = 2) (hr : 2 ≤ R.frames ∧ 45 ≤ R.locals) : mm_okV lyTX lyFA lenX snX 46 48 17 roX rsA nfA nmA ssX own R ar k clo_X1_knock := by
  refine ⟨yX1_knock, cX1_knock, 2, none, rm_X1_knock, f_X1_knock, 1, 1, (RX1, TX1, 4), M_X1_knock, cs_X1_knock, hlink, ⟨wv_X1_knock, wz_X1_knock, wi_X1_knock, wc_X1_knock⟩, ⟨by decide +kernel, by decide +kernel, by decide +kernel⟩, har, ⟨rfl, rfl, by decide⟩, ?_, ⟨rfl, rfl, hr.1, hr.2⟩⟩
  intro as z K o h
  obtain ⟨t0, o0, r0, rfl, g0⟩ := mm_pr_e h
  obtain ⟨b0, k0⟩ := mm_bif_e g0
  obtain rfl := Nat.eq_of_beq_eq_true b0
  exact ⟨_, _, rfl⟩
-- X3_copyRow
def lV_X3_copyRow : List (Nat × (List mm_V → mm_S → (Option mm_V → mm_S → Option mm_R) → Option mm_R)) := []
def mV_X3_copyRow (k : Nat) (as : List mm_V) (z : mm_S) (kk : Option mm_V → mm_S → Option mm_R) : Option mm_R := match mm_at lV_X3_copyRow k with
  | some f => f as z kk
  | none => none
def arV_X3_copyRow (k : Nat) : Nat := (mm_at [] k).getD 0
def lS_X3_copyRow : List (Nat × (List mm_V → mm_S → (Option mm_V → mm_S → Option mm_R) → Option mm_R)) := [(325, mm_mn), (361, (mm_ci lenX))]
def mS_X3_copyRow (k : Nat) (as : List mm_V) (z : mm_S) (kk : Option mm_V → mm_S → Option mm_R) : Option mm_R := match mm_at lS_X3_copyRow k with
  | some f => f as z kk
  | none => none
def arS_X3_copyRow (k : Nat) : Nat := (mm_at [(325, 2), (361, 5)] k).getD 0
def ct_X3_copyRow : List (Nat × List Nat) := [(11, [])]
def go_X3_copyRow : Nat → mm_K := mm_go (fun k => mm_at flX3 k) (fun k => mm_at clX3 k) (fun k => mm_at glX3 k) arV_X3_copyRow arS_X3_copyRow mV_X3_copyRow mS_X3_copyRow lenX roX snX 2 3 tbX3_copyRow ct_X3_copyRow
def eX3_copyRow_0 (n : Nat) (x1 : Nat) (x2 : Nat) (z : mm_S) : Option mm_R := go_X3_copyRow n 0 [(0, mm_P 10 x1), (1, mm_P 10 x2)] [] z
def eX3_copyRow_11 (n : Nat) (w0 : Int32) (w1 : Int32) (w2 : Nat) (w3 : Int32) (w4 : Nat) (z : mm_S) : Option mm_R := go_X3_copyRow n 11 [] [mm_I w0, mm_I w1, mm_P 10 w2, mm_I w3, mm_P 10 w4] z
set_option maxRecDepth 100000 in
theorem qX3_copyRow_0 (n : Nat) (x1 : Nat) (x2 : Nat) (z : mm_S) : eX3_copyRow_0 (n + 1) x1 x2 z = (eX3_copyRow_11 n (mm_min (Int32.ofNat (lenX x1)) (Int32.ofNat (lenX x2))) 0 x2 0 x1 z) := rfl
set_option maxRecDepth 100000 in
theorem qX3_copyRow_11 (n : Nat) (w0 : Int32) (w1 : Int32) (w2 : Nat) (w3 : Int32) (w4 : Nat) (z : mm_S) : eX3_copyRow_11 (n + 1) w0 w1 w2 w3 w4 z = (if (w3 : Int32) < 0 ∨ (w1 : Int32) < 0 ∨ (w0 : Int32) < 0 ∨ lenX w4 < Int32.toNatClampNeg w3 + Int32.toNatClampNeg w0 ∨ lenX w2 < Int32.toNatClampNeg w1 + Int32.toNatClampNeg w0 then none else let u1 : mm_S := (mm_cp z.1 w4 w2 (Int32.toNatClampNeg w3) (Int32.toNatClampNeg w1) (Int32.toNatClampNeg w0), z.2); some (none, u1)) := rfl
def rm_X3_copyRow : Room := { frames := 1, cells := 0, slots := 0, locals := 26 }
def f_X3_copyRow (as : List mm_V) (z : mm_S) (o : mm_R) : Prop := (as.map mm_cat).sum ≤ 2 ∧ ∃ n, go_X3_copyRow n 0 (mm_ar 0 as) [] z = some o
theorem M_X3_copyRow : mm_M lyTX lyFA lenX snX 46 48 17 roX rsA nfA nmA ssX yX3_copyRow cX3_copyRow 2 (none) rm_X3_copyRow f_X3_copyRow :=
  mm_met (rt := 3) (by decide +kernel) ⟨fun h => absurd h (by decide), fun h => absurd h (by decide), fun h => absurd h (by decide), fun h => rfl⟩ tbX3_copyRow_ok hsnX okFX3 okLX3 okGX3 (fun _ _ _ _ => rfl) (fun _ _ _ _ => rfl) (fun _ h => absurd h List.not_mem_nil) (List.forall_mem_cons.mpr ⟨Or.inr (Or.inr ⟨Or.inr ⟨rfl, lk_X3_325, ws_min, wc_min⟩, wi_math, by decide, by decide, rfl⟩), List.forall_mem_cons.mpr ⟨Or.inr (Or.inl ⟨Or.inl rfl, lk_X3_361, wn_copy, ws_copy, wi_copy, by decide, by decide, rfl⟩), fun _ h => absurd h List.not_mem_nil⟩⟩)
def tX3_copyRow (a b : Nat) (z : mm_S) : mm_S := (mm_cp z.1 a b 0 0 (min (lenX a) (lenX b)), z.2)
theorem mm_min_nI {a b : Nat} (ha : a < 2 ^ 31) (hb : b < 2 ^ 31) : mm_min (Int32.ofNat a) (Int32.ofNat b) = nI (min a b) := by
  show (if nI b < nI a then nI b else nI a) = nI (min a b)
  by_cases h : b < a
  · rw [if_pos (nI_lt h ha), Nat.min_eq_right (by omega)]
  · rw [if_neg (nI_nlt (by omega) hb), Nat.min_eq_left (by omega)]
theorem sp_X3_copyRow (a b : Nat) (z : mm_S) (_ : ∀ u ∈ [mm_P 10 a, mm_P 10 b], mm_ok 46 lyTX 48 17 u) : f_X3_copyRow [mm_P 10 a, mm_P 10 b] z (none, tX3_copyRow a b z) := by
  refine ⟨Nat.le_of_ble_eq_true rfl, 2, (qX3_copyRow_0 1 a b z).trans ((qX3_copyRow_11 0 (mm_min (Int32.ofNat (lenX a)) (Int32.ofNat (lenX b))) 0 b 0 a z).trans ?_)⟩
  have ha := lenX_lt a
  have hb := lenX_lt b
  have hm : min (lenX a) (lenX b) < 2 ^ 31 := Nat.lt_of_le_of_lt (Nat.min_le_left _ _) ha
  have e0 : Int32.toNatClampNeg 0 = 0 := by decide
  rw [mm_min_nI ha hb, nI_clamp hm, e0, if_neg]
  · rfl
  · intro h
    rcases h with h | h | h | h | h
    · exact absurd h (by decide)
    · exact absurd h (by decide)
    · exact nI_pos hm h
    · rw [Nat.zero_add] at h
      exact absurd h (Nat.not_lt.mpr (Nat.min_le_left _ _))
    · rw [Nat.zero_add] at h
      exact absurd h (Nat.not_lt.mpr (Nat.min_le_right _ _))
def clo_X3_copyRow (as : List mm_V) (z : mm_S) (kk : Option mm_V → mm_S → Option mm_R) : Option mm_R := mm_pr as fun t o0 as => bif Nat.beq t 10 then mm_pr as fun t o1 as => bif Nat.beq t 10 then (match as with | [] => kk none (tX3_copyRow o0 o1 z) | _ => none) else none else none
theorem cs_X3_copyRow : mm_cs lyTX 46 48 17 f_X3_copyRow clo_X3_copyRow := by
  intro as z K o hk h
  obtain ⟨t0, o0, r0, rfl, g0⟩ := mm_pr_e h
  obtain ⟨b0, k0⟩ := mm_bif_e g0
  obtain rfl := Nat.eq_of_beq_eq_true b0
  obtain ⟨t1, o1, r1, rfl, g1⟩ := mm_pr_e k0
  obtain ⟨b1, k1⟩ := mm_bif_e g1
  obtain rfl := Nat.eq_of_beq_eq_true b1
  rcases r1 with _ | ⟨u, w⟩
  rotate_left
  · cases k1
  exact ⟨_, _, sp_X3_copyRow o0 o1 z hk, (fun v hv => by cases hv), k1⟩
theorem sS_X3_copyRow {own : String} {R : Room} {ar : Nat → Nat} {k : Nat} (hlink : Cond.methodLink own k yX3_copyRow ∈ lw_gd ∨ ∃ host, (own, k, yX3_copyRow, host) ∈ nmA) (har : ar k = 2) (hr : 2 ≤ R.frames ∧ 47 ≤ R.locals) : mm_okS lyTX lyFA lenX snX 46 48 17 roX rsA nfA nmA ssX own R ar k clo_X3_copyRow :=
  Or.inl ⟨yX3_copyRow, cX3_copyRow, 2, none, rm_X3_copyRow, f_X3_copyRow, M_X3_copyRow, cs_X3_copyRow, hlink, ⟨ws_X3_copyRow, wi_X3_copyRow, wc_X3_copyRow⟩, ⟨by decide +kernel, by decide +kernel, by rw [har]; decide +kernel⟩, ⟨rfl, rfl, hr.1, hr.2⟩⟩
-- X1_becomeRock
def lV_X1_becomeRock : List (Nat × (List mm_V → mm_S → (Option mm_V → mm_S → Option mm_R) → Option mm_R)) := []
def mV_X1_becomeRock (k : Nat) (as : List mm_V) (z : mm_S) (kk : Option mm_V → mm_S → Option mm_R) : Option mm_R := match mm_at lV_X1_becomeRock k with
  | some f => f as z kk
  | none => none
def arV_X1_becomeRock (k : Nat) : Nat := (mm_at [] k).getD 0
def lS_X1_becomeRock : List (Nat × (List mm_V → mm_S → (Option mm_V → mm_S → Option mm_R) → Option mm_R)) := [(24, mm_mn), (30, (mm_cj lenX))]
def mS_X1_becomeRock (k : Nat) (as : List mm_V) (z : mm_S) (kk : Option mm_V → mm_S → Option mm_R) : Option mm_R := match mm_at lS_X1_becomeRock k with
  | some f => f as z kk
  | none => none
def arS_X1_becomeRock (k : Nat) : Nat := (mm_at [(24, 2), (30, 5)] k).getD 0
def ct_X1_becomeRock : List (Nat × List Nat) := [(23, [])]
def go_X1_becomeRock : Nat → mm_K := mm_go (fun k => mm_at flX1 k) (fun k => mm_at clX1 k) (fun k => mm_at glX1 k) arV_X1_becomeRock arS_X1_becomeRock mV_X1_becomeRock mS_X1_becomeRock lenX roX snX 2 3 tbX1_becomeRock ct_X1_becomeRock
def eX1_becomeRock_0 (n : Nat) (o : Nat) (x1 : Nat) (z : mm_S) : Option mm_R := go_X1_becomeRock n 0 [(0, mm_P 1 o), (1, mm_P 1 x1)] [] z
def eX1_becomeRock_23 (n : Nat) (w0 : Int32) (w1 : Int32) (w2 : Nat) (w3 : Int32) (w4 : Nat) (z : mm_S) : Option mm_R := go_X1_becomeRock n 23 [] [mm_I w0, mm_I w1, mm_P 11 w2, mm_I w3, mm_P 11 w4] z
set_option maxRecDepth 100000 in
theorem qX1_becomeRock_0_2 (n : Nat)  (x1 : Nat) (z : mm_S) : eX1_becomeRock_0 (n + 1) 2 x1 z = (eX1_becomeRock_23 n (mm_min (Int32.ofNat (lenX (x1 + 1))) 5) 0 3 0 (x1 + 1) z) := rfl
set_option maxRecDepth 100000 in
theorem qX1_becomeRock_23_2 (n : Nat) (w0 : Int32) (w1 : Int32) (w2 : Nat) (w3 : Int32) (w4 : Nat) (z : mm_S) : eX1_becomeRock_23 (n + 1) w0 w1 w2 w3 w4 z = (if (w3 : Int32) < 0 ∨ (w1 : Int32) < 0 ∨ (w0 : Int32) < 0 ∨ lenX w4 < Int32.toNatClampNeg w3 + Int32.toNatClampNeg w0 ∨ lenX w2 < Int32.toNatClampNeg w1 + Int32.toNatClampNeg w0 then none else let u1 : mm_S := (z.1, mm_cp z.2 w4 w2 (Int32.toNatClampNeg w3) (Int32.toNatClampNeg w1) (Int32.toNatClampNeg w0)); some (none, u1)) := rfl
set_option maxRecDepth 100000 in
theorem qX1_becomeRock_0_14 (n : Nat)  (x1 : Nat) (z : mm_S) : eX1_becomeRock_0 (n + 1) 14 x1 z = (eX1_becomeRock_23 n (mm_min (Int32.ofNat (lenX (x1 + 1))) 5) 0 15 0 (x1 + 1) z) := rfl
set_option maxRecDepth 100000 in
theorem qX1_becomeRock_23_14 (n : Nat) (w0 : Int32) (w1 : Int32) (w2 : Nat) (w3 : Int32) (w4 : Nat) (z : mm_S) : eX1_becomeRock_23 (n + 1) w0 w1 w2 w3 w4 z = (if (w3 : Int32) < 0 ∨ (w1 : Int32) < 0 ∨ (w0 : Int32) < 0 ∨ lenX w4 < Int32.toNatClampNeg w3 + Int32.toNatClampNeg w0 ∨ lenX w2 < Int32.toNatClampNeg w1 + Int32.toNatClampNeg w0 then none else let u1 : mm_S := (z.1, mm_cp z.2 w4 w2 (Int32.toNatClampNeg w3) (Int32.toNatClampNeg w1) (Int32.toNatClampNeg w0)); some (none, u1)) := rfl
set_option maxRecDepth 100000 in
theorem qX1_becomeRock_0_26 (n : Nat)  (x1 : Nat) (z : mm_S) : eX1_becomeRock_0 (n + 1) 26 x1 z = (eX1_becomeRock_23 n (mm_min (Int32.ofNat (lenX (x1 + 1))) 5) 0 27 0 (x1 + 1) z) := rfl
set_option maxRecDepth 100000 in
theorem qX1_becomeRock_23_26 (n : Nat) (w0 : Int32) (w1 : Int32) (w2 : Nat) (w3 : Int32) (w4 : Nat) (z : mm_S) : eX1_becomeRock_23 (n + 1) w0 w1 w2 w3 w4 z = (if (w3 : Int32) < 0 ∨ (w1 : Int32) < 0 ∨ (w0 : Int32) < 0 ∨ lenX w4 < Int32.toNatClampNeg w3 + Int32.toNatClampNeg w0 ∨ lenX w2 < Int32.toNatClampNeg w1 + Int32.toNatClampNeg w0 then none else let u1 : mm_S := (z.1, mm_cp z.2 w4 w2 (Int32.toNatClampNeg w3) (Int32.toNatClampNeg w1) (Int32.toNatClampNeg w0)); some (none, u1)) := rfl
def rm_X1_becomeRock : Room := { frames := 1, cells := 0, slots := 0, locals := 26 }
def f_X1_becomeRock (as : List mm_V) (z : mm_S) (o : mm_R) : Prop := (as.map mm_cat).sum ≤ 2 ∧ ∃ n, go_X1_becomeRock n 0 (mm_ar 0 as) [] z = some o
theorem M_X1_becomeRock : mm_M lyTX lyFA lenX snX 46 48 17 roX rsA nfA nmA ssX yX1_becomeRock cX1_becomeRock 2 (none) rm_X1_becomeRock f_X1_becomeRock :=
  mm_met (rt := 3) (by decide +kernel) ⟨fun h => absurd h (by decide), fun h => absurd h (by decide), fun h => absurd h (by decide), fun h => rfl⟩ tbX1_becomeRock_ok hsnX okFX1 okLX1 okGX1 (fun _ _ _ _ => rfl) (fun _ _ _ _ => rfl) (fun _ h => absurd h List.not_mem_nil) (List.forall_mem_cons.mpr ⟨Or.inr (Or.inr ⟨Or.inr ⟨rfl, lk_X1_24, ws_min, wc_min⟩, wi_math, by decide, by decide, rfl⟩), List.forall_mem_cons.mpr ⟨Or.inr (Or.inl ⟨Or.inr rfl, lk_X1_30, wn_copy, ws_copy, wi_copy, by decide, by decide, rfl⟩), fun _ h => absurd h List.not_mem_nil⟩⟩)
def tX1_becomeRock (o q : Nat) (z : mm_S) : mm_S := (z.1, mm_cp z.2 (q + 1) (o + 1) 0 0 5)
theorem sp_X1_becomeRock (o q : Nat) (z : mm_S) (hk : ∀ u ∈ [mm_P 1 o, mm_P 1 q], mm_ok 46 lyTX 48 17 u) : f_X1_becomeRock [mm_P 1 o, mm_P 1 q] z (none, tX1_becomeRock o q z) := by
  refine ⟨Nat.le_of_ble_eq_true rfl, 2, ?_⟩
  have ho := (ok1_l (hk (mm_P 1 o) (by simp))).1
  have hq := (ok1_l (hk (mm_P 1 q) (by simp))).1
  have e0 : Int32.toNatClampNeg 0 = 0 := by decide
  have e5 : Int32.toNatClampNeg 5 = 5 := by decide
  have key : ∀ a b : Nat, lenX a = 5 → lenX b = 5 → eX1_becomeRock_23 1 5 0 b 0 a z = some (none, (z.1, mm_cp z.2 a b 0 0 5)) := by
    intro a b ha hb
    have g : ¬ ((0 : Int32) < 0 ∨ (0 : Int32) < 0 ∨ (5 : Int32) < 0 ∨ lenX a < Int32.toNatClampNeg 0 + Int32.toNatClampNeg 5 ∨ lenX b < Int32.toNatClampNeg 0 + Int32.toNatClampNeg 5) := by
      rw [ha, hb]
      decide
    refine (qX1_becomeRock_23_2 0 5 0 b 0 a z).trans ((if_neg g).trans ?_)
    show (some (none, (z.1, mm_cp z.2 a b (Int32.toNatClampNeg 0) (Int32.toNatClampNeg 0) (Int32.toNatClampNeg 5))) : Option mm_R) = _
    rw [e0, e5]
  have em : mm_min (Int32.ofNat (lenX (q + 1))) 5 = 5 := by
    rw [hq]
    decide
  have fin : eX1_becomeRock_23 1 (mm_min (Int32.ofNat (lenX (q + 1))) 5) 0 (o + 1) 0 (q + 1) z = some (none, tX1_becomeRock o q z) := by
    rw [em]
    exact key (q + 1) (o + 1) hq ho
  rcases ok1 (hk (mm_P 1 o) (by simp)) with rfl | rfl | rfl
  · exact (qX1_becomeRock_0_2 1 q z).trans fin
  · exact (qX1_becomeRock_0_14 1 q z).trans fin
  · exact (qX1_becomeRock_0_26 1 q z).trans fin
def clo_X1_becomeRock (as : List mm_V) (z : mm_S) (kk : Option mm_V → mm_S → Option mm_R) : Option mm_R := mm_pr as fun t o0 as => bif Nat.beq t 1 then mm_pr as fun t o1 as => bif Nat.beq t 1 then (match as with | [] => kk none (tX1_becomeRock o0 o1 z) | _ => none) else none else none
theorem cs_X1_becomeRock : mm_cs lyTX 46 48 17 f_X1_becomeRock clo_X1_becomeRock := by
  intro as z K o hk h
  obtain ⟨t0, o0, r0, rfl, g0⟩ := mm_pr_e h
  obtain ⟨b0, k0⟩ := mm_bif_e g0
  obtain rfl := Nat.eq_of_beq_eq_true b0
  obtain ⟨t1, o1, r1, rfl, g1⟩ := mm_pr_e k0
  obtain ⟨b1, k1⟩ := mm_bif_e g1
  obtain rfl := Nat.eq_of_beq_eq_true b1
  rcases r1 with _ | ⟨u, w⟩
  rotate_left
  · cases k1
  exact ⟨_, _, sp_X1_becomeRock o0 o1 z hk, (fun v hv => by cases hv), k1⟩
theorem sV_X1_becomeRock {own : String} {R : Room} {ar : Nat → Nat} {k : Nat} (hlink : Cond.methodLink own k yX1_becomeRock ∈ lw_gd ∨ ∃ host, (own, k, yX1_becomeRock, host) ∈ nmA) (har : ar k = 2) (hr : 2 ≤ R.frames ∧ 47 ≤ R.locals) : mm_okV lyTX lyFA lenX snX 46 48 17 roX rsA nfA nmA ssX own R ar k clo_X1_becomeRock := by
  refine ⟨yX1_becomeRock, cX1_becomeRock, 2, none, rm_X1_becomeRock, f_X1_becomeRock, 1, 1, (RX1, TX1, 4), M_X1_becomeRock, cs_X1_becomeRock, hlink, ⟨wv_X1_becomeRock, wz_X1_becomeRock, wi_X1_becomeRock, wc_X1_becomeRock⟩, ⟨by decide +kernel, by decide +kernel, by decide +kernel⟩, har, ⟨rfl, rfl, by decide⟩, ?_, ⟨rfl, rfl, hr.1, hr.2⟩⟩
  intro as z K o h
  obtain ⟨t0, o0, r0, rfl, g0⟩ := mm_pr_e h
  obtain ⟨b0, k0⟩ := mm_bif_e g0
  obtain rfl := Nat.eq_of_beq_eq_true b0
  exact ⟨_, _, rfl⟩
-- X0_isUnsure
def lV_X0_isUnsure : List (Nat × (List mm_V → mm_S → (Option mm_V → mm_S → Option mm_R) → Option mm_R)) := []
def mV_X0_isUnsure (k : Nat) (as : List mm_V) (z : mm_S) (kk : Option mm_V → mm_S → Option mm_R) : Option mm_R := match mm_at lV_X0_isUnsure k with
  | some f => f as z kk
  | none => none
def arV_X0_isUnsure (k : Nat) : Nat := (mm_at [] k).getD 0
def lS_X0_isUnsure : List (Nat × (List mm_V → mm_S → (Option mm_V → mm_S → Option mm_R) → Option mm_R)) := [(77, clo_X3_at)]
def mS_X0_isUnsure (k : Nat) (as : List mm_V) (z : mm_S) (kk : Option mm_V → mm_S → Option mm_R) : Option mm_R := match mm_at lS_X0_isUnsure k with
  | some f => f as z kk
  | none => none
def arS_X0_isUnsure (k : Nat) : Nat := (mm_at [(77, 2)] k).getD 0
def ct_X0_isUnsure : List (Nat × List Nat) := [(2, [0, 1, 2])]
def go_X0_isUnsure : Nat → mm_K := mm_go (fun k => mm_at flX0 k) (fun k => mm_at clX0 k) (fun k => mm_at glX0 k) arV_X0_isUnsure arS_X0_isUnsure mV_X0_isUnsure mS_X0_isUnsure lenX roX snX 3 1 tbX0_isUnsure ct_X0_isUnsure
def eX0_isUnsure_0 (n : Nat) (o : Nat) (x1 : Int32) (z : mm_S) : Option mm_R := go_X0_isUnsure n 0 [(0, mm_P 0 o), (1, mm_I x1)] [] z
def eX0_isUnsure_2 (n : Nat) (o : Nat) (y1 : Int32) (y2 : Int32) (z : mm_S) : Option mm_R := go_X0_isUnsure n 2 [(0, mm_P 0 o), (1, mm_I y1), (2, mm_I y2)] [] z
set_option maxRecDepth 100000 in
theorem qX0_isUnsure_0_1 (n : Nat)  (x1 : Int32) (z : mm_S) : eX0_isUnsure_0 (n + 1) 1 x1 z = (eX0_isUnsure_2 n 1 x1 0 z) := rfl
set_option maxRecDepth 100000 in
theorem qX0_isUnsure_2_1 (n : Nat)  (y1 : Int32) (y2 : Int32) (z : mm_S) : eX0_isUnsure_2 (n + 1) 1 y1 y2 z = (if (z.1 1 6) ≤ y2 then some (some (mm_I 0), z) else if (pX3_at 8 y2 z) = y1 then some (some (mm_I 1), z) else eX0_isUnsure_2 n 1 y1 (y2 + 1) z) := rfl
set_option maxRecDepth 100000 in
theorem qX0_isUnsure_0_13 (n : Nat)  (x1 : Int32) (z : mm_S) : eX0_isUnsure_0 (n + 1) 13 x1 z = (eX0_isUnsure_2 n 13 x1 0 z) := rfl
set_option maxRecDepth 100000 in
theorem qX0_isUnsure_2_13 (n : Nat)  (y1 : Int32) (y2 : Int32) (z : mm_S) : eX0_isUnsure_2 (n + 1) 13 y1 y2 z = (if (z.1 13 6) ≤ y2 then some (some (mm_I 0), z) else if (pX3_at 20 y2 z) = y1 then some (some (mm_I 1), z) else eX0_isUnsure_2 n 13 y1 (y2 + 1) z) := rfl
set_option maxRecDepth 100000 in
theorem qX0_isUnsure_0_25 (n : Nat)  (x1 : Int32) (z : mm_S) : eX0_isUnsure_0 (n + 1) 25 x1 z = (eX0_isUnsure_2 n 25 x1 0 z) := rfl
set_option maxRecDepth 100000 in
theorem qX0_isUnsure_2_25 (n : Nat)  (y1 : Int32) (y2 : Int32) (z : mm_S) : eX0_isUnsure_2 (n + 1) 25 y1 y2 z = (if (z.1 25 6) ≤ y2 then some (some (mm_I 0), z) else if (pX3_at 32 y2 z) = y1 then some (some (mm_I 1), z) else eX0_isUnsure_2 n 25 y1 (y2 + 1) z) := rfl
def rm_X0_isUnsure : Room := { frames := 1, cells := 0, slots := 0, locals := 21 }
def f_X0_isUnsure (as : List mm_V) (z : mm_S) (o : mm_R) : Prop := (as.map mm_cat).sum ≤ 3 ∧ ∃ n, go_X0_isUnsure n 0 (mm_ar 0 as) [] z = some o
theorem M_X0_isUnsure : mm_M lyTX lyFA lenX snX 46 48 17 roX rsA nfA nmA ssX yX0_isUnsure cX0_isUnsure 3 (some .boolean) rm_X0_isUnsure f_X0_isUnsure :=
  mm_met (rt := 1) (by decide +kernel) ⟨fun h => absurd h (by decide), fun h => rfl, fun h => absurd h (by decide), fun h => absurd h (by decide)⟩ tbX0_isUnsure_ok hsnX okFX0 okLX0 okGX0 (fun _ _ _ _ => rfl) (fun _ _ _ _ => rfl) (fun _ h => absurd h List.not_mem_nil) (List.forall_mem_cons.mpr ⟨sS_X3_at (Or.inr ⟨_, ln_X0_77⟩) rfl ⟨by decide, by decide⟩, fun _ h => absurd h List.not_mem_nil⟩)
def lX0_isUnsure (o : Nat) (x1 : Int32) (z : mm_S) (j : Nat) (s : Unit) : Unit ⊕ (Int32) := if (pX3_at (o + 7) (nI j) z) = x1 then .inr (1) else .inl ()
def pX0_isUnsure (o : Nat) (x1 : Int32) (z : mm_S) : Int32 := mm_lp (lX0_isUnsure o x1 z) (fun s => 0) (Int32.toNatClampNeg (z.1 o 6)) 0 ()
theorem sp_X0_isUnsure (o : Nat) (x1 : Int32) (z : mm_S) (hk : ∀ v ∈ [mm_P 0 o, mm_I x1], mm_ok 46 lyTX 48 17 v) : f_X0_isUnsure [mm_P 0 o, mm_I x1] z (some (mm_I (pX0_isUnsure o x1 z)), z) := by
  rcases ok0 (hk (mm_P 0 o) (by simp)) with rfl | rfl | rfl
  · have h := lp_gen (fun r => (some (mm_I r), z)) (fun n i (s : Unit) => eX0_isUnsure_2 n 1 x1 i z) (lX0_isUnsure 1 x1 z) (fun s => 0) (Int32.toNatClampNeg (z.1 1 6)) (fun n s => (qX0_isUnsure_2_1 n x1 (nI (Int32.toNatClampNeg (z.1 1 6))) z).trans (if_pos (lp_B _))) (fun n j s hj => (qX0_isUnsure_2_1 n x1 (nI j) z).trans ((if_neg (lp_N hj)).trans (mm_if (mm_mt (fun s1 => eX0_isUnsure_2 n 1 x1 (nI (j + 1)) z) (fun r => some (some (mm_I r), z))) rfl (congrArg (fun i => eX0_isUnsure_2 n 1 x1 i z) (nI_1 j))))) (Int32.toNatClampNeg (z.1 1 6)) 0 0 () (by omega)
    exact ⟨Nat.le_of_ble_eq_true rfl, (0 + 1 + (Int32.toNatClampNeg (z.1 1 6))) + 1, (qX0_isUnsure_0_1 (0 + 1 + (Int32.toNatClampNeg (z.1 1 6))) x1 z).trans h⟩
  · have h := lp_gen (fun r => (some (mm_I r), z)) (fun n i (s : Unit) => eX0_isUnsure_2 n 13 x1 i z) (lX0_isUnsure 13 x1 z) (fun s => 0) (Int32.toNatClampNeg (z.1 13 6)) (fun n s => (qX0_isUnsure_2_13 n x1 (nI (Int32.toNatClampNeg (z.1 13 6))) z).trans (if_pos (lp_B _))) (fun n j s hj => (qX0_isUnsure_2_13 n x1 (nI j) z).trans ((if_neg (lp_N hj)).trans (mm_if (mm_mt (fun s1 => eX0_isUnsure_2 n 13 x1 (nI (j + 1)) z) (fun r => some (some (mm_I r), z))) rfl (congrArg (fun i => eX0_isUnsure_2 n 13 x1 i z) (nI_1 j))))) (Int32.toNatClampNeg (z.1 13 6)) 0 0 () (by omega)
    exact ⟨Nat.le_of_ble_eq_true rfl, (0 + 1 + (Int32.toNatClampNeg (z.1 13 6))) + 1, (qX0_isUnsure_0_13 (0 + 1 + (Int32.toNatClampNeg (z.1 13 6))) x1 z).trans h⟩
  · have h := lp_gen (fun r => (some (mm_I r), z)) (fun n i (s : Unit) => eX0_isUnsure_2 n 25 x1 i z) (lX0_isUnsure 25 x1 z) (fun s => 0) (Int32.toNatClampNeg (z.1 25 6)) (fun n s => (qX0_isUnsure_2_25 n x1 (nI (Int32.toNatClampNeg (z.1 25 6))) z).trans (if_pos (lp_B _))) (fun n j s hj => (qX0_isUnsure_2_25 n x1 (nI j) z).trans ((if_neg (lp_N hj)).trans (mm_if (mm_mt (fun s1 => eX0_isUnsure_2 n 25 x1 (nI (j + 1)) z) (fun r => some (some (mm_I r), z))) rfl (congrArg (fun i => eX0_isUnsure_2 n 25 x1 i z) (nI_1 j))))) (Int32.toNatClampNeg (z.1 25 6)) 0 0 () (by omega)
    exact ⟨Nat.le_of_ble_eq_true rfl, (0 + 1 + (Int32.toNatClampNeg (z.1 25 6))) + 1, (qX0_isUnsure_0_25 (0 + 1 + (Int32.toNatClampNeg (z.1 25 6))) x1 z).trans h⟩
def clo_X0_isUnsure (as : List mm_V) (z : mm_S) (kk : Option mm_V → mm_S → Option mm_R) : Option mm_R := mm_pr as fun t o0 as => bif Nat.beq t 0 then mm_pi as fun a1 as => (match as with | [] => kk (some (mm_I (pX0_isUnsure o0 a1 z))) z | _ => none) else none
theorem cs_X0_isUnsure : mm_cs lyTX 46 48 17 f_X0_isUnsure clo_X0_isUnsure := by
  intro as z K o hk h
  obtain ⟨t0, o0, r0, rfl, g0⟩ := mm_pr_e h
  obtain ⟨b0, k0⟩ := mm_bif_e g0
  obtain rfl := Nat.eq_of_beq_eq_true b0
  obtain ⟨a1, r1, rfl, g1⟩ := mm_pi_e k0
  rcases r1 with _ | ⟨u, w⟩
  rotate_left
  · cases g1
  exact ⟨_, _, sp_X0_isUnsure o0 a1 z hk, fun v hv => by cases hv; exact Or.inl ⟨_, rfl⟩, g1⟩
theorem sV_X0_isUnsure {own : String} {R : Room} {ar : Nat → Nat} {k : Nat} (hlink : Cond.methodLink own k yX0_isUnsure ∈ lw_gd ∨ ∃ host, (own, k, yX0_isUnsure, host) ∈ nmA) (har : ar k = 2) (hr : 2 ≤ R.frames ∧ 43 ≤ R.locals) : mm_okV lyTX lyFA lenX snX 46 48 17 roX rsA nfA nmA ssX own R ar k clo_X0_isUnsure := by
  refine ⟨yX0_isUnsure, cX0_isUnsure, 3, some .boolean, rm_X0_isUnsure, f_X0_isUnsure, 0, 1, (RX0, TX0, 14), M_X0_isUnsure, cs_X0_isUnsure, hlink, ⟨wv_X0_isUnsure, wz_X0_isUnsure, wi_X0_isUnsure, wc_X0_isUnsure⟩, ⟨by decide +kernel, by decide +kernel, by decide +kernel⟩, har, ⟨rfl, rfl, by decide⟩, ?_, ⟨rfl, rfl, hr.1, hr.2⟩⟩
  intro as z K o h
  obtain ⟨t0, o0, r0, rfl, g0⟩ := mm_pr_e h
  obtain ⟨b0, k0⟩ := mm_bif_e g0
  obtain rfl := Nat.eq_of_beq_eq_true b0
  exact ⟨_, _, rfl⟩
-- X0_heldSpots
def lV_X0_heldSpots : List (Nat × (List mm_V → mm_S → (Option mm_V → mm_S → Option mm_R) → Option mm_R)) := []
def mV_X0_heldSpots (k : Nat) (as : List mm_V) (z : mm_S) (kk : Option mm_V → mm_S → Option mm_R) : Option mm_R := match mm_at lV_X0_heldSpots k with
  | some f => f as z kk
  | none => none
def arV_X0_heldSpots (k : Nat) : Nat := (mm_at [] k).getD 0
def lS_X0_heldSpots : List (Nat × (List mm_V → mm_S → (Option mm_V → mm_S → Option mm_R) → Option mm_R)) := [(77, clo_X3_at)]
def mS_X0_heldSpots (k : Nat) (as : List mm_V) (z : mm_S) (kk : Option mm_V → mm_S → Option mm_R) : Option mm_R := match mm_at lS_X0_heldSpots k with
  | some f => f as z kk
  | none => none
def arS_X0_heldSpots (k : Nat) : Nat := (mm_at [(77, 2)] k).getD 0
def ct_X0_heldSpots : List (Nat × List Nat) := [(4, [0, 1, 2])]
def go_X0_heldSpots : Nat → mm_K := mm_go (fun k => mm_at flX0 k) (fun k => mm_at clX0 k) (fun k => mm_at glX0 k) arV_X0_heldSpots arS_X0_heldSpots mV_X0_heldSpots mS_X0_heldSpots lenX roX snX 3 0 tbX0_heldSpots ct_X0_heldSpots
def eX0_heldSpots_0 (n : Nat) (o : Nat) (z : mm_S) : Option mm_R := go_X0_heldSpots n 0 [(0, mm_P 0 o)] [] z
def eX0_heldSpots_4 (n : Nat) (o : Nat) (y1 : Int32) (y2 : Int32) (z : mm_S) : Option mm_R := go_X0_heldSpots n 4 [(0, mm_P 0 o), (1, mm_I y1), (2, mm_I y2)] [] z
set_option maxRecDepth 100000 in
theorem qX0_heldSpots_0_1 (n : Nat)  (z : mm_S) : eX0_heldSpots_0 (n + 1) 1 z = (eX0_heldSpots_4 n 1 0 0 z) := rfl
set_option maxRecDepth 100000 in
theorem qX0_heldSpots_4_1 (n : Nat)  (y1 : Int32) (y2 : Int32) (z : mm_S) : eX0_heldSpots_4 (n + 1) 1 y1 y2 z = (if 10 ≤ y2 then some (some (mm_I y1), z) else if (pX3_at 12 y2 z) = (-1) then eX0_heldSpots_4 n 1 y1 (y2 + 1) z else eX0_heldSpots_4 n 1 (y1 + 1) (y2 + 1) z) := rfl
set_option maxRecDepth 100000 in
theorem qX0_heldSpots_0_13 (n : Nat)  (z : mm_S) : eX0_heldSpots_0 (n + 1) 13 z = (eX0_heldSpots_4 n 13 0 0 z) := rfl
set_option maxRecDepth 100000 in
theorem qX0_heldSpots_4_13 (n : Nat)  (y1 : Int32) (y2 : Int32) (z : mm_S) : eX0_heldSpots_4 (n + 1) 13 y1 y2 z = (if 10 ≤ y2 then some (some (mm_I y1), z) else if (pX3_at 24 y2 z) = (-1) then eX0_heldSpots_4 n 13 y1 (y2 + 1) z else eX0_heldSpots_4 n 13 (y1 + 1) (y2 + 1) z) := rfl
set_option maxRecDepth 100000 in
theorem qX0_heldSpots_0_25 (n : Nat)  (z : mm_S) : eX0_heldSpots_0 (n + 1) 25 z = (eX0_heldSpots_4 n 25 0 0 z) := rfl
set_option maxRecDepth 100000 in
theorem qX0_heldSpots_4_25 (n : Nat)  (y1 : Int32) (y2 : Int32) (z : mm_S) : eX0_heldSpots_4 (n + 1) 25 y1 y2 z = (if 10 ≤ y2 then some (some (mm_I y1), z) else if (pX3_at 36 y2 z) = (-1) then eX0_heldSpots_4 n 25 y1 (y2 + 1) z else eX0_heldSpots_4 n 25 (y1 + 1) (y2 + 1) z) := rfl
def rm_X0_heldSpots : Room := { frames := 1, cells := 0, slots := 0, locals := 21 }
def f_X0_heldSpots (as : List mm_V) (z : mm_S) (o : mm_R) : Prop := (as.map mm_cat).sum ≤ 3 ∧ ∃ n, go_X0_heldSpots n 0 (mm_ar 0 as) [] z = some o
theorem M_X0_heldSpots : mm_M lyTX lyFA lenX snX 46 48 17 roX rsA nfA nmA ssX yX0_heldSpots cX0_heldSpots 3 (some .int) rm_X0_heldSpots f_X0_heldSpots :=
  mm_met (rt := 0) (by decide +kernel) ⟨fun h => rfl, fun h => absurd h (by decide), fun h => absurd h (by decide), fun h => absurd h (by decide)⟩ tbX0_heldSpots_ok hsnX okFX0 okLX0 okGX0 (fun _ _ _ _ => rfl) (fun _ _ _ _ => rfl) (fun _ h => absurd h List.not_mem_nil) (List.forall_mem_cons.mpr ⟨sS_X3_at (Or.inr ⟨_, ln_X0_77⟩) rfl ⟨by decide, by decide⟩, fun _ h => absurd h List.not_mem_nil⟩)
def lX0_heldSpots (o : Nat) (z : mm_S) (j : Nat) (s : Int32) : Int32 ⊕ (Int32) := if (pX3_at (o + 11) (nI j) z) = (-1) then .inl (s) else .inl ((s + 1))
def pX0_heldSpots (o : Nat) (z : mm_S) : Int32 := mm_lp (lX0_heldSpots o z) (fun s => s) 10 0 0
theorem sp_X0_heldSpots (o : Nat) (z : mm_S) (hk : ∀ v ∈ [mm_P 0 o], mm_ok 46 lyTX 48 17 v) : f_X0_heldSpots [mm_P 0 o] z (some (mm_I (pX0_heldSpots o z)), z) := by
  rcases ok0 (hk (mm_P 0 o) (by simp)) with rfl | rfl | rfl
  · have h := lp_gen (fun r => (some (mm_I r), z)) (fun n i (s : Int32) => eX0_heldSpots_4 n 1 s i z) (lX0_heldSpots 1 z) (fun s => s) 10 (fun n s => (qX0_heldSpots_4_1 n s (nI 10) z).trans (if_pos (by decide))) (fun n j s hj => (qX0_heldSpots_4_1 n s (nI j) z).trans ((if_neg (nI_ge (b := 10) hj (by decide))).trans (mm_if (mm_mt (fun s1 => eX0_heldSpots_4 n 1 s1 (nI (j + 1)) z) (fun r => some (some (mm_I r), z))) (congrArg (fun i => eX0_heldSpots_4 n 1 s i z) (nI_1 j)) (congrArg (fun i => eX0_heldSpots_4 n 1 (s + 1) i z) (nI_1 j))))) 10 0 0 0 (by omega)
    exact ⟨Nat.le_of_ble_eq_true rfl, (0 + 1 + 10) + 1, (qX0_heldSpots_0_1 (0 + 1 + 10)  z).trans h⟩
  · have h := lp_gen (fun r => (some (mm_I r), z)) (fun n i (s : Int32) => eX0_heldSpots_4 n 13 s i z) (lX0_heldSpots 13 z) (fun s => s) 10 (fun n s => (qX0_heldSpots_4_13 n s (nI 10) z).trans (if_pos (by decide))) (fun n j s hj => (qX0_heldSpots_4_13 n s (nI j) z).trans ((if_neg (nI_ge (b := 10) hj (by decide))).trans (mm_if (mm_mt (fun s1 => eX0_heldSpots_4 n 13 s1 (nI (j + 1)) z) (fun r => some (some (mm_I r), z))) (congrArg (fun i => eX0_heldSpots_4 n 13 s i z) (nI_1 j)) (congrArg (fun i => eX0_heldSpots_4 n 13 (s + 1) i z) (nI_1 j))))) 10 0 0 0 (by omega)
    exact ⟨Nat.le_of_ble_eq_true rfl, (0 + 1 + 10) + 1, (qX0_heldSpots_0_13 (0 + 1 + 10)  z).trans h⟩
  · have h := lp_gen (fun r => (some (mm_I r), z)) (fun n i (s : Int32) => eX0_heldSpots_4 n 25 s i z) (lX0_heldSpots 25 z) (fun s => s) 10 (fun n s => (qX0_heldSpots_4_25 n s (nI 10) z).trans (if_pos (by decide))) (fun n j s hj => (qX0_heldSpots_4_25 n s (nI j) z).trans ((if_neg (nI_ge (b := 10) hj (by decide))).trans (mm_if (mm_mt (fun s1 => eX0_heldSpots_4 n 25 s1 (nI (j + 1)) z) (fun r => some (some (mm_I r), z))) (congrArg (fun i => eX0_heldSpots_4 n 25 s i z) (nI_1 j)) (congrArg (fun i => eX0_heldSpots_4 n 25 (s + 1) i z) (nI_1 j))))) 10 0 0 0 (by omega)
    exact ⟨Nat.le_of_ble_eq_true rfl, (0 + 1 + 10) + 1, (qX0_heldSpots_0_25 (0 + 1 + 10)  z).trans h⟩
def clo_X0_heldSpots (as : List mm_V) (z : mm_S) (kk : Option mm_V → mm_S → Option mm_R) : Option mm_R := mm_pr as fun t o0 as => bif Nat.beq t 0 then (match as with | [] => kk (some (mm_I (pX0_heldSpots o0 z))) z | _ => none) else none
theorem cs_X0_heldSpots : mm_cs lyTX 46 48 17 f_X0_heldSpots clo_X0_heldSpots := by
  intro as z K o hk h
  obtain ⟨t0, o0, r0, rfl, g0⟩ := mm_pr_e h
  obtain ⟨b0, k0⟩ := mm_bif_e g0
  obtain rfl := Nat.eq_of_beq_eq_true b0
  rcases r0 with _ | ⟨u, w⟩
  rotate_left
  · cases k0
  exact ⟨_, _, sp_X0_heldSpots o0 z hk, fun v hv => by cases hv; exact Or.inl ⟨_, rfl⟩, k0⟩
theorem sV_X0_heldSpots {own : String} {R : Room} {ar : Nat → Nat} {k : Nat} (hlink : Cond.methodLink own k yX0_heldSpots ∈ lw_gd ∨ ∃ host, (own, k, yX0_heldSpots, host) ∈ nmA) (har : ar k = 1) (hr : 2 ≤ R.frames ∧ 43 ≤ R.locals) : mm_okV lyTX lyFA lenX snX 46 48 17 roX rsA nfA nmA ssX own R ar k clo_X0_heldSpots := by
  refine ⟨yX0_heldSpots, cX0_heldSpots, 3, some .int, rm_X0_heldSpots, f_X0_heldSpots, 0, 0, (RX0, TX0, 14), M_X0_heldSpots, cs_X0_heldSpots, hlink, ⟨wv_X0_heldSpots, wz_X0_heldSpots, wi_X0_heldSpots, wc_X0_heldSpots⟩, ⟨by decide +kernel, by decide +kernel, by decide +kernel⟩, har, ⟨rfl, rfl, by decide⟩, ?_, ⟨rfl, rfl, hr.1, hr.2⟩⟩
  intro as z K o h
  obtain ⟨t0, o0, r0, rfl, g0⟩ := mm_pr_e h
  obtain ⟨b0, k0⟩ := mm_bif_e g0
  obtain rfl := Nat.eq_of_beq_eq_true b0
  exact ⟨_, _, rfl⟩
-- X0_mapCount
def lV_X0_mapCount : List (Nat × (List mm_V → mm_S → (Option mm_V → mm_S → Option mm_R) → Option mm_R)) := []
def mV_X0_mapCount (k : Nat) (as : List mm_V) (z : mm_S) (kk : Option mm_V → mm_S → Option mm_R) : Option mm_R := match mm_at lV_X0_mapCount k with
  | some f => f as z kk
  | none => none
def arV_X0_mapCount (k : Nat) : Nat := (mm_at [] k).getD 0
def lS_X0_mapCount : List (Nat × (List mm_V → mm_S → (Option mm_V → mm_S → Option mm_R) → Option mm_R)) := []
def mS_X0_mapCount (k : Nat) (as : List mm_V) (z : mm_S) (kk : Option mm_V → mm_S → Option mm_R) : Option mm_R := match mm_at lS_X0_mapCount k with
  | some f => f as z kk
  | none => none
def arS_X0_mapCount (k : Nat) : Nat := (mm_at [] k).getD 0
def ct_X0_mapCount : List (Nat × List Nat) := [(4, [0, 1, 2])]
def go_X0_mapCount : Nat → mm_K := mm_go (fun k => mm_at flX0 k) (fun k => mm_at clX0 k) (fun k => mm_at glX0 k) arV_X0_mapCount arS_X0_mapCount mV_X0_mapCount mS_X0_mapCount lenX roX snX 3 0 tbX0_mapCount ct_X0_mapCount
def eX0_mapCount_0 (n : Nat) (o : Nat) (z : mm_S) : Option mm_R := go_X0_mapCount n 0 [(0, mm_P 0 o)] [] z
def eX0_mapCount_4 (n : Nat) (o : Nat) (y1 : Int32) (y2 : Int32) (z : mm_S) : Option mm_R := go_X0_mapCount n 4 [(0, mm_P 0 o), (1, mm_I y1), (2, mm_I y2)] [] z
set_option maxRecDepth 100000 in
theorem qX0_mapCount_0_1 (n : Nat)  (z : mm_S) : eX0_mapCount_0 (n + 1) 1 z = (eX0_mapCount_4 n 1 1 0 z) := rfl
set_option maxRecDepth 100000 in
theorem qX0_mapCount_4_1 (n : Nat)  (y1 : Int32) (y2 : Int32) (z : mm_S) : eX0_mapCount_4 (n + 1) 1 y1 y2 z = (if (z.1 1 6) ≤ y2 then some (some (mm_I y1), z) else eX0_mapCount_4 n 1 (y1 * 5) (y2 + 1) z) := rfl
set_option maxRecDepth 100000 in
theorem qX0_mapCount_0_13 (n : Nat)  (z : mm_S) : eX0_mapCount_0 (n + 1) 13 z = (eX0_mapCount_4 n 13 1 0 z) := rfl
set_option maxRecDepth 100000 in
theorem qX0_mapCount_4_13 (n : Nat)  (y1 : Int32) (y2 : Int32) (z : mm_S) : eX0_mapCount_4 (n + 1) 13 y1 y2 z = (if (z.1 13 6) ≤ y2 then some (some (mm_I y1), z) else eX0_mapCount_4 n 13 (y1 * 5) (y2 + 1) z) := rfl
set_option maxRecDepth 100000 in
theorem qX0_mapCount_0_25 (n : Nat)  (z : mm_S) : eX0_mapCount_0 (n + 1) 25 z = (eX0_mapCount_4 n 25 1 0 z) := rfl
set_option maxRecDepth 100000 in
theorem qX0_mapCount_4_25 (n : Nat)  (y1 : Int32) (y2 : Int32) (z : mm_S) : eX0_mapCount_4 (n + 1) 25 y1 y2 z = (if (z.1 25 6) ≤ y2 then some (some (mm_I y1), z) else eX0_mapCount_4 n 25 (y1 * 5) (y2 + 1) z) := rfl
def rm_X0_mapCount : Room := { frames := 0, cells := 0, slots := 0, locals := 0 }
def f_X0_mapCount (as : List mm_V) (z : mm_S) (o : mm_R) : Prop := (as.map mm_cat).sum ≤ 3 ∧ ∃ n, go_X0_mapCount n 0 (mm_ar 0 as) [] z = some o
theorem M_X0_mapCount : mm_M lyTX lyFA lenX snX 46 48 17 roX rsA nfA nmA ssX yX0_mapCount cX0_mapCount 3 (some .int) rm_X0_mapCount f_X0_mapCount :=
  mm_met (rt := 0) (by decide +kernel) ⟨fun h => rfl, fun h => absurd h (by decide), fun h => absurd h (by decide), fun h => absurd h (by decide)⟩ tbX0_mapCount_ok hsnX okFX0 okLX0 okGX0 (fun _ _ _ _ => rfl) (fun _ _ _ _ => rfl) (fun _ h => absurd h List.not_mem_nil) (fun _ h => absurd h List.not_mem_nil)
def lX0_mapCount (o : Nat) (z : mm_S) (j : Nat) (s : Int32) : Int32 ⊕ (Int32) := .inl ((s * 5))
def pX0_mapCount (o : Nat) (z : mm_S) : Int32 := mm_lp (lX0_mapCount o z) (fun s => s) (Int32.toNatClampNeg (z.1 o 6)) 0 1
theorem sp_X0_mapCount (o : Nat) (z : mm_S) (hk : ∀ v ∈ [mm_P 0 o], mm_ok 46 lyTX 48 17 v) : f_X0_mapCount [mm_P 0 o] z (some (mm_I (pX0_mapCount o z)), z) := by
  rcases ok0 (hk (mm_P 0 o) (by simp)) with rfl | rfl | rfl
  · have h := lp_gen (fun r => (some (mm_I r), z)) (fun n i (s : Int32) => eX0_mapCount_4 n 1 s i z) (lX0_mapCount 1 z) (fun s => s) (Int32.toNatClampNeg (z.1 1 6)) (fun n s => (qX0_mapCount_4_1 n s (nI (Int32.toNatClampNeg (z.1 1 6))) z).trans (if_pos (lp_B _))) (fun n j s hj => (qX0_mapCount_4_1 n s (nI j) z).trans ((if_neg (lp_N hj)).trans (congrArg (fun i => eX0_mapCount_4 n 1 (s * 5) i z) (nI_1 j)))) (Int32.toNatClampNeg (z.1 1 6)) 0 0 1 (by omega)
    exact ⟨Nat.le_of_ble_eq_true rfl, (0 + 1 + (Int32.toNatClampNeg (z.1 1 6))) + 1, (qX0_mapCount_0_1 (0 + 1 + (Int32.toNatClampNeg (z.1 1 6)))  z).trans h⟩
  · have h := lp_gen (fun r => (some (mm_I r), z)) (fun n i (s : Int32) => eX0_mapCount_4 n 13 s i z) (lX0_mapCount 13 z) (fun s => s) (Int32.toNatClampNeg (z.1 13 6)) (fun n s => (qX0_mapCount_4_13 n s (nI (Int32.toNatClampNeg (z.1 13 6))) z).trans (if_pos (lp_B _))) (fun n j s hj => (qX0_mapCount_4_13 n s (nI j) z).trans ((if_neg (lp_N hj)).trans (congrArg (fun i => eX0_mapCount_4 n 13 (s * 5) i z) (nI_1 j)))) (Int32.toNatClampNeg (z.1 13 6)) 0 0 1 (by omega)
    exact ⟨Nat.le_of_ble_eq_true rfl, (0 + 1 + (Int32.toNatClampNeg (z.1 13 6))) + 1, (qX0_mapCount_0_13 (0 + 1 + (Int32.toNatClampNeg (z.1 13 6)))  z).trans h⟩
  · have h := lp_gen (fun r => (some (mm_I r), z)) (fun n i (s : Int32) => eX0_mapCount_4 n 25 s i z) (lX0_mapCount 25 z) (fun s => s) (Int32.toNatClampNeg (z.1 25 6)) (fun n s => (qX0_mapCount_4_25 n s (nI (Int32.toNatClampNeg (z.1 25 6))) z).trans (if_pos (lp_B _))) (fun n j s hj => (qX0_mapCount_4_25 n s (nI j) z).trans ((if_neg (lp_N hj)).trans (congrArg (fun i => eX0_mapCount_4 n 25 (s * 5) i z) (nI_1 j)))) (Int32.toNatClampNeg (z.1 25 6)) 0 0 1 (by omega)
    exact ⟨Nat.le_of_ble_eq_true rfl, (0 + 1 + (Int32.toNatClampNeg (z.1 25 6))) + 1, (qX0_mapCount_0_25 (0 + 1 + (Int32.toNatClampNeg (z.1 25 6)))  z).trans h⟩
def clo_X0_mapCount (as : List mm_V) (z : mm_S) (kk : Option mm_V → mm_S → Option mm_R) : Option mm_R := mm_pr as fun t o0 as => bif Nat.beq t 0 then (match as with | [] => kk (some (mm_I (pX0_mapCount o0 z))) z | _ => none) else none
theorem cs_X0_mapCount : mm_cs lyTX 46 48 17 f_X0_mapCount clo_X0_mapCount := by
  intro as z K o hk h
  obtain ⟨t0, o0, r0, rfl, g0⟩ := mm_pr_e h
  obtain ⟨b0, k0⟩ := mm_bif_e g0
  obtain rfl := Nat.eq_of_beq_eq_true b0
  rcases r0 with _ | ⟨u, w⟩
  rotate_left
  · cases k0
  exact ⟨_, _, sp_X0_mapCount o0 z hk, fun v hv => by cases hv; exact Or.inl ⟨_, rfl⟩, k0⟩
theorem sV_X0_mapCount {own : String} {R : Room} {ar : Nat → Nat} {k : Nat} (hlink : Cond.methodLink own k yX0_mapCount ∈ lw_gd ∨ ∃ host, (own, k, yX0_mapCount, host) ∈ nmA) (har : ar k = 1) (hr : 1 ≤ R.frames ∧ 22 ≤ R.locals) : mm_okV lyTX lyFA lenX snX 46 48 17 roX rsA nfA nmA ssX own R ar k clo_X0_mapCount := by
  refine ⟨yX0_mapCount, cX0_mapCount, 3, some .int, rm_X0_mapCount, f_X0_mapCount, 0, 0, (RX0, TX0, 14), M_X0_mapCount, cs_X0_mapCount, hlink, ⟨wv_X0_mapCount, wz_X0_mapCount, wi_X0_mapCount, wc_X0_mapCount⟩, ⟨by decide +kernel, by decide +kernel, by decide +kernel⟩, har, ⟨rfl, rfl, by decide⟩, ?_, ⟨rfl, rfl, hr.1, hr.2⟩⟩
  intro as z K o h
  obtain ⟨t0, o0, r0, rfl, g0⟩ := mm_pr_e h
  obtain ⟨b0, k0⟩ := mm_bif_e g0
  obtain rfl := Nat.eq_of_beq_eq_true b0
  exact ⟨_, _, rfl⟩
