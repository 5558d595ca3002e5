-- J7_fill_d0a16
def lV_J7_fill_d0a16 : List (Nat × (List mm_V → mm_S → (Option mm_V → mm_S → Option mm_R) → Option mm_R)) := []
def mV_J7_fill_d0a16 (k : Nat) (as : List mm_V) (z : mm_S) (kk : Option mm_V → mm_S → Option mm_R) : Option mm_R := match mm_at lV_J7_fill_d0a16 k with
  | some f => f as z kk
  | none => none
def arV_J7_fill_d0a16 (k : Nat) : Nat := (mm_at [] k).getD 0
def lS_J7_fill_d0a16 : List (Nat × (List mm_V → mm_S → (Option mm_V → mm_S → Option mm_R) → Option mm_R)) := []
def mS_J7_fill_d0a16 (k : Nat) (as : List mm_V) (z : mm_S) (kk : Option mm_V → mm_S → Option mm_R) : Option mm_R := match mm_at lS_J7_fill_d0a16 k with
  | some f => f as z kk
  | none => none
def arS_J7_fill_d0a16 (k : Nat) : Nat := (mm_at [] k).getD 0
def ct_J7_fill_d0a16 : List (Nat × List Nat) := [(6, [0, 1, 3, 4])]
def go_J7_fill_d0a16 : Nat → mm_K := mm_go (fun k => mm_at flJ7 k) (fun k => mm_at clJ7 k) (fun k => mm_at glJ7 k) arV_J7_fill_d0a16 arS_J7_fill_d0a16 mV_J7_fill_d0a16 mS_J7_fill_d0a16 lenX roX snX 5 3 tbJ7_fill_d0a16 ct_J7_fill_d0a16
def eJ7_fill_d0a16_0 (n : Nat) (x1 : Nat) (x2 : Int64) (z : mm_S) : Option mm_R := go_J7_fill_d0a16 n 0 [(0, mm_P 11 x1), (1, mm_J x2)] [] z
def eJ7_fill_d0a16_6 (n : Nat) (y0 : Nat) (y1 : Int64) (y3 : Int32) (y4 : Int32) (z : mm_S) : Option mm_R := go_J7_fill_d0a16 n 6 [(0, mm_P 11 y0), (1, mm_J y1), (3, mm_I y3), (4, mm_I y4)] [] z
set_option maxRecDepth 100000 in
theorem qJ7_fill_d0a16_0 (n : Nat) (x1 : Nat) (x2 : Int64) (z : mm_S) : eJ7_fill_d0a16_0 (n + 1) x1 x2 z = (eJ7_fill_d0a16_6 n x1 x2 0 (Int32.ofNat (lenX x1)) z) := rfl
set_option maxRecDepth 100000 in
theorem qJ7_fill_d0a16_6 (n : Nat) (y0 : Nat) (y1 : Int64) (y3 : Int32) (y4 : Int32) (z : mm_S) : eJ7_fill_d0a16_6 (n + 1) y0 y1 y3 y4 z = (if y4 ≤ y3 then some (none, z) else if y3 < 0 ∨ lenX y0 ≤ Int32.toNatClampNeg y3 then none else eJ7_fill_d0a16_6 n y0 y1 (y3 + 1) y4 (z.1, (mm_ul z.2 y0 (Int32.toNatClampNeg y3) y1))) := rfl
def rm_J7_fill_d0a16 : Room := { frames := 0, cells := 0, slots := 0, locals := 0 }
def f_J7_fill_d0a16 (as : List mm_V) (z : mm_S) (o : mm_R) : Prop := (as.map mm_cat).sum ≤ 5 ∧ ∃ n, go_J7_fill_d0a16 n 0 (mm_ar 0 as) [] z = some o
theorem M_J7_fill_d0a16 : mm_M lyTX lyFA lenX snX 46 48 17 roX rsA nfA nmA ssX yJ7_fill_d0a16 cJ7_fill_d0a16 5 (none) rm_J7_fill_d0a16 f_J7_fill_d0a16 :=
  mm_met (rt := 3) (by decide +kernel) ⟨fun h => absurd h (by decide), fun h => absurd h (by decide), fun h => absurd h (by decide), fun h => rfl⟩ tbJ7_fill_d0a16_ok hsnX (fun _ h => absurd h List.not_mem_nil) okLJ7 (fun _ h => absurd h List.not_mem_nil) (fun _ _ _ _ => rfl) (fun _ _ _ _ => rfl) (fun _ h => absurd h List.not_mem_nil) (fun _ h => absurd h List.not_mem_nil)
def tJ7_fill_d0a16 (x : Nat) (v : Int64) (z : mm_S) : mm_S := (z.1, mm_rw z.2 x (mm_fr (lenX x) v (z.2 x)))
theorem sp_J7_fill_d0a16 (x : Nat) (v : Int64) (z : mm_S) (_ : ∀ u ∈ [mm_P 11 x, mm_J v], mm_ok 46 lyTX 48 17 u) : f_J7_fill_d0a16 [mm_P 11 x, mm_J v] z (none, tJ7_fill_d0a16 x v z) := by
  have hb := lenX_lt x
  have h := lp_up (fun n i s => eJ7_fill_d0a16_6 n x v i (nI (lenX x)) s) (lenX x) (fun j => (z.1, mm_rw z.2 x (mm_fr j v (z.2 x)))) (fun n j hj => by
    show eJ7_fill_d0a16_6 (n + 1) x v (nI j) (nI (lenX x)) _ = _
    rw [qJ7_fill_d0a16_6, if_neg (nI_ge hj hb), if_neg (nI_in hj hb), nI_clamp (by omega), nI_1]
    simp only [mm_ul_rw, mm_rw_s, mm_rw_rw, mm_fr_j]) (lenX x) 0 1 (by omega)
  refine ⟨Nat.le_of_ble_eq_true rfl, lenX x + 2, (qJ7_fill_d0a16_0 (lenX x + 1) x v z).trans ?_⟩
  rw [Nat.add_comm (lenX x) 1]
  have e0 : ((z.1, mm_rw z.2 x (mm_fr 0 v (z.2 x))) : mm_S) = z := by rw [mm_fr_0, mm_rw_id]
  simp only [e0] at h
  refine h.trans ?_
  rw [qJ7_fill_d0a16_6 0, if_pos (nI_le (Nat.le_refl _) hb)]
  rfl
def clo_J7_fill_d0a16 (as : List mm_V) (z : mm_S) (kk : Option mm_V → mm_S → Option mm_R) : Option mm_R := mm_pr as fun t o0 as => bif Nat.beq t 11 then mm_pj as fun a1 as => (match as with | [] => kk none (tJ7_fill_d0a16 o0 a1 z) | _ => none) else none
theorem cs_J7_fill_d0a16 : mm_cs lyTX 46 48 17 f_J7_fill_d0a16 clo_J7_fill_d0a16 := by
  intro as z K o hk h
  obtain ⟨t0, o0, r0, rfl, g0⟩ := mm_pr_e h
  obtain ⟨b0, k0⟩ := mm_bif_e g0
  obtain rfl := Nat.eq_of_beq_eq_true b0
  obtain ⟨a1, r1, rfl, g1⟩ := mm_pj_e k0
  rcases r1 with _ | ⟨u, w⟩
  rotate_left
  · cases g1
  exact ⟨_, _, sp_J7_fill_d0a16 o0 a1 z hk, (fun v hv => by cases hv), g1⟩
theorem sS_J7_fill_d0a16 {own : String} {R : Room} {ar : Nat → Nat} {k : Nat} (hlink : Cond.methodLink own k yJ7_fill_d0a16 ∈ lw_gd ∨ ∃ host, (own, k, yJ7_fill_d0a16, host) ∈ nmA) (har : ar k = 2) (hr : 1 ≤ R.frames ∧ 24 ≤ R.locals) : mm_okS lyTX lyFA lenX snX 46 48 17 roX rsA nfA nmA ssX own R ar k clo_J7_fill_d0a16 :=
  Or.inl ⟨yJ7_fill_d0a16, cJ7_fill_d0a16, 5, none, rm_J7_fill_d0a16, f_J7_fill_d0a16, M_J7_fill_d0a16, cs_J7_fill_d0a16, hlink, ⟨ws_J7_fill_d0a16, wi_J7_fill_d0a16, wc_J7_fill_d0a16⟩, ⟨by decide +kernel, by decide +kernel, by rw [har]; decide +kernel⟩, ⟨rfl, rfl, hr.1, hr.2⟩⟩
-- J7_fill_53178
def lV_J7_fill_53178 : List (Nat × (List mm_V → mm_S → (Option mm_V → mm_S → Option mm_R) → Option mm_R)) := []
def mV_J7_fill_53178 (k : Nat) (as : List mm_V) (z : mm_S) (kk : Option mm_V → mm_S → Option mm_R) : Option mm_R := match mm_at lV_J7_fill_53178 k with
  | some f => f as z kk
  | none => none
def arV_J7_fill_53178 (k : Nat) : Nat := (mm_at [] k).getD 0
def lS_J7_fill_53178 : List (Nat × (List mm_V → mm_S → (Option mm_V → mm_S → Option mm_R) → Option mm_R)) := []
def mS_J7_fill_53178 (k : Nat) (as : List mm_V) (z : mm_S) (kk : Option mm_V → mm_S → Option mm_R) : Option mm_R := match mm_at lS_J7_fill_53178 k with
  | some f => f as z kk
  | none => none
def arS_J7_fill_53178 (k : Nat) : Nat := (mm_at [] k).getD 0
def ct_J7_fill_53178 : List (Nat × List Nat) := [(5, [0, 1, 2, 3])]
def go_J7_fill_53178 : Nat → mm_K := mm_go (fun k => mm_at flJ7 k) (fun k => mm_at clJ7 k) (fun k => mm_at glJ7 k) arV_J7_fill_53178 arS_J7_fill_53178 mV_J7_fill_53178 mS_J7_fill_53178 lenX roX snX 4 3 tbJ7_fill_53178 ct_J7_fill_53178
def eJ7_fill_53178_0 (n : Nat) (x1 : Nat) (x2 : Int32) (z : mm_S) : Option mm_R := go_J7_fill_53178 n 0 [(0, mm_P 10 x1), (1, mm_I x2)] [] z
def eJ7_fill_53178_5 (n : Nat) (y0 : Nat) (y1 : Int32) (y2 : Int32) (y3 : Int32) (z : mm_S) : Option mm_R := go_J7_fill_53178 n 5 [(0, mm_P 10 y0), (1, mm_I y1), (2, mm_I y2), (3, mm_I y3)] [] z
set_option maxRecDepth 100000 in
theorem qJ7_fill_53178_0 (n : Nat) (x1 : Nat) (x2 : Int32) (z : mm_S) : eJ7_fill_53178_0 (n + 1) x1 x2 z = (eJ7_fill_53178_5 n x1 x2 0 (Int32.ofNat (lenX x1)) z) := rfl
set_option maxRecDepth 100000 in
theorem qJ7_fill_53178_5 (n : Nat) (y0 : Nat) (y1 : Int32) (y2 : Int32) (y3 : Int32) (z : mm_S) : eJ7_fill_53178_5 (n + 1) y0 y1 y2 y3 z = (if y3 ≤ y2 then some (none, z) else if y2 < 0 ∨ lenX y0 ≤ Int32.toNatClampNeg y2 then none else eJ7_fill_53178_5 n y0 y1 (y2 + 1) y3 ((mm_ui z.1 y0 (Int32.toNatClampNeg y2) y1), z.2)) := rfl
def rm_J7_fill_53178 : Room := { frames := 0, cells := 0, slots := 0, locals := 0 }
def f_J7_fill_53178 (as : List mm_V) (z : mm_S) (o : mm_R) : Prop := (as.map mm_cat).sum ≤ 4 ∧ ∃ n, go_J7_fill_53178 n 0 (mm_ar 0 as) [] z = some o
theorem M_J7_fill_53178 : mm_M lyTX lyFA lenX snX 46 48 17 roX rsA nfA nmA ssX yJ7_fill_53178 cJ7_fill_53178 4 (none) rm_J7_fill_53178 f_J7_fill_53178 :=
  mm_met (rt := 3) (by decide +kernel) ⟨fun h => absurd h (by decide), fun h => absurd h (by decide), fun h => absurd h (by decide), fun h => rfl⟩ tbJ7_fill_53178_ok hsnX (fun _ h => absurd h List.not_mem_nil) okLJ7 (fun _ h => absurd h List.not_mem_nil) (fun _ _ _ _ => rfl) (fun _ _ _ _ => rfl) (fun _ h => absurd h List.not_mem_nil) (fun _ h => absurd h List.not_mem_nil)
def tJ7_fill_53178 (x : Nat) (v : Int32) (z : mm_S) : mm_S := (mm_rw z.1 x (mm_fr (lenX x) v (z.1 x)), z.2)
theorem sp_J7_fill_53178 (x : Nat) (v : Int32) (z : mm_S) (_ : ∀ u ∈ [mm_P 10 x, mm_I v], mm_ok 46 lyTX 48 17 u) : f_J7_fill_53178 [mm_P 10 x, mm_I v] z (none, tJ7_fill_53178 x v z) := by
  have hb := lenX_lt x
  have h := lp_up (fun n i s => eJ7_fill_53178_5 n x v i (nI (lenX x)) s) (lenX x) (fun j => (mm_rw z.1 x (mm_fr j v (z.1 x)), z.2)) (fun n j hj => by
    show eJ7_fill_53178_5 (n + 1) x v (nI j) (nI (lenX x)) _ = _
    rw [qJ7_fill_53178_5, if_neg (nI_ge hj hb), if_neg (nI_in hj hb), nI_clamp (by omega), nI_1]
    simp only [mm_ui_rw, mm_rw_s, mm_rw_rw, mm_fr_i]) (lenX x) 0 1 (by omega)
  refine ⟨Nat.le_of_ble_eq_true rfl, lenX x + 2, (qJ7_fill_53178_0 (lenX x + 1) x v z).trans ?_⟩
  rw [Nat.add_comm (lenX x) 1]
  have e0 : ((mm_rw z.1 x (mm_fr 0 v (z.1 x)), z.2) : mm_S) = z := by rw [mm_fr_0, mm_rw_id]
  simp only [e0] at h
  refine h.trans ?_
  rw [qJ7_fill_53178_5 0, if_pos (nI_le (Nat.le_refl _) hb)]
  rfl
def clo_J7_fill_53178 (as : List mm_V) (z : mm_S) (kk : Option mm_V → mm_S → Option mm_R) : Option mm_R := mm_pr as fun t o0 as => bif Nat.beq t 10 then mm_pi as fun a1 as => (match as with | [] => kk none (tJ7_fill_53178 o0 a1 z) | _ => none) else none
theorem cs_J7_fill_53178 : mm_cs lyTX 46 48 17 f_J7_fill_53178 clo_J7_fill_53178 := by
  intro as z K o hk h
  obtain ⟨t0, o0, r0, rfl, g0⟩ := mm_pr_e h
  obtain ⟨b0, k0⟩ := mm_bif_e g0
  obtain rfl := Nat.eq_of_beq_eq_true b0
  obtain ⟨a1, r1, rfl, g1⟩ := mm_pi_e k0
  rcases r1 with _ | ⟨u, w⟩
  rotate_left
  · cases g1
  exact ⟨_, _, sp_J7_fill_53178 o0 a1 z hk, (fun v hv => by cases hv), g1⟩
theorem sS_J7_fill_53178 {own : String} {R : Room} {ar : Nat → Nat} {k : Nat} (hlink : Cond.methodLink own k yJ7_fill_53178 ∈ lw_gd ∨ ∃ host, (own, k, yJ7_fill_53178, host) ∈ nmA) (har : ar k = 2) (hr : 1 ≤ R.frames ∧ 23 ≤ R.locals) : mm_okS lyTX lyFA lenX snX 46 48 17 roX rsA nfA nmA ssX own R ar k clo_J7_fill_53178 :=
  Or.inl ⟨yJ7_fill_53178, cJ7_fill_53178, 4, none, rm_J7_fill_53178, f_J7_fill_53178, M_J7_fill_53178, cs_J7_fill_53178, hlink, ⟨ws_J7_fill_53178, wi_J7_fill_53178, wc_J7_fill_53178⟩, ⟨by decide +kernel, by decide +kernel, by rw [har]; decide +kernel⟩, ⟨rfl, rfl, hr.1, hr.2⟩⟩
-- X1_put
def lV_X1_put : List (Nat × (List mm_V → mm_S → (Option mm_V → mm_S → Option mm_R) → Option mm_R)) := []
def mV_X1_put (k : Nat) (as : List mm_V) (z : mm_S) (kk : Option mm_V → mm_S → Option mm_R) : Option mm_R := match mm_at lV_X1_put k with
  | some f => f as z kk
  | none => none
def arV_X1_put (k : Nat) : Nat := (mm_at [] k).getD 0
def lS_X1_put : List (Nat × (List mm_V → mm_S → (Option mm_V → mm_S → Option mm_R) → Option mm_R)) := [(20, clo_X3_putBits), (36, clo_X3_bitsAt), (56, clo_X3_isCell), (60, clo_X3_isStuff), (63, clo_X3_setOf)]
def mS_X1_put (k : Nat) (as : List mm_V) (z : mm_S) (kk : Option mm_V → mm_S → Option mm_R) : Option mm_R := match mm_at lS_X1_put k with
  | some f => f as z kk
  | none => none
def arS_X1_put (k : Nat) : Nat := (mm_at [(20, 3), (36, 2), (56, 1), (60, 1), (63, 1)] k).getD 0
def ct_X1_put : List (Nat × List Nat) := [(17, [0, 1, 2, 3])]
def go_X1_put : Nat → mm_K := mm_go (fun k => mm_at flX1 k) (fun k => mm_at clX1 k) (fun k => mm_at glX1 k) arV_X1_put arS_X1_put mV_X1_put mS_X1_put lenX roX snX 4 3 tbX1_put ct_X1_put
def eX1_put_0 (n : Nat) (o : Nat) (x1 : Int32) (x2 : Int32) (z : mm_S) : Option mm_R := go_X1_put n 0 [(0, mm_P 1 o), (1, mm_I x1), (2, mm_I x2)] [] z
def eX1_put_17 (n : Nat) (o : Nat) (y1 : Int32) (y2 : Int32) (y3 : Int32) (z : mm_S) : Option mm_R := go_X1_put n 17 [(0, mm_P 1 o), (1, mm_I y1), (2, mm_I y2), (3, mm_I y3)] [] z
set_option maxRecDepth 100000 in
theorem qX1_put_0_2 (n : Nat)  (x1 : Int32) (x2 : Int32) (z : mm_S) : eX1_put_0 (n + 1) 2 x1 x2 z = (if (pX3_isCell x1) = 0 then some (none, z) else if (pX3_isStuff x2) = 0 then some (none, z) else eX1_put_17 n 2 x1 x2 0 z) := rfl
set_option maxRecDepth 100000 in
theorem qX1_put_17_2 (n : Nat)  (y1 : Int32) (y2 : Int32) (y3 : Int32) (z : mm_S) : eX1_put_17 (n + 1) 2 y1 y2 y3 z = (if 5 ≤ y3 then let u1 := (tX3_putBits 3 y2 ((pX3_bitsAt 3 y2 z) ||| (pX3_setOf y1)) z); some (none, u1) else let u2 := (tX3_putBits 3 y3 ((pX3_bitsAt 3 y3 z) &&& ((pX3_setOf y1) ^^^ (-1))) z); eX1_put_17 n 2 y1 y2 (y3 + 1) u2) := rfl
set_option maxRecDepth 100000 in
theorem qX1_put_0_14 (n : Nat)  (x1 : Int32) (x2 : Int32) (z : mm_S) : eX1_put_0 (n + 1) 14 x1 x2 z = (if (pX3_isCell x1) = 0 then some (none, z) else if (pX3_isStuff x2) = 0 then some (none, z) else eX1_put_17 n 14 x1 x2 0 z) := rfl
set_option maxRecDepth 100000 in
theorem qX1_put_17_14 (n : Nat)  (y1 : Int32) (y2 : Int32) (y3 : Int32) (z : mm_S) : eX1_put_17 (n + 1) 14 y1 y2 y3 z = (if 5 ≤ y3 then let u1 := (tX3_putBits 15 y2 ((pX3_bitsAt 15 y2 z) ||| (pX3_setOf y1)) z); some (none, u1) else let u2 := (tX3_putBits 15 y3 ((pX3_bitsAt 15 y3 z) &&& ((pX3_setOf y1) ^^^ (-1))) z); eX1_put_17 n 14 y1 y2 (y3 + 1) u2) := rfl
set_option maxRecDepth 100000 in
theorem qX1_put_0_26 (n : Nat)  (x1 : Int32) (x2 : Int32) (z : mm_S) : eX1_put_0 (n + 1) 26 x1 x2 z = (if (pX3_isCell x1) = 0 then some (none, z) else if (pX3_isStuff x2) = 0 then some (none, z) else eX1_put_17 n 26 x1 x2 0 z) := rfl
set_option maxRecDepth 100000 in
theorem qX1_put_17_26 (n : Nat)  (y1 : Int32) (y2 : Int32) (y3 : Int32) (z : mm_S) : eX1_put_17 (n + 1) 26 y1 y2 y3 z = (if 5 ≤ y3 then let u1 := (tX3_putBits 27 y2 ((pX3_bitsAt 27 y2 z) ||| (pX3_setOf y1)) z); some (none, u1) else let u2 := (tX3_putBits 27 y3 ((pX3_bitsAt 27 y3 z) &&& ((pX3_setOf y1) ^^^ (-1))) z); eX1_put_17 n 26 y1 y2 (y3 + 1) u2) := rfl
def rm_X1_put : Room := { frames := 2, cells := 0, slots := 0, locals := 42 }
def f_X1_put (as : List mm_V) (z : mm_S) (o : mm_R) : Prop := (as.map mm_cat).sum ≤ 4 ∧ ∃ n, go_X1_put n 0 (mm_ar 0 as) [] z = some o
theorem M_X1_put : mm_M lyTX lyFA lenX snX 46 48 17 roX rsA nfA nmA ssX yX1_put cX1_put 4 (none) rm_X1_put f_X1_put :=
  mm_met (rt := 3) (by decide +kernel) ⟨fun h => absurd h (by decide), fun h => absurd h (by decide), fun h => absurd h (by decide), fun h => rfl⟩ tbX1_put_ok hsnX okFX1 okLX1 okGX1 (fun _ _ _ _ => rfl) (fun _ _ _ _ => rfl) (fun _ h => absurd h List.not_mem_nil) (List.forall_mem_cons.mpr ⟨sS_X3_putBits (Or.inr ⟨_, ln_X1_20⟩) rfl ⟨by decide, by decide⟩, List.forall_mem_cons.mpr ⟨sS_X3_bitsAt (Or.inr ⟨_, ln_X1_36⟩) rfl ⟨by decide, by decide⟩, List.forall_mem_cons.mpr ⟨sS_X3_isCell (Or.inr ⟨_, ln_X1_56⟩) rfl ⟨by decide, by decide⟩, List.forall_mem_cons.mpr ⟨sS_X3_isStuff (Or.inr ⟨_, ln_X1_60⟩) rfl ⟨by decide, by decide⟩, List.forall_mem_cons.mpr ⟨sS_X3_setOf (Or.inr ⟨_, ln_X1_63⟩) rfl ⟨by decide, by decide⟩, fun _ h => absurd h List.not_mem_nil⟩⟩⟩⟩⟩)
/-- a row of sets from which a cell is taken, for the first n of them -/
def rk_tk (n : Nat) (c : Int32) (f : Nat → Int64) : Nat → Int64 := fun k => if k < n then f k &&& (pX3_setOf c ^^^ (-1)) else f k
def rk_pt (c v : Int32) (f : Nat → Int64) : Nat → Int64 := vp_updL (rk_tk 5 c f) v.toNatClampNeg (rk_tk 5 c f v.toNatClampNeg ||| pX3_setOf c)
def tX1_put (o : Nat) (c v : Int32) (z : mm_S) : mm_S := if pX3_isCell c = 0 then z else if pX3_isStuff v = 0 then z else (z.1, mm_rw z.2 (o + 1) (rk_pt c v (z.2 (o + 1))))
theorem rk_tk_1 (n : Nat) (c : Int32) (f : Nat → Int64) : vp_updL (rk_tk n c f) n (rk_tk n c f n &&& (pX3_setOf c ^^^ (-1))) = rk_tk (n + 1) c f := by
  funext k
  unfold vp_updL rk_tk
  by_cases h : k = n
  · subst h
    rw [if_pos rfl, if_neg (by omega), if_pos (by omega)]
  · rw [if_neg h]
    by_cases h2 : k < n
    · rw [if_pos h2, if_pos (by omega)]
    · rw [if_neg h2, if_neg (by omega)]
theorem rk_tk_0 (c : Int32) (f : Nat → Int64) : rk_tk 0 c f = f := by
  funext k
  exact if_neg (by omega)
theorem isStuff_n {v : Int32} (h : ¬ pX3_isStuff v = 0) : ∃ j : Nat, j < 5 ∧ v = nI j := by
  unfold pX3_isStuff pX3_lies at h
  by_cases h1 : v < 0
  · exact absurd (if_pos h1) h
  · rw [if_neg h1] at h
    by_cases h2 : (4 : Int32) < v
    · exact absurd (if_pos h2) h
    · obtain ⟨j, hj, rfl⟩ := nI_of2 (M := 4) (n := 4) (by decide) h1 (Int32.not_lt.mp h2)
      exact ⟨j, by omega, rfl⟩
theorem sp_X1_put (o : Nat) (c v : Int32) (z : mm_S) (hk : ∀ u ∈ [mm_P 1 o, mm_I c, mm_I v], mm_ok 46 lyTX 48 17 u) : f_X1_put [mm_P 1 o, mm_I c, mm_I v] z (none, tX1_put o c v z) := by
  have hl := (ok1_l (hk (mm_P 1 o) (by simp))).1
  have step : ∀ (n j : Nat) (s : mm_S), j < 5 → eX1_put_17 (n + 1) o c v (nI j) s = eX1_put_17 n o c v (nI (j + 1)) (s.1, mm_rw s.2 (o + 1) (vp_updL (s.2 (o + 1)) j (s.2 (o + 1) j &&& (pX3_setOf c ^^^ (-1))))) := by
    intro n j s hj
    have h1 : ¬ (5 : Int32) ≤ nI j := nI_ge (b := 5) hj (by decide)
    have e : eX1_put_17 n o c v (nI j + 1) (tX3_putBits (o + 1) (nI j) (pX3_bitsAt (o + 1) (nI j) s &&& (pX3_setOf c ^^^ (-1))) s) = eX1_put_17 n o c v (nI (j + 1)) (s.1, mm_rw s.2 (o + 1) (vp_updL (s.2 (o + 1)) j (s.2 (o + 1) j &&& (pX3_setOf c ^^^ (-1))))) := by
      rw [putb_N _ _ (by omega), bits_N _ (by omega), nI_1, mm_ul_rw]
    rcases ok1 (hk (mm_P 1 o) (by simp)) with rfl | rfl | rfl
    · exact ((qX1_put_17_2 n c v (nI j) s).trans (if_neg h1)).trans e
    · exact ((qX1_put_17_14 n c v (nI j) s).trans (if_neg h1)).trans e
    · exact ((qX1_put_17_26 n c v (nI j) s).trans (if_neg h1)).trans e
  have h := lp_up (fun n i s => eX1_put_17 n o c v i s) 5 (fun j => (z.1, mm_rw z.2 (o + 1) (rk_tk j c (z.2 (o + 1))))) (fun n j hj => by
    show eX1_put_17 (n + 1) o c v (nI j) _ = _
    rw [step n j _ hj]
    simp only [mm_rw_s, mm_rw_rw, rk_tk_1]) 5 0 1 rfl
  have e0 : ((z.1, mm_rw z.2 (o + 1) (rk_tk 0 c (z.2 (o + 1)))) : mm_S) = z := by rw [rk_tk_0, mm_rw_id]
  simp only [e0] at h
  refine ⟨Nat.le_of_ble_eq_true rfl, 7, ?_⟩
  unfold tX1_put
  have fin : (if pX3_isCell c = 0 then some (none, z) else if pX3_isStuff v = 0 then some (none, z) else eX1_put_17 6 o c v 0 z) = some (none, if pX3_isCell c = 0 then z else if pX3_isStuff v = 0 then z else (z.1, mm_rw z.2 (o + 1) (rk_pt c v (z.2 (o + 1))))) := by
    by_cases c1 : pX3_isCell c = 0
    · rw [if_pos c1, if_pos c1]
    · rw [if_neg c1, if_neg c1]
      by_cases c2 : pX3_isStuff v = 0
      · rw [if_pos c2, if_pos c2]
      · rw [if_neg c2, if_neg c2]
        obtain ⟨j, hj, rfl⟩ := isStuff_n c2
        refine h.trans ?_
        have h1 : (5 : Int32) ≤ nI 5 := by decide
        have e : ∀ s : mm_S, (some (none, tX3_putBits (o + 1) (nI j) (pX3_bitsAt (o + 1) (nI j) s ||| pX3_setOf c) s) : Option mm_R) = some (none, (s.1, mm_rw s.2 (o + 1) (vp_updL (s.2 (o + 1)) (nI j).toNatClampNeg (s.2 (o + 1) (nI j).toNatClampNeg ||| pX3_setOf c)))) := by
          intro s
          rw [putb_N _ _ (by omega), bits_N _ (by omega), nI_clamp (by omega), mm_ul_rw]
        have e2 : (some (none, tX3_putBits (o + 1) (nI j) (pX3_bitsAt (o + 1) (nI j) (z.1, mm_rw z.2 (o + 1) (rk_tk 5 c (z.2 (o + 1)))) ||| pX3_setOf c) (z.1, mm_rw z.2 (o + 1) (rk_tk 5 c (z.2 (o + 1))))) : Option mm_R) = some (none, (z.1, mm_rw z.2 (o + 1) (rk_pt c (nI j) (z.2 (o + 1))))) := by
          rw [e]
          simp only [mm_rw_s, mm_rw_rw]
          rfl
        rcases ok1 (hk (mm_P 1 o) (by simp)) with rfl | rfl | rfl
        · exact ((qX1_put_17_2 0 c (nI j) (nI 5) _).trans (if_pos h1)).trans e2
        · exact ((qX1_put_17_14 0 c (nI j) (nI 5) _).trans (if_pos h1)).trans e2
        · exact ((qX1_put_17_26 0 c (nI j) (nI 5) _).trans (if_pos h1)).trans e2
  rcases ok1 (hk (mm_P 1 o) (by simp)) with rfl | rfl | rfl
  · exact (qX1_put_0_2 6 c v z).trans fin
  · exact (qX1_put_0_14 6 c v z).trans fin
  · exact (qX1_put_0_26 6 c v z).trans fin
def clo_X1_put (as : List mm_V) (z : mm_S) (kk : Option mm_V → mm_S → Option mm_R) : Option mm_R := mm_pr as fun t o0 as => bif Nat.beq t 1 then mm_pi as fun a1 as => mm_pi as fun a2 as => (match as with | [] => kk none (tX1_put o0 a1 a2 z) | _ => none) else none
theorem cs_X1_put : mm_cs lyTX 46 48 17 f_X1_put clo_X1_put := by
  intro as z K o hk h
  obtain ⟨t0, o0, r0, rfl, g0⟩ := mm_pr_e h
  obtain ⟨b0, k0⟩ := mm_bif_e g0
  obtain rfl := Nat.eq_of_beq_eq_true b0
  obtain ⟨a1, r1, rfl, g1⟩ := mm_pi_e k0
  obtain ⟨a2, r2, rfl, g2⟩ := mm_pi_e g1
  rcases r2 with _ | ⟨u, w⟩
  rotate_left
  · cases g2
  exact ⟨_, _, sp_X1_put o0 a1 a2 z hk, (fun v hv => by cases hv), g2⟩
theorem sV_X1_put {own : String} {R : Room} {ar : Nat → Nat} {k : Nat} (hlink : Cond.methodLink own k yX1_put ∈ lw_gd ∨ ∃ host, (own, k, yX1_put, host) ∈ nmA) (har : ar k = 3) (hr : 3 ≤ R.frames ∧ 65 ≤ R.locals) : mm_okV lyTX lyFA lenX snX 46 48 17 roX rsA nfA nmA ssX own R ar k clo_X1_put := by
  refine ⟨yX1_put, cX1_put, 4, none, rm_X1_put, f_X1_put, 1, 2, (RX1, TX1, 4), M_X1_put, cs_X1_put, hlink, ⟨wv_X1_put, wz_X1_put, wi_X1_put, wc_X1_put⟩, ⟨by decide +kernel, by decide +kernel, by decide +kernel⟩, har, ⟨rfl, rfl, by decide⟩, ?_, ⟨rfl, rfl, hr.1, hr.2⟩⟩
  intro as z K o h
  obtain ⟨t0, o0, r0, rfl, g0⟩ := mm_pr_e h
  obtain ⟨b0, k0⟩ := mm_bif_e g0
  obtain rfl := Nat.eq_of_beq_eq_true b0
  exact ⟨_, _, rfl⟩
