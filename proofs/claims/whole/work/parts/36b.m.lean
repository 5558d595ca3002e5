-- X4_costOf
noncomputable def lV_X4_costOf : List (Nat × (List mm_V → mm_S → (Option mm_V → mm_S → Option mm_R) → Option mm_R)) := [(172, clo_X4_isHole)]
noncomputable def mV_X4_costOf (k : Nat) (as : List mm_V) (z : mm_S) (kk : Option mm_V → mm_S → Option mm_R) : Option mm_R := match mm_at lV_X4_costOf k with
  | some f => f as z kk
  | none => none
noncomputable def arV_X4_costOf (k : Nat) : Nat := (mm_at [(172, 2)] k).getD 0
noncomputable def lS_X4_costOf : List (Nat × (List mm_V → mm_S → (Option mm_V → mm_S → Option mm_R) → Option mm_R)) := []
noncomputable def mS_X4_costOf (k : Nat) (as : List mm_V) (z : mm_S) (kk : Option mm_V → mm_S → Option mm_R) : Option mm_R := match mm_at lS_X4_costOf k with
  | some f => f as z kk
  | none => none
noncomputable def arS_X4_costOf (k : Nat) : Nat := (mm_at [] k).getD 0
def ct_X4_costOf : List (Nat × List Nat) := [(8, [])]
noncomputable def go_X4_costOf : Nat → mm_K := mm_go (fun k => mm_at flX4 k) (fun k => mm_at clX4 k) (fun k => mm_at glX4 k) arV_X4_costOf arS_X4_costOf mV_X4_costOf mS_X4_costOf lenM roM snM 2 0 tbX4_costOf ct_X4_costOf
noncomputable def eX4_costOf_0 (n : Nat)  (x1 : Int32) (z : mm_S) : Option mm_R := go_X4_costOf n 0 [(0, mm_P 4 0), (1, mm_I x1)] [] z
noncomputable def eX4_costOf_8 (n : Nat)  (z : mm_S) : Option mm_R := go_X4_costOf n 8 [] [] z
set_option maxRecDepth 100000 in
theorem qX4_costOf_0 (n : Nat)  (x1 : Int32) (z : mm_S) : eX4_costOf_0 (n + 1) x1 z = ((sX4_isHole x1 z).bind fun q1 => if q1.1 = 0 then some (some (mm_I 1), q1.2) else eX4_costOf_8 n  q1.2) := rfl
set_option maxRecDepth 100000 in
theorem qX4_costOf_8 (n : Nat)  (z : mm_S) : eX4_costOf_8 (n + 1)  z = (some (some (mm_I 0), z)) := rfl
def rm_X4_costOf : Room := { frames := 2, cells := 0, slots := 0, locals := 42 }
noncomputable def f_X4_costOf (as : List mm_V) (z : mm_S) (o : mm_R) : Prop := (as.map mm_cat).sum ≤ 2 ∧ ∃ n, go_X4_costOf n 0 (mm_ar 0 as) [] z = some o
theorem M_X4_costOf : mm_M lyTM lyFA lenM snM 22 22 17 roM rsA nfA nmA [] yX4_costOf cX4_costOf 2 (some .int) rm_X4_costOf f_X4_costOf :=
  mm_met (rt := 0) (by decide +kernel) ⟨fun h => rfl, fun h => absurd h (by decide), fun h => absurd h (by decide), fun h => absurd h (by decide)⟩ tbX4_costOf_ok hsnM okFX4 okLX4 (fun _ h => absurd h List.not_mem_nil) (fun _ _ _ _ => rfl) (fun _ _ _ _ => rfl) (List.forall_mem_cons.mpr ⟨sV_X4_isHole (Or.inl lk_X4_172) rfl ⟨by decide, by decide⟩, fun _ h => absurd h List.not_mem_nil⟩) (fun _ h => absurd h List.not_mem_nil)
noncomputable def sX4_costOf_8  (z : mm_S) : Option (Int32 × mm_S) := some (0, z)
theorem kX4_costOf_8  (z : mm_S) (oo : mm_R) : mm_Xs (sX4_costOf_8  z) (fun v => (fun v : Int32 × mm_S => ((some (mm_I v.1), v.2) : mm_R)) v = oo) (fun n => eX4_costOf_8 n  z) oo :=
  xs_row (fun n => qX4_costOf_8 n z) (xs_v fun hc => ⟨0, congrArg some hc⟩)
noncomputable def sX4_costOf_0 (x1 : Int32) (z : mm_S) : Option (Int32 × mm_S) := (sX4_isHole x1 z).bind fun q1 => if q1.1 = 0 then some (1, q1.2) else (sX4_costOf_8 q1.2)
theorem kX4_costOf_0 (x1 : Int32) (z : mm_S) (oo : mm_R) : mm_Xs (sX4_costOf_0 x1 z) (fun v => (fun v : Int32 × mm_S => ((some (mm_I v.1), v.2) : mm_R)) v = oo) (fun n => eX4_costOf_0 n x1 z) oo :=
  xs_row (fun n => qX4_costOf_0 n x1 z) (xs_bd fun q1 => (xs_if (xs_v fun hc => ⟨0, congrArg some hc⟩) (kX4_costOf_8 q1.2 oo)))
noncomputable def sX4_costOf (x1 : Int32) (z : mm_S) : Option (Int32 × mm_S) := sX4_costOf_0 x1 z
theorem sp_X4_costOf (x1 : Int32) (z : mm_S) (hk : ∀ v ∈ [mm_P 4 0, mm_I x1], mm_ok 22 lyTM 22 17 v) (q : Int32 × mm_S) (hq : sX4_costOf x1 z = some q) : f_X4_costOf [mm_P 4 0, mm_I x1] z (some (mm_I q.1), q.2) := ⟨Nat.le_of_ble_eq_true rfl, kX4_costOf_0 x1 z _ q hq rfl⟩
noncomputable def clo_X4_costOf (as : List mm_V) (z : mm_S) (kk : Option mm_V → mm_S → Option mm_R) : Option mm_R := mm_pr as fun t o0 as => bif Nat.beq t 4 then mm_pi as fun a1 as => (match as with | [] => (sX4_costOf a1 z).bind fun q => kk (some (mm_I q.1)) q.2 | _ => none) else none
theorem cs_X4_costOf : mm_cs lyTM 22 22 17 f_X4_costOf clo_X4_costOf := by
  intro as z K o hk h
  obtain ⟨t0, o0, r0, rfl, g0⟩ := mm_pr_e h
  obtain ⟨b0, k0⟩ := mm_bif_e g0
  obtain rfl := Nat.eq_of_beq_eq_true b0
  obtain ⟨a1, r1, rfl, g1⟩ := mm_pi_e k0
  rcases r1 with _ | ⟨u, w⟩
  rotate_left
  · cases g1
  obtain rfl : o0 = 0 := ok4 (hk (mm_P 4 o0) (by simp))
  obtain ⟨q, hq, hq2⟩ := Option.bind_eq_some_iff.mp g1
  exact ⟨_, _, sp_X4_costOf a1 z hk q hq, fun v hv => by cases hv; exact Or.inl ⟨_, rfl⟩, hq2⟩
theorem sV_X4_costOf {own : String} {R : Room} {ar : Nat → Nat} {k : Nat} (hlink : Cond.methodLink own k yX4_costOf ∈ lw_gd ∨ ∃ host, (own, k, yX4_costOf, host) ∈ nmA) (har : ar k = 2) (hr : 3 ≤ R.frames ∧ 63 ≤ R.locals) : mm_okV lyTM lyFA lenM snM 22 22 17 roM rsA nfA nmA [] own R ar k clo_X4_costOf := by
  refine ⟨yX4_costOf, cX4_costOf, 2, some .int, rm_X4_costOf, f_X4_costOf, 4, 1, (RX4, TX4, 36), M_X4_costOf, cs_X4_costOf, hlink, ⟨wv_X4_costOf, wz_X4_costOf, wi_X4_costOf, wc_X4_costOf⟩, ⟨by decide +kernel, by decide +kernel, by decide +kernel⟩, har, ⟨rfl, rfl, by decide⟩, ?_, ⟨rfl, rfl, hr.1, hr.2⟩⟩
  intro as z K o h
  obtain ⟨t0, o0, r0, rfl, g0⟩ := mm_pr_e h
  obtain ⟨b0, k0⟩ := mm_bif_e g0
  obtain rfl := Nat.eq_of_beq_eq_true b0
  exact ⟨_, _, rfl⟩
-- X4_findCosts
noncomputable def lV_X4_findCosts : List (Nat × (List mm_V → mm_S → (Option mm_V → mm_S → Option mm_R) → Option mm_R)) := [(282, clo_X4_costOf)]
noncomputable def mV_X4_findCosts (k : Nat) (as : List mm_V) (z : mm_S) (kk : Option mm_V → mm_S → Option mm_R) : Option mm_R := match mm_at lV_X4_findCosts k with
  | some f => f as z kk
  | none => none
noncomputable def arV_X4_findCosts (k : Nat) : Nat := (mm_at [(282, 2)] k).getD 0
noncomputable def lS_X4_findCosts : List (Nat × (List mm_V → mm_S → (Option mm_V → mm_S → Option mm_R) → Option mm_R)) := [(175, clo_X4_beside)]
noncomputable def mS_X4_findCosts (k : Nat) (as : List mm_V) (z : mm_S) (kk : Option mm_V → mm_S → Option mm_R) : Option mm_R := match mm_at lS_X4_findCosts k with
  | some f => f as z kk
  | none => none
noncomputable def arS_X4_findCosts (k : Nat) : Nat := (mm_at [(175, 2)] k).getD 0
def ct_X4_findCosts : List (Nat × List Nat) := [(3, [0, 1, 2, 4]), (20, [0, 1, 2, 4]), (65, [0, 2, 4]), (69, [0, 2, 5]), (80, [0, 2, 5, 6]), (90, [0, 2, 5, 6, 7]), (156, [0, 2, 5, 6, 7, 8, 9]), (185, [0, 2, 6, 7])]
noncomputable def go_X4_findCosts : Nat → mm_K := mm_go (fun k => mm_at flX4 k) (fun k => mm_at clX4 k) (fun k => mm_at glX4 k) arV_X4_findCosts arS_X4_findCosts mV_X4_findCosts mS_X4_findCosts lenM roM snM 10 3 tbX4_findCosts ct_X4_findCosts
noncomputable def eX4_findCosts_0 (n : Nat)  (x1 : Int32) (x2 : Int64) (z : mm_S) : Option mm_R := go_X4_findCosts n 0 [(0, mm_P 4 0), (1, mm_I x1), (2, mm_J x2)] [] z
noncomputable def eX4_findCosts_3 (n : Nat)  (y1 : Int32) (y2 : Int64) (y4 : Int32) (z : mm_S) : Option mm_R := go_X4_findCosts n 3 [(0, mm_P 4 0), (1, mm_I y1), (2, mm_J y2), (4, mm_I y4)] [] z
noncomputable def eX4_findCosts_65 (n : Nat)  (y2 : Int64) (y4 : Int32) (z : mm_S) : Option mm_R := go_X4_findCosts n 65 [(0, mm_P 4 0), (2, mm_J y2), (4, mm_I y4)] [] z
noncomputable def eX4_findCosts_20 (n : Nat)  (y1 : Int32) (y2 : Int64) (y4 : Int32) (z : mm_S) : Option mm_R := go_X4_findCosts n 20 [(0, mm_P 4 0), (1, mm_I y1), (2, mm_J y2), (4, mm_I y4)] [] z
noncomputable def eX4_findCosts_69 (n : Nat)  (y2 : Int64) (y5 : Int32) (z : mm_S) : Option mm_R := go_X4_findCosts n 69 [(0, mm_P 4 0), (2, mm_J y2), (5, mm_I y5)] [] z
noncomputable def eX4_findCosts_80 (n : Nat)  (y2 : Int64) (y5 : Int32) (y6 : Int32) (z : mm_S) : Option mm_R := go_X4_findCosts n 80 [(0, mm_P 4 0), (2, mm_J y2), (5, mm_I y5), (6, mm_I y6)] [] z
noncomputable def eX4_findCosts_90 (n : Nat)  (y2 : Int64) (y5 : Int32) (y6 : Int32) (y7 : Int32) (z : mm_S) : Option mm_R := go_X4_findCosts n 90 [(0, mm_P 4 0), (2, mm_J y2), (5, mm_I y5), (6, mm_I y6), (7, mm_I y7)] [] z
noncomputable def eX4_findCosts_156 (n : Nat)  (y2 : Int64) (y5 : Int32) (y6 : Int32) (y7 : Int32) (y8 : Int32) (y9 : Int32) (z : mm_S) : Option mm_R := go_X4_findCosts n 156 [(0, mm_P 4 0), (2, mm_J y2), (5, mm_I y5), (6, mm_I y6), (7, mm_I y7), (8, mm_I y8), (9, mm_I y9)] [] z
noncomputable def eX4_findCosts_185 (n : Nat)  (y2 : Int64) (y6 : Int32) (y7 : Int32) (z : mm_S) : Option mm_R := go_X4_findCosts n 185 [(0, mm_P 4 0), (2, mm_J y2), (6, mm_I y6), (7, mm_I y7)] [] z
set_option maxRecDepth 100000 in
theorem qX4_findCosts_0 (n : Nat)  (x1 : Int32) (x2 : Int64) (z : mm_S) : eX4_findCosts_0 (n + 1) x1 x2 z = (eX4_findCosts_3 n x1 x2 0 z) := rfl
set_option maxRecDepth 100000 in
theorem qX4_findCosts_3 (n : Nat)  (y1 : Int32) (y2 : Int64) (y4 : Int32) (z : mm_S) : eX4_findCosts_3 (n + 1) y1 y2 y4 z = (if 36 ≤ y4 then if (lg_cmp ((y2 >>> (Int32.toInt64 y1 &&& 63)) &&& 1) 1) = 0 then (sX4_costOf y1 z).bind fun q1 => if y1 < 0 ∨ 36 ≤ Int32.toNatClampNeg y1 then none else eX4_findCosts_65 n y2 1 ((mm_ui q1.2.1 12 (Int32.toNatClampNeg y1) q1.1), q1.2.2) else if y1 < 0 ∨ 36 ≤ Int32.toNatClampNeg y1 then none else eX4_findCosts_65 n y2 0 ((mm_ui z.1 12 (Int32.toNatClampNeg y1) 10000), z.2) else if y4 < 0 ∨ 36 ≤ Int32.toNatClampNeg y4 then none else eX4_findCosts_20 n y1 y2 y4 ((mm_ui z.1 12 (Int32.toNatClampNeg y4) 10000), z.2)) := rfl
set_option maxRecDepth 100000 in
theorem qX4_findCosts_65 (n : Nat)  (y2 : Int64) (y4 : Int32) (z : mm_S) : eX4_findCosts_65 (n + 1) y2 y4 z = (eX4_findCosts_69 n y2 y4 z) := rfl
set_option maxRecDepth 100000 in
theorem qX4_findCosts_20 (n : Nat)  (y1 : Int32) (y2 : Int64) (y4 : Int32) (z : mm_S) : eX4_findCosts_20 (n + 1) y1 y2 y4 z = (eX4_findCosts_3 n y1 y2 (y4 + 1) z) := rfl
set_option maxRecDepth 100000 in
theorem qX4_findCosts_69 (n : Nat)  (y2 : Int64) (y5 : Int32) (z : mm_S) : eX4_findCosts_69 (n + 1) y2 y5 z = (if y5 = 0 then some (none, z) else eX4_findCosts_80 n y2 0 0 z) := rfl
set_option maxRecDepth 100000 in
theorem qX4_findCosts_80 (n : Nat)  (y2 : Int64) (y5 : Int32) (y6 : Int32) (z : mm_S) : eX4_findCosts_80 (n + 1) y2 y5 y6 z = (if 36 ≤ y6 then eX4_findCosts_69 n y2 y5 z else eX4_findCosts_90 n y2 y5 y6 0 z) := rfl
set_option maxRecDepth 100000 in
theorem qX4_findCosts_90 (n : Nat)  (y2 : Int64) (y5 : Int32) (y6 : Int32) (y7 : Int32) (z : mm_S) : eX4_findCosts_90 (n + 1) y2 y5 y6 y7 z = (if 4 ≤ y7 then eX4_findCosts_80 n y2 y5 (y6 + 1) z else if y6 < 0 ∨ 36 ≤ Int32.toNatClampNeg y6 then none else if 10000 ≤ (z.1 12 (Int32.toNatClampNeg y6)) then eX4_findCosts_80 n y2 y5 (y6 + 1) z else if (pX4_beside y6 y7 z) < 0 then eX4_findCosts_156 n y2 y5 y6 y7 (pX4_beside y6 y7 z) 10000 z else if (lg_cmp ((y2 >>> (Int32.toInt64 (pX4_beside y6 y7 z) &&& 63)) &&& 1) 0) = 0 then eX4_findCosts_156 n y2 y5 y6 y7 (pX4_beside y6 y7 z) 10000 z else if y6 < 0 ∨ 36 ≤ Int32.toNatClampNeg y6 then none else (sX4_costOf (pX4_beside y6 y7 z) z).bind fun q2 => let v3 : Int32 := ((z.1 12 (Int32.toNatClampNeg y6)) + q2.1); eX4_findCosts_156 n y2 y5 y6 y7 (pX4_beside y6 y7 z) v3 q2.2) := rfl
set_option maxRecDepth 100000 in
theorem qX4_findCosts_156 (n : Nat)  (y2 : Int64) (y5 : Int32) (y6 : Int32) (y7 : Int32) (y8 : Int32) (y9 : Int32) (z : mm_S) : eX4_findCosts_156 (n + 1) y2 y5 y6 y7 y8 y9 z = (if 10000 ≤ y9 then eX4_findCosts_90 n y2 y5 y6 (y7 + 1) z else if y8 < 0 ∨ 36 ≤ Int32.toNatClampNeg y8 then none else if (z.1 12 (Int32.toNatClampNeg y8)) ≤ y9 then eX4_findCosts_90 n y2 y5 y6 (y7 + 1) z else if y8 < 0 ∨ 36 ≤ Int32.toNatClampNeg y8 then none else eX4_findCosts_185 n y2 y6 y7 ((mm_ui z.1 12 (Int32.toNatClampNeg y8) y9), z.2)) := rfl
set_option maxRecDepth 100000 in
theorem qX4_findCosts_185 (n : Nat)  (y2 : Int64) (y6 : Int32) (y7 : Int32) (z : mm_S) : eX4_findCosts_185 (n + 1) y2 y6 y7 z = (eX4_findCosts_90 n y2 1 y6 (y7 + 1) z) := rfl
def rm_X4_findCosts : Room := { frames := 3, cells := 0, slots := 0, locals := 63 }
noncomputable def f_X4_findCosts (as : List mm_V) (z : mm_S) (o : mm_R) : Prop := (as.map mm_cat).sum ≤ 10 ∧ ∃ n, go_X4_findCosts n 0 (mm_ar 0 as) [] z = some o
theorem M_X4_findCosts : mm_M lyTM lyFA lenM snM 22 22 17 roM rsA nfA nmA [] yX4_findCosts cX4_findCosts 10 (none) rm_X4_findCosts f_X4_findCosts :=
  mm_met (rt := 3) (by decide +kernel) ⟨fun h => absurd h (by decide), fun h => absurd h (by decide), fun h => absurd h (by decide), fun h => rfl⟩ tbX4_findCosts_ok hsnM okFX4 okLX4 (fun _ h => absurd h List.not_mem_nil) (fun _ _ _ _ => rfl) (fun _ _ _ _ => rfl) (List.forall_mem_cons.mpr ⟨sV_X4_costOf (Or.inl lk_X4_282) rfl ⟨by decide, by decide⟩, fun _ h => absurd h List.not_mem_nil⟩) (List.forall_mem_cons.mpr ⟨sS_X4_beside (Or.inl lk_X4_175) rfl ⟨by decide, by decide⟩, fun _ h => absurd h List.not_mem_nil⟩)
noncomputable def sX4_findCosts_20 (y1 : Int32) (y2 : Int64) (y4 : Int32) (z : mm_S) : Option ((Int32 × Int64 × Int32 × mm_S) ⊕ (mm_S)) := some (.inl (y1, y2, (y4 + 1), z))
theorem kX4_findCosts_20 (y1 : Int32) (y2 : Int64) (y4 : Int32) (z : mm_S) (oo : mm_R) : mm_Xs (sX4_findCosts_20 y1 y2 y4 z) (mm_mt (fun x : Int32 × Int64 × Int32 × mm_S => ∃ n, eX4_findCosts_3 n x.1 x.2.1 x.2.2.1 x.2.2.2 = some oo) (fun v => (fun v : mm_S => ((none, v) : mm_R)) v = oo)) (fun n => eX4_findCosts_20 n y1 y2 y4 z) oo :=
  xs_row (fun n => qX4_findCosts_20 n y1 y2 y4 z) (xs_v fun hc => hc)
noncomputable def sX4_findCosts_185 (y2 : Int64) (y6 : Int32) (y7 : Int32) (z : mm_S) : Option ((Int64 × Int32 × Int32 × Int32 × mm_S) ⊕ ((Int64 × Int32 × Int32 × mm_S) ⊕ ((Int64 × Int32 × mm_S) ⊕ (mm_S)))) := some (.inl (y2, 1, y6, (y7 + 1), z))
theorem kX4_findCosts_185 (y2 : Int64) (y6 : Int32) (y7 : Int32) (z : mm_S) (oo : mm_R) : mm_Xs (sX4_findCosts_185 y2 y6 y7 z) (mm_mt (fun x : Int64 × Int32 × Int32 × Int32 × mm_S => ∃ n, eX4_findCosts_90 n x.1 x.2.1 x.2.2.1 x.2.2.2.1 x.2.2.2.2 = some oo) (mm_mt (fun x : Int64 × Int32 × Int32 × mm_S => ∃ n, eX4_findCosts_80 n x.1 x.2.1 x.2.2.1 x.2.2.2 = some oo) (mm_mt (fun x : Int64 × Int32 × mm_S => ∃ n, eX4_findCosts_69 n x.1 x.2.1 x.2.2 = some oo) (fun v => (fun v : mm_S => ((none, v) : mm_R)) v = oo)))) (fun n => eX4_findCosts_185 n y2 y6 y7 z) oo :=
  xs_row (fun n => qX4_findCosts_185 n y2 y6 y7 z) (xs_v fun hc => hc)
noncomputable def sX4_findCosts_156 (y2 : Int64) (y5 : Int32) (y6 : Int32) (y7 : Int32) (y8 : Int32) (y9 : Int32) (z : mm_S) : Option ((Int64 × Int32 × Int32 × Int32 × mm_S) ⊕ ((Int64 × Int32 × Int32 × mm_S) ⊕ ((Int64 × Int32 × mm_S) ⊕ (mm_S)))) := if 10000 ≤ y9 then some (.inl (y2, y5, y6, (y7 + 1), z)) else if y8 < 0 ∨ 36 ≤ Int32.toNatClampNeg y8 then none else if (z.1 12 (Int32.toNatClampNeg y8)) ≤ y9 then some (.inl (y2, y5, y6, (y7 + 1), z)) else if y8 < 0 ∨ 36 ≤ Int32.toNatClampNeg y8 then none else (sX4_findCosts_185 y2 y6 y7 ((mm_ui z.1 12 (Int32.toNatClampNeg y8) y9), z.2))
theorem kX4_findCosts_156 (y2 : Int64) (y5 : Int32) (y6 : Int32) (y7 : Int32) (y8 : Int32) (y9 : Int32) (z : mm_S) (oo : mm_R) : mm_Xs (sX4_findCosts_156 y2 y5 y6 y7 y8 y9 z) (mm_mt (fun x : Int64 × Int32 × Int32 × Int32 × mm_S => ∃ n, eX4_findCosts_90 n x.1 x.2.1 x.2.2.1 x.2.2.2.1 x.2.2.2.2 = some oo) (mm_mt (fun x : Int64 × Int32 × Int32 × mm_S => ∃ n, eX4_findCosts_80 n x.1 x.2.1 x.2.2.1 x.2.2.2 = some oo) (mm_mt (fun x : Int64 × Int32 × mm_S => ∃ n, eX4_findCosts_69 n x.1 x.2.1 x.2.2 = some oo) (fun v => (fun v : mm_S => ((none, v) : mm_R)) v = oo)))) (fun n => eX4_findCosts_156 n y2 y5 y6 y7 y8 y9 z) oo :=
  xs_row (fun n => qX4_findCosts_156 n y2 y5 y6 y7 y8 y9 z) (xs_if (xs_v fun hc => hc) (xs_if xs_n (xs_if (xs_v fun hc => hc) (xs_if xs_n (kX4_findCosts_185 y2 y6 y7 ((mm_ui z.1 12 (Int32.toNatClampNeg y8) y9), z.2) oo)))))
noncomputable def lX4_findCosts_90 (s : Int64 × Int32 × Int32 × Int32 × mm_S) : Option ((Int64 × Int32 × Int32 × Int32 × mm_S) ⊕ ((Int64 × Int32 × Int32 × mm_S) ⊕ ((Int64 × Int32 × mm_S) ⊕ (mm_S)))) := if 4 ≤ s.2.2.2.1 then some (.inr (.inl (s.1, s.2.1, (s.2.2.1 + 1), s.2.2.2.2))) else if s.2.2.1 < 0 ∨ 36 ≤ Int32.toNatClampNeg s.2.2.1 then none else if 10000 ≤ (s.2.2.2.2.1 12 (Int32.toNatClampNeg s.2.2.1)) then some (.inr (.inl (s.1, s.2.1, (s.2.2.1 + 1), s.2.2.2.2))) else if (pX4_beside s.2.2.1 s.2.2.2.1 s.2.2.2.2) < 0 then (sX4_findCosts_156 s.1 s.2.1 s.2.2.1 s.2.2.2.1 (pX4_beside s.2.2.1 s.2.2.2.1 s.2.2.2.2) 10000 s.2.2.2.2) else if (lg_cmp ((s.1 >>> (Int32.toInt64 (pX4_beside s.2.2.1 s.2.2.2.1 s.2.2.2.2) &&& 63)) &&& 1) 0) = 0 then (sX4_findCosts_156 s.1 s.2.1 s.2.2.1 s.2.2.2.1 (pX4_beside s.2.2.1 s.2.2.2.1 s.2.2.2.2) 10000 s.2.2.2.2) else if s.2.2.1 < 0 ∨ 36 ≤ Int32.toNatClampNeg s.2.2.1 then none else (sX4_costOf (pX4_beside s.2.2.1 s.2.2.2.1 s.2.2.2.2) s.2.2.2.2).bind fun q2 => let v3 : Int32 := ((s.2.2.2.2.1 12 (Int32.toNatClampNeg s.2.2.1)) + q2.1); (sX4_findCosts_156 s.1 s.2.1 s.2.2.1 s.2.2.2.1 (pX4_beside s.2.2.1 s.2.2.2.1 s.2.2.2.2) v3 q2.2)
noncomputable def sX4_findCosts_90 (y2 : Int64) (y5 : Int32) (y6 : Int32) (y7 : Int32) (z : mm_S) : Option ((Int64 × Int32 × Int32 × mm_S) ⊕ ((Int64 × Int32 × mm_S) ⊕ (mm_S))) := mm_wh (lX4_findCosts_90 ) mm_fu (y2, y5, y6, y7, z)
theorem kX4_findCosts_90 (y2 : Int64) (y5 : Int32) (y6 : Int32) (y7 : Int32) (z : mm_S) (oo : mm_R) : mm_Xs (sX4_findCosts_90 y2 y5 y6 y7 z) (mm_mt (fun x : Int64 × Int32 × Int32 × mm_S => ∃ n, eX4_findCosts_80 n x.1 x.2.1 x.2.2.1 x.2.2.2 = some oo) (mm_mt (fun x : Int64 × Int32 × mm_S => ∃ n, eX4_findCosts_69 n x.1 x.2.1 x.2.2 = some oo) (fun v => (fun v : mm_S => ((none, v) : mm_R)) v = oo))) (fun n => eX4_findCosts_90 n y2 y5 y6 y7 z) oo :=
  xs_wh (stp := lX4_findCosts_90 ) (o := oo) (E := (fun (s : Int64 × Int32 × Int32 × Int32 × mm_S) n => eX4_findCosts_90 n s.1 s.2.1 s.2.2.1 s.2.2.2.1 s.2.2.2.2)) (C := (mm_mt (fun x : Int64 × Int32 × Int32 × mm_S => ∃ n, eX4_findCosts_80 n x.1 x.2.1 x.2.2.1 x.2.2.2 = some oo) (mm_mt (fun x : Int64 × Int32 × mm_S => ∃ n, eX4_findCosts_69 n x.1 x.2.1 x.2.2 = some oo) (fun v => (fun v : mm_S => ((none, v) : mm_R)) v = oo)))) (fun s => xs_row (fun n => qX4_findCosts_90 n s.1 s.2.1 s.2.2.1 s.2.2.2.1 s.2.2.2.2) (xs_if (xs_v fun hc => hc) (xs_if xs_n (xs_if (xs_v fun hc => hc) (xs_if (kX4_findCosts_156 s.1 s.2.1 s.2.2.1 s.2.2.2.1 (pX4_beside s.2.2.1 s.2.2.2.1 s.2.2.2.2) 10000 s.2.2.2.2 oo) (xs_if (kX4_findCosts_156 s.1 s.2.1 s.2.2.1 s.2.2.2.1 (pX4_beside s.2.2.1 s.2.2.2.1 s.2.2.2.2) 10000 s.2.2.2.2 oo) (xs_if xs_n (xs_bd fun q2 => (xs_let (((s.2.2.2.2.1 12 (Int32.toNatClampNeg s.2.2.1)) + q2.1)) (S := fun (v3 : Int32) => ((sX4_findCosts_156 s.1 s.2.1 s.2.2.1 s.2.2.2.1 (pX4_beside s.2.2.1 s.2.2.2.1 s.2.2.2.2) v3 q2.2) : Option ((Int64 × Int32 × Int32 × Int32 × mm_S) ⊕ ((Int64 × Int32 × Int32 × mm_S) ⊕ ((Int64 × Int32 × mm_S) ⊕ (mm_S)))))) (T := fun (v3 : Int32) n => eX4_findCosts_156 n s.1 s.2.1 s.2.2.1 s.2.2.2.1 (pX4_beside s.2.2.1 s.2.2.2.1 s.2.2.2.2) v3 q2.2) (fun v3 => (kX4_findCosts_156 s.1 s.2.1 s.2.2.1 s.2.2.2.1 (pX4_beside s.2.2.1 s.2.2.2.1 s.2.2.2.2) v3 q2.2 oo))))))))))) mm_fu (y2, y5, y6, y7, z)
noncomputable def lX4_findCosts_80 (s : Int64 × Int32 × Int32 × mm_S) : Option ((Int64 × Int32 × Int32 × mm_S) ⊕ ((Int64 × Int32 × mm_S) ⊕ (mm_S))) := if 36 ≤ s.2.2.1 then some (.inr (.inl (s.1, s.2.1, s.2.2.2))) else (sX4_findCosts_90 s.1 s.2.1 s.2.2.1 0 s.2.2.2)
noncomputable def sX4_findCosts_80 (y2 : Int64) (y5 : Int32) (y6 : Int32) (z : mm_S) : Option ((Int64 × Int32 × mm_S) ⊕ (mm_S)) := mm_wh (lX4_findCosts_80 ) mm_fu (y2, y5, y6, z)
theorem kX4_findCosts_80 (y2 : Int64) (y5 : Int32) (y6 : Int32) (z : mm_S) (oo : mm_R) : mm_Xs (sX4_findCosts_80 y2 y5 y6 z) (mm_mt (fun x : Int64 × Int32 × mm_S => ∃ n, eX4_findCosts_69 n x.1 x.2.1 x.2.2 = some oo) (fun v => (fun v : mm_S => ((none, v) : mm_R)) v = oo)) (fun n => eX4_findCosts_80 n y2 y5 y6 z) oo :=
  xs_wh (stp := lX4_findCosts_80 ) (o := oo) (E := (fun (s : Int64 × Int32 × Int32 × mm_S) n => eX4_findCosts_80 n s.1 s.2.1 s.2.2.1 s.2.2.2)) (C := (mm_mt (fun x : Int64 × Int32 × mm_S => ∃ n, eX4_findCosts_69 n x.1 x.2.1 x.2.2 = some oo) (fun v => (fun v : mm_S => ((none, v) : mm_R)) v = oo))) (fun s => xs_row (fun n => qX4_findCosts_80 n s.1 s.2.1 s.2.2.1 s.2.2.2) (xs_if (xs_v fun hc => hc) (kX4_findCosts_90 s.1 s.2.1 s.2.2.1 0 s.2.2.2 oo))) mm_fu (y2, y5, y6, z)
noncomputable def lX4_findCosts_69 (s : Int64 × Int32 × mm_S) : Option ((Int64 × Int32 × mm_S) ⊕ (mm_S)) := if s.2.1 = 0 then some (.inr (s.2.2)) else (sX4_findCosts_80 s.1 0 0 s.2.2)
noncomputable def sX4_findCosts_69 (y2 : Int64) (y5 : Int32) (z : mm_S) : Option (mm_S) := mm_wh (lX4_findCosts_69 ) mm_fu (y2, y5, z)
theorem kX4_findCosts_69 (y2 : Int64) (y5 : Int32) (z : mm_S) (oo : mm_R) : mm_Xs (sX4_findCosts_69 y2 y5 z) (fun v => (fun v : mm_S => ((none, v) : mm_R)) v = oo) (fun n => eX4_findCosts_69 n y2 y5 z) oo :=
  xs_wh (stp := lX4_findCosts_69 ) (o := oo) (E := (fun (s : Int64 × Int32 × mm_S) n => eX4_findCosts_69 n s.1 s.2.1 s.2.2)) (C := (fun v => (fun v : mm_S => ((none, v) : mm_R)) v = oo)) (fun s => xs_row (fun n => qX4_findCosts_69 n s.1 s.2.1 s.2.2) (xs_if (xs_v fun hc => ⟨0, congrArg some hc⟩) (kX4_findCosts_80 s.1 0 0 s.2.2 oo))) mm_fu (y2, y5, z)
noncomputable def sX4_findCosts_65 (y2 : Int64) (y4 : Int32) (z : mm_S) : Option (mm_S) := (sX4_findCosts_69 y2 y4 z)
theorem kX4_findCosts_65 (y2 : Int64) (y4 : Int32) (z : mm_S) (oo : mm_R) : mm_Xs (sX4_findCosts_65 y2 y4 z) (fun v => (fun v : mm_S => ((none, v) : mm_R)) v = oo) (fun n => eX4_findCosts_65 n y2 y4 z) oo :=
  xs_row (fun n => qX4_findCosts_65 n y2 y4 z) (kX4_findCosts_69 y2 y4 z oo)
noncomputable def lX4_findCosts_3 (s : Int32 × Int64 × Int32 × mm_S) : Option ((Int32 × Int64 × Int32 × mm_S) ⊕ (mm_S)) := if 36 ≤ s.2.2.1 then if (lg_cmp ((s.2.1 >>> (Int32.toInt64 s.1 &&& 63)) &&& 1) 1) = 0 then (sX4_costOf s.1 s.2.2.2).bind fun q1 => if s.1 < 0 ∨ 36 ≤ Int32.toNatClampNeg s.1 then none else ((sX4_findCosts_65 s.2.1 1 ((mm_ui q1.2.1 12 (Int32.toNatClampNeg s.1) q1.1), q1.2.2)).map fun w => (Sum.inr w)) else if s.1 < 0 ∨ 36 ≤ Int32.toNatClampNeg s.1 then none else ((sX4_findCosts_65 s.2.1 0 ((mm_ui s.2.2.2.1 12 (Int32.toNatClampNeg s.1) 10000), s.2.2.2.2)).map fun w => (Sum.inr w)) else if s.2.2.1 < 0 ∨ 36 ≤ Int32.toNatClampNeg s.2.2.1 then none else (sX4_findCosts_20 s.1 s.2.1 s.2.2.1 ((mm_ui s.2.2.2.1 12 (Int32.toNatClampNeg s.2.2.1) 10000), s.2.2.2.2))
noncomputable def sX4_findCosts_3 (y1 : Int32) (y2 : Int64) (y4 : Int32) (z : mm_S) : Option (mm_S) := mm_wh (lX4_findCosts_3 ) mm_fu (y1, y2, y4, z)
theorem kX4_findCosts_3 (y1 : Int32) (y2 : Int64) (y4 : Int32) (z : mm_S) (oo : mm_R) : mm_Xs (sX4_findCosts_3 y1 y2 y4 z) (fun v => (fun v : mm_S => ((none, v) : mm_R)) v = oo) (fun n => eX4_findCosts_3 n y1 y2 y4 z) oo :=
  xs_wh (stp := lX4_findCosts_3 ) (o := oo) (E := (fun (s : Int32 × Int64 × Int32 × mm_S) n => eX4_findCosts_3 n s.1 s.2.1 s.2.2.1 s.2.2.2)) (C := (fun v => (fun v : mm_S => ((none, v) : mm_R)) v = oo)) (fun s => xs_row (fun n => qX4_findCosts_3 n s.1 s.2.1 s.2.2.1 s.2.2.2) (xs_if (xs_if (xs_bd fun q1 => (xs_if xs_n (xs_map (f := fun w => (Sum.inr w)) (kX4_findCosts_65 s.2.1 1 ((mm_ui q1.2.1 12 (Int32.toNatClampNeg s.1) q1.1), q1.2.2) oo) (fun _ h => h)))) (xs_if xs_n (xs_map (f := fun w => (Sum.inr w)) (kX4_findCosts_65 s.2.1 0 ((mm_ui s.2.2.2.1 12 (Int32.toNatClampNeg s.1) 10000), s.2.2.2.2) oo) (fun _ h => h)))) (xs_if xs_n (kX4_findCosts_20 s.1 s.2.1 s.2.2.1 ((mm_ui s.2.2.2.1 12 (Int32.toNatClampNeg s.2.2.1) 10000), s.2.2.2.2) oo)))) mm_fu (y1, y2, y4, z)
noncomputable def sX4_findCosts_0 (x1 : Int32) (x2 : Int64) (z : mm_S) : Option (mm_S) := (sX4_findCosts_3 x1 x2 0 z)
theorem kX4_findCosts_0 (x1 : Int32) (x2 : Int64) (z : mm_S) (oo : mm_R) : mm_Xs (sX4_findCosts_0 x1 x2 z) (fun v => (fun v : mm_S => ((none, v) : mm_R)) v = oo) (fun n => eX4_findCosts_0 n x1 x2 z) oo :=
  xs_row (fun n => qX4_findCosts_0 n x1 x2 z) (kX4_findCosts_3 x1 x2 0 z oo)
noncomputable def sX4_findCosts (x1 : Int32) (x2 : Int64) (z : mm_S) : Option (mm_S) := sX4_findCosts_0 x1 x2 z
theorem sp_X4_findCosts (x1 : Int32) (x2 : Int64) (z : mm_S) (hk : ∀ v ∈ [mm_P 4 0, mm_I x1, mm_J x2], mm_ok 22 lyTM 22 17 v) (q : mm_S) (hq : sX4_findCosts x1 x2 z = some q) : f_X4_findCosts [mm_P 4 0, mm_I x1, mm_J x2] z (none, q) := ⟨Nat.le_of_ble_eq_true rfl, kX4_findCosts_0 x1 x2 z _ q hq rfl⟩
noncomputable def clo_X4_findCosts (as : List mm_V) (z : mm_S) (kk : Option mm_V → mm_S → Option mm_R) : Option mm_R := mm_pr as fun t o0 as => bif Nat.beq t 4 then mm_pi as fun a1 as => mm_pj as fun a2 as => (match as with | [] => (sX4_findCosts a1 a2 z).bind fun q => kk none q | _ => none) else none
theorem cs_X4_findCosts : mm_cs lyTM 22 22 17 f_X4_findCosts clo_X4_findCosts := by
  intro as z K o hk h
  obtain ⟨t0, o0, r0, rfl, g0⟩ := mm_pr_e h
  obtain ⟨b0, k0⟩ := mm_bif_e g0
  obtain rfl := Nat.eq_of_beq_eq_true b0
  obtain ⟨a1, r1, rfl, g1⟩ := mm_pi_e k0
  obtain ⟨a2, r2, rfl, g2⟩ := mm_pj_e g1
  rcases r2 with _ | ⟨u, w⟩
  rotate_left
  · cases g2
  obtain rfl : o0 = 0 := ok4 (hk (mm_P 4 o0) (by simp))
  obtain ⟨q, hq, hq2⟩ := Option.bind_eq_some_iff.mp g2
  exact ⟨_, _, sp_X4_findCosts a1 a2 z hk q hq, (fun v hv => by cases hv), hq2⟩
theorem sV_X4_findCosts {own : String} {R : Room} {ar : Nat → Nat} {k : Nat} (hlink : Cond.methodLink own k yX4_findCosts ∈ lw_gd ∨ ∃ host, (own, k, yX4_findCosts, host) ∈ nmA) (har : ar k = 3) (hr : 4 ≤ R.frames ∧ 92 ≤ R.locals) : mm_okV lyTM lyFA lenM snM 22 22 17 roM rsA nfA nmA [] own R ar k clo_X4_findCosts := by
  refine ⟨yX4_findCosts, cX4_findCosts, 10, none, rm_X4_findCosts, f_X4_findCosts, 4, 2, (RX4, TX4, 36), M_X4_findCosts, cs_X4_findCosts, hlink, ⟨wv_X4_findCosts, wz_X4_findCosts, wi_X4_findCosts, wc_X4_findCosts⟩, ⟨by decide +kernel, by decide +kernel, by decide +kernel⟩, har, ⟨rfl, rfl, by decide⟩, ?_, ⟨rfl, rfl, hr.1, hr.2⟩⟩
  intro as z K o h
  obtain ⟨t0, o0, r0, rfl, g0⟩ := mm_pr_e h
  obtain ⟨b0, k0⟩ := mm_bif_e g0
  obtain rfl := Nat.eq_of_beq_eq_true b0
  exact ⟨_, _, rfl⟩
-- X4_dig
noncomputable def lV_X4_dig : List (Nat × (List mm_V → mm_S → (Option mm_V → mm_S → Option mm_R) → Option mm_R)) := [(124, clo_X4_finding), (189, clo_X4_told), (279, clo_X4_dryNow), (285, clo_X4_findCosts)]
noncomputable def mV_X4_dig (k : Nat) (as : List mm_V) (z : mm_S) (kk : Option mm_V → mm_S → Option mm_R) : Option mm_R := match mm_at lV_X4_dig k with
  | some f => f as z kk
  | none => none
noncomputable def arV_X4_dig (k : Nat) : Nat := (mm_at [(124, 2), (189, 2), (279, 1), (285, 3)] k).getD 0
noncomputable def lS_X4_dig : List (Nat × (List mm_V → mm_S → (Option mm_V → mm_S → Option mm_R) → Option mm_R)) := [(114, clo_X4_isCell)]
noncomputable def mS_X4_dig (k : Nat) (as : List mm_V) (z : mm_S) (kk : Option mm_V → mm_S → Option mm_R) : Option mm_R := match mm_at lS_X4_dig k with
  | some f => f as z kk
  | none => none
noncomputable def arS_X4_dig (k : Nat) : Nat := (mm_at [(114, 1)] k).getD 0
def ct_X4_dig : List (Nat × List Nat) := [(21, [0, 1, 2]), (30, [0, 2])]
noncomputable def go_X4_dig : Nat → mm_K := mm_go (fun k => mm_at flX4 k) (fun k => mm_at clX4 k) (fun k => mm_at glX4 k) arV_X4_dig arS_X4_dig mV_X4_dig mS_X4_dig lenM roM snM 3 0 tbX4_dig ct_X4_dig
noncomputable def eX4_dig_0 (n : Nat)  (x1 : Int32) (x2 : Int32) (z : mm_S) : Option mm_R := go_X4_dig n 0 [(0, mm_P 4 0), (1, mm_I x1), (2, mm_I x2)] [] z
noncomputable def eX4_dig_21 (n : Nat)  (y1 : Int32) (y2 : Int32) (z : mm_S) : Option mm_R := go_X4_dig n 21 [(0, mm_P 4 0), (1, mm_I y1), (2, mm_I y2)] [] z
noncomputable def eX4_dig_30 (n : Nat)  (y2 : Int32) (z : mm_S) : Option mm_R := go_X4_dig n 30 [(0, mm_P 4 0), (2, mm_I y2)] [] z
set_option maxRecDepth 100000 in
theorem qX4_dig_0 (n : Nat)  (x1 : Int32) (x2 : Int32) (z : mm_S) : eX4_dig_0 (n + 1) x1 x2 z = (if (pX4_isCell x1) = 0 then (sX4_finding (-1000001) z).bind fun q1 => some (some (mm_I q1.1), q1.2) else if (pX4_isCell x2) = 0 then (sX4_finding (-1000001) z).bind fun q2 => some (some (mm_I q2.1), q2.2) else eX4_dig_21 n x1 x2 z) := rfl
set_option maxRecDepth 100000 in
theorem qX4_dig_21 (n : Nat)  (y1 : Int32) (y2 : Int32) (z : mm_S) : eX4_dig_21 (n + 1) y1 y2 z = ((sX4_dryNow  z).bind fun q3 => (sX4_findCosts y1 q3.1 q3.2).bind fun q4 => eX4_dig_30 n y2 q4) := rfl
set_option maxRecDepth 100000 in
theorem qX4_dig_30 (n : Nat)  (y2 : Int32) (z : mm_S) : eX4_dig_30 (n + 1) y2 z = (if y2 < 0 ∨ 36 ≤ Int32.toNatClampNeg y2 then none else (sX4_told (z.1 12 (Int32.toNatClampNeg y2)) z).bind fun q5 => some (some (mm_I q5.1), q5.2)) := rfl
def rm_X4_dig : Room := { frames := 4, cells := 0, slots := 0, locals := 92 }
noncomputable def f_X4_dig (as : List mm_V) (z : mm_S) (o : mm_R) : Prop := (as.map mm_cat).sum ≤ 3 ∧ ∃ n, go_X4_dig n 0 (mm_ar 0 as) [] z = some o
theorem M_X4_dig : mm_M lyTM lyFA lenM snM 22 22 17 roM rsA nfA nmA [] yX4_dig cX4_dig 3 (some .int) rm_X4_dig f_X4_dig :=
  mm_met (rt := 0) (by decide +kernel) ⟨fun h => rfl, fun h => absurd h (by decide), fun h => absurd h (by decide), fun h => absurd h (by decide)⟩ tbX4_dig_ok hsnM okFX4 okLX4 (fun _ h => absurd h List.not_mem_nil) (fun _ _ _ _ => rfl) (fun _ _ _ _ => rfl) (List.forall_mem_cons.mpr ⟨sV_X4_finding (Or.inl lk_X4_124) rfl ⟨by decide, by decide⟩, List.forall_mem_cons.mpr ⟨sV_X4_told (Or.inl lk_X4_189) rfl ⟨by decide, by decide⟩, List.forall_mem_cons.mpr ⟨sV_X4_dryNow (Or.inl lk_X4_279) rfl ⟨by decide, by decide⟩, List.forall_mem_cons.mpr ⟨sV_X4_findCosts (Or.inl lk_X4_285) rfl ⟨by decide, by decide⟩, fun _ h => absurd h List.not_mem_nil⟩⟩⟩⟩) (List.forall_mem_cons.mpr ⟨sS_X4_isCell (Or.inl lk_X4_114) rfl ⟨by decide, by decide⟩, fun _ h => absurd h List.not_mem_nil⟩)
noncomputable def sX4_dig_30 (y2 : Int32) (z : mm_S) : Option (Int32 × mm_S) := if y2 < 0 ∨ 36 ≤ Int32.toNatClampNeg y2 then none else (sX4_told (z.1 12 (Int32.toNatClampNeg y2)) z).bind fun q5 => some (q5.1, q5.2)
theorem kX4_dig_30 (y2 : Int32) (z : mm_S) (oo : mm_R) : mm_Xs (sX4_dig_30 y2 z) (fun v => (fun v : Int32 × mm_S => ((some (mm_I v.1), v.2) : mm_R)) v = oo) (fun n => eX4_dig_30 n y2 z) oo :=
  xs_row (fun n => qX4_dig_30 n y2 z) (xs_if xs_n (xs_bd fun q5 => (xs_v fun hc => ⟨0, congrArg some hc⟩)))
noncomputable def sX4_dig_21 (y1 : Int32) (y2 : Int32) (z : mm_S) : Option (Int32 × mm_S) := (sX4_dryNow  z).bind fun q3 => (sX4_findCosts y1 q3.1 q3.2).bind fun q4 => (sX4_dig_30 y2 q4)
theorem kX4_dig_21 (y1 : Int32) (y2 : Int32) (z : mm_S) (oo : mm_R) : mm_Xs (sX4_dig_21 y1 y2 z) (fun v => (fun v : Int32 × mm_S => ((some (mm_I v.1), v.2) : mm_R)) v = oo) (fun n => eX4_dig_21 n y1 y2 z) oo :=
  xs_row (fun n => qX4_dig_21 n y1 y2 z) (xs_bd fun q3 => (xs_bd fun q4 => (kX4_dig_30 y2 q4 oo)))
noncomputable def sX4_dig_0 (x1 : Int32) (x2 : Int32) (z : mm_S) : Option (Int32 × mm_S) := if (pX4_isCell x1) = 0 then (sX4_finding (-1000001) z).bind fun q1 => some (q1.1, q1.2) else if (pX4_isCell x2) = 0 then (sX4_finding (-1000001) z).bind fun q2 => some (q2.1, q2.2) else (sX4_dig_21 x1 x2 z)
theorem kX4_dig_0 (x1 : Int32) (x2 : Int32) (z : mm_S) (oo : mm_R) : mm_Xs (sX4_dig_0 x1 x2 z) (fun v => (fun v : Int32 × mm_S => ((some (mm_I v.1), v.2) : mm_R)) v = oo) (fun n => eX4_dig_0 n x1 x2 z) oo :=
  xs_row (fun n => qX4_dig_0 n x1 x2 z) (xs_if (xs_bd fun q1 => (xs_v fun hc => ⟨0, congrArg some hc⟩)) (xs_if (xs_bd fun q2 => (xs_v fun hc => ⟨0, congrArg some hc⟩)) (kX4_dig_21 x1 x2 z oo)))
noncomputable def sX4_dig (x1 : Int32) (x2 : Int32) (z : mm_S) : Option (Int32 × mm_S) := sX4_dig_0 x1 x2 z
theorem sp_X4_dig (x1 : Int32) (x2 : Int32) (z : mm_S) (hk : ∀ v ∈ [mm_P 4 0, mm_I x1, mm_I x2], mm_ok 22 lyTM 22 17 v) (q : Int32 × mm_S) (hq : sX4_dig x1 x2 z = some q) : f_X4_dig [mm_P 4 0, mm_I x1, mm_I x2] z (some (mm_I q.1), q.2) := ⟨Nat.le_of_ble_eq_true rfl, kX4_dig_0 x1 x2 z _ q hq rfl⟩
noncomputable def clo_X4_dig (as : List mm_V) (z : mm_S) (kk : Option mm_V → mm_S → Option mm_R) : Option mm_R := mm_pr as fun t o0 as => bif Nat.beq t 4 then mm_pi as fun a1 as => mm_pi as fun a2 as => (match as with | [] => (sX4_dig a1 a2 z).bind fun q => kk (some (mm_I q.1)) q.2 | _ => none) else none
theorem cs_X4_dig : mm_cs lyTM 22 22 17 f_X4_dig clo_X4_dig := by
  intro as z K o hk h
  obtain ⟨t0, o0, r0, rfl, g0⟩ := mm_pr_e h
  obtain ⟨b0, k0⟩ := mm_bif_e g0
  obtain rfl := Nat.eq_of_beq_eq_true b0
  obtain ⟨a1, r1, rfl, g1⟩ := mm_pi_e k0
  obtain ⟨a2, r2, rfl, g2⟩ := mm_pi_e g1
  rcases r2 with _ | ⟨u, w⟩
  rotate_left
  · cases g2
  obtain rfl : o0 = 0 := ok4 (hk (mm_P 4 o0) (by simp))
  obtain ⟨q, hq, hq2⟩ := Option.bind_eq_some_iff.mp g2
  exact ⟨_, _, sp_X4_dig a1 a2 z hk q hq, fun v hv => by cases hv; exact Or.inl ⟨_, rfl⟩, hq2⟩
theorem sV_X4_dig {own : String} {R : Room} {ar : Nat → Nat} {k : Nat} (hlink : Cond.methodLink own k yX4_dig ∈ lw_gd ∨ ∃ host, (own, k, yX4_dig, host) ∈ nmA) (har : ar k = 3) (hr : 5 ≤ R.frames ∧ 114 ≤ R.locals) : mm_okV lyTM lyFA lenM snM 22 22 17 roM rsA nfA nmA [] own R ar k clo_X4_dig := by
  refine ⟨yX4_dig, cX4_dig, 3, some .int, rm_X4_dig, f_X4_dig, 4, 2, (RX4, TX4, 36), M_X4_dig, cs_X4_dig, hlink, ⟨wv_X4_dig, wz_X4_dig, wi_X4_dig, wc_X4_dig⟩, ⟨by decide +kernel, by decide +kernel, by decide +kernel⟩, har, ⟨rfl, rfl, by decide⟩, ?_, ⟨rfl, rfl, hr.1, hr.2⟩⟩
  intro as z K o h
  obtain ⟨t0, o0, r0, rfl, g0⟩ := mm_pr_e h
  obtain ⟨b0, k0⟩ := mm_bif_e g0
  obtain rfl := Nat.eq_of_beq_eq_true b0
  exact ⟨_, _, rfl⟩
-- X4_safe
noncomputable def lV_X4_safe : List (Nat × (List mm_V → mm_S → (Option mm_V → mm_S → Option mm_R) → Option mm_R)) := [(124, clo_X4_finding), (189, clo_X4_told), (285, clo_X4_findCosts), (289, clo_X4_dryInAll)]
noncomputable def mV_X4_safe (k : Nat) (as : List mm_V) (z : mm_S) (kk : Option mm_V → mm_S → Option mm_R) : Option mm_R := match mm_at lV_X4_safe k with
  | some f => f as z kk
  | none => none
noncomputable def arV_X4_safe (k : Nat) : Nat := (mm_at [(124, 2), (189, 2), (285, 3), (289, 1)] k).getD 0
noncomputable def lS_X4_safe : List (Nat × (List mm_V → mm_S → (Option mm_V → mm_S → Option mm_R) → Option mm_R)) := [(114, clo_X4_isCell)]
noncomputable def mS_X4_safe (k : Nat) (as : List mm_V) (z : mm_S) (kk : Option mm_V → mm_S → Option mm_R) : Option mm_R := match mm_at lS_X4_safe k with
  | some f => f as z kk
  | none => none
noncomputable def arS_X4_safe (k : Nat) : Nat := (mm_at [(114, 1)] k).getD 0
def ct_X4_safe : List (Nat × List Nat) := [(21, [0, 1, 2]), (30, [0, 2])]
noncomputable def go_X4_safe : Nat → mm_K := mm_go (fun k => mm_at flX4 k) (fun k => mm_at clX4 k) (fun k => mm_at glX4 k) arV_X4_safe arS_X4_safe mV_X4_safe mS_X4_safe lenM roM snM 3 0 tbX4_safe ct_X4_safe
noncomputable def eX4_safe_0 (n : Nat)  (x1 : Int32) (x2 : Int32) (z : mm_S) : Option mm_R := go_X4_safe n 0 [(0, mm_P 4 0), (1, mm_I x1), (2, mm_I x2)] [] z
noncomputable def eX4_safe_21 (n : Nat)  (y1 : Int32) (y2 : Int32) (z : mm_S) : Option mm_R := go_X4_safe n 21 [(0, mm_P 4 0), (1, mm_I y1), (2, mm_I y2)] [] z
noncomputable def eX4_safe_30 (n : Nat)  (y2 : Int32) (z : mm_S) : Option mm_R := go_X4_safe n 30 [(0, mm_P 4 0), (2, mm_I y2)] [] z
set_option maxRecDepth 100000 in
theorem qX4_safe_0 (n : Nat)  (x1 : Int32) (x2 : Int32) (z : mm_S) : eX4_safe_0 (n + 1) x1 x2 z = (if (pX4_isCell x1) = 0 then (sX4_finding (-1000001) z).bind fun q1 => some (some (mm_I q1.1), q1.2) else if (pX4_isCell x2) = 0 then (sX4_finding (-1000001) z).bind fun q2 => some (some (mm_I q2.1), q2.2) else eX4_safe_21 n x1 x2 z) := rfl
set_option maxRecDepth 100000 in
theorem qX4_safe_21 (n : Nat)  (y1 : Int32) (y2 : Int32) (z : mm_S) : eX4_safe_21 (n + 1) y1 y2 z = ((sX4_dryInAll  z).bind fun q3 => (sX4_findCosts y1 q3.1 q3.2).bind fun q4 => eX4_safe_30 n y2 q4) := rfl
set_option maxRecDepth 100000 in
theorem qX4_safe_30 (n : Nat)  (y2 : Int32) (z : mm_S) : eX4_safe_30 (n + 1) y2 z = (if y2 < 0 ∨ 36 ≤ Int32.toNatClampNeg y2 then none else (sX4_told (z.1 12 (Int32.toNatClampNeg y2)) z).bind fun q5 => some (some (mm_I q5.1), q5.2)) := rfl
def rm_X4_safe : Room := { frames := 8, cells := 0, slots := 0, locals := 184 }
noncomputable def f_X4_safe (as : List mm_V) (z : mm_S) (o : mm_R) : Prop := (as.map mm_cat).sum ≤ 3 ∧ ∃ n, go_X4_safe n 0 (mm_ar 0 as) [] z = some o
theorem M_X4_safe : mm_M lyTM lyFA lenM snM 22 22 17 roM rsA nfA nmA [] yX4_safe cX4_safe 3 (some .int) rm_X4_safe f_X4_safe :=
  mm_met (rt := 0) (by decide +kernel) ⟨fun h => rfl, fun h => absurd h (by decide), fun h => absurd h (by decide), fun h => absurd h (by decide)⟩ tbX4_safe_ok hsnM okFX4 okLX4 (fun _ h => absurd h List.not_mem_nil) (fun _ _ _ _ => rfl) (fun _ _ _ _ => rfl) (List.forall_mem_cons.mpr ⟨sV_X4_finding (Or.inl lk_X4_124) rfl ⟨by decide, by decide⟩, List.forall_mem_cons.mpr ⟨sV_X4_told (Or.inl lk_X4_189) rfl ⟨by decide, by decide⟩, List.forall_mem_cons.mpr ⟨sV_X4_findCosts (Or.inl lk_X4_285) rfl ⟨by decide, by decide⟩, List.forall_mem_cons.mpr ⟨sV_X4_dryInAll (Or.inl lk_X4_289) rfl ⟨by decide, by decide⟩, fun _ h => absurd h List.not_mem_nil⟩⟩⟩⟩) (List.forall_mem_cons.mpr ⟨sS_X4_isCell (Or.inl lk_X4_114) rfl ⟨by decide, by decide⟩, fun _ h => absurd h List.not_mem_nil⟩)
noncomputable def sX4_safe_30 (y2 : Int32) (z : mm_S) : Option (Int32 × mm_S) := if y2 < 0 ∨ 36 ≤ Int32.toNatClampNeg y2 then none else (sX4_told (z.1 12 (Int32.toNatClampNeg y2)) z).bind fun q5 => some (q5.1, q5.2)
theorem kX4_safe_30 (y2 : Int32) (z : mm_S) (oo : mm_R) : mm_Xs (sX4_safe_30 y2 z) (fun v => (fun v : Int32 × mm_S => ((some (mm_I v.1), v.2) : mm_R)) v = oo) (fun n => eX4_safe_30 n y2 z) oo :=
  xs_row (fun n => qX4_safe_30 n y2 z) (xs_if xs_n (xs_bd fun q5 => (xs_v fun hc => ⟨0, congrArg some hc⟩)))
noncomputable def sX4_safe_21 (y1 : Int32) (y2 : Int32) (z : mm_S) : Option (Int32 × mm_S) := (sX4_dryInAll  z).bind fun q3 => (sX4_findCosts y1 q3.1 q3.2).bind fun q4 => (sX4_safe_30 y2 q4)
theorem kX4_safe_21 (y1 : Int32) (y2 : Int32) (z : mm_S) (oo : mm_R) : mm_Xs (sX4_safe_21 y1 y2 z) (fun v => (fun v : Int32 × mm_S => ((some (mm_I v.1), v.2) : mm_R)) v = oo) (fun n => eX4_safe_21 n y1 y2 z) oo :=
  xs_row (fun n => qX4_safe_21 n y1 y2 z) (xs_bd fun q3 => (xs_bd fun q4 => (kX4_safe_30 y2 q4 oo)))
noncomputable def sX4_safe_0 (x1 : Int32) (x2 : Int32) (z : mm_S) : Option (Int32 × mm_S) := if (pX4_isCell x1) = 0 then (sX4_finding (-1000001) z).bind fun q1 => some (q1.1, q1.2) else if (pX4_isCell x2) = 0 then (sX4_finding (-1000001) z).bind fun q2 => some (q2.1, q2.2) else (sX4_safe_21 x1 x2 z)
theorem kX4_safe_0 (x1 : Int32) (x2 : Int32) (z : mm_S) (oo : mm_R) : mm_Xs (sX4_safe_0 x1 x2 z) (fun v => (fun v : Int32 × mm_S => ((some (mm_I v.1), v.2) : mm_R)) v = oo) (fun n => eX4_safe_0 n x1 x2 z) oo :=
  xs_row (fun n => qX4_safe_0 n x1 x2 z) (xs_if (xs_bd fun q1 => (xs_v fun hc => ⟨0, congrArg some hc⟩)) (xs_if (xs_bd fun q2 => (xs_v fun hc => ⟨0, congrArg some hc⟩)) (kX4_safe_21 x1 x2 z oo)))
noncomputable def sX4_safe (x1 : Int32) (x2 : Int32) (z : mm_S) : Option (Int32 × mm_S) := sX4_safe_0 x1 x2 z
theorem sp_X4_safe (x1 : Int32) (x2 : Int32) (z : mm_S) (hk : ∀ v ∈ [mm_P 4 0, mm_I x1, mm_I x2], mm_ok 22 lyTM 22 17 v) (q : Int32 × mm_S) (hq : sX4_safe x1 x2 z = some q) : f_X4_safe [mm_P 4 0, mm_I x1, mm_I x2] z (some (mm_I q.1), q.2) := ⟨Nat.le_of_ble_eq_true rfl, kX4_safe_0 x1 x2 z _ q hq rfl⟩
noncomputable def clo_X4_safe (as : List mm_V) (z : mm_S) (kk : Option mm_V → mm_S → Option mm_R) : Option mm_R := mm_pr as fun t o0 as => bif Nat.beq t 4 then mm_pi as fun a1 as => mm_pi as fun a2 as => (match as with | [] => (sX4_safe a1 a2 z).bind fun q => kk (some (mm_I q.1)) q.2 | _ => none) else none
theorem cs_X4_safe : mm_cs lyTM 22 22 17 f_X4_safe clo_X4_safe := by
  intro as z K o hk h
  obtain ⟨t0, o0, r0, rfl, g0⟩ := mm_pr_e h
  obtain ⟨b0, k0⟩ := mm_bif_e g0
  obtain rfl := Nat.eq_of_beq_eq_true b0
  obtain ⟨a1, r1, rfl, g1⟩ := mm_pi_e k0
  obtain ⟨a2, r2, rfl, g2⟩ := mm_pi_e g1
  rcases r2 with _ | ⟨u, w⟩
  rotate_left
  · cases g2
  obtain rfl : o0 = 0 := ok4 (hk (mm_P 4 o0) (by simp))
  obtain ⟨q, hq, hq2⟩ := Option.bind_eq_some_iff.mp g2
  exact ⟨_, _, sp_X4_safe a1 a2 z hk q hq, fun v hv => by cases hv; exact Or.inl ⟨_, rfl⟩, hq2⟩
theorem sV_X4_safe {own : String} {R : Room} {ar : Nat → Nat} {k : Nat} (hlink : Cond.methodLink own k yX4_safe ∈ lw_gd ∨ ∃ host, (own, k, yX4_safe, host) ∈ nmA) (har : ar k = 3) (hr : 9 ≤ R.frames ∧ 206 ≤ R.locals) : mm_okV lyTM lyFA lenM snM 22 22 17 roM rsA nfA nmA [] own R ar k clo_X4_safe := by
  refine ⟨yX4_safe, cX4_safe, 3, some .int, rm_X4_safe, f_X4_safe, 4, 2, (RX4, TX4, 36), M_X4_safe, cs_X4_safe, hlink, ⟨wv_X4_safe, wz_X4_safe, wi_X4_safe, wc_X4_safe⟩, ⟨by decide +kernel, by decide +kernel, by decide +kernel⟩, har, ⟨rfl, rfl, by decide⟩, ?_, ⟨rfl, rfl, hr.1, hr.2⟩⟩
  intro as z K o h
  obtain ⟨t0, o0, r0, rfl, g0⟩ := mm_pr_e h
  obtain ⟨b0, k0⟩ := mm_bif_e g0
  obtain rfl := Nat.eq_of_beq_eq_true b0
  exact ⟨_, _, rfl⟩
-- X4_ways
noncomputable def lV_X4_ways : List (Nat × (List mm_V → mm_S → (Option mm_V → mm_S → Option mm_R) → Option mm_R)) := [(124, clo_X4_finding), (279, clo_X4_dryNow), (285, clo_X4_findCosts)]
noncomputable def mV_X4_ways (k : Nat) (as : List mm_V) (z : mm_S) (kk : Option mm_V → mm_S → Option mm_R) : Option mm_R := match mm_at lV_X4_ways k with
  | some f => f as z kk
  | none => none
noncomputable def arV_X4_ways (k : Nat) : Nat := (mm_at [(124, 2), (279, 1), (285, 3)] k).getD 0
noncomputable def lS_X4_ways : List (Nat × (List mm_V → mm_S → (Option mm_V → mm_S → Option mm_R) → Option mm_R)) := [(114, clo_X4_isCell)]
noncomputable def mS_X4_ways (k : Nat) (as : List mm_V) (z : mm_S) (kk : Option mm_V → mm_S → Option mm_R) : Option mm_R := match mm_at lS_X4_ways k with
  | some f => f as z kk
  | none => none
noncomputable def arS_X4_ways (k : Nat) : Nat := (mm_at [(114, 1)] k).getD 0
def ct_X4_ways : List (Nat × List Nat) := [(15, [0, 1]), (24, [0]), (29, [0, 2, 4])]
noncomputable def go_X4_ways : Nat → mm_K := mm_go (fun k => mm_at flX4 k) (fun k => mm_at clX4 k) (fun k => mm_at glX4 k) arV_X4_ways arS_X4_ways mV_X4_ways mS_X4_ways lenM roM snM 5 2 tbX4_ways ct_X4_ways
noncomputable def eX4_ways_0 (n : Nat)  (x1 : Int32) (z : mm_S) : Option mm_R := go_X4_ways n 0 [(0, mm_P 4 0), (1, mm_I x1)] [] z
noncomputable def eX4_ways_15 (n : Nat)  (y1 : Int32) (z : mm_S) : Option mm_R := go_X4_ways n 15 [(0, mm_P 4 0), (1, mm_I y1)] [] z
noncomputable def eX4_ways_24 (n : Nat)  (z : mm_S) : Option mm_R := go_X4_ways n 24 [(0, mm_P 4 0)] [] z
noncomputable def eX4_ways_29 (n : Nat)  (y2 : Int64) (y4 : Int32) (z : mm_S) : Option mm_R := go_X4_ways n 29 [(0, mm_P 4 0), (2, mm_J y2), (4, mm_I y4)] [] z
set_option maxRecDepth 100000 in
theorem qX4_ways_0 (n : Nat)  (x1 : Int32) (z : mm_S) : eX4_ways_0 (n + 1) x1 z = (if (pX4_isCell x1) = 0 then (sX4_finding (-1000001) z).bind fun q1 => some (some (mm_J (Int32.toInt64 q1.1)), q1.2) else eX4_ways_15 n x1 z) := rfl
set_option maxRecDepth 100000 in
theorem qX4_ways_15 (n : Nat)  (y1 : Int32) (z : mm_S) : eX4_ways_15 (n + 1) y1 z = ((sX4_dryNow  z).bind fun q2 => (sX4_findCosts y1 q2.1 q2.2).bind fun q3 => eX4_ways_24 n  q3) := rfl
set_option maxRecDepth 100000 in
theorem qX4_ways_24 (n : Nat)  (z : mm_S) : eX4_ways_24 (n + 1)  z = (eX4_ways_29 n 0 0 z) := rfl
set_option maxRecDepth 100000 in
theorem qX4_ways_29 (n : Nat)  (y2 : Int64) (y4 : Int32) (z : mm_S) : eX4_ways_29 (n + 1) y2 y4 z = (if 36 ≤ y4 then some (some (mm_J y2), z) else if y4 < 0 ∨ 36 ≤ Int32.toNatClampNeg y4 then none else if 10000 ≤ (z.1 12 (Int32.toNatClampNeg y4)) then eX4_ways_29 n (y2 ||| 0) (y4 + 1) z else let v4 : Int64 := (y2 ||| (1 <<< (Int32.toInt64 y4 &&& 63))); eX4_ways_29 n v4 (y4 + 1) z) := rfl
def rm_X4_ways : Room := { frames := 4, cells := 0, slots := 0, locals := 92 }
noncomputable def f_X4_ways (as : List mm_V) (z : mm_S) (o : mm_R) : Prop := (as.map mm_cat).sum ≤ 5 ∧ ∃ n, go_X4_ways n 0 (mm_ar 0 as) [] z = some o
theorem M_X4_ways : mm_M lyTM lyFA lenM snM 22 22 17 roM rsA nfA nmA [] yX4_ways cX4_ways 5 (some .long) rm_X4_ways f_X4_ways :=
  mm_met (rt := 2) (by decide +kernel) ⟨fun h => absurd h (by decide), fun h => absurd h (by decide), fun h => rfl, fun h => absurd h (by decide)⟩ tbX4_ways_ok hsnM okFX4 okLX4 (fun _ h => absurd h List.not_mem_nil) (fun _ _ _ _ => rfl) (fun _ _ _ _ => rfl) (List.forall_mem_cons.mpr ⟨sV_X4_finding (Or.inl lk_X4_124) rfl ⟨by decide, by decide⟩, List.forall_mem_cons.mpr ⟨sV_X4_dryNow (Or.inl lk_X4_279) rfl ⟨by decide, by decide⟩, List.forall_mem_cons.mpr ⟨sV_X4_findCosts (Or.inl lk_X4_285) rfl ⟨by decide, by decide⟩, fun _ h => absurd h List.not_mem_nil⟩⟩⟩) (List.forall_mem_cons.mpr ⟨sS_X4_isCell (Or.inl lk_X4_114) rfl ⟨by decide, by decide⟩, fun _ h => absurd h List.not_mem_nil⟩)
noncomputable def lX4_ways_29 (s : Int64 × Int32 × mm_S) : Option ((Int64 × Int32 × mm_S) ⊕ (Int64 × mm_S)) := if 36 ≤ s.2.1 then some (.inr (s.1, s.2.2)) else if s.2.1 < 0 ∨ 36 ≤ Int32.toNatClampNeg s.2.1 then none else if 10000 ≤ (s.2.2.1 12 (Int32.toNatClampNeg s.2.1)) then some (.inl ((s.1 ||| 0), (s.2.1 + 1), s.2.2)) else let v4 : Int64 := (s.1 ||| (1 <<< (Int32.toInt64 s.2.1 &&& 63))); some (.inl (v4, (s.2.1 + 1), s.2.2))
noncomputable def sX4_ways_29 (y2 : Int64) (y4 : Int32) (z : mm_S) : Option (Int64 × mm_S) := mm_wh (lX4_ways_29 ) mm_fu (y2, y4, z)
theorem kX4_ways_29 (y2 : Int64) (y4 : Int32) (z : mm_S) (oo : mm_R) : mm_Xs (sX4_ways_29 y2 y4 z) (fun v => (fun v : Int64 × mm_S => ((some (mm_J v.1), v.2) : mm_R)) v = oo) (fun n => eX4_ways_29 n y2 y4 z) oo :=
  xs_wh (stp := lX4_ways_29 ) (o := oo) (E := (fun (s : Int64 × Int32 × mm_S) n => eX4_ways_29 n s.1 s.2.1 s.2.2)) (C := (fun v => (fun v : Int64 × mm_S => ((some (mm_J v.1), v.2) : mm_R)) v = oo)) (fun s => xs_row (fun n => qX4_ways_29 n s.1 s.2.1 s.2.2) (xs_if (xs_v fun hc => ⟨0, congrArg some hc⟩) (xs_if xs_n (xs_if (xs_v fun hc => hc) (xs_let ((s.1 ||| (1 <<< (Int32.toInt64 s.2.1 &&& 63)))) (S := fun (v4 : Int64) => (some (.inl (v4, (s.2.1 + 1), s.2.2)) : Option ((Int64 × Int32 × mm_S) ⊕ (Int64 × mm_S)))) (T := fun (v4 : Int64) n => eX4_ways_29 n v4 (s.2.1 + 1) s.2.2) (fun v4 => (xs_v fun hc => hc))))))) mm_fu (y2, y4, z)
noncomputable def sX4_ways_24  (z : mm_S) : Option (Int64 × mm_S) := (sX4_ways_29 0 0 z)
theorem kX4_ways_24  (z : mm_S) (oo : mm_R) : mm_Xs (sX4_ways_24  z) (fun v => (fun v : Int64 × mm_S => ((some (mm_J v.1), v.2) : mm_R)) v = oo) (fun n => eX4_ways_24 n  z) oo :=
  xs_row (fun n => qX4_ways_24 n z) (kX4_ways_29 0 0 z oo)
noncomputable def sX4_ways_15 (y1 : Int32) (z : mm_S) : Option (Int64 × mm_S) := (sX4_dryNow  z).bind fun q2 => (sX4_findCosts y1 q2.1 q2.2).bind fun q3 => (sX4_ways_24 q3)
theorem kX4_ways_15 (y1 : Int32) (z : mm_S) (oo : mm_R) : mm_Xs (sX4_ways_15 y1 z) (fun v => (fun v : Int64 × mm_S => ((some (mm_J v.1), v.2) : mm_R)) v = oo) (fun n => eX4_ways_15 n y1 z) oo :=
  xs_row (fun n => qX4_ways_15 n y1 z) (xs_bd fun q2 => (xs_bd fun q3 => (kX4_ways_24 q3 oo)))
noncomputable def sX4_ways_0 (x1 : Int32) (z : mm_S) : Option (Int64 × mm_S) := if (pX4_isCell x1) = 0 then (sX4_finding (-1000001) z).bind fun q1 => some ((Int32.toInt64 q1.1), q1.2) else (sX4_ways_15 x1 z)
theorem kX4_ways_0 (x1 : Int32) (z : mm_S) (oo : mm_R) : mm_Xs (sX4_ways_0 x1 z) (fun v => (fun v : Int64 × mm_S => ((some (mm_J v.1), v.2) : mm_R)) v = oo) (fun n => eX4_ways_0 n x1 z) oo :=
  xs_row (fun n => qX4_ways_0 n x1 z) (xs_if (xs_bd fun q1 => (xs_v fun hc => ⟨0, congrArg some hc⟩)) (kX4_ways_15 x1 z oo))
noncomputable def sX4_ways (x1 : Int32) (z : mm_S) : Option (Int64 × mm_S) := sX4_ways_0 x1 z
theorem sp_X4_ways (x1 : Int32) (z : mm_S) (hk : ∀ v ∈ [mm_P 4 0, mm_I x1], mm_ok 22 lyTM 22 17 v) (q : Int64 × mm_S) (hq : sX4_ways x1 z = some q) : f_X4_ways [mm_P 4 0, mm_I x1] z (some (mm_J q.1), q.2) := ⟨Nat.le_of_ble_eq_true rfl, kX4_ways_0 x1 z _ q hq rfl⟩
noncomputable def clo_X4_ways (as : List mm_V) (z : mm_S) (kk : Option mm_V → mm_S → Option mm_R) : Option mm_R := mm_pr as fun t o0 as => bif Nat.beq t 4 then mm_pi as fun a1 as => (match as with | [] => (sX4_ways a1 z).bind fun q => kk (some (mm_J q.1)) q.2 | _ => none) else none
theorem cs_X4_ways : mm_cs lyTM 22 22 17 f_X4_ways clo_X4_ways := by
  intro as z K o hk h
  obtain ⟨t0, o0, r0, rfl, g0⟩ := mm_pr_e h
  obtain ⟨b0, k0⟩ := mm_bif_e g0
  obtain rfl := Nat.eq_of_beq_eq_true b0
  obtain ⟨a1, r1, rfl, g1⟩ := mm_pi_e k0
  rcases r1 with _ | ⟨u, w⟩
  rotate_left
  · cases g1
  obtain rfl : o0 = 0 := ok4 (hk (mm_P 4 o0) (by simp))
  obtain ⟨q, hq, hq2⟩ := Option.bind_eq_some_iff.mp g1
  exact ⟨_, _, sp_X4_ways a1 z hk q hq, fun v hv => by cases hv; exact Or.inr ⟨_, rfl⟩, hq2⟩
theorem sV_X4_ways {own : String} {R : Room} {ar : Nat → Nat} {k : Nat} (hlink : Cond.methodLink own k yX4_ways ∈ lw_gd ∨ ∃ host, (own, k, yX4_ways, host) ∈ nmA) (har : ar k = 2) (hr : 5 ≤ R.frames ∧ 116 ≤ R.locals) : mm_okV lyTM lyFA lenM snM 22 22 17 roM rsA nfA nmA [] own R ar k clo_X4_ways := by
  refine ⟨yX4_ways, cX4_ways, 5, some .long, rm_X4_ways, f_X4_ways, 4, 1, (RX4, TX4, 36), M_X4_ways, cs_X4_ways, hlink, ⟨wv_X4_ways, wz_X4_ways, wi_X4_ways, wc_X4_ways⟩, ⟨by decide +kernel, by decide +kernel, by decide +kernel⟩, har, ⟨rfl, rfl, by decide⟩, ?_, ⟨rfl, rfl, hr.1, hr.2⟩⟩
  intro as z K o h
  obtain ⟨t0, o0, r0, rfl, g0⟩ := mm_pr_e h
  obtain ⟨b0, k0⟩ := mm_bif_e g0
  obtain rfl := Nat.eq_of_beq_eq_true b0
  exact ⟨_, _, rfl⟩
-- X4_drawn
noncomputable def lV_X4_drawn : List (Nat × (List mm_V → mm_S → (Option mm_V → mm_S → Option mm_R) → Option mm_R)) := []
noncomputable def mV_X4_drawn (k : Nat) (as : List mm_V) (z : mm_S) (kk : Option mm_V → mm_S → Option mm_R) : Option mm_R := match mm_at lV_X4_drawn k with
  | some f => f as z kk
  | none => none
noncomputable def arV_X4_drawn (k : Nat) : Nat := (mm_at [] k).getD 0
noncomputable def lS_X4_drawn : List (Nat × (List mm_V → mm_S → (Option mm_V → mm_S → Option mm_R) → Option mm_R)) := []
noncomputable def mS_X4_drawn (k : Nat) (as : List mm_V) (z : mm_S) (kk : Option mm_V → mm_S → Option mm_R) : Option mm_R := match mm_at lS_X4_drawn k with
  | some f => f as z kk
  | none => none
noncomputable def arS_X4_drawn (k : Nat) : Nat := (mm_at [] k).getD 0
def ct_X4_drawn : List (Nat × List Nat) := [(20, [0, 1])]
noncomputable def go_X4_drawn : Nat → mm_K := mm_go (fun k => mm_at flX4 k) (fun k => mm_at clX4 k) (fun k => mm_at glX4 k) arV_X4_drawn arS_X4_drawn mV_X4_drawn mS_X4_drawn lenM roM snM 2 0 tbX4_drawn ct_X4_drawn
noncomputable def eX4_drawn_0 (n : Nat)  (x1 : Int32) (z : mm_S) : Option mm_R := go_X4_drawn n 0 [(0, mm_P 4 0), (1, mm_I x1)] [] z
noncomputable def eX4_drawn_20 (n : Nat)  (y1 : Int32) (z : mm_S) : Option mm_R := go_X4_drawn n 20 [(0, mm_P 4 0), (1, mm_I y1)] [] z
set_option maxRecDepth 100000 in
theorem qX4_drawn_0 (n : Nat)  (x1 : Int32) (z : mm_S) : eX4_drawn_0 (n + 1) x1 z = (eX4_drawn_20 n x1 ((mm_ui z.1 1 4 (((z.1 1 4) * 1103515245) + 12345)), z.2)) := rfl
set_option maxRecDepth 100000 in
theorem qX4_drawn_20 (n : Nat)  (y1 : Int32) (z : mm_S) : eX4_drawn_20 (n + 1) y1 z = (if y1 = 0 then none else some (some (mm_I ((Int32.toUInt32 (z.1 1 4) >>> (Int32.toUInt32 8 &&& Int32.toUInt32 31)).toInt32 - (Int32.toUInt32 (z.1 1 4) >>> (Int32.toUInt32 8 &&& Int32.toUInt32 31)).toInt32 / y1 * y1)), z)) := rfl
def rm_X4_drawn : Room := { frames := 0, cells := 0, slots := 0, locals := 0 }
noncomputable def f_X4_drawn (as : List mm_V) (z : mm_S) (o : mm_R) : Prop := (as.map mm_cat).sum ≤ 2 ∧ ∃ n, go_X4_drawn n 0 (mm_ar 0 as) [] z = some o
theorem M_X4_drawn : mm_M lyTM lyFA lenM snM 22 22 17 roM rsA nfA nmA [] yX4_drawn cX4_drawn 2 (some .int) rm_X4_drawn f_X4_drawn :=
  mm_met (rt := 0) (by decide +kernel) ⟨fun h => rfl, fun h => absurd h (by decide), fun h => absurd h (by decide), fun h => absurd h (by decide)⟩ tbX4_drawn_ok hsnM okFX4 okLX4 (fun _ h => absurd h List.not_mem_nil) (fun _ _ _ _ => rfl) (fun _ _ _ _ => rfl) (fun _ h => absurd h List.not_mem_nil) (fun _ h => absurd h List.not_mem_nil)
noncomputable def sX4_drawn_20 (y1 : Int32) (z : mm_S) : Option (Int32 × mm_S) := if y1 = 0 then none else some (((Int32.toUInt32 (z.1 1 4) >>> (Int32.toUInt32 8 &&& Int32.toUInt32 31)).toInt32 - (Int32.toUInt32 (z.1 1 4) >>> (Int32.toUInt32 8 &&& Int32.toUInt32 31)).toInt32 / y1 * y1), z)
theorem kX4_drawn_20 (y1 : Int32) (z : mm_S) (oo : mm_R) : mm_Xs (sX4_drawn_20 y1 z) (fun v => (fun v : Int32 × mm_S => ((some (mm_I v.1), v.2) : mm_R)) v = oo) (fun n => eX4_drawn_20 n y1 z) oo :=
  xs_row (fun n => qX4_drawn_20 n y1 z) (xs_if xs_n (xs_v fun hc => ⟨0, congrArg some hc⟩))
noncomputable def sX4_drawn_0 (x1 : Int32) (z : mm_S) : Option (Int32 × mm_S) := (sX4_drawn_20 x1 ((mm_ui z.1 1 4 (((z.1 1 4) * 1103515245) + 12345)), z.2))
theorem kX4_drawn_0 (x1 : Int32) (z : mm_S) (oo : mm_R) : mm_Xs (sX4_drawn_0 x1 z) (fun v => (fun v : Int32 × mm_S => ((some (mm_I v.1), v.2) : mm_R)) v = oo) (fun n => eX4_drawn_0 n x1 z) oo :=
  xs_row (fun n => qX4_drawn_0 n x1 z) (kX4_drawn_20 x1 ((mm_ui z.1 1 4 (((z.1 1 4) * 1103515245) + 12345)), z.2) oo)
noncomputable def sX4_drawn (x1 : Int32) (z : mm_S) : Option (Int32 × mm_S) := sX4_drawn_0 x1 z
theorem sp_X4_drawn (x1 : Int32) (z : mm_S) (hk : ∀ v ∈ [mm_P 4 0, mm_I x1], mm_ok 22 lyTM 22 17 v) (q : Int32 × mm_S) (hq : sX4_drawn x1 z = some q) : f_X4_drawn [mm_P 4 0, mm_I x1] z (some (mm_I q.1), q.2) := ⟨Nat.le_of_ble_eq_true rfl, kX4_drawn_0 x1 z _ q hq rfl⟩
noncomputable def clo_X4_drawn (as : List mm_V) (z : mm_S) (kk : Option mm_V → mm_S → Option mm_R) : Option mm_R := mm_pr as fun t o0 as => bif Nat.beq t 4 then mm_pi as fun a1 as => (match as with | [] => (sX4_drawn a1 z).bind fun q => kk (some (mm_I q.1)) q.2 | _ => none) else none
theorem cs_X4_drawn : mm_cs lyTM 22 22 17 f_X4_drawn clo_X4_drawn := by
  intro as z K o hk h
  obtain ⟨t0, o0, r0, rfl, g0⟩ := mm_pr_e h
  obtain ⟨b0, k0⟩ := mm_bif_e g0
  obtain rfl := Nat.eq_of_beq_eq_true b0
  obtain ⟨a1, r1, rfl, g1⟩ := mm_pi_e k0
  rcases r1 with _ | ⟨u, w⟩
  rotate_left
  · cases g1
  obtain rfl : o0 = 0 := ok4 (hk (mm_P 4 o0) (by simp))
  obtain ⟨q, hq, hq2⟩ := Option.bind_eq_some_iff.mp g1
  exact ⟨_, _, sp_X4_drawn a1 z hk q hq, fun v hv => by cases hv; exact Or.inl ⟨_, rfl⟩, hq2⟩
theorem sV_X4_drawn {own : String} {R : Room} {ar : Nat → Nat} {k : Nat} (hlink : Cond.methodLink own k yX4_drawn ∈ lw_gd ∨ ∃ host, (own, k, yX4_drawn, host) ∈ nmA) (har : ar k = 2) (hr : 1 ≤ R.frames ∧ 21 ≤ R.locals) : mm_okV lyTM lyFA lenM snM 22 22 17 roM rsA nfA nmA [] own R ar k clo_X4_drawn := by
  refine ⟨yX4_drawn, cX4_drawn, 2, some .int, rm_X4_drawn, f_X4_drawn, 4, 1, (RX4, TX4, 36), M_X4_drawn, cs_X4_drawn, hlink, ⟨wv_X4_drawn, wz_X4_drawn, wi_X4_drawn, wc_X4_drawn⟩, ⟨by decide +kernel, by decide +kernel, by decide +kernel⟩, har, ⟨rfl, rfl, by decide⟩, ?_, ⟨rfl, rfl, hr.1, hr.2⟩⟩
  intro as z K o h
  obtain ⟨t0, o0, r0, rfl, g0⟩ := mm_pr_e h
  obtain ⟨b0, k0⟩ := mm_bif_e g0
  obtain rfl := Nat.eq_of_beq_eq_true b0
  exact ⟨_, _, rfl⟩
-- X4_yearsGo
noncomputable def lV_X4_yearsGo : List (Nat × (List mm_V → mm_S → (Option mm_V → mm_S → Option mm_R) → Option mm_R)) := [(161, clo_X4_cellsOf), (293, clo_X4_drawn)]
noncomputable def mV_X4_yearsGo (k : Nat) (as : List mm_V) (z : mm_S) (kk : Option mm_V → mm_S → Option mm_R) : Option mm_R := match mm_at lV_X4_yearsGo k with
  | some f => f as z kk
  | none => none
noncomputable def arV_X4_yearsGo (k : Nat) : Nat := (mm_at [(161, 2), (293, 2)] k).getD 0
noncomputable def lS_X4_yearsGo : List (Nat × (List mm_V → mm_S → (Option mm_V → mm_S → Option mm_R) → Option mm_R)) := [(232, clo_X4_bits)]
noncomputable def mS_X4_yearsGo (k : Nat) (as : List mm_V) (z : mm_S) (kk : Option mm_V → mm_S → Option mm_R) : Option mm_R := match mm_at lS_X4_yearsGo k with
  | some f => f as z kk
  | none => none
noncomputable def arS_X4_yearsGo (k : Nat) : Nat := (mm_at [(232, 1)] k).getD 0
def ct_X4_yearsGo : List (Nat × List Nat) := [(2, [0, 1, 2]), (14, [0, 1, 2, 3]), (28, [0, 1, 2]), (38, [0, 1, 2])]
noncomputable def go_X4_yearsGo : Nat → mm_K := mm_go (fun k => mm_at flX4 k) (fun k => mm_at clX4 k) (fun k => mm_at glX4 k) arV_X4_yearsGo arS_X4_yearsGo mV_X4_yearsGo mS_X4_yearsGo lenM roM snM 4 0 tbX4_yearsGo ct_X4_yearsGo
noncomputable def eX4_yearsGo_0 (n : Nat)  (x1 : Int32) (z : mm_S) : Option mm_R := go_X4_yearsGo n 0 [(0, mm_P 4 0), (1, mm_I x1)] [] z
noncomputable def eX4_yearsGo_2 (n : Nat)  (y1 : Int32) (y2 : Int32) (z : mm_S) : Option mm_R := go_X4_yearsGo n 2 [(0, mm_P 4 0), (1, mm_I y1), (2, mm_I y2)] [] z
noncomputable def eX4_yearsGo_14 (n : Nat)  (y1 : Int32) (y2 : Int32) (y3 : Int32) (z : mm_S) : Option mm_R := go_X4_yearsGo n 14 [(0, mm_P 4 0), (1, mm_I y1), (2, mm_I y2), (3, mm_I y3)] [] z
noncomputable def eX4_yearsGo_28 (n : Nat)  (y1 : Int32) (y2 : Int32) (z : mm_S) : Option mm_R := go_X4_yearsGo n 28 [(0, mm_P 4 0), (1, mm_I y1), (2, mm_I y2)] [] z
noncomputable def eX4_yearsGo_38 (n : Nat)  (y1 : Int32) (y2 : Int32) (z : mm_S) : Option mm_R := go_X4_yearsGo n 38 [(0, mm_P 4 0), (1, mm_I y1), (2, mm_I y2)] [] z
set_option maxRecDepth 100000 in
theorem qX4_yearsGo_0 (n : Nat)  (x1 : Int32) (z : mm_S) : eX4_yearsGo_0 (n + 1) x1 z = (eX4_yearsGo_2 n x1 0 z) := rfl
set_option maxRecDepth 100000 in
theorem qX4_yearsGo_2 (n : Nat)  (y1 : Int32) (y2 : Int32) (z : mm_S) : eX4_yearsGo_2 (n + 1) y1 y2 z = (if y1 ≤ y2 then (sX4_cellsOf 2 z).bind fun q1 => (sX4_bits q1.1 q1.2).bind fun q2 => some (some (mm_I q2.1), q2.2) else (sX4_drawn 36 z).bind fun q3 => eX4_yearsGo_14 n y1 y2 q3.1 q3.2) := rfl
set_option maxRecDepth 100000 in
theorem qX4_yearsGo_14 (n : Nat)  (y1 : Int32) (y2 : Int32) (y3 : Int32) (z : mm_S) : eX4_yearsGo_14 (n + 1) y1 y2 y3 z = ((sX4_drawn 5 z).bind fun q4 => if (15 + y3) < 0 ∨ 97 ≤ Int32.toNatClampNeg (15 + y3) then none else eX4_yearsGo_28 n y1 y2 ((mm_ui q4.2.1 1 (Int32.toNatClampNeg (15 + y3)) q4.1), q4.2.2)) := rfl
set_option maxRecDepth 100000 in
theorem qX4_yearsGo_28 (n : Nat)  (y1 : Int32) (y2 : Int32) (z : mm_S) : eX4_yearsGo_28 (n + 1) y1 y2 z = (eX4_yearsGo_38 n y1 y2 ((mm_ui z.1 1 0 ((z.1 1 0) + 1)), z.2)) := rfl
set_option maxRecDepth 100000 in
theorem qX4_yearsGo_38 (n : Nat)  (y1 : Int32) (y2 : Int32) (z : mm_S) : eX4_yearsGo_38 (n + 1) y1 y2 z = (eX4_yearsGo_2 n y1 (y2 + 1) z) := rfl
def rm_X4_yearsGo : Room := { frames := 2, cells := 0, slots := 0, locals := 45 }
noncomputable def f_X4_yearsGo (as : List mm_V) (z : mm_S) (o : mm_R) : Prop := (as.map mm_cat).sum ≤ 4 ∧ ∃ n, go_X4_yearsGo n 0 (mm_ar 0 as) [] z = some o
theorem M_X4_yearsGo : mm_M lyTM lyFA lenM snM 22 22 17 roM rsA nfA nmA [] yX4_yearsGo cX4_yearsGo 4 (some .int) rm_X4_yearsGo f_X4_yearsGo :=
  mm_met (rt := 0) (by decide +kernel) ⟨fun h => rfl, fun h => absurd h (by decide), fun h => absurd h (by decide), fun h => absurd h (by decide)⟩ tbX4_yearsGo_ok hsnM okFX4 okLX4 (fun _ h => absurd h List.not_mem_nil) (fun _ _ _ _ => rfl) (fun _ _ _ _ => rfl) (List.forall_mem_cons.mpr ⟨sV_X4_cellsOf (Or.inl lk_X4_161) rfl ⟨by decide, by decide⟩, List.forall_mem_cons.mpr ⟨sV_X4_drawn (Or.inl lk_X4_293) rfl ⟨by decide, by decide⟩, fun _ h => absurd h List.not_mem_nil⟩⟩) (List.forall_mem_cons.mpr ⟨sS_X4_bits (Or.inl lk_X4_232) rfl ⟨by decide, by decide⟩, fun _ h => absurd h List.not_mem_nil⟩)
noncomputable def sX4_yearsGo_38 (y1 : Int32) (y2 : Int32) (z : mm_S) : Option ((Int32 × Int32 × mm_S) ⊕ (Int32 × mm_S)) := some (.inl (y1, (y2 + 1), z))
theorem kX4_yearsGo_38 (y1 : Int32) (y2 : Int32) (z : mm_S) (oo : mm_R) : mm_Xs (sX4_yearsGo_38 y1 y2 z) (mm_mt (fun x : Int32 × Int32 × mm_S => ∃ n, eX4_yearsGo_2 n x.1 x.2.1 x.2.2 = some oo) (fun v => (fun v : Int32 × mm_S => ((some (mm_I v.1), v.2) : mm_R)) v = oo)) (fun n => eX4_yearsGo_38 n y1 y2 z) oo :=
  xs_row (fun n => qX4_yearsGo_38 n y1 y2 z) (xs_v fun hc => hc)
noncomputable def sX4_yearsGo_28 (y1 : Int32) (y2 : Int32) (z : mm_S) : Option ((Int32 × Int32 × mm_S) ⊕ (Int32 × mm_S)) := (sX4_yearsGo_38 y1 y2 ((mm_ui z.1 1 0 ((z.1 1 0) + 1)), z.2))
theorem kX4_yearsGo_28 (y1 : Int32) (y2 : Int32) (z : mm_S) (oo : mm_R) : mm_Xs (sX4_yearsGo_28 y1 y2 z) (mm_mt (fun x : Int32 × Int32 × mm_S => ∃ n, eX4_yearsGo_2 n x.1 x.2.1 x.2.2 = some oo) (fun v => (fun v : Int32 × mm_S => ((some (mm_I v.1), v.2) : mm_R)) v = oo)) (fun n => eX4_yearsGo_28 n y1 y2 z) oo :=
  xs_row (fun n => qX4_yearsGo_28 n y1 y2 z) (kX4_yearsGo_38 y1 y2 ((mm_ui z.1 1 0 ((z.1 1 0) + 1)), z.2) oo)
noncomputable def sX4_yearsGo_14 (y1 : Int32) (y2 : Int32) (y3 : Int32) (z : mm_S) : Option ((Int32 × Int32 × mm_S) ⊕ (Int32 × mm_S)) := (sX4_drawn 5 z).bind fun q4 => if (15 + y3) < 0 ∨ 97 ≤ Int32.toNatClampNeg (15 + y3) then none else (sX4_yearsGo_28 y1 y2 ((mm_ui q4.2.1 1 (Int32.toNatClampNeg (15 + y3)) q4.1), q4.2.2))
theorem kX4_yearsGo_14 (y1 : Int32) (y2 : Int32) (y3 : Int32) (z : mm_S) (oo : mm_R) : mm_Xs (sX4_yearsGo_14 y1 y2 y3 z) (mm_mt (fun x : Int32 × Int32 × mm_S => ∃ n, eX4_yearsGo_2 n x.1 x.2.1 x.2.2 = some oo) (fun v => (fun v : Int32 × mm_S => ((some (mm_I v.1), v.2) : mm_R)) v = oo)) (fun n => eX4_yearsGo_14 n y1 y2 y3 z) oo :=
  xs_row (fun n => qX4_yearsGo_14 n y1 y2 y3 z) (xs_bd fun q4 => (xs_if xs_n (kX4_yearsGo_28 y1 y2 ((mm_ui q4.2.1 1 (Int32.toNatClampNeg (15 + y3)) q4.1), q4.2.2) oo)))
noncomputable def lX4_yearsGo_2 (s : Int32 × Int32 × mm_S) : Option ((Int32 × Int32 × mm_S) ⊕ (Int32 × mm_S)) := if s.1 ≤ s.2.1 then (sX4_cellsOf 2 s.2.2).bind fun q1 => (sX4_bits q1.1 q1.2).bind fun q2 => some (.inr (q2.1, q2.2)) else (sX4_drawn 36 s.2.2).bind fun q3 => (sX4_yearsGo_14 s.1 s.2.1 q3.1 q3.2)
noncomputable def sX4_yearsGo_2 (y1 : Int32) (y2 : Int32) (z : mm_S) : Option (Int32 × mm_S) := mm_wh (lX4_yearsGo_2 ) mm_fu (y1, y2, z)
theorem kX4_yearsGo_2 (y1 : Int32) (y2 : Int32) (z : mm_S) (oo : mm_R) : mm_Xs (sX4_yearsGo_2 y1 y2 z) (fun v => (fun v : Int32 × mm_S => ((some (mm_I v.1), v.2) : mm_R)) v = oo) (fun n => eX4_yearsGo_2 n y1 y2 z) oo :=
  xs_wh (stp := lX4_yearsGo_2 ) (o := oo) (E := (fun (s : Int32 × Int32 × mm_S) n => eX4_yearsGo_2 n s.1 s.2.1 s.2.2)) (C := (fun v => (fun v : Int32 × mm_S => ((some (mm_I v.1), v.2) : mm_R)) v = oo)) (fun s => xs_row (fun n => qX4_yearsGo_2 n s.1 s.2.1 s.2.2) (xs_if (xs_bd fun q1 => (xs_bd fun q2 => (xs_v fun hc => ⟨0, congrArg some hc⟩))) (xs_bd fun q3 => (kX4_yearsGo_14 s.1 s.2.1 q3.1 q3.2 oo)))) mm_fu (y1, y2, z)
noncomputable def sX4_yearsGo_0 (x1 : Int32) (z : mm_S) : Option (Int32 × mm_S) := (sX4_yearsGo_2 x1 0 z)
theorem kX4_yearsGo_0 (x1 : Int32) (z : mm_S) (oo : mm_R) : mm_Xs (sX4_yearsGo_0 x1 z) (fun v => (fun v : Int32 × mm_S => ((some (mm_I v.1), v.2) : mm_R)) v = oo) (fun n => eX4_yearsGo_0 n x1 z) oo :=
  xs_row (fun n => qX4_yearsGo_0 n x1 z) (kX4_yearsGo_2 x1 0 z oo)
noncomputable def sX4_yearsGo (x1 : Int32) (z : mm_S) : Option (Int32 × mm_S) := sX4_yearsGo_0 x1 z
theorem sp_X4_yearsGo (x1 : Int32) (z : mm_S) (hk : ∀ v ∈ [mm_P 4 0, mm_I x1], mm_ok 22 lyTM 22 17 v) (q : Int32 × mm_S) (hq : sX4_yearsGo x1 z = some q) : f_X4_yearsGo [mm_P 4 0, mm_I x1] z (some (mm_I q.1), q.2) := ⟨Nat.le_of_ble_eq_true rfl, kX4_yearsGo_0 x1 z _ q hq rfl⟩
noncomputable def clo_X4_yearsGo (as : List mm_V) (z : mm_S) (kk : Option mm_V → mm_S → Option mm_R) : Option mm_R := mm_pr as fun t o0 as => bif Nat.beq t 4 then mm_pi as fun a1 as => (match as with | [] => (sX4_yearsGo a1 z).bind fun q => kk (some (mm_I q.1)) q.2 | _ => none) else none
theorem cs_X4_yearsGo : mm_cs lyTM 22 22 17 f_X4_yearsGo clo_X4_yearsGo := by
  intro as z K o hk h
  obtain ⟨t0, o0, r0, rfl, g0⟩ := mm_pr_e h
  obtain ⟨b0, k0⟩ := mm_bif_e g0
  obtain rfl := Nat.eq_of_beq_eq_true b0
  obtain ⟨a1, r1, rfl, g1⟩ := mm_pi_e k0
  rcases r1 with _ | ⟨u, w⟩
  rotate_left
  · cases g1
  obtain rfl : o0 = 0 := ok4 (hk (mm_P 4 o0) (by simp))
  obtain ⟨q, hq, hq2⟩ := Option.bind_eq_some_iff.mp g1
  exact ⟨_, _, sp_X4_yearsGo a1 z hk q hq, fun v hv => by cases hv; exact Or.inl ⟨_, rfl⟩, hq2⟩
theorem sV_X4_yearsGo {own : String} {R : Room} {ar : Nat → Nat} {k : Nat} (hlink : Cond.methodLink own k yX4_yearsGo ∈ lw_gd ∨ ∃ host, (own, k, yX4_yearsGo, host) ∈ nmA) (har : ar k = 2) (hr : 3 ≤ R.frames ∧ 68 ≤ R.locals) : mm_okV lyTM lyFA lenM snM 22 22 17 roM rsA nfA nmA [] own R ar k clo_X4_yearsGo := by
  refine ⟨yX4_yearsGo, cX4_yearsGo, 4, some .int, rm_X4_yearsGo, f_X4_yearsGo, 4, 1, (RX4, TX4, 36), M_X4_yearsGo, cs_X4_yearsGo, hlink, ⟨wv_X4_yearsGo, wz_X4_yearsGo, wi_X4_yearsGo, wc_X4_yearsGo⟩, ⟨by decide +kernel, by decide +kernel, by decide +kernel⟩, har, ⟨rfl, rfl, by decide⟩, ?_, ⟨rfl, rfl, hr.1, hr.2⟩⟩
  intro as z K o h
  obtain ⟨t0, o0, r0, rfl, g0⟩ := mm_pr_e h
  obtain ⟨b0, k0⟩ := mm_bif_e g0
  obtain rfl := Nat.eq_of_beq_eq_true b0
  exact ⟨_, _, rfl⟩
-- X4_isTooLate
noncomputable def lV_X4_isTooLate : List (Nat × (List mm_V → mm_S → (Option mm_V → mm_S → Option mm_R) → Option mm_R)) := []
noncomputable def mV_X4_isTooLate (k : Nat) (as : List mm_V) (z : mm_S) (kk : Option mm_V → mm_S → Option mm_R) : Option mm_R := match mm_at lV_X4_isTooLate k with
  | some f => f as z kk
  | none => none
noncomputable def arV_X4_isTooLate (k : Nat) : Nat := (mm_at [] k).getD 0
noncomputable def lS_X4_isTooLate : List (Nat × (List mm_V → mm_S → (Option mm_V → mm_S → Option mm_R) → Option mm_R)) := []
noncomputable def mS_X4_isTooLate (k : Nat) (as : List mm_V) (z : mm_S) (kk : Option mm_V → mm_S → Option mm_R) : Option mm_R := match mm_at lS_X4_isTooLate k with
  | some f => f as z kk
  | none => none
noncomputable def arS_X4_isTooLate (k : Nat) : Nat := (mm_at [] k).getD 0
def ct_X4_isTooLate : List (Nat × List Nat) := []
noncomputable def go_X4_isTooLate : Nat → mm_K := mm_go (fun k => mm_at flX4 k) (fun k => mm_at clX4 k) (fun k => mm_at glX4 k) arV_X4_isTooLate arS_X4_isTooLate mV_X4_isTooLate mS_X4_isTooLate lenM roM snM 2 1 tbX4_isTooLate ct_X4_isTooLate
noncomputable def eX4_isTooLate_0 (n : Nat)  (x1 : Int32) (z : mm_S) : Option mm_R := go_X4_isTooLate n 0 [(0, mm_P 4 0), (1, mm_I x1)] [] z
set_option maxRecDepth 100000 in
theorem qX4_isTooLate_0 (n : Nat)  (x1 : Int32) (z : mm_S) : eX4_isTooLate_0 (n + 1) x1 z = (if ((z.1 1 0) + x1) ≤ 999 then some (some (mm_I 0), z) else some (some (mm_I 1), z)) := rfl
def rm_X4_isTooLate : Room := { frames := 0, cells := 0, slots := 0, locals := 0 }
noncomputable def f_X4_isTooLate (as : List mm_V) (z : mm_S) (o : mm_R) : Prop := (as.map mm_cat).sum ≤ 2 ∧ ∃ n, go_X4_isTooLate n 0 (mm_ar 0 as) [] z = some o
theorem M_X4_isTooLate : mm_M lyTM lyFA lenM snM 22 22 17 roM rsA nfA nmA [] yX4_isTooLate cX4_isTooLate 2 (some .boolean) rm_X4_isTooLate f_X4_isTooLate :=
  mm_met (rt := 1) (by decide +kernel) ⟨fun h => absurd h (by decide), fun h => rfl, fun h => absurd h (by decide), fun h => absurd h (by decide)⟩ tbX4_isTooLate_ok hsnM okFX4 okLX4 (fun _ h => absurd h List.not_mem_nil) (fun _ _ _ _ => rfl) (fun _ _ _ _ => rfl) (fun _ h => absurd h List.not_mem_nil) (fun _ h => absurd h List.not_mem_nil)
noncomputable def sX4_isTooLate_0 (x1 : Int32) (z : mm_S) : Option (Int32 × mm_S) := if ((z.1 1 0) + x1) ≤ 999 then some (0, z) else some (1, z)
theorem kX4_isTooLate_0 (x1 : Int32) (z : mm_S) (oo : mm_R) : mm_Xs (sX4_isTooLate_0 x1 z) (fun v => (fun v : Int32 × mm_S => ((some (mm_I v.1), v.2) : mm_R)) v = oo) (fun n => eX4_isTooLate_0 n x1 z) oo :=
  xs_row (fun n => qX4_isTooLate_0 n x1 z) (xs_if (xs_v fun hc => ⟨0, congrArg some hc⟩) (xs_v fun hc => ⟨0, congrArg some hc⟩))
noncomputable def sX4_isTooLate (x1 : Int32) (z : mm_S) : Option (Int32 × mm_S) := sX4_isTooLate_0 x1 z
theorem sp_X4_isTooLate (x1 : Int32) (z : mm_S) (hk : ∀ v ∈ [mm_P 4 0, mm_I x1], mm_ok 22 lyTM 22 17 v) (q : Int32 × mm_S) (hq : sX4_isTooLate x1 z = some q) : f_X4_isTooLate [mm_P 4 0, mm_I x1] z (some (mm_I q.1), q.2) := ⟨Nat.le_of_ble_eq_true rfl, kX4_isTooLate_0 x1 z _ q hq rfl⟩
noncomputable def clo_X4_isTooLate (as : List mm_V) (z : mm_S) (kk : Option mm_V → mm_S → Option mm_R) : Option mm_R := mm_pr as fun t o0 as => bif Nat.beq t 4 then mm_pi as fun a1 as => (match as with | [] => (sX4_isTooLate a1 z).bind fun q => kk (some (mm_I q.1)) q.2 | _ => none) else none
theorem cs_X4_isTooLate : mm_cs lyTM 22 22 17 f_X4_isTooLate clo_X4_isTooLate := by
  intro as z K o hk h
  obtain ⟨t0, o0, r0, rfl, g0⟩ := mm_pr_e h
  obtain ⟨b0, k0⟩ := mm_bif_e g0
  obtain rfl := Nat.eq_of_beq_eq_true b0
  obtain ⟨a1, r1, rfl, g1⟩ := mm_pi_e k0
  rcases r1 with _ | ⟨u, w⟩
  rotate_left
  · cases g1
  obtain rfl : o0 = 0 := ok4 (hk (mm_P 4 o0) (by simp))
  obtain ⟨q, hq, hq2⟩ := Option.bind_eq_some_iff.mp g1
  exact ⟨_, _, sp_X4_isTooLate a1 z hk q hq, fun v hv => by cases hv; exact Or.inl ⟨_, rfl⟩, hq2⟩
theorem sV_X4_isTooLate {own : String} {R : Room} {ar : Nat → Nat} {k : Nat} (hlink : Cond.methodLink own k yX4_isTooLate ∈ lw_gd ∨ ∃ host, (own, k, yX4_isTooLate, host) ∈ nmA) (har : ar k = 2) (hr : 1 ≤ R.frames ∧ 21 ≤ R.locals) : mm_okV lyTM lyFA lenM snM 22 22 17 roM rsA nfA nmA [] own R ar k clo_X4_isTooLate := by
  refine ⟨yX4_isTooLate, cX4_isTooLate, 2, some .boolean, rm_X4_isTooLate, f_X4_isTooLate, 4, 1, (RX4, TX4, 36), M_X4_isTooLate, cs_X4_isTooLate, hlink, ⟨wv_X4_isTooLate, wz_X4_isTooLate, wi_X4_isTooLate, wc_X4_isTooLate⟩, ⟨by decide +kernel, by decide +kernel, by decide +kernel⟩, har, ⟨rfl, rfl, by decide⟩, ?_, ⟨rfl, rfl, hr.1, hr.2⟩⟩
  intro as z K o h
  obtain ⟨t0, o0, r0, rfl, g0⟩ := mm_pr_e h
  obtain ⟨b0, k0⟩ := mm_bif_e g0
  obtain rfl := Nat.eq_of_beq_eq_true b0
  exact ⟨_, _, rfl⟩
-- X4_years
noncomputable def lV_X4_years : List (Nat × (List mm_V → mm_S → (Option mm_V → mm_S → Option mm_R) → Option mm_R)) := [(124, clo_X4_finding), (296, clo_X4_isTooLate), (299, clo_X4_yearsGo)]
noncomputable def mV_X4_years (k : Nat) (as : List mm_V) (z : mm_S) (kk : Option mm_V → mm_S → Option mm_R) : Option mm_R := match mm_at lV_X4_years k with
  | some f => f as z kk
  | none => none
noncomputable def arV_X4_years (k : Nat) : Nat := (mm_at [(124, 2), (296, 2), (299, 2)] k).getD 0
noncomputable def lS_X4_years : List (Nat × (List mm_V → mm_S → (Option mm_V → mm_S → Option mm_R) → Option mm_R)) := [(106, clo_X4_within)]
noncomputable def mS_X4_years (k : Nat) (as : List mm_V) (z : mm_S) (kk : Option mm_V → mm_S → Option mm_R) : Option mm_R := match mm_at lS_X4_years k with
  | some f => f as z kk
  | none => none
noncomputable def arS_X4_years (k : Nat) : Nat := (mm_at [(106, 3)] k).getD 0
def ct_X4_years : List (Nat × List Nat) := [(17, [0, 1]), (25, [0]), (34, [0, 1])]
noncomputable def go_X4_years : Nat → mm_K := mm_go (fun k => mm_at flX4 k) (fun k => mm_at clX4 k) (fun k => mm_at glX4 k) arV_X4_years arS_X4_years mV_X4_years mS_X4_years lenM roM snM 2 0 tbX4_years ct_X4_years
noncomputable def eX4_years_0 (n : Nat)  (x1 : Int32) (z : mm_S) : Option mm_R := go_X4_years n 0 [(0, mm_P 4 0), (1, mm_I x1)] [] z
noncomputable def eX4_years_17 (n : Nat)  (y1 : Int32) (z : mm_S) : Option mm_R := go_X4_years n 17 [(0, mm_P 4 0), (1, mm_I y1)] [] z
noncomputable def eX4_years_34 (n : Nat)  (y1 : Int32) (z : mm_S) : Option mm_R := go_X4_years n 34 [(0, mm_P 4 0), (1, mm_I y1)] [] z
noncomputable def eX4_years_25 (n : Nat)  (z : mm_S) : Option mm_R := go_X4_years n 25 [(0, mm_P 4 0)] [] z
set_option maxRecDepth 100000 in
theorem qX4_years_0 (n : Nat)  (x1 : Int32) (z : mm_S) : eX4_years_0 (n + 1) x1 z = (if (pX4_within x1 1 60) = 0 then (sX4_finding (-1000001) z).bind fun q1 => some (some (mm_I q1.1), q1.2) else eX4_years_17 n x1 z) := rfl
set_option maxRecDepth 100000 in
theorem qX4_years_17 (n : Nat)  (y1 : Int32) (z : mm_S) : eX4_years_17 (n + 1) y1 z = ((sX4_isTooLate y1 z).bind fun q2 => if q2.1 = 0 then eX4_years_34 n y1 q2.2 else eX4_years_25 n  q2.2) := rfl
set_option maxRecDepth 100000 in
theorem qX4_years_34 (n : Nat)  (y1 : Int32) (z : mm_S) : eX4_years_34 (n + 1) y1 z = ((sX4_yearsGo y1 z).bind fun q3 => some (some (mm_I q3.1), q3.2)) := rfl
set_option maxRecDepth 100000 in
theorem qX4_years_25 (n : Nat)  (z : mm_S) : eX4_years_25 (n + 1)  z = ((sX4_finding (-1000005) z).bind fun q4 => some (some (mm_I q4.1), q4.2)) := rfl
def rm_X4_years : Room := { frames := 3, cells := 0, slots := 0, locals := 68 }
noncomputable def f_X4_years (as : List mm_V) (z : mm_S) (o : mm_R) : Prop := (as.map mm_cat).sum ≤ 2 ∧ ∃ n, go_X4_years n 0 (mm_ar 0 as) [] z = some o
theorem M_X4_years : mm_M lyTM lyFA lenM snM 22 22 17 roM rsA nfA nmA [] yX4_years cX4_years 2 (some .int) rm_X4_years f_X4_years :=
  mm_met (rt := 0) (by decide +kernel) ⟨fun h => rfl, fun h => absurd h (by decide), fun h => absurd h (by decide), fun h => absurd h (by decide)⟩ tbX4_years_ok hsnM okFX4 okLX4 (fun _ h => absurd h List.not_mem_nil) (fun _ _ _ _ => rfl) (fun _ _ _ _ => rfl) (List.forall_mem_cons.mpr ⟨sV_X4_finding (Or.inl lk_X4_124) rfl ⟨by decide, by decide⟩, List.forall_mem_cons.mpr ⟨sV_X4_isTooLate (Or.inl lk_X4_296) rfl ⟨by decide, by decide⟩, List.forall_mem_cons.mpr ⟨sV_X4_yearsGo (Or.inl lk_X4_299) rfl ⟨by decide, by decide⟩, fun _ h => absurd h List.not_mem_nil⟩⟩⟩) (List.forall_mem_cons.mpr ⟨sS_X4_within (Or.inl lk_X4_106) rfl ⟨by decide, by decide⟩, fun _ h => absurd h List.not_mem_nil⟩)
noncomputable def sX4_years_25  (z : mm_S) : Option (Int32 × mm_S) := (sX4_finding (-1000005) z).bind fun q4 => some (q4.1, q4.2)
theorem kX4_years_25  (z : mm_S) (oo : mm_R) : mm_Xs (sX4_years_25  z) (fun v => (fun v : Int32 × mm_S => ((some (mm_I v.1), v.2) : mm_R)) v = oo) (fun n => eX4_years_25 n  z) oo :=
  xs_row (fun n => qX4_years_25 n z) (xs_bd fun q4 => (xs_v fun hc => ⟨0, congrArg some hc⟩))
noncomputable def sX4_years_34 (y1 : Int32) (z : mm_S) : Option (Int32 × mm_S) := (sX4_yearsGo y1 z).bind fun q3 => some (q3.1, q3.2)
theorem kX4_years_34 (y1 : Int32) (z : mm_S) (oo : mm_R) : mm_Xs (sX4_years_34 y1 z) (fun v => (fun v : Int32 × mm_S => ((some (mm_I v.1), v.2) : mm_R)) v = oo) (fun n => eX4_years_34 n y1 z) oo :=
  xs_row (fun n => qX4_years_34 n y1 z) (xs_bd fun q3 => (xs_v fun hc => ⟨0, congrArg some hc⟩))
noncomputable def sX4_years_17 (y1 : Int32) (z : mm_S) : Option (Int32 × mm_S) := (sX4_isTooLate y1 z).bind fun q2 => if q2.1 = 0 then (sX4_years_34 y1 q2.2) else (sX4_years_25 q2.2)
theorem kX4_years_17 (y1 : Int32) (z : mm_S) (oo : mm_R) : mm_Xs (sX4_years_17 y1 z) (fun v => (fun v : Int32 × mm_S => ((some (mm_I v.1), v.2) : mm_R)) v = oo) (fun n => eX4_years_17 n y1 z) oo :=
  xs_row (fun n => qX4_years_17 n y1 z) (xs_bd fun q2 => (xs_if (kX4_years_34 y1 q2.2 oo) (kX4_years_25 q2.2 oo)))
noncomputable def sX4_years_0 (x1 : Int32) (z : mm_S) : Option (Int32 × mm_S) := if (pX4_within x1 1 60) = 0 then (sX4_finding (-1000001) z).bind fun q1 => some (q1.1, q1.2) else (sX4_years_17 x1 z)
theorem kX4_years_0 (x1 : Int32) (z : mm_S) (oo : mm_R) : mm_Xs (sX4_years_0 x1 z) (fun v => (fun v : Int32 × mm_S => ((some (mm_I v.1), v.2) : mm_R)) v = oo) (fun n => eX4_years_0 n x1 z) oo :=
  xs_row (fun n => qX4_years_0 n x1 z) (xs_if (xs_bd fun q1 => (xs_v fun hc => ⟨0, congrArg some hc⟩)) (kX4_years_17 x1 z oo))
noncomputable def sX4_years (x1 : Int32) (z : mm_S) : Option (Int32 × mm_S) := sX4_years_0 x1 z
theorem sp_X4_years (x1 : Int32) (z : mm_S) (hk : ∀ v ∈ [mm_P 4 0, mm_I x1], mm_ok 22 lyTM 22 17 v) (q : Int32 × mm_S) (hq : sX4_years x1 z = some q) : f_X4_years [mm_P 4 0, mm_I x1] z (some (mm_I q.1), q.2) := ⟨Nat.le_of_ble_eq_true rfl, kX4_years_0 x1 z _ q hq rfl⟩
noncomputable def clo_X4_years (as : List mm_V) (z : mm_S) (kk : Option mm_V → mm_S → Option mm_R) : Option mm_R := mm_pr as fun t o0 as => bif Nat.beq t 4 then mm_pi as fun a1 as => (match as with | [] => (sX4_years a1 z).bind fun q => kk (some (mm_I q.1)) q.2 | _ => none) else none
theorem cs_X4_years : mm_cs lyTM 22 22 17 f_X4_years clo_X4_years := by
  intro as z K o hk h
  obtain ⟨t0, o0, r0, rfl, g0⟩ := mm_pr_e h
  obtain ⟨b0, k0⟩ := mm_bif_e g0
  obtain rfl := Nat.eq_of_beq_eq_true b0
  obtain ⟨a1, r1, rfl, g1⟩ := mm_pi_e k0
  rcases r1 with _ | ⟨u, w⟩
  rotate_left
  · cases g1
  obtain rfl : o0 = 0 := ok4 (hk (mm_P 4 o0) (by simp))
  obtain ⟨q, hq, hq2⟩ := Option.bind_eq_some_iff.mp g1
  exact ⟨_, _, sp_X4_years a1 z hk q hq, fun v hv => by cases hv; exact Or.inl ⟨_, rfl⟩, hq2⟩
theorem sV_X4_years {own : String} {R : Room} {ar : Nat → Nat} {k : Nat} (hlink : Cond.methodLink own k yX4_years ∈ lw_gd ∨ ∃ host, (own, k, yX4_years, host) ∈ nmA) (har : ar k = 2) (hr : 4 ≤ R.frames ∧ 89 ≤ R.locals) : mm_okV lyTM lyFA lenM snM 22 22 17 roM rsA nfA nmA [] own R ar k clo_X4_years := by
  refine ⟨yX4_years, cX4_years, 2, some .int, rm_X4_years, f_X4_years, 4, 1, (RX4, TX4, 36), M_X4_years, cs_X4_years, hlink, ⟨wv_X4_years, wz_X4_years, wi_X4_years, wc_X4_years⟩, ⟨by decide +kernel, by decide +kernel, by decide +kernel⟩, har, ⟨rfl, rfl, by decide⟩, ?_, ⟨rfl, rfl, hr.1, hr.2⟩⟩
  intro as z K o h
  obtain ⟨t0, o0, r0, rfl, g0⟩ := mm_pr_e h
  obtain ⟨b0, k0⟩ := mm_bif_e g0
  obtain rfl := Nat.eq_of_beq_eq_true b0
  exact ⟨_, _, rfl⟩
-- X4_ahead
noncomputable def lV_X4_ahead : List (Nat × (List mm_V → mm_S → (Option mm_V → mm_S → Option mm_R) → Option mm_R)) := [(124, clo_X4_finding), (186, clo_X4_timeOf), (218, clo_X4_silentNow), (296, clo_X4_isTooLate), (299, clo_X4_yearsGo), (302, clo_X4_putBack)]
noncomputable def mV_X4_ahead (k : Nat) (as : List mm_V) (z : mm_S) (kk : Option mm_V → mm_S → Option mm_R) : Option mm_R := match mm_at lV_X4_ahead k with
  | some f => f as z kk
  | none => none
noncomputable def arV_X4_ahead (k : Nat) : Nat := (mm_at [(124, 2), (186, 3), (218, 1), (296, 2), (299, 2), (302, 2)] k).getD 0
noncomputable def lS_X4_ahead : List (Nat × (List mm_V → mm_S → (Option mm_V → mm_S → Option mm_R) → Option mm_R)) := [(102, clo_X4_copyRow), (106, clo_X4_within), (232, clo_X4_bits)]
noncomputable def mS_X4_ahead (k : Nat) (as : List mm_V) (z : mm_S) (kk : Option mm_V → mm_S → Option mm_R) : Option mm_R := match mm_at lS_X4_ahead k with
  | some f => f as z kk
  | none => none
noncomputable def arS_X4_ahead (k : Nat) : Nat := (mm_at [(102, 2), (106, 3), (232, 1)] k).getD 0
def ct_X4_ahead : List (Nat × List Nat) := [(26, [0, 1, 2]), (34, [0]), (41, [0, 1, 2]), (52, [0, 1, 2]), (58, [0, 2, 3]), (67, [0, 2, 3, 4])]
noncomputable def go_X4_ahead : Nat → mm_K := mm_go (fun k => mm_at flX4 k) (fun k => mm_at clX4 k) (fun k => mm_at glX4 k) arV_X4_ahead arS_X4_ahead mV_X4_ahead mS_X4_ahead lenM roM snM 5 0 tbX4_ahead ct_X4_ahead
noncomputable def eX4_ahead_0 (n : Nat)  (x1 : Int32) (x2 : Int32) (z : mm_S) : Option mm_R := go_X4_ahead n 0 [(0, mm_P 4 0), (1, mm_I x1), (2, mm_I x2)] [] z
noncomputable def eX4_ahead_26 (n : Nat)  (y1 : Int32) (y2 : Int32) (z : mm_S) : Option mm_R := go_X4_ahead n 26 [(0, mm_P 4 0), (1, mm_I y1), (2, mm_I y2)] [] z
noncomputable def eX4_ahead_41 (n : Nat)  (y1 : Int32) (y2 : Int32) (z : mm_S) : Option mm_R := go_X4_ahead n 41 [(0, mm_P 4 0), (1, mm_I y1), (2, mm_I y2)] [] z
noncomputable def eX4_ahead_34 (n : Nat)  (z : mm_S) : Option mm_R := go_X4_ahead n 34 [(0, mm_P 4 0)] [] z
noncomputable def eX4_ahead_52 (n : Nat)  (y1 : Int32) (y2 : Int32) (z : mm_S) : Option mm_R := go_X4_ahead n 52 [(0, mm_P 4 0), (1, mm_I y1), (2, mm_I y2)] [] z
noncomputable def eX4_ahead_58 (n : Nat)  (y2 : Int32) (y3 : Int32) (z : mm_S) : Option mm_R := go_X4_ahead n 58 [(0, mm_P 4 0), (2, mm_I y2), (3, mm_I y3)] [] z
noncomputable def eX4_ahead_67 (n : Nat)  (y2 : Int32) (y3 : Int32) (y4 : Int32) (z : mm_S) : Option mm_R := go_X4_ahead n 67 [(0, mm_P 4 0), (2, mm_I y2), (3, mm_I y3), (4, mm_I y4)] [] z
set_option maxRecDepth 100000 in
theorem qX4_ahead_0 (n : Nat)  (x1 : Int32) (x2 : Int32) (z : mm_S) : eX4_ahead_0 (n + 1) x1 x2 z = (if (pX4_within x1 0 60) = 0 then (sX4_finding (-1000001) z).bind fun q1 => some (some (mm_I q1.1), q1.2) else if (pX4_within x2 0 2) = 0 then (sX4_finding (-1000001) z).bind fun q2 => some (some (mm_I q2.1), q2.2) else eX4_ahead_26 n x1 x2 z) := rfl
set_option maxRecDepth 100000 in
theorem qX4_ahead_26 (n : Nat)  (y1 : Int32) (y2 : Int32) (z : mm_S) : eX4_ahead_26 (n + 1) y1 y2 z = ((sX4_isTooLate y1 z).bind fun q3 => if q3.1 = 0 then eX4_ahead_41 n y1 y2 q3.2 else eX4_ahead_34 n  q3.2) := rfl
set_option maxRecDepth 100000 in
theorem qX4_ahead_41 (n : Nat)  (y1 : Int32) (y2 : Int32) (z : mm_S) : eX4_ahead_41 (n + 1) y1 y2 z = ((sX4_copyRow 1 3 z).bind fun q4 => eX4_ahead_52 n y1 y2 q4) := rfl
set_option maxRecDepth 100000 in
theorem qX4_ahead_34 (n : Nat)  (z : mm_S) : eX4_ahead_34 (n + 1)  z = ((sX4_finding (-1000005) z).bind fun q5 => some (some (mm_I q5.1), q5.2)) := rfl
set_option maxRecDepth 100000 in
theorem qX4_ahead_52 (n : Nat)  (y1 : Int32) (y2 : Int32) (z : mm_S) : eX4_ahead_52 (n + 1) y1 y2 z = ((sX4_yearsGo y1 z).bind fun q6 => eX4_ahead_58 n y2 q6.1 q6.2) := rfl
set_option maxRecDepth 100000 in
theorem qX4_ahead_58 (n : Nat)  (y2 : Int32) (y3 : Int32) (z : mm_S) : eX4_ahead_58 (n + 1) y2 y3 z = ((sX4_timeOf 0 35 z).bind fun q7 => eX4_ahead_67 n y2 y3 q7.1 q7.2) := rfl
set_option maxRecDepth 100000 in
theorem qX4_ahead_67 (n : Nat)  (y2 : Int32) (y3 : Int32) (y4 : Int32) (z : mm_S) : eX4_ahead_67 (n + 1) y2 y3 y4 z = (if y2 = 0 then (sX4_putBack y3 z).bind fun q13 => some (some (mm_I q13.1), q13.2) else if y2 = 1 then (sX4_silentNow  z).bind fun q10 => (sX4_bits q10.1 q10.2).bind fun q11 => (sX4_putBack q11.1 q11.2).bind fun q12 => some (some (mm_I q12.1), q12.2) else if 10000 ≤ y4 then (sX4_putBack (-1) z).bind fun q8 => some (some (mm_I q8.1), q8.2) else (sX4_putBack y4 z).bind fun q9 => some (some (mm_I q9.1), q9.2)) := rfl
def rm_X4_ahead : Room := { frames := 6, cells := 0, slots := 0, locals := 143 }
noncomputable def f_X4_ahead (as : List mm_V) (z : mm_S) (o : mm_R) : Prop := (as.map mm_cat).sum ≤ 5 ∧ ∃ n, go_X4_ahead n 0 (mm_ar 0 as) [] z = some o
theorem M_X4_ahead : mm_M lyTM lyFA lenM snM 22 22 17 roM rsA nfA nmA [] yX4_ahead cX4_ahead 5 (some .int) rm_X4_ahead f_X4_ahead :=
  mm_met (rt := 0) (by decide +kernel) ⟨fun h => rfl, fun h => absurd h (by decide), fun h => absurd h (by decide), fun h => absurd h (by decide)⟩ tbX4_ahead_ok hsnM okFX4 okLX4 (fun _ h => absurd h List.not_mem_nil) (fun _ _ _ _ => rfl) (fun _ _ _ _ => rfl) (List.forall_mem_cons.mpr ⟨sV_X4_finding (Or.inl lk_X4_124) rfl ⟨by decide, by decide⟩, List.forall_mem_cons.mpr ⟨sV_X4_timeOf (Or.inl lk_X4_186) rfl ⟨by decide, by decide⟩, List.forall_mem_cons.mpr ⟨sV_X4_silentNow (Or.inl lk_X4_218) rfl ⟨by decide, by decide⟩, List.forall_mem_cons.mpr ⟨sV_X4_isTooLate (Or.inl lk_X4_296) rfl ⟨by decide, by decide⟩, List.forall_mem_cons.mpr ⟨sV_X4_yearsGo (Or.inl lk_X4_299) rfl ⟨by decide, by decide⟩, List.forall_mem_cons.mpr ⟨sV_X4_putBack (Or.inl lk_X4_302) rfl ⟨by decide, by decide⟩, fun _ h => absurd h List.not_mem_nil⟩⟩⟩⟩⟩⟩) (List.forall_mem_cons.mpr ⟨sS_X4_copyRow (Or.inl lk_X4_102) rfl ⟨by decide, by decide⟩, List.forall_mem_cons.mpr ⟨sS_X4_within (Or.inl lk_X4_106) rfl ⟨by decide, by decide⟩, List.forall_mem_cons.mpr ⟨sS_X4_bits (Or.inl lk_X4_232) rfl ⟨by decide, by decide⟩, fun _ h => absurd h List.not_mem_nil⟩⟩⟩)
noncomputable def sX4_ahead_34  (z : mm_S) : Option (Int32 × mm_S) := (sX4_finding (-1000005) z).bind fun q5 => some (q5.1, q5.2)
theorem kX4_ahead_34  (z : mm_S) (oo : mm_R) : mm_Xs (sX4_ahead_34  z) (fun v => (fun v : Int32 × mm_S => ((some (mm_I v.1), v.2) : mm_R)) v = oo) (fun n => eX4_ahead_34 n  z) oo :=
  xs_row (fun n => qX4_ahead_34 n z) (xs_bd fun q5 => (xs_v fun hc => ⟨0, congrArg some hc⟩))
noncomputable def sX4_ahead_67 (y2 : Int32) (y3 : Int32) (y4 : Int32) (z : mm_S) : Option (Int32 × mm_S) := if y2 = 0 then (sX4_putBack y3 z).bind fun q13 => some (q13.1, q13.2) else if y2 = 1 then (sX4_silentNow  z).bind fun q10 => (sX4_bits q10.1 q10.2).bind fun q11 => (sX4_putBack q11.1 q11.2).bind fun q12 => some (q12.1, q12.2) else if 10000 ≤ y4 then (sX4_putBack (-1) z).bind fun q8 => some (q8.1, q8.2) else (sX4_putBack y4 z).bind fun q9 => some (q9.1, q9.2)
theorem kX4_ahead_67 (y2 : Int32) (y3 : Int32) (y4 : Int32) (z : mm_S) (oo : mm_R) : mm_Xs (sX4_ahead_67 y2 y3 y4 z) (fun v => (fun v : Int32 × mm_S => ((some (mm_I v.1), v.2) : mm_R)) v = oo) (fun n => eX4_ahead_67 n y2 y3 y4 z) oo :=
  xs_row (fun n => qX4_ahead_67 n y2 y3 y4 z) (xs_if (xs_bd fun q13 => (xs_v fun hc => ⟨0, congrArg some hc⟩)) (xs_if (xs_bd fun q10 => (xs_bd fun q11 => (xs_bd fun q12 => (xs_v fun hc => ⟨0, congrArg some hc⟩)))) (xs_if (xs_bd fun q8 => (xs_v fun hc => ⟨0, congrArg some hc⟩)) (xs_bd fun q9 => (xs_v fun hc => ⟨0, congrArg some hc⟩)))))
noncomputable def sX4_ahead_58 (y2 : Int32) (y3 : Int32) (z : mm_S) : Option (Int32 × mm_S) := (sX4_timeOf 0 35 z).bind fun q7 => (sX4_ahead_67 y2 y3 q7.1 q7.2)
theorem kX4_ahead_58 (y2 : Int32) (y3 : Int32) (z : mm_S) (oo : mm_R) : mm_Xs (sX4_ahead_58 y2 y3 z) (fun v => (fun v : Int32 × mm_S => ((some (mm_I v.1), v.2) : mm_R)) v = oo) (fun n => eX4_ahead_58 n y2 y3 z) oo :=
  xs_row (fun n => qX4_ahead_58 n y2 y3 z) (xs_bd fun q7 => (kX4_ahead_67 y2 y3 q7.1 q7.2 oo))
noncomputable def sX4_ahead_52 (y1 : Int32) (y2 : Int32) (z : mm_S) : Option (Int32 × mm_S) := (sX4_yearsGo y1 z).bind fun q6 => (sX4_ahead_58 y2 q6.1 q6.2)
theorem kX4_ahead_52 (y1 : Int32) (y2 : Int32) (z : mm_S) (oo : mm_R) : mm_Xs (sX4_ahead_52 y1 y2 z) (fun v => (fun v : Int32 × mm_S => ((some (mm_I v.1), v.2) : mm_R)) v = oo) (fun n => eX4_ahead_52 n y1 y2 z) oo :=
  xs_row (fun n => qX4_ahead_52 n y1 y2 z) (xs_bd fun q6 => (kX4_ahead_58 y2 q6.1 q6.2 oo))
noncomputable def sX4_ahead_41 (y1 : Int32) (y2 : Int32) (z : mm_S) : Option (Int32 × mm_S) := (sX4_copyRow 1 3 z).bind fun q4 => (sX4_ahead_52 y1 y2 q4)
theorem kX4_ahead_41 (y1 : Int32) (y2 : Int32) (z : mm_S) (oo : mm_R) : mm_Xs (sX4_ahead_41 y1 y2 z) (fun v => (fun v : Int32 × mm_S => ((some (mm_I v.1), v.2) : mm_R)) v = oo) (fun n => eX4_ahead_41 n y1 y2 z) oo :=
  xs_row (fun n => qX4_ahead_41 n y1 y2 z) (xs_bd fun q4 => (kX4_ahead_52 y1 y2 q4 oo))
noncomputable def sX4_ahead_26 (y1 : Int32) (y2 : Int32) (z : mm_S) : Option (Int32 × mm_S) := (sX4_isTooLate y1 z).bind fun q3 => if q3.1 = 0 then (sX4_ahead_41 y1 y2 q3.2) else (sX4_ahead_34 q3.2)
theorem kX4_ahead_26 (y1 : Int32) (y2 : Int32) (z : mm_S) (oo : mm_R) : mm_Xs (sX4_ahead_26 y1 y2 z) (fun v => (fun v : Int32 × mm_S => ((some (mm_I v.1), v.2) : mm_R)) v = oo) (fun n => eX4_ahead_26 n y1 y2 z) oo :=
  xs_row (fun n => qX4_ahead_26 n y1 y2 z) (xs_bd fun q3 => (xs_if (kX4_ahead_41 y1 y2 q3.2 oo) (kX4_ahead_34 q3.2 oo)))
noncomputable def sX4_ahead_0 (x1 : Int32) (x2 : Int32) (z : mm_S) : Option (Int32 × mm_S) := if (pX4_within x1 0 60) = 0 then (sX4_finding (-1000001) z).bind fun q1 => some (q1.1, q1.2) else if (pX4_within x2 0 2) = 0 then (sX4_finding (-1000001) z).bind fun q2 => some (q2.1, q2.2) else (sX4_ahead_26 x1 x2 z)
theorem kX4_ahead_0 (x1 : Int32) (x2 : Int32) (z : mm_S) (oo : mm_R) : mm_Xs (sX4_ahead_0 x1 x2 z) (fun v => (fun v : Int32 × mm_S => ((some (mm_I v.1), v.2) : mm_R)) v = oo) (fun n => eX4_ahead_0 n x1 x2 z) oo :=
  xs_row (fun n => qX4_ahead_0 n x1 x2 z) (xs_if (xs_bd fun q1 => (xs_v fun hc => ⟨0, congrArg some hc⟩)) (xs_if (xs_bd fun q2 => (xs_v fun hc => ⟨0, congrArg some hc⟩)) (kX4_ahead_26 x1 x2 z oo)))
noncomputable def sX4_ahead (x1 : Int32) (x2 : Int32) (z : mm_S) : Option (Int32 × mm_S) := sX4_ahead_0 x1 x2 z
theorem sp_X4_ahead (x1 : Int32) (x2 : Int32) (z : mm_S) (hk : ∀ v ∈ [mm_P 4 0, mm_I x1, mm_I x2], mm_ok 22 lyTM 22 17 v) (q : Int32 × mm_S) (hq : sX4_ahead x1 x2 z = some q) : f_X4_ahead [mm_P 4 0, mm_I x1, mm_I x2] z (some (mm_I q.1), q.2) := ⟨Nat.le_of_ble_eq_true rfl, kX4_ahead_0 x1 x2 z _ q hq rfl⟩
noncomputable def clo_X4_ahead (as : List mm_V) (z : mm_S) (kk : Option mm_V → mm_S → Option mm_R) : Option mm_R := mm_pr as fun t o0 as => bif Nat.beq t 4 then mm_pi as fun a1 as => mm_pi as fun a2 as => (match as with | [] => (sX4_ahead a1 a2 z).bind fun q => kk (some (mm_I q.1)) q.2 | _ => none) else none
theorem cs_X4_ahead : mm_cs lyTM 22 22 17 f_X4_ahead clo_X4_ahead := by
  intro as z K o hk h
  obtain ⟨t0, o0, r0, rfl, g0⟩ := mm_pr_e h
  obtain ⟨b0, k0⟩ := mm_bif_e g0
  obtain rfl := Nat.eq_of_beq_eq_true b0
  obtain ⟨a1, r1, rfl, g1⟩ := mm_pi_e k0
  obtain ⟨a2, r2, rfl, g2⟩ := mm_pi_e g1
  rcases r2 with _ | ⟨u, w⟩
  rotate_left
  · cases g2
  obtain rfl : o0 = 0 := ok4 (hk (mm_P 4 o0) (by simp))
  obtain ⟨q, hq, hq2⟩ := Option.bind_eq_some_iff.mp g2
  exact ⟨_, _, sp_X4_ahead a1 a2 z hk q hq, fun v hv => by cases hv; exact Or.inl ⟨_, rfl⟩, hq2⟩
theorem sV_X4_ahead {own : String} {R : Room} {ar : Nat → Nat} {k : Nat} (hlink : Cond.methodLink own k yX4_ahead ∈ lw_gd ∨ ∃ host, (own, k, yX4_ahead, host) ∈ nmA) (har : ar k = 3) (hr : 7 ≤ R.frames ∧ 167 ≤ R.locals) : mm_okV lyTM lyFA lenM snM 22 22 17 roM rsA nfA nmA [] own R ar k clo_X4_ahead := by
  refine ⟨yX4_ahead, cX4_ahead, 5, some .int, rm_X4_ahead, f_X4_ahead, 4, 2, (RX4, TX4, 36), M_X4_ahead, cs_X4_ahead, hlink, ⟨wv_X4_ahead, wz_X4_ahead, wi_X4_ahead, wc_X4_ahead⟩, ⟨by decide +kernel, by decide +kernel, by decide +kernel⟩, har, ⟨rfl, rfl, by decide⟩, ?_, ⟨rfl, rfl, hr.1, hr.2⟩⟩
  intro as z K o h
  obtain ⟨t0, o0, r0, rfl, g0⟩ := mm_pr_e h
  obtain ⟨b0, k0⟩ := mm_bif_e g0
  obtain rfl := Nat.eq_of_beq_eq_true b0
  exact ⟨_, _, rfl⟩
-- X4_when
noncomputable def lV_X4_when : List (Nat × (List mm_V → mm_S → (Option mm_V → mm_S → Option mm_R) → Option mm_R)) := [(124, clo_X4_finding), (146, clo_X4_isCrew), (192, clo_X4_findHeard), (296, clo_X4_isTooLate), (299, clo_X4_yearsGo), (302, clo_X4_putBack)]
noncomputable def mV_X4_when (k : Nat) (as : List mm_V) (z : mm_S) (kk : Option mm_V → mm_S → Option mm_R) : Option mm_R := match mm_at lV_X4_when k with
  | some f => f as z kk
  | none => none
noncomputable def arV_X4_when (k : Nat) : Nat := (mm_at [(124, 2), (146, 2), (192, 3), (296, 2), (299, 2), (302, 2)] k).getD 0
noncomputable def lS_X4_when : List (Nat × (List mm_V → mm_S → (Option mm_V → mm_S → Option mm_R) → Option mm_R)) := [(102, clo_X4_copyRow), (114, clo_X4_isCell)]
noncomputable def mS_X4_when (k : Nat) (as : List mm_V) (z : mm_S) (kk : Option mm_V → mm_S → Option mm_R) : Option mm_R := match mm_at lS_X4_when k with
  | some f => f as z kk
  | none => none
noncomputable def arS_X4_when (k : Nat) : Nat := (mm_at [(102, 2), (114, 1)] k).getD 0
def ct_X4_when : List (Nat × List Nat) := [(22, [0, 1, 2]), (31, [0]), (38, [0, 1, 2]), (49, [0, 1, 2]), (58, [0, 1, 2]), (71, [0, 1, 2, 3, 4, 5]), (101, [0, 1, 2, 3, 4]), (110, [0, 1, 2, 3, 4]), (148, [0]), (157, [4])]
noncomputable def go_X4_when : Nat → mm_K := mm_go (fun k => mm_at flX4 k) (fun k => mm_at clX4 k) (fun k => mm_at glX4 k) arV_X4_when arS_X4_when mV_X4_when mS_X4_when lenM roM snM 6 0 tbX4_when ct_X4_when
noncomputable def eX4_when_0 (n : Nat)  (x1 : Int32) (x2 : Int32) (z : mm_S) : Option mm_R := go_X4_when n 0 [(0, mm_P 4 0), (1, mm_I x1), (2, mm_I x2)] [] z
noncomputable def eX4_when_22 (n : Nat)  (y1 : Int32) (y2 : Int32) (z : mm_S) : Option mm_R := go_X4_when n 22 [(0, mm_P 4 0), (1, mm_I y1), (2, mm_I y2)] [] z
noncomputable def eX4_when_38 (n : Nat)  (y1 : Int32) (y2 : Int32) (z : mm_S) : Option mm_R := go_X4_when n 38 [(0, mm_P 4 0), (1, mm_I y1), (2, mm_I y2)] [] z
noncomputable def eX4_when_31 (n : Nat)  (z : mm_S) : Option mm_R := go_X4_when n 31 [(0, mm_P 4 0)] [] z
noncomputable def eX4_when_49 (n : Nat)  (y1 : Int32) (y2 : Int32) (z : mm_S) : Option mm_R := go_X4_when n 49 [(0, mm_P 4 0), (1, mm_I y1), (2, mm_I y2)] [] z
noncomputable def eX4_when_58 (n : Nat)  (y1 : Int32) (y2 : Int32) (z : mm_S) : Option mm_R := go_X4_when n 58 [(0, mm_P 4 0), (1, mm_I y1), (2, mm_I y2)] [] z
noncomputable def eX4_when_71 (n : Nat)  (y1 : Int32) (y2 : Int32) (y3 : Int32) (y4 : Int32) (y5 : Int32) (z : mm_S) : Option mm_R := go_X4_when n 71 [(0, mm_P 4 0), (1, mm_I y1), (2, mm_I y2), (3, mm_I y3), (4, mm_I y4), (5, mm_I y5)] [] z
noncomputable def eX4_when_157 (n : Nat) (y4 : Int32) (z : mm_S) : Option mm_R := go_X4_when n 157 [(4, mm_I y4)] [] z
noncomputable def eX4_when_148 (n : Nat)  (z : mm_S) : Option mm_R := go_X4_when n 148 [(0, mm_P 4 0)] [] z
noncomputable def eX4_when_101 (n : Nat)  (y1 : Int32) (y2 : Int32) (y3 : Int32) (y4 : Int32) (z : mm_S) : Option mm_R := go_X4_when n 101 [(0, mm_P 4 0), (1, mm_I y1), (2, mm_I y2), (3, mm_I y3), (4, mm_I y4)] [] z
noncomputable def eX4_when_110 (n : Nat)  (y1 : Int32) (y2 : Int32) (y3 : Int32) (y4 : Int32) (z : mm_S) : Option mm_R := go_X4_when n 110 [(0, mm_P 4 0), (1, mm_I y1), (2, mm_I y2), (3, mm_I y3), (4, mm_I y4)] [] z
set_option maxRecDepth 100000 in
theorem qX4_when_0 (n : Nat)  (x1 : Int32) (x2 : Int32) (z : mm_S) : eX4_when_0 (n + 1) x1 x2 z = (if (pX4_isCrew x1 z) = 0 then (sX4_finding (-1000001) z).bind fun q1 => some (some (mm_I q1.1), q1.2) else if (pX4_isCell x2) = 0 then (sX4_finding (-1000001) z).bind fun q2 => some (some (mm_I q2.1), q2.2) else eX4_when_22 n x1 x2 z) := rfl
set_option maxRecDepth 100000 in
theorem qX4_when_22 (n : Nat)  (y1 : Int32) (y2 : Int32) (z : mm_S) : eX4_when_22 (n + 1) y1 y2 z = ((sX4_isTooLate 60 z).bind fun q3 => if q3.1 = 0 then eX4_when_38 n y1 y2 q3.2 else eX4_when_31 n  q3.2) := rfl
set_option maxRecDepth 100000 in
theorem qX4_when_38 (n : Nat)  (y1 : Int32) (y2 : Int32) (z : mm_S) : eX4_when_38 (n + 1) y1 y2 z = ((sX4_copyRow 1 3 z).bind fun q4 => eX4_when_49 n y1 y2 q4) := rfl
set_option maxRecDepth 100000 in
theorem qX4_when_31 (n : Nat)  (z : mm_S) : eX4_when_31 (n + 1)  z = ((sX4_finding (-1000005) z).bind fun q5 => some (some (mm_I q5.1), q5.2)) := rfl
set_option maxRecDepth 100000 in
theorem qX4_when_49 (n : Nat)  (y1 : Int32) (y2 : Int32) (z : mm_S) : eX4_when_49 (n + 1) y1 y2 z = ((sX4_findHeard y1 7 z).bind fun q6 => eX4_when_58 n y1 y2 q6) := rfl
set_option maxRecDepth 100000 in
theorem qX4_when_58 (n : Nat)  (y1 : Int32) (y2 : Int32) (z : mm_S) : eX4_when_58 (n + 1) y1 y2 z = (if y2 < 0 ∨ 36 ≤ Int32.toNatClampNeg y2 then none else eX4_when_71 n y1 y2 (z.1 7 (Int32.toNatClampNeg y2)) 0 0 z) := rfl
set_option maxRecDepth 100000 in
theorem qX4_when_71 (n : Nat)  (y1 : Int32) (y2 : Int32) (y3 : Int32) (y4 : Int32) (y5 : Int32) (z : mm_S) : eX4_when_71 (n + 1) y1 y2 y3 y4 y5 z = (if 60 ≤ y4 then if y5 = 0 then (sX4_putBack (-1) z).bind fun q7 => if 0 ≤ q7.1 then eX4_when_157 n y4 q7.2 else eX4_when_148 n  q7.2 else (sX4_putBack y4 z).bind fun q8 => if 0 ≤ q8.1 then eX4_when_157 n y4 q8.2 else eX4_when_148 n  q8.2 else if y5 = 0 then (sX4_yearsGo 1 z).bind fun q11 => if 0 ≤ q11.1 then eX4_when_101 n y1 y2 y3 (y4 + 1) q11.2 else eX4_when_101 n y1 y2 y3 (y4 + 0) q11.2 else if y5 = 0 then (sX4_putBack (-1) z).bind fun q9 => if 0 ≤ q9.1 then eX4_when_157 n y4 q9.2 else eX4_when_148 n  q9.2 else (sX4_putBack y4 z).bind fun q10 => if 0 ≤ q10.1 then eX4_when_157 n y4 q10.2 else eX4_when_148 n  q10.2) := rfl
set_option maxRecDepth 100000 in
theorem qX4_when_157 (n : Nat) (y4 : Int32) (z : mm_S) : eX4_when_157 (n + 1) y4 z = (some (some (mm_I y4), z)) := rfl
set_option maxRecDepth 100000 in
theorem qX4_when_148 (n : Nat)  (z : mm_S) : eX4_when_148 (n + 1)  z = ((sX4_finding (-1000004) z).bind fun q12 => some (some (mm_I q12.1), q12.2)) := rfl
set_option maxRecDepth 100000 in
theorem qX4_when_101 (n : Nat)  (y1 : Int32) (y2 : Int32) (y3 : Int32) (y4 : Int32) (z : mm_S) : eX4_when_101 (n + 1) y1 y2 y3 y4 z = ((sX4_findHeard y1 7 z).bind fun q13 => eX4_when_110 n y1 y2 y3 y4 q13) := rfl
set_option maxRecDepth 100000 in
theorem qX4_when_110 (n : Nat)  (y1 : Int32) (y2 : Int32) (y3 : Int32) (y4 : Int32) (z : mm_S) : eX4_when_110 (n + 1) y1 y2 y3 y4 z = (if y2 < 0 ∨ 36 ≤ Int32.toNatClampNeg y2 then none else if (z.1 7 (Int32.toNatClampNeg y2)) = y3 then eX4_when_71 n y1 y2 y3 y4 0 z else eX4_when_71 n y1 y2 y3 y4 1 z) := rfl
def rm_X4_when : Room := { frames := 4, cells := 0, slots := 0, locals := 96 }
noncomputable def f_X4_when (as : List mm_V) (z : mm_S) (o : mm_R) : Prop := (as.map mm_cat).sum ≤ 6 ∧ ∃ n, go_X4_when n 0 (mm_ar 0 as) [] z = some o
theorem M_X4_when : mm_M lyTM lyFA lenM snM 22 22 17 roM rsA nfA nmA [] yX4_when cX4_when 6 (some .int) rm_X4_when f_X4_when :=
  mm_met (rt := 0) (by decide +kernel) ⟨fun h => rfl, fun h => absurd h (by decide), fun h => absurd h (by decide), fun h => absurd h (by decide)⟩ tbX4_when_ok hsnM okFX4 okLX4 (fun _ h => absurd h List.not_mem_nil) (fun _ _ _ _ => rfl) (fun _ _ _ _ => rfl) (List.forall_mem_cons.mpr ⟨sV_X4_finding (Or.inl lk_X4_124) rfl ⟨by decide, by decide⟩, List.forall_mem_cons.mpr ⟨sV_X4_isCrew (Or.inl lk_X4_146) rfl ⟨by decide, by decide⟩, List.forall_mem_cons.mpr ⟨sV_X4_findHeard (Or.inl lk_X4_192) rfl ⟨by decide, by decide⟩, List.forall_mem_cons.mpr ⟨sV_X4_isTooLate (Or.inl lk_X4_296) rfl ⟨by decide, by decide⟩, List.forall_mem_cons.mpr ⟨sV_X4_yearsGo (Or.inl lk_X4_299) rfl ⟨by decide, by decide⟩, List.forall_mem_cons.mpr ⟨sV_X4_putBack (Or.inl lk_X4_302) rfl ⟨by decide, by decide⟩, fun _ h => absurd h List.not_mem_nil⟩⟩⟩⟩⟩⟩) (List.forall_mem_cons.mpr ⟨sS_X4_copyRow (Or.inl lk_X4_102) rfl ⟨by decide, by decide⟩, List.forall_mem_cons.mpr ⟨sS_X4_isCell (Or.inl lk_X4_114) rfl ⟨by decide, by decide⟩, fun _ h => absurd h List.not_mem_nil⟩⟩)
noncomputable def sX4_when_31  (z : mm_S) : Option (Int32 × mm_S) := (sX4_finding (-1000005) z).bind fun q5 => some (q5.1, q5.2)
theorem kX4_when_31  (z : mm_S) (oo : mm_R) : mm_Xs (sX4_when_31  z) (fun v => (fun v : Int32 × mm_S => ((some (mm_I v.1), v.2) : mm_R)) v = oo) (fun n => eX4_when_31 n  z) oo :=
  xs_row (fun n => qX4_when_31 n z) (xs_bd fun q5 => (xs_v fun hc => ⟨0, congrArg some hc⟩))
noncomputable def sX4_when_110 (y1 : Int32) (y2 : Int32) (y3 : Int32) (y4 : Int32) (z : mm_S) : Option ((Int32 × Int32 × Int32 × Int32 × Int32 × mm_S) ⊕ (Int32 × mm_S)) := if y2 < 0 ∨ 36 ≤ Int32.toNatClampNeg y2 then none else if (z.1 7 (Int32.toNatClampNeg y2)) = y3 then some (.inl (y1, y2, y3, y4, 0, z)) else some (.inl (y1, y2, y3, y4, 1, z))
theorem kX4_when_110 (y1 : Int32) (y2 : Int32) (y3 : Int32) (y4 : Int32) (z : mm_S) (oo : mm_R) : mm_Xs (sX4_when_110 y1 y2 y3 y4 z) (mm_mt (fun x : Int32 × Int32 × Int32 × Int32 × Int32 × mm_S => ∃ n, eX4_when_71 n x.1 x.2.1 x.2.2.1 x.2.2.2.1 x.2.2.2.2.1 x.2.2.2.2.2 = some oo) (fun v => (fun v : Int32 × mm_S => ((some (mm_I v.1), v.2) : mm_R)) v = oo)) (fun n => eX4_when_110 n y1 y2 y3 y4 z) oo :=
  xs_row (fun n => qX4_when_110 n y1 y2 y3 y4 z) (xs_if xs_n (xs_if (xs_v fun hc => hc) (xs_v fun hc => hc)))
noncomputable def sX4_when_101 (y1 : Int32) (y2 : Int32) (y3 : Int32) (y4 : Int32) (z : mm_S) : Option ((Int32 × Int32 × Int32 × Int32 × Int32 × mm_S) ⊕ (Int32 × mm_S)) := (sX4_findHeard y1 7 z).bind fun q13 => (sX4_when_110 y1 y2 y3 y4 q13)
theorem kX4_when_101 (y1 : Int32) (y2 : Int32) (y3 : Int32) (y4 : Int32) (z : mm_S) (oo : mm_R) : mm_Xs (sX4_when_101 y1 y2 y3 y4 z) (mm_mt (fun x : Int32 × Int32 × Int32 × Int32 × Int32 × mm_S => ∃ n, eX4_when_71 n x.1 x.2.1 x.2.2.1 x.2.2.2.1 x.2.2.2.2.1 x.2.2.2.2.2 = some oo) (fun v => (fun v : Int32 × mm_S => ((some (mm_I v.1), v.2) : mm_R)) v = oo)) (fun n => eX4_when_101 n y1 y2 y3 y4 z) oo :=
  xs_row (fun n => qX4_when_101 n y1 y2 y3 y4 z) (xs_bd fun q13 => (kX4_when_110 y1 y2 y3 y4 q13 oo))
noncomputable def sX4_when_148  (z : mm_S) : Option (Int32 × mm_S) := (sX4_finding (-1000004) z).bind fun q12 => some (q12.1, q12.2)
theorem kX4_when_148  (z : mm_S) (oo : mm_R) : mm_Xs (sX4_when_148  z) (fun v => (fun v : Int32 × mm_S => ((some (mm_I v.1), v.2) : mm_R)) v = oo) (fun n => eX4_when_148 n  z) oo :=
  xs_row (fun n => qX4_when_148 n z) (xs_bd fun q12 => (xs_v fun hc => ⟨0, congrArg some hc⟩))
noncomputable def sX4_when_157 (y4 : Int32) (z : mm_S) : Option (Int32 × mm_S) := some (y4, z)
theorem kX4_when_157 (y4 : Int32) (z : mm_S) (oo : mm_R) : mm_Xs (sX4_when_157 y4 z) (fun v => (fun v : Int32 × mm_S => ((some (mm_I v.1), v.2) : mm_R)) v = oo) (fun n => eX4_when_157 n y4 z) oo :=
  xs_row (fun n => qX4_when_157 n y4 z) (xs_v fun hc => ⟨0, congrArg some hc⟩)
noncomputable def lX4_when_71 (s : Int32 × Int32 × Int32 × Int32 × Int32 × mm_S) : Option ((Int32 × Int32 × Int32 × Int32 × Int32 × mm_S) ⊕ (Int32 × mm_S)) := if 60 ≤ s.2.2.2.1 then if s.2.2.2.2.1 = 0 then (sX4_putBack (-1) s.2.2.2.2.2).bind fun q7 => if 0 ≤ q7.1 then ((sX4_when_157 s.2.2.2.1 q7.2).map fun w => (Sum.inr w)) else ((sX4_when_148 q7.2).map fun w => (Sum.inr w)) else (sX4_putBack s.2.2.2.1 s.2.2.2.2.2).bind fun q8 => if 0 ≤ q8.1 then ((sX4_when_157 s.2.2.2.1 q8.2).map fun w => (Sum.inr w)) else ((sX4_when_148 q8.2).map fun w => (Sum.inr w)) else if s.2.2.2.2.1 = 0 then (sX4_yearsGo 1 s.2.2.2.2.2).bind fun q11 => if 0 ≤ q11.1 then (sX4_when_101 s.1 s.2.1 s.2.2.1 (s.2.2.2.1 + 1) q11.2) else (sX4_when_101 s.1 s.2.1 s.2.2.1 (s.2.2.2.1 + 0) q11.2) else if s.2.2.2.2.1 = 0 then (sX4_putBack (-1) s.2.2.2.2.2).bind fun q9 => if 0 ≤ q9.1 then ((sX4_when_157 s.2.2.2.1 q9.2).map fun w => (Sum.inr w)) else ((sX4_when_148 q9.2).map fun w => (Sum.inr w)) else (sX4_putBack s.2.2.2.1 s.2.2.2.2.2).bind fun q10 => if 0 ≤ q10.1 then ((sX4_when_157 s.2.2.2.1 q10.2).map fun w => (Sum.inr w)) else ((sX4_when_148 q10.2).map fun w => (Sum.inr w))
noncomputable def sX4_when_71 (y1 : Int32) (y2 : Int32) (y3 : Int32) (y4 : Int32) (y5 : Int32) (z : mm_S) : Option (Int32 × mm_S) := mm_wh (lX4_when_71 ) mm_fu (y1, y2, y3, y4, y5, z)
theorem kX4_when_71 (y1 : Int32) (y2 : Int32) (y3 : Int32) (y4 : Int32) (y5 : Int32) (z : mm_S) (oo : mm_R) : mm_Xs (sX4_when_71 y1 y2 y3 y4 y5 z) (fun v => (fun v : Int32 × mm_S => ((some (mm_I v.1), v.2) : mm_R)) v = oo) (fun n => eX4_when_71 n y1 y2 y3 y4 y5 z) oo :=
  xs_wh (stp := lX4_when_71 ) (o := oo) (E := (fun (s : Int32 × Int32 × Int32 × Int32 × Int32 × mm_S) n => eX4_when_71 n s.1 s.2.1 s.2.2.1 s.2.2.2.1 s.2.2.2.2.1 s.2.2.2.2.2)) (C := (fun v => (fun v : Int32 × mm_S => ((some (mm_I v.1), v.2) : mm_R)) v = oo)) (fun s => xs_row (fun n => qX4_when_71 n s.1 s.2.1 s.2.2.1 s.2.2.2.1 s.2.2.2.2.1 s.2.2.2.2.2) (xs_if (xs_if (xs_bd fun q7 => (xs_if (xs_map (f := fun w => (Sum.inr w)) (kX4_when_157 s.2.2.2.1 q7.2 oo) (fun _ h => h)) (xs_map (f := fun w => (Sum.inr w)) (kX4_when_148 q7.2 oo) (fun _ h => h)))) (xs_bd fun q8 => (xs_if (xs_map (f := fun w => (Sum.inr w)) (kX4_when_157 s.2.2.2.1 q8.2 oo) (fun _ h => h)) (xs_map (f := fun w => (Sum.inr w)) (kX4_when_148 q8.2 oo) (fun _ h => h))))) (xs_if (xs_bd fun q11 => (xs_if (kX4_when_101 s.1 s.2.1 s.2.2.1 (s.2.2.2.1 + 1) q11.2 oo) (kX4_when_101 s.1 s.2.1 s.2.2.1 (s.2.2.2.1 + 0) q11.2 oo))) (xs_if (xs_bd fun q9 => (xs_if (xs_map (f := fun w => (Sum.inr w)) (kX4_when_157 s.2.2.2.1 q9.2 oo) (fun _ h => h)) (xs_map (f := fun w => (Sum.inr w)) (kX4_when_148 q9.2 oo) (fun _ h => h)))) (xs_bd fun q10 => (xs_if (xs_map (f := fun w => (Sum.inr w)) (kX4_when_157 s.2.2.2.1 q10.2 oo) (fun _ h => h)) (xs_map (f := fun w => (Sum.inr w)) (kX4_when_148 q10.2 oo) (fun _ h => h)))))))) mm_fu (y1, y2, y3, y4, y5, z)
noncomputable def sX4_when_58 (y1 : Int32) (y2 : Int32) (z : mm_S) : Option (Int32 × mm_S) := if y2 < 0 ∨ 36 ≤ Int32.toNatClampNeg y2 then none else (sX4_when_71 y1 y2 (z.1 7 (Int32.toNatClampNeg y2)) 0 0 z)
theorem kX4_when_58 (y1 : Int32) (y2 : Int32) (z : mm_S) (oo : mm_R) : mm_Xs (sX4_when_58 y1 y2 z) (fun v => (fun v : Int32 × mm_S => ((some (mm_I v.1), v.2) : mm_R)) v = oo) (fun n => eX4_when_58 n y1 y2 z) oo :=
  xs_row (fun n => qX4_when_58 n y1 y2 z) (xs_if xs_n (kX4_when_71 y1 y2 (z.1 7 (Int32.toNatClampNeg y2)) 0 0 z oo))
noncomputable def sX4_when_49 (y1 : Int32) (y2 : Int32) (z : mm_S) : Option (Int32 × mm_S) := (sX4_findHeard y1 7 z).bind fun q6 => (sX4_when_58 y1 y2 q6)
theorem kX4_when_49 (y1 : Int32) (y2 : Int32) (z : mm_S) (oo : mm_R) : mm_Xs (sX4_when_49 y1 y2 z) (fun v => (fun v : Int32 × mm_S => ((some (mm_I v.1), v.2) : mm_R)) v = oo) (fun n => eX4_when_49 n y1 y2 z) oo :=
  xs_row (fun n => qX4_when_49 n y1 y2 z) (xs_bd fun q6 => (kX4_when_58 y1 y2 q6 oo))
noncomputable def sX4_when_38 (y1 : Int32) (y2 : Int32) (z : mm_S) : Option (Int32 × mm_S) := (sX4_copyRow 1 3 z).bind fun q4 => (sX4_when_49 y1 y2 q4)
theorem kX4_when_38 (y1 : Int32) (y2 : Int32) (z : mm_S) (oo : mm_R) : mm_Xs (sX4_when_38 y1 y2 z) (fun v => (fun v : Int32 × mm_S => ((some (mm_I v.1), v.2) : mm_R)) v = oo) (fun n => eX4_when_38 n y1 y2 z) oo :=
  xs_row (fun n => qX4_when_38 n y1 y2 z) (xs_bd fun q4 => (kX4_when_49 y1 y2 q4 oo))
noncomputable def sX4_when_22 (y1 : Int32) (y2 : Int32) (z : mm_S) : Option (Int32 × mm_S) := (sX4_isTooLate 60 z).bind fun q3 => if q3.1 = 0 then (sX4_when_38 y1 y2 q3.2) else (sX4_when_31 q3.2)
theorem kX4_when_22 (y1 : Int32) (y2 : Int32) (z : mm_S) (oo : mm_R) : mm_Xs (sX4_when_22 y1 y2 z) (fun v => (fun v : Int32 × mm_S => ((some (mm_I v.1), v.2) : mm_R)) v = oo) (fun n => eX4_when_22 n y1 y2 z) oo :=
  xs_row (fun n => qX4_when_22 n y1 y2 z) (xs_bd fun q3 => (xs_if (kX4_when_38 y1 y2 q3.2 oo) (kX4_when_31 q3.2 oo)))
noncomputable def sX4_when_0 (x1 : Int32) (x2 : Int32) (z : mm_S) : Option (Int32 × mm_S) := if (pX4_isCrew x1 z) = 0 then (sX4_finding (-1000001) z).bind fun q1 => some (q1.1, q1.2) else if (pX4_isCell x2) = 0 then (sX4_finding (-1000001) z).bind fun q2 => some (q2.1, q2.2) else (sX4_when_22 x1 x2 z)
theorem kX4_when_0 (x1 : Int32) (x2 : Int32) (z : mm_S) (oo : mm_R) : mm_Xs (sX4_when_0 x1 x2 z) (fun v => (fun v : Int32 × mm_S => ((some (mm_I v.1), v.2) : mm_R)) v = oo) (fun n => eX4_when_0 n x1 x2 z) oo :=
  xs_row (fun n => qX4_when_0 n x1 x2 z) (xs_if (xs_bd fun q1 => (xs_v fun hc => ⟨0, congrArg some hc⟩)) (xs_if (xs_bd fun q2 => (xs_v fun hc => ⟨0, congrArg some hc⟩)) (kX4_when_22 x1 x2 z oo)))
noncomputable def sX4_when (x1 : Int32) (x2 : Int32) (z : mm_S) : Option (Int32 × mm_S) := sX4_when_0 x1 x2 z
theorem sp_X4_when (x1 : Int32) (x2 : Int32) (z : mm_S) (hk : ∀ v ∈ [mm_P 4 0, mm_I x1, mm_I x2], mm_ok 22 lyTM 22 17 v) (q : Int32 × mm_S) (hq : sX4_when x1 x2 z = some q) : f_X4_when [mm_P 4 0, mm_I x1, mm_I x2] z (some (mm_I q.1), q.2) := ⟨Nat.le_of_ble_eq_true rfl, kX4_when_0 x1 x2 z _ q hq rfl⟩
noncomputable def clo_X4_when (as : List mm_V) (z : mm_S) (kk : Option mm_V → mm_S → Option mm_R) : Option mm_R := mm_pr as fun t o0 as => bif Nat.beq t 4 then mm_pi as fun a1 as => mm_pi as fun a2 as => (match as with | [] => (sX4_when a1 a2 z).bind fun q => kk (some (mm_I q.1)) q.2 | _ => none) else none
theorem cs_X4_when : mm_cs lyTM 22 22 17 f_X4_when clo_X4_when := by
  intro as z K o hk h
  obtain ⟨t0, o0, r0, rfl, g0⟩ := mm_pr_e h
  obtain ⟨b0, k0⟩ := mm_bif_e g0
  obtain rfl := Nat.eq_of_beq_eq_true b0
  obtain ⟨a1, r1, rfl, g1⟩ := mm_pi_e k0
  obtain ⟨a2, r2, rfl, g2⟩ := mm_pi_e g1
  rcases r2 with _ | ⟨u, w⟩
  rotate_left
  · cases g2
  obtain rfl : o0 = 0 := ok4 (hk (mm_P 4 o0) (by simp))
  obtain ⟨q, hq, hq2⟩ := Option.bind_eq_some_iff.mp g2
  exact ⟨_, _, sp_X4_when a1 a2 z hk q hq, fun v hv => by cases hv; exact Or.inl ⟨_, rfl⟩, hq2⟩
theorem sV_X4_when {own : String} {R : Room} {ar : Nat → Nat} {k : Nat} (hlink : Cond.methodLink own k yX4_when ∈ lw_gd ∨ ∃ host, (own, k, yX4_when, host) ∈ nmA) (har : ar k = 3) (hr : 5 ≤ R.frames ∧ 121 ≤ R.locals) : mm_okV lyTM lyFA lenM snM 22 22 17 roM rsA nfA nmA [] own R ar k clo_X4_when := by
  refine ⟨yX4_when, cX4_when, 6, some .int, rm_X4_when, f_X4_when, 4, 2, (RX4, TX4, 36), M_X4_when, cs_X4_when, hlink, ⟨wv_X4_when, wz_X4_when, wi_X4_when, wc_X4_when⟩, ⟨by decide +kernel, by decide +kernel, by decide +kernel⟩, har, ⟨rfl, rfl, by decide⟩, ?_, ⟨rfl, rfl, hr.1, hr.2⟩⟩
  intro as z K o h
  obtain ⟨t0, o0, r0, rfl, g0⟩ := mm_pr_e h
  obtain ⟨b0, k0⟩ := mm_bif_e g0
  obtain rfl := Nat.eq_of_beq_eq_true b0
  exact ⟨_, _, rfl⟩
-- X4_seed
noncomputable def lV_X4_seed : List (Nat × (List mm_V → mm_S → (Option mm_V → mm_S → Option mm_R) → Option mm_R)) := [(121, clo_X4_become)]
noncomputable def mV_X4_seed (k : Nat) (as : List mm_V) (z : mm_S) (kk : Option mm_V → mm_S → Option mm_R) : Option mm_R := match mm_at lV_X4_seed k with
  | some f => f as z kk
  | none => none
noncomputable def arV_X4_seed (k : Nat) : Nat := (mm_at [(121, 3)] k).getD 0
noncomputable def lS_X4_seed : List (Nat × (List mm_V → mm_S → (Option mm_V → mm_S → Option mm_R) → Option mm_R)) := []
noncomputable def mS_X4_seed (k : Nat) (as : List mm_V) (z : mm_S) (kk : Option mm_V → mm_S → Option mm_R) : Option mm_R := match mm_at lS_X4_seed k with
  | some f => f as z kk
  | none => none
noncomputable def arS_X4_seed (k : Nat) : Nat := (mm_at [] k).getD 0
def ct_X4_seed : List (Nat × List Nat) := []
noncomputable def go_X4_seed : Nat → mm_K := mm_go (fun k => mm_at flX4 k) (fun k => mm_at clX4 k) (fun k => mm_at glX4 k) arV_X4_seed arS_X4_seed mV_X4_seed mS_X4_seed lenM roM snM 2 0 tbX4_seed ct_X4_seed
noncomputable def eX4_seed_0 (n : Nat)  (x1 : Int32) (z : mm_S) : Option mm_R := go_X4_seed n 0 [(0, mm_P 4 0), (1, mm_I x1)] [] z
set_option maxRecDepth 100000 in
theorem qX4_seed_0 (n : Nat)  (x1 : Int32) (z : mm_S) : eX4_seed_0 (n + 1) x1 z = ((sX4_become 4 x1 z).bind fun q1 => some (some (mm_I q1.1), q1.2)) := rfl
def rm_X4_seed : Room := { frames := 1, cells := 0, slots := 0, locals := 23 }
noncomputable def f_X4_seed (as : List mm_V) (z : mm_S) (o : mm_R) : Prop := (as.map mm_cat).sum ≤ 2 ∧ ∃ n, go_X4_seed n 0 (mm_ar 0 as) [] z = some o
theorem M_X4_seed : mm_M lyTM lyFA lenM snM 22 22 17 roM rsA nfA nmA [] yX4_seed cX4_seed 2 (some .int) rm_X4_seed f_X4_seed :=
  mm_met (rt := 0) (by decide +kernel) ⟨fun h => rfl, fun h => absurd h (by decide), fun h => absurd h (by decide), fun h => absurd h (by decide)⟩ tbX4_seed_ok hsnM okFX4 okLX4 (fun _ h => absurd h List.not_mem_nil) (fun _ _ _ _ => rfl) (fun _ _ _ _ => rfl) (List.forall_mem_cons.mpr ⟨sV_X4_become (Or.inl lk_X4_121) rfl ⟨by decide, by decide⟩, fun _ h => absurd h List.not_mem_nil⟩) (fun _ h => absurd h List.not_mem_nil)
noncomputable def sX4_seed_0 (x1 : Int32) (z : mm_S) : Option (Int32 × mm_S) := (sX4_become 4 x1 z).bind fun q1 => some (q1.1, q1.2)
theorem kX4_seed_0 (x1 : Int32) (z : mm_S) (oo : mm_R) : mm_Xs (sX4_seed_0 x1 z) (fun v => (fun v : Int32 × mm_S => ((some (mm_I v.1), v.2) : mm_R)) v = oo) (fun n => eX4_seed_0 n x1 z) oo :=
  xs_row (fun n => qX4_seed_0 n x1 z) (xs_bd fun q1 => (xs_v fun hc => ⟨0, congrArg some hc⟩))
noncomputable def sX4_seed (x1 : Int32) (z : mm_S) : Option (Int32 × mm_S) := sX4_seed_0 x1 z
theorem sp_X4_seed (x1 : Int32) (z : mm_S) (hk : ∀ v ∈ [mm_P 4 0, mm_I x1], mm_ok 22 lyTM 22 17 v) (q : Int32 × mm_S) (hq : sX4_seed x1 z = some q) : f_X4_seed [mm_P 4 0, mm_I x1] z (some (mm_I q.1), q.2) := ⟨Nat.le_of_ble_eq_true rfl, kX4_seed_0 x1 z _ q hq rfl⟩
noncomputable def clo_X4_seed (as : List mm_V) (z : mm_S) (kk : Option mm_V → mm_S → Option mm_R) : Option mm_R := mm_pr as fun t o0 as => bif Nat.beq t 4 then mm_pi as fun a1 as => (match as with | [] => (sX4_seed a1 z).bind fun q => kk (some (mm_I q.1)) q.2 | _ => none) else none
theorem cs_X4_seed : mm_cs lyTM 22 22 17 f_X4_seed clo_X4_seed := by
  intro as z K o hk h
  obtain ⟨t0, o0, r0, rfl, g0⟩ := mm_pr_e h
  obtain ⟨b0, k0⟩ := mm_bif_e g0
  obtain rfl := Nat.eq_of_beq_eq_true b0
  obtain ⟨a1, r1, rfl, g1⟩ := mm_pi_e k0
  rcases r1 with _ | ⟨u, w⟩
  rotate_left
  · cases g1
  obtain rfl : o0 = 0 := ok4 (hk (mm_P 4 o0) (by simp))
  obtain ⟨q, hq, hq2⟩ := Option.bind_eq_some_iff.mp g1
  exact ⟨_, _, sp_X4_seed a1 z hk q hq, fun v hv => by cases hv; exact Or.inl ⟨_, rfl⟩, hq2⟩
theorem sV_X4_seed {own : String} {R : Room} {ar : Nat → Nat} {k : Nat} (hlink : Cond.methodLink own k yX4_seed ∈ lw_gd ∨ ∃ host, (own, k, yX4_seed, host) ∈ nmA) (har : ar k = 2) (hr : 2 ≤ R.frames ∧ 44 ≤ R.locals) : mm_okV lyTM lyFA lenM snM 22 22 17 roM rsA nfA nmA [] own R ar k clo_X4_seed := by
  refine ⟨yX4_seed, cX4_seed, 2, some .int, rm_X4_seed, f_X4_seed, 4, 1, (RX4, TX4, 36), M_X4_seed, cs_X4_seed, hlink, ⟨wv_X4_seed, wz_X4_seed, wi_X4_seed, wc_X4_seed⟩, ⟨by decide +kernel, by decide +kernel, by decide +kernel⟩, har, ⟨rfl, rfl, by decide⟩, ?_, ⟨rfl, rfl, hr.1, hr.2⟩⟩
  intro as z K o h
  obtain ⟨t0, o0, r0, rfl, g0⟩ := mm_pr_e h
  obtain ⟨b0, k0⟩ := mm_bif_e g0
  obtain rfl := Nat.eq_of_beq_eq_true b0
  exact ⟨_, _, rfl⟩
-- X4_feed
noncomputable def lV_X4_feed : List (Nat × (List mm_V → mm_S → (Option mm_V → mm_S → Option mm_R) → Option mm_R)) := [(124, clo_X4_finding)]
noncomputable def mV_X4_feed (k : Nat) (as : List mm_V) (z : mm_S) (kk : Option mm_V → mm_S → Option mm_R) : Option mm_R := match mm_at lV_X4_feed k with
  | some f => f as z kk
  | none => none
noncomputable def arV_X4_feed (k : Nat) : Nat := (mm_at [(124, 2)] k).getD 0
noncomputable def lS_X4_feed : List (Nat × (List mm_V → mm_S → (Option mm_V → mm_S → Option mm_R) → Option mm_R)) := [(106, clo_X4_within)]
noncomputable def mS_X4_feed (k : Nat) (as : List mm_V) (z : mm_S) (kk : Option mm_V → mm_S → Option mm_R) : Option mm_R := match mm_at lS_X4_feed k with
  | some f => f as z kk
  | none => none
noncomputable def arS_X4_feed (k : Nat) : Nat := (mm_at [(106, 3)] k).getD 0
def ct_X4_feed : List (Nat × List Nat) := [(16, [0, 1, 2]), (34, [0, 1, 2]), (38, [0, 1, 3]), (61, [0, 1, 3])]
noncomputable def go_X4_feed : Nat → mm_K := mm_go (fun k => mm_at flX4 k) (fun k => mm_at clX4 k) (fun k => mm_at glX4 k) arV_X4_feed arS_X4_feed mV_X4_feed mS_X4_feed lenM roM snM 4 0 tbX4_feed ct_X4_feed
noncomputable def eX4_feed_0 (n : Nat)  (x1 : Int32) (x2 : Int32) (z : mm_S) : Option mm_R := go_X4_feed n 0 [(0, mm_P 4 0), (1, mm_I x1), (2, mm_I x2)] [] z
noncomputable def eX4_feed_16 (n : Nat)  (y1 : Int32) (y2 : Int32) (z : mm_S) : Option mm_R := go_X4_feed n 16 [(0, mm_P 4 0), (1, mm_I y1), (2, mm_I y2)] [] z
noncomputable def eX4_feed_34 (n : Nat)  (y1 : Int32) (y2 : Int32) (z : mm_S) : Option mm_R := go_X4_feed n 34 [(0, mm_P 4 0), (1, mm_I y1), (2, mm_I y2)] [] z
noncomputable def eX4_feed_38 (n : Nat)  (y1 : Int32) (y3 : Int32) (z : mm_S) : Option mm_R := go_X4_feed n 38 [(0, mm_P 4 0), (1, mm_I y1), (3, mm_I y3)] [] z
noncomputable def eX4_feed_61 (n : Nat)  (y1 : Int32) (y3 : Int32) (z : mm_S) : Option mm_R := go_X4_feed n 61 [(0, mm_P 4 0), (1, mm_I y1), (3, mm_I y3)] [] z
set_option maxRecDepth 100000 in
theorem qX4_feed_0 (n : Nat)  (x1 : Int32) (x2 : Int32) (z : mm_S) : eX4_feed_0 (n + 1) x1 x2 z = (if (pX4_within x2 1 4) = 0 then (sX4_finding (-1000001) z).bind fun q1 => some (some (mm_I q1.1), q1.2) else eX4_feed_16 n x1 x2 z) := rfl
set_option maxRecDepth 100000 in
theorem qX4_feed_16 (n : Nat)  (y1 : Int32) (y2 : Int32) (z : mm_S) : eX4_feed_16 (n + 1) y1 y2 z = (if ((z.1 0 18) + y2) ≤ 120 then eX4_feed_34 n y1 y2 z else (sX4_finding (-1000002) z).bind fun q2 => some (some (mm_I q2.1), q2.2)) := rfl
set_option maxRecDepth 100000 in
theorem qX4_feed_34 (n : Nat)  (y1 : Int32) (y2 : Int32) (z : mm_S) : eX4_feed_34 (n + 1) y1 y2 z = (eX4_feed_38 n y1 (y2 - 1) z) := rfl
set_option maxRecDepth 100000 in
theorem qX4_feed_38 (n : Nat)  (y1 : Int32) (y3 : Int32) (z : mm_S) : eX4_feed_38 (n + 1) y1 y3 z = (if y3 < 0 then some (some (mm_I (z.1 0 18)), z) else if (z.1 0 18) < 0 ∨ 120 ≤ Int32.toNatClampNeg (z.1 0 18) then none else let u3 : mm_S := ((mm_ui z.1 13 (Int32.toNatClampNeg (z.1 0 18)) ((y1 >>> ((8 * y3) &&& 31)) &&& 255)), z.2); eX4_feed_61 n y1 y3 u3) := rfl
set_option maxRecDepth 100000 in
theorem qX4_feed_61 (n : Nat)  (y1 : Int32) (y3 : Int32) (z : mm_S) : eX4_feed_61 (n + 1) y1 y3 z = (let v4 : Int32 := (y3 + Int32.ofInt (-1)); eX4_feed_38 n y1 v4 ((mm_ui z.1 0 18 ((z.1 0 18) + 1)), z.2)) := rfl
def rm_X4_feed : Room := { frames := 1, cells := 0, slots := 0, locals := 22 }
noncomputable def f_X4_feed (as : List mm_V) (z : mm_S) (o : mm_R) : Prop := (as.map mm_cat).sum ≤ 4 ∧ ∃ n, go_X4_feed n 0 (mm_ar 0 as) [] z = some o
theorem M_X4_feed : mm_M lyTM lyFA lenM snM 22 22 17 roM rsA nfA nmA [] yX4_feed cX4_feed 4 (some .int) rm_X4_feed f_X4_feed :=
  mm_met (rt := 0) (by decide +kernel) ⟨fun h => rfl, fun h => absurd h (by decide), fun h => absurd h (by decide), fun h => absurd h (by decide)⟩ tbX4_feed_ok hsnM okFX4 okLX4 (fun _ h => absurd h List.not_mem_nil) (fun _ _ _ _ => rfl) (fun _ _ _ _ => rfl) (List.forall_mem_cons.mpr ⟨sV_X4_finding (Or.inl lk_X4_124) rfl ⟨by decide, by decide⟩, fun _ h => absurd h List.not_mem_nil⟩) (List.forall_mem_cons.mpr ⟨sS_X4_within (Or.inl lk_X4_106) rfl ⟨by decide, by decide⟩, fun _ h => absurd h List.not_mem_nil⟩)
noncomputable def sX4_feed_61 (y1 : Int32) (y3 : Int32) (z : mm_S) : Option ((Int32 × Int32 × mm_S) ⊕ (Int32 × mm_S)) := let v4 : Int32 := (y3 + Int32.ofInt (-1)); some (.inl (y1, v4, ((mm_ui z.1 0 18 ((z.1 0 18) + 1)), z.2)))
theorem kX4_feed_61 (y1 : Int32) (y3 : Int32) (z : mm_S) (oo : mm_R) : mm_Xs (sX4_feed_61 y1 y3 z) (mm_mt (fun x : Int32 × Int32 × mm_S => ∃ n, eX4_feed_38 n x.1 x.2.1 x.2.2 = some oo) (fun v => (fun v : Int32 × mm_S => ((some (mm_I v.1), v.2) : mm_R)) v = oo)) (fun n => eX4_feed_61 n y1 y3 z) oo :=
  xs_row (fun n => qX4_feed_61 n y1 y3 z) (xs_let ((y3 + Int32.ofInt (-1))) (S := fun (v4 : Int32) => (some (.inl (y1, v4, ((mm_ui z.1 0 18 ((z.1 0 18) + 1)), z.2))) : Option ((Int32 × Int32 × mm_S) ⊕ (Int32 × mm_S)))) (T := fun (v4 : Int32) n => eX4_feed_38 n y1 v4 ((mm_ui z.1 0 18 ((z.1 0 18) + 1)), z.2)) (fun v4 => (xs_v fun hc => hc)))
noncomputable def lX4_feed_38 (s : Int32 × Int32 × mm_S) : Option ((Int32 × Int32 × mm_S) ⊕ (Int32 × mm_S)) := if s.2.1 < 0 then some (.inr ((s.2.2.1 0 18), s.2.2)) else if (s.2.2.1 0 18) < 0 ∨ 120 ≤ Int32.toNatClampNeg (s.2.2.1 0 18) then none else let u3 : mm_S := ((mm_ui s.2.2.1 13 (Int32.toNatClampNeg (s.2.2.1 0 18)) ((s.1 >>> ((8 * s.2.1) &&& 31)) &&& 255)), s.2.2.2); (sX4_feed_61 s.1 s.2.1 u3)
noncomputable def sX4_feed_38 (y1 : Int32) (y3 : Int32) (z : mm_S) : Option (Int32 × mm_S) := mm_wh (lX4_feed_38 ) mm_fu (y1, y3, z)
theorem kX4_feed_38 (y1 : Int32) (y3 : Int32) (z : mm_S) (oo : mm_R) : mm_Xs (sX4_feed_38 y1 y3 z) (fun v => (fun v : Int32 × mm_S => ((some (mm_I v.1), v.2) : mm_R)) v = oo) (fun n => eX4_feed_38 n y1 y3 z) oo :=
  xs_wh (stp := lX4_feed_38 ) (o := oo) (E := (fun (s : Int32 × Int32 × mm_S) n => eX4_feed_38 n s.1 s.2.1 s.2.2)) (C := (fun v => (fun v : Int32 × mm_S => ((some (mm_I v.1), v.2) : mm_R)) v = oo)) (fun s => xs_row (fun n => qX4_feed_38 n s.1 s.2.1 s.2.2) (xs_if (xs_v fun hc => ⟨0, congrArg some hc⟩) (xs_if xs_n (xs_let (((mm_ui s.2.2.1 13 (Int32.toNatClampNeg (s.2.2.1 0 18)) ((s.1 >>> ((8 * s.2.1) &&& 31)) &&& 255)), s.2.2.2)) (S := fun (u3 : mm_S) => ((sX4_feed_61 s.1 s.2.1 u3) : Option ((Int32 × Int32 × mm_S) ⊕ (Int32 × mm_S)))) (T := fun (u3 : mm_S) n => eX4_feed_61 n s.1 s.2.1 u3) (fun u3 => (kX4_feed_61 s.1 s.2.1 u3 oo)))))) mm_fu (y1, y3, z)
noncomputable def sX4_feed_34 (y1 : Int32) (y2 : Int32) (z : mm_S) : Option (Int32 × mm_S) := (sX4_feed_38 y1 (y2 - 1) z)
theorem kX4_feed_34 (y1 : Int32) (y2 : Int32) (z : mm_S) (oo : mm_R) : mm_Xs (sX4_feed_34 y1 y2 z) (fun v => (fun v : Int32 × mm_S => ((some (mm_I v.1), v.2) : mm_R)) v = oo) (fun n => eX4_feed_34 n y1 y2 z) oo :=
  xs_row (fun n => qX4_feed_34 n y1 y2 z) (kX4_feed_38 y1 (y2 - 1) z oo)
noncomputable def sX4_feed_16 (y1 : Int32) (y2 : Int32) (z : mm_S) : Option (Int32 × mm_S) := if ((z.1 0 18) + y2) ≤ 120 then (sX4_feed_34 y1 y2 z) else (sX4_finding (-1000002) z).bind fun q2 => some (q2.1, q2.2)
theorem kX4_feed_16 (y1 : Int32) (y2 : Int32) (z : mm_S) (oo : mm_R) : mm_Xs (sX4_feed_16 y1 y2 z) (fun v => (fun v : Int32 × mm_S => ((some (mm_I v.1), v.2) : mm_R)) v = oo) (fun n => eX4_feed_16 n y1 y2 z) oo :=
  xs_row (fun n => qX4_feed_16 n y1 y2 z) (xs_if (kX4_feed_34 y1 y2 z oo) (xs_bd fun q2 => (xs_v fun hc => ⟨0, congrArg some hc⟩)))
noncomputable def sX4_feed_0 (x1 : Int32) (x2 : Int32) (z : mm_S) : Option (Int32 × mm_S) := if (pX4_within x2 1 4) = 0 then (sX4_finding (-1000001) z).bind fun q1 => some (q1.1, q1.2) else (sX4_feed_16 x1 x2 z)
theorem kX4_feed_0 (x1 : Int32) (x2 : Int32) (z : mm_S) (oo : mm_R) : mm_Xs (sX4_feed_0 x1 x2 z) (fun v => (fun v : Int32 × mm_S => ((some (mm_I v.1), v.2) : mm_R)) v = oo) (fun n => eX4_feed_0 n x1 x2 z) oo :=
  xs_row (fun n => qX4_feed_0 n x1 x2 z) (xs_if (xs_bd fun q1 => (xs_v fun hc => ⟨0, congrArg some hc⟩)) (kX4_feed_16 x1 x2 z oo))
noncomputable def sX4_feed (x1 : Int32) (x2 : Int32) (z : mm_S) : Option (Int32 × mm_S) := sX4_feed_0 x1 x2 z
theorem sp_X4_feed (x1 : Int32) (x2 : Int32) (z : mm_S) (hk : ∀ v ∈ [mm_P 4 0, mm_I x1, mm_I x2], mm_ok 22 lyTM 22 17 v) (q : Int32 × mm_S) (hq : sX4_feed x1 x2 z = some q) : f_X4_feed [mm_P 4 0, mm_I x1, mm_I x2] z (some (mm_I q.1), q.2) := ⟨Nat.le_of_ble_eq_true rfl, kX4_feed_0 x1 x2 z _ q hq rfl⟩
noncomputable def clo_X4_feed (as : List mm_V) (z : mm_S) (kk : Option mm_V → mm_S → Option mm_R) : Option mm_R := mm_pr as fun t o0 as => bif Nat.beq t 4 then mm_pi as fun a1 as => mm_pi as fun a2 as => (match as with | [] => (sX4_feed a1 a2 z).bind fun q => kk (some (mm_I q.1)) q.2 | _ => none) else none
theorem cs_X4_feed : mm_cs lyTM 22 22 17 f_X4_feed clo_X4_feed := by
  intro as z K o hk h
  obtain ⟨t0, o0, r0, rfl, g0⟩ := mm_pr_e h
  obtain ⟨b0, k0⟩ := mm_bif_e g0
  obtain rfl := Nat.eq_of_beq_eq_true b0
  obtain ⟨a1, r1, rfl, g1⟩ := mm_pi_e k0
  obtain ⟨a2, r2, rfl, g2⟩ := mm_pi_e g1
  rcases r2 with _ | ⟨u, w⟩
  rotate_left
  · cases g2
  obtain rfl : o0 = 0 := ok4 (hk (mm_P 4 o0) (by simp))
  obtain ⟨q, hq, hq2⟩ := Option.bind_eq_some_iff.mp g2
  exact ⟨_, _, sp_X4_feed a1 a2 z hk q hq, fun v hv => by cases hv; exact Or.inl ⟨_, rfl⟩, hq2⟩
theorem sV_X4_feed {own : String} {R : Room} {ar : Nat → Nat} {k : Nat} (hlink : Cond.methodLink own k yX4_feed ∈ lw_gd ∨ ∃ host, (own, k, yX4_feed, host) ∈ nmA) (har : ar k = 3) (hr : 2 ≤ R.frames ∧ 45 ≤ R.locals) : mm_okV lyTM lyFA lenM snM 22 22 17 roM rsA nfA nmA [] own R ar k clo_X4_feed := by
  refine ⟨yX4_feed, cX4_feed, 4, some .int, rm_X4_feed, f_X4_feed, 4, 2, (RX4, TX4, 36), M_X4_feed, cs_X4_feed, hlink, ⟨wv_X4_feed, wz_X4_feed, wi_X4_feed, wc_X4_feed⟩, ⟨by decide +kernel, by decide +kernel, by decide +kernel⟩, har, ⟨rfl, rfl, by decide⟩, ?_, ⟨rfl, rfl, hr.1, hr.2⟩⟩
  intro as z K o h
  obtain ⟨t0, o0, r0, rfl, g0⟩ := mm_pr_e h
  obtain ⟨b0, k0⟩ := mm_bif_e g0
  obtain rfl := Nat.eq_of_beq_eq_true b0
  exact ⟨_, _, rfl⟩
-- X4_wipe
noncomputable def lV_X4_wipe : List (Nat × (List mm_V → mm_S → (Option mm_V → mm_S → Option mm_R) → Option mm_R)) := []
noncomputable def mV_X4_wipe (k : Nat) (as : List mm_V) (z : mm_S) (kk : Option mm_V → mm_S → Option mm_R) : Option mm_R := match mm_at lV_X4_wipe k with
  | some f => f as z kk
  | none => none
noncomputable def arV_X4_wipe (k : Nat) : Nat := (mm_at [] k).getD 0
noncomputable def lS_X4_wipe : List (Nat × (List mm_V → mm_S → (Option mm_V → mm_S → Option mm_R) → Option mm_R)) := []
noncomputable def mS_X4_wipe (k : Nat) (as : List mm_V) (z : mm_S) (kk : Option mm_V → mm_S → Option mm_R) : Option mm_R := match mm_at lS_X4_wipe k with
  | some f => f as z kk
  | none => none
noncomputable def arS_X4_wipe (k : Nat) : Nat := (mm_at [] k).getD 0
def ct_X4_wipe : List (Nat × List Nat) := [(10, [1])]
noncomputable def go_X4_wipe : Nat → mm_K := mm_go (fun k => mm_at flX4 k) (fun k => mm_at clX4 k) (fun k => mm_at glX4 k) arV_X4_wipe arS_X4_wipe mV_X4_wipe mS_X4_wipe lenM roM snM 2 0 tbX4_wipe ct_X4_wipe
noncomputable def eX4_wipe_0 (n : Nat)  (z : mm_S) : Option mm_R := go_X4_wipe n 0 [(0, mm_P 4 0)] [] z
noncomputable def eX4_wipe_10 (n : Nat) (y1 : Int32) (z : mm_S) : Option mm_R := go_X4_wipe n 10 [(1, mm_I y1)] [] z
set_option maxRecDepth 100000 in
theorem qX4_wipe_0 (n : Nat)  (z : mm_S) : eX4_wipe_0 (n + 1)  z = (eX4_wipe_10 n (z.1 0 18) ((mm_ui z.1 0 18 0), z.2)) := rfl
set_option maxRecDepth 100000 in
theorem qX4_wipe_10 (n : Nat) (y1 : Int32) (z : mm_S) : eX4_wipe_10 (n + 1) y1 z = (some (some (mm_I y1), z)) := rfl
def rm_X4_wipe : Room := { frames := 0, cells := 0, slots := 0, locals := 0 }
noncomputable def f_X4_wipe (as : List mm_V) (z : mm_S) (o : mm_R) : Prop := (as.map mm_cat).sum ≤ 2 ∧ ∃ n, go_X4_wipe n 0 (mm_ar 0 as) [] z = some o
theorem M_X4_wipe : mm_M lyTM lyFA lenM snM 22 22 17 roM rsA nfA nmA [] yX4_wipe cX4_wipe 2 (some .int) rm_X4_wipe f_X4_wipe :=
  mm_met (rt := 0) (by decide +kernel) ⟨fun h => rfl, fun h => absurd h (by decide), fun h => absurd h (by decide), fun h => absurd h (by decide)⟩ tbX4_wipe_ok hsnM okFX4 okLX4 (fun _ h => absurd h List.not_mem_nil) (fun _ _ _ _ => rfl) (fun _ _ _ _ => rfl) (fun _ h => absurd h List.not_mem_nil) (fun _ h => absurd h List.not_mem_nil)
noncomputable def sX4_wipe_10 (y1 : Int32) (z : mm_S) : Option (Int32 × mm_S) := some (y1, z)
theorem kX4_wipe_10 (y1 : Int32) (z : mm_S) (oo : mm_R) : mm_Xs (sX4_wipe_10 y1 z) (fun v => (fun v : Int32 × mm_S => ((some (mm_I v.1), v.2) : mm_R)) v = oo) (fun n => eX4_wipe_10 n y1 z) oo :=
  xs_row (fun n => qX4_wipe_10 n y1 z) (xs_v fun hc => ⟨0, congrArg some hc⟩)
noncomputable def sX4_wipe_0  (z : mm_S) : Option (Int32 × mm_S) := (sX4_wipe_10 (z.1 0 18) ((mm_ui z.1 0 18 0), z.2))
theorem kX4_wipe_0  (z : mm_S) (oo : mm_R) : mm_Xs (sX4_wipe_0  z) (fun v => (fun v : Int32 × mm_S => ((some (mm_I v.1), v.2) : mm_R)) v = oo) (fun n => eX4_wipe_0 n  z) oo :=
  xs_row (fun n => qX4_wipe_0 n z) (kX4_wipe_10 (z.1 0 18) ((mm_ui z.1 0 18 0), z.2) oo)
noncomputable def sX4_wipe  (z : mm_S) : Option (Int32 × mm_S) := sX4_wipe_0  z
theorem sp_X4_wipe  (z : mm_S) (hk : ∀ v ∈ [mm_P 4 0], mm_ok 22 lyTM 22 17 v) (q : Int32 × mm_S) (hq : sX4_wipe  z = some q) : f_X4_wipe [mm_P 4 0] z (some (mm_I q.1), q.2) := ⟨Nat.le_of_ble_eq_true rfl, kX4_wipe_0  z _ q hq rfl⟩
noncomputable def clo_X4_wipe (as : List mm_V) (z : mm_S) (kk : Option mm_V → mm_S → Option mm_R) : Option mm_R := mm_pr as fun t o0 as => bif Nat.beq t 4 then (match as with | [] => (sX4_wipe z).bind fun q => kk (some (mm_I q.1)) q.2 | _ => none) else none
theorem cs_X4_wipe : mm_cs lyTM 22 22 17 f_X4_wipe clo_X4_wipe := by
  intro as z K o hk h
  obtain ⟨t0, o0, r0, rfl, g0⟩ := mm_pr_e h
  obtain ⟨b0, k0⟩ := mm_bif_e g0
  obtain rfl := Nat.eq_of_beq_eq_true b0
  rcases r0 with _ | ⟨u, w⟩
  rotate_left
  · cases k0
  obtain rfl : o0 = 0 := ok4 (hk (mm_P 4 o0) (by simp))
  obtain ⟨q, hq, hq2⟩ := Option.bind_eq_some_iff.mp k0
  exact ⟨_, _, sp_X4_wipe  z hk q hq, fun v hv => by cases hv; exact Or.inl ⟨_, rfl⟩, hq2⟩
theorem sV_X4_wipe {own : String} {R : Room} {ar : Nat → Nat} {k : Nat} (hlink : Cond.methodLink own k yX4_wipe ∈ lw_gd ∨ ∃ host, (own, k, yX4_wipe, host) ∈ nmA) (har : ar k = 1) (hr : 1 ≤ R.frames ∧ 21 ≤ R.locals) : mm_okV lyTM lyFA lenM snM 22 22 17 roM rsA nfA nmA [] own R ar k clo_X4_wipe := by
  refine ⟨yX4_wipe, cX4_wipe, 2, some .int, rm_X4_wipe, f_X4_wipe, 4, 0, (RX4, TX4, 36), M_X4_wipe, cs_X4_wipe, hlink, ⟨wv_X4_wipe, wz_X4_wipe, wi_X4_wipe, wc_X4_wipe⟩, ⟨by decide +kernel, by decide +kernel, by decide +kernel⟩, har, ⟨rfl, rfl, by decide⟩, ?_, ⟨rfl, rfl, hr.1, hr.2⟩⟩
  intro as z K o h
  obtain ⟨t0, o0, r0, rfl, g0⟩ := mm_pr_e h
  obtain ⟨b0, k0⟩ := mm_bif_e g0
  obtain rfl := Nat.eq_of_beq_eq_true b0
  exact ⟨_, _, rfl⟩
-- X4_byteAt
noncomputable def lV_X4_byteAt : List (Nat × (List mm_V → mm_S → (Option mm_V → mm_S → Option mm_R) → Option mm_R)) := []
noncomputable def mV_X4_byteAt (k : Nat) (as : List mm_V) (z : mm_S) (kk : Option mm_V → mm_S → Option mm_R) : Option mm_R := match mm_at lV_X4_byteAt k with
  | some f => f as z kk
  | none => none
noncomputable def arV_X4_byteAt (k : Nat) : Nat := (mm_at [] k).getD 0
noncomputable def lS_X4_byteAt : List (Nat × (List mm_V → mm_S → (Option mm_V → mm_S → Option mm_R) → Option mm_R)) := []
noncomputable def mS_X4_byteAt (k : Nat) (as : List mm_V) (z : mm_S) (kk : Option mm_V → mm_S → Option mm_R) : Option mm_R := match mm_at lS_X4_byteAt k with
  | some f => f as z kk
  | none => none
noncomputable def arS_X4_byteAt (k : Nat) : Nat := (mm_at [] k).getD 0
def ct_X4_byteAt : List (Nat × List Nat) := []
noncomputable def go_X4_byteAt : Nat → mm_K := mm_go (fun k => mm_at flX4 k) (fun k => mm_at clX4 k) (fun k => mm_at glX4 k) arV_X4_byteAt arS_X4_byteAt mV_X4_byteAt mS_X4_byteAt lenM roM snM 2 0 tbX4_byteAt ct_X4_byteAt
noncomputable def eX4_byteAt_0 (n : Nat)  (x1 : Int32) (z : mm_S) : Option mm_R := go_X4_byteAt n 0 [(0, mm_P 4 0), (1, mm_I x1)] [] z
set_option maxRecDepth 100000 in
theorem qX4_byteAt_0 (n : Nat)  (x1 : Int32) (z : mm_S) : eX4_byteAt_0 (n + 1) x1 z = (if (z.1 0 18) ≤ x1 then some (some (mm_I (-1)), z) else if x1 < 0 ∨ 120 ≤ Int32.toNatClampNeg x1 then none else some (some (mm_I (z.1 13 (Int32.toNatClampNeg x1))), z)) := rfl
def rm_X4_byteAt : Room := { frames := 0, cells := 0, slots := 0, locals := 0 }
noncomputable def f_X4_byteAt (as : List mm_V) (z : mm_S) (o : mm_R) : Prop := (as.map mm_cat).sum ≤ 2 ∧ ∃ n, go_X4_byteAt n 0 (mm_ar 0 as) [] z = some o
theorem M_X4_byteAt : mm_M lyTM lyFA lenM snM 22 22 17 roM rsA nfA nmA [] yX4_byteAt cX4_byteAt 2 (some .int) rm_X4_byteAt f_X4_byteAt :=
  mm_met (rt := 0) (by decide +kernel) ⟨fun h => rfl, fun h => absurd h (by decide), fun h => absurd h (by decide), fun h => absurd h (by decide)⟩ tbX4_byteAt_ok hsnM okFX4 okLX4 (fun _ h => absurd h List.not_mem_nil) (fun _ _ _ _ => rfl) (fun _ _ _ _ => rfl) (fun _ h => absurd h List.not_mem_nil) (fun _ h => absurd h List.not_mem_nil)
noncomputable def sX4_byteAt_0 (x1 : Int32) (z : mm_S) : Option (Int32 × mm_S) := if (z.1 0 18) ≤ x1 then some ((-1), z) else if x1 < 0 ∨ 120 ≤ Int32.toNatClampNeg x1 then none else some ((z.1 13 (Int32.toNatClampNeg x1)), z)
theorem kX4_byteAt_0 (x1 : Int32) (z : mm_S) (oo : mm_R) : mm_Xs (sX4_byteAt_0 x1 z) (fun v => (fun v : Int32 × mm_S => ((some (mm_I v.1), v.2) : mm_R)) v = oo) (fun n => eX4_byteAt_0 n x1 z) oo :=
  xs_row (fun n => qX4_byteAt_0 n x1 z) (xs_if (xs_v fun hc => ⟨0, congrArg some hc⟩) (xs_if xs_n (xs_v fun hc => ⟨0, congrArg some hc⟩)))
noncomputable def sX4_byteAt (x1 : Int32) (z : mm_S) : Option (Int32 × mm_S) := sX4_byteAt_0 x1 z
theorem sp_X4_byteAt (x1 : Int32) (z : mm_S) (hk : ∀ v ∈ [mm_P 4 0, mm_I x1], mm_ok 22 lyTM 22 17 v) (q : Int32 × mm_S) (hq : sX4_byteAt x1 z = some q) : f_X4_byteAt [mm_P 4 0, mm_I x1] z (some (mm_I q.1), q.2) := ⟨Nat.le_of_ble_eq_true rfl, kX4_byteAt_0 x1 z _ q hq rfl⟩
noncomputable def clo_X4_byteAt (as : List mm_V) (z : mm_S) (kk : Option mm_V → mm_S → Option mm_R) : Option mm_R := mm_pr as fun t o0 as => bif Nat.beq t 4 then mm_pi as fun a1 as => (match as with | [] => (sX4_byteAt a1 z).bind fun q => kk (some (mm_I q.1)) q.2 | _ => none) else none
theorem cs_X4_byteAt : mm_cs lyTM 22 22 17 f_X4_byteAt clo_X4_byteAt := by
  intro as z K o hk h
  obtain ⟨t0, o0, r0, rfl, g0⟩ := mm_pr_e h
  obtain ⟨b0, k0⟩ := mm_bif_e g0
  obtain rfl := Nat.eq_of_beq_eq_true b0
  obtain ⟨a1, r1, rfl, g1⟩ := mm_pi_e k0
  rcases r1 with _ | ⟨u, w⟩
  rotate_left
  · cases g1
  obtain rfl : o0 = 0 := ok4 (hk (mm_P 4 o0) (by simp))
  obtain ⟨q, hq, hq2⟩ := Option.bind_eq_some_iff.mp g1
  exact ⟨_, _, sp_X4_byteAt a1 z hk q hq, fun v hv => by cases hv; exact Or.inl ⟨_, rfl⟩, hq2⟩
theorem sV_X4_byteAt {own : String} {R : Room} {ar : Nat → Nat} {k : Nat} (hlink : Cond.methodLink own k yX4_byteAt ∈ lw_gd ∨ ∃ host, (own, k, yX4_byteAt, host) ∈ nmA) (har : ar k = 2) (hr : 1 ≤ R.frames ∧ 21 ≤ R.locals) : mm_okV lyTM lyFA lenM snM 22 22 17 roM rsA nfA nmA [] own R ar k clo_X4_byteAt := by
  refine ⟨yX4_byteAt, cX4_byteAt, 2, some .int, rm_X4_byteAt, f_X4_byteAt, 4, 1, (RX4, TX4, 36), M_X4_byteAt, cs_X4_byteAt, hlink, ⟨wv_X4_byteAt, wz_X4_byteAt, wi_X4_byteAt, wc_X4_byteAt⟩, ⟨by decide +kernel, by decide +kernel, by decide +kernel⟩, har, ⟨rfl, rfl, by decide⟩, ?_, ⟨rfl, rfl, hr.1, hr.2⟩⟩
  intro as z K o h
  obtain ⟨t0, o0, r0, rfl, g0⟩ := mm_pr_e h
  obtain ⟨b0, k0⟩ := mm_bif_e g0
  obtain rfl := Nat.eq_of_beq_eq_true b0
  exact ⟨_, _, rfl⟩
-- X4_next
noncomputable def lV_X4_next : List (Nat × (List mm_V → mm_S → (Option mm_V → mm_S → Option mm_R) → Option mm_R)) := [(314, clo_X4_byteAt)]
noncomputable def mV_X4_next (k : Nat) (as : List mm_V) (z : mm_S) (kk : Option mm_V → mm_S → Option mm_R) : Option mm_R := match mm_at lV_X4_next k with
  | some f => f as z kk
  | none => none
noncomputable def arV_X4_next (k : Nat) : Nat := (mm_at [(314, 2)] k).getD 0
noncomputable def lS_X4_next : List (Nat × (List mm_V → mm_S → (Option mm_V → mm_S → Option mm_R) → Option mm_R)) := [(106, clo_X4_within), (202, mm_mn)]
noncomputable def mS_X4_next (k : Nat) (as : List mm_V) (z : mm_S) (kk : Option mm_V → mm_S → Option mm_R) : Option mm_R := match mm_at lS_X4_next k with
  | some f => f as z kk
  | none => none
noncomputable def arS_X4_next (k : Nat) : Nat := (mm_at [(106, 3), (202, 2)] k).getD 0
def ct_X4_next : List (Nat × List Nat) := [(8, [0]), (21, [0]), (31, [0]), (43, [0, 1]), (51, [0, 1]), (56, [0, 1]), (65, []), (84, [0]), (102, [0]), (112, [0]), (131, [0]), (149, [0]), (178, [0]), (188, [0]), (196, [0]), (206, [])]
noncomputable def go_X4_next : Nat → mm_K := mm_go (fun k => mm_at flX4 k) (fun k => mm_at clX4 k) (fun k => mm_at glX4 k) arV_X4_next arS_X4_next mV_X4_next mS_X4_next lenM roM snM 2 3 tbX4_next ct_X4_next
noncomputable def eX4_next_0 (n : Nat)  (z : mm_S) : Option mm_R := go_X4_next n 0 [(0, mm_P 4 0)] [] z
noncomputable def eX4_next_8 (n : Nat)  (z : mm_S) : Option mm_R := go_X4_next n 8 [(0, mm_P 4 0)] [] z
noncomputable def eX4_next_43 (n : Nat)  (y1 : Int32) (z : mm_S) : Option mm_R := go_X4_next n 43 [(0, mm_P 4 0), (1, mm_I y1)] [] z
noncomputable def eX4_next_21 (n : Nat)  (z : mm_S) : Option mm_R := go_X4_next n 21 [(0, mm_P 4 0)] [] z
noncomputable def eX4_next_51 (n : Nat)  (y1 : Int32) (z : mm_S) : Option mm_R := go_X4_next n 51 [(0, mm_P 4 0), (1, mm_I y1)] [] z
noncomputable def eX4_next_31 (n : Nat)  (z : mm_S) : Option mm_R := go_X4_next n 31 [(0, mm_P 4 0)] [] z
noncomputable def eX4_next_56 (n : Nat)  (y1 : Int32) (z : mm_S) : Option mm_R := go_X4_next n 56 [(0, mm_P 4 0), (1, mm_I y1)] [] z
noncomputable def eX4_next_196 (n : Nat)  (z : mm_S) : Option mm_R := go_X4_next n 196 [(0, mm_P 4 0)] [] z
noncomputable def eX4_next_131 (n : Nat)  (z : mm_S) : Option mm_R := go_X4_next n 131 [(0, mm_P 4 0)] [] z
noncomputable def eX4_next_84 (n : Nat)  (z : mm_S) : Option mm_R := go_X4_next n 84 [(0, mm_P 4 0)] [] z
noncomputable def eX4_next_65 (n : Nat)  (z : mm_S) : Option mm_R := go_X4_next n 65 [] [] z
noncomputable def eX4_next_206 (n : Nat)  (z : mm_S) : Option mm_R := go_X4_next n 206 [] [] z
noncomputable def eX4_next_149 (n : Nat)  (z : mm_S) : Option mm_R := go_X4_next n 149 [(0, mm_P 4 0)] [] z
noncomputable def eX4_next_102 (n : Nat)  (z : mm_S) : Option mm_R := go_X4_next n 102 [(0, mm_P 4 0)] [] z
noncomputable def eX4_next_178 (n : Nat)  (z : mm_S) : Option mm_R := go_X4_next n 178 [(0, mm_P 4 0)] [] z
noncomputable def eX4_next_112 (n : Nat)  (z : mm_S) : Option mm_R := go_X4_next n 112 [(0, mm_P 4 0)] [] z
noncomputable def eX4_next_188 (n : Nat)  (z : mm_S) : Option mm_R := go_X4_next n 188 [(0, mm_P 4 0)] [] z
set_option maxRecDepth 100000 in
theorem qX4_next_0 (n : Nat)  (z : mm_S) : eX4_next_0 (n + 1)  z = (eX4_next_8 n  ((mm_ui z.1 0 19 (z.1 0 20)), z.2)) := rfl
set_option maxRecDepth 100000 in
theorem qX4_next_8 (n : Nat)  (z : mm_S) : eX4_next_8 (n + 1)  z = ((sX4_byteAt (z.1 0 19) z).bind fun q1 => if q1.1 = 32 then eX4_next_21 n  q1.2 else (sX4_byteAt (q1.2.1 0 19) q1.2).bind fun q2 => eX4_next_43 n q2.1 q2.2) := rfl
set_option maxRecDepth 100000 in
theorem qX4_next_43 (n : Nat)  (y1 : Int32) (z : mm_S) : eX4_next_43 (n + 1) y1 z = (eX4_next_51 n y1 ((mm_ui z.1 0 20 (z.1 0 19)), z.2)) := rfl
set_option maxRecDepth 100000 in
theorem qX4_next_21 (n : Nat)  (z : mm_S) : eX4_next_21 (n + 1)  z = (eX4_next_31 n  ((mm_ui z.1 0 19 ((z.1 0 19) + 1)), z.2)) := rfl
set_option maxRecDepth 100000 in
theorem qX4_next_51 (n : Nat)  (y1 : Int32) (z : mm_S) : eX4_next_51 (n + 1) y1 z = (eX4_next_56 n y1 ((mm_ui z.1 0 22 0), z.2)) := rfl
set_option maxRecDepth 100000 in
theorem qX4_next_31 (n : Nat)  (z : mm_S) : eX4_next_31 (n + 1)  z = (eX4_next_8 n  z) := rfl
set_option maxRecDepth 100000 in
theorem qX4_next_56 (n : Nat)  (y1 : Int32) (z : mm_S) : eX4_next_56 (n + 1) y1 z = (if 0 ≤ y1 then if (pX4_within y1 97 122) = 0 then if (pX4_within y1 48 57) = 0 then eX4_next_196 n  ((mm_ui z.1 0 21 3), z.2) else eX4_next_131 n  ((mm_ui z.1 0 21 2), z.2) else eX4_next_84 n  ((mm_ui z.1 0 21 1), z.2) else eX4_next_65 n  ((mm_ui z.1 0 21 0), z.2)) := rfl
set_option maxRecDepth 100000 in
theorem qX4_next_196 (n : Nat)  (z : mm_S) : eX4_next_196 (n + 1)  z = (eX4_next_206 n  ((mm_ui z.1 0 20 ((z.1 0 20) + 1)), z.2)) := rfl
set_option maxRecDepth 100000 in
theorem qX4_next_131 (n : Nat)  (z : mm_S) : eX4_next_131 (n + 1)  z = ((sX4_byteAt (z.1 0 20) z).bind fun q3 => if (pX4_within q3.1 48 57) = 0 then eX4_next_206 n  q3.2 else eX4_next_149 n  q3.2) := rfl
set_option maxRecDepth 100000 in
theorem qX4_next_84 (n : Nat)  (z : mm_S) : eX4_next_84 (n + 1)  z = ((sX4_byteAt (z.1 0 20) z).bind fun q4 => if (pX4_within q4.1 97 122) = 0 then eX4_next_206 n  q4.2 else eX4_next_102 n  q4.2) := rfl
set_option maxRecDepth 100000 in
theorem qX4_next_65 (n : Nat)  (z : mm_S) : eX4_next_65 (n + 1)  z = (eX4_next_206 n  z) := rfl
set_option maxRecDepth 100000 in
theorem qX4_next_206 (n : Nat)  (z : mm_S) : eX4_next_206 (n + 1)  z = (some (none, z)) := rfl
set_option maxRecDepth 100000 in
theorem qX4_next_149 (n : Nat)  (z : mm_S) : eX4_next_149 (n + 1)  z = ((sX4_byteAt (z.1 0 20) z).bind fun q5 => let u6 : mm_S := ((mm_ui q5.2.1 0 22 (mm_min 1000 (((10 * (z.1 0 22)) + q5.1) - 48))), q5.2.2); eX4_next_178 n  u6) := rfl
set_option maxRecDepth 100000 in
theorem qX4_next_102 (n : Nat)  (z : mm_S) : eX4_next_102 (n + 1)  z = (eX4_next_112 n  ((mm_ui z.1 0 20 ((z.1 0 20) + 1)), z.2)) := rfl
set_option maxRecDepth 100000 in
theorem qX4_next_178 (n : Nat)  (z : mm_S) : eX4_next_178 (n + 1)  z = (eX4_next_188 n  ((mm_ui z.1 0 20 ((z.1 0 20) + 1)), z.2)) := rfl
set_option maxRecDepth 100000 in
theorem qX4_next_112 (n : Nat)  (z : mm_S) : eX4_next_112 (n + 1)  z = (eX4_next_84 n  z) := rfl
set_option maxRecDepth 100000 in
theorem qX4_next_188 (n : Nat)  (z : mm_S) : eX4_next_188 (n + 1)  z = (eX4_next_131 n  z) := rfl
def rm_X4_next : Room := { frames := 1, cells := 0, slots := 0, locals := 22 }
noncomputable def f_X4_next (as : List mm_V) (z : mm_S) (o : mm_R) : Prop := (as.map mm_cat).sum ≤ 2 ∧ ∃ n, go_X4_next n 0 (mm_ar 0 as) [] z = some o
theorem M_X4_next : mm_M lyTM lyFA lenM snM 22 22 17 roM rsA nfA nmA [] yX4_next cX4_next 2 (none) rm_X4_next f_X4_next :=
  mm_met (rt := 3) (by decide +kernel) ⟨fun h => absurd h (by decide), fun h => absurd h (by decide), fun h => absurd h (by decide), fun h => rfl⟩ tbX4_next_ok hsnM okFX4 okLX4 (fun _ h => absurd h List.not_mem_nil) (fun _ _ _ _ => rfl) (fun _ _ _ _ => rfl) (List.forall_mem_cons.mpr ⟨sV_X4_byteAt (Or.inl lk_X4_314) rfl ⟨by decide, by decide⟩, fun _ h => absurd h List.not_mem_nil⟩) (List.forall_mem_cons.mpr ⟨sS_X4_within (Or.inl lk_X4_106) rfl ⟨by decide, by decide⟩, List.forall_mem_cons.mpr ⟨Or.inr (Or.inr ⟨Or.inr ⟨rfl, lk_X4_202, ws_min, wc_min⟩, wi_math, by decide, by decide, rfl⟩), fun _ h => absurd h List.not_mem_nil⟩⟩)
noncomputable def sX4_next_31  (z : mm_S) : Option ((mm_S) ⊕ (mm_S)) := some (.inl z)
theorem kX4_next_31  (z : mm_S) (oo : mm_R) : mm_Xs (sX4_next_31  z) (mm_mt (fun x : mm_S => ∃ n, eX4_next_8 n  x = some oo) (fun v => (fun v : mm_S => ((none, v) : mm_R)) v = oo)) (fun n => eX4_next_31 n  z) oo :=
  xs_row (fun n => qX4_next_31 n z) (xs_v fun hc => hc)
noncomputable def sX4_next_21  (z : mm_S) : Option ((mm_S) ⊕ (mm_S)) := (sX4_next_31 ((mm_ui z.1 0 19 ((z.1 0 19) + 1)), z.2))
theorem kX4_next_21  (z : mm_S) (oo : mm_R) : mm_Xs (sX4_next_21  z) (mm_mt (fun x : mm_S => ∃ n, eX4_next_8 n  x = some oo) (fun v => (fun v : mm_S => ((none, v) : mm_R)) v = oo)) (fun n => eX4_next_21 n  z) oo :=
  xs_row (fun n => qX4_next_21 n z) (kX4_next_31 ((mm_ui z.1 0 19 ((z.1 0 19) + 1)), z.2) oo)
noncomputable def sX4_next_206  (z : mm_S) : Option (mm_S) := some (z)
theorem kX4_next_206  (z : mm_S) (oo : mm_R) : mm_Xs (sX4_next_206  z) (fun v => (fun v : mm_S => ((none, v) : mm_R)) v = oo) (fun n => eX4_next_206 n  z) oo :=
  xs_row (fun n => qX4_next_206 n z) (xs_v fun hc => ⟨0, congrArg some hc⟩)
noncomputable def sX4_next_65  (z : mm_S) : Option (mm_S) := (sX4_next_206 z)
theorem kX4_next_65  (z : mm_S) (oo : mm_R) : mm_Xs (sX4_next_65  z) (fun v => (fun v : mm_S => ((none, v) : mm_R)) v = oo) (fun n => eX4_next_65 n  z) oo :=
  xs_row (fun n => qX4_next_65 n z) (kX4_next_206 z oo)
noncomputable def sX4_next_112  (z : mm_S) : Option ((mm_S) ⊕ (mm_S)) := some (.inl z)
theorem kX4_next_112  (z : mm_S) (oo : mm_R) : mm_Xs (sX4_next_112  z) (mm_mt (fun x : mm_S => ∃ n, eX4_next_84 n  x = some oo) (fun v => (fun v : mm_S => ((none, v) : mm_R)) v = oo)) (fun n => eX4_next_112 n  z) oo :=
  xs_row (fun n => qX4_next_112 n z) (xs_v fun hc => hc)
noncomputable def sX4_next_102  (z : mm_S) : Option ((mm_S) ⊕ (mm_S)) := (sX4_next_112 ((mm_ui z.1 0 20 ((z.1 0 20) + 1)), z.2))
theorem kX4_next_102  (z : mm_S) (oo : mm_R) : mm_Xs (sX4_next_102  z) (mm_mt (fun x : mm_S => ∃ n, eX4_next_84 n  x = some oo) (fun v => (fun v : mm_S => ((none, v) : mm_R)) v = oo)) (fun n => eX4_next_102 n  z) oo :=
  xs_row (fun n => qX4_next_102 n z) (kX4_next_112 ((mm_ui z.1 0 20 ((z.1 0 20) + 1)), z.2) oo)
noncomputable def lX4_next_84 (s : mm_S) : Option ((mm_S) ⊕ (mm_S)) := (sX4_byteAt (s.1 0 20) s).bind fun q4 => if (pX4_within q4.1 97 122) = 0 then ((sX4_next_206 q4.2).map fun w => (Sum.inr w)) else (sX4_next_102 q4.2)
noncomputable def sX4_next_84  (z : mm_S) : Option (mm_S) := mm_wh (lX4_next_84 ) mm_fu z
theorem kX4_next_84  (z : mm_S) (oo : mm_R) : mm_Xs (sX4_next_84  z) (fun v => (fun v : mm_S => ((none, v) : mm_R)) v = oo) (fun n => eX4_next_84 n  z) oo :=
  xs_wh (stp := lX4_next_84 ) (o := oo) (E := (fun (s : mm_S) n => eX4_next_84 n  s)) (C := (fun v => (fun v : mm_S => ((none, v) : mm_R)) v = oo)) (fun s => xs_row (fun n => qX4_next_84 n s) (xs_bd fun q4 => (xs_if (xs_map (f := fun w => (Sum.inr w)) (kX4_next_206 q4.2 oo) (fun _ h => h)) (kX4_next_102 q4.2 oo)))) mm_fu z
noncomputable def sX4_next_188  (z : mm_S) : Option ((mm_S) ⊕ (mm_S)) := some (.inl z)
theorem kX4_next_188  (z : mm_S) (oo : mm_R) : mm_Xs (sX4_next_188  z) (mm_mt (fun x : mm_S => ∃ n, eX4_next_131 n  x = some oo) (fun v => (fun v : mm_S => ((none, v) : mm_R)) v = oo)) (fun n => eX4_next_188 n  z) oo :=
  xs_row (fun n => qX4_next_188 n z) (xs_v fun hc => hc)
noncomputable def sX4_next_178  (z : mm_S) : Option ((mm_S) ⊕ (mm_S)) := (sX4_next_188 ((mm_ui z.1 0 20 ((z.1 0 20) + 1)), z.2))
theorem kX4_next_178  (z : mm_S) (oo : mm_R) : mm_Xs (sX4_next_178  z) (mm_mt (fun x : mm_S => ∃ n, eX4_next_131 n  x = some oo) (fun v => (fun v : mm_S => ((none, v) : mm_R)) v = oo)) (fun n => eX4_next_178 n  z) oo :=
  xs_row (fun n => qX4_next_178 n z) (kX4_next_188 ((mm_ui z.1 0 20 ((z.1 0 20) + 1)), z.2) oo)
noncomputable def sX4_next_149  (z : mm_S) : Option ((mm_S) ⊕ (mm_S)) := (sX4_byteAt (z.1 0 20) z).bind fun q5 => let u6 : mm_S := ((mm_ui q5.2.1 0 22 (mm_min 1000 (((10 * (z.1 0 22)) + q5.1) - 48))), q5.2.2); (sX4_next_178 u6)
theorem kX4_next_149  (z : mm_S) (oo : mm_R) : mm_Xs (sX4_next_149  z) (mm_mt (fun x : mm_S => ∃ n, eX4_next_131 n  x = some oo) (fun v => (fun v : mm_S => ((none, v) : mm_R)) v = oo)) (fun n => eX4_next_149 n  z) oo :=
  xs_row (fun n => qX4_next_149 n z) (xs_bd fun q5 => (xs_let (((mm_ui q5.2.1 0 22 (mm_min 1000 (((10 * (z.1 0 22)) + q5.1) - 48))), q5.2.2)) (S := fun (u6 : mm_S) => ((sX4_next_178 u6) : Option ((mm_S) ⊕ (mm_S)))) (T := fun (u6 : mm_S) n => eX4_next_178 n  u6) (fun u6 => (kX4_next_178 u6 oo))))
noncomputable def lX4_next_131 (s : mm_S) : Option ((mm_S) ⊕ (mm_S)) := (sX4_byteAt (s.1 0 20) s).bind fun q3 => if (pX4_within q3.1 48 57) = 0 then ((sX4_next_206 q3.2).map fun w => (Sum.inr w)) else (sX4_next_149 q3.2)
noncomputable def sX4_next_131  (z : mm_S) : Option (mm_S) := mm_wh (lX4_next_131 ) mm_fu z
theorem kX4_next_131  (z : mm_S) (oo : mm_R) : mm_Xs (sX4_next_131  z) (fun v => (fun v : mm_S => ((none, v) : mm_R)) v = oo) (fun n => eX4_next_131 n  z) oo :=
  xs_wh (stp := lX4_next_131 ) (o := oo) (E := (fun (s : mm_S) n => eX4_next_131 n  s)) (C := (fun v => (fun v : mm_S => ((none, v) : mm_R)) v = oo)) (fun s => xs_row (fun n => qX4_next_131 n s) (xs_bd fun q3 => (xs_if (xs_map (f := fun w => (Sum.inr w)) (kX4_next_206 q3.2 oo) (fun _ h => h)) (kX4_next_149 q3.2 oo)))) mm_fu z
noncomputable def sX4_next_196  (z : mm_S) : Option (mm_S) := (sX4_next_206 ((mm_ui z.1 0 20 ((z.1 0 20) + 1)), z.2))
theorem kX4_next_196  (z : mm_S) (oo : mm_R) : mm_Xs (sX4_next_196  z) (fun v => (fun v : mm_S => ((none, v) : mm_R)) v = oo) (fun n => eX4_next_196 n  z) oo :=
  xs_row (fun n => qX4_next_196 n z) (kX4_next_206 ((mm_ui z.1 0 20 ((z.1 0 20) + 1)), z.2) oo)
noncomputable def sX4_next_56 (y1 : Int32) (z : mm_S) : Option (mm_S) := if 0 ≤ y1 then if (pX4_within y1 97 122) = 0 then if (pX4_within y1 48 57) = 0 then (sX4_next_196 ((mm_ui z.1 0 21 3), z.2)) else (sX4_next_131 ((mm_ui z.1 0 21 2), z.2)) else (sX4_next_84 ((mm_ui z.1 0 21 1), z.2)) else (sX4_next_65 ((mm_ui z.1 0 21 0), z.2))
theorem kX4_next_56 (y1 : Int32) (z : mm_S) (oo : mm_R) : mm_Xs (sX4_next_56 y1 z) (fun v => (fun v : mm_S => ((none, v) : mm_R)) v = oo) (fun n => eX4_next_56 n y1 z) oo :=
  xs_row (fun n => qX4_next_56 n y1 z) (xs_if (xs_if (xs_if (kX4_next_196 ((mm_ui z.1 0 21 3), z.2) oo) (kX4_next_131 ((mm_ui z.1 0 21 2), z.2) oo)) (kX4_next_84 ((mm_ui z.1 0 21 1), z.2) oo)) (kX4_next_65 ((mm_ui z.1 0 21 0), z.2) oo))
noncomputable def sX4_next_51 (y1 : Int32) (z : mm_S) : Option (mm_S) := (sX4_next_56 y1 ((mm_ui z.1 0 22 0), z.2))
theorem kX4_next_51 (y1 : Int32) (z : mm_S) (oo : mm_R) : mm_Xs (sX4_next_51 y1 z) (fun v => (fun v : mm_S => ((none, v) : mm_R)) v = oo) (fun n => eX4_next_51 n y1 z) oo :=
  xs_row (fun n => qX4_next_51 n y1 z) (kX4_next_56 y1 ((mm_ui z.1 0 22 0), z.2) oo)
noncomputable def sX4_next_43 (y1 : Int32) (z : mm_S) : Option (mm_S) := (sX4_next_51 y1 ((mm_ui z.1 0 20 (z.1 0 19)), z.2))
theorem kX4_next_43 (y1 : Int32) (z : mm_S) (oo : mm_R) : mm_Xs (sX4_next_43 y1 z) (fun v => (fun v : mm_S => ((none, v) : mm_R)) v = oo) (fun n => eX4_next_43 n y1 z) oo :=
  xs_row (fun n => qX4_next_43 n y1 z) (kX4_next_51 y1 ((mm_ui z.1 0 20 (z.1 0 19)), z.2) oo)
noncomputable def lX4_next_8 (s : mm_S) : Option ((mm_S) ⊕ (mm_S)) := (sX4_byteAt (s.1 0 19) s).bind fun q1 => if q1.1 = 32 then (sX4_next_21 q1.2) else (sX4_byteAt (q1.2.1 0 19) q1.2).bind fun q2 => ((sX4_next_43 q2.1 q2.2).map fun w => (Sum.inr w))
noncomputable def sX4_next_8  (z : mm_S) : Option (mm_S) := mm_wh (lX4_next_8 ) mm_fu z
theorem kX4_next_8  (z : mm_S) (oo : mm_R) : mm_Xs (sX4_next_8  z) (fun v => (fun v : mm_S => ((none, v) : mm_R)) v = oo) (fun n => eX4_next_8 n  z) oo :=
  xs_wh (stp := lX4_next_8 ) (o := oo) (E := (fun (s : mm_S) n => eX4_next_8 n  s)) (C := (fun v => (fun v : mm_S => ((none, v) : mm_R)) v = oo)) (fun s => xs_row (fun n => qX4_next_8 n s) (xs_bd fun q1 => (xs_if (kX4_next_21 q1.2 oo) (xs_bd fun q2 => (xs_map (f := fun w => (Sum.inr w)) (kX4_next_43 q2.1 q2.2 oo) (fun _ h => h)))))) mm_fu z
noncomputable def sX4_next_0  (z : mm_S) : Option (mm_S) := (sX4_next_8 ((mm_ui z.1 0 19 (z.1 0 20)), z.2))
theorem kX4_next_0  (z : mm_S) (oo : mm_R) : mm_Xs (sX4_next_0  z) (fun v => (fun v : mm_S => ((none, v) : mm_R)) v = oo) (fun n => eX4_next_0 n  z) oo :=
  xs_row (fun n => qX4_next_0 n z) (kX4_next_8 ((mm_ui z.1 0 19 (z.1 0 20)), z.2) oo)
noncomputable def sX4_next  (z : mm_S) : Option (mm_S) := sX4_next_0  z
theorem sp_X4_next  (z : mm_S) (hk : ∀ v ∈ [mm_P 4 0], mm_ok 22 lyTM 22 17 v) (q : mm_S) (hq : sX4_next  z = some q) : f_X4_next [mm_P 4 0] z (none, q) := ⟨Nat.le_of_ble_eq_true rfl, kX4_next_0  z _ q hq rfl⟩
noncomputable def clo_X4_next (as : List mm_V) (z : mm_S) (kk : Option mm_V → mm_S → Option mm_R) : Option mm_R := mm_pr as fun t o0 as => bif Nat.beq t 4 then (match as with | [] => (sX4_next z).bind fun q => kk none q | _ => none) else none
theorem cs_X4_next : mm_cs lyTM 22 22 17 f_X4_next clo_X4_next := by
  intro as z K o hk h
  obtain ⟨t0, o0, r0, rfl, g0⟩ := mm_pr_e h
  obtain ⟨b0, k0⟩ := mm_bif_e g0
  obtain rfl := Nat.eq_of_beq_eq_true b0
  rcases r0 with _ | ⟨u, w⟩
  rotate_left
  · cases k0
  obtain rfl : o0 = 0 := ok4 (hk (mm_P 4 o0) (by simp))
  obtain ⟨q, hq, hq2⟩ := Option.bind_eq_some_iff.mp k0
  exact ⟨_, _, sp_X4_next  z hk q hq, (fun v hv => by cases hv), hq2⟩
theorem sV_X4_next {own : String} {R : Room} {ar : Nat → Nat} {k : Nat} (hlink : Cond.methodLink own k yX4_next ∈ lw_gd ∨ ∃ host, (own, k, yX4_next, host) ∈ nmA) (har : ar k = 1) (hr : 2 ≤ R.frames ∧ 43 ≤ R.locals) : mm_okV lyTM lyFA lenM snM 22 22 17 roM rsA nfA nmA [] own R ar k clo_X4_next := by
  refine ⟨yX4_next, cX4_next, 2, none, rm_X4_next, f_X4_next, 4, 0, (RX4, TX4, 36), M_X4_next, cs_X4_next, hlink, ⟨wv_X4_next, wz_X4_next, wi_X4_next, wc_X4_next⟩, ⟨by decide +kernel, by decide +kernel, by decide +kernel⟩, har, ⟨rfl, rfl, by decide⟩, ?_, ⟨rfl, rfl, hr.1, hr.2⟩⟩
  intro as z K o h
  obtain ⟨t0, o0, r0, rfl, g0⟩ := mm_pr_e h
  obtain ⟨b0, k0⟩ := mm_bif_e g0
  obtain rfl := Nat.eq_of_beq_eq_true b0
  exact ⟨_, _, rfl⟩
