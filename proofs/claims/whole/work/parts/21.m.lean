-- X4_isHole
noncomputable def lV_X4_isHole : List (Nat × (List mm_V → mm_S → (Option mm_V → mm_S → Option mm_R) → Option mm_R)) := [(158, clo_X4_stuffIs)]
noncomputable def mV_X4_isHole (k : Nat) (as : List mm_V) (z : mm_S) (kk : Option mm_V → mm_S → Option mm_R) : Option mm_R := match mm_at lV_X4_isHole k with
  | some f => f as z kk
  | none => none
noncomputable def arV_X4_isHole (k : Nat) : Nat := (mm_at [(158, 2)] k).getD 0
noncomputable def lS_X4_isHole : List (Nat × (List mm_V → mm_S → (Option mm_V → mm_S → Option mm_R) → Option mm_R)) := []
noncomputable def mS_X4_isHole (k : Nat) (as : List mm_V) (z : mm_S) (kk : Option mm_V → mm_S → Option mm_R) : Option mm_R := match mm_at lS_X4_isHole k with
  | some f => f as z kk
  | none => none
noncomputable def arS_X4_isHole (k : Nat) : Nat := (mm_at [] k).getD 0
def ct_X4_isHole : List (Nat × List Nat) := [(9, [])]
noncomputable def go_X4_isHole : Nat → mm_K := mm_go (fun k => mm_at flX4 k) (fun k => mm_at clX4 k) (fun k => mm_at glX4 k) arV_X4_isHole arS_X4_isHole mV_X4_isHole mS_X4_isHole lenM roM snM 2 1 tbX4_isHole ct_X4_isHole
noncomputable def eX4_isHole_0 (n : Nat)  (x1 : Int32) (z : mm_S) : Option mm_R := go_X4_isHole n 0 [(0, mm_P 4 0), (1, mm_I x1)] [] z
noncomputable def eX4_isHole_9 (n : Nat)  (z : mm_S) : Option mm_R := go_X4_isHole n 9 [] [] z
set_option maxRecDepth 100000 in
theorem qX4_isHole_0 (n : Nat)  (x1 : Int32) (z : mm_S) : eX4_isHole_0 (n + 1) x1 z = ((sX4_stuffIs x1 z).bind fun q1 => if q1.1 = 2 then eX4_isHole_9 n  q1.2 else some (some (mm_I 0), q1.2)) := rfl
set_option maxRecDepth 100000 in
theorem qX4_isHole_9 (n : Nat)  (z : mm_S) : eX4_isHole_9 (n + 1)  z = (some (some (mm_I 1), z)) := rfl
def rm_X4_isHole : Room := { frames := 1, cells := 0, slots := 0, locals := 21 }
noncomputable def f_X4_isHole (as : List mm_V) (z : mm_S) (o : mm_R) : Prop := (as.map mm_cat).sum ≤ 2 ∧ ∃ n, go_X4_isHole n 0 (mm_ar 0 as) [] z = some o
theorem M_X4_isHole : mm_M lyTM lyFA lenM snM 22 22 17 roM rsA nfA nmA [] yX4_isHole cX4_isHole 2 (some .boolean) rm_X4_isHole f_X4_isHole :=
  mm_met (rt := 1) (by decide +kernel) ⟨fun h => absurd h (by decide), fun h => rfl, fun h => absurd h (by decide), fun h => absurd h (by decide)⟩ tbX4_isHole_ok hsnM okFX4 okLX4 (fun _ h => absurd h List.not_mem_nil) (fun _ _ _ _ => rfl) (fun _ _ _ _ => rfl) (List.forall_mem_cons.mpr ⟨sV_X4_stuffIs (Or.inl lk_X4_158) rfl ⟨by decide, by decide⟩, fun _ h => absurd h List.not_mem_nil⟩) (fun _ h => absurd h List.not_mem_nil)
noncomputable def sX4_isHole_9  (z : mm_S) : Option (Int32 × mm_S) := some (1, z)
theorem kX4_isHole_9  (z : mm_S) (oo : mm_R) : mm_Xs (sX4_isHole_9  z) (fun v => (fun v : Int32 × mm_S => ((some (mm_I v.1), v.2) : mm_R)) v = oo) (fun n => eX4_isHole_9 n  z) oo :=
  xs_row (fun n => qX4_isHole_9 n z) (xs_v fun hc => ⟨0, congrArg some hc⟩)
noncomputable def sX4_isHole_0 (x1 : Int32) (z : mm_S) : Option (Int32 × mm_S) := (sX4_stuffIs x1 z).bind fun q1 => if q1.1 = 2 then (sX4_isHole_9 q1.2) else some (0, q1.2)
theorem kX4_isHole_0 (x1 : Int32) (z : mm_S) (oo : mm_R) : mm_Xs (sX4_isHole_0 x1 z) (fun v => (fun v : Int32 × mm_S => ((some (mm_I v.1), v.2) : mm_R)) v = oo) (fun n => eX4_isHole_0 n x1 z) oo :=
  xs_row (fun n => qX4_isHole_0 n x1 z) (xs_bd fun q1 => (xs_if (kX4_isHole_9 q1.2 oo) (xs_v fun hc => ⟨0, congrArg some hc⟩)))
noncomputable def sX4_isHole (x1 : Int32) (z : mm_S) : Option (Int32 × mm_S) := sX4_isHole_0 x1 z
theorem sp_X4_isHole (x1 : Int32) (z : mm_S) (hk : ∀ v ∈ [mm_P 4 0, mm_I x1], mm_ok 22 lyTM 22 17 v) (q : Int32 × mm_S) (hq : sX4_isHole x1 z = some q) : f_X4_isHole [mm_P 4 0, mm_I x1] z (some (mm_I q.1), q.2) := ⟨Nat.le_of_ble_eq_true rfl, kX4_isHole_0 x1 z _ q hq rfl⟩
noncomputable def clo_X4_isHole (as : List mm_V) (z : mm_S) (kk : Option mm_V → mm_S → Option mm_R) : Option mm_R := mm_pr as fun t o0 as => bif Nat.beq t 4 then mm_pi as fun a1 as => (match as with | [] => (sX4_isHole a1 z).bind fun q => kk (some (mm_I q.1)) q.2 | _ => none) else none
theorem cs_X4_isHole : mm_cs lyTM 22 22 17 f_X4_isHole clo_X4_isHole := by
  intro as z K o hk h
  obtain ⟨t0, o0, r0, rfl, g0⟩ := mm_pr_e h
  obtain ⟨b0, k0⟩ := mm_bif_e g0
  obtain rfl := Nat.eq_of_beq_eq_true b0
  obtain ⟨a1, r1, rfl, g1⟩ := mm_pi_e k0
  rcases r1 with _ | ⟨u, w⟩
  rotate_left
  · cases g1
  obtain rfl : o0 = 0 := ok4 (hk (mm_P 4 o0) (by simp))
  obtain ⟨q, hq, hq2⟩ := Option.bind_eq_some_iff.mp g1
  exact ⟨_, _, sp_X4_isHole a1 z hk q hq, fun v hv => by cases hv; exact Or.inl ⟨_, rfl⟩, hq2⟩
theorem sV_X4_isHole {own : String} {R : Room} {ar : Nat → Nat} {k : Nat} (hlink : Cond.methodLink own k yX4_isHole ∈ lw_gd ∨ ∃ host, (own, k, yX4_isHole, host) ∈ nmA) (har : ar k = 2) (hr : 2 ≤ R.frames ∧ 42 ≤ R.locals) : mm_okV lyTM lyFA lenM snM 22 22 17 roM rsA nfA nmA [] own R ar k clo_X4_isHole := by
  refine ⟨yX4_isHole, cX4_isHole, 2, some .boolean, rm_X4_isHole, f_X4_isHole, 4, 1, (RX4, TX4, 36), M_X4_isHole, cs_X4_isHole, hlink, ⟨wv_X4_isHole, wz_X4_isHole, wi_X4_isHole, wc_X4_isHole⟩, ⟨by decide +kernel, by decide +kernel, by decide +kernel⟩, har, ⟨rfl, rfl, by decide⟩, ?_, ⟨rfl, rfl, hr.1, hr.2⟩⟩
  intro as z K o h
  obtain ⟨t0, o0, r0, rfl, g0⟩ := mm_pr_e h
  obtain ⟨b0, k0⟩ := mm_bif_e g0
  obtain rfl := Nat.eq_of_beq_eq_true b0
  exact ⟨_, _, rfl⟩
-- X4_findTimes
noncomputable def lV_X4_findTimes : List (Nat × (List mm_V → mm_S → (Option mm_V → mm_S → Option mm_R) → Option mm_R)) := [(158, clo_X4_stuffIs), (172, clo_X4_isHole)]
noncomputable def mV_X4_findTimes (k : Nat) (as : List mm_V) (z : mm_S) (kk : Option mm_V → mm_S → Option mm_R) : Option mm_R := match mm_at lV_X4_findTimes k with
  | some f => f as z kk
  | none => none
noncomputable def arV_X4_findTimes (k : Nat) : Nat := (mm_at [(158, 2), (172, 2)] k).getD 0
noncomputable def lS_X4_findTimes : List (Nat × (List mm_V → mm_S → (Option mm_V → mm_S → Option mm_R) → Option mm_R)) := [(175, clo_X4_beside), (178, clo_X4_pace)]
noncomputable def mS_X4_findTimes (k : Nat) (as : List mm_V) (z : mm_S) (kk : Option mm_V → mm_S → Option mm_R) : Option mm_R := match mm_at lS_X4_findTimes k with
  | some f => f as z kk
  | none => none
noncomputable def arS_X4_findTimes (k : Nat) : Nat := (mm_at [(175, 2), (178, 1)] k).getD 0
def ct_X4_findTimes : List (Nat × List Nat) := [(3, [0, 1, 2, 3, 4]), (17, [0, 1, 2, 3, 4]), (41, [0, 2, 3]), (44, [0, 2, 3, 4]), (55, [0, 2, 3, 4, 5]), (65, [0, 2, 3, 4, 5, 6]), (104, [0, 2, 3, 4, 5, 6, 7]), (135, [0, 2, 3, 4, 5, 6, 7, 8]), (158, [0, 2, 3, 5, 6])]
noncomputable def go_X4_findTimes : Nat → mm_K := mm_go (fun k => mm_at flX4 k) (fun k => mm_at clX4 k) (fun k => mm_at glX4 k) arV_X4_findTimes arS_X4_findTimes mV_X4_findTimes mS_X4_findTimes lenM roM snM 9 3 tbX4_findTimes ct_X4_findTimes
noncomputable def eX4_findTimes_0 (n : Nat)  (x1 : Int32) (x2 : Int32) (x3 : Nat) (z : mm_S) : Option mm_R := go_X4_findTimes n 0 [(0, mm_P 4 0), (1, mm_I x1), (2, mm_I x2), (3, mm_P 10 x3)] [] z
noncomputable def eX4_findTimes_3 (n : Nat)  (y1 : Int32) (y2 : Int32) (y3 : Nat) (y4 : Int32) (z : mm_S) : Option mm_R := go_X4_findTimes n 3 [(0, mm_P 4 0), (1, mm_I y1), (2, mm_I y2), (3, mm_P 10 y3), (4, mm_I y4)] [] z
noncomputable def eX4_findTimes_41 (n : Nat)  (y2 : Int32) (y3 : Nat) (z : mm_S) : Option mm_R := go_X4_findTimes n 41 [(0, mm_P 4 0), (2, mm_I y2), (3, mm_P 10 y3)] [] z
noncomputable def eX4_findTimes_17 (n : Nat)  (y1 : Int32) (y2 : Int32) (y3 : Nat) (y4 : Int32) (z : mm_S) : Option mm_R := go_X4_findTimes n 17 [(0, mm_P 4 0), (1, mm_I y1), (2, mm_I y2), (3, mm_P 10 y3), (4, mm_I y4)] [] z
noncomputable def eX4_findTimes_44 (n : Nat)  (y2 : Int32) (y3 : Nat) (y4 : Int32) (z : mm_S) : Option mm_R := go_X4_findTimes n 44 [(0, mm_P 4 0), (2, mm_I y2), (3, mm_P 10 y3), (4, mm_I y4)] [] z
noncomputable def eX4_findTimes_55 (n : Nat)  (y2 : Int32) (y3 : Nat) (y4 : Int32) (y5 : Int32) (z : mm_S) : Option mm_R := go_X4_findTimes n 55 [(0, mm_P 4 0), (2, mm_I y2), (3, mm_P 10 y3), (4, mm_I y4), (5, mm_I y5)] [] z
noncomputable def eX4_findTimes_65 (n : Nat)  (y2 : Int32) (y3 : Nat) (y4 : Int32) (y5 : Int32) (y6 : Int32) (z : mm_S) : Option mm_R := go_X4_findTimes n 65 [(0, mm_P 4 0), (2, mm_I y2), (3, mm_P 10 y3), (4, mm_I y4), (5, mm_I y5), (6, mm_I y6)] [] z
noncomputable def eX4_findTimes_104 (n : Nat)  (y2 : Int32) (y3 : Nat) (y4 : Int32) (y5 : Int32) (y6 : Int32) (y7 : Int32) (z : mm_S) : Option mm_R := go_X4_findTimes n 104 [(0, mm_P 4 0), (2, mm_I y2), (3, mm_P 10 y3), (4, mm_I y4), (5, mm_I y5), (6, mm_I y6), (7, mm_I y7)] [] z
noncomputable def eX4_findTimes_135 (n : Nat)  (y2 : Int32) (y3 : Nat) (y4 : Int32) (y5 : Int32) (y6 : Int32) (y7 : Int32) (y8 : Int32) (z : mm_S) : Option mm_R := go_X4_findTimes n 135 [(0, mm_P 4 0), (2, mm_I y2), (3, mm_P 10 y3), (4, mm_I y4), (5, mm_I y5), (6, mm_I y6), (7, mm_I y7), (8, mm_I y8)] [] z
noncomputable def eX4_findTimes_158 (n : Nat)  (y2 : Int32) (y3 : Nat) (y5 : Int32) (y6 : Int32) (z : mm_S) : Option mm_R := go_X4_findTimes n 158 [(0, mm_P 4 0), (2, mm_I y2), (3, mm_P 10 y3), (5, mm_I y5), (6, mm_I y6)] [] z
set_option maxRecDepth 100000 in
theorem qX4_findTimes_0 (n : Nat)  (x1 : Int32) (x2 : Int32) (x3 : Nat) (z : mm_S) : eX4_findTimes_0 (n + 1) x1 x2 x3 z = (eX4_findTimes_3 n x1 x2 x3 0 z) := rfl
set_option maxRecDepth 100000 in
theorem qX4_findTimes_3 (n : Nat)  (y1 : Int32) (y2 : Int32) (y3 : Nat) (y4 : Int32) (z : mm_S) : eX4_findTimes_3 (n + 1) y1 y2 y3 y4 z = (if 36 ≤ y4 then (sX4_isHole y1 z).bind fun q1 => if q1.1 = 0 then if y1 < 0 ∨ lenM y3 ≤ Int32.toNatClampNeg y1 then none else eX4_findTimes_41 n y2 y3 ((mm_ui q1.2.1 y3 (Int32.toNatClampNeg y1) 0), q1.2.2) else if y1 < 0 ∨ lenM y3 ≤ Int32.toNatClampNeg y1 then none else eX4_findTimes_41 n y2 y3 ((mm_ui q1.2.1 y3 (Int32.toNatClampNeg y1) 10000), q1.2.2) else if y4 < 0 ∨ lenM y3 ≤ Int32.toNatClampNeg y4 then none else eX4_findTimes_17 n y1 y2 y3 y4 ((mm_ui z.1 y3 (Int32.toNatClampNeg y4) 10000), z.2)) := rfl
set_option maxRecDepth 100000 in
theorem qX4_findTimes_41 (n : Nat)  (y2 : Int32) (y3 : Nat) (z : mm_S) : eX4_findTimes_41 (n + 1) y2 y3 z = (eX4_findTimes_44 n y2 y3 1 z) := rfl
set_option maxRecDepth 100000 in
theorem qX4_findTimes_17 (n : Nat)  (y1 : Int32) (y2 : Int32) (y3 : Nat) (y4 : Int32) (z : mm_S) : eX4_findTimes_17 (n + 1) y1 y2 y3 y4 z = (eX4_findTimes_3 n y1 y2 y3 (y4 + 1) z) := rfl
set_option maxRecDepth 100000 in
theorem qX4_findTimes_44 (n : Nat)  (y2 : Int32) (y3 : Nat) (y4 : Int32) (z : mm_S) : eX4_findTimes_44 (n + 1) y2 y3 y4 z = (if y4 = 0 then some (none, z) else eX4_findTimes_55 n y2 y3 0 0 z) := rfl
set_option maxRecDepth 100000 in
theorem qX4_findTimes_55 (n : Nat)  (y2 : Int32) (y3 : Nat) (y4 : Int32) (y5 : Int32) (z : mm_S) : eX4_findTimes_55 (n + 1) y2 y3 y4 y5 z = (if 36 ≤ y5 then eX4_findTimes_44 n y2 y3 y4 z else eX4_findTimes_65 n y2 y3 y4 y5 0 z) := rfl
set_option maxRecDepth 100000 in
theorem qX4_findTimes_65 (n : Nat)  (y2 : Int32) (y3 : Nat) (y4 : Int32) (y5 : Int32) (y6 : Int32) (z : mm_S) : eX4_findTimes_65 (n + 1) y2 y3 y4 y5 y6 z = (if 4 ≤ y6 then eX4_findTimes_55 n y2 y3 y4 (y5 + 1) z else if y5 < 0 ∨ lenM y3 ≤ Int32.toNatClampNeg y5 then none else if 10000 ≤ (z.1 y3 (Int32.toNatClampNeg y5)) then eX4_findTimes_55 n y2 y3 y4 (y5 + 1) z else if (pX4_beside y5 y6 z) < 0 then eX4_findTimes_104 n y2 y3 y4 y5 y6 (pX4_beside y5 y6 z) z else (sX4_isHole (pX4_beside y5 y6 z) z).bind fun q2 => if q2.1 = 0 then if y5 < 0 ∨ lenM y3 ≤ Int32.toNatClampNeg y5 then none else if y2 = 0 then (sX4_stuffIs y5 q2.2).bind fun q3 => let v4 : Int32 := ((q2.2.1 y3 (Int32.toNatClampNeg y5)) + (pX4_pace q3.1)); eX4_findTimes_135 n y2 y3 y4 y5 y6 (pX4_beside y5 y6 z) v4 q3.2 else (sX4_stuffIs (pX4_beside y5 y6 z) q2.2).bind fun q5 => let v6 : Int32 := ((q2.2.1 y3 (Int32.toNatClampNeg y5)) + (pX4_pace q5.1)); eX4_findTimes_135 n y2 y3 y4 y5 y6 (pX4_beside y5 y6 z) v6 q5.2 else eX4_findTimes_104 n y2 y3 y4 y5 y6 (pX4_beside y5 y6 z) q2.2) := rfl
set_option maxRecDepth 100000 in
theorem qX4_findTimes_104 (n : Nat)  (y2 : Int32) (y3 : Nat) (y4 : Int32) (y5 : Int32) (y6 : Int32) (y7 : Int32) (z : mm_S) : eX4_findTimes_104 (n + 1) y2 y3 y4 y5 y6 y7 z = (eX4_findTimes_135 n y2 y3 y4 y5 y6 y7 10000 z) := rfl
set_option maxRecDepth 100000 in
theorem qX4_findTimes_135 (n : Nat)  (y2 : Int32) (y3 : Nat) (y4 : Int32) (y5 : Int32) (y6 : Int32) (y7 : Int32) (y8 : Int32) (z : mm_S) : eX4_findTimes_135 (n + 1) y2 y3 y4 y5 y6 y7 y8 z = (if 10000 ≤ y8 then eX4_findTimes_65 n y2 y3 y4 y5 (y6 + 1) z else if y7 < 0 ∨ lenM y3 ≤ Int32.toNatClampNeg y7 then none else if (z.1 y3 (Int32.toNatClampNeg y7)) ≤ y8 then eX4_findTimes_65 n y2 y3 y4 y5 (y6 + 1) z else if y7 < 0 ∨ lenM y3 ≤ Int32.toNatClampNeg y7 then none else eX4_findTimes_158 n y2 y3 y5 y6 ((mm_ui z.1 y3 (Int32.toNatClampNeg y7) y8), z.2)) := rfl
set_option maxRecDepth 100000 in
theorem qX4_findTimes_158 (n : Nat)  (y2 : Int32) (y3 : Nat) (y5 : Int32) (y6 : Int32) (z : mm_S) : eX4_findTimes_158 (n + 1) y2 y3 y5 y6 z = (eX4_findTimes_65 n y2 y3 1 y5 (y6 + 1) z) := rfl
def rm_X4_findTimes : Room := { frames := 2, cells := 0, slots := 0, locals := 45 }
noncomputable def f_X4_findTimes (as : List mm_V) (z : mm_S) (o : mm_R) : Prop := (as.map mm_cat).sum ≤ 9 ∧ ∃ n, go_X4_findTimes n 0 (mm_ar 0 as) [] z = some o
theorem M_X4_findTimes : mm_M lyTM lyFA lenM snM 22 22 17 roM rsA nfA nmA [] yX4_findTimes cX4_findTimes 9 (none) rm_X4_findTimes f_X4_findTimes :=
  mm_met (rt := 3) (by decide +kernel) ⟨fun h => absurd h (by decide), fun h => absurd h (by decide), fun h => absurd h (by decide), fun h => rfl⟩ tbX4_findTimes_ok hsnM okFX4 okLX4 (fun _ h => absurd h List.not_mem_nil) (fun _ _ _ _ => rfl) (fun _ _ _ _ => rfl) (List.forall_mem_cons.mpr ⟨sV_X4_stuffIs (Or.inl lk_X4_158) rfl ⟨by decide, by decide⟩, List.forall_mem_cons.mpr ⟨sV_X4_isHole (Or.inl lk_X4_172) rfl ⟨by decide, by decide⟩, fun _ h => absurd h List.not_mem_nil⟩⟩) (List.forall_mem_cons.mpr ⟨sS_X4_beside (Or.inl lk_X4_175) rfl ⟨by decide, by decide⟩, List.forall_mem_cons.mpr ⟨sS_X4_pace (Or.inl lk_X4_178) rfl ⟨by decide, by decide⟩, fun _ h => absurd h List.not_mem_nil⟩⟩)
noncomputable def sX4_findTimes_17 (y1 : Int32) (y2 : Int32) (y3 : Nat) (y4 : Int32) (z : mm_S) : Option ((Int32 × Int32 × Nat × Int32 × mm_S) ⊕ (mm_S)) := some (.inl (y1, y2, y3, (y4 + 1), z))
theorem kX4_findTimes_17 (y1 : Int32) (y2 : Int32) (y3 : Nat) (y4 : Int32) (z : mm_S) (oo : mm_R) : mm_Xs (sX4_findTimes_17 y1 y2 y3 y4 z) (mm_mt (fun x : Int32 × Int32 × Nat × Int32 × mm_S => ∃ n, eX4_findTimes_3 n x.1 x.2.1 x.2.2.1 x.2.2.2.1 x.2.2.2.2 = some oo) (fun v => (fun v : mm_S => ((none, v) : mm_R)) v = oo)) (fun n => eX4_findTimes_17 n y1 y2 y3 y4 z) oo :=
  xs_row (fun n => qX4_findTimes_17 n y1 y2 y3 y4 z) (xs_v fun hc => hc)
noncomputable def sX4_findTimes_158 (y2 : Int32) (y3 : Nat) (y5 : Int32) (y6 : Int32) (z : mm_S) : Option ((Int32 × Nat × Int32 × Int32 × Int32 × mm_S) ⊕ ((Int32 × Nat × Int32 × Int32 × mm_S) ⊕ ((Int32 × Nat × Int32 × mm_S) ⊕ (mm_S)))) := some (.inl (y2, y3, 1, y5, (y6 + 1), z))
theorem kX4_findTimes_158 (y2 : Int32) (y3 : Nat) (y5 : Int32) (y6 : Int32) (z : mm_S) (oo : mm_R) : mm_Xs (sX4_findTimes_158 y2 y3 y5 y6 z) (mm_mt (fun x : Int32 × Nat × Int32 × Int32 × Int32 × mm_S => ∃ n, eX4_findTimes_65 n x.1 x.2.1 x.2.2.1 x.2.2.2.1 x.2.2.2.2.1 x.2.2.2.2.2 = some oo) (mm_mt (fun x : Int32 × Nat × Int32 × Int32 × mm_S => ∃ n, eX4_findTimes_55 n x.1 x.2.1 x.2.2.1 x.2.2.2.1 x.2.2.2.2 = some oo) (mm_mt (fun x : Int32 × Nat × Int32 × mm_S => ∃ n, eX4_findTimes_44 n x.1 x.2.1 x.2.2.1 x.2.2.2 = some oo) (fun v => (fun v : mm_S => ((none, v) : mm_R)) v = oo)))) (fun n => eX4_findTimes_158 n y2 y3 y5 y6 z) oo :=
  xs_row (fun n => qX4_findTimes_158 n y2 y3 y5 y6 z) (xs_v fun hc => hc)
noncomputable def sX4_findTimes_135 (y2 : Int32) (y3 : Nat) (y4 : Int32) (y5 : Int32) (y6 : Int32) (y7 : Int32) (y8 : Int32) (z : mm_S) : Option ((Int32 × Nat × Int32 × Int32 × Int32 × mm_S) ⊕ ((Int32 × Nat × Int32 × Int32 × mm_S) ⊕ ((Int32 × Nat × Int32 × mm_S) ⊕ (mm_S)))) := if 10000 ≤ y8 then some (.inl (y2, y3, y4, y5, (y6 + 1), z)) else if y7 < 0 ∨ lenM y3 ≤ Int32.toNatClampNeg y7 then none else if (z.1 y3 (Int32.toNatClampNeg y7)) ≤ y8 then some (.inl (y2, y3, y4, y5, (y6 + 1), z)) else if y7 < 0 ∨ lenM y3 ≤ Int32.toNatClampNeg y7 then none else (sX4_findTimes_158 y2 y3 y5 y6 ((mm_ui z.1 y3 (Int32.toNatClampNeg y7) y8), z.2))
theorem kX4_findTimes_135 (y2 : Int32) (y3 : Nat) (y4 : Int32) (y5 : Int32) (y6 : Int32) (y7 : Int32) (y8 : Int32) (z : mm_S) (oo : mm_R) : mm_Xs (sX4_findTimes_135 y2 y3 y4 y5 y6 y7 y8 z) (mm_mt (fun x : Int32 × Nat × Int32 × Int32 × Int32 × mm_S => ∃ n, eX4_findTimes_65 n x.1 x.2.1 x.2.2.1 x.2.2.2.1 x.2.2.2.2.1 x.2.2.2.2.2 = some oo) (mm_mt (fun x : Int32 × Nat × Int32 × Int32 × mm_S => ∃ n, eX4_findTimes_55 n x.1 x.2.1 x.2.2.1 x.2.2.2.1 x.2.2.2.2 = some oo) (mm_mt (fun x : Int32 × Nat × Int32 × mm_S => ∃ n, eX4_findTimes_44 n x.1 x.2.1 x.2.2.1 x.2.2.2 = some oo) (fun v => (fun v : mm_S => ((none, v) : mm_R)) v = oo)))) (fun n => eX4_findTimes_135 n y2 y3 y4 y5 y6 y7 y8 z) oo :=
  xs_row (fun n => qX4_findTimes_135 n y2 y3 y4 y5 y6 y7 y8 z) (xs_if (xs_v fun hc => hc) (xs_if xs_n (xs_if (xs_v fun hc => hc) (xs_if xs_n (kX4_findTimes_158 y2 y3 y5 y6 ((mm_ui z.1 y3 (Int32.toNatClampNeg y7) y8), z.2) oo)))))
noncomputable def sX4_findTimes_104 (y2 : Int32) (y3 : Nat) (y4 : Int32) (y5 : Int32) (y6 : Int32) (y7 : Int32) (z : mm_S) : Option ((Int32 × Nat × Int32 × Int32 × Int32 × mm_S) ⊕ ((Int32 × Nat × Int32 × Int32 × mm_S) ⊕ ((Int32 × Nat × Int32 × mm_S) ⊕ (mm_S)))) := (sX4_findTimes_135 y2 y3 y4 y5 y6 y7 10000 z)
theorem kX4_findTimes_104 (y2 : Int32) (y3 : Nat) (y4 : Int32) (y5 : Int32) (y6 : Int32) (y7 : Int32) (z : mm_S) (oo : mm_R) : mm_Xs (sX4_findTimes_104 y2 y3 y4 y5 y6 y7 z) (mm_mt (fun x : Int32 × Nat × Int32 × Int32 × Int32 × mm_S => ∃ n, eX4_findTimes_65 n x.1 x.2.1 x.2.2.1 x.2.2.2.1 x.2.2.2.2.1 x.2.2.2.2.2 = some oo) (mm_mt (fun x : Int32 × Nat × Int32 × Int32 × mm_S => ∃ n, eX4_findTimes_55 n x.1 x.2.1 x.2.2.1 x.2.2.2.1 x.2.2.2.2 = some oo) (mm_mt (fun x : Int32 × Nat × Int32 × mm_S => ∃ n, eX4_findTimes_44 n x.1 x.2.1 x.2.2.1 x.2.2.2 = some oo) (fun v => (fun v : mm_S => ((none, v) : mm_R)) v = oo)))) (fun n => eX4_findTimes_104 n y2 y3 y4 y5 y6 y7 z) oo :=
  xs_row (fun n => qX4_findTimes_104 n y2 y3 y4 y5 y6 y7 z) (kX4_findTimes_135 y2 y3 y4 y5 y6 y7 10000 z oo)
noncomputable def lX4_findTimes_65 (s : Int32 × Nat × Int32 × Int32 × Int32 × mm_S) : Option ((Int32 × Nat × Int32 × Int32 × Int32 × mm_S) ⊕ ((Int32 × Nat × Int32 × Int32 × mm_S) ⊕ ((Int32 × Nat × Int32 × mm_S) ⊕ (mm_S)))) := if 4 ≤ s.2.2.2.2.1 then some (.inr (.inl (s.1, s.2.1, s.2.2.1, (s.2.2.2.1 + 1), s.2.2.2.2.2))) else if s.2.2.2.1 < 0 ∨ lenM s.2.1 ≤ Int32.toNatClampNeg s.2.2.2.1 then none else if 10000 ≤ (s.2.2.2.2.2.1 s.2.1 (Int32.toNatClampNeg s.2.2.2.1)) then some (.inr (.inl (s.1, s.2.1, s.2.2.1, (s.2.2.2.1 + 1), s.2.2.2.2.2))) else if (pX4_beside s.2.2.2.1 s.2.2.2.2.1 s.2.2.2.2.2) < 0 then (sX4_findTimes_104 s.1 s.2.1 s.2.2.1 s.2.2.2.1 s.2.2.2.2.1 (pX4_beside s.2.2.2.1 s.2.2.2.2.1 s.2.2.2.2.2) s.2.2.2.2.2) else (sX4_isHole (pX4_beside s.2.2.2.1 s.2.2.2.2.1 s.2.2.2.2.2) s.2.2.2.2.2).bind fun q2 => if q2.1 = 0 then if s.2.2.2.1 < 0 ∨ lenM s.2.1 ≤ Int32.toNatClampNeg s.2.2.2.1 then none else if s.1 = 0 then (sX4_stuffIs s.2.2.2.1 q2.2).bind fun q3 => let v4 : Int32 := ((q2.2.1 s.2.1 (Int32.toNatClampNeg s.2.2.2.1)) + (pX4_pace q3.1)); (sX4_findTimes_135 s.1 s.2.1 s.2.2.1 s.2.2.2.1 s.2.2.2.2.1 (pX4_beside s.2.2.2.1 s.2.2.2.2.1 s.2.2.2.2.2) v4 q3.2) else (sX4_stuffIs (pX4_beside s.2.2.2.1 s.2.2.2.2.1 s.2.2.2.2.2) q2.2).bind fun q5 => let v6 : Int32 := ((q2.2.1 s.2.1 (Int32.toNatClampNeg s.2.2.2.1)) + (pX4_pace q5.1)); (sX4_findTimes_135 s.1 s.2.1 s.2.2.1 s.2.2.2.1 s.2.2.2.2.1 (pX4_beside s.2.2.2.1 s.2.2.2.2.1 s.2.2.2.2.2) v6 q5.2) else (sX4_findTimes_104 s.1 s.2.1 s.2.2.1 s.2.2.2.1 s.2.2.2.2.1 (pX4_beside s.2.2.2.1 s.2.2.2.2.1 s.2.2.2.2.2) q2.2)
noncomputable def sX4_findTimes_65 (y2 : Int32) (y3 : Nat) (y4 : Int32) (y5 : Int32) (y6 : Int32) (z : mm_S) : Option ((Int32 × Nat × Int32 × Int32 × mm_S) ⊕ ((Int32 × Nat × Int32 × mm_S) ⊕ (mm_S))) := mm_wh (lX4_findTimes_65 ) mm_fu (y2, y3, y4, y5, y6, z)
theorem kX4_findTimes_65 (y2 : Int32) (y3 : Nat) (y4 : Int32) (y5 : Int32) (y6 : Int32) (z : mm_S) (oo : mm_R) : mm_Xs (sX4_findTimes_65 y2 y3 y4 y5 y6 z) (mm_mt (fun x : Int32 × Nat × Int32 × Int32 × mm_S => ∃ n, eX4_findTimes_55 n x.1 x.2.1 x.2.2.1 x.2.2.2.1 x.2.2.2.2 = some oo) (mm_mt (fun x : Int32 × Nat × Int32 × mm_S => ∃ n, eX4_findTimes_44 n x.1 x.2.1 x.2.2.1 x.2.2.2 = some oo) (fun v => (fun v : mm_S => ((none, v) : mm_R)) v = oo))) (fun n => eX4_findTimes_65 n y2 y3 y4 y5 y6 z) oo :=
  xs_wh (stp := lX4_findTimes_65 ) (o := oo) (E := (fun (s : Int32 × Nat × Int32 × Int32 × Int32 × mm_S) n => eX4_findTimes_65 n s.1 s.2.1 s.2.2.1 s.2.2.2.1 s.2.2.2.2.1 s.2.2.2.2.2)) (C := (mm_mt (fun x : Int32 × Nat × Int32 × Int32 × mm_S => ∃ n, eX4_findTimes_55 n x.1 x.2.1 x.2.2.1 x.2.2.2.1 x.2.2.2.2 = some oo) (mm_mt (fun x : Int32 × Nat × Int32 × mm_S => ∃ n, eX4_findTimes_44 n x.1 x.2.1 x.2.2.1 x.2.2.2 = some oo) (fun v => (fun v : mm_S => ((none, v) : mm_R)) v = oo)))) (fun s => xs_row (fun n => qX4_findTimes_65 n s.1 s.2.1 s.2.2.1 s.2.2.2.1 s.2.2.2.2.1 s.2.2.2.2.2) (xs_if (xs_v fun hc => hc) (xs_if xs_n (xs_if (xs_v fun hc => hc) (xs_if (kX4_findTimes_104 s.1 s.2.1 s.2.2.1 s.2.2.2.1 s.2.2.2.2.1 (pX4_beside s.2.2.2.1 s.2.2.2.2.1 s.2.2.2.2.2) s.2.2.2.2.2 oo) (xs_bd fun q2 => (xs_if (xs_if xs_n (xs_if (xs_bd fun q3 => (let v4 : Int32 := ((q2.2.1 s.2.1 (Int32.toNatClampNeg s.2.2.2.1)) + (pX4_pace q3.1)); (kX4_findTimes_135 s.1 s.2.1 s.2.2.1 s.2.2.2.1 s.2.2.2.2.1 (pX4_beside s.2.2.2.1 s.2.2.2.2.1 s.2.2.2.2.2) v4 q3.2 oo))) (xs_bd fun q5 => (let v6 : Int32 := ((q2.2.1 s.2.1 (Int32.toNatClampNeg s.2.2.2.1)) + (pX4_pace q5.1)); (kX4_findTimes_135 s.1 s.2.1 s.2.2.1 s.2.2.2.1 s.2.2.2.2.1 (pX4_beside s.2.2.2.1 s.2.2.2.2.1 s.2.2.2.2.2) v6 q5.2 oo))))) (kX4_findTimes_104 s.1 s.2.1 s.2.2.1 s.2.2.2.1 s.2.2.2.2.1 (pX4_beside s.2.2.2.1 s.2.2.2.2.1 s.2.2.2.2.2) q2.2 oo)))))))) mm_fu (y2, y3, y4, y5, y6, z)
noncomputable def lX4_findTimes_55 (s : Int32 × Nat × Int32 × Int32 × mm_S) : Option ((Int32 × Nat × Int32 × Int32 × mm_S) ⊕ ((Int32 × Nat × Int32 × mm_S) ⊕ (mm_S))) := if 36 ≤ s.2.2.2.1 then some (.inr (.inl (s.1, s.2.1, s.2.2.1, s.2.2.2.2))) else (sX4_findTimes_65 s.1 s.2.1 s.2.2.1 s.2.2.2.1 0 s.2.2.2.2)
noncomputable def sX4_findTimes_55 (y2 : Int32) (y3 : Nat) (y4 : Int32) (y5 : Int32) (z : mm_S) : Option ((Int32 × Nat × Int32 × mm_S) ⊕ (mm_S)) := mm_wh (lX4_findTimes_55 ) mm_fu (y2, y3, y4, y5, z)
theorem kX4_findTimes_55 (y2 : Int32) (y3 : Nat) (y4 : Int32) (y5 : Int32) (z : mm_S) (oo : mm_R) : mm_Xs (sX4_findTimes_55 y2 y3 y4 y5 z) (mm_mt (fun x : Int32 × Nat × Int32 × mm_S => ∃ n, eX4_findTimes_44 n x.1 x.2.1 x.2.2.1 x.2.2.2 = some oo) (fun v => (fun v : mm_S => ((none, v) : mm_R)) v = oo)) (fun n => eX4_findTimes_55 n y2 y3 y4 y5 z) oo :=
  xs_wh (stp := lX4_findTimes_55 ) (o := oo) (E := (fun (s : Int32 × Nat × Int32 × Int32 × mm_S) n => eX4_findTimes_55 n s.1 s.2.1 s.2.2.1 s.2.2.2.1 s.2.2.2.2)) (C := (mm_mt (fun x : Int32 × Nat × Int32 × mm_S => ∃ n, eX4_findTimes_44 n x.1 x.2.1 x.2.2.1 x.2.2.2 = some oo) (fun v => (fun v : mm_S => ((none, v) : mm_R)) v = oo))) (fun s => xs_row (fun n => qX4_findTimes_55 n s.1 s.2.1 s.2.2.1 s.2.2.2.1 s.2.2.2.2) (xs_if (xs_v fun hc => hc) (kX4_findTimes_65 s.1 s.2.1 s.2.2.1 s.2.2.2.1 0 s.2.2.2.2 oo))) mm_fu (y2, y3, y4, y5, z)
noncomputable def lX4_findTimes_44 (s : Int32 × Nat × Int32 × mm_S) : Option ((Int32 × Nat × Int32 × mm_S) ⊕ (mm_S)) := if s.2.2.1 = 0 then some (.inr (s.2.2.2)) else (sX4_findTimes_55 s.1 s.2.1 0 0 s.2.2.2)
noncomputable def sX4_findTimes_44 (y2 : Int32) (y3 : Nat) (y4 : Int32) (z : mm_S) : Option (mm_S) := mm_wh (lX4_findTimes_44 ) mm_fu (y2, y3, y4, z)
theorem kX4_findTimes_44 (y2 : Int32) (y3 : Nat) (y4 : Int32) (z : mm_S) (oo : mm_R) : mm_Xs (sX4_findTimes_44 y2 y3 y4 z) (fun v => (fun v : mm_S => ((none, v) : mm_R)) v = oo) (fun n => eX4_findTimes_44 n y2 y3 y4 z) oo :=
  xs_wh (stp := lX4_findTimes_44 ) (o := oo) (E := (fun (s : Int32 × Nat × Int32 × mm_S) n => eX4_findTimes_44 n s.1 s.2.1 s.2.2.1 s.2.2.2)) (C := (fun v => (fun v : mm_S => ((none, v) : mm_R)) v = oo)) (fun s => xs_row (fun n => qX4_findTimes_44 n s.1 s.2.1 s.2.2.1 s.2.2.2) (xs_if (xs_v fun hc => ⟨0, congrArg some hc⟩) (kX4_findTimes_55 s.1 s.2.1 0 0 s.2.2.2 oo))) mm_fu (y2, y3, y4, z)
noncomputable def sX4_findTimes_41 (y2 : Int32) (y3 : Nat) (z : mm_S) : Option (mm_S) := (sX4_findTimes_44 y2 y3 1 z)
theorem kX4_findTimes_41 (y2 : Int32) (y3 : Nat) (z : mm_S) (oo : mm_R) : mm_Xs (sX4_findTimes_41 y2 y3 z) (fun v => (fun v : mm_S => ((none, v) : mm_R)) v = oo) (fun n => eX4_findTimes_41 n y2 y3 z) oo :=
  xs_row (fun n => qX4_findTimes_41 n y2 y3 z) (kX4_findTimes_44 y2 y3 1 z oo)
noncomputable def lX4_findTimes_3 (s : Int32 × Int32 × Nat × Int32 × mm_S) : Option ((Int32 × Int32 × Nat × Int32 × mm_S) ⊕ (mm_S)) := if 36 ≤ s.2.2.2.1 then (sX4_isHole s.1 s.2.2.2.2).bind fun q1 => if q1.1 = 0 then if s.1 < 0 ∨ lenM s.2.2.1 ≤ Int32.toNatClampNeg s.1 then none else ((sX4_findTimes_41 s.2.1 s.2.2.1 ((mm_ui q1.2.1 s.2.2.1 (Int32.toNatClampNeg s.1) 0), q1.2.2)).map fun w => (Sum.inr w)) else if s.1 < 0 ∨ lenM s.2.2.1 ≤ Int32.toNatClampNeg s.1 then none else ((sX4_findTimes_41 s.2.1 s.2.2.1 ((mm_ui q1.2.1 s.2.2.1 (Int32.toNatClampNeg s.1) 10000), q1.2.2)).map fun w => (Sum.inr w)) else if s.2.2.2.1 < 0 ∨ lenM s.2.2.1 ≤ Int32.toNatClampNeg s.2.2.2.1 then none else (sX4_findTimes_17 s.1 s.2.1 s.2.2.1 s.2.2.2.1 ((mm_ui s.2.2.2.2.1 s.2.2.1 (Int32.toNatClampNeg s.2.2.2.1) 10000), s.2.2.2.2.2))
noncomputable def sX4_findTimes_3 (y1 : Int32) (y2 : Int32) (y3 : Nat) (y4 : Int32) (z : mm_S) : Option (mm_S) := mm_wh (lX4_findTimes_3 ) mm_fu (y1, y2, y3, y4, z)
theorem kX4_findTimes_3 (y1 : Int32) (y2 : Int32) (y3 : Nat) (y4 : Int32) (z : mm_S) (oo : mm_R) : mm_Xs (sX4_findTimes_3 y1 y2 y3 y4 z) (fun v => (fun v : mm_S => ((none, v) : mm_R)) v = oo) (fun n => eX4_findTimes_3 n y1 y2 y3 y4 z) oo :=
  xs_wh (stp := lX4_findTimes_3 ) (o := oo) (E := (fun (s : Int32 × Int32 × Nat × Int32 × mm_S) n => eX4_findTimes_3 n s.1 s.2.1 s.2.2.1 s.2.2.2.1 s.2.2.2.2)) (C := (fun v => (fun v : mm_S => ((none, v) : mm_R)) v = oo)) (fun s => xs_row (fun n => qX4_findTimes_3 n s.1 s.2.1 s.2.2.1 s.2.2.2.1 s.2.2.2.2) (xs_if (xs_bd fun q1 => (xs_if (xs_if xs_n (xs_map (f := fun w => (Sum.inr w)) (kX4_findTimes_41 s.2.1 s.2.2.1 ((mm_ui q1.2.1 s.2.2.1 (Int32.toNatClampNeg s.1) 0), q1.2.2) oo) (fun _ h => h))) (xs_if xs_n (xs_map (f := fun w => (Sum.inr w)) (kX4_findTimes_41 s.2.1 s.2.2.1 ((mm_ui q1.2.1 s.2.2.1 (Int32.toNatClampNeg s.1) 10000), q1.2.2) oo) (fun _ h => h))))) (xs_if xs_n (kX4_findTimes_17 s.1 s.2.1 s.2.2.1 s.2.2.2.1 ((mm_ui s.2.2.2.2.1 s.2.2.1 (Int32.toNatClampNeg s.2.2.2.1) 10000), s.2.2.2.2.2) oo)))) mm_fu (y1, y2, y3, y4, z)
noncomputable def sX4_findTimes_0 (x1 : Int32) (x2 : Int32) (x3 : Nat) (z : mm_S) : Option (mm_S) := (sX4_findTimes_3 x1 x2 x3 0 z)
theorem kX4_findTimes_0 (x1 : Int32) (x2 : Int32) (x3 : Nat) (z : mm_S) (oo : mm_R) : mm_Xs (sX4_findTimes_0 x1 x2 x3 z) (fun v => (fun v : mm_S => ((none, v) : mm_R)) v = oo) (fun n => eX4_findTimes_0 n x1 x2 x3 z) oo :=
  xs_row (fun n => qX4_findTimes_0 n x1 x2 x3 z) (kX4_findTimes_3 x1 x2 x3 0 z oo)
noncomputable def sX4_findTimes (x1 : Int32) (x2 : Int32) (x3 : Nat) (z : mm_S) : Option (mm_S) := sX4_findTimes_0 x1 x2 x3 z
theorem sp_X4_findTimes (x1 : Int32) (x2 : Int32) (x3 : Nat) (z : mm_S) (hk : ∀ v ∈ [mm_P 4 0, mm_I x1, mm_I x2, mm_P 10 x3], mm_ok 22 lyTM 22 17 v) (q : mm_S) (hq : sX4_findTimes x1 x2 x3 z = some q) : f_X4_findTimes [mm_P 4 0, mm_I x1, mm_I x2, mm_P 10 x3] z (none, q) := ⟨Nat.le_of_ble_eq_true rfl, kX4_findTimes_0 x1 x2 x3 z _ q hq rfl⟩
noncomputable def clo_X4_findTimes (as : List mm_V) (z : mm_S) (kk : Option mm_V → mm_S → Option mm_R) : Option mm_R := mm_pr as fun t o0 as => bif Nat.beq t 4 then mm_pi as fun a1 as => mm_pi as fun a2 as => mm_pr as fun t o3 as => bif Nat.beq t 10 then (match as with | [] => (sX4_findTimes a1 a2 o3 z).bind fun q => kk none q | _ => none) else none else none
theorem cs_X4_findTimes : mm_cs lyTM 22 22 17 f_X4_findTimes clo_X4_findTimes := by
  intro as z K o hk h
  obtain ⟨t0, o0, r0, rfl, g0⟩ := mm_pr_e h
  obtain ⟨b0, k0⟩ := mm_bif_e g0
  obtain rfl := Nat.eq_of_beq_eq_true b0
  obtain ⟨a1, r1, rfl, g1⟩ := mm_pi_e k0
  obtain ⟨a2, r2, rfl, g2⟩ := mm_pi_e g1
  obtain ⟨t3, o3, r3, rfl, g3⟩ := mm_pr_e g2
  obtain ⟨b3, k3⟩ := mm_bif_e g3
  obtain rfl := Nat.eq_of_beq_eq_true b3
  rcases r3 with _ | ⟨u, w⟩
  rotate_left
  · cases k3
  obtain rfl : o0 = 0 := ok4 (hk (mm_P 4 o0) (by simp))
  obtain ⟨q, hq, hq2⟩ := Option.bind_eq_some_iff.mp k3
  exact ⟨_, _, sp_X4_findTimes a1 a2 o3 z hk q hq, (fun v hv => by cases hv), hq2⟩
theorem sV_X4_findTimes {own : String} {R : Room} {ar : Nat → Nat} {k : Nat} (hlink : Cond.methodLink own k yX4_findTimes ∈ lw_gd ∨ ∃ host, (own, k, yX4_findTimes, host) ∈ nmA) (har : ar k = 4) (hr : 3 ≤ R.frames ∧ 73 ≤ R.locals) : mm_okV lyTM lyFA lenM snM 22 22 17 roM rsA nfA nmA [] own R ar k clo_X4_findTimes := by
  refine ⟨yX4_findTimes, cX4_findTimes, 9, none, rm_X4_findTimes, f_X4_findTimes, 4, 3, (RX4, TX4, 36), M_X4_findTimes, cs_X4_findTimes, hlink, ⟨wv_X4_findTimes, wz_X4_findTimes, wi_X4_findTimes, wc_X4_findTimes⟩, ⟨by decide +kernel, by decide +kernel, by decide +kernel⟩, har, ⟨rfl, rfl, by decide⟩, ?_, ⟨rfl, rfl, hr.1, hr.2⟩⟩
  intro as z K o h
  obtain ⟨t0, o0, r0, rfl, g0⟩ := mm_pr_e h
  obtain ⟨b0, k0⟩ := mm_bif_e g0
  obtain rfl := Nat.eq_of_beq_eq_true b0
  exact ⟨_, _, rfl⟩
-- X4_timeOf
noncomputable def lV_X4_timeOf : List (Nat × (List mm_V → mm_S → (Option mm_V → mm_S → Option mm_R) → Option mm_R)) := [(181, clo_X4_findTimes)]
noncomputable def mV_X4_timeOf (k : Nat) (as : List mm_V) (z : mm_S) (kk : Option mm_V → mm_S → Option mm_R) : Option mm_R := match mm_at lV_X4_timeOf k with
  | some f => f as z kk
  | none => none
noncomputable def arV_X4_timeOf (k : Nat) : Nat := (mm_at [(181, 4)] k).getD 0
noncomputable def lS_X4_timeOf : List (Nat × (List mm_V → mm_S → (Option mm_V → mm_S → Option mm_R) → Option mm_R)) := []
noncomputable def mS_X4_timeOf (k : Nat) (as : List mm_V) (z : mm_S) (kk : Option mm_V → mm_S → Option mm_R) : Option mm_R := match mm_at lS_X4_timeOf k with
  | some f => f as z kk
  | none => none
noncomputable def arS_X4_timeOf (k : Nat) : Nat := (mm_at [] k).getD 0
def ct_X4_timeOf : List (Nat × List Nat) := [(10, [0, 2])]
noncomputable def go_X4_timeOf : Nat → mm_K := mm_go (fun k => mm_at flX4 k) (fun k => mm_at clX4 k) (fun k => mm_at glX4 k) arV_X4_timeOf arS_X4_timeOf mV_X4_timeOf mS_X4_timeOf lenM roM snM 3 0 tbX4_timeOf ct_X4_timeOf
noncomputable def eX4_timeOf_0 (n : Nat)  (x1 : Int32) (x2 : Int32) (z : mm_S) : Option mm_R := go_X4_timeOf n 0 [(0, mm_P 4 0), (1, mm_I x1), (2, mm_I x2)] [] z
noncomputable def eX4_timeOf_10 (n : Nat)  (y2 : Int32) (z : mm_S) : Option mm_R := go_X4_timeOf n 10 [(0, mm_P 4 0), (2, mm_I y2)] [] z
set_option maxRecDepth 100000 in
theorem qX4_timeOf_0 (n : Nat)  (x1 : Int32) (x2 : Int32) (z : mm_S) : eX4_timeOf_0 (n + 1) x1 x2 z = ((sX4_findTimes x1 1 5 z).bind fun q1 => eX4_timeOf_10 n x2 q1) := rfl
set_option maxRecDepth 100000 in
theorem qX4_timeOf_10 (n : Nat)  (y2 : Int32) (z : mm_S) : eX4_timeOf_10 (n + 1) y2 z = (if y2 < 0 ∨ 36 ≤ Int32.toNatClampNeg y2 then none else some (some (mm_I (z.1 5 (Int32.toNatClampNeg y2))), z)) := rfl
def rm_X4_timeOf : Room := { frames := 3, cells := 0, slots := 0, locals := 73 }
noncomputable def f_X4_timeOf (as : List mm_V) (z : mm_S) (o : mm_R) : Prop := (as.map mm_cat).sum ≤ 3 ∧ ∃ n, go_X4_timeOf n 0 (mm_ar 0 as) [] z = some o
theorem M_X4_timeOf : mm_M lyTM lyFA lenM snM 22 22 17 roM rsA nfA nmA [] yX4_timeOf cX4_timeOf 3 (some .int) rm_X4_timeOf f_X4_timeOf :=
  mm_met (rt := 0) (by decide +kernel) ⟨fun h => rfl, fun h => absurd h (by decide), fun h => absurd h (by decide), fun h => absurd h (by decide)⟩ tbX4_timeOf_ok hsnM okFX4 okLX4 (fun _ h => absurd h List.not_mem_nil) (fun _ _ _ _ => rfl) (fun _ _ _ _ => rfl) (List.forall_mem_cons.mpr ⟨sV_X4_findTimes (Or.inl lk_X4_181) rfl ⟨by decide, by decide⟩, fun _ h => absurd h List.not_mem_nil⟩) (fun _ h => absurd h List.not_mem_nil)
noncomputable def sX4_timeOf_10 (y2 : Int32) (z : mm_S) : Option (Int32 × mm_S) := if y2 < 0 ∨ 36 ≤ Int32.toNatClampNeg y2 then none else some ((z.1 5 (Int32.toNatClampNeg y2)), z)
theorem kX4_timeOf_10 (y2 : Int32) (z : mm_S) (oo : mm_R) : mm_Xs (sX4_timeOf_10 y2 z) (fun v => (fun v : Int32 × mm_S => ((some (mm_I v.1), v.2) : mm_R)) v = oo) (fun n => eX4_timeOf_10 n y2 z) oo :=
  xs_row (fun n => qX4_timeOf_10 n y2 z) (xs_if xs_n (xs_v fun hc => ⟨0, congrArg some hc⟩))
noncomputable def sX4_timeOf_0 (x1 : Int32) (x2 : Int32) (z : mm_S) : Option (Int32 × mm_S) := (sX4_findTimes x1 1 5 z).bind fun q1 => (sX4_timeOf_10 x2 q1)
theorem kX4_timeOf_0 (x1 : Int32) (x2 : Int32) (z : mm_S) (oo : mm_R) : mm_Xs (sX4_timeOf_0 x1 x2 z) (fun v => (fun v : Int32 × mm_S => ((some (mm_I v.1), v.2) : mm_R)) v = oo) (fun n => eX4_timeOf_0 n x1 x2 z) oo :=
  xs_row (fun n => qX4_timeOf_0 n x1 x2 z) (xs_bd fun q1 => (kX4_timeOf_10 x2 q1 oo))
noncomputable def sX4_timeOf (x1 : Int32) (x2 : Int32) (z : mm_S) : Option (Int32 × mm_S) := sX4_timeOf_0 x1 x2 z
theorem sp_X4_timeOf (x1 : Int32) (x2 : Int32) (z : mm_S) (hk : ∀ v ∈ [mm_P 4 0, mm_I x1, mm_I x2], mm_ok 22 lyTM 22 17 v) (q : Int32 × mm_S) (hq : sX4_timeOf x1 x2 z = some q) : f_X4_timeOf [mm_P 4 0, mm_I x1, mm_I x2] z (some (mm_I q.1), q.2) := ⟨Nat.le_of_ble_eq_true rfl, kX4_timeOf_0 x1 x2 z _ q hq rfl⟩
noncomputable def clo_X4_timeOf (as : List mm_V) (z : mm_S) (kk : Option mm_V → mm_S → Option mm_R) : Option mm_R := mm_pr as fun t o0 as => bif Nat.beq t 4 then mm_pi as fun a1 as => mm_pi as fun a2 as => (match as with | [] => (sX4_timeOf a1 a2 z).bind fun q => kk (some (mm_I q.1)) q.2 | _ => none) else none
theorem cs_X4_timeOf : mm_cs lyTM 22 22 17 f_X4_timeOf clo_X4_timeOf := by
  intro as z K o hk h
  obtain ⟨t0, o0, r0, rfl, g0⟩ := mm_pr_e h
  obtain ⟨b0, k0⟩ := mm_bif_e g0
  obtain rfl := Nat.eq_of_beq_eq_true b0
  obtain ⟨a1, r1, rfl, g1⟩ := mm_pi_e k0
  obtain ⟨a2, r2, rfl, g2⟩ := mm_pi_e g1
  rcases r2 with _ | ⟨u, w⟩
  rotate_left
  · cases g2
  obtain rfl : o0 = 0 := ok4 (hk (mm_P 4 o0) (by simp))
  obtain ⟨q, hq, hq2⟩ := Option.bind_eq_some_iff.mp g2
  exact ⟨_, _, sp_X4_timeOf a1 a2 z hk q hq, fun v hv => by cases hv; exact Or.inl ⟨_, rfl⟩, hq2⟩
theorem sV_X4_timeOf {own : String} {R : Room} {ar : Nat → Nat} {k : Nat} (hlink : Cond.methodLink own k yX4_timeOf ∈ lw_gd ∨ ∃ host, (own, k, yX4_timeOf, host) ∈ nmA) (har : ar k = 3) (hr : 4 ≤ R.frames ∧ 95 ≤ R.locals) : mm_okV lyTM lyFA lenM snM 22 22 17 roM rsA nfA nmA [] own R ar k clo_X4_timeOf := by
  refine ⟨yX4_timeOf, cX4_timeOf, 3, some .int, rm_X4_timeOf, f_X4_timeOf, 4, 2, (RX4, TX4, 36), M_X4_timeOf, cs_X4_timeOf, hlink, ⟨wv_X4_timeOf, wz_X4_timeOf, wi_X4_timeOf, wc_X4_timeOf⟩, ⟨by decide +kernel, by decide +kernel, by decide +kernel⟩, har, ⟨rfl, rfl, by decide⟩, ?_, ⟨rfl, rfl, hr.1, hr.2⟩⟩
  intro as z K o h
  obtain ⟨t0, o0, r0, rfl, g0⟩ := mm_pr_e h
  obtain ⟨b0, k0⟩ := mm_bif_e g0
  obtain rfl := Nat.eq_of_beq_eq_true b0
  exact ⟨_, _, rfl⟩
-- X4_told
noncomputable def lV_X4_told : List (Nat × (List mm_V → mm_S → (Option mm_V → mm_S → Option mm_R) → Option mm_R)) := [(124, clo_X4_finding)]
noncomputable def mV_X4_told (k : Nat) (as : List mm_V) (z : mm_S) (kk : Option mm_V → mm_S → Option mm_R) : Option mm_R := match mm_at lV_X4_told k with
  | some f => f as z kk
  | none => none
noncomputable def arV_X4_told (k : Nat) : Nat := (mm_at [(124, 2)] k).getD 0
noncomputable def lS_X4_told : List (Nat × (List mm_V → mm_S → (Option mm_V → mm_S → Option mm_R) → Option mm_R)) := []
noncomputable def mS_X4_told (k : Nat) (as : List mm_V) (z : mm_S) (kk : Option mm_V → mm_S → Option mm_R) : Option mm_R := match mm_at lS_X4_told k with
  | some f => f as z kk
  | none => none
noncomputable def arS_X4_told (k : Nat) : Nat := (mm_at [] k).getD 0
def ct_X4_told : List (Nat × List Nat) := [(20, [1])]
noncomputable def go_X4_told : Nat → mm_K := mm_go (fun k => mm_at flX4 k) (fun k => mm_at clX4 k) (fun k => mm_at glX4 k) arV_X4_told arS_X4_told mV_X4_told mS_X4_told lenM roM snM 2 0 tbX4_told ct_X4_told
noncomputable def eX4_told_0 (n : Nat)  (x1 : Int32) (z : mm_S) : Option mm_R := go_X4_told n 0 [(0, mm_P 4 0), (1, mm_I x1)] [] z
noncomputable def eX4_told_20 (n : Nat) (y1 : Int32) (z : mm_S) : Option mm_R := go_X4_told n 20 [(1, mm_I y1)] [] z
set_option maxRecDepth 100000 in
theorem qX4_told_0 (n : Nat)  (x1 : Int32) (z : mm_S) : eX4_told_0 (n + 1) x1 z = (if x1 < 0 then (sX4_finding (-1000004) z).bind fun q1 => some (some (mm_I q1.1), q1.2) else if x1 < 10000 then eX4_told_20 n x1 z else (sX4_finding (-1000004) z).bind fun q2 => some (some (mm_I q2.1), q2.2)) := rfl
set_option maxRecDepth 100000 in
theorem qX4_told_20 (n : Nat) (y1 : Int32) (z : mm_S) : eX4_told_20 (n + 1) y1 z = (some (some (mm_I y1), z)) := rfl
def rm_X4_told : Room := { frames := 1, cells := 0, slots := 0, locals := 21 }
noncomputable def f_X4_told (as : List mm_V) (z : mm_S) (o : mm_R) : Prop := (as.map mm_cat).sum ≤ 2 ∧ ∃ n, go_X4_told n 0 (mm_ar 0 as) [] z = some o
theorem M_X4_told : mm_M lyTM lyFA lenM snM 22 22 17 roM rsA nfA nmA [] yX4_told cX4_told 2 (some .int) rm_X4_told f_X4_told :=
  mm_met (rt := 0) (by decide +kernel) ⟨fun h => rfl, fun h => absurd h (by decide), fun h => absurd h (by decide), fun h => absurd h (by decide)⟩ tbX4_told_ok hsnM okFX4 okLX4 (fun _ h => absurd h List.not_mem_nil) (fun _ _ _ _ => rfl) (fun _ _ _ _ => rfl) (List.forall_mem_cons.mpr ⟨sV_X4_finding (Or.inl lk_X4_124) rfl ⟨by decide, by decide⟩, fun _ h => absurd h List.not_mem_nil⟩) (fun _ h => absurd h List.not_mem_nil)
noncomputable def sX4_told_20 (y1 : Int32) (z : mm_S) : Option (Int32 × mm_S) := some (y1, z)
theorem kX4_told_20 (y1 : Int32) (z : mm_S) (oo : mm_R) : mm_Xs (sX4_told_20 y1 z) (fun v => (fun v : Int32 × mm_S => ((some (mm_I v.1), v.2) : mm_R)) v = oo) (fun n => eX4_told_20 n y1 z) oo :=
  xs_row (fun n => qX4_told_20 n y1 z) (xs_v fun hc => ⟨0, congrArg some hc⟩)
noncomputable def sX4_told_0 (x1 : Int32) (z : mm_S) : Option (Int32 × mm_S) := if x1 < 0 then (sX4_finding (-1000004) z).bind fun q1 => some (q1.1, q1.2) else if x1 < 10000 then (sX4_told_20 x1 z) else (sX4_finding (-1000004) z).bind fun q2 => some (q2.1, q2.2)
theorem kX4_told_0 (x1 : Int32) (z : mm_S) (oo : mm_R) : mm_Xs (sX4_told_0 x1 z) (fun v => (fun v : Int32 × mm_S => ((some (mm_I v.1), v.2) : mm_R)) v = oo) (fun n => eX4_told_0 n x1 z) oo :=
  xs_row (fun n => qX4_told_0 n x1 z) (xs_if (xs_bd fun q1 => (xs_v fun hc => ⟨0, congrArg some hc⟩)) (xs_if (kX4_told_20 x1 z oo) (xs_bd fun q2 => (xs_v fun hc => ⟨0, congrArg some hc⟩))))
noncomputable def sX4_told (x1 : Int32) (z : mm_S) : Option (Int32 × mm_S) := sX4_told_0 x1 z
theorem sp_X4_told (x1 : Int32) (z : mm_S) (hk : ∀ v ∈ [mm_P 4 0, mm_I x1], mm_ok 22 lyTM 22 17 v) (q : Int32 × mm_S) (hq : sX4_told x1 z = some q) : f_X4_told [mm_P 4 0, mm_I x1] z (some (mm_I q.1), q.2) := ⟨Nat.le_of_ble_eq_true rfl, kX4_told_0 x1 z _ q hq rfl⟩
noncomputable def clo_X4_told (as : List mm_V) (z : mm_S) (kk : Option mm_V → mm_S → Option mm_R) : Option mm_R := mm_pr as fun t o0 as => bif Nat.beq t 4 then mm_pi as fun a1 as => (match as with | [] => (sX4_told a1 z).bind fun q => kk (some (mm_I q.1)) q.2 | _ => none) else none
theorem cs_X4_told : mm_cs lyTM 22 22 17 f_X4_told clo_X4_told := by
  intro as z K o hk h
  obtain ⟨t0, o0, r0, rfl, g0⟩ := mm_pr_e h
  obtain ⟨b0, k0⟩ := mm_bif_e g0
  obtain rfl := Nat.eq_of_beq_eq_true b0
  obtain ⟨a1, r1, rfl, g1⟩ := mm_pi_e k0
  rcases r1 with _ | ⟨u, w⟩
  rotate_left
  · cases g1
  obtain rfl : o0 = 0 := ok4 (hk (mm_P 4 o0) (by simp))
  obtain ⟨q, hq, hq2⟩ := Option.bind_eq_some_iff.mp g1
  exact ⟨_, _, sp_X4_told a1 z hk q hq, fun v hv => by cases hv; exact Or.inl ⟨_, rfl⟩, hq2⟩
theorem sV_X4_told {own : String} {R : Room} {ar : Nat → Nat} {k : Nat} (hlink : Cond.methodLink own k yX4_told ∈ lw_gd ∨ ∃ host, (own, k, yX4_told, host) ∈ nmA) (har : ar k = 2) (hr : 2 ≤ R.frames ∧ 42 ≤ R.locals) : mm_okV lyTM lyFA lenM snM 22 22 17 roM rsA nfA nmA [] own R ar k clo_X4_told := by
  refine ⟨yX4_told, cX4_told, 2, some .int, rm_X4_told, f_X4_told, 4, 1, (RX4, TX4, 36), M_X4_told, cs_X4_told, hlink, ⟨wv_X4_told, wz_X4_told, wi_X4_told, wc_X4_told⟩, ⟨by decide +kernel, by decide +kernel, by decide +kernel⟩, har, ⟨rfl, rfl, by decide⟩, ?_, ⟨rfl, rfl, hr.1, hr.2⟩⟩
  intro as z K o h
  obtain ⟨t0, o0, r0, rfl, g0⟩ := mm_pr_e h
  obtain ⟨b0, k0⟩ := mm_bif_e g0
  obtain rfl := Nat.eq_of_beq_eq_true b0
  exact ⟨_, _, rfl⟩
-- X4_time
noncomputable def lV_X4_time : List (Nat × (List mm_V → mm_S → (Option mm_V → mm_S → Option mm_R) → Option mm_R)) := [(124, clo_X4_finding), (186, clo_X4_timeOf), (189, clo_X4_told)]
noncomputable def mV_X4_time (k : Nat) (as : List mm_V) (z : mm_S) (kk : Option mm_V → mm_S → Option mm_R) : Option mm_R := match mm_at lV_X4_time k with
  | some f => f as z kk
  | none => none
noncomputable def arV_X4_time (k : Nat) : Nat := (mm_at [(124, 2), (186, 3), (189, 2)] k).getD 0
noncomputable def lS_X4_time : List (Nat × (List mm_V → mm_S → (Option mm_V → mm_S → Option mm_R) → Option mm_R)) := [(114, clo_X4_isCell)]
noncomputable def mS_X4_time (k : Nat) (as : List mm_V) (z : mm_S) (kk : Option mm_V → mm_S → Option mm_R) : Option mm_R := match mm_at lS_X4_time k with
  | some f => f as z kk
  | none => none
noncomputable def arS_X4_time (k : Nat) : Nat := (mm_at [(114, 1)] k).getD 0
def ct_X4_time : List (Nat × List Nat) := [(27, [0])]
noncomputable def go_X4_time : Nat → mm_K := mm_go (fun k => mm_at flX4 k) (fun k => mm_at clX4 k) (fun k => mm_at glX4 k) arV_X4_time arS_X4_time mV_X4_time mS_X4_time lenM roM snM 3 0 tbX4_time ct_X4_time
noncomputable def eX4_time_0 (n : Nat)  (x1 : Int32) (x2 : Int32) (z : mm_S) : Option mm_R := go_X4_time n 0 [(0, mm_P 4 0), (1, mm_I x1), (2, mm_I x2)] [] z
noncomputable def eX4_time_27 (n : Nat)  (z : mm_S) : Option mm_R := go_X4_time n 27 [(0, mm_P 4 0)] [] z
set_option maxRecDepth 100000 in
theorem qX4_time_0 (n : Nat)  (x1 : Int32) (x2 : Int32) (z : mm_S) : eX4_time_0 (n + 1) x1 x2 z = (if (pX4_isCell x1) = 0 then eX4_time_27 n  z else if (pX4_isCell x2) = 0 then eX4_time_27 n  z else (sX4_timeOf x1 x2 z).bind fun q1 => (sX4_told q1.1 q1.2).bind fun q2 => some (some (mm_I q2.1), q2.2)) := rfl
set_option maxRecDepth 100000 in
theorem qX4_time_27 (n : Nat)  (z : mm_S) : eX4_time_27 (n + 1)  z = ((sX4_finding (-1000001) z).bind fun q3 => some (some (mm_I q3.1), q3.2)) := rfl
def rm_X4_time : Room := { frames := 4, cells := 0, slots := 0, locals := 95 }
noncomputable def f_X4_time (as : List mm_V) (z : mm_S) (o : mm_R) : Prop := (as.map mm_cat).sum ≤ 3 ∧ ∃ n, go_X4_time n 0 (mm_ar 0 as) [] z = some o
theorem M_X4_time : mm_M lyTM lyFA lenM snM 22 22 17 roM rsA nfA nmA [] yX4_time cX4_time 3 (some .int) rm_X4_time f_X4_time :=
  mm_met (rt := 0) (by decide +kernel) ⟨fun h => rfl, fun h => absurd h (by decide), fun h => absurd h (by decide), fun h => absurd h (by decide)⟩ tbX4_time_ok hsnM okFX4 okLX4 (fun _ h => absurd h List.not_mem_nil) (fun _ _ _ _ => rfl) (fun _ _ _ _ => rfl) (List.forall_mem_cons.mpr ⟨sV_X4_finding (Or.inl lk_X4_124) rfl ⟨by decide, by decide⟩, List.forall_mem_cons.mpr ⟨sV_X4_timeOf (Or.inl lk_X4_186) rfl ⟨by decide, by decide⟩, List.forall_mem_cons.mpr ⟨sV_X4_told (Or.inl lk_X4_189) rfl ⟨by decide, by decide⟩, fun _ h => absurd h List.not_mem_nil⟩⟩⟩) (List.forall_mem_cons.mpr ⟨sS_X4_isCell (Or.inl lk_X4_114) rfl ⟨by decide, by decide⟩, fun _ h => absurd h List.not_mem_nil⟩)
noncomputable def sX4_time_27  (z : mm_S) : Option (Int32 × mm_S) := (sX4_finding (-1000001) z).bind fun q3 => some (q3.1, q3.2)
theorem kX4_time_27  (z : mm_S) (oo : mm_R) : mm_Xs (sX4_time_27  z) (fun v => (fun v : Int32 × mm_S => ((some (mm_I v.1), v.2) : mm_R)) v = oo) (fun n => eX4_time_27 n  z) oo :=
  xs_row (fun n => qX4_time_27 n z) (xs_bd fun q3 => (xs_v fun hc => ⟨0, congrArg some hc⟩))
noncomputable def sX4_time_0 (x1 : Int32) (x2 : Int32) (z : mm_S) : Option (Int32 × mm_S) := if (pX4_isCell x1) = 0 then (sX4_time_27 z) else if (pX4_isCell x2) = 0 then (sX4_time_27 z) else (sX4_timeOf x1 x2 z).bind fun q1 => (sX4_told q1.1 q1.2).bind fun q2 => some (q2.1, q2.2)
theorem kX4_time_0 (x1 : Int32) (x2 : Int32) (z : mm_S) (oo : mm_R) : mm_Xs (sX4_time_0 x1 x2 z) (fun v => (fun v : Int32 × mm_S => ((some (mm_I v.1), v.2) : mm_R)) v = oo) (fun n => eX4_time_0 n x1 x2 z) oo :=
  xs_row (fun n => qX4_time_0 n x1 x2 z) (xs_if (kX4_time_27 z oo) (xs_if (kX4_time_27 z oo) (xs_bd fun q1 => (xs_bd fun q2 => (xs_v fun hc => ⟨0, congrArg some hc⟩)))))
noncomputable def sX4_time (x1 : Int32) (x2 : Int32) (z : mm_S) : Option (Int32 × mm_S) := sX4_time_0 x1 x2 z
theorem sp_X4_time (x1 : Int32) (x2 : Int32) (z : mm_S) (hk : ∀ v ∈ [mm_P 4 0, mm_I x1, mm_I x2], mm_ok 22 lyTM 22 17 v) (q : Int32 × mm_S) (hq : sX4_time x1 x2 z = some q) : f_X4_time [mm_P 4 0, mm_I x1, mm_I x2] z (some (mm_I q.1), q.2) := ⟨Nat.le_of_ble_eq_true rfl, kX4_time_0 x1 x2 z _ q hq rfl⟩
noncomputable def clo_X4_time (as : List mm_V) (z : mm_S) (kk : Option mm_V → mm_S → Option mm_R) : Option mm_R := mm_pr as fun t o0 as => bif Nat.beq t 4 then mm_pi as fun a1 as => mm_pi as fun a2 as => (match as with | [] => (sX4_time a1 a2 z).bind fun q => kk (some (mm_I q.1)) q.2 | _ => none) else none
theorem cs_X4_time : mm_cs lyTM 22 22 17 f_X4_time clo_X4_time := by
  intro as z K o hk h
  obtain ⟨t0, o0, r0, rfl, g0⟩ := mm_pr_e h
  obtain ⟨b0, k0⟩ := mm_bif_e g0
  obtain rfl := Nat.eq_of_beq_eq_true b0
  obtain ⟨a1, r1, rfl, g1⟩ := mm_pi_e k0
  obtain ⟨a2, r2, rfl, g2⟩ := mm_pi_e g1
  rcases r2 with _ | ⟨u, w⟩
  rotate_left
  · cases g2
  obtain rfl : o0 = 0 := ok4 (hk (mm_P 4 o0) (by simp))
  obtain ⟨q, hq, hq2⟩ := Option.bind_eq_some_iff.mp g2
  exact ⟨_, _, sp_X4_time a1 a2 z hk q hq, fun v hv => by cases hv; exact Or.inl ⟨_, rfl⟩, hq2⟩
theorem sV_X4_time {own : String} {R : Room} {ar : Nat → Nat} {k : Nat} (hlink : Cond.methodLink own k yX4_time ∈ lw_gd ∨ ∃ host, (own, k, yX4_time, host) ∈ nmA) (har : ar k = 3) (hr : 5 ≤ R.frames ∧ 117 ≤ R.locals) : mm_okV lyTM lyFA lenM snM 22 22 17 roM rsA nfA nmA [] own R ar k clo_X4_time := by
  refine ⟨yX4_time, cX4_time, 3, some .int, rm_X4_time, f_X4_time, 4, 2, (RX4, TX4, 36), M_X4_time, cs_X4_time, hlink, ⟨wv_X4_time, wz_X4_time, wi_X4_time, wc_X4_time⟩, ⟨by decide +kernel, by decide +kernel, by decide +kernel⟩, har, ⟨rfl, rfl, by decide⟩, ?_, ⟨rfl, rfl, hr.1, hr.2⟩⟩
  intro as z K o h
  obtain ⟨t0, o0, r0, rfl, g0⟩ := mm_pr_e h
  obtain ⟨b0, k0⟩ := mm_bif_e g0
  obtain rfl := Nat.eq_of_beq_eq_true b0
  exact ⟨_, _, rfl⟩
-- X4_findHeard
noncomputable def lV_X4_findHeard : List (Nat × (List mm_V → mm_S → (Option mm_V → mm_S → Option mm_R) → Option mm_R)) := [(139, clo_X4_crewIs), (149, clo_X4_carries), (152, clo_X4_starts), (181, clo_X4_findTimes)]
noncomputable def mV_X4_findHeard (k : Nat) (as : List mm_V) (z : mm_S) (kk : Option mm_V → mm_S → Option mm_R) : Option mm_R := match mm_at lV_X4_findHeard k with
  | some f => f as z kk
  | none => none
noncomputable def arV_X4_findHeard (k : Nat) : Nat := (mm_at [(139, 3), (149, 2), (152, 2), (181, 4)] k).getD 0
noncomputable def lS_X4_findHeard : List (Nat × (List mm_V → mm_S → (Option mm_V → mm_S → Option mm_R) → Option mm_R)) := []
noncomputable def mS_X4_findHeard (k : Nat) (as : List mm_V) (z : mm_S) (kk : Option mm_V → mm_S → Option mm_R) : Option mm_R := match mm_at lS_X4_findHeard k with
  | some f => f as z kk
  | none => none
noncomputable def arS_X4_findHeard (k : Nat) : Nat := (mm_at [] k).getD 0
def ct_X4_findHeard : List (Nat × List Nat) := [(12, [0, 1, 2]), (14, [0, 1, 2, 3]), (49, [0, 1, 2, 3])]
noncomputable def go_X4_findHeard : Nat → mm_K := mm_go (fun k => mm_at flX4 k) (fun k => mm_at clX4 k) (fun k => mm_at glX4 k) arV_X4_findHeard arS_X4_findHeard mV_X4_findHeard mS_X4_findHeard lenM roM snM 4 3 tbX4_findHeard ct_X4_findHeard
noncomputable def eX4_findHeard_0 (n : Nat)  (x1 : Int32) (x2 : Nat) (z : mm_S) : Option mm_R := go_X4_findHeard n 0 [(0, mm_P 4 0), (1, mm_I x1), (2, mm_P 10 x2)] [] z
noncomputable def eX4_findHeard_12 (n : Nat)  (y1 : Int32) (y2 : Nat) (z : mm_S) : Option mm_R := go_X4_findHeard n 12 [(0, mm_P 4 0), (1, mm_I y1), (2, mm_P 10 y2)] [] z
noncomputable def eX4_findHeard_14 (n : Nat)  (y1 : Int32) (y2 : Nat) (y3 : Int32) (z : mm_S) : Option mm_R := go_X4_findHeard n 14 [(0, mm_P 4 0), (1, mm_I y1), (2, mm_P 10 y2), (3, mm_I y3)] [] z
noncomputable def eX4_findHeard_49 (n : Nat)  (y1 : Int32) (y2 : Nat) (y3 : Int32) (z : mm_S) : Option mm_R := go_X4_findHeard n 49 [(0, mm_P 4 0), (1, mm_I y1), (2, mm_P 10 y2), (3, mm_I y3)] [] z
set_option maxRecDepth 100000 in
theorem qX4_findHeard_0 (n : Nat)  (x1 : Int32) (x2 : Nat) (z : mm_S) : eX4_findHeard_0 (n + 1) x1 x2 z = ((sX4_crewIs x1 1 z).bind fun q1 => (sX4_findTimes q1.1 1 x2 q1.2).bind fun q2 => eX4_findHeard_12 n x1 x2 q2) := rfl
set_option maxRecDepth 100000 in
theorem qX4_findHeard_12 (n : Nat)  (y1 : Int32) (y2 : Nat) (z : mm_S) : eX4_findHeard_12 (n + 1) y1 y2 z = (eX4_findHeard_14 n y1 y2 0 z) := rfl
set_option maxRecDepth 100000 in
theorem qX4_findHeard_14 (n : Nat)  (y1 : Int32) (y2 : Nat) (y3 : Int32) (z : mm_S) : eX4_findHeard_14 (n + 1) y1 y2 y3 z = (if 36 ≤ y3 then some (none, z) else if y3 < 0 ∨ lenM y2 ≤ Int32.toNatClampNeg y3 then none else (sX4_carries y1 z).bind fun q3 => if (z.1 y2 (Int32.toNatClampNeg y3)) ≤ q3.1 then if y3 < 0 ∨ lenM y2 ≤ Int32.toNatClampNeg y3 then none else (sX4_starts y1 q3.2).bind fun q4 => if y3 < 0 ∨ lenM y2 ≤ Int32.toNatClampNeg y3 then none else let u5 : mm_S := ((mm_ui q4.2.1 y2 (Int32.toNatClampNeg y3) ((q3.2.1 y2 (Int32.toNatClampNeg y3)) + q4.1)), q4.2.2); eX4_findHeard_49 n y1 y2 y3 u5 else if y3 < 0 ∨ lenM y2 ≤ Int32.toNatClampNeg y3 then none else eX4_findHeard_49 n y1 y2 y3 ((mm_ui q3.2.1 y2 (Int32.toNatClampNeg y3) 10000), q3.2.2)) := rfl
set_option maxRecDepth 100000 in
theorem qX4_findHeard_49 (n : Nat)  (y1 : Int32) (y2 : Nat) (y3 : Int32) (z : mm_S) : eX4_findHeard_49 (n + 1) y1 y2 y3 z = (eX4_findHeard_14 n y1 y2 (y3 + 1) z) := rfl
def rm_X4_findHeard : Room := { frames := 3, cells := 0, slots := 0, locals := 73 }
noncomputable def f_X4_findHeard (as : List mm_V) (z : mm_S) (o : mm_R) : Prop := (as.map mm_cat).sum ≤ 4 ∧ ∃ n, go_X4_findHeard n 0 (mm_ar 0 as) [] z = some o
theorem M_X4_findHeard : mm_M lyTM lyFA lenM snM 22 22 17 roM rsA nfA nmA [] yX4_findHeard cX4_findHeard 4 (none) rm_X4_findHeard f_X4_findHeard :=
  mm_met (rt := 3) (by decide +kernel) ⟨fun h => absurd h (by decide), fun h => absurd h (by decide), fun h => absurd h (by decide), fun h => rfl⟩ tbX4_findHeard_ok hsnM okFX4 okLX4 (fun _ h => absurd h List.not_mem_nil) (fun _ _ _ _ => rfl) (fun _ _ _ _ => rfl) (List.forall_mem_cons.mpr ⟨sV_X4_crewIs (Or.inl lk_X4_139) rfl ⟨by decide, by decide⟩, List.forall_mem_cons.mpr ⟨sV_X4_carries (Or.inl lk_X4_149) rfl ⟨by decide, by decide⟩, List.forall_mem_cons.mpr ⟨sV_X4_starts (Or.inl lk_X4_152) rfl ⟨by decide, by decide⟩, List.forall_mem_cons.mpr ⟨sV_X4_findTimes (Or.inl lk_X4_181) rfl ⟨by decide, by decide⟩, fun _ h => absurd h List.not_mem_nil⟩⟩⟩⟩) (fun _ h => absurd h List.not_mem_nil)
noncomputable def sX4_findHeard_49 (y1 : Int32) (y2 : Nat) (y3 : Int32) (z : mm_S) : Option ((Int32 × Nat × Int32 × mm_S) ⊕ (mm_S)) := some (.inl (y1, y2, (y3 + 1), z))
theorem kX4_findHeard_49 (y1 : Int32) (y2 : Nat) (y3 : Int32) (z : mm_S) (oo : mm_R) : mm_Xs (sX4_findHeard_49 y1 y2 y3 z) (mm_mt (fun x : Int32 × Nat × Int32 × mm_S => ∃ n, eX4_findHeard_14 n x.1 x.2.1 x.2.2.1 x.2.2.2 = some oo) (fun v => (fun v : mm_S => ((none, v) : mm_R)) v = oo)) (fun n => eX4_findHeard_49 n y1 y2 y3 z) oo :=
  xs_row (fun n => qX4_findHeard_49 n y1 y2 y3 z) (xs_v fun hc => hc)
noncomputable def lX4_findHeard_14 (s : Int32 × Nat × Int32 × mm_S) : Option ((Int32 × Nat × Int32 × mm_S) ⊕ (mm_S)) := if 36 ≤ s.2.2.1 then some (.inr (s.2.2.2)) else if s.2.2.1 < 0 ∨ lenM s.2.1 ≤ Int32.toNatClampNeg s.2.2.1 then none else (sX4_carries s.1 s.2.2.2).bind fun q3 => if (s.2.2.2.1 s.2.1 (Int32.toNatClampNeg s.2.2.1)) ≤ q3.1 then if s.2.2.1 < 0 ∨ lenM s.2.1 ≤ Int32.toNatClampNeg s.2.2.1 then none else (sX4_starts s.1 q3.2).bind fun q4 => if s.2.2.1 < 0 ∨ lenM s.2.1 ≤ Int32.toNatClampNeg s.2.2.1 then none else let u5 : mm_S := ((mm_ui q4.2.1 s.2.1 (Int32.toNatClampNeg s.2.2.1) ((q3.2.1 s.2.1 (Int32.toNatClampNeg s.2.2.1)) + q4.1)), q4.2.2); (sX4_findHeard_49 s.1 s.2.1 s.2.2.1 u5) else if s.2.2.1 < 0 ∨ lenM s.2.1 ≤ Int32.toNatClampNeg s.2.2.1 then none else (sX4_findHeard_49 s.1 s.2.1 s.2.2.1 ((mm_ui q3.2.1 s.2.1 (Int32.toNatClampNeg s.2.2.1) 10000), q3.2.2))
noncomputable def sX4_findHeard_14 (y1 : Int32) (y2 : Nat) (y3 : Int32) (z : mm_S) : Option (mm_S) := mm_wh (lX4_findHeard_14 ) mm_fu (y1, y2, y3, z)
theorem kX4_findHeard_14 (y1 : Int32) (y2 : Nat) (y3 : Int32) (z : mm_S) (oo : mm_R) : mm_Xs (sX4_findHeard_14 y1 y2 y3 z) (fun v => (fun v : mm_S => ((none, v) : mm_R)) v = oo) (fun n => eX4_findHeard_14 n y1 y2 y3 z) oo :=
  xs_wh (stp := lX4_findHeard_14 ) (o := oo) (E := (fun (s : Int32 × Nat × Int32 × mm_S) n => eX4_findHeard_14 n s.1 s.2.1 s.2.2.1 s.2.2.2)) (C := (fun v => (fun v : mm_S => ((none, v) : mm_R)) v = oo)) (fun s => xs_row (fun n => qX4_findHeard_14 n s.1 s.2.1 s.2.2.1 s.2.2.2) (xs_if (xs_v fun hc => ⟨0, congrArg some hc⟩) (xs_if xs_n (xs_bd fun q3 => (xs_if (xs_if xs_n (xs_bd fun q4 => (xs_if xs_n (let u5 : mm_S := ((mm_ui q4.2.1 s.2.1 (Int32.toNatClampNeg s.2.2.1) ((q3.2.1 s.2.1 (Int32.toNatClampNeg s.2.2.1)) + q4.1)), q4.2.2); (kX4_findHeard_49 s.1 s.2.1 s.2.2.1 u5 oo))))) (xs_if xs_n (kX4_findHeard_49 s.1 s.2.1 s.2.2.1 ((mm_ui q3.2.1 s.2.1 (Int32.toNatClampNeg s.2.2.1) 10000), q3.2.2) oo))))))) mm_fu (y1, y2, y3, z)
noncomputable def sX4_findHeard_12 (y1 : Int32) (y2 : Nat) (z : mm_S) : Option (mm_S) := (sX4_findHeard_14 y1 y2 0 z)
theorem kX4_findHeard_12 (y1 : Int32) (y2 : Nat) (z : mm_S) (oo : mm_R) : mm_Xs (sX4_findHeard_12 y1 y2 z) (fun v => (fun v : mm_S => ((none, v) : mm_R)) v = oo) (fun n => eX4_findHeard_12 n y1 y2 z) oo :=
  xs_row (fun n => qX4_findHeard_12 n y1 y2 z) (kX4_findHeard_14 y1 y2 0 z oo)
noncomputable def sX4_findHeard_0 (x1 : Int32) (x2 : Nat) (z : mm_S) : Option (mm_S) := (sX4_crewIs x1 1 z).bind fun q1 => (sX4_findTimes q1.1 1 x2 q1.2).bind fun q2 => (sX4_findHeard_12 x1 x2 q2)
theorem kX4_findHeard_0 (x1 : Int32) (x2 : Nat) (z : mm_S) (oo : mm_R) : mm_Xs (sX4_findHeard_0 x1 x2 z) (fun v => (fun v : mm_S => ((none, v) : mm_R)) v = oo) (fun n => eX4_findHeard_0 n x1 x2 z) oo :=
  xs_row (fun n => qX4_findHeard_0 n x1 x2 z) (xs_bd fun q1 => (xs_bd fun q2 => (kX4_findHeard_12 x1 x2 q2 oo)))
noncomputable def sX4_findHeard (x1 : Int32) (x2 : Nat) (z : mm_S) : Option (mm_S) := sX4_findHeard_0 x1 x2 z
theorem sp_X4_findHeard (x1 : Int32) (x2 : Nat) (z : mm_S) (hk : ∀ v ∈ [mm_P 4 0, mm_I x1, mm_P 10 x2], mm_ok 22 lyTM 22 17 v) (q : mm_S) (hq : sX4_findHeard x1 x2 z = some q) : f_X4_findHeard [mm_P 4 0, mm_I x1, mm_P 10 x2] z (none, q) := ⟨Nat.le_of_ble_eq_true rfl, kX4_findHeard_0 x1 x2 z _ q hq rfl⟩
noncomputable def clo_X4_findHeard (as : List mm_V) (z : mm_S) (kk : Option mm_V → mm_S → Option mm_R) : Option mm_R := mm_pr as fun t o0 as => bif Nat.beq t 4 then mm_pi as fun a1 as => mm_pr as fun t o2 as => bif Nat.beq t 10 then (match as with | [] => (sX4_findHeard a1 o2 z).bind fun q => kk none q | _ => none) else none else none
theorem cs_X4_findHeard : mm_cs lyTM 22 22 17 f_X4_findHeard clo_X4_findHeard := by
  intro as z K o hk h
  obtain ⟨t0, o0, r0, rfl, g0⟩ := mm_pr_e h
  obtain ⟨b0, k0⟩ := mm_bif_e g0
  obtain rfl := Nat.eq_of_beq_eq_true b0
  obtain ⟨a1, r1, rfl, g1⟩ := mm_pi_e k0
  obtain ⟨t2, o2, r2, rfl, g2⟩ := mm_pr_e g1
  obtain ⟨b2, k2⟩ := mm_bif_e g2
  obtain rfl := Nat.eq_of_beq_eq_true b2
  rcases r2 with _ | ⟨u, w⟩
  rotate_left
  · cases k2
  obtain rfl : o0 = 0 := ok4 (hk (mm_P 4 o0) (by simp))
  obtain ⟨q, hq, hq2⟩ := Option.bind_eq_some_iff.mp k2
  exact ⟨_, _, sp_X4_findHeard a1 o2 z hk q hq, (fun v hv => by cases hv), hq2⟩
theorem sV_X4_findHeard {own : String} {R : Room} {ar : Nat → Nat} {k : Nat} (hlink : Cond.methodLink own k yX4_findHeard ∈ lw_gd ∨ ∃ host, (own, k, yX4_findHeard, host) ∈ nmA) (har : ar k = 3) (hr : 4 ≤ R.frames ∧ 96 ≤ R.locals) : mm_okV lyTM lyFA lenM snM 22 22 17 roM rsA nfA nmA [] own R ar k clo_X4_findHeard := by
  refine ⟨yX4_findHeard, cX4_findHeard, 4, none, rm_X4_findHeard, f_X4_findHeard, 4, 2, (RX4, TX4, 36), M_X4_findHeard, cs_X4_findHeard, hlink, ⟨wv_X4_findHeard, wz_X4_findHeard, wi_X4_findHeard, wc_X4_findHeard⟩, ⟨by decide +kernel, by decide +kernel, by decide +kernel⟩, har, ⟨rfl, rfl, by decide⟩, ?_, ⟨rfl, rfl, hr.1, hr.2⟩⟩
  intro as z K o h
  obtain ⟨t0, o0, r0, rfl, g0⟩ := mm_pr_e h
  obtain ⟨b0, k0⟩ := mm_bif_e g0
  obtain rfl := Nat.eq_of_beq_eq_true b0
  exact ⟨_, _, rfl⟩
-- X4_heard
noncomputable def lV_X4_heard : List (Nat × (List mm_V → mm_S → (Option mm_V → mm_S → Option mm_R) → Option mm_R)) := [(124, clo_X4_finding), (146, clo_X4_isCrew), (189, clo_X4_told), (192, clo_X4_findHeard)]
noncomputable def mV_X4_heard (k : Nat) (as : List mm_V) (z : mm_S) (kk : Option mm_V → mm_S → Option mm_R) : Option mm_R := match mm_at lV_X4_heard k with
  | some f => f as z kk
  | none => none
noncomputable def arV_X4_heard (k : Nat) : Nat := (mm_at [(124, 2), (146, 2), (189, 2), (192, 3)] k).getD 0
noncomputable def lS_X4_heard : List (Nat × (List mm_V → mm_S → (Option mm_V → mm_S → Option mm_R) → Option mm_R)) := [(114, clo_X4_isCell)]
noncomputable def mS_X4_heard (k : Nat) (as : List mm_V) (z : mm_S) (kk : Option mm_V → mm_S → Option mm_R) : Option mm_R := match mm_at lS_X4_heard k with
  | some f => f as z kk
  | none => none
noncomputable def arS_X4_heard (k : Nat) : Nat := (mm_at [(114, 1)] k).getD 0
def ct_X4_heard : List (Nat × List Nat) := [(22, [0, 1, 2]), (31, [0, 2])]
noncomputable def go_X4_heard : Nat → mm_K := mm_go (fun k => mm_at flX4 k) (fun k => mm_at clX4 k) (fun k => mm_at glX4 k) arV_X4_heard arS_X4_heard mV_X4_heard mS_X4_heard lenM roM snM 3 0 tbX4_heard ct_X4_heard
noncomputable def eX4_heard_0 (n : Nat)  (x1 : Int32) (x2 : Int32) (z : mm_S) : Option mm_R := go_X4_heard n 0 [(0, mm_P 4 0), (1, mm_I x1), (2, mm_I x2)] [] z
noncomputable def eX4_heard_22 (n : Nat)  (y1 : Int32) (y2 : Int32) (z : mm_S) : Option mm_R := go_X4_heard n 22 [(0, mm_P 4 0), (1, mm_I y1), (2, mm_I y2)] [] z
noncomputable def eX4_heard_31 (n : Nat)  (y2 : Int32) (z : mm_S) : Option mm_R := go_X4_heard n 31 [(0, mm_P 4 0), (2, mm_I y2)] [] z
set_option maxRecDepth 100000 in
theorem qX4_heard_0 (n : Nat)  (x1 : Int32) (x2 : Int32) (z : mm_S) : eX4_heard_0 (n + 1) x1 x2 z = (if (pX4_isCrew x1 z) = 0 then (sX4_finding (-1000001) z).bind fun q1 => some (some (mm_I q1.1), q1.2) else if (pX4_isCell x2) = 0 then (sX4_finding (-1000001) z).bind fun q2 => some (some (mm_I q2.1), q2.2) else eX4_heard_22 n x1 x2 z) := rfl
set_option maxRecDepth 100000 in
theorem qX4_heard_22 (n : Nat)  (y1 : Int32) (y2 : Int32) (z : mm_S) : eX4_heard_22 (n + 1) y1 y2 z = ((sX4_findHeard y1 7 z).bind fun q3 => eX4_heard_31 n y2 q3) := rfl
set_option maxRecDepth 100000 in
theorem qX4_heard_31 (n : Nat)  (y2 : Int32) (z : mm_S) : eX4_heard_31 (n + 1) y2 z = (if y2 < 0 ∨ 36 ≤ Int32.toNatClampNeg y2 then none else (sX4_told (z.1 7 (Int32.toNatClampNeg y2)) z).bind fun q4 => some (some (mm_I q4.1), q4.2)) := rfl
def rm_X4_heard : Room := { frames := 4, cells := 0, slots := 0, locals := 96 }
noncomputable def f_X4_heard (as : List mm_V) (z : mm_S) (o : mm_R) : Prop := (as.map mm_cat).sum ≤ 3 ∧ ∃ n, go_X4_heard n 0 (mm_ar 0 as) [] z = some o
theorem M_X4_heard : mm_M lyTM lyFA lenM snM 22 22 17 roM rsA nfA nmA [] yX4_heard cX4_heard 3 (some .int) rm_X4_heard f_X4_heard :=
  mm_met (rt := 0) (by decide +kernel) ⟨fun h => rfl, fun h => absurd h (by decide), fun h => absurd h (by decide), fun h => absurd h (by decide)⟩ tbX4_heard_ok hsnM okFX4 okLX4 (fun _ h => absurd h List.not_mem_nil) (fun _ _ _ _ => rfl) (fun _ _ _ _ => rfl) (List.forall_mem_cons.mpr ⟨sV_X4_finding (Or.inl lk_X4_124) rfl ⟨by decide, by decide⟩, List.forall_mem_cons.mpr ⟨sV_X4_isCrew (Or.inl lk_X4_146) rfl ⟨by decide, by decide⟩, List.forall_mem_cons.mpr ⟨sV_X4_told (Or.inl lk_X4_189) rfl ⟨by decide, by decide⟩, List.forall_mem_cons.mpr ⟨sV_X4_findHeard (Or.inl lk_X4_192) rfl ⟨by decide, by decide⟩, fun _ h => absurd h List.not_mem_nil⟩⟩⟩⟩) (List.forall_mem_cons.mpr ⟨sS_X4_isCell (Or.inl lk_X4_114) rfl ⟨by decide, by decide⟩, fun _ h => absurd h List.not_mem_nil⟩)
noncomputable def sX4_heard_31 (y2 : Int32) (z : mm_S) : Option (Int32 × mm_S) := if y2 < 0 ∨ 36 ≤ Int32.toNatClampNeg y2 then none else (sX4_told (z.1 7 (Int32.toNatClampNeg y2)) z).bind fun q4 => some (q4.1, q4.2)
theorem kX4_heard_31 (y2 : Int32) (z : mm_S) (oo : mm_R) : mm_Xs (sX4_heard_31 y2 z) (fun v => (fun v : Int32 × mm_S => ((some (mm_I v.1), v.2) : mm_R)) v = oo) (fun n => eX4_heard_31 n y2 z) oo :=
  xs_row (fun n => qX4_heard_31 n y2 z) (xs_if xs_n (xs_bd fun q4 => (xs_v fun hc => ⟨0, congrArg some hc⟩)))
noncomputable def sX4_heard_22 (y1 : Int32) (y2 : Int32) (z : mm_S) : Option (Int32 × mm_S) := (sX4_findHeard y1 7 z).bind fun q3 => (sX4_heard_31 y2 q3)
theorem kX4_heard_22 (y1 : Int32) (y2 : Int32) (z : mm_S) (oo : mm_R) : mm_Xs (sX4_heard_22 y1 y2 z) (fun v => (fun v : Int32 × mm_S => ((some (mm_I v.1), v.2) : mm_R)) v = oo) (fun n => eX4_heard_22 n y1 y2 z) oo :=
  xs_row (fun n => qX4_heard_22 n y1 y2 z) (xs_bd fun q3 => (kX4_heard_31 y2 q3 oo))
noncomputable def sX4_heard_0 (x1 : Int32) (x2 : Int32) (z : mm_S) : Option (Int32 × mm_S) := if (pX4_isCrew x1 z) = 0 then (sX4_finding (-1000001) z).bind fun q1 => some (q1.1, q1.2) else if (pX4_isCell x2) = 0 then (sX4_finding (-1000001) z).bind fun q2 => some (q2.1, q2.2) else (sX4_heard_22 x1 x2 z)
theorem kX4_heard_0 (x1 : Int32) (x2 : Int32) (z : mm_S) (oo : mm_R) : mm_Xs (sX4_heard_0 x1 x2 z) (fun v => (fun v : Int32 × mm_S => ((some (mm_I v.1), v.2) : mm_R)) v = oo) (fun n => eX4_heard_0 n x1 x2 z) oo :=
  xs_row (fun n => qX4_heard_0 n x1 x2 z) (xs_if (xs_bd fun q1 => (xs_v fun hc => ⟨0, congrArg some hc⟩)) (xs_if (xs_bd fun q2 => (xs_v fun hc => ⟨0, congrArg some hc⟩)) (kX4_heard_22 x1 x2 z oo)))
noncomputable def sX4_heard (x1 : Int32) (x2 : Int32) (z : mm_S) : Option (Int32 × mm_S) := sX4_heard_0 x1 x2 z
theorem sp_X4_heard (x1 : Int32) (x2 : Int32) (z : mm_S) (hk : ∀ v ∈ [mm_P 4 0, mm_I x1, mm_I x2], mm_ok 22 lyTM 22 17 v) (q : Int32 × mm_S) (hq : sX4_heard x1 x2 z = some q) : f_X4_heard [mm_P 4 0, mm_I x1, mm_I x2] z (some (mm_I q.1), q.2) := ⟨Nat.le_of_ble_eq_true rfl, kX4_heard_0 x1 x2 z _ q hq rfl⟩
noncomputable def clo_X4_heard (as : List mm_V) (z : mm_S) (kk : Option mm_V → mm_S → Option mm_R) : Option mm_R := mm_pr as fun t o0 as => bif Nat.beq t 4 then mm_pi as fun a1 as => mm_pi as fun a2 as => (match as with | [] => (sX4_heard a1 a2 z).bind fun q => kk (some (mm_I q.1)) q.2 | _ => none) else none
theorem cs_X4_heard : mm_cs lyTM 22 22 17 f_X4_heard clo_X4_heard := by
  intro as z K o hk h
  obtain ⟨t0, o0, r0, rfl, g0⟩ := mm_pr_e h
  obtain ⟨b0, k0⟩ := mm_bif_e g0
  obtain rfl := Nat.eq_of_beq_eq_true b0
  obtain ⟨a1, r1, rfl, g1⟩ := mm_pi_e k0
  obtain ⟨a2, r2, rfl, g2⟩ := mm_pi_e g1
  rcases r2 with _ | ⟨u, w⟩
  rotate_left
  · cases g2
  obtain rfl : o0 = 0 := ok4 (hk (mm_P 4 o0) (by simp))
  obtain ⟨q, hq, hq2⟩ := Option.bind_eq_some_iff.mp g2
  exact ⟨_, _, sp_X4_heard a1 a2 z hk q hq, fun v hv => by cases hv; exact Or.inl ⟨_, rfl⟩, hq2⟩
theorem sV_X4_heard {own : String} {R : Room} {ar : Nat → Nat} {k : Nat} (hlink : Cond.methodLink own k yX4_heard ∈ lw_gd ∨ ∃ host, (own, k, yX4_heard, host) ∈ nmA) (har : ar k = 3) (hr : 5 ≤ R.frames ∧ 118 ≤ R.locals) : mm_okV lyTM lyFA lenM snM 22 22 17 roM rsA nfA nmA [] own R ar k clo_X4_heard := by
  refine ⟨yX4_heard, cX4_heard, 3, some .int, rm_X4_heard, f_X4_heard, 4, 2, (RX4, TX4, 36), M_X4_heard, cs_X4_heard, hlink, ⟨wv_X4_heard, wz_X4_heard, wi_X4_heard, wc_X4_heard⟩, ⟨by decide +kernel, by decide +kernel, by decide +kernel⟩, har, ⟨rfl, rfl, by decide⟩, ?_, ⟨rfl, rfl, hr.1, hr.2⟩⟩
  intro as z K o h
  obtain ⟨t0, o0, r0, rfl, g0⟩ := mm_pr_e h
  obtain ⟨b0, k0⟩ := mm_bif_e g0
  obtain rfl := Nat.eq_of_beq_eq_true b0
  exact ⟨_, _, rfl⟩
-- X4_reachOf
noncomputable def lV_X4_reachOf : List (Nat × (List mm_V → mm_S → (Option mm_V → mm_S → Option mm_R) → Option mm_R)) := [(192, clo_X4_findHeard)]
noncomputable def mV_X4_reachOf (k : Nat) (as : List mm_V) (z : mm_S) (kk : Option mm_V → mm_S → Option mm_R) : Option mm_R := match mm_at lV_X4_reachOf k with
  | some f => f as z kk
  | none => none
noncomputable def arV_X4_reachOf (k : Nat) : Nat := (mm_at [(192, 3)] k).getD 0
noncomputable def lS_X4_reachOf : List (Nat × (List mm_V → mm_S → (Option mm_V → mm_S → Option mm_R) → Option mm_R)) := []
noncomputable def mS_X4_reachOf (k : Nat) (as : List mm_V) (z : mm_S) (kk : Option mm_V → mm_S → Option mm_R) : Option mm_R := match mm_at lS_X4_reachOf k with
  | some f => f as z kk
  | none => none
noncomputable def arS_X4_reachOf (k : Nat) : Nat := (mm_at [] k).getD 0
def ct_X4_reachOf : List (Nat × List Nat) := [(9, [0]), (14, [0, 2, 4])]
noncomputable def go_X4_reachOf : Nat → mm_K := mm_go (fun k => mm_at flX4 k) (fun k => mm_at clX4 k) (fun k => mm_at glX4 k) arV_X4_reachOf arS_X4_reachOf mV_X4_reachOf mS_X4_reachOf lenM roM snM 5 2 tbX4_reachOf ct_X4_reachOf
noncomputable def eX4_reachOf_0 (n : Nat)  (x1 : Int32) (z : mm_S) : Option mm_R := go_X4_reachOf n 0 [(0, mm_P 4 0), (1, mm_I x1)] [] z
noncomputable def eX4_reachOf_9 (n : Nat)  (z : mm_S) : Option mm_R := go_X4_reachOf n 9 [(0, mm_P 4 0)] [] z
noncomputable def eX4_reachOf_14 (n : Nat)  (y2 : Int64) (y4 : Int32) (z : mm_S) : Option mm_R := go_X4_reachOf n 14 [(0, mm_P 4 0), (2, mm_J y2), (4, mm_I y4)] [] z
set_option maxRecDepth 100000 in
theorem qX4_reachOf_0 (n : Nat)  (x1 : Int32) (z : mm_S) : eX4_reachOf_0 (n + 1) x1 z = ((sX4_findHeard x1 7 z).bind fun q1 => eX4_reachOf_9 n  q1) := rfl
set_option maxRecDepth 100000 in
theorem qX4_reachOf_9 (n : Nat)  (z : mm_S) : eX4_reachOf_9 (n + 1)  z = (eX4_reachOf_14 n 0 0 z) := rfl
set_option maxRecDepth 100000 in
theorem qX4_reachOf_14 (n : Nat)  (y2 : Int64) (y4 : Int32) (z : mm_S) : eX4_reachOf_14 (n + 1) y2 y4 z = (if 36 ≤ y4 then some (some (mm_J y2), z) else if y4 < 0 ∨ 36 ≤ Int32.toNatClampNeg y4 then none else if 10000 ≤ (z.1 7 (Int32.toNatClampNeg y4)) then eX4_reachOf_14 n (y2 ||| 0) (y4 + 1) z else let v2 : Int64 := (y2 ||| (1 <<< (Int32.toInt64 y4 &&& 63))); eX4_reachOf_14 n v2 (y4 + 1) z) := rfl
def rm_X4_reachOf : Room := { frames := 4, cells := 0, slots := 0, locals := 96 }
noncomputable def f_X4_reachOf (as : List mm_V) (z : mm_S) (o : mm_R) : Prop := (as.map mm_cat).sum ≤ 5 ∧ ∃ n, go_X4_reachOf n 0 (mm_ar 0 as) [] z = some o
theorem M_X4_reachOf : mm_M lyTM lyFA lenM snM 22 22 17 roM rsA nfA nmA [] yX4_reachOf cX4_reachOf 5 (some .long) rm_X4_reachOf f_X4_reachOf :=
  mm_met (rt := 2) (by decide +kernel) ⟨fun h => absurd h (by decide), fun h => absurd h (by decide), fun h => rfl, fun h => absurd h (by decide)⟩ tbX4_reachOf_ok hsnM okFX4 okLX4 (fun _ h => absurd h List.not_mem_nil) (fun _ _ _ _ => rfl) (fun _ _ _ _ => rfl) (List.forall_mem_cons.mpr ⟨sV_X4_findHeard (Or.inl lk_X4_192) rfl ⟨by decide, by decide⟩, fun _ h => absurd h List.not_mem_nil⟩) (fun _ h => absurd h List.not_mem_nil)
noncomputable def lX4_reachOf_14 (s : Int64 × Int32 × mm_S) : Option ((Int64 × Int32 × mm_S) ⊕ (Int64 × mm_S)) := if 36 ≤ s.2.1 then some (.inr (s.1, s.2.2)) else if s.2.1 < 0 ∨ 36 ≤ Int32.toNatClampNeg s.2.1 then none else if 10000 ≤ (s.2.2.1 7 (Int32.toNatClampNeg s.2.1)) then some (.inl ((s.1 ||| 0), (s.2.1 + 1), s.2.2)) else let v2 : Int64 := (s.1 ||| (1 <<< (Int32.toInt64 s.2.1 &&& 63))); some (.inl (v2, (s.2.1 + 1), s.2.2))
noncomputable def sX4_reachOf_14 (y2 : Int64) (y4 : Int32) (z : mm_S) : Option (Int64 × mm_S) := mm_wh (lX4_reachOf_14 ) mm_fu (y2, y4, z)
theorem kX4_reachOf_14 (y2 : Int64) (y4 : Int32) (z : mm_S) (oo : mm_R) : mm_Xs (sX4_reachOf_14 y2 y4 z) (fun v => (fun v : Int64 × mm_S => ((some (mm_J v.1), v.2) : mm_R)) v = oo) (fun n => eX4_reachOf_14 n y2 y4 z) oo :=
  xs_wh (stp := lX4_reachOf_14 ) (o := oo) (E := (fun (s : Int64 × Int32 × mm_S) n => eX4_reachOf_14 n s.1 s.2.1 s.2.2)) (C := (fun v => (fun v : Int64 × mm_S => ((some (mm_J v.1), v.2) : mm_R)) v = oo)) (fun s => xs_row (fun n => qX4_reachOf_14 n s.1 s.2.1 s.2.2) (xs_if (xs_v fun hc => ⟨0, congrArg some hc⟩) (xs_if xs_n (xs_if (xs_v fun hc => hc) (let v2 : Int64 := (s.1 ||| (1 <<< (Int32.toInt64 s.2.1 &&& 63))); (xs_v fun hc => hc)))))) mm_fu (y2, y4, z)
noncomputable def sX4_reachOf_9  (z : mm_S) : Option (Int64 × mm_S) := (sX4_reachOf_14 0 0 z)
theorem kX4_reachOf_9  (z : mm_S) (oo : mm_R) : mm_Xs (sX4_reachOf_9  z) (fun v => (fun v : Int64 × mm_S => ((some (mm_J v.1), v.2) : mm_R)) v = oo) (fun n => eX4_reachOf_9 n  z) oo :=
  xs_row (fun n => qX4_reachOf_9 n z) (kX4_reachOf_14 0 0 z oo)
noncomputable def sX4_reachOf_0 (x1 : Int32) (z : mm_S) : Option (Int64 × mm_S) := (sX4_findHeard x1 7 z).bind fun q1 => (sX4_reachOf_9 q1)
theorem kX4_reachOf_0 (x1 : Int32) (z : mm_S) (oo : mm_R) : mm_Xs (sX4_reachOf_0 x1 z) (fun v => (fun v : Int64 × mm_S => ((some (mm_J v.1), v.2) : mm_R)) v = oo) (fun n => eX4_reachOf_0 n x1 z) oo :=
  xs_row (fun n => qX4_reachOf_0 n x1 z) (xs_bd fun q1 => (kX4_reachOf_9 q1 oo))
noncomputable def sX4_reachOf (x1 : Int32) (z : mm_S) : Option (Int64 × mm_S) := sX4_reachOf_0 x1 z
theorem sp_X4_reachOf (x1 : Int32) (z : mm_S) (hk : ∀ v ∈ [mm_P 4 0, mm_I x1], mm_ok 22 lyTM 22 17 v) (q : Int64 × mm_S) (hq : sX4_reachOf x1 z = some q) : f_X4_reachOf [mm_P 4 0, mm_I x1] z (some (mm_J q.1), q.2) := ⟨Nat.le_of_ble_eq_true rfl, kX4_reachOf_0 x1 z _ q hq rfl⟩
noncomputable def clo_X4_reachOf (as : List mm_V) (z : mm_S) (kk : Option mm_V → mm_S → Option mm_R) : Option mm_R := mm_pr as fun t o0 as => bif Nat.beq t 4 then mm_pi as fun a1 as => (match as with | [] => (sX4_reachOf a1 z).bind fun q => kk (some (mm_J q.1)) q.2 | _ => none) else none
theorem cs_X4_reachOf : mm_cs lyTM 22 22 17 f_X4_reachOf clo_X4_reachOf := by
  intro as z K o hk h
  obtain ⟨t0, o0, r0, rfl, g0⟩ := mm_pr_e h
  obtain ⟨b0, k0⟩ := mm_bif_e g0
  obtain rfl := Nat.eq_of_beq_eq_true b0
  obtain ⟨a1, r1, rfl, g1⟩ := mm_pi_e k0
  rcases r1 with _ | ⟨u, w⟩
  rotate_left
  · cases g1
  obtain rfl : o0 = 0 := ok4 (hk (mm_P 4 o0) (by simp))
  obtain ⟨q, hq, hq2⟩ := Option.bind_eq_some_iff.mp g1
  exact ⟨_, _, sp_X4_reachOf a1 z hk q hq, fun v hv => by cases hv; exact Or.inr ⟨_, rfl⟩, hq2⟩
theorem sV_X4_reachOf {own : String} {R : Room} {ar : Nat → Nat} {k : Nat} (hlink : Cond.methodLink own k yX4_reachOf ∈ lw_gd ∨ ∃ host, (own, k, yX4_reachOf, host) ∈ nmA) (har : ar k = 2) (hr : 5 ≤ R.frames ∧ 120 ≤ R.locals) : mm_okV lyTM lyFA lenM snM 22 22 17 roM rsA nfA nmA [] own R ar k clo_X4_reachOf := by
  refine ⟨yX4_reachOf, cX4_reachOf, 5, some .long, rm_X4_reachOf, f_X4_reachOf, 4, 1, (RX4, TX4, 36), M_X4_reachOf, cs_X4_reachOf, hlink, ⟨wv_X4_reachOf, wz_X4_reachOf, wi_X4_reachOf, wc_X4_reachOf⟩, ⟨by decide +kernel, by decide +kernel, by decide +kernel⟩, har, ⟨rfl, rfl, by decide⟩, ?_, ⟨rfl, rfl, hr.1, hr.2⟩⟩
  intro as z K o h
  obtain ⟨t0, o0, r0, rfl, g0⟩ := mm_pr_e h
  obtain ⟨b0, k0⟩ := mm_bif_e g0
  obtain rfl := Nat.eq_of_beq_eq_true b0
  exact ⟨_, _, rfl⟩
-- X4_reach
noncomputable def lV_X4_reach : List (Nat × (List mm_V → mm_S → (Option mm_V → mm_S → Option mm_R) → Option mm_R)) := [(124, clo_X4_finding), (146, clo_X4_isCrew), (196, clo_X4_reachOf)]
noncomputable def mV_X4_reach (k : Nat) (as : List mm_V) (z : mm_S) (kk : Option mm_V → mm_S → Option mm_R) : Option mm_R := match mm_at lV_X4_reach k with
  | some f => f as z kk
  | none => none
noncomputable def arV_X4_reach (k : Nat) : Nat := (mm_at [(124, 2), (146, 2), (196, 2)] k).getD 0
noncomputable def lS_X4_reach : List (Nat × (List mm_V → mm_S → (Option mm_V → mm_S → Option mm_R) → Option mm_R)) := []
noncomputable def mS_X4_reach (k : Nat) (as : List mm_V) (z : mm_S) (kk : Option mm_V → mm_S → Option mm_R) : Option mm_R := match mm_at lS_X4_reach k with
  | some f => f as z kk
  | none => none
noncomputable def arS_X4_reach (k : Nat) : Nat := (mm_at [] k).getD 0
def ct_X4_reach : List (Nat × List Nat) := [(16, [0])]
noncomputable def go_X4_reach : Nat → mm_K := mm_go (fun k => mm_at flX4 k) (fun k => mm_at clX4 k) (fun k => mm_at glX4 k) arV_X4_reach arS_X4_reach mV_X4_reach mS_X4_reach lenM roM snM 2 2 tbX4_reach ct_X4_reach
noncomputable def eX4_reach_0 (n : Nat)  (x1 : Int32) (z : mm_S) : Option mm_R := go_X4_reach n 0 [(0, mm_P 4 0), (1, mm_I x1)] [] z
noncomputable def eX4_reach_16 (n : Nat)  (z : mm_S) : Option mm_R := go_X4_reach n 16 [(0, mm_P 4 0)] [] z
set_option maxRecDepth 100000 in
theorem qX4_reach_0 (n : Nat)  (x1 : Int32) (z : mm_S) : eX4_reach_0 (n + 1) x1 z = (if (pX4_isCrew x1 z) = 0 then eX4_reach_16 n  z else (sX4_reachOf x1 z).bind fun q1 => some (some (mm_J q1.1), q1.2)) := rfl
set_option maxRecDepth 100000 in
theorem qX4_reach_16 (n : Nat)  (z : mm_S) : eX4_reach_16 (n + 1)  z = ((sX4_finding (-1000001) z).bind fun q2 => some (some (mm_J (Int32.toInt64 q2.1)), q2.2)) := rfl
def rm_X4_reach : Room := { frames := 5, cells := 0, slots := 0, locals := 120 }
noncomputable def f_X4_reach (as : List mm_V) (z : mm_S) (o : mm_R) : Prop := (as.map mm_cat).sum ≤ 2 ∧ ∃ n, go_X4_reach n 0 (mm_ar 0 as) [] z = some o
theorem M_X4_reach : mm_M lyTM lyFA lenM snM 22 22 17 roM rsA nfA nmA [] yX4_reach cX4_reach 2 (some .long) rm_X4_reach f_X4_reach :=
  mm_met (rt := 2) (by decide +kernel) ⟨fun h => absurd h (by decide), fun h => absurd h (by decide), fun h => rfl, fun h => absurd h (by decide)⟩ tbX4_reach_ok hsnM okFX4 okLX4 (fun _ h => absurd h List.not_mem_nil) (fun _ _ _ _ => rfl) (fun _ _ _ _ => rfl) (List.forall_mem_cons.mpr ⟨sV_X4_finding (Or.inl lk_X4_124) rfl ⟨by decide, by decide⟩, List.forall_mem_cons.mpr ⟨sV_X4_isCrew (Or.inl lk_X4_146) rfl ⟨by decide, by decide⟩, List.forall_mem_cons.mpr ⟨sV_X4_reachOf (Or.inl lk_X4_196) rfl ⟨by decide, by decide⟩, fun _ h => absurd h List.not_mem_nil⟩⟩⟩) (fun _ h => absurd h List.not_mem_nil)
noncomputable def sX4_reach_16  (z : mm_S) : Option (Int64 × mm_S) := (sX4_finding (-1000001) z).bind fun q2 => some ((Int32.toInt64 q2.1), q2.2)
theorem kX4_reach_16  (z : mm_S) (oo : mm_R) : mm_Xs (sX4_reach_16  z) (fun v => (fun v : Int64 × mm_S => ((some (mm_J v.1), v.2) : mm_R)) v = oo) (fun n => eX4_reach_16 n  z) oo :=
  xs_row (fun n => qX4_reach_16 n z) (xs_bd fun q2 => (xs_v fun hc => ⟨0, congrArg some hc⟩))
noncomputable def sX4_reach_0 (x1 : Int32) (z : mm_S) : Option (Int64 × mm_S) := if (pX4_isCrew x1 z) = 0 then (sX4_reach_16 z) else (sX4_reachOf x1 z).bind fun q1 => some (q1.1, q1.2)
theorem kX4_reach_0 (x1 : Int32) (z : mm_S) (oo : mm_R) : mm_Xs (sX4_reach_0 x1 z) (fun v => (fun v : Int64 × mm_S => ((some (mm_J v.1), v.2) : mm_R)) v = oo) (fun n => eX4_reach_0 n x1 z) oo :=
  xs_row (fun n => qX4_reach_0 n x1 z) (xs_if (kX4_reach_16 z oo) (xs_bd fun q1 => (xs_v fun hc => ⟨0, congrArg some hc⟩)))
noncomputable def sX4_reach (x1 : Int32) (z : mm_S) : Option (Int64 × mm_S) := sX4_reach_0 x1 z
theorem sp_X4_reach (x1 : Int32) (z : mm_S) (hk : ∀ v ∈ [mm_P 4 0, mm_I x1], mm_ok 22 lyTM 22 17 v) (q : Int64 × mm_S) (hq : sX4_reach x1 z = some q) : f_X4_reach [mm_P 4 0, mm_I x1] z (some (mm_J q.1), q.2) := ⟨Nat.le_of_ble_eq_true rfl, kX4_reach_0 x1 z _ q hq rfl⟩
noncomputable def clo_X4_reach (as : List mm_V) (z : mm_S) (kk : Option mm_V → mm_S → Option mm_R) : Option mm_R := mm_pr as fun t o0 as => bif Nat.beq t 4 then mm_pi as fun a1 as => (match as with | [] => (sX4_reach a1 z).bind fun q => kk (some (mm_J q.1)) q.2 | _ => none) else none
theorem cs_X4_reach : mm_cs lyTM 22 22 17 f_X4_reach clo_X4_reach := by
  intro as z K o hk h
  obtain ⟨t0, o0, r0, rfl, g0⟩ := mm_pr_e h
  obtain ⟨b0, k0⟩ := mm_bif_e g0
  obtain rfl := Nat.eq_of_beq_eq_true b0
  obtain ⟨a1, r1, rfl, g1⟩ := mm_pi_e k0
  rcases r1 with _ | ⟨u, w⟩
  rotate_left
  · cases g1
  obtain rfl : o0 = 0 := ok4 (hk (mm_P 4 o0) (by simp))
  obtain ⟨q, hq, hq2⟩ := Option.bind_eq_some_iff.mp g1
  exact ⟨_, _, sp_X4_reach a1 z hk q hq, fun v hv => by cases hv; exact Or.inr ⟨_, rfl⟩, hq2⟩
theorem sV_X4_reach {own : String} {R : Room} {ar : Nat → Nat} {k : Nat} (hlink : Cond.methodLink own k yX4_reach ∈ lw_gd ∨ ∃ host, (own, k, yX4_reach, host) ∈ nmA) (har : ar k = 2) (hr : 6 ≤ R.frames ∧ 141 ≤ R.locals) : mm_okV lyTM lyFA lenM snM 22 22 17 roM rsA nfA nmA [] own R ar k clo_X4_reach := by
  refine ⟨yX4_reach, cX4_reach, 2, some .long, rm_X4_reach, f_X4_reach, 4, 1, (RX4, TX4, 36), M_X4_reach, cs_X4_reach, hlink, ⟨wv_X4_reach, wz_X4_reach, wi_X4_reach, wc_X4_reach⟩, ⟨by decide +kernel, by decide +kernel, by decide +kernel⟩, har, ⟨rfl, rfl, by decide⟩, ?_, ⟨rfl, rfl, hr.1, hr.2⟩⟩
  intro as z K o h
  obtain ⟨t0, o0, r0, rfl, g0⟩ := mm_pr_e h
  obtain ⟨b0, k0⟩ := mm_bif_e g0
  obtain rfl := Nat.eq_of_beq_eq_true b0
  exact ⟨_, _, rfl⟩
-- X4_doesHear
noncomputable def lV_X4_doesHear : List (Nat × (List mm_V → mm_S → (Option mm_V → mm_S → Option mm_R) → Option mm_R)) := [(139, clo_X4_crewIs), (155, clo_X4_hearsBy), (192, clo_X4_findHeard)]
noncomputable def mV_X4_doesHear (k : Nat) (as : List mm_V) (z : mm_S) (kk : Option mm_V → mm_S → Option mm_R) : Option mm_R := match mm_at lV_X4_doesHear k with
  | some f => f as z kk
  | none => none
noncomputable def arV_X4_doesHear (k : Nat) : Nat := (mm_at [(139, 3), (155, 2), (192, 3)] k).getD 0
noncomputable def lS_X4_doesHear : List (Nat × (List mm_V → mm_S → (Option mm_V → mm_S → Option mm_R) → Option mm_R)) := []
noncomputable def mS_X4_doesHear (k : Nat) (as : List mm_V) (z : mm_S) (kk : Option mm_V → mm_S → Option mm_R) : Option mm_R := match mm_at lS_X4_doesHear k with
  | some f => f as z kk
  | none => none
noncomputable def arS_X4_doesHear (k : Nat) : Nat := (mm_at [] k).getD 0
def ct_X4_doesHear : List (Nat × List Nat) := [(9, [0, 1]), (28, [])]
noncomputable def go_X4_doesHear : Nat → mm_K := mm_go (fun k => mm_at flX4 k) (fun k => mm_at clX4 k) (fun k => mm_at glX4 k) arV_X4_doesHear arS_X4_doesHear mV_X4_doesHear mS_X4_doesHear lenM roM snM 3 1 tbX4_doesHear ct_X4_doesHear
noncomputable def eX4_doesHear_0 (n : Nat)  (x1 : Int32) (x2 : Int32) (z : mm_S) : Option mm_R := go_X4_doesHear n 0 [(0, mm_P 4 0), (1, mm_I x1), (2, mm_I x2)] [] z
noncomputable def eX4_doesHear_9 (n : Nat)  (y1 : Int32) (z : mm_S) : Option mm_R := go_X4_doesHear n 9 [(0, mm_P 4 0), (1, mm_I y1)] [] z
noncomputable def eX4_doesHear_28 (n : Nat)  (z : mm_S) : Option mm_R := go_X4_doesHear n 28 [] [] z
set_option maxRecDepth 100000 in
theorem qX4_doesHear_0 (n : Nat)  (x1 : Int32) (x2 : Int32) (z : mm_S) : eX4_doesHear_0 (n + 1) x1 x2 z = ((sX4_findHeard x2 7 z).bind fun q1 => eX4_doesHear_9 n x1 q1) := rfl
set_option maxRecDepth 100000 in
theorem qX4_doesHear_9 (n : Nat)  (y1 : Int32) (z : mm_S) : eX4_doesHear_9 (n + 1) y1 z = ((sX4_crewIs y1 1 z).bind fun q2 => if q2.1 < 0 ∨ 36 ≤ Int32.toNatClampNeg q2.1 then none else (sX4_hearsBy y1 q2.2).bind fun q3 => if q3.1 < (q2.2.1 7 (Int32.toNatClampNeg q2.1)) then some (some (mm_I 0), q3.2) else eX4_doesHear_28 n  q3.2) := rfl
set_option maxRecDepth 100000 in
theorem qX4_doesHear_28 (n : Nat)  (z : mm_S) : eX4_doesHear_28 (n + 1)  z = (some (some (mm_I 1), z)) := rfl
def rm_X4_doesHear : Room := { frames := 4, cells := 0, slots := 0, locals := 96 }
noncomputable def f_X4_doesHear (as : List mm_V) (z : mm_S) (o : mm_R) : Prop := (as.map mm_cat).sum ≤ 3 ∧ ∃ n, go_X4_doesHear n 0 (mm_ar 0 as) [] z = some o
theorem M_X4_doesHear : mm_M lyTM lyFA lenM snM 22 22 17 roM rsA nfA nmA [] yX4_doesHear cX4_doesHear 3 (some .boolean) rm_X4_doesHear f_X4_doesHear :=
  mm_met (rt := 1) (by decide +kernel) ⟨fun h => absurd h (by decide), fun h => rfl, fun h => absurd h (by decide), fun h => absurd h (by decide)⟩ tbX4_doesHear_ok hsnM okFX4 okLX4 (fun _ h => absurd h List.not_mem_nil) (fun _ _ _ _ => rfl) (fun _ _ _ _ => rfl) (List.forall_mem_cons.mpr ⟨sV_X4_crewIs (Or.inl lk_X4_139) rfl ⟨by decide, by decide⟩, List.forall_mem_cons.mpr ⟨sV_X4_hearsBy (Or.inl lk_X4_155) rfl ⟨by decide, by decide⟩, List.forall_mem_cons.mpr ⟨sV_X4_findHeard (Or.inl lk_X4_192) rfl ⟨by decide, by decide⟩, fun _ h => absurd h List.not_mem_nil⟩⟩⟩) (fun _ h => absurd h List.not_mem_nil)
noncomputable def sX4_doesHear_28  (z : mm_S) : Option (Int32 × mm_S) := some (1, z)
theorem kX4_doesHear_28  (z : mm_S) (oo : mm_R) : mm_Xs (sX4_doesHear_28  z) (fun v => (fun v : Int32 × mm_S => ((some (mm_I v.1), v.2) : mm_R)) v = oo) (fun n => eX4_doesHear_28 n  z) oo :=
  xs_row (fun n => qX4_doesHear_28 n z) (xs_v fun hc => ⟨0, congrArg some hc⟩)
noncomputable def sX4_doesHear_9 (y1 : Int32) (z : mm_S) : Option (Int32 × mm_S) := (sX4_crewIs y1 1 z).bind fun q2 => if q2.1 < 0 ∨ 36 ≤ Int32.toNatClampNeg q2.1 then none else (sX4_hearsBy y1 q2.2).bind fun q3 => if q3.1 < (q2.2.1 7 (Int32.toNatClampNeg q2.1)) then some (0, q3.2) else (sX4_doesHear_28 q3.2)
theorem kX4_doesHear_9 (y1 : Int32) (z : mm_S) (oo : mm_R) : mm_Xs (sX4_doesHear_9 y1 z) (fun v => (fun v : Int32 × mm_S => ((some (mm_I v.1), v.2) : mm_R)) v = oo) (fun n => eX4_doesHear_9 n y1 z) oo :=
  xs_row (fun n => qX4_doesHear_9 n y1 z) (xs_bd fun q2 => (xs_if xs_n (xs_bd fun q3 => (xs_if (xs_v fun hc => ⟨0, congrArg some hc⟩) (kX4_doesHear_28 q3.2 oo)))))
noncomputable def sX4_doesHear_0 (x1 : Int32) (x2 : Int32) (z : mm_S) : Option (Int32 × mm_S) := (sX4_findHeard x2 7 z).bind fun q1 => (sX4_doesHear_9 x1 q1)
theorem kX4_doesHear_0 (x1 : Int32) (x2 : Int32) (z : mm_S) (oo : mm_R) : mm_Xs (sX4_doesHear_0 x1 x2 z) (fun v => (fun v : Int32 × mm_S => ((some (mm_I v.1), v.2) : mm_R)) v = oo) (fun n => eX4_doesHear_0 n x1 x2 z) oo :=
  xs_row (fun n => qX4_doesHear_0 n x1 x2 z) (xs_bd fun q1 => (kX4_doesHear_9 x1 q1 oo))
noncomputable def sX4_doesHear (x1 : Int32) (x2 : Int32) (z : mm_S) : Option (Int32 × mm_S) := sX4_doesHear_0 x1 x2 z
theorem sp_X4_doesHear (x1 : Int32) (x2 : Int32) (z : mm_S) (hk : ∀ v ∈ [mm_P 4 0, mm_I x1, mm_I x2], mm_ok 22 lyTM 22 17 v) (q : Int32 × mm_S) (hq : sX4_doesHear x1 x2 z = some q) : f_X4_doesHear [mm_P 4 0, mm_I x1, mm_I x2] z (some (mm_I q.1), q.2) := ⟨Nat.le_of_ble_eq_true rfl, kX4_doesHear_0 x1 x2 z _ q hq rfl⟩
noncomputable def clo_X4_doesHear (as : List mm_V) (z : mm_S) (kk : Option mm_V → mm_S → Option mm_R) : Option mm_R := mm_pr as fun t o0 as => bif Nat.beq t 4 then mm_pi as fun a1 as => mm_pi as fun a2 as => (match as with | [] => (sX4_doesHear a1 a2 z).bind fun q => kk (some (mm_I q.1)) q.2 | _ => none) else none
theorem cs_X4_doesHear : mm_cs lyTM 22 22 17 f_X4_doesHear clo_X4_doesHear := by
  intro as z K o hk h
  obtain ⟨t0, o0, r0, rfl, g0⟩ := mm_pr_e h
  obtain ⟨b0, k0⟩ := mm_bif_e g0
  obtain rfl := Nat.eq_of_beq_eq_true b0
  obtain ⟨a1, r1, rfl, g1⟩ := mm_pi_e k0
  obtain ⟨a2, r2, rfl, g2⟩ := mm_pi_e g1
  rcases r2 with _ | ⟨u, w⟩
  rotate_left
  · cases g2
  obtain rfl : o0 = 0 := ok4 (hk (mm_P 4 o0) (by simp))
  obtain ⟨q, hq, hq2⟩ := Option.bind_eq_some_iff.mp g2
  exact ⟨_, _, sp_X4_doesHear a1 a2 z hk q hq, fun v hv => by cases hv; exact Or.inl ⟨_, rfl⟩, hq2⟩
theorem sV_X4_doesHear {own : String} {R : Room} {ar : Nat → Nat} {k : Nat} (hlink : Cond.methodLink own k yX4_doesHear ∈ lw_gd ∨ ∃ host, (own, k, yX4_doesHear, host) ∈ nmA) (har : ar k = 3) (hr : 5 ≤ R.frames ∧ 118 ≤ R.locals) : mm_okV lyTM lyFA lenM snM 22 22 17 roM rsA nfA nmA [] own R ar k clo_X4_doesHear := by
  refine ⟨yX4_doesHear, cX4_doesHear, 3, some .boolean, rm_X4_doesHear, f_X4_doesHear, 4, 2, (RX4, TX4, 36), M_X4_doesHear, cs_X4_doesHear, hlink, ⟨wv_X4_doesHear, wz_X4_doesHear, wi_X4_doesHear, wc_X4_doesHear⟩, ⟨by decide +kernel, by decide +kernel, by decide +kernel⟩, har, ⟨rfl, rfl, by decide⟩, ?_, ⟨rfl, rfl, hr.1, hr.2⟩⟩
  intro as z K o h
  obtain ⟨t0, o0, r0, rfl, g0⟩ := mm_pr_e h
  obtain ⟨b0, k0⟩ := mm_bif_e g0
  obtain rfl := Nat.eq_of_beq_eq_true b0
  exact ⟨_, _, rfl⟩
-- X4_hears
noncomputable def lV_X4_hears : List (Nat × (List mm_V → mm_S → (Option mm_V → mm_S → Option mm_R) → Option mm_R)) := [(124, clo_X4_finding), (146, clo_X4_isCrew), (199, clo_X4_doesHear)]
noncomputable def mV_X4_hears (k : Nat) (as : List mm_V) (z : mm_S) (kk : Option mm_V → mm_S → Option mm_R) : Option mm_R := match mm_at lV_X4_hears k with
  | some f => f as z kk
  | none => none
noncomputable def arV_X4_hears (k : Nat) : Nat := (mm_at [(124, 2), (146, 2), (199, 3)] k).getD 0
noncomputable def lS_X4_hears : List (Nat × (List mm_V → mm_S → (Option mm_V → mm_S → Option mm_R) → Option mm_R)) := []
noncomputable def mS_X4_hears (k : Nat) (as : List mm_V) (z : mm_S) (kk : Option mm_V → mm_S → Option mm_R) : Option mm_R := match mm_at lS_X4_hears k with
  | some f => f as z kk
  | none => none
noncomputable def arS_X4_hears (k : Nat) : Nat := (mm_at [] k).getD 0
def ct_X4_hears : List (Nat × List Nat) := [(15, [0, 1]), (19, [0, 1, 2, 3]), (53, [0, 1, 2, 3])]
noncomputable def go_X4_hears : Nat → mm_K := mm_go (fun k => mm_at flX4 k) (fun k => mm_at clX4 k) (fun k => mm_at glX4 k) arV_X4_hears arS_X4_hears mV_X4_hears mS_X4_hears lenM roM snM 4 0 tbX4_hears ct_X4_hears
noncomputable def eX4_hears_0 (n : Nat)  (x1 : Int32) (z : mm_S) : Option mm_R := go_X4_hears n 0 [(0, mm_P 4 0), (1, mm_I x1)] [] z
noncomputable def eX4_hears_15 (n : Nat)  (y1 : Int32) (z : mm_S) : Option mm_R := go_X4_hears n 15 [(0, mm_P 4 0), (1, mm_I y1)] [] z
noncomputable def eX4_hears_19 (n : Nat)  (y1 : Int32) (y2 : Int32) (y3 : Int32) (z : mm_S) : Option mm_R := go_X4_hears n 19 [(0, mm_P 4 0), (1, mm_I y1), (2, mm_I y2), (3, mm_I y3)] [] z
noncomputable def eX4_hears_53 (n : Nat)  (y1 : Int32) (y2 : Int32) (y3 : Int32) (z : mm_S) : Option mm_R := go_X4_hears n 53 [(0, mm_P 4 0), (1, mm_I y1), (2, mm_I y2), (3, mm_I y3)] [] z
set_option maxRecDepth 100000 in
theorem qX4_hears_0 (n : Nat)  (x1 : Int32) (z : mm_S) : eX4_hears_0 (n + 1) x1 z = (if (pX4_isCrew x1 z) = 0 then (sX4_finding (-1000001) z).bind fun q1 => some (some (mm_I q1.1), q1.2) else eX4_hears_15 n x1 z) := rfl
set_option maxRecDepth 100000 in
theorem qX4_hears_15 (n : Nat)  (y1 : Int32) (z : mm_S) : eX4_hears_15 (n + 1) y1 z = (eX4_hears_19 n y1 0 0 z) := rfl
set_option maxRecDepth 100000 in
theorem qX4_hears_19 (n : Nat)  (y1 : Int32) (y2 : Int32) (y3 : Int32) (z : mm_S) : eX4_hears_19 (n + 1) y1 y2 y3 z = (if (z.1 1 1) ≤ y3 then some (some (mm_I y2), z) else if y3 = y1 then eX4_hears_53 n y1 (y2 ||| 0) y3 z else (sX4_doesHear y1 y3 z).bind fun q2 => if q2.1 = 0 then eX4_hears_53 n y1 (y2 ||| 0) y3 q2.2 else eX4_hears_53 n y1 (y2 ||| (1 <<< (y3 &&& 31))) y3 q2.2) := rfl
set_option maxRecDepth 100000 in
theorem qX4_hears_53 (n : Nat)  (y1 : Int32) (y2 : Int32) (y3 : Int32) (z : mm_S) : eX4_hears_53 (n + 1) y1 y2 y3 z = (eX4_hears_19 n y1 y2 (y3 + 1) z) := rfl
def rm_X4_hears : Room := { frames := 5, cells := 0, slots := 0, locals := 118 }
noncomputable def f_X4_hears (as : List mm_V) (z : mm_S) (o : mm_R) : Prop := (as.map mm_cat).sum ≤ 4 ∧ ∃ n, go_X4_hears n 0 (mm_ar 0 as) [] z = some o
theorem M_X4_hears : mm_M lyTM lyFA lenM snM 22 22 17 roM rsA nfA nmA [] yX4_hears cX4_hears 4 (some .int) rm_X4_hears f_X4_hears :=
  mm_met (rt := 0) (by decide +kernel) ⟨fun h => rfl, fun h => absurd h (by decide), fun h => absurd h (by decide), fun h => absurd h (by decide)⟩ tbX4_hears_ok hsnM okFX4 okLX4 (fun _ h => absurd h List.not_mem_nil) (fun _ _ _ _ => rfl) (fun _ _ _ _ => rfl) (List.forall_mem_cons.mpr ⟨sV_X4_finding (Or.inl lk_X4_124) rfl ⟨by decide, by decide⟩, List.forall_mem_cons.mpr ⟨sV_X4_isCrew (Or.inl lk_X4_146) rfl ⟨by decide, by decide⟩, List.forall_mem_cons.mpr ⟨sV_X4_doesHear (Or.inl lk_X4_199) rfl ⟨by decide, by decide⟩, fun _ h => absurd h List.not_mem_nil⟩⟩⟩) (fun _ h => absurd h List.not_mem_nil)
noncomputable def sX4_hears_53 (y1 : Int32) (y2 : Int32) (y3 : Int32) (z : mm_S) : Option ((Int32 × Int32 × Int32 × mm_S) ⊕ (Int32 × mm_S)) := some (.inl (y1, y2, (y3 + 1), z))
theorem kX4_hears_53 (y1 : Int32) (y2 : Int32) (y3 : Int32) (z : mm_S) (oo : mm_R) : mm_Xs (sX4_hears_53 y1 y2 y3 z) (mm_mt (fun x : Int32 × Int32 × Int32 × mm_S => ∃ n, eX4_hears_19 n x.1 x.2.1 x.2.2.1 x.2.2.2 = some oo) (fun v => (fun v : Int32 × mm_S => ((some (mm_I v.1), v.2) : mm_R)) v = oo)) (fun n => eX4_hears_53 n y1 y2 y3 z) oo :=
  xs_row (fun n => qX4_hears_53 n y1 y2 y3 z) (xs_v fun hc => hc)
noncomputable def lX4_hears_19 (s : Int32 × Int32 × Int32 × mm_S) : Option ((Int32 × Int32 × Int32 × mm_S) ⊕ (Int32 × mm_S)) := if (s.2.2.2.1 1 1) ≤ s.2.2.1 then some (.inr (s.2.1, s.2.2.2)) else if s.2.2.1 = s.1 then (sX4_hears_53 s.1 (s.2.1 ||| 0) s.2.2.1 s.2.2.2) else (sX4_doesHear s.1 s.2.2.1 s.2.2.2).bind fun q2 => if q2.1 = 0 then (sX4_hears_53 s.1 (s.2.1 ||| 0) s.2.2.1 q2.2) else (sX4_hears_53 s.1 (s.2.1 ||| (1 <<< (s.2.2.1 &&& 31))) s.2.2.1 q2.2)
noncomputable def sX4_hears_19 (y1 : Int32) (y2 : Int32) (y3 : Int32) (z : mm_S) : Option (Int32 × mm_S) := mm_wh (lX4_hears_19 ) mm_fu (y1, y2, y3, z)
theorem kX4_hears_19 (y1 : Int32) (y2 : Int32) (y3 : Int32) (z : mm_S) (oo : mm_R) : mm_Xs (sX4_hears_19 y1 y2 y3 z) (fun v => (fun v : Int32 × mm_S => ((some (mm_I v.1), v.2) : mm_R)) v = oo) (fun n => eX4_hears_19 n y1 y2 y3 z) oo :=
  xs_wh (stp := lX4_hears_19 ) (o := oo) (E := (fun (s : Int32 × Int32 × Int32 × mm_S) n => eX4_hears_19 n s.1 s.2.1 s.2.2.1 s.2.2.2)) (C := (fun v => (fun v : Int32 × mm_S => ((some (mm_I v.1), v.2) : mm_R)) v = oo)) (fun s => xs_row (fun n => qX4_hears_19 n s.1 s.2.1 s.2.2.1 s.2.2.2) (xs_if (xs_v fun hc => ⟨0, congrArg some hc⟩) (xs_if (kX4_hears_53 s.1 (s.2.1 ||| 0) s.2.2.1 s.2.2.2 oo) (xs_bd fun q2 => (xs_if (kX4_hears_53 s.1 (s.2.1 ||| 0) s.2.2.1 q2.2 oo) (kX4_hears_53 s.1 (s.2.1 ||| (1 <<< (s.2.2.1 &&& 31))) s.2.2.1 q2.2 oo)))))) mm_fu (y1, y2, y3, z)
noncomputable def sX4_hears_15 (y1 : Int32) (z : mm_S) : Option (Int32 × mm_S) := (sX4_hears_19 y1 0 0 z)
theorem kX4_hears_15 (y1 : Int32) (z : mm_S) (oo : mm_R) : mm_Xs (sX4_hears_15 y1 z) (fun v => (fun v : Int32 × mm_S => ((some (mm_I v.1), v.2) : mm_R)) v = oo) (fun n => eX4_hears_15 n y1 z) oo :=
  xs_row (fun n => qX4_hears_15 n y1 z) (kX4_hears_19 y1 0 0 z oo)
noncomputable def sX4_hears_0 (x1 : Int32) (z : mm_S) : Option (Int32 × mm_S) := if (pX4_isCrew x1 z) = 0 then (sX4_finding (-1000001) z).bind fun q1 => some (q1.1, q1.2) else (sX4_hears_15 x1 z)
theorem kX4_hears_0 (x1 : Int32) (z : mm_S) (oo : mm_R) : mm_Xs (sX4_hears_0 x1 z) (fun v => (fun v : Int32 × mm_S => ((some (mm_I v.1), v.2) : mm_R)) v = oo) (fun n => eX4_hears_0 n x1 z) oo :=
  xs_row (fun n => qX4_hears_0 n x1 z) (xs_if (xs_bd fun q1 => (xs_v fun hc => ⟨0, congrArg some hc⟩)) (kX4_hears_15 x1 z oo))
noncomputable def sX4_hears (x1 : Int32) (z : mm_S) : Option (Int32 × mm_S) := sX4_hears_0 x1 z
theorem sp_X4_hears (x1 : Int32) (z : mm_S) (hk : ∀ v ∈ [mm_P 4 0, mm_I x1], mm_ok 22 lyTM 22 17 v) (q : Int32 × mm_S) (hq : sX4_hears x1 z = some q) : f_X4_hears [mm_P 4 0, mm_I x1] z (some (mm_I q.1), q.2) := ⟨Nat.le_of_ble_eq_true rfl, kX4_hears_0 x1 z _ q hq rfl⟩
noncomputable def clo_X4_hears (as : List mm_V) (z : mm_S) (kk : Option mm_V → mm_S → Option mm_R) : Option mm_R := mm_pr as fun t o0 as => bif Nat.beq t 4 then mm_pi as fun a1 as => (match as with | [] => (sX4_hears a1 z).bind fun q => kk (some (mm_I q.1)) q.2 | _ => none) else none
theorem cs_X4_hears : mm_cs lyTM 22 22 17 f_X4_hears clo_X4_hears := by
  intro as z K o hk h
  obtain ⟨t0, o0, r0, rfl, g0⟩ := mm_pr_e h
  obtain ⟨b0, k0⟩ := mm_bif_e g0
  obtain rfl := Nat.eq_of_beq_eq_true b0
  obtain ⟨a1, r1, rfl, g1⟩ := mm_pi_e k0
  rcases r1 with _ | ⟨u, w⟩
  rotate_left
  · cases g1
  obtain rfl : o0 = 0 := ok4 (hk (mm_P 4 o0) (by simp))
  obtain ⟨q, hq, hq2⟩ := Option.bind_eq_some_iff.mp g1
  exact ⟨_, _, sp_X4_hears a1 z hk q hq, fun v hv => by cases hv; exact Or.inl ⟨_, rfl⟩, hq2⟩
theorem sV_X4_hears {own : String} {R : Room} {ar : Nat → Nat} {k : Nat} (hlink : Cond.methodLink own k yX4_hears ∈ lw_gd ∨ ∃ host, (own, k, yX4_hears, host) ∈ nmA) (har : ar k = 2) (hr : 6 ≤ R.frames ∧ 141 ≤ R.locals) : mm_okV lyTM lyFA lenM snM 22 22 17 roM rsA nfA nmA [] own R ar k clo_X4_hears := by
  refine ⟨yX4_hears, cX4_hears, 4, some .int, rm_X4_hears, f_X4_hears, 4, 1, (RX4, TX4, 36), M_X4_hears, cs_X4_hears, hlink, ⟨wv_X4_hears, wz_X4_hears, wi_X4_hears, wc_X4_hears⟩, ⟨by decide +kernel, by decide +kernel, by decide +kernel⟩, har, ⟨rfl, rfl, by decide⟩, ?_, ⟨rfl, rfl, hr.1, hr.2⟩⟩
  intro as z K o h
  obtain ⟨t0, o0, r0, rfl, g0⟩ := mm_pr_e h
  obtain ⟨b0, k0⟩ := mm_bif_e g0
  obtain rfl := Nat.eq_of_beq_eq_true b0
  exact ⟨_, _, rfl⟩
-- X4_echoOf
noncomputable def lV_X4_echoOf : List (Nat × (List mm_V → mm_S → (Option mm_V → mm_S → Option mm_R) → Option mm_R)) := [(149, clo_X4_carries), (152, clo_X4_starts)]
noncomputable def mV_X4_echoOf (k : Nat) (as : List mm_V) (z : mm_S) (kk : Option mm_V → mm_S → Option mm_R) : Option mm_R := match mm_at lV_X4_echoOf k with
  | some f => f as z kk
  | none => none
noncomputable def arV_X4_echoOf (k : Nat) : Nat := (mm_at [(149, 2), (152, 2)] k).getD 0
noncomputable def lS_X4_echoOf : List (Nat × (List mm_V → mm_S → (Option mm_V → mm_S → Option mm_R) → Option mm_R)) := [(175, clo_X4_beside), (202, mm_mn)]
noncomputable def mS_X4_echoOf (k : Nat) (as : List mm_V) (z : mm_S) (kk : Option mm_V → mm_S → Option mm_R) : Option mm_R := match mm_at lS_X4_echoOf k with
  | some f => f as z kk
  | none => none
noncomputable def arS_X4_echoOf (k : Nat) : Nat := (mm_at [(175, 2), (202, 2)] k).getD 0
def ct_X4_echoOf : List (Nat × List Nat) := [(7, [0, 1, 2, 3, 4]), (67, [])]
noncomputable def go_X4_echoOf : Nat → mm_K := mm_go (fun k => mm_at flX4 k) (fun k => mm_at clX4 k) (fun k => mm_at glX4 k) arV_X4_echoOf arS_X4_echoOf mV_X4_echoOf mS_X4_echoOf lenM roM snM 6 0 tbX4_echoOf ct_X4_echoOf
noncomputable def eX4_echoOf_0 (n : Nat)  (x1 : Int32) (x2 : Int32) (z : mm_S) : Option mm_R := go_X4_echoOf n 0 [(0, mm_P 4 0), (1, mm_I x1), (2, mm_I x2)] [] z
noncomputable def eX4_echoOf_7 (n : Nat)  (y1 : Int32) (y2 : Int32) (y3 : Int32) (y4 : Int32) (z : mm_S) : Option mm_R := go_X4_echoOf n 7 [(0, mm_P 4 0), (1, mm_I y1), (2, mm_I y2), (3, mm_I y3), (4, mm_I y4)] [] z
noncomputable def eX4_echoOf_67 (n : Nat)  (z : mm_S) : Option mm_R := go_X4_echoOf n 67 [] [] z
set_option maxRecDepth 100000 in
theorem qX4_echoOf_0 (n : Nat)  (x1 : Int32) (x2 : Int32) (z : mm_S) : eX4_echoOf_0 (n + 1) x1 x2 z = (eX4_echoOf_7 n x1 x2 10000 0 z) := rfl
set_option maxRecDepth 100000 in
theorem qX4_echoOf_7 (n : Nat)  (y1 : Int32) (y2 : Int32) (y3 : Int32) (y4 : Int32) (z : mm_S) : eX4_echoOf_7 (n + 1) y1 y2 y3 y4 z = (if 4 ≤ y4 then (sX4_carries y1 z).bind fun q1 => if (y3 + 1) ≤ q1.1 then (sX4_starts y1 q1.2).bind fun q2 => some (some (mm_I ((y3 + 1) + q2.1)), q2.2) else eX4_echoOf_67 n  q1.2 else if 0 ≤ (pX4_beside y2 y4 z) then if (pX4_beside y2 y4 z) < 0 ∨ 36 ≤ Int32.toNatClampNeg (pX4_beside y2 y4 z) then none else if (pX4_beside y2 y4 z) < 0 ∨ 36 ≤ Int32.toNatClampNeg (pX4_beside y2 y4 z) then none else let v3 : Int32 := (mm_min y3 ((z.1 5 (Int32.toNatClampNeg (pX4_beside y2 y4 z))) + (z.1 6 (Int32.toNatClampNeg (pX4_beside y2 y4 z))))); eX4_echoOf_7 n y1 y2 v3 (y4 + 1) z else eX4_echoOf_7 n y1 y2 y3 (y4 + 1) z) := rfl
set_option maxRecDepth 100000 in
theorem qX4_echoOf_67 (n : Nat)  (z : mm_S) : eX4_echoOf_67 (n + 1)  z = (some (some (mm_I 10000), z)) := rfl
def rm_X4_echoOf : Room := { frames := 3, cells := 0, slots := 0, locals := 65 }
noncomputable def f_X4_echoOf (as : List mm_V) (z : mm_S) (o : mm_R) : Prop := (as.map mm_cat).sum ≤ 6 ∧ ∃ n, go_X4_echoOf n 0 (mm_ar 0 as) [] z = some o
theorem M_X4_echoOf : mm_M lyTM lyFA lenM snM 22 22 17 roM rsA nfA nmA [] yX4_echoOf cX4_echoOf 6 (some .int) rm_X4_echoOf f_X4_echoOf :=
  mm_met (rt := 0) (by decide +kernel) ⟨fun h => rfl, fun h => absurd h (by decide), fun h => absurd h (by decide), fun h => absurd h (by decide)⟩ tbX4_echoOf_ok hsnM okFX4 okLX4 (fun _ h => absurd h List.not_mem_nil) (fun _ _ _ _ => rfl) (fun _ _ _ _ => rfl) (List.forall_mem_cons.mpr ⟨sV_X4_carries (Or.inl lk_X4_149) rfl ⟨by decide, by decide⟩, List.forall_mem_cons.mpr ⟨sV_X4_starts (Or.inl lk_X4_152) rfl ⟨by decide, by decide⟩, fun _ h => absurd h List.not_mem_nil⟩⟩) (List.forall_mem_cons.mpr ⟨sS_X4_beside (Or.inl lk_X4_175) rfl ⟨by decide, by decide⟩, List.forall_mem_cons.mpr ⟨Or.inr (Or.inr ⟨Or.inr ⟨rfl, lk_X4_202, ws_min, wc_min⟩, wi_math, by decide, by decide, rfl⟩), fun _ h => absurd h List.not_mem_nil⟩⟩)
noncomputable def sX4_echoOf_67  (z : mm_S) : Option (Int32 × mm_S) := some (10000, z)
theorem kX4_echoOf_67  (z : mm_S) (oo : mm_R) : mm_Xs (sX4_echoOf_67  z) (fun v => (fun v : Int32 × mm_S => ((some (mm_I v.1), v.2) : mm_R)) v = oo) (fun n => eX4_echoOf_67 n  z) oo :=
  xs_row (fun n => qX4_echoOf_67 n z) (xs_v fun hc => ⟨0, congrArg some hc⟩)
noncomputable def lX4_echoOf_7 (s : Int32 × Int32 × Int32 × Int32 × mm_S) : Option ((Int32 × Int32 × Int32 × Int32 × mm_S) ⊕ (Int32 × mm_S)) := if 4 ≤ s.2.2.2.1 then (sX4_carries s.1 s.2.2.2.2).bind fun q1 => if (s.2.2.1 + 1) ≤ q1.1 then (sX4_starts s.1 q1.2).bind fun q2 => some (.inr (((s.2.2.1 + 1) + q2.1), q2.2)) else ((sX4_echoOf_67 q1.2).map fun w => (Sum.inr w)) else if 0 ≤ (pX4_beside s.2.1 s.2.2.2.1 s.2.2.2.2) then if (pX4_beside s.2.1 s.2.2.2.1 s.2.2.2.2) < 0 ∨ 36 ≤ Int32.toNatClampNeg (pX4_beside s.2.1 s.2.2.2.1 s.2.2.2.2) then none else if (pX4_beside s.2.1 s.2.2.2.1 s.2.2.2.2) < 0 ∨ 36 ≤ Int32.toNatClampNeg (pX4_beside s.2.1 s.2.2.2.1 s.2.2.2.2) then none else let v3 : Int32 := (mm_min s.2.2.1 ((s.2.2.2.2.1 5 (Int32.toNatClampNeg (pX4_beside s.2.1 s.2.2.2.1 s.2.2.2.2))) + (s.2.2.2.2.1 6 (Int32.toNatClampNeg (pX4_beside s.2.1 s.2.2.2.1 s.2.2.2.2))))); some (.inl (s.1, s.2.1, v3, (s.2.2.2.1 + 1), s.2.2.2.2)) else some (.inl (s.1, s.2.1, s.2.2.1, (s.2.2.2.1 + 1), s.2.2.2.2))
noncomputable def sX4_echoOf_7 (y1 : Int32) (y2 : Int32) (y3 : Int32) (y4 : Int32) (z : mm_S) : Option (Int32 × mm_S) := mm_wh (lX4_echoOf_7 ) mm_fu (y1, y2, y3, y4, z)
theorem kX4_echoOf_7 (y1 : Int32) (y2 : Int32) (y3 : Int32) (y4 : Int32) (z : mm_S) (oo : mm_R) : mm_Xs (sX4_echoOf_7 y1 y2 y3 y4 z) (fun v => (fun v : Int32 × mm_S => ((some (mm_I v.1), v.2) : mm_R)) v = oo) (fun n => eX4_echoOf_7 n y1 y2 y3 y4 z) oo :=
  xs_wh (stp := lX4_echoOf_7 ) (o := oo) (E := (fun (s : Int32 × Int32 × Int32 × Int32 × mm_S) n => eX4_echoOf_7 n s.1 s.2.1 s.2.2.1 s.2.2.2.1 s.2.2.2.2)) (C := (fun v => (fun v : Int32 × mm_S => ((some (mm_I v.1), v.2) : mm_R)) v = oo)) (fun s => xs_row (fun n => qX4_echoOf_7 n s.1 s.2.1 s.2.2.1 s.2.2.2.1 s.2.2.2.2) (xs_if (xs_bd fun q1 => (xs_if (xs_bd fun q2 => (xs_v fun hc => ⟨0, congrArg some hc⟩)) (xs_map (f := fun w => (Sum.inr w)) (kX4_echoOf_67 q1.2 oo) (fun _ h => h)))) (xs_if (xs_if xs_n (xs_if xs_n (let v3 : Int32 := (mm_min s.2.2.1 ((s.2.2.2.2.1 5 (Int32.toNatClampNeg (pX4_beside s.2.1 s.2.2.2.1 s.2.2.2.2))) + (s.2.2.2.2.1 6 (Int32.toNatClampNeg (pX4_beside s.2.1 s.2.2.2.1 s.2.2.2.2))))); (xs_v fun hc => hc)))) (xs_v fun hc => hc)))) mm_fu (y1, y2, y3, y4, z)
noncomputable def sX4_echoOf_0 (x1 : Int32) (x2 : Int32) (z : mm_S) : Option (Int32 × mm_S) := (sX4_echoOf_7 x1 x2 10000 0 z)
theorem kX4_echoOf_0 (x1 : Int32) (x2 : Int32) (z : mm_S) (oo : mm_R) : mm_Xs (sX4_echoOf_0 x1 x2 z) (fun v => (fun v : Int32 × mm_S => ((some (mm_I v.1), v.2) : mm_R)) v = oo) (fun n => eX4_echoOf_0 n x1 x2 z) oo :=
  xs_row (fun n => qX4_echoOf_0 n x1 x2 z) (kX4_echoOf_7 x1 x2 10000 0 z oo)
noncomputable def sX4_echoOf (x1 : Int32) (x2 : Int32) (z : mm_S) : Option (Int32 × mm_S) := sX4_echoOf_0 x1 x2 z
theorem sp_X4_echoOf (x1 : Int32) (x2 : Int32) (z : mm_S) (hk : ∀ v ∈ [mm_P 4 0, mm_I x1, mm_I x2], mm_ok 22 lyTM 22 17 v) (q : Int32 × mm_S) (hq : sX4_echoOf x1 x2 z = some q) : f_X4_echoOf [mm_P 4 0, mm_I x1, mm_I x2] z (some (mm_I q.1), q.2) := ⟨Nat.le_of_ble_eq_true rfl, kX4_echoOf_0 x1 x2 z _ q hq rfl⟩
noncomputable def clo_X4_echoOf (as : List mm_V) (z : mm_S) (kk : Option mm_V → mm_S → Option mm_R) : Option mm_R := mm_pr as fun t o0 as => bif Nat.beq t 4 then mm_pi as fun a1 as => mm_pi as fun a2 as => (match as with | [] => (sX4_echoOf a1 a2 z).bind fun q => kk (some (mm_I q.1)) q.2 | _ => none) else none
theorem cs_X4_echoOf : mm_cs lyTM 22 22 17 f_X4_echoOf clo_X4_echoOf := by
  intro as z K o hk h
  obtain ⟨t0, o0, r0, rfl, g0⟩ := mm_pr_e h
  obtain ⟨b0, k0⟩ := mm_bif_e g0
  obtain rfl := Nat.eq_of_beq_eq_true b0
  obtain ⟨a1, r1, rfl, g1⟩ := mm_pi_e k0
  obtain ⟨a2, r2, rfl, g2⟩ := mm_pi_e g1
  rcases r2 with _ | ⟨u, w⟩
  rotate_left
  · cases g2
  obtain rfl : o0 = 0 := ok4 (hk (mm_P 4 o0) (by simp))
  obtain ⟨q, hq, hq2⟩ := Option.bind_eq_some_iff.mp g2
  exact ⟨_, _, sp_X4_echoOf a1 a2 z hk q hq, fun v hv => by cases hv; exact Or.inl ⟨_, rfl⟩, hq2⟩
theorem sV_X4_echoOf {own : String} {R : Room} {ar : Nat → Nat} {k : Nat} (hlink : Cond.methodLink own k yX4_echoOf ∈ lw_gd ∨ ∃ host, (own, k, yX4_echoOf, host) ∈ nmA) (har : ar k = 3) (hr : 4 ≤ R.frames ∧ 90 ≤ R.locals) : mm_okV lyTM lyFA lenM snM 22 22 17 roM rsA nfA nmA [] own R ar k clo_X4_echoOf := by
  refine ⟨yX4_echoOf, cX4_echoOf, 6, some .int, rm_X4_echoOf, f_X4_echoOf, 4, 2, (RX4, TX4, 36), M_X4_echoOf, cs_X4_echoOf, hlink, ⟨wv_X4_echoOf, wz_X4_echoOf, wi_X4_echoOf, wc_X4_echoOf⟩, ⟨by decide +kernel, by decide +kernel, by decide +kernel⟩, har, ⟨rfl, rfl, by decide⟩, ?_, ⟨rfl, rfl, hr.1, hr.2⟩⟩
  intro as z K o h
  obtain ⟨t0, o0, r0, rfl, g0⟩ := mm_pr_e h
  obtain ⟨b0, k0⟩ := mm_bif_e g0
  obtain rfl := Nat.eq_of_beq_eq_true b0
  exact ⟨_, _, rfl⟩
-- X4_findBoth
noncomputable def lV_X4_findBoth : List (Nat × (List mm_V → mm_S → (Option mm_V → mm_S → Option mm_R) → Option mm_R)) := [(139, clo_X4_crewIs), (181, clo_X4_findTimes)]
noncomputable def mV_X4_findBoth (k : Nat) (as : List mm_V) (z : mm_S) (kk : Option mm_V → mm_S → Option mm_R) : Option mm_R := match mm_at lV_X4_findBoth k with
  | some f => f as z kk
  | none => none
noncomputable def arV_X4_findBoth (k : Nat) : Nat := (mm_at [(139, 3), (181, 4)] k).getD 0
noncomputable def lS_X4_findBoth : List (Nat × (List mm_V → mm_S → (Option mm_V → mm_S → Option mm_R) → Option mm_R)) := []
noncomputable def mS_X4_findBoth (k : Nat) (as : List mm_V) (z : mm_S) (kk : Option mm_V → mm_S → Option mm_R) : Option mm_R := match mm_at lS_X4_findBoth k with
  | some f => f as z kk
  | none => none
noncomputable def arS_X4_findBoth (k : Nat) : Nat := (mm_at [] k).getD 0
def ct_X4_findBoth : List (Nat × List Nat) := [(15, [0, 2]), (25, [])]
noncomputable def go_X4_findBoth : Nat → mm_K := mm_go (fun k => mm_at flX4 k) (fun k => mm_at clX4 k) (fun k => mm_at glX4 k) arV_X4_findBoth arS_X4_findBoth mV_X4_findBoth mS_X4_findBoth lenM roM snM 3 3 tbX4_findBoth ct_X4_findBoth
noncomputable def eX4_findBoth_0 (n : Nat)  (x1 : Int32) (x2 : Int32) (z : mm_S) : Option mm_R := go_X4_findBoth n 0 [(0, mm_P 4 0), (1, mm_I x1), (2, mm_I x2)] [] z
noncomputable def eX4_findBoth_15 (n : Nat)  (y2 : Int32) (z : mm_S) : Option mm_R := go_X4_findBoth n 15 [(0, mm_P 4 0), (2, mm_I y2)] [] z
noncomputable def eX4_findBoth_25 (n : Nat)  (z : mm_S) : Option mm_R := go_X4_findBoth n 25 [] [] z
set_option maxRecDepth 100000 in
theorem qX4_findBoth_0 (n : Nat)  (x1 : Int32) (x2 : Int32) (z : mm_S) : eX4_findBoth_0 (n + 1) x1 x2 z = ((sX4_crewIs x1 1 z).bind fun q1 => (sX4_findTimes q1.1 1 5 q1.2).bind fun q2 => eX4_findBoth_15 n x2 q2) := rfl
set_option maxRecDepth 100000 in
theorem qX4_findBoth_15 (n : Nat)  (y2 : Int32) (z : mm_S) : eX4_findBoth_15 (n + 1) y2 z = ((sX4_findTimes y2 0 6 z).bind fun q3 => eX4_findBoth_25 n  q3) := rfl
set_option maxRecDepth 100000 in
theorem qX4_findBoth_25 (n : Nat)  (z : mm_S) : eX4_findBoth_25 (n + 1)  z = (some (none, z)) := rfl
def rm_X4_findBoth : Room := { frames := 3, cells := 0, slots := 0, locals := 73 }
noncomputable def f_X4_findBoth (as : List mm_V) (z : mm_S) (o : mm_R) : Prop := (as.map mm_cat).sum ≤ 3 ∧ ∃ n, go_X4_findBoth n 0 (mm_ar 0 as) [] z = some o
theorem M_X4_findBoth : mm_M lyTM lyFA lenM snM 22 22 17 roM rsA nfA nmA [] yX4_findBoth cX4_findBoth 3 (none) rm_X4_findBoth f_X4_findBoth :=
  mm_met (rt := 3) (by decide +kernel) ⟨fun h => absurd h (by decide), fun h => absurd h (by decide), fun h => absurd h (by decide), fun h => rfl⟩ tbX4_findBoth_ok hsnM okFX4 okLX4 (fun _ h => absurd h List.not_mem_nil) (fun _ _ _ _ => rfl) (fun _ _ _ _ => rfl) (List.forall_mem_cons.mpr ⟨sV_X4_crewIs (Or.inl lk_X4_139) rfl ⟨by decide, by decide⟩, List.forall_mem_cons.mpr ⟨sV_X4_findTimes (Or.inl lk_X4_181) rfl ⟨by decide, by decide⟩, fun _ h => absurd h List.not_mem_nil⟩⟩) (fun _ h => absurd h List.not_mem_nil)
noncomputable def sX4_findBoth_25  (z : mm_S) : Option (mm_S) := some (z)
theorem kX4_findBoth_25  (z : mm_S) (oo : mm_R) : mm_Xs (sX4_findBoth_25  z) (fun v => (fun v : mm_S => ((none, v) : mm_R)) v = oo) (fun n => eX4_findBoth_25 n  z) oo :=
  xs_row (fun n => qX4_findBoth_25 n z) (xs_v fun hc => ⟨0, congrArg some hc⟩)
noncomputable def sX4_findBoth_15 (y2 : Int32) (z : mm_S) : Option (mm_S) := (sX4_findTimes y2 0 6 z).bind fun q3 => (sX4_findBoth_25 q3)
theorem kX4_findBoth_15 (y2 : Int32) (z : mm_S) (oo : mm_R) : mm_Xs (sX4_findBoth_15 y2 z) (fun v => (fun v : mm_S => ((none, v) : mm_R)) v = oo) (fun n => eX4_findBoth_15 n y2 z) oo :=
  xs_row (fun n => qX4_findBoth_15 n y2 z) (xs_bd fun q3 => (kX4_findBoth_25 q3 oo))
noncomputable def sX4_findBoth_0 (x1 : Int32) (x2 : Int32) (z : mm_S) : Option (mm_S) := (sX4_crewIs x1 1 z).bind fun q1 => (sX4_findTimes q1.1 1 5 q1.2).bind fun q2 => (sX4_findBoth_15 x2 q2)
theorem kX4_findBoth_0 (x1 : Int32) (x2 : Int32) (z : mm_S) (oo : mm_R) : mm_Xs (sX4_findBoth_0 x1 x2 z) (fun v => (fun v : mm_S => ((none, v) : mm_R)) v = oo) (fun n => eX4_findBoth_0 n x1 x2 z) oo :=
  xs_row (fun n => qX4_findBoth_0 n x1 x2 z) (xs_bd fun q1 => (xs_bd fun q2 => (kX4_findBoth_15 x2 q2 oo)))
noncomputable def sX4_findBoth (x1 : Int32) (x2 : Int32) (z : mm_S) : Option (mm_S) := sX4_findBoth_0 x1 x2 z
theorem sp_X4_findBoth (x1 : Int32) (x2 : Int32) (z : mm_S) (hk : ∀ v ∈ [mm_P 4 0, mm_I x1, mm_I x2], mm_ok 22 lyTM 22 17 v) (q : mm_S) (hq : sX4_findBoth x1 x2 z = some q) : f_X4_findBoth [mm_P 4 0, mm_I x1, mm_I x2] z (none, q) := ⟨Nat.le_of_ble_eq_true rfl, kX4_findBoth_0 x1 x2 z _ q hq rfl⟩
noncomputable def clo_X4_findBoth (as : List mm_V) (z : mm_S) (kk : Option mm_V → mm_S → Option mm_R) : Option mm_R := mm_pr as fun t o0 as => bif Nat.beq t 4 then mm_pi as fun a1 as => mm_pi as fun a2 as => (match as with | [] => (sX4_findBoth a1 a2 z).bind fun q => kk none q | _ => none) else none
theorem cs_X4_findBoth : mm_cs lyTM 22 22 17 f_X4_findBoth clo_X4_findBoth := by
  intro as z K o hk h
  obtain ⟨t0, o0, r0, rfl, g0⟩ := mm_pr_e h
  obtain ⟨b0, k0⟩ := mm_bif_e g0
  obtain rfl := Nat.eq_of_beq_eq_true b0
  obtain ⟨a1, r1, rfl, g1⟩ := mm_pi_e k0
  obtain ⟨a2, r2, rfl, g2⟩ := mm_pi_e g1
  rcases r2 with _ | ⟨u, w⟩
  rotate_left
  · cases g2
  obtain rfl : o0 = 0 := ok4 (hk (mm_P 4 o0) (by simp))
  obtain ⟨q, hq, hq2⟩ := Option.bind_eq_some_iff.mp g2
  exact ⟨_, _, sp_X4_findBoth a1 a2 z hk q hq, (fun v hv => by cases hv), hq2⟩
theorem sV_X4_findBoth {own : String} {R : Room} {ar : Nat → Nat} {k : Nat} (hlink : Cond.methodLink own k yX4_findBoth ∈ lw_gd ∨ ∃ host, (own, k, yX4_findBoth, host) ∈ nmA) (har : ar k = 3) (hr : 4 ≤ R.frames ∧ 95 ≤ R.locals) : mm_okV lyTM lyFA lenM snM 22 22 17 roM rsA nfA nmA [] own R ar k clo_X4_findBoth := by
  refine ⟨yX4_findBoth, cX4_findBoth, 3, none, rm_X4_findBoth, f_X4_findBoth, 4, 2, (RX4, TX4, 36), M_X4_findBoth, cs_X4_findBoth, hlink, ⟨wv_X4_findBoth, wz_X4_findBoth, wi_X4_findBoth, wc_X4_findBoth⟩, ⟨by decide +kernel, by decide +kernel, by decide +kernel⟩, har, ⟨rfl, rfl, by decide⟩, ?_, ⟨rfl, rfl, hr.1, hr.2⟩⟩
  intro as z K o h
  obtain ⟨t0, o0, r0, rfl, g0⟩ := mm_pr_e h
  obtain ⟨b0, k0⟩ := mm_bif_e g0
  obtain rfl := Nat.eq_of_beq_eq_true b0
  exact ⟨_, _, rfl⟩
-- X4_echo
noncomputable def lV_X4_echo : List (Nat × (List mm_V → mm_S → (Option mm_V → mm_S → Option mm_R) → Option mm_R)) := [(124, clo_X4_finding), (146, clo_X4_isCrew), (172, clo_X4_isHole), (189, clo_X4_told), (207, clo_X4_findBoth), (211, clo_X4_echoOf)]
noncomputable def mV_X4_echo (k : Nat) (as : List mm_V) (z : mm_S) (kk : Option mm_V → mm_S → Option mm_R) : Option mm_R := match mm_at lV_X4_echo k with
  | some f => f as z kk
  | none => none
noncomputable def arV_X4_echo (k : Nat) : Nat := (mm_at [(124, 2), (146, 2), (172, 2), (189, 2), (207, 3), (211, 3)] k).getD 0
noncomputable def lS_X4_echo : List (Nat × (List mm_V → mm_S → (Option mm_V → mm_S → Option mm_R) → Option mm_R)) := [(114, clo_X4_isCell)]
noncomputable def mS_X4_echo (k : Nat) (as : List mm_V) (z : mm_S) (kk : Option mm_V → mm_S → Option mm_R) : Option mm_R := match mm_at lS_X4_echo k with
  | some f => f as z kk
  | none => none
noncomputable def arS_X4_echo (k : Nat) : Nat := (mm_at [(114, 1)] k).getD 0
def ct_X4_echo : List (Nat × List Nat) := [(29, [0, 1, 2, 3]), (37, [0]), (44, [0, 1, 2, 3]), (50, [0, 1, 3])]
noncomputable def go_X4_echo : Nat → mm_K := mm_go (fun k => mm_at flX4 k) (fun k => mm_at clX4 k) (fun k => mm_at glX4 k) arV_X4_echo arS_X4_echo mV_X4_echo mS_X4_echo lenM roM snM 4 0 tbX4_echo ct_X4_echo
noncomputable def eX4_echo_0 (n : Nat)  (x1 : Int32) (x2 : Int32) (x3 : Int32) (z : mm_S) : Option mm_R := go_X4_echo n 0 [(0, mm_P 4 0), (1, mm_I x1), (2, mm_I x2), (3, mm_I x3)] [] z
noncomputable def eX4_echo_29 (n : Nat)  (y1 : Int32) (y2 : Int32) (y3 : Int32) (z : mm_S) : Option mm_R := go_X4_echo n 29 [(0, mm_P 4 0), (1, mm_I y1), (2, mm_I y2), (3, mm_I y3)] [] z
noncomputable def eX4_echo_44 (n : Nat)  (y1 : Int32) (y2 : Int32) (y3 : Int32) (z : mm_S) : Option mm_R := go_X4_echo n 44 [(0, mm_P 4 0), (1, mm_I y1), (2, mm_I y2), (3, mm_I y3)] [] z
noncomputable def eX4_echo_37 (n : Nat)  (z : mm_S) : Option mm_R := go_X4_echo n 37 [(0, mm_P 4 0)] [] z
noncomputable def eX4_echo_50 (n : Nat)  (y1 : Int32) (y3 : Int32) (z : mm_S) : Option mm_R := go_X4_echo n 50 [(0, mm_P 4 0), (1, mm_I y1), (3, mm_I y3)] [] z
set_option maxRecDepth 100000 in
theorem qX4_echo_0 (n : Nat)  (x1 : Int32) (x2 : Int32) (x3 : Int32) (z : mm_S) : eX4_echo_0 (n + 1) x1 x2 x3 z = (if (pX4_isCrew x1 z) = 0 then (sX4_finding (-1000001) z).bind fun q1 => some (some (mm_I q1.1), q1.2) else if (pX4_isCell x2) = 0 then (sX4_finding (-1000001) z).bind fun q2 => some (some (mm_I q2.1), q2.2) else if (pX4_isCell x3) = 0 then (sX4_finding (-1000001) z).bind fun q3 => some (some (mm_I q3.1), q3.2) else eX4_echo_29 n x1 x2 x3 z) := rfl
set_option maxRecDepth 100000 in
theorem qX4_echo_29 (n : Nat)  (y1 : Int32) (y2 : Int32) (y3 : Int32) (z : mm_S) : eX4_echo_29 (n + 1) y1 y2 y3 z = ((sX4_isHole y3 z).bind fun q4 => if q4.1 = 0 then eX4_echo_37 n  q4.2 else eX4_echo_44 n y1 y2 y3 q4.2) := rfl
set_option maxRecDepth 100000 in
theorem qX4_echo_44 (n : Nat)  (y1 : Int32) (y2 : Int32) (y3 : Int32) (z : mm_S) : eX4_echo_44 (n + 1) y1 y2 y3 z = ((sX4_findBoth y1 y2 z).bind fun q5 => eX4_echo_50 n y1 y3 q5) := rfl
set_option maxRecDepth 100000 in
theorem qX4_echo_37 (n : Nat)  (z : mm_S) : eX4_echo_37 (n + 1)  z = ((sX4_finding (-1000005) z).bind fun q6 => some (some (mm_I q6.1), q6.2)) := rfl
set_option maxRecDepth 100000 in
theorem qX4_echo_50 (n : Nat)  (y1 : Int32) (y3 : Int32) (z : mm_S) : eX4_echo_50 (n + 1) y1 y3 z = ((sX4_echoOf y1 y3 z).bind fun q7 => (sX4_told q7.1 q7.2).bind fun q8 => some (some (mm_I q8.1), q8.2)) := rfl
def rm_X4_echo : Room := { frames := 4, cells := 0, slots := 0, locals := 95 }
noncomputable def f_X4_echo (as : List mm_V) (z : mm_S) (o : mm_R) : Prop := (as.map mm_cat).sum ≤ 4 ∧ ∃ n, go_X4_echo n 0 (mm_ar 0 as) [] z = some o
theorem M_X4_echo : mm_M lyTM lyFA lenM snM 22 22 17 roM rsA nfA nmA [] yX4_echo cX4_echo 4 (some .int) rm_X4_echo f_X4_echo :=
  mm_met (rt := 0) (by decide +kernel) ⟨fun h => rfl, fun h => absurd h (by decide), fun h => absurd h (by decide), fun h => absurd h (by decide)⟩ tbX4_echo_ok hsnM okFX4 okLX4 (fun _ h => absurd h List.not_mem_nil) (fun _ _ _ _ => rfl) (fun _ _ _ _ => rfl) (List.forall_mem_cons.mpr ⟨sV_X4_finding (Or.inl lk_X4_124) rfl ⟨by decide, by decide⟩, List.forall_mem_cons.mpr ⟨sV_X4_isCrew (Or.inl lk_X4_146) rfl ⟨by decide, by decide⟩, List.forall_mem_cons.mpr ⟨sV_X4_isHole (Or.inl lk_X4_172) rfl ⟨by decide, by decide⟩, List.forall_mem_cons.mpr ⟨sV_X4_told (Or.inl lk_X4_189) rfl ⟨by decide, by decide⟩, List.forall_mem_cons.mpr ⟨sV_X4_findBoth (Or.inl lk_X4_207) rfl ⟨by decide, by decide⟩, List.forall_mem_cons.mpr ⟨sV_X4_echoOf (Or.inl lk_X4_211) rfl ⟨by decide, by decide⟩, fun _ h => absurd h List.not_mem_nil⟩⟩⟩⟩⟩⟩) (List.forall_mem_cons.mpr ⟨sS_X4_isCell (Or.inl lk_X4_114) rfl ⟨by decide, by decide⟩, fun _ h => absurd h List.not_mem_nil⟩)
noncomputable def sX4_echo_37  (z : mm_S) : Option (Int32 × mm_S) := (sX4_finding (-1000005) z).bind fun q6 => some (q6.1, q6.2)
theorem kX4_echo_37  (z : mm_S) (oo : mm_R) : mm_Xs (sX4_echo_37  z) (fun v => (fun v : Int32 × mm_S => ((some (mm_I v.1), v.2) : mm_R)) v = oo) (fun n => eX4_echo_37 n  z) oo :=
  xs_row (fun n => qX4_echo_37 n z) (xs_bd fun q6 => (xs_v fun hc => ⟨0, congrArg some hc⟩))
noncomputable def sX4_echo_50 (y1 : Int32) (y3 : Int32) (z : mm_S) : Option (Int32 × mm_S) := (sX4_echoOf y1 y3 z).bind fun q7 => (sX4_told q7.1 q7.2).bind fun q8 => some (q8.1, q8.2)
theorem kX4_echo_50 (y1 : Int32) (y3 : Int32) (z : mm_S) (oo : mm_R) : mm_Xs (sX4_echo_50 y1 y3 z) (fun v => (fun v : Int32 × mm_S => ((some (mm_I v.1), v.2) : mm_R)) v = oo) (fun n => eX4_echo_50 n y1 y3 z) oo :=
  xs_row (fun n => qX4_echo_50 n y1 y3 z) (xs_bd fun q7 => (xs_bd fun q8 => (xs_v fun hc => ⟨0, congrArg some hc⟩)))
noncomputable def sX4_echo_44 (y1 : Int32) (y2 : Int32) (y3 : Int32) (z : mm_S) : Option (Int32 × mm_S) := (sX4_findBoth y1 y2 z).bind fun q5 => (sX4_echo_50 y1 y3 q5)
theorem kX4_echo_44 (y1 : Int32) (y2 : Int32) (y3 : Int32) (z : mm_S) (oo : mm_R) : mm_Xs (sX4_echo_44 y1 y2 y3 z) (fun v => (fun v : Int32 × mm_S => ((some (mm_I v.1), v.2) : mm_R)) v = oo) (fun n => eX4_echo_44 n y1 y2 y3 z) oo :=
  xs_row (fun n => qX4_echo_44 n y1 y2 y3 z) (xs_bd fun q5 => (kX4_echo_50 y1 y3 q5 oo))
noncomputable def sX4_echo_29 (y1 : Int32) (y2 : Int32) (y3 : Int32) (z : mm_S) : Option (Int32 × mm_S) := (sX4_isHole y3 z).bind fun q4 => if q4.1 = 0 then (sX4_echo_37 q4.2) else (sX4_echo_44 y1 y2 y3 q4.2)
theorem kX4_echo_29 (y1 : Int32) (y2 : Int32) (y3 : Int32) (z : mm_S) (oo : mm_R) : mm_Xs (sX4_echo_29 y1 y2 y3 z) (fun v => (fun v : Int32 × mm_S => ((some (mm_I v.1), v.2) : mm_R)) v = oo) (fun n => eX4_echo_29 n y1 y2 y3 z) oo :=
  xs_row (fun n => qX4_echo_29 n y1 y2 y3 z) (xs_bd fun q4 => (xs_if (kX4_echo_37 q4.2 oo) (kX4_echo_44 y1 y2 y3 q4.2 oo)))
noncomputable def sX4_echo_0 (x1 : Int32) (x2 : Int32) (x3 : Int32) (z : mm_S) : Option (Int32 × mm_S) := if (pX4_isCrew x1 z) = 0 then (sX4_finding (-1000001) z).bind fun q1 => some (q1.1, q1.2) else if (pX4_isCell x2) = 0 then (sX4_finding (-1000001) z).bind fun q2 => some (q2.1, q2.2) else if (pX4_isCell x3) = 0 then (sX4_finding (-1000001) z).bind fun q3 => some (q3.1, q3.2) else (sX4_echo_29 x1 x2 x3 z)
theorem kX4_echo_0 (x1 : Int32) (x2 : Int32) (x3 : Int32) (z : mm_S) (oo : mm_R) : mm_Xs (sX4_echo_0 x1 x2 x3 z) (fun v => (fun v : Int32 × mm_S => ((some (mm_I v.1), v.2) : mm_R)) v = oo) (fun n => eX4_echo_0 n x1 x2 x3 z) oo :=
  xs_row (fun n => qX4_echo_0 n x1 x2 x3 z) (xs_if (xs_bd fun q1 => (xs_v fun hc => ⟨0, congrArg some hc⟩)) (xs_if (xs_bd fun q2 => (xs_v fun hc => ⟨0, congrArg some hc⟩)) (xs_if (xs_bd fun q3 => (xs_v fun hc => ⟨0, congrArg some hc⟩)) (kX4_echo_29 x1 x2 x3 z oo))))
noncomputable def sX4_echo (x1 : Int32) (x2 : Int32) (x3 : Int32) (z : mm_S) : Option (Int32 × mm_S) := sX4_echo_0 x1 x2 x3 z
theorem sp_X4_echo (x1 : Int32) (x2 : Int32) (x3 : Int32) (z : mm_S) (hk : ∀ v ∈ [mm_P 4 0, mm_I x1, mm_I x2, mm_I x3], mm_ok 22 lyTM 22 17 v) (q : Int32 × mm_S) (hq : sX4_echo x1 x2 x3 z = some q) : f_X4_echo [mm_P 4 0, mm_I x1, mm_I x2, mm_I x3] z (some (mm_I q.1), q.2) := ⟨Nat.le_of_ble_eq_true rfl, kX4_echo_0 x1 x2 x3 z _ q hq rfl⟩
noncomputable def clo_X4_echo (as : List mm_V) (z : mm_S) (kk : Option mm_V → mm_S → Option mm_R) : Option mm_R := mm_pr as fun t o0 as => bif Nat.beq t 4 then mm_pi as fun a1 as => mm_pi as fun a2 as => mm_pi as fun a3 as => (match as with | [] => (sX4_echo a1 a2 a3 z).bind fun q => kk (some (mm_I q.1)) q.2 | _ => none) else none
theorem cs_X4_echo : mm_cs lyTM 22 22 17 f_X4_echo clo_X4_echo := by
  intro as z K o hk h
  obtain ⟨t0, o0, r0, rfl, g0⟩ := mm_pr_e h
  obtain ⟨b0, k0⟩ := mm_bif_e g0
  obtain rfl := Nat.eq_of_beq_eq_true b0
  obtain ⟨a1, r1, rfl, g1⟩ := mm_pi_e k0
  obtain ⟨a2, r2, rfl, g2⟩ := mm_pi_e g1
  obtain ⟨a3, r3, rfl, g3⟩ := mm_pi_e g2
  rcases r3 with _ | ⟨u, w⟩
  rotate_left
  · cases g3
  obtain rfl : o0 = 0 := ok4 (hk (mm_P 4 o0) (by simp))
  obtain ⟨q, hq, hq2⟩ := Option.bind_eq_some_iff.mp g3
  exact ⟨_, _, sp_X4_echo a1 a2 a3 z hk q hq, fun v hv => by cases hv; exact Or.inl ⟨_, rfl⟩, hq2⟩
theorem sV_X4_echo {own : String} {R : Room} {ar : Nat → Nat} {k : Nat} (hlink : Cond.methodLink own k yX4_echo ∈ lw_gd ∨ ∃ host, (own, k, yX4_echo, host) ∈ nmA) (har : ar k = 4) (hr : 5 ≤ R.frames ∧ 118 ≤ R.locals) : mm_okV lyTM lyFA lenM snM 22 22 17 roM rsA nfA nmA [] own R ar k clo_X4_echo := by
  refine ⟨yX4_echo, cX4_echo, 4, some .int, rm_X4_echo, f_X4_echo, 4, 3, (RX4, TX4, 36), M_X4_echo, cs_X4_echo, hlink, ⟨wv_X4_echo, wz_X4_echo, wi_X4_echo, wc_X4_echo⟩, ⟨by decide +kernel, by decide +kernel, by decide +kernel⟩, har, ⟨rfl, rfl, by decide⟩, ?_, ⟨rfl, rfl, hr.1, hr.2⟩⟩
  intro as z K o h
  obtain ⟨t0, o0, r0, rfl, g0⟩ := mm_pr_e h
  obtain ⟨b0, k0⟩ := mm_bif_e g0
  obtain rfl := Nat.eq_of_beq_eq_true b0
  exact ⟨_, _, rfl⟩
-- X4_chord
noncomputable def lV_X4_chord : List (Nat × (List mm_V → mm_S → (Option mm_V → mm_S → Option mm_R) → Option mm_R)) := [(124, clo_X4_finding), (146, clo_X4_isCrew), (172, clo_X4_isHole), (189, clo_X4_told), (207, clo_X4_findBoth), (211, clo_X4_echoOf)]
noncomputable def mV_X4_chord (k : Nat) (as : List mm_V) (z : mm_S) (kk : Option mm_V → mm_S → Option mm_R) : Option mm_R := match mm_at lV_X4_chord k with
  | some f => f as z kk
  | none => none
noncomputable def arV_X4_chord (k : Nat) : Nat := (mm_at [(124, 2), (146, 2), (172, 2), (189, 2), (207, 3), (211, 3)] k).getD 0
noncomputable def lS_X4_chord : List (Nat × (List mm_V → mm_S → (Option mm_V → mm_S → Option mm_R) → Option mm_R)) := [(106, clo_X4_within), (114, clo_X4_isCell), (202, mm_mn)]
noncomputable def mS_X4_chord (k : Nat) (as : List mm_V) (z : mm_S) (kk : Option mm_V → mm_S → Option mm_R) : Option mm_R := match mm_at lS_X4_chord k with
  | some f => f as z kk
  | none => none
noncomputable def arS_X4_chord (k : Nat) : Nat := (mm_at [(106, 3), (114, 1), (202, 2)] k).getD 0
def ct_X4_chord : List (Nat × List Nat) := [(32, [0, 1, 2, 3]), (38, [0, 1, 3]), (44, [0, 1, 3, 4, 5]), (66, [0, 1, 3, 4, 5, 6, 7]), (82, [0, 1, 3, 4, 5, 6, 7]), (92, [0, 1, 3, 4, 5, 6, 7])]
noncomputable def go_X4_chord : Nat → mm_K := mm_go (fun k => mm_at flX4 k) (fun k => mm_at clX4 k) (fun k => mm_at glX4 k) arV_X4_chord arS_X4_chord mV_X4_chord mS_X4_chord lenM roM snM 9 0 tbX4_chord ct_X4_chord
noncomputable def eX4_chord_0 (n : Nat)  (x1 : Int32) (x2 : Int32) (x3 : Int32) (z : mm_S) : Option mm_R := go_X4_chord n 0 [(0, mm_P 4 0), (1, mm_I x1), (2, mm_I x2), (3, mm_I x3)] [] z
noncomputable def eX4_chord_32 (n : Nat)  (y1 : Int32) (y2 : Int32) (y3 : Int32) (z : mm_S) : Option mm_R := go_X4_chord n 32 [(0, mm_P 4 0), (1, mm_I y1), (2, mm_I y2), (3, mm_I y3)] [] z
noncomputable def eX4_chord_38 (n : Nat)  (y1 : Int32) (y3 : Int32) (z : mm_S) : Option mm_R := go_X4_chord n 38 [(0, mm_P 4 0), (1, mm_I y1), (3, mm_I y3)] [] z
noncomputable def eX4_chord_44 (n : Nat)  (y1 : Int32) (y3 : Int32) (y4 : Int32) (y5 : Int32) (z : mm_S) : Option mm_R := go_X4_chord n 44 [(0, mm_P 4 0), (1, mm_I y1), (3, mm_I y3), (4, mm_I y4), (5, mm_I y5)] [] z
noncomputable def eX4_chord_66 (n : Nat)  (y1 : Int32) (y3 : Int32) (y4 : Int32) (y5 : Int32) (y6 : Int32) (y7 : Int32) (z : mm_S) : Option mm_R := go_X4_chord n 66 [(0, mm_P 4 0), (1, mm_I y1), (3, mm_I y3), (4, mm_I y4), (5, mm_I y5), (6, mm_I y6), (7, mm_I y7)] [] z
noncomputable def eX4_chord_92 (n : Nat)  (y1 : Int32) (y3 : Int32) (y4 : Int32) (y5 : Int32) (y6 : Int32) (y7 : Int32) (z : mm_S) : Option mm_R := go_X4_chord n 92 [(0, mm_P 4 0), (1, mm_I y1), (3, mm_I y3), (4, mm_I y4), (5, mm_I y5), (6, mm_I y6), (7, mm_I y7)] [] z
noncomputable def eX4_chord_82 (n : Nat)  (y1 : Int32) (y3 : Int32) (y4 : Int32) (y5 : Int32) (y6 : Int32) (y7 : Int32) (z : mm_S) : Option mm_R := go_X4_chord n 82 [(0, mm_P 4 0), (1, mm_I y1), (3, mm_I y3), (4, mm_I y4), (5, mm_I y5), (6, mm_I y6), (7, mm_I y7)] [] z
set_option maxRecDepth 100000 in
theorem qX4_chord_0 (n : Nat)  (x1 : Int32) (x2 : Int32) (x3 : Int32) (z : mm_S) : eX4_chord_0 (n + 1) x1 x2 x3 z = (if (pX4_isCrew x1 z) = 0 then (sX4_finding (-1000001) z).bind fun q1 => some (some (mm_I q1.1), q1.2) else if (pX4_isCell x2) = 0 then (sX4_finding (-1000001) z).bind fun q2 => some (some (mm_I q2.1), q2.2) else if (pX4_within x3 0 35) = 0 then (sX4_finding (-1000001) z).bind fun q3 => some (some (mm_I q3.1), q3.2) else eX4_chord_32 n x1 x2 x3 z) := rfl
set_option maxRecDepth 100000 in
theorem qX4_chord_32 (n : Nat)  (y1 : Int32) (y2 : Int32) (y3 : Int32) (z : mm_S) : eX4_chord_32 (n + 1) y1 y2 y3 z = ((sX4_findBoth y1 y2 z).bind fun q4 => eX4_chord_38 n y1 y3 q4) := rfl
set_option maxRecDepth 100000 in
theorem qX4_chord_38 (n : Nat)  (y1 : Int32) (y3 : Int32) (z : mm_S) : eX4_chord_38 (n + 1) y1 y3 z = (eX4_chord_44 n y1 y3 (-1) 0 z) := rfl
set_option maxRecDepth 100000 in
theorem qX4_chord_44 (n : Nat)  (y1 : Int32) (y3 : Int32) (y4 : Int32) (y5 : Int32) (z : mm_S) : eX4_chord_44 (n + 1) y1 y3 y4 y5 z = (if y3 < y5 then (sX4_told y4 z).bind fun q5 => some (some (mm_I q5.1), q5.2) else if 10000 ≤ y4 then (sX4_told y4 z).bind fun q6 => some (some (mm_I q6.1), q6.2) else eX4_chord_66 n y1 y3 y4 y5 10000 0 z) := rfl
set_option maxRecDepth 100000 in
theorem qX4_chord_66 (n : Nat)  (y1 : Int32) (y3 : Int32) (y4 : Int32) (y5 : Int32) (y6 : Int32) (y7 : Int32) (z : mm_S) : eX4_chord_66 (n + 1) y1 y3 y4 y5 y6 y7 z = (if 36 ≤ y7 then eX4_chord_44 n y1 y3 y6 (y5 + 1) z else (sX4_isHole y7 z).bind fun q7 => if q7.1 = 0 then eX4_chord_92 n y1 y3 y4 y5 y6 y7 q7.2 else eX4_chord_82 n y1 y3 y4 y5 y6 y7 q7.2) := rfl
set_option maxRecDepth 100000 in
theorem qX4_chord_92 (n : Nat)  (y1 : Int32) (y3 : Int32) (y4 : Int32) (y5 : Int32) (y6 : Int32) (y7 : Int32) (z : mm_S) : eX4_chord_92 (n + 1) y1 y3 y4 y5 y6 y7 z = (if 10000 ≤ y4 then eX4_chord_66 n y1 y3 y4 y5 y6 (y7 + 1) z else eX4_chord_66 n y1 y3 y4 y5 (mm_min y6 10000) (y7 + 1) z) := rfl
set_option maxRecDepth 100000 in
theorem qX4_chord_82 (n : Nat)  (y1 : Int32) (y3 : Int32) (y4 : Int32) (y5 : Int32) (y6 : Int32) (y7 : Int32) (z : mm_S) : eX4_chord_82 (n + 1) y1 y3 y4 y5 y6 y7 z = ((sX4_echoOf y1 y7 z).bind fun q8 => if q8.1 ≤ y4 then eX4_chord_66 n y1 y3 y4 y5 y6 (y7 + 1) q8.2 else eX4_chord_66 n y1 y3 y4 y5 (mm_min y6 q8.1) (y7 + 1) q8.2) := rfl
def rm_X4_chord : Room := { frames := 4, cells := 0, slots := 0, locals := 95 }
noncomputable def f_X4_chord (as : List mm_V) (z : mm_S) (o : mm_R) : Prop := (as.map mm_cat).sum ≤ 9 ∧ ∃ n, go_X4_chord n 0 (mm_ar 0 as) [] z = some o
theorem M_X4_chord : mm_M lyTM lyFA lenM snM 22 22 17 roM rsA nfA nmA [] yX4_chord cX4_chord 9 (some .int) rm_X4_chord f_X4_chord :=
  mm_met (rt := 0) (by decide +kernel) ⟨fun h => rfl, fun h => absurd h (by decide), fun h => absurd h (by decide), fun h => absurd h (by decide)⟩ tbX4_chord_ok hsnM okFX4 okLX4 (fun _ h => absurd h List.not_mem_nil) (fun _ _ _ _ => rfl) (fun _ _ _ _ => rfl) (List.forall_mem_cons.mpr ⟨sV_X4_finding (Or.inl lk_X4_124) rfl ⟨by decide, by decide⟩, List.forall_mem_cons.mpr ⟨sV_X4_isCrew (Or.inl lk_X4_146) rfl ⟨by decide, by decide⟩, List.forall_mem_cons.mpr ⟨sV_X4_isHole (Or.inl lk_X4_172) rfl ⟨by decide, by decide⟩, List.forall_mem_cons.mpr ⟨sV_X4_told (Or.inl lk_X4_189) rfl ⟨by decide, by decide⟩, List.forall_mem_cons.mpr ⟨sV_X4_findBoth (Or.inl lk_X4_207) rfl ⟨by decide, by decide⟩, List.forall_mem_cons.mpr ⟨sV_X4_echoOf (Or.inl lk_X4_211) rfl ⟨by decide, by decide⟩, fun _ h => absurd h List.not_mem_nil⟩⟩⟩⟩⟩⟩) (List.forall_mem_cons.mpr ⟨sS_X4_within (Or.inl lk_X4_106) rfl ⟨by decide, by decide⟩, List.forall_mem_cons.mpr ⟨sS_X4_isCell (Or.inl lk_X4_114) rfl ⟨by decide, by decide⟩, List.forall_mem_cons.mpr ⟨Or.inr (Or.inr ⟨Or.inr ⟨rfl, lk_X4_202, ws_min, wc_min⟩, wi_math, by decide, by decide, rfl⟩), fun _ h => absurd h List.not_mem_nil⟩⟩⟩)
noncomputable def sX4_chord_82 (y1 : Int32) (y3 : Int32) (y4 : Int32) (y5 : Int32) (y6 : Int32) (y7 : Int32) (z : mm_S) : Option ((Int32 × Int32 × Int32 × Int32 × Int32 × Int32 × mm_S) ⊕ ((Int32 × Int32 × Int32 × Int32 × mm_S) ⊕ (Int32 × mm_S))) := (sX4_echoOf y1 y7 z).bind fun q8 => if q8.1 ≤ y4 then some (.inl (y1, y3, y4, y5, y6, (y7 + 1), q8.2)) else some (.inl (y1, y3, y4, y5, (mm_min y6 q8.1), (y7 + 1), q8.2))
theorem kX4_chord_82 (y1 : Int32) (y3 : Int32) (y4 : Int32) (y5 : Int32) (y6 : Int32) (y7 : Int32) (z : mm_S) (oo : mm_R) : mm_Xs (sX4_chord_82 y1 y3 y4 y5 y6 y7 z) (mm_mt (fun x : Int32 × Int32 × Int32 × Int32 × Int32 × Int32 × mm_S => ∃ n, eX4_chord_66 n x.1 x.2.1 x.2.2.1 x.2.2.2.1 x.2.2.2.2.1 x.2.2.2.2.2.1 x.2.2.2.2.2.2 = some oo) (mm_mt (fun x : Int32 × Int32 × Int32 × Int32 × mm_S => ∃ n, eX4_chord_44 n x.1 x.2.1 x.2.2.1 x.2.2.2.1 x.2.2.2.2 = some oo) (fun v => (fun v : Int32 × mm_S => ((some (mm_I v.1), v.2) : mm_R)) v = oo))) (fun n => eX4_chord_82 n y1 y3 y4 y5 y6 y7 z) oo :=
  xs_row (fun n => qX4_chord_82 n y1 y3 y4 y5 y6 y7 z) (xs_bd fun q8 => (xs_if (xs_v fun hc => hc) (xs_v fun hc => hc)))
noncomputable def sX4_chord_92 (y1 : Int32) (y3 : Int32) (y4 : Int32) (y5 : Int32) (y6 : Int32) (y7 : Int32) (z : mm_S) : Option ((Int32 × Int32 × Int32 × Int32 × Int32 × Int32 × mm_S) ⊕ ((Int32 × Int32 × Int32 × Int32 × mm_S) ⊕ (Int32 × mm_S))) := if 10000 ≤ y4 then some (.inl (y1, y3, y4, y5, y6, (y7 + 1), z)) else some (.inl (y1, y3, y4, y5, (mm_min y6 10000), (y7 + 1), z))
theorem kX4_chord_92 (y1 : Int32) (y3 : Int32) (y4 : Int32) (y5 : Int32) (y6 : Int32) (y7 : Int32) (z : mm_S) (oo : mm_R) : mm_Xs (sX4_chord_92 y1 y3 y4 y5 y6 y7 z) (mm_mt (fun x : Int32 × Int32 × Int32 × Int32 × Int32 × Int32 × mm_S => ∃ n, eX4_chord_66 n x.1 x.2.1 x.2.2.1 x.2.2.2.1 x.2.2.2.2.1 x.2.2.2.2.2.1 x.2.2.2.2.2.2 = some oo) (mm_mt (fun x : Int32 × Int32 × Int32 × Int32 × mm_S => ∃ n, eX4_chord_44 n x.1 x.2.1 x.2.2.1 x.2.2.2.1 x.2.2.2.2 = some oo) (fun v => (fun v : Int32 × mm_S => ((some (mm_I v.1), v.2) : mm_R)) v = oo))) (fun n => eX4_chord_92 n y1 y3 y4 y5 y6 y7 z) oo :=
  xs_row (fun n => qX4_chord_92 n y1 y3 y4 y5 y6 y7 z) (xs_if (xs_v fun hc => hc) (xs_v fun hc => hc))
noncomputable def lX4_chord_66 (s : Int32 × Int32 × Int32 × Int32 × Int32 × Int32 × mm_S) : Option ((Int32 × Int32 × Int32 × Int32 × Int32 × Int32 × mm_S) ⊕ ((Int32 × Int32 × Int32 × Int32 × mm_S) ⊕ (Int32 × mm_S))) := if 36 ≤ s.2.2.2.2.2.1 then some (.inr (.inl (s.1, s.2.1, s.2.2.2.2.1, (s.2.2.2.1 + 1), s.2.2.2.2.2.2))) else (sX4_isHole s.2.2.2.2.2.1 s.2.2.2.2.2.2).bind fun q7 => if q7.1 = 0 then (sX4_chord_92 s.1 s.2.1 s.2.2.1 s.2.2.2.1 s.2.2.2.2.1 s.2.2.2.2.2.1 q7.2) else (sX4_chord_82 s.1 s.2.1 s.2.2.1 s.2.2.2.1 s.2.2.2.2.1 s.2.2.2.2.2.1 q7.2)
noncomputable def sX4_chord_66 (y1 : Int32) (y3 : Int32) (y4 : Int32) (y5 : Int32) (y6 : Int32) (y7 : Int32) (z : mm_S) : Option ((Int32 × Int32 × Int32 × Int32 × mm_S) ⊕ (Int32 × mm_S)) := mm_wh (lX4_chord_66 ) mm_fu (y1, y3, y4, y5, y6, y7, z)
theorem kX4_chord_66 (y1 : Int32) (y3 : Int32) (y4 : Int32) (y5 : Int32) (y6 : Int32) (y7 : Int32) (z : mm_S) (oo : mm_R) : mm_Xs (sX4_chord_66 y1 y3 y4 y5 y6 y7 z) (mm_mt (fun x : Int32 × Int32 × Int32 × Int32 × mm_S => ∃ n, eX4_chord_44 n x.1 x.2.1 x.2.2.1 x.2.2.2.1 x.2.2.2.2 = some oo) (fun v => (fun v : Int32 × mm_S => ((some (mm_I v.1), v.2) : mm_R)) v = oo)) (fun n => eX4_chord_66 n y1 y3 y4 y5 y6 y7 z) oo :=
  xs_wh (stp := lX4_chord_66 ) (o := oo) (E := (fun (s : Int32 × Int32 × Int32 × Int32 × Int32 × Int32 × mm_S) n => eX4_chord_66 n s.1 s.2.1 s.2.2.1 s.2.2.2.1 s.2.2.2.2.1 s.2.2.2.2.2.1 s.2.2.2.2.2.2)) (C := (mm_mt (fun x : Int32 × Int32 × Int32 × Int32 × mm_S => ∃ n, eX4_chord_44 n x.1 x.2.1 x.2.2.1 x.2.2.2.1 x.2.2.2.2 = some oo) (fun v => (fun v : Int32 × mm_S => ((some (mm_I v.1), v.2) : mm_R)) v = oo))) (fun s => xs_row (fun n => qX4_chord_66 n s.1 s.2.1 s.2.2.1 s.2.2.2.1 s.2.2.2.2.1 s.2.2.2.2.2.1 s.2.2.2.2.2.2) (xs_if (xs_v fun hc => hc) (xs_bd fun q7 => (xs_if (kX4_chord_92 s.1 s.2.1 s.2.2.1 s.2.2.2.1 s.2.2.2.2.1 s.2.2.2.2.2.1 q7.2 oo) (kX4_chord_82 s.1 s.2.1 s.2.2.1 s.2.2.2.1 s.2.2.2.2.1 s.2.2.2.2.2.1 q7.2 oo))))) mm_fu (y1, y3, y4, y5, y6, y7, z)
noncomputable def lX4_chord_44 (s : Int32 × Int32 × Int32 × Int32 × mm_S) : Option ((Int32 × Int32 × Int32 × Int32 × mm_S) ⊕ (Int32 × mm_S)) := if s.2.1 < s.2.2.2.1 then (sX4_told s.2.2.1 s.2.2.2.2).bind fun q5 => some (.inr (q5.1, q5.2)) else if 10000 ≤ s.2.2.1 then (sX4_told s.2.2.1 s.2.2.2.2).bind fun q6 => some (.inr (q6.1, q6.2)) else (sX4_chord_66 s.1 s.2.1 s.2.2.1 s.2.2.2.1 10000 0 s.2.2.2.2)
noncomputable def sX4_chord_44 (y1 : Int32) (y3 : Int32) (y4 : Int32) (y5 : Int32) (z : mm_S) : Option (Int32 × mm_S) := mm_wh (lX4_chord_44 ) mm_fu (y1, y3, y4, y5, z)
theorem kX4_chord_44 (y1 : Int32) (y3 : Int32) (y4 : Int32) (y5 : Int32) (z : mm_S) (oo : mm_R) : mm_Xs (sX4_chord_44 y1 y3 y4 y5 z) (fun v => (fun v : Int32 × mm_S => ((some (mm_I v.1), v.2) : mm_R)) v = oo) (fun n => eX4_chord_44 n y1 y3 y4 y5 z) oo :=
  xs_wh (stp := lX4_chord_44 ) (o := oo) (E := (fun (s : Int32 × Int32 × Int32 × Int32 × mm_S) n => eX4_chord_44 n s.1 s.2.1 s.2.2.1 s.2.2.2.1 s.2.2.2.2)) (C := (fun v => (fun v : Int32 × mm_S => ((some (mm_I v.1), v.2) : mm_R)) v = oo)) (fun s => xs_row (fun n => qX4_chord_44 n s.1 s.2.1 s.2.2.1 s.2.2.2.1 s.2.2.2.2) (xs_if (xs_bd fun q5 => (xs_v fun hc => ⟨0, congrArg some hc⟩)) (xs_if (xs_bd fun q6 => (xs_v fun hc => ⟨0, congrArg some hc⟩)) (kX4_chord_66 s.1 s.2.1 s.2.2.1 s.2.2.2.1 10000 0 s.2.2.2.2 oo)))) mm_fu (y1, y3, y4, y5, z)
noncomputable def sX4_chord_38 (y1 : Int32) (y3 : Int32) (z : mm_S) : Option (Int32 × mm_S) := (sX4_chord_44 y1 y3 (-1) 0 z)
theorem kX4_chord_38 (y1 : Int32) (y3 : Int32) (z : mm_S) (oo : mm_R) : mm_Xs (sX4_chord_38 y1 y3 z) (fun v => (fun v : Int32 × mm_S => ((some (mm_I v.1), v.2) : mm_R)) v = oo) (fun n => eX4_chord_38 n y1 y3 z) oo :=
  xs_row (fun n => qX4_chord_38 n y1 y3 z) (kX4_chord_44 y1 y3 (-1) 0 z oo)
noncomputable def sX4_chord_32 (y1 : Int32) (y2 : Int32) (y3 : Int32) (z : mm_S) : Option (Int32 × mm_S) := (sX4_findBoth y1 y2 z).bind fun q4 => (sX4_chord_38 y1 y3 q4)
theorem kX4_chord_32 (y1 : Int32) (y2 : Int32) (y3 : Int32) (z : mm_S) (oo : mm_R) : mm_Xs (sX4_chord_32 y1 y2 y3 z) (fun v => (fun v : Int32 × mm_S => ((some (mm_I v.1), v.2) : mm_R)) v = oo) (fun n => eX4_chord_32 n y1 y2 y3 z) oo :=
  xs_row (fun n => qX4_chord_32 n y1 y2 y3 z) (xs_bd fun q4 => (kX4_chord_38 y1 y3 q4 oo))
noncomputable def sX4_chord_0 (x1 : Int32) (x2 : Int32) (x3 : Int32) (z : mm_S) : Option (Int32 × mm_S) := if (pX4_isCrew x1 z) = 0 then (sX4_finding (-1000001) z).bind fun q1 => some (q1.1, q1.2) else if (pX4_isCell x2) = 0 then (sX4_finding (-1000001) z).bind fun q2 => some (q2.1, q2.2) else if (pX4_within x3 0 35) = 0 then (sX4_finding (-1000001) z).bind fun q3 => some (q3.1, q3.2) else (sX4_chord_32 x1 x2 x3 z)
theorem kX4_chord_0 (x1 : Int32) (x2 : Int32) (x3 : Int32) (z : mm_S) (oo : mm_R) : mm_Xs (sX4_chord_0 x1 x2 x3 z) (fun v => (fun v : Int32 × mm_S => ((some (mm_I v.1), v.2) : mm_R)) v = oo) (fun n => eX4_chord_0 n x1 x2 x3 z) oo :=
  xs_row (fun n => qX4_chord_0 n x1 x2 x3 z) (xs_if (xs_bd fun q1 => (xs_v fun hc => ⟨0, congrArg some hc⟩)) (xs_if (xs_bd fun q2 => (xs_v fun hc => ⟨0, congrArg some hc⟩)) (xs_if (xs_bd fun q3 => (xs_v fun hc => ⟨0, congrArg some hc⟩)) (kX4_chord_32 x1 x2 x3 z oo))))
noncomputable def sX4_chord (x1 : Int32) (x2 : Int32) (x3 : Int32) (z : mm_S) : Option (Int32 × mm_S) := sX4_chord_0 x1 x2 x3 z
theorem sp_X4_chord (x1 : Int32) (x2 : Int32) (x3 : Int32) (z : mm_S) (hk : ∀ v ∈ [mm_P 4 0, mm_I x1, mm_I x2, mm_I x3], mm_ok 22 lyTM 22 17 v) (q : Int32 × mm_S) (hq : sX4_chord x1 x2 x3 z = some q) : f_X4_chord [mm_P 4 0, mm_I x1, mm_I x2, mm_I x3] z (some (mm_I q.1), q.2) := ⟨Nat.le_of_ble_eq_true rfl, kX4_chord_0 x1 x2 x3 z _ q hq rfl⟩
noncomputable def clo_X4_chord (as : List mm_V) (z : mm_S) (kk : Option mm_V → mm_S → Option mm_R) : Option mm_R := mm_pr as fun t o0 as => bif Nat.beq t 4 then mm_pi as fun a1 as => mm_pi as fun a2 as => mm_pi as fun a3 as => (match as with | [] => (sX4_chord a1 a2 a3 z).bind fun q => kk (some (mm_I q.1)) q.2 | _ => none) else none
theorem cs_X4_chord : mm_cs lyTM 22 22 17 f_X4_chord clo_X4_chord := by
  intro as z K o hk h
  obtain ⟨t0, o0, r0, rfl, g0⟩ := mm_pr_e h
  obtain ⟨b0, k0⟩ := mm_bif_e g0
  obtain rfl := Nat.eq_of_beq_eq_true b0
  obtain ⟨a1, r1, rfl, g1⟩ := mm_pi_e k0
  obtain ⟨a2, r2, rfl, g2⟩ := mm_pi_e g1
  obtain ⟨a3, r3, rfl, g3⟩ := mm_pi_e g2
  rcases r3 with _ | ⟨u, w⟩
  rotate_left
  · cases g3
  obtain rfl : o0 = 0 := ok4 (hk (mm_P 4 o0) (by simp))
  obtain ⟨q, hq, hq2⟩ := Option.bind_eq_some_iff.mp g3
  exact ⟨_, _, sp_X4_chord a1 a2 a3 z hk q hq, fun v hv => by cases hv; exact Or.inl ⟨_, rfl⟩, hq2⟩
theorem sV_X4_chord {own : String} {R : Room} {ar : Nat → Nat} {k : Nat} (hlink : Cond.methodLink own k yX4_chord ∈ lw_gd ∨ ∃ host, (own, k, yX4_chord, host) ∈ nmA) (har : ar k = 4) (hr : 5 ≤ R.frames ∧ 123 ≤ R.locals) : mm_okV lyTM lyFA lenM snM 22 22 17 roM rsA nfA nmA [] own R ar k clo_X4_chord := by
  refine ⟨yX4_chord, cX4_chord, 9, some .int, rm_X4_chord, f_X4_chord, 4, 3, (RX4, TX4, 36), M_X4_chord, cs_X4_chord, hlink, ⟨wv_X4_chord, wz_X4_chord, wi_X4_chord, wc_X4_chord⟩, ⟨by decide +kernel, by decide +kernel, by decide +kernel⟩, har, ⟨rfl, rfl, by decide⟩, ?_, ⟨rfl, rfl, hr.1, hr.2⟩⟩
  intro as z K o h
  obtain ⟨t0, o0, r0, rfl, g0⟩ := mm_pr_e h
  obtain ⟨b0, k0⟩ := mm_bif_e g0
  obtain rfl := Nat.eq_of_beq_eq_true b0
  exact ⟨_, _, rfl⟩
-- X4_last
noncomputable def lV_X4_last : List (Nat × (List mm_V → mm_S → (Option mm_V → mm_S → Option mm_R) → Option mm_R)) := [(124, clo_X4_finding), (139, clo_X4_crewIs), (146, clo_X4_isCrew), (149, clo_X4_carries), (158, clo_X4_stuffIs), (181, clo_X4_findTimes)]
noncomputable def mV_X4_last (k : Nat) (as : List mm_V) (z : mm_S) (kk : Option mm_V → mm_S → Option mm_R) : Option mm_R := match mm_at lV_X4_last k with
  | some f => f as z kk
  | none => none
noncomputable def arV_X4_last (k : Nat) : Nat := (mm_at [(124, 2), (139, 3), (146, 2), (149, 2), (158, 2), (181, 4)] k).getD 0
noncomputable def lS_X4_last : List (Nat × (List mm_V → mm_S → (Option mm_V → mm_S → Option mm_R) → Option mm_R)) := [(114, clo_X4_isCell), (175, clo_X4_beside), (178, clo_X4_pace), (202, mm_mn)]
noncomputable def mS_X4_last (k : Nat) (as : List mm_V) (z : mm_S) (kk : Option mm_V → mm_S → Option mm_R) : Option mm_R := match mm_at lS_X4_last k with
  | some f => f as z kk
  | none => none
noncomputable def arS_X4_last (k : Nat) : Nat := (mm_at [(114, 1), (175, 2), (178, 1), (202, 2)] k).getD 0
def ct_X4_last : List (Nat × List Nat) := [(22, [0, 1, 2]), (37, [0, 1, 2]), (51, [0]), (58, [0, 1, 2]), (68, [0]), (75, [0, 2]), (81, [0, 2, 3, 4]), (125, [0, 2, 3, 4, 5])]
noncomputable def go_X4_last : Nat → mm_K := mm_go (fun k => mm_at flX4 k) (fun k => mm_at clX4 k) (fun k => mm_at glX4 k) arV_X4_last arS_X4_last mV_X4_last mS_X4_last lenM roM snM 7 0 tbX4_last ct_X4_last
noncomputable def eX4_last_0 (n : Nat)  (x1 : Int32) (x2 : Int32) (z : mm_S) : Option mm_R := go_X4_last n 0 [(0, mm_P 4 0), (1, mm_I x1), (2, mm_I x2)] [] z
noncomputable def eX4_last_22 (n : Nat)  (y1 : Int32) (y2 : Int32) (z : mm_S) : Option mm_R := go_X4_last n 22 [(0, mm_P 4 0), (1, mm_I y1), (2, mm_I y2)] [] z
noncomputable def eX4_last_37 (n : Nat)  (y1 : Int32) (y2 : Int32) (z : mm_S) : Option mm_R := go_X4_last n 37 [(0, mm_P 4 0), (1, mm_I y1), (2, mm_I y2)] [] z
noncomputable def eX4_last_58 (n : Nat)  (y1 : Int32) (y2 : Int32) (z : mm_S) : Option mm_R := go_X4_last n 58 [(0, mm_P 4 0), (1, mm_I y1), (2, mm_I y2)] [] z
noncomputable def eX4_last_51 (n : Nat)  (z : mm_S) : Option mm_R := go_X4_last n 51 [(0, mm_P 4 0)] [] z
noncomputable def eX4_last_75 (n : Nat)  (y2 : Int32) (z : mm_S) : Option mm_R := go_X4_last n 75 [(0, mm_P 4 0), (2, mm_I y2)] [] z
noncomputable def eX4_last_68 (n : Nat)  (z : mm_S) : Option mm_R := go_X4_last n 68 [(0, mm_P 4 0)] [] z
noncomputable def eX4_last_81 (n : Nat)  (y2 : Int32) (y3 : Int32) (y4 : Int32) (z : mm_S) : Option mm_R := go_X4_last n 81 [(0, mm_P 4 0), (2, mm_I y2), (3, mm_I y3), (4, mm_I y4)] [] z
noncomputable def eX4_last_125 (n : Nat)  (y2 : Int32) (y3 : Int32) (y4 : Int32) (y5 : Int32) (z : mm_S) : Option mm_R := go_X4_last n 125 [(0, mm_P 4 0), (2, mm_I y2), (3, mm_I y3), (4, mm_I y4), (5, mm_I y5)] [] z
set_option maxRecDepth 100000 in
theorem qX4_last_0 (n : Nat)  (x1 : Int32) (x2 : Int32) (z : mm_S) : eX4_last_0 (n + 1) x1 x2 z = (if (pX4_isCrew x1 z) = 0 then (sX4_finding (-1000001) z).bind fun q1 => some (some (mm_I q1.1), q1.2) else if (pX4_isCell x2) = 0 then (sX4_finding (-1000001) z).bind fun q2 => some (some (mm_I q2.1), q2.2) else eX4_last_22 n x1 x2 z) := rfl
set_option maxRecDepth 100000 in
theorem qX4_last_22 (n : Nat)  (y1 : Int32) (y2 : Int32) (z : mm_S) : eX4_last_22 (n + 1) y1 y2 z = ((sX4_crewIs y1 1 z).bind fun q3 => (sX4_findTimes q3.1 1 5 q3.2).bind fun q4 => eX4_last_37 n y1 y2 q4) := rfl
set_option maxRecDepth 100000 in
theorem qX4_last_37 (n : Nat)  (y1 : Int32) (y2 : Int32) (z : mm_S) : eX4_last_37 (n + 1) y1 y2 z = (if y2 < 0 ∨ 36 ≤ Int32.toNatClampNeg y2 then none else (sX4_carries y1 z).bind fun q5 => if (z.1 5 (Int32.toNatClampNeg y2)) ≤ q5.1 then eX4_last_58 n y1 y2 q5.2 else eX4_last_51 n  q5.2) := rfl
set_option maxRecDepth 100000 in
theorem qX4_last_58 (n : Nat)  (y1 : Int32) (y2 : Int32) (z : mm_S) : eX4_last_58 (n + 1) y1 y2 z = ((sX4_crewIs y1 1 z).bind fun q6 => if y2 = q6.1 then eX4_last_68 n  q6.2 else eX4_last_75 n y2 q6.2) := rfl
set_option maxRecDepth 100000 in
theorem qX4_last_51 (n : Nat)  (z : mm_S) : eX4_last_51 (n + 1)  z = ((sX4_finding (-1000004) z).bind fun q7 => some (some (mm_I q7.1), q7.2)) := rfl
set_option maxRecDepth 100000 in
theorem qX4_last_75 (n : Nat)  (y2 : Int32) (z : mm_S) : eX4_last_75 (n + 1) y2 z = (eX4_last_81 n y2 36 0 z) := rfl
set_option maxRecDepth 100000 in
theorem qX4_last_68 (n : Nat)  (z : mm_S) : eX4_last_68 (n + 1)  z = ((sX4_finding (-1000005) z).bind fun q8 => some (some (mm_I q8.1), q8.2)) := rfl
set_option maxRecDepth 100000 in
theorem qX4_last_81 (n : Nat)  (y2 : Int32) (y3 : Int32) (y4 : Int32) (z : mm_S) : eX4_last_81 (n + 1) y2 y3 y4 z = (if 4 ≤ y4 then some (some (mm_I y3), z) else if (pX4_beside y2 y4 z) < 0 then eX4_last_81 n y2 y3 (y4 + 1) z else if (pX4_beside y2 y4 z) < 0 ∨ 36 ≤ Int32.toNatClampNeg (pX4_beside y2 y4 z) then none else (sX4_stuffIs y2 z).bind fun q9 => if y2 < 0 ∨ 36 ≤ Int32.toNatClampNeg y2 then none else if ((z.1 5 (Int32.toNatClampNeg (pX4_beside y2 y4 z))) + (pX4_pace q9.1)) = (q9.2.1 5 (Int32.toNatClampNeg y2)) then eX4_last_125 n y2 y3 y4 (pX4_beside y2 y4 z) q9.2 else eX4_last_81 n y2 y3 (y4 + 1) q9.2) := rfl
set_option maxRecDepth 100000 in
theorem qX4_last_125 (n : Nat)  (y2 : Int32) (y3 : Int32) (y4 : Int32) (y5 : Int32) (z : mm_S) : eX4_last_125 (n + 1) y2 y3 y4 y5 z = (eX4_last_81 n y2 (mm_min y3 y5) (y4 + 1) z) := rfl
def rm_X4_last : Room := { frames := 3, cells := 0, slots := 0, locals := 73 }
noncomputable def f_X4_last (as : List mm_V) (z : mm_S) (o : mm_R) : Prop := (as.map mm_cat).sum ≤ 7 ∧ ∃ n, go_X4_last n 0 (mm_ar 0 as) [] z = some o
theorem M_X4_last : mm_M lyTM lyFA lenM snM 22 22 17 roM rsA nfA nmA [] yX4_last cX4_last 7 (some .int) rm_X4_last f_X4_last :=
  mm_met (rt := 0) (by decide +kernel) ⟨fun h => rfl, fun h => absurd h (by decide), fun h => absurd h (by decide), fun h => absurd h (by decide)⟩ tbX4_last_ok hsnM okFX4 okLX4 (fun _ h => absurd h List.not_mem_nil) (fun _ _ _ _ => rfl) (fun _ _ _ _ => rfl) (List.forall_mem_cons.mpr ⟨sV_X4_finding (Or.inl lk_X4_124) rfl ⟨by decide, by decide⟩, List.forall_mem_cons.mpr ⟨sV_X4_crewIs (Or.inl lk_X4_139) rfl ⟨by decide, by decide⟩, List.forall_mem_cons.mpr ⟨sV_X4_isCrew (Or.inl lk_X4_146) rfl ⟨by decide, by decide⟩, List.forall_mem_cons.mpr ⟨sV_X4_carries (Or.inl lk_X4_149) rfl ⟨by decide, by decide⟩, List.forall_mem_cons.mpr ⟨sV_X4_stuffIs (Or.inl lk_X4_158) rfl ⟨by decide, by decide⟩, List.forall_mem_cons.mpr ⟨sV_X4_findTimes (Or.inl lk_X4_181) rfl ⟨by decide, by decide⟩, fun _ h => absurd h List.not_mem_nil⟩⟩⟩⟩⟩⟩) (List.forall_mem_cons.mpr ⟨sS_X4_isCell (Or.inl lk_X4_114) rfl ⟨by decide, by decide⟩, List.forall_mem_cons.mpr ⟨sS_X4_beside (Or.inl lk_X4_175) rfl ⟨by decide, by decide⟩, List.forall_mem_cons.mpr ⟨sS_X4_pace (Or.inl lk_X4_178) rfl ⟨by decide, by decide⟩, List.forall_mem_cons.mpr ⟨Or.inr (Or.inr ⟨Or.inr ⟨rfl, lk_X4_202, ws_min, wc_min⟩, wi_math, by decide, by decide, rfl⟩), fun _ h => absurd h List.not_mem_nil⟩⟩⟩⟩)
noncomputable def sX4_last_51  (z : mm_S) : Option (Int32 × mm_S) := (sX4_finding (-1000004) z).bind fun q7 => some (q7.1, q7.2)
theorem kX4_last_51  (z : mm_S) (oo : mm_R) : mm_Xs (sX4_last_51  z) (fun v => (fun v : Int32 × mm_S => ((some (mm_I v.1), v.2) : mm_R)) v = oo) (fun n => eX4_last_51 n  z) oo :=
  xs_row (fun n => qX4_last_51 n z) (xs_bd fun q7 => (xs_v fun hc => ⟨0, congrArg some hc⟩))
noncomputable def sX4_last_68  (z : mm_S) : Option (Int32 × mm_S) := (sX4_finding (-1000005) z).bind fun q8 => some (q8.1, q8.2)
theorem kX4_last_68  (z : mm_S) (oo : mm_R) : mm_Xs (sX4_last_68  z) (fun v => (fun v : Int32 × mm_S => ((some (mm_I v.1), v.2) : mm_R)) v = oo) (fun n => eX4_last_68 n  z) oo :=
  xs_row (fun n => qX4_last_68 n z) (xs_bd fun q8 => (xs_v fun hc => ⟨0, congrArg some hc⟩))
noncomputable def sX4_last_125 (y2 : Int32) (y3 : Int32) (y4 : Int32) (y5 : Int32) (z : mm_S) : Option ((Int32 × Int32 × Int32 × mm_S) ⊕ (Int32 × mm_S)) := some (.inl (y2, (mm_min y3 y5), (y4 + 1), z))
theorem kX4_last_125 (y2 : Int32) (y3 : Int32) (y4 : Int32) (y5 : Int32) (z : mm_S) (oo : mm_R) : mm_Xs (sX4_last_125 y2 y3 y4 y5 z) (mm_mt (fun x : Int32 × Int32 × Int32 × mm_S => ∃ n, eX4_last_81 n x.1 x.2.1 x.2.2.1 x.2.2.2 = some oo) (fun v => (fun v : Int32 × mm_S => ((some (mm_I v.1), v.2) : mm_R)) v = oo)) (fun n => eX4_last_125 n y2 y3 y4 y5 z) oo :=
  xs_row (fun n => qX4_last_125 n y2 y3 y4 y5 z) (xs_v fun hc => hc)
noncomputable def lX4_last_81 (s : Int32 × Int32 × Int32 × mm_S) : Option ((Int32 × Int32 × Int32 × mm_S) ⊕ (Int32 × mm_S)) := if 4 ≤ s.2.2.1 then some (.inr (s.2.1, s.2.2.2)) else if (pX4_beside s.1 s.2.2.1 s.2.2.2) < 0 then some (.inl (s.1, s.2.1, (s.2.2.1 + 1), s.2.2.2)) else if (pX4_beside s.1 s.2.2.1 s.2.2.2) < 0 ∨ 36 ≤ Int32.toNatClampNeg (pX4_beside s.1 s.2.2.1 s.2.2.2) then none else (sX4_stuffIs s.1 s.2.2.2).bind fun q9 => if s.1 < 0 ∨ 36 ≤ Int32.toNatClampNeg s.1 then none else if ((s.2.2.2.1 5 (Int32.toNatClampNeg (pX4_beside s.1 s.2.2.1 s.2.2.2))) + (pX4_pace q9.1)) = (q9.2.1 5 (Int32.toNatClampNeg s.1)) then (sX4_last_125 s.1 s.2.1 s.2.2.1 (pX4_beside s.1 s.2.2.1 s.2.2.2) q9.2) else some (.inl (s.1, s.2.1, (s.2.2.1 + 1), q9.2))
noncomputable def sX4_last_81 (y2 : Int32) (y3 : Int32) (y4 : Int32) (z : mm_S) : Option (Int32 × mm_S) := mm_wh (lX4_last_81 ) mm_fu (y2, y3, y4, z)
theorem kX4_last_81 (y2 : Int32) (y3 : Int32) (y4 : Int32) (z : mm_S) (oo : mm_R) : mm_Xs (sX4_last_81 y2 y3 y4 z) (fun v => (fun v : Int32 × mm_S => ((some (mm_I v.1), v.2) : mm_R)) v = oo) (fun n => eX4_last_81 n y2 y3 y4 z) oo :=
  xs_wh (stp := lX4_last_81 ) (o := oo) (E := (fun (s : Int32 × Int32 × Int32 × mm_S) n => eX4_last_81 n s.1 s.2.1 s.2.2.1 s.2.2.2)) (C := (fun v => (fun v : Int32 × mm_S => ((some (mm_I v.1), v.2) : mm_R)) v = oo)) (fun s => xs_row (fun n => qX4_last_81 n s.1 s.2.1 s.2.2.1 s.2.2.2) (xs_if (xs_v fun hc => ⟨0, congrArg some hc⟩) (xs_if (xs_v fun hc => hc) (xs_if xs_n (xs_bd fun q9 => (xs_if xs_n (xs_if (kX4_last_125 s.1 s.2.1 s.2.2.1 (pX4_beside s.1 s.2.2.1 s.2.2.2) q9.2 oo) (xs_v fun hc => hc)))))))) mm_fu (y2, y3, y4, z)
noncomputable def sX4_last_75 (y2 : Int32) (z : mm_S) : Option (Int32 × mm_S) := (sX4_last_81 y2 36 0 z)
theorem kX4_last_75 (y2 : Int32) (z : mm_S) (oo : mm_R) : mm_Xs (sX4_last_75 y2 z) (fun v => (fun v : Int32 × mm_S => ((some (mm_I v.1), v.2) : mm_R)) v = oo) (fun n => eX4_last_75 n y2 z) oo :=
  xs_row (fun n => qX4_last_75 n y2 z) (kX4_last_81 y2 36 0 z oo)
noncomputable def sX4_last_58 (y1 : Int32) (y2 : Int32) (z : mm_S) : Option (Int32 × mm_S) := (sX4_crewIs y1 1 z).bind fun q6 => if y2 = q6.1 then (sX4_last_68 q6.2) else (sX4_last_75 y2 q6.2)
theorem kX4_last_58 (y1 : Int32) (y2 : Int32) (z : mm_S) (oo : mm_R) : mm_Xs (sX4_last_58 y1 y2 z) (fun v => (fun v : Int32 × mm_S => ((some (mm_I v.1), v.2) : mm_R)) v = oo) (fun n => eX4_last_58 n y1 y2 z) oo :=
  xs_row (fun n => qX4_last_58 n y1 y2 z) (xs_bd fun q6 => (xs_if (kX4_last_68 q6.2 oo) (kX4_last_75 y2 q6.2 oo)))
noncomputable def sX4_last_37 (y1 : Int32) (y2 : Int32) (z : mm_S) : Option (Int32 × mm_S) := if y2 < 0 ∨ 36 ≤ Int32.toNatClampNeg y2 then none else (sX4_carries y1 z).bind fun q5 => if (z.1 5 (Int32.toNatClampNeg y2)) ≤ q5.1 then (sX4_last_58 y1 y2 q5.2) else (sX4_last_51 q5.2)
theorem kX4_last_37 (y1 : Int32) (y2 : Int32) (z : mm_S) (oo : mm_R) : mm_Xs (sX4_last_37 y1 y2 z) (fun v => (fun v : Int32 × mm_S => ((some (mm_I v.1), v.2) : mm_R)) v = oo) (fun n => eX4_last_37 n y1 y2 z) oo :=
  xs_row (fun n => qX4_last_37 n y1 y2 z) (xs_if xs_n (xs_bd fun q5 => (xs_if (kX4_last_58 y1 y2 q5.2 oo) (kX4_last_51 q5.2 oo))))
noncomputable def sX4_last_22 (y1 : Int32) (y2 : Int32) (z : mm_S) : Option (Int32 × mm_S) := (sX4_crewIs y1 1 z).bind fun q3 => (sX4_findTimes q3.1 1 5 q3.2).bind fun q4 => (sX4_last_37 y1 y2 q4)
theorem kX4_last_22 (y1 : Int32) (y2 : Int32) (z : mm_S) (oo : mm_R) : mm_Xs (sX4_last_22 y1 y2 z) (fun v => (fun v : Int32 × mm_S => ((some (mm_I v.1), v.2) : mm_R)) v = oo) (fun n => eX4_last_22 n y1 y2 z) oo :=
  xs_row (fun n => qX4_last_22 n y1 y2 z) (xs_bd fun q3 => (xs_bd fun q4 => (kX4_last_37 y1 y2 q4 oo)))
noncomputable def sX4_last_0 (x1 : Int32) (x2 : Int32) (z : mm_S) : Option (Int32 × mm_S) := if (pX4_isCrew x1 z) = 0 then (sX4_finding (-1000001) z).bind fun q1 => some (q1.1, q1.2) else if (pX4_isCell x2) = 0 then (sX4_finding (-1000001) z).bind fun q2 => some (q2.1, q2.2) else (sX4_last_22 x1 x2 z)
theorem kX4_last_0 (x1 : Int32) (x2 : Int32) (z : mm_S) (oo : mm_R) : mm_Xs (sX4_last_0 x1 x2 z) (fun v => (fun v : Int32 × mm_S => ((some (mm_I v.1), v.2) : mm_R)) v = oo) (fun n => eX4_last_0 n x1 x2 z) oo :=
  xs_row (fun n => qX4_last_0 n x1 x2 z) (xs_if (xs_bd fun q1 => (xs_v fun hc => ⟨0, congrArg some hc⟩)) (xs_if (xs_bd fun q2 => (xs_v fun hc => ⟨0, congrArg some hc⟩)) (kX4_last_22 x1 x2 z oo)))
noncomputable def sX4_last (x1 : Int32) (x2 : Int32) (z : mm_S) : Option (Int32 × mm_S) := sX4_last_0 x1 x2 z
theorem sp_X4_last (x1 : Int32) (x2 : Int32) (z : mm_S) (hk : ∀ v ∈ [mm_P 4 0, mm_I x1, mm_I x2], mm_ok 22 lyTM 22 17 v) (q : Int32 × mm_S) (hq : sX4_last x1 x2 z = some q) : f_X4_last [mm_P 4 0, mm_I x1, mm_I x2] z (some (mm_I q.1), q.2) := ⟨Nat.le_of_ble_eq_true rfl, kX4_last_0 x1 x2 z _ q hq rfl⟩
noncomputable def clo_X4_last (as : List mm_V) (z : mm_S) (kk : Option mm_V → mm_S → Option mm_R) : Option mm_R := mm_pr as fun t o0 as => bif Nat.beq t 4 then mm_pi as fun a1 as => mm_pi as fun a2 as => (match as with | [] => (sX4_last a1 a2 z).bind fun q => kk (some (mm_I q.1)) q.2 | _ => none) else none
theorem cs_X4_last : mm_cs lyTM 22 22 17 f_X4_last clo_X4_last := by
  intro as z K o hk h
  obtain ⟨t0, o0, r0, rfl, g0⟩ := mm_pr_e h
  obtain ⟨b0, k0⟩ := mm_bif_e g0
  obtain rfl := Nat.eq_of_beq_eq_true b0
  obtain ⟨a1, r1, rfl, g1⟩ := mm_pi_e k0
  obtain ⟨a2, r2, rfl, g2⟩ := mm_pi_e g1
  rcases r2 with _ | ⟨u, w⟩
  rotate_left
  · cases g2
  obtain rfl : o0 = 0 := ok4 (hk (mm_P 4 o0) (by simp))
  obtain ⟨q, hq, hq2⟩ := Option.bind_eq_some_iff.mp g2
  exact ⟨_, _, sp_X4_last a1 a2 z hk q hq, fun v hv => by cases hv; exact Or.inl ⟨_, rfl⟩, hq2⟩
theorem sV_X4_last {own : String} {R : Room} {ar : Nat → Nat} {k : Nat} (hlink : Cond.methodLink own k yX4_last ∈ lw_gd ∨ ∃ host, (own, k, yX4_last, host) ∈ nmA) (har : ar k = 3) (hr : 4 ≤ R.frames ∧ 99 ≤ R.locals) : mm_okV lyTM lyFA lenM snM 22 22 17 roM rsA nfA nmA [] own R ar k clo_X4_last := by
  refine ⟨yX4_last, cX4_last, 7, some .int, rm_X4_last, f_X4_last, 4, 2, (RX4, TX4, 36), M_X4_last, cs_X4_last, hlink, ⟨wv_X4_last, wz_X4_last, wi_X4_last, wc_X4_last⟩, ⟨by decide +kernel, by decide +kernel, by decide +kernel⟩, har, ⟨rfl, rfl, by decide⟩, ?_, ⟨rfl, rfl, hr.1, hr.2⟩⟩
  intro as z K o h
  obtain ⟨t0, o0, r0, rfl, g0⟩ := mm_pr_e h
  obtain ⟨b0, k0⟩ := mm_bif_e g0
  obtain rfl := Nat.eq_of_beq_eq_true b0
  exact ⟨_, _, rfl⟩
-- X4_many
noncomputable def lV_X4_many : List (Nat × (List mm_V → mm_S → (Option mm_V → mm_S → Option mm_R) → Option mm_R)) := [(124, clo_X4_finding), (196, clo_X4_reachOf)]
noncomputable def mV_X4_many (k : Nat) (as : List mm_V) (z : mm_S) (kk : Option mm_V → mm_S → Option mm_R) : Option mm_R := match mm_at lV_X4_many k with
  | some f => f as z kk
  | none => none
noncomputable def arV_X4_many (k : Nat) : Nat := (mm_at [(124, 2), (196, 2)] k).getD 0
noncomputable def lS_X4_many : List (Nat × (List mm_V → mm_S → (Option mm_V → mm_S → Option mm_R) → Option mm_R)) := [(114, clo_X4_isCell)]
noncomputable def mS_X4_many (k : Nat) (as : List mm_V) (z : mm_S) (kk : Option mm_V → mm_S → Option mm_R) : Option mm_R := match mm_at lS_X4_many k with
  | some f => f as z kk
  | none => none
noncomputable def arS_X4_many (k : Nat) : Nat := (mm_at [(114, 1)] k).getD 0
def ct_X4_many : List (Nat × List Nat) := [(14, [0, 1]), (18, [0, 1, 2, 3]), (50, [0, 1, 2, 3])]
noncomputable def go_X4_many : Nat → mm_K := mm_go (fun k => mm_at flX4 k) (fun k => mm_at clX4 k) (fun k => mm_at glX4 k) arV_X4_many arS_X4_many mV_X4_many mS_X4_many lenM roM snM 4 0 tbX4_many ct_X4_many
noncomputable def eX4_many_0 (n : Nat)  (x1 : Int32) (z : mm_S) : Option mm_R := go_X4_many n 0 [(0, mm_P 4 0), (1, mm_I x1)] [] z
noncomputable def eX4_many_14 (n : Nat)  (y1 : Int32) (z : mm_S) : Option mm_R := go_X4_many n 14 [(0, mm_P 4 0), (1, mm_I y1)] [] z
noncomputable def eX4_many_18 (n : Nat)  (y1 : Int32) (y2 : Int32) (y3 : Int32) (z : mm_S) : Option mm_R := go_X4_many n 18 [(0, mm_P 4 0), (1, mm_I y1), (2, mm_I y2), (3, mm_I y3)] [] z
noncomputable def eX4_many_50 (n : Nat)  (y1 : Int32) (y2 : Int32) (y3 : Int32) (z : mm_S) : Option mm_R := go_X4_many n 50 [(0, mm_P 4 0), (1, mm_I y1), (2, mm_I y2), (3, mm_I y3)] [] z
set_option maxRecDepth 100000 in
theorem qX4_many_0 (n : Nat)  (x1 : Int32) (z : mm_S) : eX4_many_0 (n + 1) x1 z = (if (pX4_isCell x1) = 0 then (sX4_finding (-1000001) z).bind fun q1 => some (some (mm_I q1.1), q1.2) else eX4_many_14 n x1 z) := rfl
set_option maxRecDepth 100000 in
theorem qX4_many_14 (n : Nat)  (y1 : Int32) (z : mm_S) : eX4_many_14 (n + 1) y1 z = (eX4_many_18 n y1 0 0 z) := rfl
set_option maxRecDepth 100000 in
theorem qX4_many_18 (n : Nat)  (y1 : Int32) (y2 : Int32) (y3 : Int32) (z : mm_S) : eX4_many_18 (n + 1) y1 y2 y3 z = (if (z.1 1 1) ≤ y3 then some (some (mm_I y2), z) else (sX4_reachOf y3 z).bind fun q2 => if (lg_cmp ((q2.1 >>> (Int32.toInt64 y1 &&& 63)) &&& 1) 1) = 0 then eX4_many_50 n y1 (y2 + 1) y3 q2.2 else eX4_many_50 n y1 (y2 + 0) y3 q2.2) := rfl
set_option maxRecDepth 100000 in
theorem qX4_many_50 (n : Nat)  (y1 : Int32) (y2 : Int32) (y3 : Int32) (z : mm_S) : eX4_many_50 (n + 1) y1 y2 y3 z = (eX4_many_18 n y1 y2 (y3 + 1) z) := rfl
def rm_X4_many : Room := { frames := 5, cells := 0, slots := 0, locals := 120 }
noncomputable def f_X4_many (as : List mm_V) (z : mm_S) (o : mm_R) : Prop := (as.map mm_cat).sum ≤ 4 ∧ ∃ n, go_X4_many n 0 (mm_ar 0 as) [] z = some o
theorem M_X4_many : mm_M lyTM lyFA lenM snM 22 22 17 roM rsA nfA nmA [] yX4_many cX4_many 4 (some .int) rm_X4_many f_X4_many :=
  mm_met (rt := 0) (by decide +kernel) ⟨fun h => rfl, fun h => absurd h (by decide), fun h => absurd h (by decide), fun h => absurd h (by decide)⟩ tbX4_many_ok hsnM okFX4 okLX4 (fun _ h => absurd h List.not_mem_nil) (fun _ _ _ _ => rfl) (fun _ _ _ _ => rfl) (List.forall_mem_cons.mpr ⟨sV_X4_finding (Or.inl lk_X4_124) rfl ⟨by decide, by decide⟩, List.forall_mem_cons.mpr ⟨sV_X4_reachOf (Or.inl lk_X4_196) rfl ⟨by decide, by decide⟩, fun _ h => absurd h List.not_mem_nil⟩⟩) (List.forall_mem_cons.mpr ⟨sS_X4_isCell (Or.inl lk_X4_114) rfl ⟨by decide, by decide⟩, fun _ h => absurd h List.not_mem_nil⟩)
noncomputable def sX4_many_50 (y1 : Int32) (y2 : Int32) (y3 : Int32) (z : mm_S) : Option ((Int32 × Int32 × Int32 × mm_S) ⊕ (Int32 × mm_S)) := some (.inl (y1, y2, (y3 + 1), z))
theorem kX4_many_50 (y1 : Int32) (y2 : Int32) (y3 : Int32) (z : mm_S) (oo : mm_R) : mm_Xs (sX4_many_50 y1 y2 y3 z) (mm_mt (fun x : Int32 × Int32 × Int32 × mm_S => ∃ n, eX4_many_18 n x.1 x.2.1 x.2.2.1 x.2.2.2 = some oo) (fun v => (fun v : Int32 × mm_S => ((some (mm_I v.1), v.2) : mm_R)) v = oo)) (fun n => eX4_many_50 n y1 y2 y3 z) oo :=
  xs_row (fun n => qX4_many_50 n y1 y2 y3 z) (xs_v fun hc => hc)
noncomputable def lX4_many_18 (s : Int32 × Int32 × Int32 × mm_S) : Option ((Int32 × Int32 × Int32 × mm_S) ⊕ (Int32 × mm_S)) := if (s.2.2.2.1 1 1) ≤ s.2.2.1 then some (.inr (s.2.1, s.2.2.2)) else (sX4_reachOf s.2.2.1 s.2.2.2).bind fun q2 => if (lg_cmp ((q2.1 >>> (Int32.toInt64 s.1 &&& 63)) &&& 1) 1) = 0 then (sX4_many_50 s.1 (s.2.1 + 1) s.2.2.1 q2.2) else (sX4_many_50 s.1 (s.2.1 + 0) s.2.2.1 q2.2)
noncomputable def sX4_many_18 (y1 : Int32) (y2 : Int32) (y3 : Int32) (z : mm_S) : Option (Int32 × mm_S) := mm_wh (lX4_many_18 ) mm_fu (y1, y2, y3, z)
theorem kX4_many_18 (y1 : Int32) (y2 : Int32) (y3 : Int32) (z : mm_S) (oo : mm_R) : mm_Xs (sX4_many_18 y1 y2 y3 z) (fun v => (fun v : Int32 × mm_S => ((some (mm_I v.1), v.2) : mm_R)) v = oo) (fun n => eX4_many_18 n y1 y2 y3 z) oo :=
  xs_wh (stp := lX4_many_18 ) (o := oo) (E := (fun (s : Int32 × Int32 × Int32 × mm_S) n => eX4_many_18 n s.1 s.2.1 s.2.2.1 s.2.2.2)) (C := (fun v => (fun v : Int32 × mm_S => ((some (mm_I v.1), v.2) : mm_R)) v = oo)) (fun s => xs_row (fun n => qX4_many_18 n s.1 s.2.1 s.2.2.1 s.2.2.2) (xs_if (xs_v fun hc => ⟨0, congrArg some hc⟩) (xs_bd fun q2 => (xs_if (kX4_many_50 s.1 (s.2.1 + 1) s.2.2.1 q2.2 oo) (kX4_many_50 s.1 (s.2.1 + 0) s.2.2.1 q2.2 oo))))) mm_fu (y1, y2, y3, z)
noncomputable def sX4_many_14 (y1 : Int32) (z : mm_S) : Option (Int32 × mm_S) := (sX4_many_18 y1 0 0 z)
theorem kX4_many_14 (y1 : Int32) (z : mm_S) (oo : mm_R) : mm_Xs (sX4_many_14 y1 z) (fun v => (fun v : Int32 × mm_S => ((some (mm_I v.1), v.2) : mm_R)) v = oo) (fun n => eX4_many_14 n y1 z) oo :=
  xs_row (fun n => qX4_many_14 n y1 z) (kX4_many_18 y1 0 0 z oo)
noncomputable def sX4_many_0 (x1 : Int32) (z : mm_S) : Option (Int32 × mm_S) := if (pX4_isCell x1) = 0 then (sX4_finding (-1000001) z).bind fun q1 => some (q1.1, q1.2) else (sX4_many_14 x1 z)
theorem kX4_many_0 (x1 : Int32) (z : mm_S) (oo : mm_R) : mm_Xs (sX4_many_0 x1 z) (fun v => (fun v : Int32 × mm_S => ((some (mm_I v.1), v.2) : mm_R)) v = oo) (fun n => eX4_many_0 n x1 z) oo :=
  xs_row (fun n => qX4_many_0 n x1 z) (xs_if (xs_bd fun q1 => (xs_v fun hc => ⟨0, congrArg some hc⟩)) (kX4_many_14 x1 z oo))
noncomputable def sX4_many (x1 : Int32) (z : mm_S) : Option (Int32 × mm_S) := sX4_many_0 x1 z
theorem sp_X4_many (x1 : Int32) (z : mm_S) (hk : ∀ v ∈ [mm_P 4 0, mm_I x1], mm_ok 22 lyTM 22 17 v) (q : Int32 × mm_S) (hq : sX4_many x1 z = some q) : f_X4_many [mm_P 4 0, mm_I x1] z (some (mm_I q.1), q.2) := ⟨Nat.le_of_ble_eq_true rfl, kX4_many_0 x1 z _ q hq rfl⟩
noncomputable def clo_X4_many (as : List mm_V) (z : mm_S) (kk : Option mm_V → mm_S → Option mm_R) : Option mm_R := mm_pr as fun t o0 as => bif Nat.beq t 4 then mm_pi as fun a1 as => (match as with | [] => (sX4_many a1 z).bind fun q => kk (some (mm_I q.1)) q.2 | _ => none) else none
theorem cs_X4_many : mm_cs lyTM 22 22 17 f_X4_many clo_X4_many := by
  intro as z K o hk h
  obtain ⟨t0, o0, r0, rfl, g0⟩ := mm_pr_e h
  obtain ⟨b0, k0⟩ := mm_bif_e g0
  obtain rfl := Nat.eq_of_beq_eq_true b0
  obtain ⟨a1, r1, rfl, g1⟩ := mm_pi_e k0
  rcases r1 with _ | ⟨u, w⟩
  rotate_left
  · cases g1
  obtain rfl : o0 = 0 := ok4 (hk (mm_P 4 o0) (by simp))
  obtain ⟨q, hq, hq2⟩ := Option.bind_eq_some_iff.mp g1
  exact ⟨_, _, sp_X4_many a1 z hk q hq, fun v hv => by cases hv; exact Or.inl ⟨_, rfl⟩, hq2⟩
theorem sV_X4_many {own : String} {R : Room} {ar : Nat → Nat} {k : Nat} (hlink : Cond.methodLink own k yX4_many ∈ lw_gd ∨ ∃ host, (own, k, yX4_many, host) ∈ nmA) (har : ar k = 2) (hr : 6 ≤ R.frames ∧ 143 ≤ R.locals) : mm_okV lyTM lyFA lenM snM 22 22 17 roM rsA nfA nmA [] own R ar k clo_X4_many := by
  refine ⟨yX4_many, cX4_many, 4, some .int, rm_X4_many, f_X4_many, 4, 1, (RX4, TX4, 36), M_X4_many, cs_X4_many, hlink, ⟨wv_X4_many, wz_X4_many, wi_X4_many, wc_X4_many⟩, ⟨by decide +kernel, by decide +kernel, by decide +kernel⟩, har, ⟨rfl, rfl, by decide⟩, ?_, ⟨rfl, rfl, hr.1, hr.2⟩⟩
  intro as z K o h
  obtain ⟨t0, o0, r0, rfl, g0⟩ := mm_pr_e h
  obtain ⟨b0, k0⟩ := mm_bif_e g0
  obtain rfl := Nat.eq_of_beq_eq_true b0
  exact ⟨_, _, rfl⟩
