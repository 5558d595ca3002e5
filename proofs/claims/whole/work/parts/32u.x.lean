-- X3_finding
noncomputable def lV_X3_finding : List (Nat × (List mm_V → mm_S → (Option mm_V → mm_S → Option mm_R) → Option mm_R)) := []
noncomputable def mV_X3_finding (k : Nat) (as : List mm_V) (z : mm_S) (kk : Option mm_V → mm_S → Option mm_R) : Option mm_R := match mm_at lV_X3_finding k with
  | some f => f as z kk
  | none => none
noncomputable def arV_X3_finding (k : Nat) : Nat := (mm_at [] k).getD 0
noncomputable def lS_X3_finding : List (Nat × (List mm_V → mm_S → (Option mm_V → mm_S → Option mm_R) → Option mm_R)) := [(111, clo_X3_exchange), (165, clo_X3_at)]
noncomputable def mS_X3_finding (k : Nat) (as : List mm_V) (z : mm_S) (kk : Option mm_V → mm_S → Option mm_R) : Option mm_R := match mm_at lS_X3_finding k with
  | some f => f as z kk
  | none => none
noncomputable def arS_X3_finding (k : Nat) : Nat := (mm_at [(111, 3), (165, 2)] k).getD 0
def ct_X3_finding : List (Nat × List Nat) := [(19, [1])]
noncomputable def go_X3_finding : Nat → mm_K := mm_go (fun k => mm_at flX3 k) (fun k => mm_at clX3 k) (fun k => mm_at glX3 k) arV_X3_finding arS_X3_finding mV_X3_finding mS_X3_finding lenX roX snX 2 0 tbX3_finding ct_X3_finding
noncomputable def eX3_finding_0 (n : Nat)  (x1 : Int32) (z : mm_S) : Option mm_R := go_X3_finding n 0 [(0, mm_P 3 0), (1, mm_I x1)] [] z
noncomputable def eX3_finding_19 (n : Nat) (y1 : Int32) (z : mm_S) : Option mm_R := go_X3_finding n 19 [(1, mm_I y1)] [] z
set_option maxRecDepth 100000 in
theorem qX3_finding_0 (n : Nat)  (x1 : Int32) (z : mm_S) : eX3_finding_0 (n + 1) x1 z = (let u1 := (tX3_exchange 42 x1 ((pX3_at 42 x1 z) + 1) z); eX3_finding_19 n x1 u1.2) := rfl
set_option maxRecDepth 100000 in
theorem qX3_finding_19 (n : Nat) (y1 : Int32) (z : mm_S) : eX3_finding_19 (n + 1) y1 z = (some (some (mm_I ((-1000001) - y1)), z)) := rfl
def rm_X3_finding : Room := { frames := 1, cells := 0, slots := 0, locals := 23 }
noncomputable def f_X3_finding (as : List mm_V) (z : mm_S) (o : mm_R) : Prop := (as.map mm_cat).sum ≤ 2 ∧ ∃ n, go_X3_finding n 0 (mm_ar 0 as) [] z = some o
theorem M_X3_finding : mm_M lyTX lyFA lenX snX 46 48 17 roX rsA nfA nmA ssX yX3_finding cX3_finding 2 (some .int) rm_X3_finding f_X3_finding :=
  mm_met (rt := 0) (by decide +kernel) ⟨fun h => rfl, fun h => absurd h (by decide), fun h => absurd h (by decide), fun h => absurd h (by decide)⟩ tbX3_finding_ok hsnX okFX3 okLX3 okGX3 (fun _ _ _ _ => rfl) (fun _ _ _ _ => rfl) (fun _ h => absurd h List.not_mem_nil) (List.forall_mem_cons.mpr ⟨sS_X3_exchange (Or.inl lk_X3_111) rfl ⟨by decide, by decide⟩, List.forall_mem_cons.mpr ⟨sS_X3_at (Or.inl lk_X3_165) rfl ⟨by decide, by decide⟩, fun _ h => absurd h List.not_mem_nil⟩⟩)
noncomputable def sX3_finding_19 (y1 : Int32) (z : mm_S) : Option (Int32 × mm_S) := some (((-1000001) - y1), z)
theorem kX3_finding_19 (y1 : Int32) (z : mm_S) (oo : mm_R) : mm_Xs (sX3_finding_19 y1 z) (fun v => (fun v : Int32 × mm_S => ((some (mm_I v.1), v.2) : mm_R)) v = oo) (fun n => eX3_finding_19 n y1 z) oo :=
  xs_row (fun n => qX3_finding_19 n y1 z) (xs_v fun hc => ⟨0, congrArg some hc⟩)
noncomputable def sX3_finding_0 (x1 : Int32) (z : mm_S) : Option (Int32 × mm_S) := let u1 := (tX3_exchange 42 x1 ((pX3_at 42 x1 z) + 1) z); (sX3_finding_19 x1 u1.2)
theorem kX3_finding_0 (x1 : Int32) (z : mm_S) (oo : mm_R) : mm_Xs (sX3_finding_0 x1 z) (fun v => (fun v : Int32 × mm_S => ((some (mm_I v.1), v.2) : mm_R)) v = oo) (fun n => eX3_finding_0 n x1 z) oo :=
  xs_row (fun n => qX3_finding_0 n x1 z) (xs_let ((tX3_exchange 42 x1 ((pX3_at 42 x1 z) + 1) z)) (S := fun (u1 : _) => ((sX3_finding_19 x1 u1.2) : Option (Int32 × mm_S))) (T := fun (u1 : _) n => eX3_finding_19 n x1 u1.2) (fun u1 => (kX3_finding_19 x1 u1.2 oo)))
noncomputable def sX3_finding (x1 : Int32) (z : mm_S) : Option (Int32 × mm_S) := sX3_finding_0 x1 z
theorem sp_X3_finding (x1 : Int32) (z : mm_S) (hk : ∀ v ∈ [mm_P 3 0, mm_I x1], mm_ok 46 lyTX 48 17 v) (q : Int32 × mm_S) (hq : sX3_finding x1 z = some q) : f_X3_finding [mm_P 3 0, mm_I x1] z (some (mm_I q.1), q.2) := ⟨Nat.le_of_ble_eq_true rfl, kX3_finding_0 x1 z _ q hq rfl⟩
noncomputable def clo_X3_finding (as : List mm_V) (z : mm_S) (kk : Option mm_V → mm_S → Option mm_R) : Option mm_R := mm_pr as fun t o0 as => bif Nat.beq t 3 then mm_pi as fun a1 as => (match as with | [] => (sX3_finding a1 z).bind fun q => kk (some (mm_I q.1)) q.2 | _ => none) else none
theorem cs_X3_finding : mm_cs lyTX 46 48 17 f_X3_finding clo_X3_finding := by
  intro as z K o hk h
  obtain ⟨t0, o0, r0, rfl, g0⟩ := mm_pr_e h
  obtain ⟨b0, k0⟩ := mm_bif_e g0
  obtain rfl := Nat.eq_of_beq_eq_true b0
  obtain ⟨a1, r1, rfl, g1⟩ := mm_pi_e k0
  rcases r1 with _ | ⟨u, w⟩
  rotate_left
  · cases g1
  obtain rfl : o0 = 0 := ok3 (hk (mm_P 3 o0) (by simp))
  obtain ⟨q, hq, hq2⟩ := Option.bind_eq_some_iff.mp g1
  exact ⟨_, _, sp_X3_finding a1 z hk q hq, fun v hv => by cases hv; exact Or.inl ⟨_, rfl⟩, hq2⟩
theorem sV_X3_finding {own : String} {R : Room} {ar : Nat → Nat} {k : Nat} (hlink : Cond.methodLink own k yX3_finding ∈ lw_gd ∨ ∃ host, (own, k, yX3_finding, host) ∈ nmA) (har : ar k = 2) (hr : 2 ≤ R.frames ∧ 44 ≤ R.locals) : mm_okV lyTX lyFA lenX snX 46 48 17 roX rsA nfA nmA ssX own R ar k clo_X3_finding := by
  refine ⟨yX3_finding, cX3_finding, 2, some .int, rm_X3_finding, f_X3_finding, 3, 1, (RX3, TX3, 12), M_X3_finding, cs_X3_finding, hlink, ⟨wv_X3_finding, wz_X3_finding, wi_X3_finding, wc_X3_finding⟩, ⟨by decide +kernel, by decide +kernel, by decide +kernel⟩, har, ⟨rfl, rfl, by decide⟩, ?_, ⟨rfl, rfl, hr.1, hr.2⟩⟩
  intro as z K o h
  obtain ⟨t0, o0, r0, rfl, g0⟩ := mm_pr_e h
  obtain ⟨b0, k0⟩ := mm_bif_e g0
  obtain rfl := Nat.eq_of_beq_eq_true b0
  exact ⟨_, _, rfl⟩
-- X3_stuff
noncomputable def lV_X3_stuff : List (Nat × (List mm_V → mm_S → (Option mm_V → mm_S → Option mm_R) → Option mm_R)) := [(59, clo_X3_finding), (67, clo_X1_stuffAt), (72, clo_X1_put)]
noncomputable def mV_X3_stuff (k : Nat) (as : List mm_V) (z : mm_S) (kk : Option mm_V → mm_S → Option mm_R) : Option mm_R := match mm_at lV_X3_stuff k with
  | some f => f as z kk
  | none => none
noncomputable def arV_X3_stuff (k : Nat) : Nat := (mm_at [(59, 2), (67, 2), (72, 3)] k).getD 0
noncomputable def lS_X3_stuff : List (Nat × (List mm_V → mm_S → (Option mm_V → mm_S → Option mm_R) → Option mm_R)) := [(52, clo_X3_isCell), (56, clo_X3_isStuff)]
noncomputable def mS_X3_stuff (k : Nat) (as : List mm_V) (z : mm_S) (kk : Option mm_V → mm_S → Option mm_R) : Option mm_R := match mm_at lS_X3_stuff k with
  | some f => f as z kk
  | none => none
noncomputable def arS_X3_stuff (k : Nat) : Nat := (mm_at [(52, 1), (56, 1)] k).getD 0
def ct_X3_stuff : List (Nat × List Nat) := [(20, [0, 1, 2]), (44, [3])]
noncomputable def go_X3_stuff : Nat → mm_K := mm_go (fun k => mm_at flX3 k) (fun k => mm_at clX3 k) (fun k => mm_at glX3 k) arV_X3_stuff arS_X3_stuff mV_X3_stuff mS_X3_stuff lenX roX snX 4 0 tbX3_stuff ct_X3_stuff
noncomputable def eX3_stuff_0 (n : Nat)  (x1 : Int32) (x2 : Int32) (z : mm_S) : Option mm_R := go_X3_stuff n 0 [(0, mm_P 3 0), (1, mm_I x1), (2, mm_I x2)] [] z
noncomputable def eX3_stuff_20 (n : Nat)  (y1 : Int32) (y2 : Int32) (z : mm_S) : Option mm_R := go_X3_stuff n 20 [(0, mm_P 3 0), (1, mm_I y1), (2, mm_I y2)] [] z
noncomputable def eX3_stuff_44 (n : Nat) (y3 : Int32) (z : mm_S) : Option mm_R := go_X3_stuff n 44 [(3, mm_I y3)] [] z
set_option maxRecDepth 100000 in
theorem qX3_stuff_0 (n : Nat)  (x1 : Int32) (x2 : Int32) (z : mm_S) : eX3_stuff_0 (n + 1) x1 x2 z = (if (pX3_isCell x1) = 0 then (sX3_finding 0 z).bind fun q1 => some (some (mm_I q1.1), q1.2) else if (pX3_isStuff x2) = 0 then (sX3_finding 0 z).bind fun q2 => some (some (mm_I q2.1), q2.2) else eX3_stuff_20 n x1 x2 z) := rfl
set_option maxRecDepth 100000 in
theorem qX3_stuff_20 (n : Nat)  (y1 : Int32) (y2 : Int32) (z : mm_S) : eX3_stuff_20 (n + 1) y1 y2 z = (let u3 := (tX1_put 2 y1 y2 z); eX3_stuff_44 n (pX1_stuffAt 2 y1 z) u3) := rfl
set_option maxRecDepth 100000 in
theorem qX3_stuff_44 (n : Nat) (y3 : Int32) (z : mm_S) : eX3_stuff_44 (n + 1) y3 z = (some (some (mm_I y3), z)) := rfl
def rm_X3_stuff : Room := { frames := 3, cells := 0, slots := 0, locals := 65 }
noncomputable def f_X3_stuff (as : List mm_V) (z : mm_S) (o : mm_R) : Prop := (as.map mm_cat).sum ≤ 4 ∧ ∃ n, go_X3_stuff n 0 (mm_ar 0 as) [] z = some o
theorem M_X3_stuff : mm_M lyTX lyFA lenX snX 46 48 17 roX rsA nfA nmA ssX yX3_stuff cX3_stuff 4 (some .int) rm_X3_stuff f_X3_stuff :=
  mm_met (rt := 0) (by decide +kernel) ⟨fun h => rfl, fun h => absurd h (by decide), fun h => absurd h (by decide), fun h => absurd h (by decide)⟩ tbX3_stuff_ok hsnX okFX3 okLX3 okGX3 (fun _ _ _ _ => rfl) (fun _ _ _ _ => rfl) (List.forall_mem_cons.mpr ⟨sV_X3_finding (Or.inl lk_X3_59) rfl ⟨by decide, by decide⟩, List.forall_mem_cons.mpr ⟨sV_X1_stuffAt (Or.inl lk_X3_67) rfl ⟨by decide, by decide⟩, List.forall_mem_cons.mpr ⟨sV_X1_put (Or.inl lk_X3_72) rfl ⟨by decide, by decide⟩, fun _ h => absurd h List.not_mem_nil⟩⟩⟩) (List.forall_mem_cons.mpr ⟨sS_X3_isCell (Or.inl lk_X3_52) rfl ⟨by decide, by decide⟩, List.forall_mem_cons.mpr ⟨sS_X3_isStuff (Or.inl lk_X3_56) rfl ⟨by decide, by decide⟩, fun _ h => absurd h List.not_mem_nil⟩⟩)
noncomputable def sX3_stuff_44 (y3 : Int32) (z : mm_S) : Option (Int32 × mm_S) := some (y3, z)
theorem kX3_stuff_44 (y3 : Int32) (z : mm_S) (oo : mm_R) : mm_Xs (sX3_stuff_44 y3 z) (fun v => (fun v : Int32 × mm_S => ((some (mm_I v.1), v.2) : mm_R)) v = oo) (fun n => eX3_stuff_44 n y3 z) oo :=
  xs_row (fun n => qX3_stuff_44 n y3 z) (xs_v fun hc => ⟨0, congrArg some hc⟩)
noncomputable def sX3_stuff_20 (y1 : Int32) (y2 : Int32) (z : mm_S) : Option (Int32 × mm_S) := let u3 := (tX1_put 2 y1 y2 z); (sX3_stuff_44 (pX1_stuffAt 2 y1 z) u3)
theorem kX3_stuff_20 (y1 : Int32) (y2 : Int32) (z : mm_S) (oo : mm_R) : mm_Xs (sX3_stuff_20 y1 y2 z) (fun v => (fun v : Int32 × mm_S => ((some (mm_I v.1), v.2) : mm_R)) v = oo) (fun n => eX3_stuff_20 n y1 y2 z) oo :=
  xs_row (fun n => qX3_stuff_20 n y1 y2 z) (xs_let ((tX1_put 2 y1 y2 z)) (S := fun (u3 : _) => ((sX3_stuff_44 (pX1_stuffAt 2 y1 z) u3) : Option (Int32 × mm_S))) (T := fun (u3 : _) n => eX3_stuff_44 n (pX1_stuffAt 2 y1 z) u3) (fun u3 => (kX3_stuff_44 (pX1_stuffAt 2 y1 z) u3 oo)))
noncomputable def sX3_stuff_0 (x1 : Int32) (x2 : Int32) (z : mm_S) : Option (Int32 × mm_S) := if (pX3_isCell x1) = 0 then (sX3_finding 0 z).bind fun q1 => some (q1.1, q1.2) else if (pX3_isStuff x2) = 0 then (sX3_finding 0 z).bind fun q2 => some (q2.1, q2.2) else (sX3_stuff_20 x1 x2 z)
theorem kX3_stuff_0 (x1 : Int32) (x2 : Int32) (z : mm_S) (oo : mm_R) : mm_Xs (sX3_stuff_0 x1 x2 z) (fun v => (fun v : Int32 × mm_S => ((some (mm_I v.1), v.2) : mm_R)) v = oo) (fun n => eX3_stuff_0 n x1 x2 z) oo :=
  xs_row (fun n => qX3_stuff_0 n x1 x2 z) (xs_if (xs_bd fun q1 => (xs_v fun hc => ⟨0, congrArg some hc⟩)) (xs_if (xs_bd fun q2 => (xs_v fun hc => ⟨0, congrArg some hc⟩)) (kX3_stuff_20 x1 x2 z oo)))
noncomputable def sX3_stuff (x1 : Int32) (x2 : Int32) (z : mm_S) : Option (Int32 × mm_S) := sX3_stuff_0 x1 x2 z
theorem sp_X3_stuff (x1 : Int32) (x2 : Int32) (z : mm_S) (hk : ∀ v ∈ [mm_P 3 0, mm_I x1, mm_I x2], mm_ok 46 lyTX 48 17 v) (q : Int32 × mm_S) (hq : sX3_stuff x1 x2 z = some q) : f_X3_stuff [mm_P 3 0, mm_I x1, mm_I x2] z (some (mm_I q.1), q.2) := ⟨Nat.le_of_ble_eq_true rfl, kX3_stuff_0 x1 x2 z _ q hq rfl⟩
noncomputable def clo_X3_stuff (as : List mm_V) (z : mm_S) (kk : Option mm_V → mm_S → Option mm_R) : Option mm_R := mm_pr as fun t o0 as => bif Nat.beq t 3 then mm_pi as fun a1 as => mm_pi as fun a2 as => (match as with | [] => (sX3_stuff a1 a2 z).bind fun q => kk (some (mm_I q.1)) q.2 | _ => none) else none
theorem cs_X3_stuff : mm_cs lyTX 46 48 17 f_X3_stuff clo_X3_stuff := by
  intro as z K o hk h
  obtain ⟨t0, o0, r0, rfl, g0⟩ := mm_pr_e h
  obtain ⟨b0, k0⟩ := mm_bif_e g0
  obtain rfl := Nat.eq_of_beq_eq_true b0
  obtain ⟨a1, r1, rfl, g1⟩ := mm_pi_e k0
  obtain ⟨a2, r2, rfl, g2⟩ := mm_pi_e g1
  rcases r2 with _ | ⟨u, w⟩
  rotate_left
  · cases g2
  obtain rfl : o0 = 0 := ok3 (hk (mm_P 3 o0) (by simp))
  obtain ⟨q, hq, hq2⟩ := Option.bind_eq_some_iff.mp g2
  exact ⟨_, _, sp_X3_stuff a1 a2 z hk q hq, fun v hv => by cases hv; exact Or.inl ⟨_, rfl⟩, hq2⟩
theorem sV_X3_stuff {own : String} {R : Room} {ar : Nat → Nat} {k : Nat} (hlink : Cond.methodLink own k yX3_stuff ∈ lw_gd ∨ ∃ host, (own, k, yX3_stuff, host) ∈ nmA) (har : ar k = 3) (hr : 4 ≤ R.frames ∧ 88 ≤ R.locals) : mm_okV lyTX lyFA lenX snX 46 48 17 roX rsA nfA nmA ssX own R ar k clo_X3_stuff := by
  refine ⟨yX3_stuff, cX3_stuff, 4, some .int, rm_X3_stuff, f_X3_stuff, 3, 2, (RX3, TX3, 12), M_X3_stuff, cs_X3_stuff, hlink, ⟨wv_X3_stuff, wz_X3_stuff, wi_X3_stuff, wc_X3_stuff⟩, ⟨by decide +kernel, by decide +kernel, by decide +kernel⟩, har, ⟨rfl, rfl, by decide⟩, ?_, ⟨rfl, rfl, hr.1, hr.2⟩⟩
  intro as z K o h
  obtain ⟨t0, o0, r0, rfl, g0⟩ := mm_pr_e h
  obtain ⟨b0, k0⟩ := mm_bif_e g0
  obtain rfl := Nat.eq_of_beq_eq_true b0
  exact ⟨_, _, rfl⟩
-- X3_crew
noncomputable def lV_X3_crew : List (Nat × (List mm_V → mm_S → (Option mm_V → mm_S → Option mm_R) → Option mm_R)) := [(59, clo_X3_finding), (83, clo_X0_addCrew)]
noncomputable def mV_X3_crew (k : Nat) (as : List mm_V) (z : mm_S) (kk : Option mm_V → mm_S → Option mm_R) : Option mm_R := match mm_at lV_X3_crew k with
  | some f => f as z kk
  | none => none
noncomputable def arV_X3_crew (k : Nat) : Nat := (mm_at [(59, 2), (83, 4)] k).getD 0
noncomputable def lS_X3_crew : List (Nat × (List mm_V → mm_S → (Option mm_V → mm_S → Option mm_R) → Option mm_R)) := [(52, clo_X3_isCell), (76, clo_X3_isKind)]
noncomputable def mS_X3_crew (k : Nat) (as : List mm_V) (z : mm_S) (kk : Option mm_V → mm_S → Option mm_R) : Option mm_R := match mm_at lS_X3_crew k with
  | some f => f as z kk
  | none => none
noncomputable def arS_X3_crew (k : Nat) : Nat := (mm_at [(52, 1), (76, 1)] k).getD 0
def ct_X3_crew : List (Nat × List Nat) := [(20, [0, 1, 2]), (38, [0, 1, 2]), (49, [0])]
noncomputable def go_X3_crew : Nat → mm_K := mm_go (fun k => mm_at flX3 k) (fun k => mm_at clX3 k) (fun k => mm_at glX3 k) arV_X3_crew arS_X3_crew mV_X3_crew mS_X3_crew lenX roX snX 3 0 tbX3_crew ct_X3_crew
noncomputable def eX3_crew_0 (n : Nat)  (x1 : Int32) (x2 : Int32) (z : mm_S) : Option mm_R := go_X3_crew n 0 [(0, mm_P 3 0), (1, mm_I x1), (2, mm_I x2)] [] z
noncomputable def eX3_crew_20 (n : Nat)  (y1 : Int32) (y2 : Int32) (z : mm_S) : Option mm_R := go_X3_crew n 20 [(0, mm_P 3 0), (1, mm_I y1), (2, mm_I y2)] [] z
noncomputable def eX3_crew_38 (n : Nat)  (y1 : Int32) (y2 : Int32) (z : mm_S) : Option mm_R := go_X3_crew n 38 [(0, mm_P 3 0), (1, mm_I y1), (2, mm_I y2)] [] z
noncomputable def eX3_crew_49 (n : Nat)  (z : mm_S) : Option mm_R := go_X3_crew n 49 [(0, mm_P 3 0)] [] z
set_option maxRecDepth 100000 in
theorem qX3_crew_0 (n : Nat)  (x1 : Int32) (x2 : Int32) (z : mm_S) : eX3_crew_0 (n + 1) x1 x2 z = (if (pX3_isKind x1) = 0 then (sX3_finding 0 z).bind fun q1 => some (some (mm_I q1.1), q1.2) else if (pX3_isCell x2) = 0 then (sX3_finding 0 z).bind fun q2 => some (some (mm_I q2.1), q2.2) else eX3_crew_20 n x1 x2 z) := rfl
set_option maxRecDepth 100000 in
theorem qX3_crew_20 (n : Nat)  (y1 : Int32) (y2 : Int32) (z : mm_S) : eX3_crew_20 (n + 1) y1 y2 z = (if (z.1 1 4) < 6 then eX3_crew_38 n y1 y2 z else (sX3_finding 1 z).bind fun q3 => some (some (mm_I q3.1), q3.2)) := rfl
set_option maxRecDepth 100000 in
theorem qX3_crew_38 (n : Nat)  (y1 : Int32) (y2 : Int32) (z : mm_S) : eX3_crew_38 (n + 1) y1 y2 z = (let u4 := (tX0_addCrew 1 y1 y2 6 z); eX3_crew_49 n  u4) := rfl
set_option maxRecDepth 100000 in
theorem qX3_crew_49 (n : Nat)  (z : mm_S) : eX3_crew_49 (n + 1)  z = (some (some (mm_I ((z.1 1 4) - 1)), z)) := rfl
def rm_X3_crew : Room := { frames := 2, cells := 0, slots := 0, locals := 46 }
noncomputable def f_X3_crew (as : List mm_V) (z : mm_S) (o : mm_R) : Prop := (as.map mm_cat).sum ≤ 3 ∧ ∃ n, go_X3_crew n 0 (mm_ar 0 as) [] z = some o
theorem M_X3_crew : mm_M lyTX lyFA lenX snX 46 48 17 roX rsA nfA nmA ssX yX3_crew cX3_crew 3 (some .int) rm_X3_crew f_X3_crew :=
  mm_met (rt := 0) (by decide +kernel) ⟨fun h => rfl, fun h => absurd h (by decide), fun h => absurd h (by decide), fun h => absurd h (by decide)⟩ tbX3_crew_ok hsnX okFX3 okLX3 okGX3 (fun _ _ _ _ => rfl) (fun _ _ _ _ => rfl) (List.forall_mem_cons.mpr ⟨sV_X3_finding (Or.inl lk_X3_59) rfl ⟨by decide, by decide⟩, List.forall_mem_cons.mpr ⟨sV_X0_addCrew (Or.inl lk_X3_83) rfl ⟨by decide, by decide⟩, fun _ h => absurd h List.not_mem_nil⟩⟩) (List.forall_mem_cons.mpr ⟨sS_X3_isCell (Or.inl lk_X3_52) rfl ⟨by decide, by decide⟩, List.forall_mem_cons.mpr ⟨sS_X3_isKind (Or.inl lk_X3_76) rfl ⟨by decide, by decide⟩, fun _ h => absurd h List.not_mem_nil⟩⟩)
noncomputable def sX3_crew_49  (z : mm_S) : Option (Int32 × mm_S) := some (((z.1 1 4) - 1), z)
theorem kX3_crew_49  (z : mm_S) (oo : mm_R) : mm_Xs (sX3_crew_49  z) (fun v => (fun v : Int32 × mm_S => ((some (mm_I v.1), v.2) : mm_R)) v = oo) (fun n => eX3_crew_49 n  z) oo :=
  xs_row (fun n => qX3_crew_49 n z) (xs_v fun hc => ⟨0, congrArg some hc⟩)
noncomputable def sX3_crew_38 (y1 : Int32) (y2 : Int32) (z : mm_S) : Option (Int32 × mm_S) := let u4 := (tX0_addCrew 1 y1 y2 6 z); (sX3_crew_49 u4)
theorem kX3_crew_38 (y1 : Int32) (y2 : Int32) (z : mm_S) (oo : mm_R) : mm_Xs (sX3_crew_38 y1 y2 z) (fun v => (fun v : Int32 × mm_S => ((some (mm_I v.1), v.2) : mm_R)) v = oo) (fun n => eX3_crew_38 n y1 y2 z) oo :=
  xs_row (fun n => qX3_crew_38 n y1 y2 z) (xs_let ((tX0_addCrew 1 y1 y2 6 z)) (S := fun (u4 : _) => ((sX3_crew_49 u4) : Option (Int32 × mm_S))) (T := fun (u4 : _) n => eX3_crew_49 n  u4) (fun u4 => (kX3_crew_49 u4 oo)))
noncomputable def sX3_crew_20 (y1 : Int32) (y2 : Int32) (z : mm_S) : Option (Int32 × mm_S) := if (z.1 1 4) < 6 then (sX3_crew_38 y1 y2 z) else (sX3_finding 1 z).bind fun q3 => some (q3.1, q3.2)
theorem kX3_crew_20 (y1 : Int32) (y2 : Int32) (z : mm_S) (oo : mm_R) : mm_Xs (sX3_crew_20 y1 y2 z) (fun v => (fun v : Int32 × mm_S => ((some (mm_I v.1), v.2) : mm_R)) v = oo) (fun n => eX3_crew_20 n y1 y2 z) oo :=
  xs_row (fun n => qX3_crew_20 n y1 y2 z) (xs_if (kX3_crew_38 y1 y2 z oo) (xs_bd fun q3 => (xs_v fun hc => ⟨0, congrArg some hc⟩)))
noncomputable def sX3_crew_0 (x1 : Int32) (x2 : Int32) (z : mm_S) : Option (Int32 × mm_S) := if (pX3_isKind x1) = 0 then (sX3_finding 0 z).bind fun q1 => some (q1.1, q1.2) else if (pX3_isCell x2) = 0 then (sX3_finding 0 z).bind fun q2 => some (q2.1, q2.2) else (sX3_crew_20 x1 x2 z)
theorem kX3_crew_0 (x1 : Int32) (x2 : Int32) (z : mm_S) (oo : mm_R) : mm_Xs (sX3_crew_0 x1 x2 z) (fun v => (fun v : Int32 × mm_S => ((some (mm_I v.1), v.2) : mm_R)) v = oo) (fun n => eX3_crew_0 n x1 x2 z) oo :=
  xs_row (fun n => qX3_crew_0 n x1 x2 z) (xs_if (xs_bd fun q1 => (xs_v fun hc => ⟨0, congrArg some hc⟩)) (xs_if (xs_bd fun q2 => (xs_v fun hc => ⟨0, congrArg some hc⟩)) (kX3_crew_20 x1 x2 z oo)))
noncomputable def sX3_crew (x1 : Int32) (x2 : Int32) (z : mm_S) : Option (Int32 × mm_S) := sX3_crew_0 x1 x2 z
theorem sp_X3_crew (x1 : Int32) (x2 : Int32) (z : mm_S) (hk : ∀ v ∈ [mm_P 3 0, mm_I x1, mm_I x2], mm_ok 46 lyTX 48 17 v) (q : Int32 × mm_S) (hq : sX3_crew x1 x2 z = some q) : f_X3_crew [mm_P 3 0, mm_I x1, mm_I x2] z (some (mm_I q.1), q.2) := ⟨Nat.le_of_ble_eq_true rfl, kX3_crew_0 x1 x2 z _ q hq rfl⟩
noncomputable def clo_X3_crew (as : List mm_V) (z : mm_S) (kk : Option mm_V → mm_S → Option mm_R) : Option mm_R := mm_pr as fun t o0 as => bif Nat.beq t 3 then mm_pi as fun a1 as => mm_pi as fun a2 as => (match as with | [] => (sX3_crew a1 a2 z).bind fun q => kk (some (mm_I q.1)) q.2 | _ => none) else none
theorem cs_X3_crew : mm_cs lyTX 46 48 17 f_X3_crew clo_X3_crew := by
  intro as z K o hk h
  obtain ⟨t0, o0, r0, rfl, g0⟩ := mm_pr_e h
  obtain ⟨b0, k0⟩ := mm_bif_e g0
  obtain rfl := Nat.eq_of_beq_eq_true b0
  obtain ⟨a1, r1, rfl, g1⟩ := mm_pi_e k0
  obtain ⟨a2, r2, rfl, g2⟩ := mm_pi_e g1
  rcases r2 with _ | ⟨u, w⟩
  rotate_left
  · cases g2
  obtain rfl : o0 = 0 := ok3 (hk (mm_P 3 o0) (by simp))
  obtain ⟨q, hq, hq2⟩ := Option.bind_eq_some_iff.mp g2
  exact ⟨_, _, sp_X3_crew a1 a2 z hk q hq, fun v hv => by cases hv; exact Or.inl ⟨_, rfl⟩, hq2⟩
theorem sV_X3_crew {own : String} {R : Room} {ar : Nat → Nat} {k : Nat} (hlink : Cond.methodLink own k yX3_crew ∈ lw_gd ∨ ∃ host, (own, k, yX3_crew, host) ∈ nmA) (har : ar k = 3) (hr : 3 ≤ R.frames ∧ 68 ≤ R.locals) : mm_okV lyTX lyFA lenX snX 46 48 17 roX rsA nfA nmA ssX own R ar k clo_X3_crew := by
  refine ⟨yX3_crew, cX3_crew, 3, some .int, rm_X3_crew, f_X3_crew, 3, 2, (RX3, TX3, 12), M_X3_crew, cs_X3_crew, hlink, ⟨wv_X3_crew, wz_X3_crew, wi_X3_crew, wc_X3_crew⟩, ⟨by decide +kernel, by decide +kernel, by decide +kernel⟩, har, ⟨rfl, rfl, by decide⟩, ?_, ⟨rfl, rfl, hr.1, hr.2⟩⟩
  intro as z K o h
  obtain ⟨t0, o0, r0, rfl, g0⟩ := mm_pr_e h
  obtain ⟨b0, k0⟩ := mm_bif_e g0
  obtain rfl := Nat.eq_of_beq_eq_true b0
  exact ⟨_, _, rfl⟩
-- X3_isCrew
noncomputable def lV_X3_isCrew : List (Nat × (List mm_V → mm_S → (Option mm_V → mm_S → Option mm_R) → Option mm_R)) := []
noncomputable def mV_X3_isCrew (k : Nat) (as : List mm_V) (z : mm_S) (kk : Option mm_V → mm_S → Option mm_R) : Option mm_R := match mm_at lV_X3_isCrew k with
  | some f => f as z kk
  | none => none
noncomputable def arV_X3_isCrew (k : Nat) : Nat := (mm_at [] k).getD 0
noncomputable def lS_X3_isCrew : List (Nat × (List mm_V → mm_S → (Option mm_V → mm_S → Option mm_R) → Option mm_R)) := [(118, clo_X3_lies)]
noncomputable def mS_X3_isCrew (k : Nat) (as : List mm_V) (z : mm_S) (kk : Option mm_V → mm_S → Option mm_R) : Option mm_R := match mm_at lS_X3_isCrew k with
  | some f => f as z kk
  | none => none
noncomputable def arS_X3_isCrew (k : Nat) : Nat := (mm_at [(118, 3)] k).getD 0
def ct_X3_isCrew : List (Nat × List Nat) := []
noncomputable def go_X3_isCrew : Nat → mm_K := mm_go (fun k => mm_at flX3 k) (fun k => mm_at clX3 k) (fun k => mm_at glX3 k) arV_X3_isCrew arS_X3_isCrew mV_X3_isCrew mS_X3_isCrew lenX roX snX 2 1 tbX3_isCrew ct_X3_isCrew
noncomputable def eX3_isCrew_0 (n : Nat)  (x1 : Int32) (z : mm_S) : Option mm_R := go_X3_isCrew n 0 [(0, mm_P 3 0), (1, mm_I x1)] [] z
set_option maxRecDepth 100000 in
theorem qX3_isCrew_0 (n : Nat)  (x1 : Int32) (z : mm_S) : eX3_isCrew_0 (n + 1) x1 z = (mm_rt 1 (pX3_lies x1 0 ((z.1 1 4) - 1)) z) := rfl
def rm_X3_isCrew : Room := { frames := 1, cells := 0, slots := 0, locals := 22 }
noncomputable def f_X3_isCrew (as : List mm_V) (z : mm_S) (o : mm_R) : Prop := (as.map mm_cat).sum ≤ 2 ∧ ∃ n, go_X3_isCrew n 0 (mm_ar 0 as) [] z = some o
theorem M_X3_isCrew : mm_M lyTX lyFA lenX snX 46 48 17 roX rsA nfA nmA ssX yX3_isCrew cX3_isCrew 2 (some .boolean) rm_X3_isCrew f_X3_isCrew :=
  mm_met (rt := 1) (by decide +kernel) ⟨fun h => absurd h (by decide), fun h => rfl, fun h => absurd h (by decide), fun h => absurd h (by decide)⟩ tbX3_isCrew_ok hsnX okFX3 okLX3 okGX3 (fun _ _ _ _ => rfl) (fun _ _ _ _ => rfl) (fun _ h => absurd h List.not_mem_nil) (List.forall_mem_cons.mpr ⟨sS_X3_lies (Or.inl lk_X3_118) rfl ⟨by decide, by decide⟩, fun _ h => absurd h List.not_mem_nil⟩)
noncomputable def pX3_isCrew (x1 : Int32) (z : mm_S) : Int32 := (pX3_lies x1 0 ((z.1 1 4) - 1))
theorem z1_X3_isCrew (x1 : Int32) (z : mm_S) : pX3_isCrew x1 z = 0 ∨ pX3_isCrew x1 z = 1 := (z1_X3_lies x1 0 ((z.1 1 4) - 1))
theorem sp_X3_isCrew (x1 : Int32) (z : mm_S) (_ : ∀ v ∈ [mm_P 3 0, mm_I x1], mm_ok 46 lyTX 48 17 v) : f_X3_isCrew [mm_P 3 0, mm_I x1] z (some (mm_I (pX3_isCrew x1 z)), z) := ⟨Nat.le_of_ble_eq_true rfl, 1, (qX3_isCrew_0 0 x1 z).trans (mm_rt1 z (z1_X3_lies x1 0 ((z.1 1 4) - 1)))⟩
noncomputable def clo_X3_isCrew (as : List mm_V) (z : mm_S) (kk : Option mm_V → mm_S → Option mm_R) : Option mm_R := mm_pr as fun t o0 as => bif Nat.beq t 3 then mm_pi as fun a1 as => (match as with | [] => kk (some (mm_I (pX3_isCrew a1 z))) z | _ => none) else none
theorem cs_X3_isCrew : mm_cs lyTX 46 48 17 f_X3_isCrew clo_X3_isCrew := by
  intro as z K o hk h
  obtain ⟨t0, o0, r0, rfl, g0⟩ := mm_pr_e h
  obtain ⟨b0, k0⟩ := mm_bif_e g0
  obtain rfl := Nat.eq_of_beq_eq_true b0
  obtain ⟨a1, r1, rfl, g1⟩ := mm_pi_e k0
  rcases r1 with _ | ⟨u, w⟩
  rotate_left
  · cases g1
  obtain rfl : o0 = 0 := ok3 (hk (mm_P 3 o0) (by simp))
  exact ⟨_, _, sp_X3_isCrew a1 z hk, fun v hv => by cases hv; exact Or.inl ⟨_, rfl⟩, g1⟩
theorem sV_X3_isCrew {own : String} {R : Room} {ar : Nat → Nat} {k : Nat} (hlink : Cond.methodLink own k yX3_isCrew ∈ lw_gd ∨ ∃ host, (own, k, yX3_isCrew, host) ∈ nmA) (har : ar k = 2) (hr : 2 ≤ R.frames ∧ 43 ≤ R.locals) : mm_okV lyTX lyFA lenX snX 46 48 17 roX rsA nfA nmA ssX own R ar k clo_X3_isCrew := by
  refine ⟨yX3_isCrew, cX3_isCrew, 2, some .boolean, rm_X3_isCrew, f_X3_isCrew, 3, 1, (RX3, TX3, 12), M_X3_isCrew, cs_X3_isCrew, hlink, ⟨wv_X3_isCrew, wz_X3_isCrew, wi_X3_isCrew, wc_X3_isCrew⟩, ⟨by decide +kernel, by decide +kernel, by decide +kernel⟩, har, ⟨rfl, rfl, by decide⟩, ?_, ⟨rfl, rfl, hr.1, hr.2⟩⟩
  intro as z K o h
  obtain ⟨t0, o0, r0, rfl, g0⟩ := mm_pr_e h
  obtain ⟨b0, k0⟩ := mm_bif_e g0
  obtain rfl := Nat.eq_of_beq_eq_true b0
  exact ⟨_, _, rfl⟩
-- X3_of
noncomputable def lV_X3_of : List (Nat × (List mm_V → mm_S → (Option mm_V → mm_S → Option mm_R) → Option mm_R)) := [(59, clo_X3_finding), (87, clo_X3_isCrew), (90, clo_X0_kindOf), (93, clo_X0_placeOf), (96, clo_X0_forceOf), (99, clo_X0_carriesOf)]
noncomputable def mV_X3_of (k : Nat) (as : List mm_V) (z : mm_S) (kk : Option mm_V → mm_S → Option mm_R) : Option mm_R := match mm_at lV_X3_of k with
  | some f => f as z kk
  | none => none
noncomputable def arV_X3_of (k : Nat) : Nat := (mm_at [(59, 2), (87, 2), (90, 2), (93, 2), (96, 2), (99, 2)] k).getD 0
noncomputable def lS_X3_of : List (Nat × (List mm_V → mm_S → (Option mm_V → mm_S → Option mm_R) → Option mm_R)) := [(102, clo_X3_startsAs), (105, clo_X3_hearsByAs)]
noncomputable def mS_X3_of (k : Nat) (as : List mm_V) (z : mm_S) (kk : Option mm_V → mm_S → Option mm_R) : Option mm_R := match mm_at lS_X3_of k with
  | some f => f as z kk
  | none => none
noncomputable def arS_X3_of (k : Nat) : Nat := (mm_at [(102, 1), (105, 1)] k).getD 0
def ct_X3_of : List (Nat × List Nat) := [(14, [0, 1, 2])]
noncomputable def go_X3_of : Nat → mm_K := mm_go (fun k => mm_at flX3 k) (fun k => mm_at clX3 k) (fun k => mm_at glX3 k) arV_X3_of arS_X3_of mV_X3_of mS_X3_of lenX roX snX 3 0 tbX3_of ct_X3_of
noncomputable def eX3_of_0 (n : Nat)  (x1 : Int32) (x2 : Int32) (z : mm_S) : Option mm_R := go_X3_of n 0 [(0, mm_P 3 0), (1, mm_I x1), (2, mm_I x2)] [] z
noncomputable def eX3_of_14 (n : Nat)  (y1 : Int32) (y2 : Int32) (z : mm_S) : Option mm_R := go_X3_of n 14 [(0, mm_P 3 0), (1, mm_I y1), (2, mm_I y2)] [] z
set_option maxRecDepth 100000 in
theorem qX3_of_0 (n : Nat)  (x1 : Int32) (x2 : Int32) (z : mm_S) : eX3_of_0 (n + 1) x1 x2 z = (if (pX3_isCrew x1 z) = 0 then (sX3_finding 0 z).bind fun q1 => some (some (mm_I q1.1), q1.2) else eX3_of_14 n x1 x2 z) := rfl
set_option maxRecDepth 100000 in
theorem qX3_of_14 (n : Nat)  (y1 : Int32) (y2 : Int32) (z : mm_S) : eX3_of_14 (n + 1) y1 y2 z = (if y2 = 0 then some (some (mm_I (pX0_kindOf 1 y1 z)), z) else if y2 = 1 then some (some (mm_I (pX0_placeOf 1 y1 z)), z) else if y2 = 2 then some (some (mm_I (pX0_forceOf 1 y1 z)), z) else if y2 = 3 then some (some (mm_I (pX0_carriesOf 1 y1 z)), z) else if y2 = 4 then some (some (mm_I (pX3_startsAs (pX0_kindOf 1 y1 z))), z) else if y2 = 5 then some (some (mm_I (pX3_hearsByAs (pX0_kindOf 1 y1 z))), z) else (sX3_finding 0 z).bind fun q2 => some (some (mm_I q2.1), q2.2)) := rfl
def rm_X3_of : Room := { frames := 3, cells := 0, slots := 0, locals := 63 }
noncomputable def f_X3_of (as : List mm_V) (z : mm_S) (o : mm_R) : Prop := (as.map mm_cat).sum ≤ 3 ∧ ∃ n, go_X3_of n 0 (mm_ar 0 as) [] z = some o
theorem M_X3_of : mm_M lyTX lyFA lenX snX 46 48 17 roX rsA nfA nmA ssX yX3_of cX3_of 3 (some .int) rm_X3_of f_X3_of :=
  mm_met (rt := 0) (by decide +kernel) ⟨fun h => rfl, fun h => absurd h (by decide), fun h => absurd h (by decide), fun h => absurd h (by decide)⟩ tbX3_of_ok hsnX okFX3 okLX3 okGX3 (fun _ _ _ _ => rfl) (fun _ _ _ _ => rfl) (List.forall_mem_cons.mpr ⟨sV_X3_finding (Or.inl lk_X3_59) rfl ⟨by decide, by decide⟩, List.forall_mem_cons.mpr ⟨sV_X3_isCrew (Or.inl lk_X3_87) rfl ⟨by decide, by decide⟩, List.forall_mem_cons.mpr ⟨sV_X0_kindOf (Or.inl lk_X3_90) rfl ⟨by decide, by decide⟩, List.forall_mem_cons.mpr ⟨sV_X0_placeOf (Or.inl lk_X3_93) rfl ⟨by decide, by decide⟩, List.forall_mem_cons.mpr ⟨sV_X0_forceOf (Or.inl lk_X3_96) rfl ⟨by decide, by decide⟩, List.forall_mem_cons.mpr ⟨sV_X0_carriesOf (Or.inl lk_X3_99) rfl ⟨by decide, by decide⟩, fun _ h => absurd h List.not_mem_nil⟩⟩⟩⟩⟩⟩) (List.forall_mem_cons.mpr ⟨sS_X3_startsAs (Or.inl lk_X3_102) rfl ⟨by decide, by decide⟩, List.forall_mem_cons.mpr ⟨sS_X3_hearsByAs (Or.inl lk_X3_105) rfl ⟨by decide, by decide⟩, fun _ h => absurd h List.not_mem_nil⟩⟩)
noncomputable def sX3_of_14 (y1 : Int32) (y2 : Int32) (z : mm_S) : Option (Int32 × mm_S) := if y2 = 0 then some ((pX0_kindOf 1 y1 z), z) else if y2 = 1 then some ((pX0_placeOf 1 y1 z), z) else if y2 = 2 then some ((pX0_forceOf 1 y1 z), z) else if y2 = 3 then some ((pX0_carriesOf 1 y1 z), z) else if y2 = 4 then some ((pX3_startsAs (pX0_kindOf 1 y1 z)), z) else if y2 = 5 then some ((pX3_hearsByAs (pX0_kindOf 1 y1 z)), z) else (sX3_finding 0 z).bind fun q2 => some (q2.1, q2.2)
theorem kX3_of_14 (y1 : Int32) (y2 : Int32) (z : mm_S) (oo : mm_R) : mm_Xs (sX3_of_14 y1 y2 z) (fun v => (fun v : Int32 × mm_S => ((some (mm_I v.1), v.2) : mm_R)) v = oo) (fun n => eX3_of_14 n y1 y2 z) oo :=
  xs_row (fun n => qX3_of_14 n y1 y2 z) (xs_if (xs_v fun hc => ⟨0, congrArg some hc⟩) (xs_if (xs_v fun hc => ⟨0, congrArg some hc⟩) (xs_if (xs_v fun hc => ⟨0, congrArg some hc⟩) (xs_if (xs_v fun hc => ⟨0, congrArg some hc⟩) (xs_if (xs_v fun hc => ⟨0, congrArg some hc⟩) (xs_if (xs_v fun hc => ⟨0, congrArg some hc⟩) (xs_bd fun q2 => (xs_v fun hc => ⟨0, congrArg some hc⟩))))))))
noncomputable def sX3_of_0 (x1 : Int32) (x2 : Int32) (z : mm_S) : Option (Int32 × mm_S) := if (pX3_isCrew x1 z) = 0 then (sX3_finding 0 z).bind fun q1 => some (q1.1, q1.2) else (sX3_of_14 x1 x2 z)
theorem kX3_of_0 (x1 : Int32) (x2 : Int32) (z : mm_S) (oo : mm_R) : mm_Xs (sX3_of_0 x1 x2 z) (fun v => (fun v : Int32 × mm_S => ((some (mm_I v.1), v.2) : mm_R)) v = oo) (fun n => eX3_of_0 n x1 x2 z) oo :=
  xs_row (fun n => qX3_of_0 n x1 x2 z) (xs_if (xs_bd fun q1 => (xs_v fun hc => ⟨0, congrArg some hc⟩)) (kX3_of_14 x1 x2 z oo))
noncomputable def sX3_of (x1 : Int32) (x2 : Int32) (z : mm_S) : Option (Int32 × mm_S) := sX3_of_0 x1 x2 z
theorem sp_X3_of (x1 : Int32) (x2 : Int32) (z : mm_S) (hk : ∀ v ∈ [mm_P 3 0, mm_I x1, mm_I x2], mm_ok 46 lyTX 48 17 v) (q : Int32 × mm_S) (hq : sX3_of x1 x2 z = some q) : f_X3_of [mm_P 3 0, mm_I x1, mm_I x2] z (some (mm_I q.1), q.2) := ⟨Nat.le_of_ble_eq_true rfl, kX3_of_0 x1 x2 z _ q hq rfl⟩
noncomputable def clo_X3_of (as : List mm_V) (z : mm_S) (kk : Option mm_V → mm_S → Option mm_R) : Option mm_R := mm_pr as fun t o0 as => bif Nat.beq t 3 then mm_pi as fun a1 as => mm_pi as fun a2 as => (match as with | [] => (sX3_of a1 a2 z).bind fun q => kk (some (mm_I q.1)) q.2 | _ => none) else none
theorem cs_X3_of : mm_cs lyTX 46 48 17 f_X3_of clo_X3_of := by
  intro as z K o hk h
  obtain ⟨t0, o0, r0, rfl, g0⟩ := mm_pr_e h
  obtain ⟨b0, k0⟩ := mm_bif_e g0
  obtain rfl := Nat.eq_of_beq_eq_true b0
  obtain ⟨a1, r1, rfl, g1⟩ := mm_pi_e k0
  obtain ⟨a2, r2, rfl, g2⟩ := mm_pi_e g1
  rcases r2 with _ | ⟨u, w⟩
  rotate_left
  · cases g2
  obtain rfl : o0 = 0 := ok3 (hk (mm_P 3 o0) (by simp))
  obtain ⟨q, hq, hq2⟩ := Option.bind_eq_some_iff.mp g2
  exact ⟨_, _, sp_X3_of a1 a2 z hk q hq, fun v hv => by cases hv; exact Or.inl ⟨_, rfl⟩, hq2⟩
theorem sV_X3_of {own : String} {R : Room} {ar : Nat → Nat} {k : Nat} (hlink : Cond.methodLink own k yX3_of ∈ lw_gd ∨ ∃ host, (own, k, yX3_of, host) ∈ nmA) (har : ar k = 3) (hr : 4 ≤ R.frames ∧ 85 ≤ R.locals) : mm_okV lyTX lyFA lenX snX 46 48 17 roX rsA nfA nmA ssX own R ar k clo_X3_of := by
  refine ⟨yX3_of, cX3_of, 3, some .int, rm_X3_of, f_X3_of, 3, 2, (RX3, TX3, 12), M_X3_of, cs_X3_of, hlink, ⟨wv_X3_of, wz_X3_of, wi_X3_of, wc_X3_of⟩, ⟨by decide +kernel, by decide +kernel, by decide +kernel⟩, har, ⟨rfl, rfl, by decide⟩, ?_, ⟨rfl, rfl, hr.1, hr.2⟩⟩
  intro as z K o h
  obtain ⟨t0, o0, r0, rfl, g0⟩ := mm_pr_e h
  obtain ⟨b0, k0⟩ := mm_bif_e g0
  obtain rfl := Nat.eq_of_beq_eq_true b0
  exact ⟨_, _, rfl⟩
-- X3_change
noncomputable def lV_X3_change : List (Nat × (List mm_V → mm_S → (Option mm_V → mm_S → Option mm_R) → Option mm_R)) := [(59, clo_X3_finding), (87, clo_X3_isCrew)]
noncomputable def mV_X3_change (k : Nat) (as : List mm_V) (z : mm_S) (kk : Option mm_V → mm_S → Option mm_R) : Option mm_R := match mm_at lV_X3_change k with
  | some f => f as z kk
  | none => none
noncomputable def arV_X3_change (k : Nat) : Nat := (mm_at [(59, 2), (87, 2)] k).getD 0
noncomputable def lS_X3_change : List (Nat × (List mm_V → mm_S → (Option mm_V → mm_S → Option mm_R) → Option mm_R)) := [(52, clo_X3_isCell), (76, clo_X3_isKind), (111, clo_X3_exchange), (118, clo_X3_lies)]
noncomputable def mS_X3_change (k : Nat) (as : List mm_V) (z : mm_S) (kk : Option mm_V → mm_S → Option mm_R) : Option mm_R := match mm_at lS_X3_change k with
  | some f => f as z kk
  | none => none
noncomputable def arS_X3_change (k : Nat) : Nat := (mm_at [(52, 1), (76, 1), (111, 3), (118, 3)] k).getD 0
def ct_X3_change : List (Nat × List Nat) := [(14, [0, 1, 2, 3]), (38, [0, 1, 2, 3]), (63, [0, 1, 2, 3]), (91, [0])]
noncomputable def go_X3_change : Nat → mm_K := mm_go (fun k => mm_at flX3 k) (fun k => mm_at clX3 k) (fun k => mm_at glX3 k) arV_X3_change arS_X3_change mV_X3_change mS_X3_change lenX roX snX 4 0 tbX3_change ct_X3_change
noncomputable def eX3_change_0 (n : Nat)  (x1 : Int32) (x2 : Int32) (x3 : Int32) (z : mm_S) : Option mm_R := go_X3_change n 0 [(0, mm_P 3 0), (1, mm_I x1), (2, mm_I x2), (3, mm_I x3)] [] z
noncomputable def eX3_change_14 (n : Nat)  (y1 : Int32) (y2 : Int32) (y3 : Int32) (z : mm_S) : Option mm_R := go_X3_change n 14 [(0, mm_P 3 0), (1, mm_I y1), (2, mm_I y2), (3, mm_I y3)] [] z
noncomputable def eX3_change_38 (n : Nat)  (y1 : Int32) (y2 : Int32) (y3 : Int32) (z : mm_S) : Option mm_R := go_X3_change n 38 [(0, mm_P 3 0), (1, mm_I y1), (2, mm_I y2), (3, mm_I y3)] [] z
noncomputable def eX3_change_63 (n : Nat)  (y1 : Int32) (y2 : Int32) (y3 : Int32) (z : mm_S) : Option mm_R := go_X3_change n 63 [(0, mm_P 3 0), (1, mm_I y1), (2, mm_I y2), (3, mm_I y3)] [] z
noncomputable def eX3_change_91 (n : Nat)  (z : mm_S) : Option mm_R := go_X3_change n 91 [(0, mm_P 3 0)] [] z
set_option maxRecDepth 100000 in
theorem qX3_change_0 (n : Nat)  (x1 : Int32) (x2 : Int32) (x3 : Int32) (z : mm_S) : eX3_change_0 (n + 1) x1 x2 x3 z = (if (pX3_isCrew x1 z) = 0 then (sX3_finding 0 z).bind fun q1 => some (some (mm_I q1.1), q1.2) else eX3_change_14 n x1 x2 x3 z) := rfl
set_option maxRecDepth 100000 in
theorem qX3_change_14 (n : Nat)  (y1 : Int32) (y2 : Int32) (y3 : Int32) (z : mm_S) : eX3_change_14 (n + 1) y1 y2 y3 z = (if y2 = 0 then if (pX3_isKind y3) = 0 then eX3_change_38 n y1 y2 y3 z else let u2 := (tX3_exchange 5 y1 y3 z); some (some (mm_I u2.1), u2.2) else eX3_change_38 n y1 y2 y3 z) := rfl
set_option maxRecDepth 100000 in
theorem qX3_change_38 (n : Nat)  (y1 : Int32) (y2 : Int32) (y3 : Int32) (z : mm_S) : eX3_change_38 (n + 1) y1 y2 y3 z = (if y2 = 1 then if (pX3_isCell y3) = 0 then eX3_change_63 n y1 y2 y3 z else let u3 := (tX3_exchange 6 y1 y3 z); some (some (mm_I u3.1), u3.2) else eX3_change_63 n y1 y2 y3 z) := rfl
set_option maxRecDepth 100000 in
theorem qX3_change_63 (n : Nat)  (y1 : Int32) (y2 : Int32) (y3 : Int32) (z : mm_S) : eX3_change_63 (n + 1) y1 y2 y3 z = (if y2 = 2 then if (pX3_lies y3 1 20) = 0 then eX3_change_91 n  z else let u4 := (tX3_exchange 7 y1 y3 z); some (some (mm_I u4.1), u4.2) else eX3_change_91 n  z) := rfl
set_option maxRecDepth 100000 in
theorem qX3_change_91 (n : Nat)  (z : mm_S) : eX3_change_91 (n + 1)  z = ((sX3_finding 0 z).bind fun q5 => some (some (mm_I q5.1), q5.2)) := rfl
def rm_X3_change : Room := { frames := 2, cells := 0, slots := 0, locals := 44 }
noncomputable def f_X3_change (as : List mm_V) (z : mm_S) (o : mm_R) : Prop := (as.map mm_cat).sum ≤ 4 ∧ ∃ n, go_X3_change n 0 (mm_ar 0 as) [] z = some o
theorem M_X3_change : mm_M lyTX lyFA lenX snX 46 48 17 roX rsA nfA nmA ssX yX3_change cX3_change 4 (some .int) rm_X3_change f_X3_change :=
  mm_met (rt := 0) (by decide +kernel) ⟨fun h => rfl, fun h => absurd h (by decide), fun h => absurd h (by decide), fun h => absurd h (by decide)⟩ tbX3_change_ok hsnX okFX3 okLX3 okGX3 (fun _ _ _ _ => rfl) (fun _ _ _ _ => rfl) (List.forall_mem_cons.mpr ⟨sV_X3_finding (Or.inl lk_X3_59) rfl ⟨by decide, by decide⟩, List.forall_mem_cons.mpr ⟨sV_X3_isCrew (Or.inl lk_X3_87) rfl ⟨by decide, by decide⟩, fun _ h => absurd h List.not_mem_nil⟩⟩) (List.forall_mem_cons.mpr ⟨sS_X3_isCell (Or.inl lk_X3_52) rfl ⟨by decide, by decide⟩, List.forall_mem_cons.mpr ⟨sS_X3_isKind (Or.inl lk_X3_76) rfl ⟨by decide, by decide⟩, List.forall_mem_cons.mpr ⟨sS_X3_exchange (Or.inl lk_X3_111) rfl ⟨by decide, by decide⟩, List.forall_mem_cons.mpr ⟨sS_X3_lies (Or.inl lk_X3_118) rfl ⟨by decide, by decide⟩, fun _ h => absurd h List.not_mem_nil⟩⟩⟩⟩)
noncomputable def sX3_change_91  (z : mm_S) : Option (Int32 × mm_S) := (sX3_finding 0 z).bind fun q5 => some (q5.1, q5.2)
theorem kX3_change_91  (z : mm_S) (oo : mm_R) : mm_Xs (sX3_change_91  z) (fun v => (fun v : Int32 × mm_S => ((some (mm_I v.1), v.2) : mm_R)) v = oo) (fun n => eX3_change_91 n  z) oo :=
  xs_row (fun n => qX3_change_91 n z) (xs_bd fun q5 => (xs_v fun hc => ⟨0, congrArg some hc⟩))
noncomputable def sX3_change_63 (y1 : Int32) (y2 : Int32) (y3 : Int32) (z : mm_S) : Option (Int32 × mm_S) := if y2 = 2 then if (pX3_lies y3 1 20) = 0 then (sX3_change_91 z) else let u4 := (tX3_exchange 7 y1 y3 z); some (u4.1, u4.2) else (sX3_change_91 z)
theorem kX3_change_63 (y1 : Int32) (y2 : Int32) (y3 : Int32) (z : mm_S) (oo : mm_R) : mm_Xs (sX3_change_63 y1 y2 y3 z) (fun v => (fun v : Int32 × mm_S => ((some (mm_I v.1), v.2) : mm_R)) v = oo) (fun n => eX3_change_63 n y1 y2 y3 z) oo :=
  xs_row (fun n => qX3_change_63 n y1 y2 y3 z) (xs_if (xs_if (kX3_change_91 z oo) (xs_let ((tX3_exchange 7 y1 y3 z)) (S := fun (u4 : _) => (some (u4.1, u4.2) : Option (Int32 × mm_S))) (T := fun (u4 : _) n => some (some (mm_I u4.1), u4.2)) (fun u4 => (xs_v fun hc => ⟨0, congrArg some hc⟩)))) (kX3_change_91 z oo))
noncomputable def sX3_change_38 (y1 : Int32) (y2 : Int32) (y3 : Int32) (z : mm_S) : Option (Int32 × mm_S) := if y2 = 1 then if (pX3_isCell y3) = 0 then (sX3_change_63 y1 y2 y3 z) else let u3 := (tX3_exchange 6 y1 y3 z); some (u3.1, u3.2) else (sX3_change_63 y1 y2 y3 z)
theorem kX3_change_38 (y1 : Int32) (y2 : Int32) (y3 : Int32) (z : mm_S) (oo : mm_R) : mm_Xs (sX3_change_38 y1 y2 y3 z) (fun v => (fun v : Int32 × mm_S => ((some (mm_I v.1), v.2) : mm_R)) v = oo) (fun n => eX3_change_38 n y1 y2 y3 z) oo :=
  xs_row (fun n => qX3_change_38 n y1 y2 y3 z) (xs_if (xs_if (kX3_change_63 y1 y2 y3 z oo) (xs_let ((tX3_exchange 6 y1 y3 z)) (S := fun (u3 : _) => (some (u3.1, u3.2) : Option (Int32 × mm_S))) (T := fun (u3 : _) n => some (some (mm_I u3.1), u3.2)) (fun u3 => (xs_v fun hc => ⟨0, congrArg some hc⟩)))) (kX3_change_63 y1 y2 y3 z oo))
noncomputable def sX3_change_14 (y1 : Int32) (y2 : Int32) (y3 : Int32) (z : mm_S) : Option (Int32 × mm_S) := if y2 = 0 then if (pX3_isKind y3) = 0 then (sX3_change_38 y1 y2 y3 z) else let u2 := (tX3_exchange 5 y1 y3 z); some (u2.1, u2.2) else (sX3_change_38 y1 y2 y3 z)
theorem kX3_change_14 (y1 : Int32) (y2 : Int32) (y3 : Int32) (z : mm_S) (oo : mm_R) : mm_Xs (sX3_change_14 y1 y2 y3 z) (fun v => (fun v : Int32 × mm_S => ((some (mm_I v.1), v.2) : mm_R)) v = oo) (fun n => eX3_change_14 n y1 y2 y3 z) oo :=
  xs_row (fun n => qX3_change_14 n y1 y2 y3 z) (xs_if (xs_if (kX3_change_38 y1 y2 y3 z oo) (xs_let ((tX3_exchange 5 y1 y3 z)) (S := fun (u2 : _) => (some (u2.1, u2.2) : Option (Int32 × mm_S))) (T := fun (u2 : _) n => some (some (mm_I u2.1), u2.2)) (fun u2 => (xs_v fun hc => ⟨0, congrArg some hc⟩)))) (kX3_change_38 y1 y2 y3 z oo))
noncomputable def sX3_change_0 (x1 : Int32) (x2 : Int32) (x3 : Int32) (z : mm_S) : Option (Int32 × mm_S) := if (pX3_isCrew x1 z) = 0 then (sX3_finding 0 z).bind fun q1 => some (q1.1, q1.2) else (sX3_change_14 x1 x2 x3 z)
theorem kX3_change_0 (x1 : Int32) (x2 : Int32) (x3 : Int32) (z : mm_S) (oo : mm_R) : mm_Xs (sX3_change_0 x1 x2 x3 z) (fun v => (fun v : Int32 × mm_S => ((some (mm_I v.1), v.2) : mm_R)) v = oo) (fun n => eX3_change_0 n x1 x2 x3 z) oo :=
  xs_row (fun n => qX3_change_0 n x1 x2 x3 z) (xs_if (xs_bd fun q1 => (xs_v fun hc => ⟨0, congrArg some hc⟩)) (kX3_change_14 x1 x2 x3 z oo))
noncomputable def sX3_change (x1 : Int32) (x2 : Int32) (x3 : Int32) (z : mm_S) : Option (Int32 × mm_S) := sX3_change_0 x1 x2 x3 z
theorem sp_X3_change (x1 : Int32) (x2 : Int32) (x3 : Int32) (z : mm_S) (hk : ∀ v ∈ [mm_P 3 0, mm_I x1, mm_I x2, mm_I x3], mm_ok 46 lyTX 48 17 v) (q : Int32 × mm_S) (hq : sX3_change x1 x2 x3 z = some q) : f_X3_change [mm_P 3 0, mm_I x1, mm_I x2, mm_I x3] z (some (mm_I q.1), q.2) := ⟨Nat.le_of_ble_eq_true rfl, kX3_change_0 x1 x2 x3 z _ q hq rfl⟩
noncomputable def clo_X3_change (as : List mm_V) (z : mm_S) (kk : Option mm_V → mm_S → Option mm_R) : Option mm_R := mm_pr as fun t o0 as => bif Nat.beq t 3 then mm_pi as fun a1 as => mm_pi as fun a2 as => mm_pi as fun a3 as => (match as with | [] => (sX3_change a1 a2 a3 z).bind fun q => kk (some (mm_I q.1)) q.2 | _ => none) else none
theorem cs_X3_change : mm_cs lyTX 46 48 17 f_X3_change clo_X3_change := by
  intro as z K o hk h
  obtain ⟨t0, o0, r0, rfl, g0⟩ := mm_pr_e h
  obtain ⟨b0, k0⟩ := mm_bif_e g0
  obtain rfl := Nat.eq_of_beq_eq_true b0
  obtain ⟨a1, r1, rfl, g1⟩ := mm_pi_e k0
  obtain ⟨a2, r2, rfl, g2⟩ := mm_pi_e g1
  obtain ⟨a3, r3, rfl, g3⟩ := mm_pi_e g2
  rcases r3 with _ | ⟨u, w⟩
  rotate_left
  · cases g3
  obtain rfl : o0 = 0 := ok3 (hk (mm_P 3 o0) (by simp))
  obtain ⟨q, hq, hq2⟩ := Option.bind_eq_some_iff.mp g3
  exact ⟨_, _, sp_X3_change a1 a2 a3 z hk q hq, fun v hv => by cases hv; exact Or.inl ⟨_, rfl⟩, hq2⟩
theorem sV_X3_change {own : String} {R : Room} {ar : Nat → Nat} {k : Nat} (hlink : Cond.methodLink own k yX3_change ∈ lw_gd ∨ ∃ host, (own, k, yX3_change, host) ∈ nmA) (har : ar k = 4) (hr : 3 ≤ R.frames ∧ 67 ≤ R.locals) : mm_okV lyTX lyFA lenX snX 46 48 17 roX rsA nfA nmA ssX own R ar k clo_X3_change := by
  refine ⟨yX3_change, cX3_change, 4, some .int, rm_X3_change, f_X3_change, 3, 3, (RX3, TX3, 12), M_X3_change, cs_X3_change, hlink, ⟨wv_X3_change, wz_X3_change, wi_X3_change, wc_X3_change⟩, ⟨by decide +kernel, by decide +kernel, by decide +kernel⟩, har, ⟨rfl, rfl, by decide⟩, ?_, ⟨rfl, rfl, hr.1, hr.2⟩⟩
  intro as z K o h
  obtain ⟨t0, o0, r0, rfl, g0⟩ := mm_pr_e h
  obtain ⟨b0, k0⟩ := mm_bif_e g0
  obtain rfl := Nat.eq_of_beq_eq_true b0
  exact ⟨_, _, rfl⟩
-- X3_cells
noncomputable def lV_X3_cells : List (Nat × (List mm_V → mm_S → (Option mm_V → mm_S → Option mm_R) → Option mm_R)) := [(59, clo_X3_finding), (125, clo_X1_cellsOf)]
noncomputable def mV_X3_cells (k : Nat) (as : List mm_V) (z : mm_S) (kk : Option mm_V → mm_S → Option mm_R) : Option mm_R := match mm_at lV_X3_cells k with
  | some f => f as z kk
  | none => none
noncomputable def arV_X3_cells (k : Nat) : Nat := (mm_at [(59, 2), (125, 2)] k).getD 0
noncomputable def lS_X3_cells : List (Nat × (List mm_V → mm_S → (Option mm_V → mm_S → Option mm_R) → Option mm_R)) := [(56, clo_X3_isStuff)]
noncomputable def mS_X3_cells (k : Nat) (as : List mm_V) (z : mm_S) (kk : Option mm_V → mm_S → Option mm_R) : Option mm_R := match mm_at lS_X3_cells k with
  | some f => f as z kk
  | none => none
noncomputable def arS_X3_cells (k : Nat) : Nat := (mm_at [(56, 1)] k).getD 0
def ct_X3_cells : List (Nat × List Nat) := []
noncomputable def go_X3_cells : Nat → mm_K := mm_go (fun k => mm_at flX3 k) (fun k => mm_at clX3 k) (fun k => mm_at glX3 k) arV_X3_cells arS_X3_cells mV_X3_cells mS_X3_cells lenX roX snX 2 2 tbX3_cells ct_X3_cells
noncomputable def eX3_cells_0 (n : Nat)  (x1 : Int32) (z : mm_S) : Option mm_R := go_X3_cells n 0 [(0, mm_P 3 0), (1, mm_I x1)] [] z
set_option maxRecDepth 100000 in
theorem qX3_cells_0 (n : Nat)  (x1 : Int32) (z : mm_S) : eX3_cells_0 (n + 1) x1 z = (if (pX3_isStuff x1) = 0 then (sX3_finding 0 z).bind fun q1 => some (some (mm_J (Int32.toInt64 q1.1)), q1.2) else some (some (mm_J (pX1_cellsOf 2 x1 z)), z)) := rfl
def rm_X3_cells : Room := { frames := 2, cells := 0, slots := 0, locals := 44 }
noncomputable def f_X3_cells (as : List mm_V) (z : mm_S) (o : mm_R) : Prop := (as.map mm_cat).sum ≤ 2 ∧ ∃ n, go_X3_cells n 0 (mm_ar 0 as) [] z = some o
theorem M_X3_cells : mm_M lyTX lyFA lenX snX 46 48 17 roX rsA nfA nmA ssX yX3_cells cX3_cells 2 (some .long) rm_X3_cells f_X3_cells :=
  mm_met (rt := 2) (by decide +kernel) ⟨fun h => absurd h (by decide), fun h => absurd h (by decide), fun h => rfl, fun h => absurd h (by decide)⟩ tbX3_cells_ok hsnX okFX3 okLX3 okGX3 (fun _ _ _ _ => rfl) (fun _ _ _ _ => rfl) (List.forall_mem_cons.mpr ⟨sV_X3_finding (Or.inl lk_X3_59) rfl ⟨by decide, by decide⟩, List.forall_mem_cons.mpr ⟨sV_X1_cellsOf (Or.inl lk_X3_125) rfl ⟨by decide, by decide⟩, fun _ h => absurd h List.not_mem_nil⟩⟩) (List.forall_mem_cons.mpr ⟨sS_X3_isStuff (Or.inl lk_X3_56) rfl ⟨by decide, by decide⟩, fun _ h => absurd h List.not_mem_nil⟩)
noncomputable def sX3_cells_0 (x1 : Int32) (z : mm_S) : Option (Int64 × mm_S) := if (pX3_isStuff x1) = 0 then (sX3_finding 0 z).bind fun q1 => some ((Int32.toInt64 q1.1), q1.2) else some ((pX1_cellsOf 2 x1 z), z)
theorem kX3_cells_0 (x1 : Int32) (z : mm_S) (oo : mm_R) : mm_Xs (sX3_cells_0 x1 z) (fun v => (fun v : Int64 × mm_S => ((some (mm_J v.1), v.2) : mm_R)) v = oo) (fun n => eX3_cells_0 n x1 z) oo :=
  xs_row (fun n => qX3_cells_0 n x1 z) (xs_if (xs_bd fun q1 => (xs_v fun hc => ⟨0, congrArg some hc⟩)) (xs_v fun hc => ⟨0, congrArg some hc⟩))
noncomputable def sX3_cells (x1 : Int32) (z : mm_S) : Option (Int64 × mm_S) := sX3_cells_0 x1 z
theorem sp_X3_cells (x1 : Int32) (z : mm_S) (hk : ∀ v ∈ [mm_P 3 0, mm_I x1], mm_ok 46 lyTX 48 17 v) (q : Int64 × mm_S) (hq : sX3_cells x1 z = some q) : f_X3_cells [mm_P 3 0, mm_I x1] z (some (mm_J q.1), q.2) := ⟨Nat.le_of_ble_eq_true rfl, kX3_cells_0 x1 z _ q hq rfl⟩
noncomputable def clo_X3_cells (as : List mm_V) (z : mm_S) (kk : Option mm_V → mm_S → Option mm_R) : Option mm_R := mm_pr as fun t o0 as => bif Nat.beq t 3 then mm_pi as fun a1 as => (match as with | [] => (sX3_cells a1 z).bind fun q => kk (some (mm_J q.1)) q.2 | _ => none) else none
theorem cs_X3_cells : mm_cs lyTX 46 48 17 f_X3_cells clo_X3_cells := by
  intro as z K o hk h
  obtain ⟨t0, o0, r0, rfl, g0⟩ := mm_pr_e h
  obtain ⟨b0, k0⟩ := mm_bif_e g0
  obtain rfl := Nat.eq_of_beq_eq_true b0
  obtain ⟨a1, r1, rfl, g1⟩ := mm_pi_e k0
  rcases r1 with _ | ⟨u, w⟩
  rotate_left
  · cases g1
  obtain rfl : o0 = 0 := ok3 (hk (mm_P 3 o0) (by simp))
  obtain ⟨q, hq, hq2⟩ := Option.bind_eq_some_iff.mp g1
  exact ⟨_, _, sp_X3_cells a1 z hk q hq, fun v hv => by cases hv; exact Or.inr ⟨_, rfl⟩, hq2⟩
theorem sV_X3_cells {own : String} {R : Room} {ar : Nat → Nat} {k : Nat} (hlink : Cond.methodLink own k yX3_cells ∈ lw_gd ∨ ∃ host, (own, k, yX3_cells, host) ∈ nmA) (har : ar k = 2) (hr : 3 ≤ R.frames ∧ 65 ≤ R.locals) : mm_okV lyTX lyFA lenX snX 46 48 17 roX rsA nfA nmA ssX own R ar k clo_X3_cells := by
  refine ⟨yX3_cells, cX3_cells, 2, some .long, rm_X3_cells, f_X3_cells, 3, 1, (RX3, TX3, 12), M_X3_cells, cs_X3_cells, hlink, ⟨wv_X3_cells, wz_X3_cells, wi_X3_cells, wc_X3_cells⟩, ⟨by decide +kernel, by decide +kernel, by decide +kernel⟩, har, ⟨rfl, rfl, by decide⟩, ?_, ⟨rfl, rfl, hr.1, hr.2⟩⟩
  intro as z K o h
  obtain ⟨t0, o0, r0, rfl, g0⟩ := mm_pr_e h
  obtain ⟨b0, k0⟩ := mm_bif_e g0
  obtain rfl := Nat.eq_of_beq_eq_true b0
  exact ⟨_, _, rfl⟩
