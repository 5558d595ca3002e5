-- X3_unsure
noncomputable def lV_X3_unsure : List (Nat × (List mm_V → mm_S → (Option mm_V → mm_S → Option mm_R) → Option mm_R)) := [(59, clo_X3_finding), (129, clo_X0_isUnsure), (135, clo_X0_addUnsure)]
noncomputable def mV_X3_unsure (k : Nat) (as : List mm_V) (z : mm_S) (kk : Option mm_V → mm_S → Option mm_R) : Option mm_R := match mm_at lV_X3_unsure k with
  | some f => f as z kk
  | none => none
noncomputable def arV_X3_unsure (k : Nat) : Nat := (mm_at [(59, 2), (129, 2), (135, 2)] k).getD 0
noncomputable def lS_X3_unsure : List (Nat × (List mm_V → mm_S → (Option mm_V → mm_S → Option mm_R) → Option mm_R)) := [(52, clo_X3_isCell)]
noncomputable def mS_X3_unsure (k : Nat) (as : List mm_V) (z : mm_S) (kk : Option mm_V → mm_S → Option mm_R) : Option mm_R := match mm_at lS_X3_unsure k with
  | some f => f as z kk
  | none => none
noncomputable def arS_X3_unsure (k : Nat) : Nat := (mm_at [(52, 1)] k).getD 0
def ct_X3_unsure : List (Nat × List Nat) := [(13, [0, 1]), (30, [0, 1]), (47, [0, 1]), (55, [0])]
noncomputable def go_X3_unsure : Nat → mm_K := mm_go (fun k => mm_at flX3 k) (fun k => mm_at clX3 k) (fun k => mm_at glX3 k) arV_X3_unsure arS_X3_unsure mV_X3_unsure mS_X3_unsure lenX roX snX 2 0 tbX3_unsure ct_X3_unsure
noncomputable def eX3_unsure_0 (n : Nat)  (x1 : Int32) (z : mm_S) : Option mm_R := go_X3_unsure n 0 [(0, mm_P 3 0), (1, mm_I x1)] [] z
noncomputable def eX3_unsure_13 (n : Nat)  (y1 : Int32) (z : mm_S) : Option mm_R := go_X3_unsure n 13 [(0, mm_P 3 0), (1, mm_I y1)] [] z
noncomputable def eX3_unsure_30 (n : Nat)  (y1 : Int32) (z : mm_S) : Option mm_R := go_X3_unsure n 30 [(0, mm_P 3 0), (1, mm_I y1)] [] z
noncomputable def eX3_unsure_47 (n : Nat)  (y1 : Int32) (z : mm_S) : Option mm_R := go_X3_unsure n 47 [(0, mm_P 3 0), (1, mm_I y1)] [] z
noncomputable def eX3_unsure_55 (n : Nat)  (z : mm_S) : Option mm_R := go_X3_unsure n 55 [(0, mm_P 3 0)] [] z
set_option maxRecDepth 100000 in
theorem qX3_unsure_0 (n : Nat)  (x1 : Int32) (z : mm_S) : eX3_unsure_0 (n + 1) x1 z = (if (pX3_isCell x1) = 0 then (sX3_finding 0 z).bind fun q1 => some (some (mm_I q1.1), q1.2) else eX3_unsure_13 n x1 z) := rfl
set_option maxRecDepth 100000 in
theorem qX3_unsure_13 (n : Nat)  (y1 : Int32) (z : mm_S) : eX3_unsure_13 (n + 1) y1 z = (if (pX0_isUnsure 1 y1 z) = 0 then eX3_unsure_30 n y1 z else (sX3_finding 4 z).bind fun q2 => some (some (mm_I q2.1), q2.2)) := rfl
set_option maxRecDepth 100000 in
theorem qX3_unsure_30 (n : Nat)  (y1 : Int32) (z : mm_S) : eX3_unsure_30 (n + 1) y1 z = (if (z.1 1 6) < 4 then eX3_unsure_47 n y1 z else (sX3_finding 1 z).bind fun q3 => some (some (mm_I q3.1), q3.2)) := rfl
set_option maxRecDepth 100000 in
theorem qX3_unsure_47 (n : Nat)  (y1 : Int32) (z : mm_S) : eX3_unsure_47 (n + 1) y1 z = (let u4 := (tX0_addUnsure 1 y1 z); eX3_unsure_55 n  u4) := rfl
set_option maxRecDepth 100000 in
theorem qX3_unsure_55 (n : Nat)  (z : mm_S) : eX3_unsure_55 (n + 1)  z = (some (some (mm_I (z.1 1 6)), z)) := rfl
def rm_X3_unsure : Room := { frames := 2, cells := 0, slots := 0, locals := 44 }
noncomputable def f_X3_unsure (as : List mm_V) (z : mm_S) (o : mm_R) : Prop := (as.map mm_cat).sum ≤ 2 ∧ ∃ n, go_X3_unsure n 0 (mm_ar 0 as) [] z = some o
theorem M_X3_unsure : mm_M lyTX lyFA lenX snX 46 48 17 roX rsA nfA nmA ssX yX3_unsure cX3_unsure 2 (some .int) rm_X3_unsure f_X3_unsure :=
  mm_met (rt := 0) (by decide +kernel) ⟨fun h => rfl, fun h => absurd h (by decide), fun h => absurd h (by decide), fun h => absurd h (by decide)⟩ tbX3_unsure_ok hsnX okFX3 okLX3 okGX3 (fun _ _ _ _ => rfl) (fun _ _ _ _ => rfl) (List.forall_mem_cons.mpr ⟨sV_X3_finding (Or.inl lk_X3_59) rfl ⟨by decide, by decide⟩, List.forall_mem_cons.mpr ⟨sV_X0_isUnsure (Or.inl lk_X3_129) rfl ⟨by decide, by decide⟩, List.forall_mem_cons.mpr ⟨sV_X0_addUnsure (Or.inl lk_X3_135) rfl ⟨by decide, by decide⟩, fun _ h => absurd h List.not_mem_nil⟩⟩⟩) (List.forall_mem_cons.mpr ⟨sS_X3_isCell (Or.inl lk_X3_52) rfl ⟨by decide, by decide⟩, fun _ h => absurd h List.not_mem_nil⟩)
noncomputable def sX3_unsure_55  (z : mm_S) : Option (Int32 × mm_S) := some ((z.1 1 6), z)
theorem kX3_unsure_55  (z : mm_S) (oo : mm_R) : mm_Xs (sX3_unsure_55  z) (fun v => (fun v : Int32 × mm_S => ((some (mm_I v.1), v.2) : mm_R)) v = oo) (fun n => eX3_unsure_55 n  z) oo :=
  xs_row (fun n => qX3_unsure_55 n z) (xs_v fun hc => ⟨0, congrArg some hc⟩)
noncomputable def sX3_unsure_47 (y1 : Int32) (z : mm_S) : Option (Int32 × mm_S) := let u4 := (tX0_addUnsure 1 y1 z); (sX3_unsure_55 u4)
theorem kX3_unsure_47 (y1 : Int32) (z : mm_S) (oo : mm_R) : mm_Xs (sX3_unsure_47 y1 z) (fun v => (fun v : Int32 × mm_S => ((some (mm_I v.1), v.2) : mm_R)) v = oo) (fun n => eX3_unsure_47 n y1 z) oo :=
  xs_row (fun n => qX3_unsure_47 n y1 z) (xs_let ((tX0_addUnsure 1 y1 z)) (S := fun (u4 : _) => ((sX3_unsure_55 u4) : Option (Int32 × mm_S))) (T := fun (u4 : _) n => eX3_unsure_55 n  u4) (fun u4 => (kX3_unsure_55 u4 oo)))
noncomputable def sX3_unsure_30 (y1 : Int32) (z : mm_S) : Option (Int32 × mm_S) := if (z.1 1 6) < 4 then (sX3_unsure_47 y1 z) else (sX3_finding 1 z).bind fun q3 => some (q3.1, q3.2)
theorem kX3_unsure_30 (y1 : Int32) (z : mm_S) (oo : mm_R) : mm_Xs (sX3_unsure_30 y1 z) (fun v => (fun v : Int32 × mm_S => ((some (mm_I v.1), v.2) : mm_R)) v = oo) (fun n => eX3_unsure_30 n y1 z) oo :=
  xs_row (fun n => qX3_unsure_30 n y1 z) (xs_if (kX3_unsure_47 y1 z oo) (xs_bd fun q3 => (xs_v fun hc => ⟨0, congrArg some hc⟩)))
noncomputable def sX3_unsure_13 (y1 : Int32) (z : mm_S) : Option (Int32 × mm_S) := if (pX0_isUnsure 1 y1 z) = 0 then (sX3_unsure_30 y1 z) else (sX3_finding 4 z).bind fun q2 => some (q2.1, q2.2)
theorem kX3_unsure_13 (y1 : Int32) (z : mm_S) (oo : mm_R) : mm_Xs (sX3_unsure_13 y1 z) (fun v => (fun v : Int32 × mm_S => ((some (mm_I v.1), v.2) : mm_R)) v = oo) (fun n => eX3_unsure_13 n y1 z) oo :=
  xs_row (fun n => qX3_unsure_13 n y1 z) (xs_if (kX3_unsure_30 y1 z oo) (xs_bd fun q2 => (xs_v fun hc => ⟨0, congrArg some hc⟩)))
noncomputable def sX3_unsure_0 (x1 : Int32) (z : mm_S) : Option (Int32 × mm_S) := if (pX3_isCell x1) = 0 then (sX3_finding 0 z).bind fun q1 => some (q1.1, q1.2) else (sX3_unsure_13 x1 z)
theorem kX3_unsure_0 (x1 : Int32) (z : mm_S) (oo : mm_R) : mm_Xs (sX3_unsure_0 x1 z) (fun v => (fun v : Int32 × mm_S => ((some (mm_I v.1), v.2) : mm_R)) v = oo) (fun n => eX3_unsure_0 n x1 z) oo :=
  xs_row (fun n => qX3_unsure_0 n x1 z) (xs_if (xs_bd fun q1 => (xs_v fun hc => ⟨0, congrArg some hc⟩)) (kX3_unsure_13 x1 z oo))
noncomputable def sX3_unsure (x1 : Int32) (z : mm_S) : Option (Int32 × mm_S) := sX3_unsure_0 x1 z
theorem sp_X3_unsure (x1 : Int32) (z : mm_S) (hk : ∀ v ∈ [mm_P 3 0, mm_I x1], mm_ok 46 lyTX 48 17 v) (q : Int32 × mm_S) (hq : sX3_unsure x1 z = some q) : f_X3_unsure [mm_P 3 0, mm_I x1] z (some (mm_I q.1), q.2) := ⟨Nat.le_of_ble_eq_true rfl, kX3_unsure_0 x1 z _ q hq rfl⟩
noncomputable def clo_X3_unsure (as : List mm_V) (z : mm_S) (kk : Option mm_V → mm_S → Option mm_R) : Option mm_R := mm_pr as fun t o0 as => bif Nat.beq t 3 then mm_pi as fun a1 as => (match as with | [] => (sX3_unsure a1 z).bind fun q => kk (some (mm_I q.1)) q.2 | _ => none) else none
theorem cs_X3_unsure : mm_cs lyTX 46 48 17 f_X3_unsure clo_X3_unsure := by
  intro as z K o hk h
  obtain ⟨t0, o0, r0, rfl, g0⟩ := mm_pr_e h
  obtain ⟨b0, k0⟩ := mm_bif_e g0
  obtain rfl := Nat.eq_of_beq_eq_true b0
  obtain ⟨a1, r1, rfl, g1⟩ := mm_pi_e k0
  rcases r1 with _ | ⟨u, w⟩
  rotate_left
  · cases g1
  obtain rfl : o0 = 0 := ok3 (hk (mm_P 3 o0) (by simp))
  obtain ⟨q, hq, hq2⟩ := Option.bind_eq_some_iff.mp g1
  exact ⟨_, _, sp_X3_unsure a1 z hk q hq, fun v hv => by cases hv; exact Or.inl ⟨_, rfl⟩, hq2⟩
theorem sV_X3_unsure {own : String} {R : Room} {ar : Nat → Nat} {k : Nat} (hlink : Cond.methodLink own k yX3_unsure ∈ lw_gd ∨ ∃ host, (own, k, yX3_unsure, host) ∈ nmA) (har : ar k = 2) (hr : 3 ≤ R.frames ∧ 65 ≤ R.locals) : mm_okV lyTX lyFA lenX snX 46 48 17 roX rsA nfA nmA ssX own R ar k clo_X3_unsure := by
  refine ⟨yX3_unsure, cX3_unsure, 2, some .int, rm_X3_unsure, f_X3_unsure, 3, 1, (RX3, TX3, 12), M_X3_unsure, cs_X3_unsure, hlink, ⟨wv_X3_unsure, wz_X3_unsure, wi_X3_unsure, wc_X3_unsure⟩, ⟨by decide +kernel, by decide +kernel, by decide +kernel⟩, har, ⟨rfl, rfl, by decide⟩, ?_, ⟨rfl, rfl, hr.1, hr.2⟩⟩
  intro as z K o h
  obtain ⟨t0, o0, r0, rfl, g0⟩ := mm_pr_e h
  obtain ⟨b0, k0⟩ := mm_bif_e g0
  obtain rfl := Nat.eq_of_beq_eq_true b0
  exact ⟨_, _, rfl⟩
-- X3_sure
noncomputable def lV_X3_sure : List (Nat × (List mm_V → mm_S → (Option mm_V → mm_S → Option mm_R) → Option mm_R)) := []
noncomputable def mV_X3_sure (k : Nat) (as : List mm_V) (z : mm_S) (kk : Option mm_V → mm_S → Option mm_R) : Option mm_R := match mm_at lV_X3_sure k with
  | some f => f as z kk
  | none => none
noncomputable def arV_X3_sure (k : Nat) : Nat := (mm_at [] k).getD 0
noncomputable def lS_X3_sure : List (Nat × (List mm_V → mm_S → (Option mm_V → mm_S → Option mm_R) → Option mm_R)) := []
noncomputable def mS_X3_sure (k : Nat) (as : List mm_V) (z : mm_S) (kk : Option mm_V → mm_S → Option mm_R) : Option mm_R := match mm_at lS_X3_sure k with
  | some f => f as z kk
  | none => none
noncomputable def arS_X3_sure (k : Nat) : Nat := (mm_at [] k).getD 0
def ct_X3_sure : List (Nat × List Nat) := [(16, [1])]
noncomputable def go_X3_sure : Nat → mm_K := mm_go (fun k => mm_at flX3 k) (fun k => mm_at clX3 k) (fun k => mm_at glX3 k) arV_X3_sure arS_X3_sure mV_X3_sure mS_X3_sure lenX roX snX 2 0 tbX3_sure ct_X3_sure
noncomputable def eX3_sure_0 (n : Nat)  (z : mm_S) : Option mm_R := go_X3_sure n 0 [(0, mm_P 3 0)] [] z
noncomputable def eX3_sure_16 (n : Nat) (y1 : Int32) (z : mm_S) : Option mm_R := go_X3_sure n 16 [(1, mm_I y1)] [] z
set_option maxRecDepth 100000 in
theorem qX3_sure_0 (n : Nat)  (z : mm_S) : eX3_sure_0 (n + 1)  z = (eX3_sure_16 n (z.1 1 6) ((mm_ui z.1 1 6 0), z.2)) := rfl
set_option maxRecDepth 100000 in
theorem qX3_sure_16 (n : Nat) (y1 : Int32) (z : mm_S) : eX3_sure_16 (n + 1) y1 z = (some (some (mm_I y1), z)) := rfl
def rm_X3_sure : Room := { frames := 0, cells := 0, slots := 0, locals := 0 }
noncomputable def f_X3_sure (as : List mm_V) (z : mm_S) (o : mm_R) : Prop := (as.map mm_cat).sum ≤ 2 ∧ ∃ n, go_X3_sure n 0 (mm_ar 0 as) [] z = some o
theorem M_X3_sure : mm_M lyTX lyFA lenX snX 46 48 17 roX rsA nfA nmA ssX yX3_sure cX3_sure 2 (some .int) rm_X3_sure f_X3_sure :=
  mm_met (rt := 0) (by decide +kernel) ⟨fun h => rfl, fun h => absurd h (by decide), fun h => absurd h (by decide), fun h => absurd h (by decide)⟩ tbX3_sure_ok hsnX okFX3 okLX3 okGX3 (fun _ _ _ _ => rfl) (fun _ _ _ _ => rfl) (fun _ h => absurd h List.not_mem_nil) (fun _ h => absurd h List.not_mem_nil)
noncomputable def sX3_sure_16 (y1 : Int32) (z : mm_S) : Option (Int32 × mm_S) := some (y1, z)
theorem kX3_sure_16 (y1 : Int32) (z : mm_S) (oo : mm_R) : mm_Xs (sX3_sure_16 y1 z) (fun v => (fun v : Int32 × mm_S => ((some (mm_I v.1), v.2) : mm_R)) v = oo) (fun n => eX3_sure_16 n y1 z) oo :=
  xs_row (fun n => qX3_sure_16 n y1 z) (xs_v fun hc => ⟨0, congrArg some hc⟩)
noncomputable def sX3_sure_0  (z : mm_S) : Option (Int32 × mm_S) := (sX3_sure_16 (z.1 1 6) ((mm_ui z.1 1 6 0), z.2))
theorem kX3_sure_0  (z : mm_S) (oo : mm_R) : mm_Xs (sX3_sure_0  z) (fun v => (fun v : Int32 × mm_S => ((some (mm_I v.1), v.2) : mm_R)) v = oo) (fun n => eX3_sure_0 n  z) oo :=
  xs_row (fun n => qX3_sure_0 n z) (kX3_sure_16 (z.1 1 6) ((mm_ui z.1 1 6 0), z.2) oo)
noncomputable def sX3_sure  (z : mm_S) : Option (Int32 × mm_S) := sX3_sure_0  z
theorem sp_X3_sure  (z : mm_S) (hk : ∀ v ∈ [mm_P 3 0], mm_ok 46 lyTX 48 17 v) (q : Int32 × mm_S) (hq : sX3_sure  z = some q) : f_X3_sure [mm_P 3 0] z (some (mm_I q.1), q.2) := ⟨Nat.le_of_ble_eq_true rfl, kX3_sure_0  z _ q hq rfl⟩
noncomputable def clo_X3_sure (as : List mm_V) (z : mm_S) (kk : Option mm_V → mm_S → Option mm_R) : Option mm_R := mm_pr as fun t o0 as => bif Nat.beq t 3 then (match as with | [] => (sX3_sure z).bind fun q => kk (some (mm_I q.1)) q.2 | _ => none) else none
theorem cs_X3_sure : mm_cs lyTX 46 48 17 f_X3_sure clo_X3_sure := by
  intro as z K o hk h
  obtain ⟨t0, o0, r0, rfl, g0⟩ := mm_pr_e h
  obtain ⟨b0, k0⟩ := mm_bif_e g0
  obtain rfl := Nat.eq_of_beq_eq_true b0
  rcases r0 with _ | ⟨u, w⟩
  rotate_left
  · cases k0
  obtain rfl : o0 = 0 := ok3 (hk (mm_P 3 o0) (by simp))
  obtain ⟨q, hq, hq2⟩ := Option.bind_eq_some_iff.mp k0
  exact ⟨_, _, sp_X3_sure  z hk q hq, fun v hv => by cases hv; exact Or.inl ⟨_, rfl⟩, hq2⟩
theorem sV_X3_sure {own : String} {R : Room} {ar : Nat → Nat} {k : Nat} (hlink : Cond.methodLink own k yX3_sure ∈ lw_gd ∨ ∃ host, (own, k, yX3_sure, host) ∈ nmA) (har : ar k = 1) (hr : 1 ≤ R.frames ∧ 21 ≤ R.locals) : mm_okV lyTX lyFA lenX snX 46 48 17 roX rsA nfA nmA ssX own R ar k clo_X3_sure := by
  refine ⟨yX3_sure, cX3_sure, 2, some .int, rm_X3_sure, f_X3_sure, 3, 0, (RX3, TX3, 12), M_X3_sure, cs_X3_sure, hlink, ⟨wv_X3_sure, wz_X3_sure, wi_X3_sure, wc_X3_sure⟩, ⟨by decide +kernel, by decide +kernel, by decide +kernel⟩, har, ⟨rfl, rfl, by decide⟩, ?_, ⟨rfl, rfl, hr.1, hr.2⟩⟩
  intro as z K o h
  obtain ⟨t0, o0, r0, rfl, g0⟩ := mm_pr_e h
  obtain ⟨b0, k0⟩ := mm_bif_e g0
  obtain rfl := Nat.eq_of_beq_eq_true b0
  exact ⟨_, _, rfl⟩
-- X3_orNone
noncomputable def lV_X3_orNone : List (Nat × (List mm_V → mm_S → (Option mm_V → mm_S → Option mm_R) → Option mm_R)) := [(59, clo_X3_finding)]
noncomputable def mV_X3_orNone (k : Nat) (as : List mm_V) (z : mm_S) (kk : Option mm_V → mm_S → Option mm_R) : Option mm_R := match mm_at lV_X3_orNone k with
  | some f => f as z kk
  | none => none
noncomputable def arV_X3_orNone (k : Nat) : Nat := (mm_at [(59, 2)] k).getD 0
noncomputable def lS_X3_orNone : List (Nat × (List mm_V → mm_S → (Option mm_V → mm_S → Option mm_R) → Option mm_R)) := []
noncomputable def mS_X3_orNone (k : Nat) (as : List mm_V) (z : mm_S) (kk : Option mm_V → mm_S → Option mm_R) : Option mm_R := match mm_at lS_X3_orNone k with
  | some f => f as z kk
  | none => none
noncomputable def arS_X3_orNone (k : Nat) : Nat := (mm_at [] k).getD 0
def ct_X3_orNone : List (Nat × List Nat) := [(13, [1])]
noncomputable def go_X3_orNone : Nat → mm_K := mm_go (fun k => mm_at flX3 k) (fun k => mm_at clX3 k) (fun k => mm_at glX3 k) arV_X3_orNone arS_X3_orNone mV_X3_orNone mS_X3_orNone lenX roX snX 2 0 tbX3_orNone ct_X3_orNone
noncomputable def eX3_orNone_0 (n : Nat)  (x1 : Int32) (z : mm_S) : Option mm_R := go_X3_orNone n 0 [(0, mm_P 3 0), (1, mm_I x1)] [] z
noncomputable def eX3_orNone_13 (n : Nat) (y1 : Int32) (z : mm_S) : Option mm_R := go_X3_orNone n 13 [(1, mm_I y1)] [] z
set_option maxRecDepth 100000 in
theorem qX3_orNone_0 (n : Nat)  (x1 : Int32) (z : mm_S) : eX3_orNone_0 (n + 1) x1 z = (if x1 = (-1) then (sX3_finding 3 z).bind fun q1 => some (some (mm_I q1.1), q1.2) else eX3_orNone_13 n x1 z) := rfl
set_option maxRecDepth 100000 in
theorem qX3_orNone_13 (n : Nat) (y1 : Int32) (z : mm_S) : eX3_orNone_13 (n + 1) y1 z = (some (some (mm_I y1), z)) := rfl
def rm_X3_orNone : Room := { frames := 2, cells := 0, slots := 0, locals := 44 }
noncomputable def f_X3_orNone (as : List mm_V) (z : mm_S) (o : mm_R) : Prop := (as.map mm_cat).sum ≤ 2 ∧ ∃ n, go_X3_orNone n 0 (mm_ar 0 as) [] z = some o
theorem M_X3_orNone : mm_M lyTX lyFA lenX snX 46 48 17 roX rsA nfA nmA ssX yX3_orNone cX3_orNone 2 (some .int) rm_X3_orNone f_X3_orNone :=
  mm_met (rt := 0) (by decide +kernel) ⟨fun h => rfl, fun h => absurd h (by decide), fun h => absurd h (by decide), fun h => absurd h (by decide)⟩ tbX3_orNone_ok hsnX okFX3 okLX3 okGX3 (fun _ _ _ _ => rfl) (fun _ _ _ _ => rfl) (List.forall_mem_cons.mpr ⟨sV_X3_finding (Or.inl lk_X3_59) rfl ⟨by decide, by decide⟩, fun _ h => absurd h List.not_mem_nil⟩) (fun _ h => absurd h List.not_mem_nil)
noncomputable def sX3_orNone_13 (y1 : Int32) (z : mm_S) : Option (Int32 × mm_S) := some (y1, z)
theorem kX3_orNone_13 (y1 : Int32) (z : mm_S) (oo : mm_R) : mm_Xs (sX3_orNone_13 y1 z) (fun v => (fun v : Int32 × mm_S => ((some (mm_I v.1), v.2) : mm_R)) v = oo) (fun n => eX3_orNone_13 n y1 z) oo :=
  xs_row (fun n => qX3_orNone_13 n y1 z) (xs_v fun hc => ⟨0, congrArg some hc⟩)
noncomputable def sX3_orNone_0 (x1 : Int32) (z : mm_S) : Option (Int32 × mm_S) := if x1 = (-1) then (sX3_finding 3 z).bind fun q1 => some (q1.1, q1.2) else (sX3_orNone_13 x1 z)
theorem kX3_orNone_0 (x1 : Int32) (z : mm_S) (oo : mm_R) : mm_Xs (sX3_orNone_0 x1 z) (fun v => (fun v : Int32 × mm_S => ((some (mm_I v.1), v.2) : mm_R)) v = oo) (fun n => eX3_orNone_0 n x1 z) oo :=
  xs_row (fun n => qX3_orNone_0 n x1 z) (xs_if (xs_bd fun q1 => (xs_v fun hc => ⟨0, congrArg some hc⟩)) (kX3_orNone_13 x1 z oo))
noncomputable def sX3_orNone (x1 : Int32) (z : mm_S) : Option (Int32 × mm_S) := sX3_orNone_0 x1 z
theorem sp_X3_orNone (x1 : Int32) (z : mm_S) (hk : ∀ v ∈ [mm_P 3 0, mm_I x1], mm_ok 46 lyTX 48 17 v) (q : Int32 × mm_S) (hq : sX3_orNone x1 z = some q) : f_X3_orNone [mm_P 3 0, mm_I x1] z (some (mm_I q.1), q.2) := ⟨Nat.le_of_ble_eq_true rfl, kX3_orNone_0 x1 z _ q hq rfl⟩
noncomputable def clo_X3_orNone (as : List mm_V) (z : mm_S) (kk : Option mm_V → mm_S → Option mm_R) : Option mm_R := mm_pr as fun t o0 as => bif Nat.beq t 3 then mm_pi as fun a1 as => (match as with | [] => (sX3_orNone a1 z).bind fun q => kk (some (mm_I q.1)) q.2 | _ => none) else none
theorem cs_X3_orNone : mm_cs lyTX 46 48 17 f_X3_orNone clo_X3_orNone := by
  intro as z K o hk h
  obtain ⟨t0, o0, r0, rfl, g0⟩ := mm_pr_e h
  obtain ⟨b0, k0⟩ := mm_bif_e g0
  obtain rfl := Nat.eq_of_beq_eq_true b0
  obtain ⟨a1, r1, rfl, g1⟩ := mm_pi_e k0
  rcases r1 with _ | ⟨u, w⟩
  rotate_left
  · cases g1
  obtain rfl : o0 = 0 := ok3 (hk (mm_P 3 o0) (by simp))
  obtain ⟨q, hq, hq2⟩ := Option.bind_eq_some_iff.mp g1
  exact ⟨_, _, sp_X3_orNone a1 z hk q hq, fun v hv => by cases hv; exact Or.inl ⟨_, rfl⟩, hq2⟩
theorem sV_X3_orNone {own : String} {R : Room} {ar : Nat → Nat} {k : Nat} (hlink : Cond.methodLink own k yX3_orNone ∈ lw_gd ∨ ∃ host, (own, k, yX3_orNone, host) ∈ nmA) (har : ar k = 2) (hr : 3 ≤ R.frames ∧ 65 ≤ R.locals) : mm_okV lyTX lyFA lenX snX 46 48 17 roX rsA nfA nmA ssX own R ar k clo_X3_orNone := by
  refine ⟨yX3_orNone, cX3_orNone, 2, some .int, rm_X3_orNone, f_X3_orNone, 3, 1, (RX3, TX3, 12), M_X3_orNone, cs_X3_orNone, hlink, ⟨wv_X3_orNone, wz_X3_orNone, wi_X3_orNone, wc_X3_orNone⟩, ⟨by decide +kernel, by decide +kernel, by decide +kernel⟩, har, ⟨rfl, rfl, by decide⟩, ?_, ⟨rfl, rfl, hr.1, hr.2⟩⟩
  intro as z K o h
  obtain ⟨t0, o0, r0, rfl, g0⟩ := mm_pr_e h
  obtain ⟨b0, k0⟩ := mm_bif_e g0
  obtain rfl := Nat.eq_of_beq_eq_true b0
  exact ⟨_, _, rfl⟩
-- X3_time
noncomputable def lV_X3_time : List (Nat × (List mm_V → mm_S → (Option mm_V → mm_S → Option mm_R) → Option mm_R)) := [(59, clo_X3_finding), (139, clo_X1_timeBetween), (143, clo_X3_orNone)]
noncomputable def mV_X3_time (k : Nat) (as : List mm_V) (z : mm_S) (kk : Option mm_V → mm_S → Option mm_R) : Option mm_R := match mm_at lV_X3_time k with
  | some f => f as z kk
  | none => none
noncomputable def arV_X3_time (k : Nat) : Nat := (mm_at [(59, 2), (139, 3), (143, 2)] k).getD 0
noncomputable def lS_X3_time : List (Nat × (List mm_V → mm_S → (Option mm_V → mm_S → Option mm_R) → Option mm_R)) := [(52, clo_X3_isCell)]
noncomputable def mS_X3_time (k : Nat) (as : List mm_V) (z : mm_S) (kk : Option mm_V → mm_S → Option mm_R) : Option mm_R := match mm_at lS_X3_time k with
  | some f => f as z kk
  | none => none
noncomputable def arS_X3_time (k : Nat) : Nat := (mm_at [(52, 1)] k).getD 0
def ct_X3_time : List (Nat × List Nat) := [(20, [0, 1, 2])]
noncomputable def go_X3_time : Nat → mm_K := mm_go (fun k => mm_at flX3 k) (fun k => mm_at clX3 k) (fun k => mm_at glX3 k) arV_X3_time arS_X3_time mV_X3_time mS_X3_time lenX roX snX 3 0 tbX3_time ct_X3_time
noncomputable def eX3_time_0 (n : Nat)  (x1 : Int32) (x2 : Int32) (z : mm_S) : Option mm_R := go_X3_time n 0 [(0, mm_P 3 0), (1, mm_I x1), (2, mm_I x2)] [] z
noncomputable def eX3_time_20 (n : Nat)  (y1 : Int32) (y2 : Int32) (z : mm_S) : Option mm_R := go_X3_time n 20 [(0, mm_P 3 0), (1, mm_I y1), (2, mm_I y2)] [] z
set_option maxRecDepth 100000 in
theorem qX3_time_0 (n : Nat)  (x1 : Int32) (x2 : Int32) (z : mm_S) : eX3_time_0 (n + 1) x1 x2 z = (if (pX3_isCell x1) = 0 then (sX3_finding 0 z).bind fun q1 => some (some (mm_I q1.1), q1.2) else if (pX3_isCell x2) = 0 then (sX3_finding 0 z).bind fun q2 => some (some (mm_I q2.1), q2.2) else eX3_time_20 n x1 x2 z) := rfl
set_option maxRecDepth 100000 in
theorem qX3_time_20 (n : Nat)  (y1 : Int32) (y2 : Int32) (z : mm_S) : eX3_time_20 (n + 1) y1 y2 z = ((sX1_timeBetween 2 y1 y2 z).bind fun q3 => (sX3_orNone q3.1 q3.2).bind fun q4 => some (some (mm_I q4.1), q4.2)) := rfl
def rm_X3_time : Room := { frames := 3, cells := 0, slots := 0, locals := 80 }
noncomputable def f_X3_time (as : List mm_V) (z : mm_S) (o : mm_R) : Prop := (as.map mm_cat).sum ≤ 3 ∧ ∃ n, go_X3_time n 0 (mm_ar 0 as) [] z = some o
theorem M_X3_time : mm_M lyTX lyFA lenX snX 46 48 17 roX rsA nfA nmA ssX yX3_time cX3_time 3 (some .int) rm_X3_time f_X3_time :=
  mm_met (rt := 0) (by decide +kernel) ⟨fun h => rfl, fun h => absurd h (by decide), fun h => absurd h (by decide), fun h => absurd h (by decide)⟩ tbX3_time_ok hsnX okFX3 okLX3 okGX3 (fun _ _ _ _ => rfl) (fun _ _ _ _ => rfl) (List.forall_mem_cons.mpr ⟨sV_X3_finding (Or.inl lk_X3_59) rfl ⟨by decide, by decide⟩, List.forall_mem_cons.mpr ⟨sV_X1_timeBetween (Or.inl lk_X3_139) rfl ⟨by decide, by decide⟩, List.forall_mem_cons.mpr ⟨sV_X3_orNone (Or.inl lk_X3_143) rfl ⟨by decide, by decide⟩, fun _ h => absurd h List.not_mem_nil⟩⟩⟩) (List.forall_mem_cons.mpr ⟨sS_X3_isCell (Or.inl lk_X3_52) rfl ⟨by decide, by decide⟩, fun _ h => absurd h List.not_mem_nil⟩)
noncomputable def sX3_time_20 (y1 : Int32) (y2 : Int32) (z : mm_S) : Option (Int32 × mm_S) := (sX1_timeBetween 2 y1 y2 z).bind fun q3 => (sX3_orNone q3.1 q3.2).bind fun q4 => some (q4.1, q4.2)
theorem kX3_time_20 (y1 : Int32) (y2 : Int32) (z : mm_S) (oo : mm_R) : mm_Xs (sX3_time_20 y1 y2 z) (fun v => (fun v : Int32 × mm_S => ((some (mm_I v.1), v.2) : mm_R)) v = oo) (fun n => eX3_time_20 n y1 y2 z) oo :=
  xs_row (fun n => qX3_time_20 n y1 y2 z) (xs_bd fun q3 => (xs_bd fun q4 => (xs_v fun hc => ⟨0, congrArg some hc⟩)))
noncomputable def sX3_time_0 (x1 : Int32) (x2 : Int32) (z : mm_S) : Option (Int32 × mm_S) := if (pX3_isCell x1) = 0 then (sX3_finding 0 z).bind fun q1 => some (q1.1, q1.2) else if (pX3_isCell x2) = 0 then (sX3_finding 0 z).bind fun q2 => some (q2.1, q2.2) else (sX3_time_20 x1 x2 z)
theorem kX3_time_0 (x1 : Int32) (x2 : Int32) (z : mm_S) (oo : mm_R) : mm_Xs (sX3_time_0 x1 x2 z) (fun v => (fun v : Int32 × mm_S => ((some (mm_I v.1), v.2) : mm_R)) v = oo) (fun n => eX3_time_0 n x1 x2 z) oo :=
  xs_row (fun n => qX3_time_0 n x1 x2 z) (xs_if (xs_bd fun q1 => (xs_v fun hc => ⟨0, congrArg some hc⟩)) (xs_if (xs_bd fun q2 => (xs_v fun hc => ⟨0, congrArg some hc⟩)) (kX3_time_20 x1 x2 z oo)))
noncomputable def sX3_time (x1 : Int32) (x2 : Int32) (z : mm_S) : Option (Int32 × mm_S) := sX3_time_0 x1 x2 z
theorem sp_X3_time (x1 : Int32) (x2 : Int32) (z : mm_S) (hk : ∀ v ∈ [mm_P 3 0, mm_I x1, mm_I x2], mm_ok 46 lyTX 48 17 v) (q : Int32 × mm_S) (hq : sX3_time x1 x2 z = some q) : f_X3_time [mm_P 3 0, mm_I x1, mm_I x2] z (some (mm_I q.1), q.2) := ⟨Nat.le_of_ble_eq_true rfl, kX3_time_0 x1 x2 z _ q hq rfl⟩
noncomputable def clo_X3_time (as : List mm_V) (z : mm_S) (kk : Option mm_V → mm_S → Option mm_R) : Option mm_R := mm_pr as fun t o0 as => bif Nat.beq t 3 then mm_pi as fun a1 as => mm_pi as fun a2 as => (match as with | [] => (sX3_time a1 a2 z).bind fun q => kk (some (mm_I q.1)) q.2 | _ => none) else none
theorem cs_X3_time : mm_cs lyTX 46 48 17 f_X3_time clo_X3_time := by
  intro as z K o hk h
  obtain ⟨t0, o0, r0, rfl, g0⟩ := mm_pr_e h
  obtain ⟨b0, k0⟩ := mm_bif_e g0
  obtain rfl := Nat.eq_of_beq_eq_true b0
  obtain ⟨a1, r1, rfl, g1⟩ := mm_pi_e k0
  obtain ⟨a2, r2, rfl, g2⟩ := mm_pi_e g1
  rcases r2 with _ | ⟨u, w⟩
  rotate_left
  · cases g2
  obtain rfl : o0 = 0 := ok3 (hk (mm_P 3 o0) (by simp))
  obtain ⟨q, hq, hq2⟩ := Option.bind_eq_some_iff.mp g2
  exact ⟨_, _, sp_X3_time a1 a2 z hk q hq, fun v hv => by cases hv; exact Or.inl ⟨_, rfl⟩, hq2⟩
theorem sV_X3_time {own : String} {R : Room} {ar : Nat → Nat} {k : Nat} (hlink : Cond.methodLink own k yX3_time ∈ lw_gd ∨ ∃ host, (own, k, yX3_time, host) ∈ nmA) (har : ar k = 3) (hr : 4 ≤ R.frames ∧ 102 ≤ R.locals) : mm_okV lyTX lyFA lenX snX 46 48 17 roX rsA nfA nmA ssX own R ar k clo_X3_time := by
  refine ⟨yX3_time, cX3_time, 3, some .int, rm_X3_time, f_X3_time, 3, 2, (RX3, TX3, 12), M_X3_time, cs_X3_time, hlink, ⟨wv_X3_time, wz_X3_time, wi_X3_time, wc_X3_time⟩, ⟨by decide +kernel, by decide +kernel, by decide +kernel⟩, har, ⟨rfl, rfl, by decide⟩, ?_, ⟨rfl, rfl, hr.1, hr.2⟩⟩
  intro as z K o h
  obtain ⟨t0, o0, r0, rfl, g0⟩ := mm_pr_e h
  obtain ⟨b0, k0⟩ := mm_bif_e g0
  obtain rfl := Nat.eq_of_beq_eq_true b0
  exact ⟨_, _, rfl⟩
-- X3_heard
noncomputable def lV_X3_heard : List (Nat × (List mm_V → mm_S → (Option mm_V → mm_S → Option mm_R) → Option mm_R)) := [(59, clo_X3_finding), (87, clo_X3_isCrew), (143, clo_X3_orNone), (146, clo_X0_heardAt)]
noncomputable def mV_X3_heard (k : Nat) (as : List mm_V) (z : mm_S) (kk : Option mm_V → mm_S → Option mm_R) : Option mm_R := match mm_at lV_X3_heard k with
  | some f => f as z kk
  | none => none
noncomputable def arV_X3_heard (k : Nat) : Nat := (mm_at [(59, 2), (87, 2), (143, 2), (146, 3)] k).getD 0
noncomputable def lS_X3_heard : List (Nat × (List mm_V → mm_S → (Option mm_V → mm_S → Option mm_R) → Option mm_R)) := [(52, clo_X3_isCell)]
noncomputable def mS_X3_heard (k : Nat) (as : List mm_V) (z : mm_S) (kk : Option mm_V → mm_S → Option mm_R) : Option mm_R := match mm_at lS_X3_heard k with
  | some f => f as z kk
  | none => none
noncomputable def arS_X3_heard (k : Nat) : Nat := (mm_at [(52, 1)] k).getD 0
def ct_X3_heard : List (Nat × List Nat) := [(21, [0, 1, 2])]
noncomputable def go_X3_heard : Nat → mm_K := mm_go (fun k => mm_at flX3 k) (fun k => mm_at clX3 k) (fun k => mm_at glX3 k) arV_X3_heard arS_X3_heard mV_X3_heard mS_X3_heard lenX roX snX 3 0 tbX3_heard ct_X3_heard
noncomputable def eX3_heard_0 (n : Nat)  (x1 : Int32) (x2 : Int32) (z : mm_S) : Option mm_R := go_X3_heard n 0 [(0, mm_P 3 0), (1, mm_I x1), (2, mm_I x2)] [] z
noncomputable def eX3_heard_21 (n : Nat)  (y1 : Int32) (y2 : Int32) (z : mm_S) : Option mm_R := go_X3_heard n 21 [(0, mm_P 3 0), (1, mm_I y1), (2, mm_I y2)] [] z
set_option maxRecDepth 100000 in
theorem qX3_heard_0 (n : Nat)  (x1 : Int32) (x2 : Int32) (z : mm_S) : eX3_heard_0 (n + 1) x1 x2 z = (if (pX3_isCrew x1 z) = 0 then (sX3_finding 0 z).bind fun q1 => some (some (mm_I q1.1), q1.2) else if (pX3_isCell x2) = 0 then (sX3_finding 0 z).bind fun q2 => some (some (mm_I q2.1), q2.2) else eX3_heard_21 n x1 x2 z) := rfl
set_option maxRecDepth 100000 in
theorem qX3_heard_21 (n : Nat)  (y1 : Int32) (y2 : Int32) (z : mm_S) : eX3_heard_21 (n + 1) y1 y2 z = ((sX0_heardAt 1 y1 y2 z).bind fun q3 => (sX3_orNone q3.1 q3.2).bind fun q4 => some (some (mm_I q4.1), q4.2)) := rfl
def rm_X3_heard : Room := { frames := 5, cells := 0, slots := 0, locals := 107 }
noncomputable def f_X3_heard (as : List mm_V) (z : mm_S) (o : mm_R) : Prop := (as.map mm_cat).sum ≤ 3 ∧ ∃ n, go_X3_heard n 0 (mm_ar 0 as) [] z = some o
theorem M_X3_heard : mm_M lyTX lyFA lenX snX 46 48 17 roX rsA nfA nmA ssX yX3_heard cX3_heard 3 (some .int) rm_X3_heard f_X3_heard :=
  mm_met (rt := 0) (by decide +kernel) ⟨fun h => rfl, fun h => absurd h (by decide), fun h => absurd h (by decide), fun h => absurd h (by decide)⟩ tbX3_heard_ok hsnX okFX3 okLX3 okGX3 (fun _ _ _ _ => rfl) (fun _ _ _ _ => rfl) (List.forall_mem_cons.mpr ⟨sV_X3_finding (Or.inl lk_X3_59) rfl ⟨by decide, by decide⟩, List.forall_mem_cons.mpr ⟨sV_X3_isCrew (Or.inl lk_X3_87) rfl ⟨by decide, by decide⟩, List.forall_mem_cons.mpr ⟨sV_X3_orNone (Or.inl lk_X3_143) rfl ⟨by decide, by decide⟩, List.forall_mem_cons.mpr ⟨sV_X0_heardAt (Or.inl lk_X3_146) rfl ⟨by decide, by decide⟩, fun _ h => absurd h List.not_mem_nil⟩⟩⟩⟩) (List.forall_mem_cons.mpr ⟨sS_X3_isCell (Or.inl lk_X3_52) rfl ⟨by decide, by decide⟩, fun _ h => absurd h List.not_mem_nil⟩)
noncomputable def sX3_heard_21 (y1 : Int32) (y2 : Int32) (z : mm_S) : Option (Int32 × mm_S) := (sX0_heardAt 1 y1 y2 z).bind fun q3 => (sX3_orNone q3.1 q3.2).bind fun q4 => some (q4.1, q4.2)
theorem kX3_heard_21 (y1 : Int32) (y2 : Int32) (z : mm_S) (oo : mm_R) : mm_Xs (sX3_heard_21 y1 y2 z) (fun v => (fun v : Int32 × mm_S => ((some (mm_I v.1), v.2) : mm_R)) v = oo) (fun n => eX3_heard_21 n y1 y2 z) oo :=
  xs_row (fun n => qX3_heard_21 n y1 y2 z) (xs_bd fun q3 => (xs_bd fun q4 => (xs_v fun hc => ⟨0, congrArg some hc⟩)))
noncomputable def sX3_heard_0 (x1 : Int32) (x2 : Int32) (z : mm_S) : Option (Int32 × mm_S) := if (pX3_isCrew x1 z) = 0 then (sX3_finding 0 z).bind fun q1 => some (q1.1, q1.2) else if (pX3_isCell x2) = 0 then (sX3_finding 0 z).bind fun q2 => some (q2.1, q2.2) else (sX3_heard_21 x1 x2 z)
theorem kX3_heard_0 (x1 : Int32) (x2 : Int32) (z : mm_S) (oo : mm_R) : mm_Xs (sX3_heard_0 x1 x2 z) (fun v => (fun v : Int32 × mm_S => ((some (mm_I v.1), v.2) : mm_R)) v = oo) (fun n => eX3_heard_0 n x1 x2 z) oo :=
  xs_row (fun n => qX3_heard_0 n x1 x2 z) (xs_if (xs_bd fun q1 => (xs_v fun hc => ⟨0, congrArg some hc⟩)) (xs_if (xs_bd fun q2 => (xs_v fun hc => ⟨0, congrArg some hc⟩)) (kX3_heard_21 x1 x2 z oo)))
noncomputable def sX3_heard (x1 : Int32) (x2 : Int32) (z : mm_S) : Option (Int32 × mm_S) := sX3_heard_0 x1 x2 z
theorem sp_X3_heard (x1 : Int32) (x2 : Int32) (z : mm_S) (hk : ∀ v ∈ [mm_P 3 0, mm_I x1, mm_I x2], mm_ok 46 lyTX 48 17 v) (q : Int32 × mm_S) (hq : sX3_heard x1 x2 z = some q) : f_X3_heard [mm_P 3 0, mm_I x1, mm_I x2] z (some (mm_I q.1), q.2) := ⟨Nat.le_of_ble_eq_true rfl, kX3_heard_0 x1 x2 z _ q hq rfl⟩
noncomputable def clo_X3_heard (as : List mm_V) (z : mm_S) (kk : Option mm_V → mm_S → Option mm_R) : Option mm_R := mm_pr as fun t o0 as => bif Nat.beq t 3 then mm_pi as fun a1 as => mm_pi as fun a2 as => (match as with | [] => (sX3_heard a1 a2 z).bind fun q => kk (some (mm_I q.1)) q.2 | _ => none) else none
theorem cs_X3_heard : mm_cs lyTX 46 48 17 f_X3_heard clo_X3_heard := by
  intro as z K o hk h
  obtain ⟨t0, o0, r0, rfl, g0⟩ := mm_pr_e h
  obtain ⟨b0, k0⟩ := mm_bif_e g0
  obtain rfl := Nat.eq_of_beq_eq_true b0
  obtain ⟨a1, r1, rfl, g1⟩ := mm_pi_e k0
  obtain ⟨a2, r2, rfl, g2⟩ := mm_pi_e g1
  rcases r2 with _ | ⟨u, w⟩
  rotate_left
  · cases g2
  obtain rfl : o0 = 0 := ok3 (hk (mm_P 3 o0) (by simp))
  obtain ⟨q, hq, hq2⟩ := Option.bind_eq_some_iff.mp g2
  exact ⟨_, _, sp_X3_heard a1 a2 z hk q hq, fun v hv => by cases hv; exact Or.inl ⟨_, rfl⟩, hq2⟩
theorem sV_X3_heard {own : String} {R : Room} {ar : Nat → Nat} {k : Nat} (hlink : Cond.methodLink own k yX3_heard ∈ lw_gd ∨ ∃ host, (own, k, yX3_heard, host) ∈ nmA) (har : ar k = 3) (hr : 6 ≤ R.frames ∧ 129 ≤ R.locals) : mm_okV lyTX lyFA lenX snX 46 48 17 roX rsA nfA nmA ssX own R ar k clo_X3_heard := by
  refine ⟨yX3_heard, cX3_heard, 3, some .int, rm_X3_heard, f_X3_heard, 3, 2, (RX3, TX3, 12), M_X3_heard, cs_X3_heard, hlink, ⟨wv_X3_heard, wz_X3_heard, wi_X3_heard, wc_X3_heard⟩, ⟨by decide +kernel, by decide +kernel, by decide +kernel⟩, har, ⟨rfl, rfl, by decide⟩, ?_, ⟨rfl, rfl, hr.1, hr.2⟩⟩
  intro as z K o h
  obtain ⟨t0, o0, r0, rfl, g0⟩ := mm_pr_e h
  obtain ⟨b0, k0⟩ := mm_bif_e g0
  obtain rfl := Nat.eq_of_beq_eq_true b0
  exact ⟨_, _, rfl⟩
-- X3_reach
noncomputable def lV_X3_reach : List (Nat × (List mm_V → mm_S → (Option mm_V → mm_S → Option mm_R) → Option mm_R)) := [(59, clo_X3_finding), (87, clo_X3_isCrew), (149, clo_X0_reachOf)]
noncomputable def mV_X3_reach (k : Nat) (as : List mm_V) (z : mm_S) (kk : Option mm_V → mm_S → Option mm_R) : Option mm_R := match mm_at lV_X3_reach k with
  | some f => f as z kk
  | none => none
noncomputable def arV_X3_reach (k : Nat) : Nat := (mm_at [(59, 2), (87, 2), (149, 2)] k).getD 0
noncomputable def lS_X3_reach : List (Nat × (List mm_V → mm_S → (Option mm_V → mm_S → Option mm_R) → Option mm_R)) := []
noncomputable def mS_X3_reach (k : Nat) (as : List mm_V) (z : mm_S) (kk : Option mm_V → mm_S → Option mm_R) : Option mm_R := match mm_at lS_X3_reach k with
  | some f => f as z kk
  | none => none
noncomputable def arS_X3_reach (k : Nat) : Nat := (mm_at [] k).getD 0
def ct_X3_reach : List (Nat × List Nat) := [(19, [0])]
noncomputable def go_X3_reach : Nat → mm_K := mm_go (fun k => mm_at flX3 k) (fun k => mm_at clX3 k) (fun k => mm_at glX3 k) arV_X3_reach arS_X3_reach mV_X3_reach mS_X3_reach lenX roX snX 2 2 tbX3_reach ct_X3_reach
noncomputable def eX3_reach_0 (n : Nat)  (x1 : Int32) (z : mm_S) : Option mm_R := go_X3_reach n 0 [(0, mm_P 3 0), (1, mm_I x1)] [] z
noncomputable def eX3_reach_19 (n : Nat)  (z : mm_S) : Option mm_R := go_X3_reach n 19 [(0, mm_P 3 0)] [] z
set_option maxRecDepth 100000 in
theorem qX3_reach_0 (n : Nat)  (x1 : Int32) (z : mm_S) : eX3_reach_0 (n + 1) x1 z = (if (pX3_isCrew x1 z) = 0 then eX3_reach_19 n  z else (sX0_reachOf 1 x1 z).bind fun q1 => some (some (mm_J q1.1), q1.2)) := rfl
set_option maxRecDepth 100000 in
theorem qX3_reach_19 (n : Nat)  (z : mm_S) : eX3_reach_19 (n + 1)  z = ((sX3_finding 0 z).bind fun q2 => some (some (mm_J (Int32.toInt64 q2.1)), q2.2)) := rfl
def rm_X3_reach : Room := { frames := 4, cells := 0, slots := 0, locals := 101 }
noncomputable def f_X3_reach (as : List mm_V) (z : mm_S) (o : mm_R) : Prop := (as.map mm_cat).sum ≤ 2 ∧ ∃ n, go_X3_reach n 0 (mm_ar 0 as) [] z = some o
theorem M_X3_reach : mm_M lyTX lyFA lenX snX 46 48 17 roX rsA nfA nmA ssX yX3_reach cX3_reach 2 (some .long) rm_X3_reach f_X3_reach :=
  mm_met (rt := 2) (by decide +kernel) ⟨fun h => absurd h (by decide), fun h => absurd h (by decide), fun h => rfl, fun h => absurd h (by decide)⟩ tbX3_reach_ok hsnX okFX3 okLX3 okGX3 (fun _ _ _ _ => rfl) (fun _ _ _ _ => rfl) (List.forall_mem_cons.mpr ⟨sV_X3_finding (Or.inl lk_X3_59) rfl ⟨by decide, by decide⟩, List.forall_mem_cons.mpr ⟨sV_X3_isCrew (Or.inl lk_X3_87) rfl ⟨by decide, by decide⟩, List.forall_mem_cons.mpr ⟨sV_X0_reachOf (Or.inl lk_X3_149) rfl ⟨by decide, by decide⟩, fun _ h => absurd h List.not_mem_nil⟩⟩⟩) (fun _ h => absurd h List.not_mem_nil)
noncomputable def sX3_reach_19  (z : mm_S) : Option (Int64 × mm_S) := (sX3_finding 0 z).bind fun q2 => some ((Int32.toInt64 q2.1), q2.2)
theorem kX3_reach_19  (z : mm_S) (oo : mm_R) : mm_Xs (sX3_reach_19  z) (fun v => (fun v : Int64 × mm_S => ((some (mm_J v.1), v.2) : mm_R)) v = oo) (fun n => eX3_reach_19 n  z) oo :=
  xs_row (fun n => qX3_reach_19 n z) (xs_bd fun q2 => (xs_v fun hc => ⟨0, congrArg some hc⟩))
noncomputable def sX3_reach_0 (x1 : Int32) (z : mm_S) : Option (Int64 × mm_S) := if (pX3_isCrew x1 z) = 0 then (sX3_reach_19 z) else (sX0_reachOf 1 x1 z).bind fun q1 => some (q1.1, q1.2)
theorem kX3_reach_0 (x1 : Int32) (z : mm_S) (oo : mm_R) : mm_Xs (sX3_reach_0 x1 z) (fun v => (fun v : Int64 × mm_S => ((some (mm_J v.1), v.2) : mm_R)) v = oo) (fun n => eX3_reach_0 n x1 z) oo :=
  xs_row (fun n => qX3_reach_0 n x1 z) (xs_if (kX3_reach_19 z oo) (xs_bd fun q1 => (xs_v fun hc => ⟨0, congrArg some hc⟩)))
noncomputable def sX3_reach (x1 : Int32) (z : mm_S) : Option (Int64 × mm_S) := sX3_reach_0 x1 z
theorem sp_X3_reach (x1 : Int32) (z : mm_S) (hk : ∀ v ∈ [mm_P 3 0, mm_I x1], mm_ok 46 lyTX 48 17 v) (q : Int64 × mm_S) (hq : sX3_reach x1 z = some q) : f_X3_reach [mm_P 3 0, mm_I x1] z (some (mm_J q.1), q.2) := ⟨Nat.le_of_ble_eq_true rfl, kX3_reach_0 x1 z _ q hq rfl⟩
noncomputable def clo_X3_reach (as : List mm_V) (z : mm_S) (kk : Option mm_V → mm_S → Option mm_R) : Option mm_R := mm_pr as fun t o0 as => bif Nat.beq t 3 then mm_pi as fun a1 as => (match as with | [] => (sX3_reach a1 z).bind fun q => kk (some (mm_J q.1)) q.2 | _ => none) else none
theorem cs_X3_reach : mm_cs lyTX 46 48 17 f_X3_reach clo_X3_reach := by
  intro as z K o hk h
  obtain ⟨t0, o0, r0, rfl, g0⟩ := mm_pr_e h
  obtain ⟨b0, k0⟩ := mm_bif_e g0
  obtain rfl := Nat.eq_of_beq_eq_true b0
  obtain ⟨a1, r1, rfl, g1⟩ := mm_pi_e k0
  rcases r1 with _ | ⟨u, w⟩
  rotate_left
  · cases g1
  obtain rfl : o0 = 0 := ok3 (hk (mm_P 3 o0) (by simp))
  obtain ⟨q, hq, hq2⟩ := Option.bind_eq_some_iff.mp g1
  exact ⟨_, _, sp_X3_reach a1 z hk q hq, fun v hv => by cases hv; exact Or.inr ⟨_, rfl⟩, hq2⟩
theorem sV_X3_reach {own : String} {R : Room} {ar : Nat → Nat} {k : Nat} (hlink : Cond.methodLink own k yX3_reach ∈ lw_gd ∨ ∃ host, (own, k, yX3_reach, host) ∈ nmA) (har : ar k = 2) (hr : 5 ≤ R.frames ∧ 122 ≤ R.locals) : mm_okV lyTX lyFA lenX snX 46 48 17 roX rsA nfA nmA ssX own R ar k clo_X3_reach := by
  refine ⟨yX3_reach, cX3_reach, 2, some .long, rm_X3_reach, f_X3_reach, 3, 1, (RX3, TX3, 12), M_X3_reach, cs_X3_reach, hlink, ⟨wv_X3_reach, wz_X3_reach, wi_X3_reach, wc_X3_reach⟩, ⟨by decide +kernel, by decide +kernel, by decide +kernel⟩, har, ⟨rfl, rfl, by decide⟩, ?_, ⟨rfl, rfl, hr.1, hr.2⟩⟩
  intro as z K o h
  obtain ⟨t0, o0, r0, rfl, g0⟩ := mm_pr_e h
  obtain ⟨b0, k0⟩ := mm_bif_e g0
  obtain rfl := Nat.eq_of_beq_eq_true b0
  exact ⟨_, _, rfl⟩
-- X3_hears
noncomputable def lV_X3_hears : List (Nat × (List mm_V → mm_S → (Option mm_V → mm_S → Option mm_R) → Option mm_R)) := [(59, clo_X3_finding), (87, clo_X3_isCrew), (90, clo_X0_kindOf), (93, clo_X0_placeOf), (146, clo_X0_heardAt)]
noncomputable def mV_X3_hears (k : Nat) (as : List mm_V) (z : mm_S) (kk : Option mm_V → mm_S → Option mm_R) : Option mm_R := match mm_at lV_X3_hears k with
  | some f => f as z kk
  | none => none
noncomputable def arV_X3_hears (k : Nat) : Nat := (mm_at [(59, 2), (87, 2), (90, 2), (93, 2), (146, 3)] k).getD 0
noncomputable def lS_X3_hears : List (Nat × (List mm_V → mm_S → (Option mm_V → mm_S → Option mm_R) → Option mm_R)) := [(105, clo_X3_hearsByAs)]
noncomputable def mS_X3_hears (k : Nat) (as : List mm_V) (z : mm_S) (kk : Option mm_V → mm_S → Option mm_R) : Option mm_R := match mm_at lS_X3_hears k with
  | some f => f as z kk
  | none => none
noncomputable def arS_X3_hears (k : Nat) : Nat := (mm_at [(105, 1)] k).getD 0
def ct_X3_hears : List (Nat × List Nat) := [(14, [0, 1]), (31, [0, 1, 2, 3, 4]), (62, [0, 1, 2, 3, 4, 5])]
noncomputable def go_X3_hears : Nat → mm_K := mm_go (fun k => mm_at flX3 k) (fun k => mm_at clX3 k) (fun k => mm_at glX3 k) arV_X3_hears arS_X3_hears mV_X3_hears mS_X3_hears lenX roX snX 6 0 tbX3_hears ct_X3_hears
noncomputable def eX3_hears_0 (n : Nat)  (x1 : Int32) (z : mm_S) : Option mm_R := go_X3_hears n 0 [(0, mm_P 3 0), (1, mm_I x1)] [] z
noncomputable def eX3_hears_14 (n : Nat)  (y1 : Int32) (z : mm_S) : Option mm_R := go_X3_hears n 14 [(0, mm_P 3 0), (1, mm_I y1)] [] z
noncomputable def eX3_hears_31 (n : Nat)  (y1 : Int32) (y2 : Int32) (y3 : Int32) (y4 : Int32) (z : mm_S) : Option mm_R := go_X3_hears n 31 [(0, mm_P 3 0), (1, mm_I y1), (2, mm_I y2), (3, mm_I y3), (4, mm_I y4)] [] z
noncomputable def eX3_hears_62 (n : Nat)  (y1 : Int32) (y2 : Int32) (y3 : Int32) (y4 : Int32) (y5 : Int32) (z : mm_S) : Option mm_R := go_X3_hears n 62 [(0, mm_P 3 0), (1, mm_I y1), (2, mm_I y2), (3, mm_I y3), (4, mm_I y4), (5, mm_I y5)] [] z
set_option maxRecDepth 100000 in
theorem qX3_hears_0 (n : Nat)  (x1 : Int32) (z : mm_S) : eX3_hears_0 (n + 1) x1 z = (if (pX3_isCrew x1 z) = 0 then (sX3_finding 0 z).bind fun q1 => some (some (mm_I q1.1), q1.2) else eX3_hears_14 n x1 z) := rfl
set_option maxRecDepth 100000 in
theorem qX3_hears_14 (n : Nat)  (y1 : Int32) (z : mm_S) : eX3_hears_14 (n + 1) y1 z = (eX3_hears_31 n y1 (pX3_hearsByAs (pX0_kindOf 1 y1 z)) 0 0 z) := rfl
set_option maxRecDepth 100000 in
theorem qX3_hears_31 (n : Nat)  (y1 : Int32) (y2 : Int32) (y3 : Int32) (y4 : Int32) (z : mm_S) : eX3_hears_31 (n + 1) y1 y2 y3 y4 z = (if (z.1 1 4) ≤ y4 then some (some (mm_I y3), z) else (sX0_heardAt 1 y4 (pX0_placeOf 1 y1 z) z).bind fun q2 => eX3_hears_62 n y1 y2 y3 y4 q2.1 q2.2) := rfl
set_option maxRecDepth 100000 in
theorem qX3_hears_62 (n : Nat)  (y1 : Int32) (y2 : Int32) (y3 : Int32) (y4 : Int32) (y5 : Int32) (z : mm_S) : eX3_hears_62 (n + 1) y1 y2 y3 y4 y5 z = (if y4 = y1 then eX3_hears_31 n y1 y2 y3 (y4 + 1) z else if y5 = (-1) then eX3_hears_31 n y1 y2 y3 (y4 + 1) z else if y2 < y5 then eX3_hears_31 n y1 y2 y3 (y4 + 1) z else eX3_hears_31 n y1 y2 (y3 ||| (1 <<< (y4 &&& 31))) (y4 + 1) z) := rfl
def rm_X3_hears : Room := { frames := 5, cells := 0, slots := 0, locals := 107 }
noncomputable def f_X3_hears (as : List mm_V) (z : mm_S) (o : mm_R) : Prop := (as.map mm_cat).sum ≤ 6 ∧ ∃ n, go_X3_hears n 0 (mm_ar 0 as) [] z = some o
theorem M_X3_hears : mm_M lyTX lyFA lenX snX 46 48 17 roX rsA nfA nmA ssX yX3_hears cX3_hears 6 (some .int) rm_X3_hears f_X3_hears :=
  mm_met (rt := 0) (by decide +kernel) ⟨fun h => rfl, fun h => absurd h (by decide), fun h => absurd h (by decide), fun h => absurd h (by decide)⟩ tbX3_hears_ok hsnX okFX3 okLX3 okGX3 (fun _ _ _ _ => rfl) (fun _ _ _ _ => rfl) (List.forall_mem_cons.mpr ⟨sV_X3_finding (Or.inl lk_X3_59) rfl ⟨by decide, by decide⟩, List.forall_mem_cons.mpr ⟨sV_X3_isCrew (Or.inl lk_X3_87) rfl ⟨by decide, by decide⟩, List.forall_mem_cons.mpr ⟨sV_X0_kindOf (Or.inl lk_X3_90) rfl ⟨by decide, by decide⟩, List.forall_mem_cons.mpr ⟨sV_X0_placeOf (Or.inl lk_X3_93) rfl ⟨by decide, by decide⟩, List.forall_mem_cons.mpr ⟨sV_X0_heardAt (Or.inl lk_X3_146) rfl ⟨by decide, by decide⟩, fun _ h => absurd h List.not_mem_nil⟩⟩⟩⟩⟩) (List.forall_mem_cons.mpr ⟨sS_X3_hearsByAs (Or.inl lk_X3_105) rfl ⟨by decide, by decide⟩, fun _ h => absurd h List.not_mem_nil⟩)
noncomputable def sX3_hears_62 (y1 : Int32) (y2 : Int32) (y3 : Int32) (y4 : Int32) (y5 : Int32) (z : mm_S) : Option ((Int32 × Int32 × Int32 × Int32 × mm_S) ⊕ (Int32 × mm_S)) := if y4 = y1 then some (.inl (y1, y2, y3, (y4 + 1), z)) else if y5 = (-1) then some (.inl (y1, y2, y3, (y4 + 1), z)) else if y2 < y5 then some (.inl (y1, y2, y3, (y4 + 1), z)) else some (.inl (y1, y2, (y3 ||| (1 <<< (y4 &&& 31))), (y4 + 1), z))
theorem kX3_hears_62 (y1 : Int32) (y2 : Int32) (y3 : Int32) (y4 : Int32) (y5 : Int32) (z : mm_S) (oo : mm_R) : mm_Xs (sX3_hears_62 y1 y2 y3 y4 y5 z) (mm_mt (fun x : Int32 × Int32 × Int32 × Int32 × mm_S => ∃ n, eX3_hears_31 n x.1 x.2.1 x.2.2.1 x.2.2.2.1 x.2.2.2.2 = some oo) (fun v => (fun v : Int32 × mm_S => ((some (mm_I v.1), v.2) : mm_R)) v = oo)) (fun n => eX3_hears_62 n y1 y2 y3 y4 y5 z) oo :=
  xs_row (fun n => qX3_hears_62 n y1 y2 y3 y4 y5 z) (xs_if (xs_v fun hc => hc) (xs_if (xs_v fun hc => hc) (xs_if (xs_v fun hc => hc) (xs_v fun hc => hc))))
noncomputable def lX3_hears_31 (s : Int32 × Int32 × Int32 × Int32 × mm_S) : Option ((Int32 × Int32 × Int32 × Int32 × mm_S) ⊕ (Int32 × mm_S)) := if (s.2.2.2.2.1 1 4) ≤ s.2.2.2.1 then some (.inr (s.2.2.1, s.2.2.2.2)) else (sX0_heardAt 1 s.2.2.2.1 (pX0_placeOf 1 s.1 s.2.2.2.2) s.2.2.2.2).bind fun q2 => (sX3_hears_62 s.1 s.2.1 s.2.2.1 s.2.2.2.1 q2.1 q2.2)
noncomputable def sX3_hears_31 (y1 : Int32) (y2 : Int32) (y3 : Int32) (y4 : Int32) (z : mm_S) : Option (Int32 × mm_S) := mm_wh (lX3_hears_31 ) mm_fu (y1, y2, y3, y4, z)
theorem kX3_hears_31 (y1 : Int32) (y2 : Int32) (y3 : Int32) (y4 : Int32) (z : mm_S) (oo : mm_R) : mm_Xs (sX3_hears_31 y1 y2 y3 y4 z) (fun v => (fun v : Int32 × mm_S => ((some (mm_I v.1), v.2) : mm_R)) v = oo) (fun n => eX3_hears_31 n y1 y2 y3 y4 z) oo :=
  xs_wh (stp := lX3_hears_31 ) (o := oo) (E := (fun (s : Int32 × Int32 × Int32 × Int32 × mm_S) n => eX3_hears_31 n s.1 s.2.1 s.2.2.1 s.2.2.2.1 s.2.2.2.2)) (C := (fun v => (fun v : Int32 × mm_S => ((some (mm_I v.1), v.2) : mm_R)) v = oo)) (fun s => xs_row (fun n => qX3_hears_31 n s.1 s.2.1 s.2.2.1 s.2.2.2.1 s.2.2.2.2) (xs_if (xs_v fun hc => ⟨0, congrArg some hc⟩) (xs_bd fun q2 => (kX3_hears_62 s.1 s.2.1 s.2.2.1 s.2.2.2.1 q2.1 q2.2 oo)))) mm_fu (y1, y2, y3, y4, z)
noncomputable def sX3_hears_14 (y1 : Int32) (z : mm_S) : Option (Int32 × mm_S) := (sX3_hears_31 y1 (pX3_hearsByAs (pX0_kindOf 1 y1 z)) 0 0 z)
theorem kX3_hears_14 (y1 : Int32) (z : mm_S) (oo : mm_R) : mm_Xs (sX3_hears_14 y1 z) (fun v => (fun v : Int32 × mm_S => ((some (mm_I v.1), v.2) : mm_R)) v = oo) (fun n => eX3_hears_14 n y1 z) oo :=
  xs_row (fun n => qX3_hears_14 n y1 z) (kX3_hears_31 y1 (pX3_hearsByAs (pX0_kindOf 1 y1 z)) 0 0 z oo)
noncomputable def sX3_hears_0 (x1 : Int32) (z : mm_S) : Option (Int32 × mm_S) := if (pX3_isCrew x1 z) = 0 then (sX3_finding 0 z).bind fun q1 => some (q1.1, q1.2) else (sX3_hears_14 x1 z)
theorem kX3_hears_0 (x1 : Int32) (z : mm_S) (oo : mm_R) : mm_Xs (sX3_hears_0 x1 z) (fun v => (fun v : Int32 × mm_S => ((some (mm_I v.1), v.2) : mm_R)) v = oo) (fun n => eX3_hears_0 n x1 z) oo :=
  xs_row (fun n => qX3_hears_0 n x1 z) (xs_if (xs_bd fun q1 => (xs_v fun hc => ⟨0, congrArg some hc⟩)) (kX3_hears_14 x1 z oo))
noncomputable def sX3_hears (x1 : Int32) (z : mm_S) : Option (Int32 × mm_S) := sX3_hears_0 x1 z
theorem sp_X3_hears (x1 : Int32) (z : mm_S) (hk : ∀ v ∈ [mm_P 3 0, mm_I x1], mm_ok 46 lyTX 48 17 v) (q : Int32 × mm_S) (hq : sX3_hears x1 z = some q) : f_X3_hears [mm_P 3 0, mm_I x1] z (some (mm_I q.1), q.2) := ⟨Nat.le_of_ble_eq_true rfl, kX3_hears_0 x1 z _ q hq rfl⟩
noncomputable def clo_X3_hears (as : List mm_V) (z : mm_S) (kk : Option mm_V → mm_S → Option mm_R) : Option mm_R := mm_pr as fun t o0 as => bif Nat.beq t 3 then mm_pi as fun a1 as => (match as with | [] => (sX3_hears a1 z).bind fun q => kk (some (mm_I q.1)) q.2 | _ => none) else none
theorem cs_X3_hears : mm_cs lyTX 46 48 17 f_X3_hears clo_X3_hears := by
  intro as z K o hk h
  obtain ⟨t0, o0, r0, rfl, g0⟩ := mm_pr_e h
  obtain ⟨b0, k0⟩ := mm_bif_e g0
  obtain rfl := Nat.eq_of_beq_eq_true b0
  obtain ⟨a1, r1, rfl, g1⟩ := mm_pi_e k0
  rcases r1 with _ | ⟨u, w⟩
  rotate_left
  · cases g1
  obtain rfl : o0 = 0 := ok3 (hk (mm_P 3 o0) (by simp))
  obtain ⟨q, hq, hq2⟩ := Option.bind_eq_some_iff.mp g1
  exact ⟨_, _, sp_X3_hears a1 z hk q hq, fun v hv => by cases hv; exact Or.inl ⟨_, rfl⟩, hq2⟩
theorem sV_X3_hears {own : String} {R : Room} {ar : Nat → Nat} {k : Nat} (hlink : Cond.methodLink own k yX3_hears ∈ lw_gd ∨ ∃ host, (own, k, yX3_hears, host) ∈ nmA) (har : ar k = 2) (hr : 6 ≤ R.frames ∧ 132 ≤ R.locals) : mm_okV lyTX lyFA lenX snX 46 48 17 roX rsA nfA nmA ssX own R ar k clo_X3_hears := by
  refine ⟨yX3_hears, cX3_hears, 6, some .int, rm_X3_hears, f_X3_hears, 3, 1, (RX3, TX3, 12), M_X3_hears, cs_X3_hears, hlink, ⟨wv_X3_hears, wz_X3_hears, wi_X3_hears, wc_X3_hears⟩, ⟨by decide +kernel, by decide +kernel, by decide +kernel⟩, har, ⟨rfl, rfl, by decide⟩, ?_, ⟨rfl, rfl, hr.1, hr.2⟩⟩
  intro as z K o h
  obtain ⟨t0, o0, r0, rfl, g0⟩ := mm_pr_e h
  obtain ⟨b0, k0⟩ := mm_bif_e g0
  obtain rfl := Nat.eq_of_beq_eq_true b0
  exact ⟨_, _, rfl⟩
-- X3_listenForEchoes
noncomputable def lV_X3_listenForEchoes : List (Nat × (List mm_V → mm_S → (Option mm_V → mm_S → Option mm_R) → Option mm_R)) := [(93, clo_X0_placeOf), (161, clo_X1_timesFrom), (195, clo_X1_timesTo)]
noncomputable def mV_X3_listenForEchoes (k : Nat) (as : List mm_V) (z : mm_S) (kk : Option mm_V → mm_S → Option mm_R) : Option mm_R := match mm_at lV_X3_listenForEchoes k with
  | some f => f as z kk
  | none => none
noncomputable def arV_X3_listenForEchoes (k : Nat) : Nat := (mm_at [(93, 2), (161, 3), (195, 3)] k).getD 0
noncomputable def lS_X3_listenForEchoes : List (Nat × (List mm_V → mm_S → (Option mm_V → mm_S → Option mm_R) → Option mm_R)) := []
noncomputable def mS_X3_listenForEchoes (k : Nat) (as : List mm_V) (z : mm_S) (kk : Option mm_V → mm_S → Option mm_R) : Option mm_R := match mm_at lS_X3_listenForEchoes k with
  | some f => f as z kk
  | none => none
noncomputable def arS_X3_listenForEchoes (k : Nat) : Nat := (mm_at [] k).getD 0
def ct_X3_listenForEchoes : List (Nat × List Nat) := [(22, [0, 2]), (37, [])]
noncomputable def go_X3_listenForEchoes : Nat → mm_K := mm_go (fun k => mm_at flX3 k) (fun k => mm_at clX3 k) (fun k => mm_at glX3 k) arV_X3_listenForEchoes arS_X3_listenForEchoes mV_X3_listenForEchoes mS_X3_listenForEchoes lenX roX snX 3 3 tbX3_listenForEchoes ct_X3_listenForEchoes
noncomputable def eX3_listenForEchoes_0 (n : Nat)  (x1 : Int32) (x2 : Int32) (z : mm_S) : Option mm_R := go_X3_listenForEchoes n 0 [(0, mm_P 3 0), (1, mm_I x1), (2, mm_I x2)] [] z
noncomputable def eX3_listenForEchoes_22 (n : Nat)  (y2 : Int32) (z : mm_S) : Option mm_R := go_X3_listenForEchoes n 22 [(0, mm_P 3 0), (2, mm_I y2)] [] z
noncomputable def eX3_listenForEchoes_37 (n : Nat)  (z : mm_S) : Option mm_R := go_X3_listenForEchoes n 37 [] [] z
set_option maxRecDepth 100000 in
theorem qX3_listenForEchoes_0 (n : Nat)  (x1 : Int32) (x2 : Int32) (z : mm_S) : eX3_listenForEchoes_0 (n + 1) x1 x2 z = ((sX1_timesFrom 2 (pX0_placeOf 1 x1 z) 43 z).bind fun q1 => eX3_listenForEchoes_22 n x2 q1) := rfl
set_option maxRecDepth 100000 in
theorem qX3_listenForEchoes_22 (n : Nat)  (y2 : Int32) (z : mm_S) : eX3_listenForEchoes_22 (n + 1) y2 z = ((sX1_timesTo 2 y2 44 z).bind fun q2 => eX3_listenForEchoes_37 n  q2) := rfl
set_option maxRecDepth 100000 in
theorem qX3_listenForEchoes_37 (n : Nat)  (z : mm_S) : eX3_listenForEchoes_37 (n + 1)  z = (some (none, z)) := rfl
def rm_X3_listenForEchoes : Room := { frames := 4, cells := 0, slots := 0, locals := 107 }
noncomputable def f_X3_listenForEchoes (as : List mm_V) (z : mm_S) (o : mm_R) : Prop := (as.map mm_cat).sum ≤ 3 ∧ ∃ n, go_X3_listenForEchoes n 0 (mm_ar 0 as) [] z = some o
theorem M_X3_listenForEchoes : mm_M lyTX lyFA lenX snX 46 48 17 roX rsA nfA nmA ssX yX3_listenForEchoes cX3_listenForEchoes 3 (none) rm_X3_listenForEchoes f_X3_listenForEchoes :=
  mm_met (rt := 3) (by decide +kernel) ⟨fun h => absurd h (by decide), fun h => absurd h (by decide), fun h => absurd h (by decide), fun h => rfl⟩ tbX3_listenForEchoes_ok hsnX okFX3 okLX3 okGX3 (fun _ _ _ _ => rfl) (fun _ _ _ _ => rfl) (List.forall_mem_cons.mpr ⟨sV_X0_placeOf (Or.inl lk_X3_93) rfl ⟨by decide, by decide⟩, List.forall_mem_cons.mpr ⟨sV_X1_timesFrom (Or.inl lk_X3_161) rfl ⟨by decide, by decide⟩, List.forall_mem_cons.mpr ⟨sV_X1_timesTo (Or.inl lk_X3_195) rfl ⟨by decide, by decide⟩, fun _ h => absurd h List.not_mem_nil⟩⟩⟩) (fun _ h => absurd h List.not_mem_nil)
noncomputable def sX3_listenForEchoes_37  (z : mm_S) : Option (mm_S) := some (z)
theorem kX3_listenForEchoes_37  (z : mm_S) (oo : mm_R) : mm_Xs (sX3_listenForEchoes_37  z) (fun v => (fun v : mm_S => ((none, v) : mm_R)) v = oo) (fun n => eX3_listenForEchoes_37 n  z) oo :=
  xs_row (fun n => qX3_listenForEchoes_37 n z) (xs_v fun hc => ⟨0, congrArg some hc⟩)
noncomputable def sX3_listenForEchoes_22 (y2 : Int32) (z : mm_S) : Option (mm_S) := (sX1_timesTo 2 y2 44 z).bind fun q2 => (sX3_listenForEchoes_37 q2)
theorem kX3_listenForEchoes_22 (y2 : Int32) (z : mm_S) (oo : mm_R) : mm_Xs (sX3_listenForEchoes_22 y2 z) (fun v => (fun v : mm_S => ((none, v) : mm_R)) v = oo) (fun n => eX3_listenForEchoes_22 n y2 z) oo :=
  xs_row (fun n => qX3_listenForEchoes_22 n y2 z) (xs_bd fun q2 => (kX3_listenForEchoes_37 q2 oo))
noncomputable def sX3_listenForEchoes_0 (x1 : Int32) (x2 : Int32) (z : mm_S) : Option (mm_S) := (sX1_timesFrom 2 (pX0_placeOf 1 x1 z) 43 z).bind fun q1 => (sX3_listenForEchoes_22 x2 q1)
theorem kX3_listenForEchoes_0 (x1 : Int32) (x2 : Int32) (z : mm_S) (oo : mm_R) : mm_Xs (sX3_listenForEchoes_0 x1 x2 z) (fun v => (fun v : mm_S => ((none, v) : mm_R)) v = oo) (fun n => eX3_listenForEchoes_0 n x1 x2 z) oo :=
  xs_row (fun n => qX3_listenForEchoes_0 n x1 x2 z) (xs_bd fun q1 => (kX3_listenForEchoes_22 x2 q1 oo))
noncomputable def sX3_listenForEchoes (x1 : Int32) (x2 : Int32) (z : mm_S) : Option (mm_S) := sX3_listenForEchoes_0 x1 x2 z
theorem sp_X3_listenForEchoes (x1 : Int32) (x2 : Int32) (z : mm_S) (hk : ∀ v ∈ [mm_P 3 0, mm_I x1, mm_I x2], mm_ok 46 lyTX 48 17 v) (q : mm_S) (hq : sX3_listenForEchoes x1 x2 z = some q) : f_X3_listenForEchoes [mm_P 3 0, mm_I x1, mm_I x2] z (none, q) := ⟨Nat.le_of_ble_eq_true rfl, kX3_listenForEchoes_0 x1 x2 z _ q hq rfl⟩
noncomputable def clo_X3_listenForEchoes (as : List mm_V) (z : mm_S) (kk : Option mm_V → mm_S → Option mm_R) : Option mm_R := mm_pr as fun t o0 as => bif Nat.beq t 3 then mm_pi as fun a1 as => mm_pi as fun a2 as => (match as with | [] => (sX3_listenForEchoes a1 a2 z).bind fun q => kk none q | _ => none) else none
theorem cs_X3_listenForEchoes : mm_cs lyTX 46 48 17 f_X3_listenForEchoes clo_X3_listenForEchoes := by
  intro as z K o hk h
  obtain ⟨t0, o0, r0, rfl, g0⟩ := mm_pr_e h
  obtain ⟨b0, k0⟩ := mm_bif_e g0
  obtain rfl := Nat.eq_of_beq_eq_true b0
  obtain ⟨a1, r1, rfl, g1⟩ := mm_pi_e k0
  obtain ⟨a2, r2, rfl, g2⟩ := mm_pi_e g1
  rcases r2 with _ | ⟨u, w⟩
  rotate_left
  · cases g2
  obtain rfl : o0 = 0 := ok3 (hk (mm_P 3 o0) (by simp))
  obtain ⟨q, hq, hq2⟩ := Option.bind_eq_some_iff.mp g2
  exact ⟨_, _, sp_X3_listenForEchoes a1 a2 z hk q hq, (fun v hv => by cases hv), hq2⟩
theorem sV_X3_listenForEchoes {own : String} {R : Room} {ar : Nat → Nat} {k : Nat} (hlink : Cond.methodLink own k yX3_listenForEchoes ∈ lw_gd ∨ ∃ host, (own, k, yX3_listenForEchoes, host) ∈ nmA) (har : ar k = 3) (hr : 5 ≤ R.frames ∧ 129 ≤ R.locals) : mm_okV lyTX lyFA lenX snX 46 48 17 roX rsA nfA nmA ssX own R ar k clo_X3_listenForEchoes := by
  refine ⟨yX3_listenForEchoes, cX3_listenForEchoes, 3, none, rm_X3_listenForEchoes, f_X3_listenForEchoes, 3, 2, (RX3, TX3, 12), M_X3_listenForEchoes, cs_X3_listenForEchoes, hlink, ⟨wv_X3_listenForEchoes, wz_X3_listenForEchoes, wi_X3_listenForEchoes, wc_X3_listenForEchoes⟩, ⟨by decide +kernel, by decide +kernel, by decide +kernel⟩, har, ⟨rfl, rfl, by decide⟩, ?_, ⟨rfl, rfl, hr.1, hr.2⟩⟩
  intro as z K o h
  obtain ⟨t0, o0, r0, rfl, g0⟩ := mm_pr_e h
  obtain ⟨b0, k0⟩ := mm_bif_e g0
  obtain rfl := Nat.eq_of_beq_eq_true b0
  exact ⟨_, _, rfl⟩
-- X3_echoOf
noncomputable def lV_X3_echoOf : List (Nat × (List mm_V → mm_S → (Option mm_V → mm_S → Option mm_R) → Option mm_R)) := [(90, clo_X0_kindOf), (99, clo_X0_carriesOf)]
noncomputable def mV_X3_echoOf (k : Nat) (as : List mm_V) (z : mm_S) (kk : Option mm_V → mm_S → Option mm_R) : Option mm_R := match mm_at lV_X3_echoOf k with
  | some f => f as z kk
  | none => none
noncomputable def arV_X3_echoOf (k : Nat) : Nat := (mm_at [(90, 2), (99, 2)] k).getD 0
noncomputable def lS_X3_echoOf : List (Nat × (List mm_V → mm_S → (Option mm_V → mm_S → Option mm_R) → Option mm_R)) := [(102, clo_X3_startsAs), (165, clo_X3_at), (172, clo_X3_setOf), (175, clo_X3_besides), (179, clo_X3_has), (325, mm_mn)]
noncomputable def mS_X3_echoOf (k : Nat) (as : List mm_V) (z : mm_S) (kk : Option mm_V → mm_S → Option mm_R) : Option mm_R := match mm_at lS_X3_echoOf k with
  | some f => f as z kk
  | none => none
noncomputable def arS_X3_echoOf (k : Nat) : Nat := (mm_at [(102, 1), (165, 2), (172, 1), (175, 1), (179, 2), (325, 2)] k).getD 0
def ct_X3_echoOf : List (Nat × List Nat) := [(8, [0, 1, 3]), (14, [0, 1, 3, 5, 6]), (32, [0, 1, 3, 5, 6, 7]), (43, [0, 1, 3, 5, 6, 7, 8]), (49, [0, 1, 3, 5, 6, 7, 8]), (93, [0, 1, 3, 5, 6])]
noncomputable def go_X3_echoOf : Nat → mm_K := mm_go (fun k => mm_at flX3 k) (fun k => mm_at clX3 k) (fun k => mm_at glX3 k) arV_X3_echoOf arS_X3_echoOf mV_X3_echoOf mS_X3_echoOf lenX roX snX 10 0 tbX3_echoOf ct_X3_echoOf
noncomputable def eX3_echoOf_0 (n : Nat)  (x1 : Int32) (x2 : Int32) (z : mm_S) : Option mm_R := go_X3_echoOf n 0 [(0, mm_P 3 0), (1, mm_I x1), (2, mm_I x2)] [] z
noncomputable def eX3_echoOf_8 (n : Nat)  (y1 : Int32) (y3 : Int64) (z : mm_S) : Option mm_R := go_X3_echoOf n 8 [(0, mm_P 3 0), (1, mm_I y1), (3, mm_J y3)] [] z
noncomputable def eX3_echoOf_14 (n : Nat)  (y1 : Int32) (y3 : Int64) (y5 : Int32) (y6 : Int32) (z : mm_S) : Option mm_R := go_X3_echoOf n 14 [(0, mm_P 3 0), (1, mm_I y1), (3, mm_J y3), (5, mm_I y5), (6, mm_I y6)] [] z
noncomputable def eX3_echoOf_32 (n : Nat)  (y1 : Int32) (y3 : Int64) (y5 : Int32) (y6 : Int32) (y7 : Int32) (z : mm_S) : Option mm_R := go_X3_echoOf n 32 [(0, mm_P 3 0), (1, mm_I y1), (3, mm_J y3), (5, mm_I y5), (6, mm_I y6), (7, mm_I y7)] [] z
noncomputable def eX3_echoOf_43 (n : Nat)  (y1 : Int32) (y3 : Int64) (y5 : Int32) (y6 : Int32) (y7 : Int32) (y8 : Int32) (z : mm_S) : Option mm_R := go_X3_echoOf n 43 [(0, mm_P 3 0), (1, mm_I y1), (3, mm_J y3), (5, mm_I y5), (6, mm_I y6), (7, mm_I y7), (8, mm_I y8)] [] z
noncomputable def eX3_echoOf_49 (n : Nat)  (y1 : Int32) (y3 : Int64) (y5 : Int32) (y6 : Int32) (y7 : Int32) (y8 : Int32) (w0 : Int32) (z : mm_S) : Option mm_R := go_X3_echoOf n 49 [(0, mm_P 3 0), (1, mm_I y1), (3, mm_J y3), (5, mm_I y5), (6, mm_I y6), (7, mm_I y7), (8, mm_I y8)] [mm_I w0] z
noncomputable def eX3_echoOf_93 (n : Nat)  (y1 : Int32) (y3 : Int64) (y5 : Int32) (y6 : Int32) (z : mm_S) : Option mm_R := go_X3_echoOf n 93 [(0, mm_P 3 0), (1, mm_I y1), (3, mm_J y3), (5, mm_I y5), (6, mm_I y6)] [] z
set_option maxRecDepth 100000 in
theorem qX3_echoOf_0 (n : Nat)  (x1 : Int32) (x2 : Int32) (z : mm_S) : eX3_echoOf_0 (n + 1) x1 x2 z = (eX3_echoOf_8 n x1 (pX3_besides (pX3_setOf x2)) z) := rfl
set_option maxRecDepth 100000 in
theorem qX3_echoOf_8 (n : Nat)  (y1 : Int32) (y3 : Int64) (z : mm_S) : eX3_echoOf_8 (n + 1) y1 y3 z = (eX3_echoOf_14 n y1 y3 (-1) 0 z) := rfl
set_option maxRecDepth 100000 in
theorem qX3_echoOf_14 (n : Nat)  (y1 : Int32) (y3 : Int64) (y5 : Int32) (y6 : Int32) (z : mm_S) : eX3_echoOf_14 (n + 1) y1 y3 y5 y6 z = (if 36 ≤ y6 then if y5 = (-1) then some (some (mm_I (-1)), z) else if y5 ≤ (pX0_carriesOf 1 y1 z) then some (some (mm_I (y5 + (pX3_startsAs (pX0_kindOf 1 y1 z)))), z) else some (some (mm_I (-1)), z) else eX3_echoOf_32 n y1 y3 y5 y6 (pX3_at 43 y6 z) z) := rfl
set_option maxRecDepth 100000 in
theorem qX3_echoOf_32 (n : Nat)  (y1 : Int32) (y3 : Int64) (y5 : Int32) (y6 : Int32) (y7 : Int32) (z : mm_S) : eX3_echoOf_32 (n + 1) y1 y3 y5 y6 y7 z = (eX3_echoOf_43 n y1 y3 y5 y6 y7 (pX3_at 44 y6 z) z) := rfl
set_option maxRecDepth 100000 in
theorem qX3_echoOf_43 (n : Nat)  (y1 : Int32) (y3 : Int64) (y5 : Int32) (y6 : Int32) (y7 : Int32) (y8 : Int32) (z : mm_S) : eX3_echoOf_43 (n + 1) y1 y3 y5 y6 y7 y8 z = (eX3_echoOf_49 n y1 y3 y5 y6 y7 y8 (pX3_has y3 y6) z) := rfl
set_option maxRecDepth 100000 in
theorem qX3_echoOf_49 (n : Nat)  (y1 : Int32) (y3 : Int64) (y5 : Int32) (y6 : Int32) (y7 : Int32) (y8 : Int32) (w0 : Int32) (z : mm_S) : eX3_echoOf_49 (n + 1) y1 y3 y5 y6 y7 y8 w0 z = (if w0 = 0 then eX3_echoOf_93 n y1 y3 y5 y6 z else if y7 = (-1) then eX3_echoOf_93 n y1 y3 y5 y6 z else if y8 = (-1) then eX3_echoOf_93 n y1 y3 y5 y6 z else if y5 = (-1) then eX3_echoOf_93 n y1 y3 ((y7 + y8) + 1) y6 z else eX3_echoOf_93 n y1 y3 (mm_min y5 ((y7 + y8) + 1)) y6 z) := rfl
set_option maxRecDepth 100000 in
theorem qX3_echoOf_93 (n : Nat)  (y1 : Int32) (y3 : Int64) (y5 : Int32) (y6 : Int32) (z : mm_S) : eX3_echoOf_93 (n + 1) y1 y3 y5 y6 z = (eX3_echoOf_14 n y1 y3 y5 (y6 + 1) z) := rfl
def rm_X3_echoOf : Room := { frames := 3, cells := 0, slots := 0, locals := 63 }
noncomputable def f_X3_echoOf (as : List mm_V) (z : mm_S) (o : mm_R) : Prop := (as.map mm_cat).sum ≤ 10 ∧ ∃ n, go_X3_echoOf n 0 (mm_ar 0 as) [] z = some o
theorem M_X3_echoOf : mm_M lyTX lyFA lenX snX 46 48 17 roX rsA nfA nmA ssX yX3_echoOf cX3_echoOf 10 (some .int) rm_X3_echoOf f_X3_echoOf :=
  mm_met (rt := 0) (by decide +kernel) ⟨fun h => rfl, fun h => absurd h (by decide), fun h => absurd h (by decide), fun h => absurd h (by decide)⟩ tbX3_echoOf_ok hsnX okFX3 okLX3 okGX3 (fun _ _ _ _ => rfl) (fun _ _ _ _ => rfl) (List.forall_mem_cons.mpr ⟨sV_X0_kindOf (Or.inl lk_X3_90) rfl ⟨by decide, by decide⟩, List.forall_mem_cons.mpr ⟨sV_X0_carriesOf (Or.inl lk_X3_99) rfl ⟨by decide, by decide⟩, fun _ h => absurd h List.not_mem_nil⟩⟩) (List.forall_mem_cons.mpr ⟨sS_X3_startsAs (Or.inl lk_X3_102) rfl ⟨by decide, by decide⟩, List.forall_mem_cons.mpr ⟨sS_X3_at (Or.inl lk_X3_165) rfl ⟨by decide, by decide⟩, List.forall_mem_cons.mpr ⟨sS_X3_setOf (Or.inl lk_X3_172) rfl ⟨by decide, by decide⟩, List.forall_mem_cons.mpr ⟨sS_X3_besides (Or.inl lk_X3_175) rfl ⟨by decide, by decide⟩, List.forall_mem_cons.mpr ⟨sS_X3_has (Or.inl lk_X3_179) rfl ⟨by decide, by decide⟩, List.forall_mem_cons.mpr ⟨Or.inr (Or.inr ⟨Or.inr ⟨rfl, lk_X3_325, ws_min, wc_min⟩, wi_math, by decide, by decide, rfl⟩), fun _ h => absurd h List.not_mem_nil⟩⟩⟩⟩⟩⟩)
noncomputable def sX3_echoOf_93 (y1 : Int32) (y3 : Int64) (y5 : Int32) (y6 : Int32) (z : mm_S) : Option ((Int32 × Int64 × Int32 × Int32 × mm_S) ⊕ (Int32 × mm_S)) := some (.inl (y1, y3, y5, (y6 + 1), z))
theorem kX3_echoOf_93 (y1 : Int32) (y3 : Int64) (y5 : Int32) (y6 : Int32) (z : mm_S) (oo : mm_R) : mm_Xs (sX3_echoOf_93 y1 y3 y5 y6 z) (mm_mt (fun x : Int32 × Int64 × Int32 × Int32 × mm_S => ∃ n, eX3_echoOf_14 n x.1 x.2.1 x.2.2.1 x.2.2.2.1 x.2.2.2.2 = some oo) (fun v => (fun v : Int32 × mm_S => ((some (mm_I v.1), v.2) : mm_R)) v = oo)) (fun n => eX3_echoOf_93 n y1 y3 y5 y6 z) oo :=
  xs_row (fun n => qX3_echoOf_93 n y1 y3 y5 y6 z) (xs_v fun hc => hc)
noncomputable def sX3_echoOf_49 (y1 : Int32) (y3 : Int64) (y5 : Int32) (y6 : Int32) (y7 : Int32) (y8 : Int32) (w0 : Int32) (z : mm_S) : Option ((Int32 × Int64 × Int32 × Int32 × mm_S) ⊕ (Int32 × mm_S)) := if w0 = 0 then (sX3_echoOf_93 y1 y3 y5 y6 z) else if y7 = (-1) then (sX3_echoOf_93 y1 y3 y5 y6 z) else if y8 = (-1) then (sX3_echoOf_93 y1 y3 y5 y6 z) else if y5 = (-1) then (sX3_echoOf_93 y1 y3 ((y7 + y8) + 1) y6 z) else (sX3_echoOf_93 y1 y3 (mm_min y5 ((y7 + y8) + 1)) y6 z)
theorem kX3_echoOf_49 (y1 : Int32) (y3 : Int64) (y5 : Int32) (y6 : Int32) (y7 : Int32) (y8 : Int32) (w0 : Int32) (z : mm_S) (oo : mm_R) : mm_Xs (sX3_echoOf_49 y1 y3 y5 y6 y7 y8 w0 z) (mm_mt (fun x : Int32 × Int64 × Int32 × Int32 × mm_S => ∃ n, eX3_echoOf_14 n x.1 x.2.1 x.2.2.1 x.2.2.2.1 x.2.2.2.2 = some oo) (fun v => (fun v : Int32 × mm_S => ((some (mm_I v.1), v.2) : mm_R)) v = oo)) (fun n => eX3_echoOf_49 n y1 y3 y5 y6 y7 y8 w0 z) oo :=
  xs_row (fun n => qX3_echoOf_49 n y1 y3 y5 y6 y7 y8 w0 z) (xs_if (kX3_echoOf_93 y1 y3 y5 y6 z oo) (xs_if (kX3_echoOf_93 y1 y3 y5 y6 z oo) (xs_if (kX3_echoOf_93 y1 y3 y5 y6 z oo) (xs_if (kX3_echoOf_93 y1 y3 ((y7 + y8) + 1) y6 z oo) (kX3_echoOf_93 y1 y3 (mm_min y5 ((y7 + y8) + 1)) y6 z oo)))))
noncomputable def sX3_echoOf_43 (y1 : Int32) (y3 : Int64) (y5 : Int32) (y6 : Int32) (y7 : Int32) (y8 : Int32) (z : mm_S) : Option ((Int32 × Int64 × Int32 × Int32 × mm_S) ⊕ (Int32 × mm_S)) := (sX3_echoOf_49 y1 y3 y5 y6 y7 y8 (pX3_has y3 y6) z)
theorem kX3_echoOf_43 (y1 : Int32) (y3 : Int64) (y5 : Int32) (y6 : Int32) (y7 : Int32) (y8 : Int32) (z : mm_S) (oo : mm_R) : mm_Xs (sX3_echoOf_43 y1 y3 y5 y6 y7 y8 z) (mm_mt (fun x : Int32 × Int64 × Int32 × Int32 × mm_S => ∃ n, eX3_echoOf_14 n x.1 x.2.1 x.2.2.1 x.2.2.2.1 x.2.2.2.2 = some oo) (fun v => (fun v : Int32 × mm_S => ((some (mm_I v.1), v.2) : mm_R)) v = oo)) (fun n => eX3_echoOf_43 n y1 y3 y5 y6 y7 y8 z) oo :=
  xs_row (fun n => qX3_echoOf_43 n y1 y3 y5 y6 y7 y8 z) (kX3_echoOf_49 y1 y3 y5 y6 y7 y8 (pX3_has y3 y6) z oo)
noncomputable def sX3_echoOf_32 (y1 : Int32) (y3 : Int64) (y5 : Int32) (y6 : Int32) (y7 : Int32) (z : mm_S) : Option ((Int32 × Int64 × Int32 × Int32 × mm_S) ⊕ (Int32 × mm_S)) := (sX3_echoOf_43 y1 y3 y5 y6 y7 (pX3_at 44 y6 z) z)
theorem kX3_echoOf_32 (y1 : Int32) (y3 : Int64) (y5 : Int32) (y6 : Int32) (y7 : Int32) (z : mm_S) (oo : mm_R) : mm_Xs (sX3_echoOf_32 y1 y3 y5 y6 y7 z) (mm_mt (fun x : Int32 × Int64 × Int32 × Int32 × mm_S => ∃ n, eX3_echoOf_14 n x.1 x.2.1 x.2.2.1 x.2.2.2.1 x.2.2.2.2 = some oo) (fun v => (fun v : Int32 × mm_S => ((some (mm_I v.1), v.2) : mm_R)) v = oo)) (fun n => eX3_echoOf_32 n y1 y3 y5 y6 y7 z) oo :=
  xs_row (fun n => qX3_echoOf_32 n y1 y3 y5 y6 y7 z) (kX3_echoOf_43 y1 y3 y5 y6 y7 (pX3_at 44 y6 z) z oo)
noncomputable def lX3_echoOf_14 (s : Int32 × Int64 × Int32 × Int32 × mm_S) : Option ((Int32 × Int64 × Int32 × Int32 × mm_S) ⊕ (Int32 × mm_S)) := if 36 ≤ s.2.2.2.1 then if s.2.2.1 = (-1) then some (.inr ((-1), s.2.2.2.2)) else if s.2.2.1 ≤ (pX0_carriesOf 1 s.1 s.2.2.2.2) then some (.inr ((s.2.2.1 + (pX3_startsAs (pX0_kindOf 1 s.1 s.2.2.2.2))), s.2.2.2.2)) else some (.inr ((-1), s.2.2.2.2)) else (sX3_echoOf_32 s.1 s.2.1 s.2.2.1 s.2.2.2.1 (pX3_at 43 s.2.2.2.1 s.2.2.2.2) s.2.2.2.2)
noncomputable def sX3_echoOf_14 (y1 : Int32) (y3 : Int64) (y5 : Int32) (y6 : Int32) (z : mm_S) : Option (Int32 × mm_S) := mm_wh (lX3_echoOf_14 ) mm_fu (y1, y3, y5, y6, z)
theorem kX3_echoOf_14 (y1 : Int32) (y3 : Int64) (y5 : Int32) (y6 : Int32) (z : mm_S) (oo : mm_R) : mm_Xs (sX3_echoOf_14 y1 y3 y5 y6 z) (fun v => (fun v : Int32 × mm_S => ((some (mm_I v.1), v.2) : mm_R)) v = oo) (fun n => eX3_echoOf_14 n y1 y3 y5 y6 z) oo :=
  xs_wh (stp := lX3_echoOf_14 ) (o := oo) (E := (fun (s : Int32 × Int64 × Int32 × Int32 × mm_S) n => eX3_echoOf_14 n s.1 s.2.1 s.2.2.1 s.2.2.2.1 s.2.2.2.2)) (C := (fun v => (fun v : Int32 × mm_S => ((some (mm_I v.1), v.2) : mm_R)) v = oo)) (fun s => xs_row (fun n => qX3_echoOf_14 n s.1 s.2.1 s.2.2.1 s.2.2.2.1 s.2.2.2.2) (xs_if (xs_if (xs_v fun hc => ⟨0, congrArg some hc⟩) (xs_if (xs_v fun hc => ⟨0, congrArg some hc⟩) (xs_v fun hc => ⟨0, congrArg some hc⟩))) (kX3_echoOf_32 s.1 s.2.1 s.2.2.1 s.2.2.2.1 (pX3_at 43 s.2.2.2.1 s.2.2.2.2) s.2.2.2.2 oo))) mm_fu (y1, y3, y5, y6, z)
noncomputable def sX3_echoOf_8 (y1 : Int32) (y3 : Int64) (z : mm_S) : Option (Int32 × mm_S) := (sX3_echoOf_14 y1 y3 (-1) 0 z)
theorem kX3_echoOf_8 (y1 : Int32) (y3 : Int64) (z : mm_S) (oo : mm_R) : mm_Xs (sX3_echoOf_8 y1 y3 z) (fun v => (fun v : Int32 × mm_S => ((some (mm_I v.1), v.2) : mm_R)) v = oo) (fun n => eX3_echoOf_8 n y1 y3 z) oo :=
  xs_row (fun n => qX3_echoOf_8 n y1 y3 z) (kX3_echoOf_14 y1 y3 (-1) 0 z oo)
noncomputable def sX3_echoOf_0 (x1 : Int32) (x2 : Int32) (z : mm_S) : Option (Int32 × mm_S) := (sX3_echoOf_8 x1 (pX3_besides (pX3_setOf x2)) z)
theorem kX3_echoOf_0 (x1 : Int32) (x2 : Int32) (z : mm_S) (oo : mm_R) : mm_Xs (sX3_echoOf_0 x1 x2 z) (fun v => (fun v : Int32 × mm_S => ((some (mm_I v.1), v.2) : mm_R)) v = oo) (fun n => eX3_echoOf_0 n x1 x2 z) oo :=
  xs_row (fun n => qX3_echoOf_0 n x1 x2 z) (kX3_echoOf_8 x1 (pX3_besides (pX3_setOf x2)) z oo)
noncomputable def sX3_echoOf (x1 : Int32) (x2 : Int32) (z : mm_S) : Option (Int32 × mm_S) := sX3_echoOf_0 x1 x2 z
theorem sp_X3_echoOf (x1 : Int32) (x2 : Int32) (z : mm_S) (hk : ∀ v ∈ [mm_P 3 0, mm_I x1, mm_I x2], mm_ok 46 lyTX 48 17 v) (q : Int32 × mm_S) (hq : sX3_echoOf x1 x2 z = some q) : f_X3_echoOf [mm_P 3 0, mm_I x1, mm_I x2] z (some (mm_I q.1), q.2) := ⟨Nat.le_of_ble_eq_true rfl, kX3_echoOf_0 x1 x2 z _ q hq rfl⟩
noncomputable def clo_X3_echoOf (as : List mm_V) (z : mm_S) (kk : Option mm_V → mm_S → Option mm_R) : Option mm_R := mm_pr as fun t o0 as => bif Nat.beq t 3 then mm_pi as fun a1 as => mm_pi as fun a2 as => (match as with | [] => (sX3_echoOf a1 a2 z).bind fun q => kk (some (mm_I q.1)) q.2 | _ => none) else none
theorem cs_X3_echoOf : mm_cs lyTX 46 48 17 f_X3_echoOf clo_X3_echoOf := by
  intro as z K o hk h
  obtain ⟨t0, o0, r0, rfl, g0⟩ := mm_pr_e h
  obtain ⟨b0, k0⟩ := mm_bif_e g0
  obtain rfl := Nat.eq_of_beq_eq_true b0
  obtain ⟨a1, r1, rfl, g1⟩ := mm_pi_e k0
  obtain ⟨a2, r2, rfl, g2⟩ := mm_pi_e g1
  rcases r2 with _ | ⟨u, w⟩
  rotate_left
  · cases g2
  obtain rfl : o0 = 0 := ok3 (hk (mm_P 3 o0) (by simp))
  obtain ⟨q, hq, hq2⟩ := Option.bind_eq_some_iff.mp g2
  exact ⟨_, _, sp_X3_echoOf a1 a2 z hk q hq, fun v hv => by cases hv; exact Or.inl ⟨_, rfl⟩, hq2⟩
theorem sV_X3_echoOf {own : String} {R : Room} {ar : Nat → Nat} {k : Nat} (hlink : Cond.methodLink own k yX3_echoOf ∈ lw_gd ∨ ∃ host, (own, k, yX3_echoOf, host) ∈ nmA) (har : ar k = 3) (hr : 4 ≤ R.frames ∧ 92 ≤ R.locals) : mm_okV lyTX lyFA lenX snX 46 48 17 roX rsA nfA nmA ssX own R ar k clo_X3_echoOf := by
  refine ⟨yX3_echoOf, cX3_echoOf, 10, some .int, rm_X3_echoOf, f_X3_echoOf, 3, 2, (RX3, TX3, 12), M_X3_echoOf, cs_X3_echoOf, hlink, ⟨wv_X3_echoOf, wz_X3_echoOf, wi_X3_echoOf, wc_X3_echoOf⟩, ⟨by decide +kernel, by decide +kernel, by decide +kernel⟩, har, ⟨rfl, rfl, by decide⟩, ?_, ⟨rfl, rfl, hr.1, hr.2⟩⟩
  intro as z K o h
  obtain ⟨t0, o0, r0, rfl, g0⟩ := mm_pr_e h
  obtain ⟨b0, k0⟩ := mm_bif_e g0
  obtain rfl := Nat.eq_of_beq_eq_true b0
  exact ⟨_, _, rfl⟩
-- X3_echo
noncomputable def lV_X3_echo : List (Nat × (List mm_V → mm_S → (Option mm_V → mm_S → Option mm_R) → Option mm_R)) := [(59, clo_X3_finding), (67, clo_X1_stuffAt), (87, clo_X3_isCrew), (143, clo_X3_orNone), (152, clo_X3_listenForEchoes), (155, clo_X3_echoOf)]
noncomputable def mV_X3_echo (k : Nat) (as : List mm_V) (z : mm_S) (kk : Option mm_V → mm_S → Option mm_R) : Option mm_R := match mm_at lV_X3_echo k with
  | some f => f as z kk
  | none => none
noncomputable def arV_X3_echo (k : Nat) : Nat := (mm_at [(59, 2), (67, 2), (87, 2), (143, 2), (152, 3), (155, 3)] k).getD 0
noncomputable def lS_X3_echo : List (Nat × (List mm_V → mm_S → (Option mm_V → mm_S → Option mm_R) → Option mm_R)) := [(52, clo_X3_isCell)]
noncomputable def mS_X3_echo (k : Nat) (as : List mm_V) (z : mm_S) (kk : Option mm_V → mm_S → Option mm_R) : Option mm_R := match mm_at lS_X3_echo k with
  | some f => f as z kk
  | none => none
noncomputable def arS_X3_echo (k : Nat) : Nat := (mm_at [(52, 1)] k).getD 0
def ct_X3_echo : List (Nat × List Nat) := [(5, [0, 1, 2, 3]), (12, [0, 1, 2, 3]), (19, [0, 1, 2, 3]), (28, [0, 1, 2, 3]), (39, [0, 1, 2, 3]), (49, [0, 1, 2, 3]), (55, [0, 1, 3])]
noncomputable def go_X3_echo : Nat → mm_K := mm_go (fun k => mm_at flX3 k) (fun k => mm_at clX3 k) (fun k => mm_at glX3 k) arV_X3_echo arS_X3_echo mV_X3_echo mS_X3_echo lenX roX snX 4 0 tbX3_echo ct_X3_echo
noncomputable def eX3_echo_0 (n : Nat)  (x1 : Int32) (x2 : Int32) (x3 : Int32) (z : mm_S) : Option mm_R := go_X3_echo n 0 [(0, mm_P 3 0), (1, mm_I x1), (2, mm_I x2), (3, mm_I x3)] [] z
noncomputable def eX3_echo_5 (n : Nat)  (y1 : Int32) (y2 : Int32) (y3 : Int32) (w0 : Int32) (z : mm_S) : Option mm_R := go_X3_echo n 5 [(0, mm_P 3 0), (1, mm_I y1), (2, mm_I y2), (3, mm_I y3)] [mm_I w0] z
noncomputable def eX3_echo_12 (n : Nat)  (y1 : Int32) (y2 : Int32) (y3 : Int32) (w0 : Int32) (z : mm_S) : Option mm_R := go_X3_echo n 12 [(0, mm_P 3 0), (1, mm_I y1), (2, mm_I y2), (3, mm_I y3)] [mm_I w0] z
noncomputable def eX3_echo_19 (n : Nat)  (y1 : Int32) (y2 : Int32) (y3 : Int32) (w0 : Int32) (z : mm_S) : Option mm_R := go_X3_echo n 19 [(0, mm_P 3 0), (1, mm_I y1), (2, mm_I y2), (3, mm_I y3)] [mm_I w0] z
noncomputable def eX3_echo_28 (n : Nat)  (y1 : Int32) (y2 : Int32) (y3 : Int32) (z : mm_S) : Option mm_R := go_X3_echo n 28 [(0, mm_P 3 0), (1, mm_I y1), (2, mm_I y2), (3, mm_I y3)] [] z
noncomputable def eX3_echo_39 (n : Nat)  (y1 : Int32) (y2 : Int32) (y3 : Int32) (w0 : Int32) (z : mm_S) : Option mm_R := go_X3_echo n 39 [(0, mm_P 3 0), (1, mm_I y1), (2, mm_I y2), (3, mm_I y3)] [mm_I w0] z
noncomputable def eX3_echo_49 (n : Nat)  (y1 : Int32) (y2 : Int32) (y3 : Int32) (z : mm_S) : Option mm_R := go_X3_echo n 49 [(0, mm_P 3 0), (1, mm_I y1), (2, mm_I y2), (3, mm_I y3)] [] z
noncomputable def eX3_echo_55 (n : Nat)  (y1 : Int32) (y3 : Int32) (z : mm_S) : Option mm_R := go_X3_echo n 55 [(0, mm_P 3 0), (1, mm_I y1), (3, mm_I y3)] [] z
set_option maxRecDepth 100000 in
theorem qX3_echo_0 (n : Nat)  (x1 : Int32) (x2 : Int32) (x3 : Int32) (z : mm_S) : eX3_echo_0 (n + 1) x1 x2 x3 z = (eX3_echo_5 n x1 x2 x3 (pX3_isCrew x1 z) z) := rfl
set_option maxRecDepth 100000 in
theorem qX3_echo_5 (n : Nat)  (y1 : Int32) (y2 : Int32) (y3 : Int32) (w0 : Int32) (z : mm_S) : eX3_echo_5 (n + 1) y1 y2 y3 w0 z = (if w0 = 0 then (sX3_finding 0 z).bind fun q1 => some (some (mm_I q1.1), q1.2) else eX3_echo_12 n y1 y2 y3 (pX3_isCell y2) z) := rfl
set_option maxRecDepth 100000 in
theorem qX3_echo_12 (n : Nat)  (y1 : Int32) (y2 : Int32) (y3 : Int32) (w0 : Int32) (z : mm_S) : eX3_echo_12 (n + 1) y1 y2 y3 w0 z = (if w0 = 0 then (sX3_finding 0 z).bind fun q2 => some (some (mm_I q2.1), q2.2) else eX3_echo_19 n y1 y2 y3 (pX3_isCell y3) z) := rfl
set_option maxRecDepth 100000 in
theorem qX3_echo_19 (n : Nat)  (y1 : Int32) (y2 : Int32) (y3 : Int32) (w0 : Int32) (z : mm_S) : eX3_echo_19 (n + 1) y1 y2 y3 w0 z = (if w0 = 0 then (sX3_finding 0 z).bind fun q3 => some (some (mm_I q3.1), q3.2) else eX3_echo_28 n y1 y2 y3 z) := rfl
set_option maxRecDepth 100000 in
theorem qX3_echo_28 (n : Nat)  (y1 : Int32) (y2 : Int32) (y3 : Int32) (z : mm_S) : eX3_echo_28 (n + 1) y1 y2 y3 z = (eX3_echo_39 n y1 y2 y3 (pX1_stuffAt 2 y3 z) z) := rfl
set_option maxRecDepth 100000 in
theorem qX3_echo_39 (n : Nat)  (y1 : Int32) (y2 : Int32) (y3 : Int32) (w0 : Int32) (z : mm_S) : eX3_echo_39 (n + 1) y1 y2 y3 w0 z = (if w0 = 2 then eX3_echo_49 n y1 y2 y3 z else (sX3_finding 4 z).bind fun q4 => some (some (mm_I q4.1), q4.2)) := rfl
set_option maxRecDepth 100000 in
theorem qX3_echo_49 (n : Nat)  (y1 : Int32) (y2 : Int32) (y3 : Int32) (z : mm_S) : eX3_echo_49 (n + 1) y1 y2 y3 z = ((sX3_listenForEchoes y1 y2 z).bind fun q5 => eX3_echo_55 n y1 y3 q5) := rfl
set_option maxRecDepth 100000 in
theorem qX3_echo_55 (n : Nat)  (y1 : Int32) (y3 : Int32) (z : mm_S) : eX3_echo_55 (n + 1) y1 y3 z = ((sX3_echoOf y1 y3 z).bind fun q6 => (sX3_orNone q6.1 q6.2).bind fun q7 => some (some (mm_I q7.1), q7.2)) := rfl
def rm_X3_echo : Room := { frames := 5, cells := 0, slots := 0, locals := 129 }
noncomputable def f_X3_echo (as : List mm_V) (z : mm_S) (o : mm_R) : Prop := (as.map mm_cat).sum ≤ 4 ∧ ∃ n, go_X3_echo n 0 (mm_ar 0 as) [] z = some o
theorem M_X3_echo : mm_M lyTX lyFA lenX snX 46 48 17 roX rsA nfA nmA ssX yX3_echo cX3_echo 4 (some .int) rm_X3_echo f_X3_echo :=
  mm_met (rt := 0) (by decide +kernel) ⟨fun h => rfl, fun h => absurd h (by decide), fun h => absurd h (by decide), fun h => absurd h (by decide)⟩ tbX3_echo_ok hsnX okFX3 okLX3 okGX3 (fun _ _ _ _ => rfl) (fun _ _ _ _ => rfl) (List.forall_mem_cons.mpr ⟨sV_X3_finding (Or.inl lk_X3_59) rfl ⟨by decide, by decide⟩, List.forall_mem_cons.mpr ⟨sV_X1_stuffAt (Or.inl lk_X3_67) rfl ⟨by decide, by decide⟩, List.forall_mem_cons.mpr ⟨sV_X3_isCrew (Or.inl lk_X3_87) rfl ⟨by decide, by decide⟩, List.forall_mem_cons.mpr ⟨sV_X3_orNone (Or.inl lk_X3_143) rfl ⟨by decide, by decide⟩, List.forall_mem_cons.mpr ⟨sV_X3_listenForEchoes (Or.inl lk_X3_152) rfl ⟨by decide, by decide⟩, List.forall_mem_cons.mpr ⟨sV_X3_echoOf (Or.inl lk_X3_155) rfl ⟨by decide, by decide⟩, fun _ h => absurd h List.not_mem_nil⟩⟩⟩⟩⟩⟩) (List.forall_mem_cons.mpr ⟨sS_X3_isCell (Or.inl lk_X3_52) rfl ⟨by decide, by decide⟩, fun _ h => absurd h List.not_mem_nil⟩)
noncomputable def sX3_echo_55 (y1 : Int32) (y3 : Int32) (z : mm_S) : Option (Int32 × mm_S) := (sX3_echoOf y1 y3 z).bind fun q6 => (sX3_orNone q6.1 q6.2).bind fun q7 => some (q7.1, q7.2)
theorem kX3_echo_55 (y1 : Int32) (y3 : Int32) (z : mm_S) (oo : mm_R) : mm_Xs (sX3_echo_55 y1 y3 z) (fun v => (fun v : Int32 × mm_S => ((some (mm_I v.1), v.2) : mm_R)) v = oo) (fun n => eX3_echo_55 n y1 y3 z) oo :=
  xs_row (fun n => qX3_echo_55 n y1 y3 z) (xs_bd fun q6 => (xs_bd fun q7 => (xs_v fun hc => ⟨0, congrArg some hc⟩)))
noncomputable def sX3_echo_49 (y1 : Int32) (y2 : Int32) (y3 : Int32) (z : mm_S) : Option (Int32 × mm_S) := (sX3_listenForEchoes y1 y2 z).bind fun q5 => (sX3_echo_55 y1 y3 q5)
theorem kX3_echo_49 (y1 : Int32) (y2 : Int32) (y3 : Int32) (z : mm_S) (oo : mm_R) : mm_Xs (sX3_echo_49 y1 y2 y3 z) (fun v => (fun v : Int32 × mm_S => ((some (mm_I v.1), v.2) : mm_R)) v = oo) (fun n => eX3_echo_49 n y1 y2 y3 z) oo :=
  xs_row (fun n => qX3_echo_49 n y1 y2 y3 z) (xs_bd fun q5 => (kX3_echo_55 y1 y3 q5 oo))
noncomputable def sX3_echo_39 (y1 : Int32) (y2 : Int32) (y3 : Int32) (w0 : Int32) (z : mm_S) : Option (Int32 × mm_S) := if w0 = 2 then (sX3_echo_49 y1 y2 y3 z) else (sX3_finding 4 z).bind fun q4 => some (q4.1, q4.2)
theorem kX3_echo_39 (y1 : Int32) (y2 : Int32) (y3 : Int32) (w0 : Int32) (z : mm_S) (oo : mm_R) : mm_Xs (sX3_echo_39 y1 y2 y3 w0 z) (fun v => (fun v : Int32 × mm_S => ((some (mm_I v.1), v.2) : mm_R)) v = oo) (fun n => eX3_echo_39 n y1 y2 y3 w0 z) oo :=
  xs_row (fun n => qX3_echo_39 n y1 y2 y3 w0 z) (xs_if (kX3_echo_49 y1 y2 y3 z oo) (xs_bd fun q4 => (xs_v fun hc => ⟨0, congrArg some hc⟩)))
noncomputable def sX3_echo_28 (y1 : Int32) (y2 : Int32) (y3 : Int32) (z : mm_S) : Option (Int32 × mm_S) := (sX3_echo_39 y1 y2 y3 (pX1_stuffAt 2 y3 z) z)
theorem kX3_echo_28 (y1 : Int32) (y2 : Int32) (y3 : Int32) (z : mm_S) (oo : mm_R) : mm_Xs (sX3_echo_28 y1 y2 y3 z) (fun v => (fun v : Int32 × mm_S => ((some (mm_I v.1), v.2) : mm_R)) v = oo) (fun n => eX3_echo_28 n y1 y2 y3 z) oo :=
  xs_row (fun n => qX3_echo_28 n y1 y2 y3 z) (kX3_echo_39 y1 y2 y3 (pX1_stuffAt 2 y3 z) z oo)
noncomputable def sX3_echo_19 (y1 : Int32) (y2 : Int32) (y3 : Int32) (w0 : Int32) (z : mm_S) : Option (Int32 × mm_S) := if w0 = 0 then (sX3_finding 0 z).bind fun q3 => some (q3.1, q3.2) else (sX3_echo_28 y1 y2 y3 z)
theorem kX3_echo_19 (y1 : Int32) (y2 : Int32) (y3 : Int32) (w0 : Int32) (z : mm_S) (oo : mm_R) : mm_Xs (sX3_echo_19 y1 y2 y3 w0 z) (fun v => (fun v : Int32 × mm_S => ((some (mm_I v.1), v.2) : mm_R)) v = oo) (fun n => eX3_echo_19 n y1 y2 y3 w0 z) oo :=
  xs_row (fun n => qX3_echo_19 n y1 y2 y3 w0 z) (xs_if (xs_bd fun q3 => (xs_v fun hc => ⟨0, congrArg some hc⟩)) (kX3_echo_28 y1 y2 y3 z oo))
noncomputable def sX3_echo_12 (y1 : Int32) (y2 : Int32) (y3 : Int32) (w0 : Int32) (z : mm_S) : Option (Int32 × mm_S) := if w0 = 0 then (sX3_finding 0 z).bind fun q2 => some (q2.1, q2.2) else (sX3_echo_19 y1 y2 y3 (pX3_isCell y3) z)
theorem kX3_echo_12 (y1 : Int32) (y2 : Int32) (y3 : Int32) (w0 : Int32) (z : mm_S) (oo : mm_R) : mm_Xs (sX3_echo_12 y1 y2 y3 w0 z) (fun v => (fun v : Int32 × mm_S => ((some (mm_I v.1), v.2) : mm_R)) v = oo) (fun n => eX3_echo_12 n y1 y2 y3 w0 z) oo :=
  xs_row (fun n => qX3_echo_12 n y1 y2 y3 w0 z) (xs_if (xs_bd fun q2 => (xs_v fun hc => ⟨0, congrArg some hc⟩)) (kX3_echo_19 y1 y2 y3 (pX3_isCell y3) z oo))
noncomputable def sX3_echo_5 (y1 : Int32) (y2 : Int32) (y3 : Int32) (w0 : Int32) (z : mm_S) : Option (Int32 × mm_S) := if w0 = 0 then (sX3_finding 0 z).bind fun q1 => some (q1.1, q1.2) else (sX3_echo_12 y1 y2 y3 (pX3_isCell y2) z)
theorem kX3_echo_5 (y1 : Int32) (y2 : Int32) (y3 : Int32) (w0 : Int32) (z : mm_S) (oo : mm_R) : mm_Xs (sX3_echo_5 y1 y2 y3 w0 z) (fun v => (fun v : Int32 × mm_S => ((some (mm_I v.1), v.2) : mm_R)) v = oo) (fun n => eX3_echo_5 n y1 y2 y3 w0 z) oo :=
  xs_row (fun n => qX3_echo_5 n y1 y2 y3 w0 z) (xs_if (xs_bd fun q1 => (xs_v fun hc => ⟨0, congrArg some hc⟩)) (kX3_echo_12 y1 y2 y3 (pX3_isCell y2) z oo))
noncomputable def sX3_echo_0 (x1 : Int32) (x2 : Int32) (x3 : Int32) (z : mm_S) : Option (Int32 × mm_S) := (sX3_echo_5 x1 x2 x3 (pX3_isCrew x1 z) z)
theorem kX3_echo_0 (x1 : Int32) (x2 : Int32) (x3 : Int32) (z : mm_S) (oo : mm_R) : mm_Xs (sX3_echo_0 x1 x2 x3 z) (fun v => (fun v : Int32 × mm_S => ((some (mm_I v.1), v.2) : mm_R)) v = oo) (fun n => eX3_echo_0 n x1 x2 x3 z) oo :=
  xs_row (fun n => qX3_echo_0 n x1 x2 x3 z) (kX3_echo_5 x1 x2 x3 (pX3_isCrew x1 z) z oo)
noncomputable def sX3_echo (x1 : Int32) (x2 : Int32) (x3 : Int32) (z : mm_S) : Option (Int32 × mm_S) := sX3_echo_0 x1 x2 x3 z
theorem sp_X3_echo (x1 : Int32) (x2 : Int32) (x3 : Int32) (z : mm_S) (hk : ∀ v ∈ [mm_P 3 0, mm_I x1, mm_I x2, mm_I x3], mm_ok 46 lyTX 48 17 v) (q : Int32 × mm_S) (hq : sX3_echo x1 x2 x3 z = some q) : f_X3_echo [mm_P 3 0, mm_I x1, mm_I x2, mm_I x3] z (some (mm_I q.1), q.2) := ⟨Nat.le_of_ble_eq_true rfl, kX3_echo_0 x1 x2 x3 z _ q hq rfl⟩
noncomputable def clo_X3_echo (as : List mm_V) (z : mm_S) (kk : Option mm_V → mm_S → Option mm_R) : Option mm_R := mm_pr as fun t o0 as => bif Nat.beq t 3 then mm_pi as fun a1 as => mm_pi as fun a2 as => mm_pi as fun a3 as => (match as with | [] => (sX3_echo a1 a2 a3 z).bind fun q => kk (some (mm_I q.1)) q.2 | _ => none) else none
theorem cs_X3_echo : mm_cs lyTX 46 48 17 f_X3_echo clo_X3_echo := by
  intro as z K o hk h
  obtain ⟨t0, o0, r0, rfl, g0⟩ := mm_pr_e h
  obtain ⟨b0, k0⟩ := mm_bif_e g0
  obtain rfl := Nat.eq_of_beq_eq_true b0
  obtain ⟨a1, r1, rfl, g1⟩ := mm_pi_e k0
  obtain ⟨a2, r2, rfl, g2⟩ := mm_pi_e g1
  obtain ⟨a3, r3, rfl, g3⟩ := mm_pi_e g2
  rcases r3 with _ | ⟨u, w⟩
  rotate_left
  · cases g3
  obtain rfl : o0 = 0 := ok3 (hk (mm_P 3 o0) (by simp))
  obtain ⟨q, hq, hq2⟩ := Option.bind_eq_some_iff.mp g3
  exact ⟨_, _, sp_X3_echo a1 a2 a3 z hk q hq, fun v hv => by cases hv; exact Or.inl ⟨_, rfl⟩, hq2⟩
theorem sV_X3_echo {own : String} {R : Room} {ar : Nat → Nat} {k : Nat} (hlink : Cond.methodLink own k yX3_echo ∈ lw_gd ∨ ∃ host, (own, k, yX3_echo, host) ∈ nmA) (har : ar k = 4) (hr : 6 ≤ R.frames ∧ 152 ≤ R.locals) : mm_okV lyTX lyFA lenX snX 46 48 17 roX rsA nfA nmA ssX own R ar k clo_X3_echo := by
  refine ⟨yX3_echo, cX3_echo, 4, some .int, rm_X3_echo, f_X3_echo, 3, 3, (RX3, TX3, 12), M_X3_echo, cs_X3_echo, hlink, ⟨wv_X3_echo, wz_X3_echo, wi_X3_echo, wc_X3_echo⟩, ⟨by decide +kernel, by decide +kernel, by decide +kernel⟩, har, ⟨rfl, rfl, by decide⟩, ?_, ⟨rfl, rfl, hr.1, hr.2⟩⟩
  intro as z K o h
  obtain ⟨t0, o0, r0, rfl, g0⟩ := mm_pr_e h
  obtain ⟨b0, k0⟩ := mm_bif_e g0
  obtain rfl := Nat.eq_of_beq_eq_true b0
  exact ⟨_, _, rfl⟩
-- X3_echoBehind
noncomputable def lV_X3_echoBehind : List (Nat × (List mm_V → mm_S → (Option mm_V → mm_S → Option mm_R) → Option mm_R)) := [(67, clo_X1_stuffAt), (155, clo_X3_echoOf)]
noncomputable def mV_X3_echoBehind (k : Nat) (as : List mm_V) (z : mm_S) (kk : Option mm_V → mm_S → Option mm_R) : Option mm_R := match mm_at lV_X3_echoBehind k with
  | some f => f as z kk
  | none => none
noncomputable def arV_X3_echoBehind (k : Nat) : Nat := (mm_at [(67, 2), (155, 3)] k).getD 0
noncomputable def lS_X3_echoBehind : List (Nat × (List mm_V → mm_S → (Option mm_V → mm_S → Option mm_R) → Option mm_R)) := []
noncomputable def mS_X3_echoBehind (k : Nat) (as : List mm_V) (z : mm_S) (kk : Option mm_V → mm_S → Option mm_R) : Option mm_R := match mm_at lS_X3_echoBehind k with
  | some f => f as z kk
  | none => none
noncomputable def arS_X3_echoBehind (k : Nat) : Nat := (mm_at [] k).getD 0
def ct_X3_echoBehind : List (Nat × List Nat) := [(5, [0, 1, 2, 3, 4]), (24, [0, 1, 2, 3, 4]), (37, [0, 1, 2, 3, 4, 5])]
noncomputable def go_X3_echoBehind : Nat → mm_K := mm_go (fun k => mm_at flX3 k) (fun k => mm_at clX3 k) (fun k => mm_at glX3 k) arV_X3_echoBehind arS_X3_echoBehind mV_X3_echoBehind mS_X3_echoBehind lenX roX snX 6 0 tbX3_echoBehind ct_X3_echoBehind
noncomputable def eX3_echoBehind_0 (n : Nat)  (x1 : Int32) (x2 : Int32) (z : mm_S) : Option mm_R := go_X3_echoBehind n 0 [(0, mm_P 3 0), (1, mm_I x1), (2, mm_I x2)] [] z
noncomputable def eX3_echoBehind_5 (n : Nat)  (y1 : Int32) (y2 : Int32) (y3 : Int32) (y4 : Int32) (z : mm_S) : Option mm_R := go_X3_echoBehind n 5 [(0, mm_P 3 0), (1, mm_I y1), (2, mm_I y2), (3, mm_I y3), (4, mm_I y4)] [] z
noncomputable def eX3_echoBehind_24 (n : Nat)  (y1 : Int32) (y2 : Int32) (y3 : Int32) (y4 : Int32) (w0 : Int32) (z : mm_S) : Option mm_R := go_X3_echoBehind n 24 [(0, mm_P 3 0), (1, mm_I y1), (2, mm_I y2), (3, mm_I y3), (4, mm_I y4)] [mm_I w0] z
noncomputable def eX3_echoBehind_37 (n : Nat)  (y1 : Int32) (y2 : Int32) (y3 : Int32) (y4 : Int32) (y5 : Int32) (z : mm_S) : Option mm_R := go_X3_echoBehind n 37 [(0, mm_P 3 0), (1, mm_I y1), (2, mm_I y2), (3, mm_I y3), (4, mm_I y4), (5, mm_I y5)] [] z
set_option maxRecDepth 100000 in
theorem qX3_echoBehind_0 (n : Nat)  (x1 : Int32) (x2 : Int32) (z : mm_S) : eX3_echoBehind_0 (n + 1) x1 x2 z = (eX3_echoBehind_5 n x1 x2 (-1) 0 z) := rfl
set_option maxRecDepth 100000 in
theorem qX3_echoBehind_5 (n : Nat)  (y1 : Int32) (y2 : Int32) (y3 : Int32) (y4 : Int32) (z : mm_S) : eX3_echoBehind_5 (n + 1) y1 y2 y3 y4 z = (if 36 ≤ y4 then some (some (mm_I y3), z) else eX3_echoBehind_24 n y1 y2 y3 y4 (pX1_stuffAt 2 y4 z) z) := rfl
set_option maxRecDepth 100000 in
theorem qX3_echoBehind_24 (n : Nat)  (y1 : Int32) (y2 : Int32) (y3 : Int32) (y4 : Int32) (w0 : Int32) (z : mm_S) : eX3_echoBehind_24 (n + 1) y1 y2 y3 y4 w0 z = (if w0 = 2 then (sX3_echoOf y2 y4 z).bind fun q1 => eX3_echoBehind_37 n y1 y2 y3 y4 q1.1 q1.2 else eX3_echoBehind_5 n y1 y2 y3 (y4 + 1) z) := rfl
set_option maxRecDepth 100000 in
theorem qX3_echoBehind_37 (n : Nat)  (y1 : Int32) (y2 : Int32) (y3 : Int32) (y4 : Int32) (y5 : Int32) (z : mm_S) : eX3_echoBehind_37 (n + 1) y1 y2 y3 y4 y5 z = (if y5 ≤ y1 then eX3_echoBehind_5 n y1 y2 y3 (y4 + 1) z else if y3 = (-1) then eX3_echoBehind_5 n y1 y2 y5 (y4 + 1) z else if y3 ≤ y5 then eX3_echoBehind_5 n y1 y2 y3 (y4 + 1) z else eX3_echoBehind_5 n y1 y2 y5 (y4 + 1) z) := rfl
def rm_X3_echoBehind : Room := { frames := 4, cells := 0, slots := 0, locals := 92 }
noncomputable def f_X3_echoBehind (as : List mm_V) (z : mm_S) (o : mm_R) : Prop := (as.map mm_cat).sum ≤ 6 ∧ ∃ n, go_X3_echoBehind n 0 (mm_ar 0 as) [] z = some o
theorem M_X3_echoBehind : mm_M lyTX lyFA lenX snX 46 48 17 roX rsA nfA nmA ssX yX3_echoBehind cX3_echoBehind 6 (some .int) rm_X3_echoBehind f_X3_echoBehind :=
  mm_met (rt := 0) (by decide +kernel) ⟨fun h => rfl, fun h => absurd h (by decide), fun h => absurd h (by decide), fun h => absurd h (by decide)⟩ tbX3_echoBehind_ok hsnX okFX3 okLX3 okGX3 (fun _ _ _ _ => rfl) (fun _ _ _ _ => rfl) (List.forall_mem_cons.mpr ⟨sV_X1_stuffAt (Or.inl lk_X3_67) rfl ⟨by decide, by decide⟩, List.forall_mem_cons.mpr ⟨sV_X3_echoOf (Or.inl lk_X3_155) rfl ⟨by decide, by decide⟩, fun _ h => absurd h List.not_mem_nil⟩⟩) (fun _ h => absurd h List.not_mem_nil)
noncomputable def sX3_echoBehind_37 (y1 : Int32) (y2 : Int32) (y3 : Int32) (y4 : Int32) (y5 : Int32) (z : mm_S) : Option ((Int32 × Int32 × Int32 × Int32 × mm_S) ⊕ (Int32 × mm_S)) := if y5 ≤ y1 then some (.inl (y1, y2, y3, (y4 + 1), z)) else if y3 = (-1) then some (.inl (y1, y2, y5, (y4 + 1), z)) else if y3 ≤ y5 then some (.inl (y1, y2, y3, (y4 + 1), z)) else some (.inl (y1, y2, y5, (y4 + 1), z))
theorem kX3_echoBehind_37 (y1 : Int32) (y2 : Int32) (y3 : Int32) (y4 : Int32) (y5 : Int32) (z : mm_S) (oo : mm_R) : mm_Xs (sX3_echoBehind_37 y1 y2 y3 y4 y5 z) (mm_mt (fun x : Int32 × Int32 × Int32 × Int32 × mm_S => ∃ n, eX3_echoBehind_5 n x.1 x.2.1 x.2.2.1 x.2.2.2.1 x.2.2.2.2 = some oo) (fun v => (fun v : Int32 × mm_S => ((some (mm_I v.1), v.2) : mm_R)) v = oo)) (fun n => eX3_echoBehind_37 n y1 y2 y3 y4 y5 z) oo :=
  xs_row (fun n => qX3_echoBehind_37 n y1 y2 y3 y4 y5 z) (xs_if (xs_v fun hc => hc) (xs_if (xs_v fun hc => hc) (xs_if (xs_v fun hc => hc) (xs_v fun hc => hc))))
noncomputable def sX3_echoBehind_24 (y1 : Int32) (y2 : Int32) (y3 : Int32) (y4 : Int32) (w0 : Int32) (z : mm_S) : Option ((Int32 × Int32 × Int32 × Int32 × mm_S) ⊕ (Int32 × mm_S)) := if w0 = 2 then (sX3_echoOf y2 y4 z).bind fun q1 => (sX3_echoBehind_37 y1 y2 y3 y4 q1.1 q1.2) else some (.inl (y1, y2, y3, (y4 + 1), z))
theorem kX3_echoBehind_24 (y1 : Int32) (y2 : Int32) (y3 : Int32) (y4 : Int32) (w0 : Int32) (z : mm_S) (oo : mm_R) : mm_Xs (sX3_echoBehind_24 y1 y2 y3 y4 w0 z) (mm_mt (fun x : Int32 × Int32 × Int32 × Int32 × mm_S => ∃ n, eX3_echoBehind_5 n x.1 x.2.1 x.2.2.1 x.2.2.2.1 x.2.2.2.2 = some oo) (fun v => (fun v : Int32 × mm_S => ((some (mm_I v.1), v.2) : mm_R)) v = oo)) (fun n => eX3_echoBehind_24 n y1 y2 y3 y4 w0 z) oo :=
  xs_row (fun n => qX3_echoBehind_24 n y1 y2 y3 y4 w0 z) (xs_if (xs_bd fun q1 => (kX3_echoBehind_37 y1 y2 y3 y4 q1.1 q1.2 oo)) (xs_v fun hc => hc))
noncomputable def lX3_echoBehind_5 (s : Int32 × Int32 × Int32 × Int32 × mm_S) : Option ((Int32 × Int32 × Int32 × Int32 × mm_S) ⊕ (Int32 × mm_S)) := if 36 ≤ s.2.2.2.1 then some (.inr (s.2.2.1, s.2.2.2.2)) else (sX3_echoBehind_24 s.1 s.2.1 s.2.2.1 s.2.2.2.1 (pX1_stuffAt 2 s.2.2.2.1 s.2.2.2.2) s.2.2.2.2)
noncomputable def sX3_echoBehind_5 (y1 : Int32) (y2 : Int32) (y3 : Int32) (y4 : Int32) (z : mm_S) : Option (Int32 × mm_S) := mm_wh (lX3_echoBehind_5 ) mm_fu (y1, y2, y3, y4, z)
theorem kX3_echoBehind_5 (y1 : Int32) (y2 : Int32) (y3 : Int32) (y4 : Int32) (z : mm_S) (oo : mm_R) : mm_Xs (sX3_echoBehind_5 y1 y2 y3 y4 z) (fun v => (fun v : Int32 × mm_S => ((some (mm_I v.1), v.2) : mm_R)) v = oo) (fun n => eX3_echoBehind_5 n y1 y2 y3 y4 z) oo :=
  xs_wh (stp := lX3_echoBehind_5 ) (o := oo) (E := (fun (s : Int32 × Int32 × Int32 × Int32 × mm_S) n => eX3_echoBehind_5 n s.1 s.2.1 s.2.2.1 s.2.2.2.1 s.2.2.2.2)) (C := (fun v => (fun v : Int32 × mm_S => ((some (mm_I v.1), v.2) : mm_R)) v = oo)) (fun s => xs_row (fun n => qX3_echoBehind_5 n s.1 s.2.1 s.2.2.1 s.2.2.2.1 s.2.2.2.2) (xs_if (xs_v fun hc => ⟨0, congrArg some hc⟩) (kX3_echoBehind_24 s.1 s.2.1 s.2.2.1 s.2.2.2.1 (pX1_stuffAt 2 s.2.2.2.1 s.2.2.2.2) s.2.2.2.2 oo))) mm_fu (y1, y2, y3, y4, z)
noncomputable def sX3_echoBehind_0 (x1 : Int32) (x2 : Int32) (z : mm_S) : Option (Int32 × mm_S) := (sX3_echoBehind_5 x1 x2 (-1) 0 z)
theorem kX3_echoBehind_0 (x1 : Int32) (x2 : Int32) (z : mm_S) (oo : mm_R) : mm_Xs (sX3_echoBehind_0 x1 x2 z) (fun v => (fun v : Int32 × mm_S => ((some (mm_I v.1), v.2) : mm_R)) v = oo) (fun n => eX3_echoBehind_0 n x1 x2 z) oo :=
  xs_row (fun n => qX3_echoBehind_0 n x1 x2 z) (kX3_echoBehind_5 x1 x2 (-1) 0 z oo)
noncomputable def sX3_echoBehind (x1 : Int32) (x2 : Int32) (z : mm_S) : Option (Int32 × mm_S) := sX3_echoBehind_0 x1 x2 z
theorem sp_X3_echoBehind (x1 : Int32) (x2 : Int32) (z : mm_S) (hk : ∀ v ∈ [mm_P 3 0, mm_I x1, mm_I x2], mm_ok 46 lyTX 48 17 v) (q : Int32 × mm_S) (hq : sX3_echoBehind x1 x2 z = some q) : f_X3_echoBehind [mm_P 3 0, mm_I x1, mm_I x2] z (some (mm_I q.1), q.2) := ⟨Nat.le_of_ble_eq_true rfl, kX3_echoBehind_0 x1 x2 z _ q hq rfl⟩
noncomputable def clo_X3_echoBehind (as : List mm_V) (z : mm_S) (kk : Option mm_V → mm_S → Option mm_R) : Option mm_R := mm_pr as fun t o0 as => bif Nat.beq t 3 then mm_pi as fun a1 as => mm_pi as fun a2 as => (match as with | [] => (sX3_echoBehind a1 a2 z).bind fun q => kk (some (mm_I q.1)) q.2 | _ => none) else none
theorem cs_X3_echoBehind : mm_cs lyTX 46 48 17 f_X3_echoBehind clo_X3_echoBehind := by
  intro as z K o hk h
  obtain ⟨t0, o0, r0, rfl, g0⟩ := mm_pr_e h
  obtain ⟨b0, k0⟩ := mm_bif_e g0
  obtain rfl := Nat.eq_of_beq_eq_true b0
  obtain ⟨a1, r1, rfl, g1⟩ := mm_pi_e k0
  obtain ⟨a2, r2, rfl, g2⟩ := mm_pi_e g1
  rcases r2 with _ | ⟨u, w⟩
  rotate_left
  · cases g2
  obtain rfl : o0 = 0 := ok3 (hk (mm_P 3 o0) (by simp))
  obtain ⟨q, hq, hq2⟩ := Option.bind_eq_some_iff.mp g2
  exact ⟨_, _, sp_X3_echoBehind a1 a2 z hk q hq, fun v hv => by cases hv; exact Or.inl ⟨_, rfl⟩, hq2⟩
theorem sV_X3_echoBehind {own : String} {R : Room} {ar : Nat → Nat} {k : Nat} (hlink : Cond.methodLink own k yX3_echoBehind ∈ lw_gd ∨ ∃ host, (own, k, yX3_echoBehind, host) ∈ nmA) (har : ar k = 3) (hr : 5 ≤ R.frames ∧ 117 ≤ R.locals) : mm_okV lyTX lyFA lenX snX 46 48 17 roX rsA nfA nmA ssX own R ar k clo_X3_echoBehind := by
  refine ⟨yX3_echoBehind, cX3_echoBehind, 6, some .int, rm_X3_echoBehind, f_X3_echoBehind, 3, 2, (RX3, TX3, 12), M_X3_echoBehind, cs_X3_echoBehind, hlink, ⟨wv_X3_echoBehind, wz_X3_echoBehind, wi_X3_echoBehind, wc_X3_echoBehind⟩, ⟨by decide +kernel, by decide +kernel, by decide +kernel⟩, har, ⟨rfl, rfl, by decide⟩, ?_, ⟨rfl, rfl, hr.1, hr.2⟩⟩
  intro as z K o h
  obtain ⟨t0, o0, r0, rfl, g0⟩ := mm_pr_e h
  obtain ⟨b0, k0⟩ := mm_bif_e g0
  obtain rfl := Nat.eq_of_beq_eq_true b0
  exact ⟨_, _, rfl⟩
-- X3_chord
noncomputable def lV_X3_chord : List (Nat × (List mm_V → mm_S → (Option mm_V → mm_S → Option mm_R) → Option mm_R)) := [(59, clo_X3_finding), (87, clo_X3_isCrew), (152, clo_X3_listenForEchoes), (158, clo_X3_echoBehind)]
noncomputable def mV_X3_chord (k : Nat) (as : List mm_V) (z : mm_S) (kk : Option mm_V → mm_S → Option mm_R) : Option mm_R := match mm_at lV_X3_chord k with
  | some f => f as z kk
  | none => none
noncomputable def arV_X3_chord (k : Nat) : Nat := (mm_at [(59, 2), (87, 2), (152, 3), (158, 3)] k).getD 0
noncomputable def lS_X3_chord : List (Nat × (List mm_V → mm_S → (Option mm_V → mm_S → Option mm_R) → Option mm_R)) := [(52, clo_X3_isCell), (118, clo_X3_lies)]
noncomputable def mS_X3_chord (k : Nat) (as : List mm_V) (z : mm_S) (kk : Option mm_V → mm_S → Option mm_R) : Option mm_R := match mm_at lS_X3_chord k with
  | some f => f as z kk
  | none => none
noncomputable def arS_X3_chord (k : Nat) : Nat := (mm_at [(52, 1), (118, 3)] k).getD 0
def ct_X3_chord : List (Nat × List Nat) := [(31, [0, 1, 2, 3]), (37, [0, 1, 3]), (43, [0, 1, 3, 4, 5]), (58, [0, 1, 3, 4, 5]), (70, [0, 1, 3, 4, 5])]
noncomputable def go_X3_chord : Nat → mm_K := mm_go (fun k => mm_at flX3 k) (fun k => mm_at clX3 k) (fun k => mm_at glX3 k) arV_X3_chord arS_X3_chord mV_X3_chord mS_X3_chord lenX roX snX 6 0 tbX3_chord ct_X3_chord
noncomputable def eX3_chord_0 (n : Nat)  (x1 : Int32) (x2 : Int32) (x3 : Int32) (z : mm_S) : Option mm_R := go_X3_chord n 0 [(0, mm_P 3 0), (1, mm_I x1), (2, mm_I x2), (3, mm_I x3)] [] z
noncomputable def eX3_chord_31 (n : Nat)  (y1 : Int32) (y2 : Int32) (y3 : Int32) (z : mm_S) : Option mm_R := go_X3_chord n 31 [(0, mm_P 3 0), (1, mm_I y1), (2, mm_I y2), (3, mm_I y3)] [] z
noncomputable def eX3_chord_37 (n : Nat)  (y1 : Int32) (y3 : Int32) (z : mm_S) : Option mm_R := go_X3_chord n 37 [(0, mm_P 3 0), (1, mm_I y1), (3, mm_I y3)] [] z
noncomputable def eX3_chord_43 (n : Nat)  (y1 : Int32) (y3 : Int32) (y4 : Int32) (y5 : Int32) (z : mm_S) : Option mm_R := go_X3_chord n 43 [(0, mm_P 3 0), (1, mm_I y1), (3, mm_I y3), (4, mm_I y4), (5, mm_I y5)] [] z
noncomputable def eX3_chord_58 (n : Nat)  (y1 : Int32) (y3 : Int32) (y4 : Int32) (y5 : Int32) (z : mm_S) : Option mm_R := go_X3_chord n 58 [(0, mm_P 3 0), (1, mm_I y1), (3, mm_I y3), (4, mm_I y4), (5, mm_I y5)] [] z
noncomputable def eX3_chord_70 (n : Nat)  (y1 : Int32) (y3 : Int32) (y4 : Int32) (y5 : Int32) (z : mm_S) : Option mm_R := go_X3_chord n 70 [(0, mm_P 3 0), (1, mm_I y1), (3, mm_I y3), (4, mm_I y4), (5, mm_I y5)] [] z
set_option maxRecDepth 100000 in
theorem qX3_chord_0 (n : Nat)  (x1 : Int32) (x2 : Int32) (x3 : Int32) (z : mm_S) : eX3_chord_0 (n + 1) x1 x2 x3 z = (if (pX3_isCrew x1 z) = 0 then (sX3_finding 0 z).bind fun q1 => some (some (mm_I q1.1), q1.2) else if (pX3_isCell x2) = 0 then (sX3_finding 0 z).bind fun q2 => some (some (mm_I q2.1), q2.2) else if (pX3_lies x3 0 35) = 0 then (sX3_finding 0 z).bind fun q3 => some (some (mm_I q3.1), q3.2) else eX3_chord_31 n x1 x2 x3 z) := rfl
set_option maxRecDepth 100000 in
theorem qX3_chord_31 (n : Nat)  (y1 : Int32) (y2 : Int32) (y3 : Int32) (z : mm_S) : eX3_chord_31 (n + 1) y1 y2 y3 z = ((sX3_listenForEchoes y1 y2 z).bind fun q4 => eX3_chord_37 n y1 y3 q4) := rfl
set_option maxRecDepth 100000 in
theorem qX3_chord_37 (n : Nat)  (y1 : Int32) (y3 : Int32) (z : mm_S) : eX3_chord_37 (n + 1) y1 y3 z = (eX3_chord_43 n y1 y3 (-1) 0 z) := rfl
set_option maxRecDepth 100000 in
theorem qX3_chord_43 (n : Nat)  (y1 : Int32) (y3 : Int32) (y4 : Int32) (y5 : Int32) (z : mm_S) : eX3_chord_43 (n + 1) y1 y3 y4 y5 z = (if y3 < y5 then some (some (mm_I y4), z) else (sX3_echoBehind y4 y1 z).bind fun q5 => eX3_chord_58 n y1 y3 q5.1 y5 q5.2) := rfl
set_option maxRecDepth 100000 in
theorem qX3_chord_58 (n : Nat)  (y1 : Int32) (y3 : Int32) (y4 : Int32) (y5 : Int32) (z : mm_S) : eX3_chord_58 (n + 1) y1 y3 y4 y5 z = (if y4 = (-1) then (sX3_finding 3 z).bind fun q6 => some (some (mm_I q6.1), q6.2) else eX3_chord_70 n y1 y3 y4 y5 z) := rfl
set_option maxRecDepth 100000 in
theorem qX3_chord_70 (n : Nat)  (y1 : Int32) (y3 : Int32) (y4 : Int32) (y5 : Int32) (z : mm_S) : eX3_chord_70 (n + 1) y1 y3 y4 y5 z = (eX3_chord_43 n y1 y3 y4 (y5 + 1) z) := rfl
def rm_X3_chord : Room := { frames := 5, cells := 0, slots := 0, locals := 129 }
noncomputable def f_X3_chord (as : List mm_V) (z : mm_S) (o : mm_R) : Prop := (as.map mm_cat).sum ≤ 6 ∧ ∃ n, go_X3_chord n 0 (mm_ar 0 as) [] z = some o
theorem M_X3_chord : mm_M lyTX lyFA lenX snX 46 48 17 roX rsA nfA nmA ssX yX3_chord cX3_chord 6 (some .int) rm_X3_chord f_X3_chord :=
  mm_met (rt := 0) (by decide +kernel) ⟨fun h => rfl, fun h => absurd h (by decide), fun h => absurd h (by decide), fun h => absurd h (by decide)⟩ tbX3_chord_ok hsnX okFX3 okLX3 okGX3 (fun _ _ _ _ => rfl) (fun _ _ _ _ => rfl) (List.forall_mem_cons.mpr ⟨sV_X3_finding (Or.inl lk_X3_59) rfl ⟨by decide, by decide⟩, List.forall_mem_cons.mpr ⟨sV_X3_isCrew (Or.inl lk_X3_87) rfl ⟨by decide, by decide⟩, List.forall_mem_cons.mpr ⟨sV_X3_listenForEchoes (Or.inl lk_X3_152) rfl ⟨by decide, by decide⟩, List.forall_mem_cons.mpr ⟨sV_X3_echoBehind (Or.inl lk_X3_158) rfl ⟨by decide, by decide⟩, fun _ h => absurd h List.not_mem_nil⟩⟩⟩⟩) (List.forall_mem_cons.mpr ⟨sS_X3_isCell (Or.inl lk_X3_52) rfl ⟨by decide, by decide⟩, List.forall_mem_cons.mpr ⟨sS_X3_lies (Or.inl lk_X3_118) rfl ⟨by decide, by decide⟩, fun _ h => absurd h List.not_mem_nil⟩⟩)
noncomputable def sX3_chord_70 (y1 : Int32) (y3 : Int32) (y4 : Int32) (y5 : Int32) (z : mm_S) : Option ((Int32 × Int32 × Int32 × Int32 × mm_S) ⊕ (Int32 × mm_S)) := some (.inl (y1, y3, y4, (y5 + 1), z))
theorem kX3_chord_70 (y1 : Int32) (y3 : Int32) (y4 : Int32) (y5 : Int32) (z : mm_S) (oo : mm_R) : mm_Xs (sX3_chord_70 y1 y3 y4 y5 z) (mm_mt (fun x : Int32 × Int32 × Int32 × Int32 × mm_S => ∃ n, eX3_chord_43 n x.1 x.2.1 x.2.2.1 x.2.2.2.1 x.2.2.2.2 = some oo) (fun v => (fun v : Int32 × mm_S => ((some (mm_I v.1), v.2) : mm_R)) v = oo)) (fun n => eX3_chord_70 n y1 y3 y4 y5 z) oo :=
  xs_row (fun n => qX3_chord_70 n y1 y3 y4 y5 z) (xs_v fun hc => hc)
noncomputable def sX3_chord_58 (y1 : Int32) (y3 : Int32) (y4 : Int32) (y5 : Int32) (z : mm_S) : Option ((Int32 × Int32 × Int32 × Int32 × mm_S) ⊕ (Int32 × mm_S)) := if y4 = (-1) then (sX3_finding 3 z).bind fun q6 => some (.inr (q6.1, q6.2)) else (sX3_chord_70 y1 y3 y4 y5 z)
theorem kX3_chord_58 (y1 : Int32) (y3 : Int32) (y4 : Int32) (y5 : Int32) (z : mm_S) (oo : mm_R) : mm_Xs (sX3_chord_58 y1 y3 y4 y5 z) (mm_mt (fun x : Int32 × Int32 × Int32 × Int32 × mm_S => ∃ n, eX3_chord_43 n x.1 x.2.1 x.2.2.1 x.2.2.2.1 x.2.2.2.2 = some oo) (fun v => (fun v : Int32 × mm_S => ((some (mm_I v.1), v.2) : mm_R)) v = oo)) (fun n => eX3_chord_58 n y1 y3 y4 y5 z) oo :=
  xs_row (fun n => qX3_chord_58 n y1 y3 y4 y5 z) (xs_if (xs_bd fun q6 => (xs_v fun hc => ⟨0, congrArg some hc⟩)) (kX3_chord_70 y1 y3 y4 y5 z oo))
noncomputable def lX3_chord_43 (s : Int32 × Int32 × Int32 × Int32 × mm_S) : Option ((Int32 × Int32 × Int32 × Int32 × mm_S) ⊕ (Int32 × mm_S)) := if s.2.1 < s.2.2.2.1 then some (.inr (s.2.2.1, s.2.2.2.2)) else (sX3_echoBehind s.2.2.1 s.1 s.2.2.2.2).bind fun q5 => (sX3_chord_58 s.1 s.2.1 q5.1 s.2.2.2.1 q5.2)
noncomputable def sX3_chord_43 (y1 : Int32) (y3 : Int32) (y4 : Int32) (y5 : Int32) (z : mm_S) : Option (Int32 × mm_S) := mm_wh (lX3_chord_43 ) mm_fu (y1, y3, y4, y5, z)
theorem kX3_chord_43 (y1 : Int32) (y3 : Int32) (y4 : Int32) (y5 : Int32) (z : mm_S) (oo : mm_R) : mm_Xs (sX3_chord_43 y1 y3 y4 y5 z) (fun v => (fun v : Int32 × mm_S => ((some (mm_I v.1), v.2) : mm_R)) v = oo) (fun n => eX3_chord_43 n y1 y3 y4 y5 z) oo :=
  xs_wh (stp := lX3_chord_43 ) (o := oo) (E := (fun (s : Int32 × Int32 × Int32 × Int32 × mm_S) n => eX3_chord_43 n s.1 s.2.1 s.2.2.1 s.2.2.2.1 s.2.2.2.2)) (C := (fun v => (fun v : Int32 × mm_S => ((some (mm_I v.1), v.2) : mm_R)) v = oo)) (fun s => xs_row (fun n => qX3_chord_43 n s.1 s.2.1 s.2.2.1 s.2.2.2.1 s.2.2.2.2) (xs_if (xs_v fun hc => ⟨0, congrArg some hc⟩) (xs_bd fun q5 => (kX3_chord_58 s.1 s.2.1 q5.1 s.2.2.2.1 q5.2 oo)))) mm_fu (y1, y3, y4, y5, z)
noncomputable def sX3_chord_37 (y1 : Int32) (y3 : Int32) (z : mm_S) : Option (Int32 × mm_S) := (sX3_chord_43 y1 y3 (-1) 0 z)
theorem kX3_chord_37 (y1 : Int32) (y3 : Int32) (z : mm_S) (oo : mm_R) : mm_Xs (sX3_chord_37 y1 y3 z) (fun v => (fun v : Int32 × mm_S => ((some (mm_I v.1), v.2) : mm_R)) v = oo) (fun n => eX3_chord_37 n y1 y3 z) oo :=
  xs_row (fun n => qX3_chord_37 n y1 y3 z) (kX3_chord_43 y1 y3 (-1) 0 z oo)
noncomputable def sX3_chord_31 (y1 : Int32) (y2 : Int32) (y3 : Int32) (z : mm_S) : Option (Int32 × mm_S) := (sX3_listenForEchoes y1 y2 z).bind fun q4 => (sX3_chord_37 y1 y3 q4)
theorem kX3_chord_31 (y1 : Int32) (y2 : Int32) (y3 : Int32) (z : mm_S) (oo : mm_R) : mm_Xs (sX3_chord_31 y1 y2 y3 z) (fun v => (fun v : Int32 × mm_S => ((some (mm_I v.1), v.2) : mm_R)) v = oo) (fun n => eX3_chord_31 n y1 y2 y3 z) oo :=
  xs_row (fun n => qX3_chord_31 n y1 y2 y3 z) (xs_bd fun q4 => (kX3_chord_37 y1 y3 q4 oo))
noncomputable def sX3_chord_0 (x1 : Int32) (x2 : Int32) (x3 : Int32) (z : mm_S) : Option (Int32 × mm_S) := if (pX3_isCrew x1 z) = 0 then (sX3_finding 0 z).bind fun q1 => some (q1.1, q1.2) else if (pX3_isCell x2) = 0 then (sX3_finding 0 z).bind fun q2 => some (q2.1, q2.2) else if (pX3_lies x3 0 35) = 0 then (sX3_finding 0 z).bind fun q3 => some (q3.1, q3.2) else (sX3_chord_31 x1 x2 x3 z)
theorem kX3_chord_0 (x1 : Int32) (x2 : Int32) (x3 : Int32) (z : mm_S) (oo : mm_R) : mm_Xs (sX3_chord_0 x1 x2 x3 z) (fun v => (fun v : Int32 × mm_S => ((some (mm_I v.1), v.2) : mm_R)) v = oo) (fun n => eX3_chord_0 n x1 x2 x3 z) oo :=
  xs_row (fun n => qX3_chord_0 n x1 x2 x3 z) (xs_if (xs_bd fun q1 => (xs_v fun hc => ⟨0, congrArg some hc⟩)) (xs_if (xs_bd fun q2 => (xs_v fun hc => ⟨0, congrArg some hc⟩)) (xs_if (xs_bd fun q3 => (xs_v fun hc => ⟨0, congrArg some hc⟩)) (kX3_chord_31 x1 x2 x3 z oo))))
noncomputable def sX3_chord (x1 : Int32) (x2 : Int32) (x3 : Int32) (z : mm_S) : Option (Int32 × mm_S) := sX3_chord_0 x1 x2 x3 z
theorem sp_X3_chord (x1 : Int32) (x2 : Int32) (x3 : Int32) (z : mm_S) (hk : ∀ v ∈ [mm_P 3 0, mm_I x1, mm_I x2, mm_I x3], mm_ok 46 lyTX 48 17 v) (q : Int32 × mm_S) (hq : sX3_chord x1 x2 x3 z = some q) : f_X3_chord [mm_P 3 0, mm_I x1, mm_I x2, mm_I x3] z (some (mm_I q.1), q.2) := ⟨Nat.le_of_ble_eq_true rfl, kX3_chord_0 x1 x2 x3 z _ q hq rfl⟩
noncomputable def clo_X3_chord (as : List mm_V) (z : mm_S) (kk : Option mm_V → mm_S → Option mm_R) : Option mm_R := mm_pr as fun t o0 as => bif Nat.beq t 3 then mm_pi as fun a1 as => mm_pi as fun a2 as => mm_pi as fun a3 as => (match as with | [] => (sX3_chord a1 a2 a3 z).bind fun q => kk (some (mm_I q.1)) q.2 | _ => none) else none
theorem cs_X3_chord : mm_cs lyTX 46 48 17 f_X3_chord clo_X3_chord := by
  intro as z K o hk h
  obtain ⟨t0, o0, r0, rfl, g0⟩ := mm_pr_e h
  obtain ⟨b0, k0⟩ := mm_bif_e g0
  obtain rfl := Nat.eq_of_beq_eq_true b0
  obtain ⟨a1, r1, rfl, g1⟩ := mm_pi_e k0
  obtain ⟨a2, r2, rfl, g2⟩ := mm_pi_e g1
  obtain ⟨a3, r3, rfl, g3⟩ := mm_pi_e g2
  rcases r3 with _ | ⟨u, w⟩
  rotate_left
  · cases g3
  obtain rfl : o0 = 0 := ok3 (hk (mm_P 3 o0) (by simp))
  obtain ⟨q, hq, hq2⟩ := Option.bind_eq_some_iff.mp g3
  exact ⟨_, _, sp_X3_chord a1 a2 a3 z hk q hq, fun v hv => by cases hv; exact Or.inl ⟨_, rfl⟩, hq2⟩
theorem sV_X3_chord {own : String} {R : Room} {ar : Nat → Nat} {k : Nat} (hlink : Cond.methodLink own k yX3_chord ∈ lw_gd ∨ ∃ host, (own, k, yX3_chord, host) ∈ nmA) (har : ar k = 4) (hr : 6 ≤ R.frames ∧ 154 ≤ R.locals) : mm_okV lyTX lyFA lenX snX 46 48 17 roX rsA nfA nmA ssX own R ar k clo_X3_chord := by
  refine ⟨yX3_chord, cX3_chord, 6, some .int, rm_X3_chord, f_X3_chord, 3, 3, (RX3, TX3, 12), M_X3_chord, cs_X3_chord, hlink, ⟨wv_X3_chord, wz_X3_chord, wi_X3_chord, wc_X3_chord⟩, ⟨by decide +kernel, by decide +kernel, by decide +kernel⟩, har, ⟨rfl, rfl, by decide⟩, ?_, ⟨rfl, rfl, hr.1, hr.2⟩⟩
  intro as z K o h
  obtain ⟨t0, o0, r0, rfl, g0⟩ := mm_pr_e h
  obtain ⟨b0, k0⟩ := mm_bif_e g0
  obtain rfl := Nat.eq_of_beq_eq_true b0
  exact ⟨_, _, rfl⟩
-- X3_last
noncomputable def lV_X3_last : List (Nat × (List mm_V → mm_S → (Option mm_V → mm_S → Option mm_R) → Option mm_R)) := [(59, clo_X3_finding), (87, clo_X3_isCrew), (93, clo_X0_placeOf), (146, clo_X0_heardAt), (161, clo_X1_timesFrom), (169, clo_X1_paceOf)]
noncomputable def mV_X3_last (k : Nat) (as : List mm_V) (z : mm_S) (kk : Option mm_V → mm_S → Option mm_R) : Option mm_R := match mm_at lV_X3_last k with
  | some f => f as z kk
  | none => none
noncomputable def arV_X3_last (k : Nat) : Nat := (mm_at [(59, 2), (87, 2), (93, 2), (146, 3), (161, 3), (169, 2)] k).getD 0
noncomputable def lS_X3_last : List (Nat × (List mm_V → mm_S → (Option mm_V → mm_S → Option mm_R) → Option mm_R)) := [(52, clo_X3_isCell), (165, clo_X3_at), (172, clo_X3_setOf), (175, clo_X3_besides), (179, clo_X3_has)]
noncomputable def mS_X3_last (k : Nat) (as : List mm_V) (z : mm_S) (kk : Option mm_V → mm_S → Option mm_R) : Option mm_R := match mm_at lS_X3_last k with
  | some f => f as z kk
  | none => none
noncomputable def arS_X3_last (k : Nat) : Nat := (mm_at [(52, 1), (165, 2), (172, 1), (175, 1), (179, 2)] k).getD 0
def ct_X3_last : List (Nat × List Nat) := [(21, [0, 1, 2]), (34, [0]), (40, [0, 1, 2]), (58, [0, 1, 2]), (80, [0, 2]), (113, [0, 3, 4, 6])]
noncomputable def go_X3_last : Nat → mm_K := mm_go (fun k => mm_at flX3 k) (fun k => mm_at clX3 k) (fun k => mm_at glX3 k) arV_X3_last arS_X3_last mV_X3_last mS_X3_last lenX roX snX 7 0 tbX3_last ct_X3_last
noncomputable def eX3_last_0 (n : Nat)  (x1 : Int32) (x2 : Int32) (z : mm_S) : Option mm_R := go_X3_last n 0 [(0, mm_P 3 0), (1, mm_I x1), (2, mm_I x2)] [] z
noncomputable def eX3_last_21 (n : Nat)  (y1 : Int32) (y2 : Int32) (z : mm_S) : Option mm_R := go_X3_last n 21 [(0, mm_P 3 0), (1, mm_I y1), (2, mm_I y2)] [] z
noncomputable def eX3_last_40 (n : Nat)  (y1 : Int32) (y2 : Int32) (z : mm_S) : Option mm_R := go_X3_last n 40 [(0, mm_P 3 0), (1, mm_I y1), (2, mm_I y2)] [] z
noncomputable def eX3_last_34 (n : Nat)  (z : mm_S) : Option mm_R := go_X3_last n 34 [(0, mm_P 3 0)] [] z
noncomputable def eX3_last_58 (n : Nat)  (y1 : Int32) (y2 : Int32) (z : mm_S) : Option mm_R := go_X3_last n 58 [(0, mm_P 3 0), (1, mm_I y1), (2, mm_I y2)] [] z
noncomputable def eX3_last_80 (n : Nat)  (y2 : Int32) (z : mm_S) : Option mm_R := go_X3_last n 80 [(0, mm_P 3 0), (2, mm_I y2)] [] z
noncomputable def eX3_last_113 (n : Nat)  (y3 : Int32) (y4 : Int64) (y6 : Int32) (z : mm_S) : Option mm_R := go_X3_last n 113 [(0, mm_P 3 0), (3, mm_I y3), (4, mm_J y4), (6, mm_I y6)] [] z
set_option maxRecDepth 100000 in
theorem qX3_last_0 (n : Nat)  (x1 : Int32) (x2 : Int32) (z : mm_S) : eX3_last_0 (n + 1) x1 x2 z = (if (pX3_isCrew x1 z) = 0 then (sX3_finding 0 z).bind fun q1 => some (some (mm_I q1.1), q1.2) else if (pX3_isCell x2) = 0 then (sX3_finding 0 z).bind fun q2 => some (some (mm_I q2.1), q2.2) else eX3_last_21 n x1 x2 z) := rfl
set_option maxRecDepth 100000 in
theorem qX3_last_21 (n : Nat)  (y1 : Int32) (y2 : Int32) (z : mm_S) : eX3_last_21 (n + 1) y1 y2 z = ((sX0_heardAt 1 y1 y2 z).bind fun q3 => if q3.1 = (-1) then eX3_last_34 n  q3.2 else eX3_last_40 n y1 y2 q3.2) := rfl
set_option maxRecDepth 100000 in
theorem qX3_last_40 (n : Nat)  (y1 : Int32) (y2 : Int32) (z : mm_S) : eX3_last_40 (n + 1) y1 y2 z = (if (pX0_placeOf 1 y1 z) = y2 then (sX3_finding 4 z).bind fun q4 => some (some (mm_I q4.1), q4.2) else eX3_last_58 n y1 y2 z) := rfl
set_option maxRecDepth 100000 in
theorem qX3_last_34 (n : Nat)  (z : mm_S) : eX3_last_34 (n + 1)  z = ((sX3_finding 3 z).bind fun q5 => some (some (mm_I q5.1), q5.2)) := rfl
set_option maxRecDepth 100000 in
theorem qX3_last_58 (n : Nat)  (y1 : Int32) (y2 : Int32) (z : mm_S) : eX3_last_58 (n + 1) y1 y2 z = ((sX1_timesFrom 2 (pX0_placeOf 1 y1 z) 43 z).bind fun q6 => eX3_last_80 n y2 q6) := rfl
set_option maxRecDepth 100000 in
theorem qX3_last_80 (n : Nat)  (y2 : Int32) (z : mm_S) : eX3_last_80 (n + 1) y2 z = (eX3_last_113 n ((pX3_at 43 y2 z) - (pX1_paceOf 2 y2 z)) (pX3_besides (pX3_setOf y2)) 0 z) := rfl
set_option maxRecDepth 100000 in
theorem qX3_last_113 (n : Nat)  (y3 : Int32) (y4 : Int64) (y6 : Int32) (z : mm_S) : eX3_last_113 (n + 1) y3 y4 y6 z = (if 36 ≤ y6 then (sX3_finding 3 z).bind fun q7 => some (some (mm_I q7.1), q7.2) else if (pX3_has y4 y6) = 0 then eX3_last_113 n y3 y4 (y6 + 1) z else if (pX3_at 43 y6 z) = y3 then some (some (mm_I y6), z) else eX3_last_113 n y3 y4 (y6 + 1) z) := rfl
def rm_X3_last : Room := { frames := 5, cells := 0, slots := 0, locals := 107 }
noncomputable def f_X3_last (as : List mm_V) (z : mm_S) (o : mm_R) : Prop := (as.map mm_cat).sum ≤ 7 ∧ ∃ n, go_X3_last n 0 (mm_ar 0 as) [] z = some o
theorem M_X3_last : mm_M lyTX lyFA lenX snX 46 48 17 roX rsA nfA nmA ssX yX3_last cX3_last 7 (some .int) rm_X3_last f_X3_last :=
  mm_met (rt := 0) (by decide +kernel) ⟨fun h => rfl, fun h => absurd h (by decide), fun h => absurd h (by decide), fun h => absurd h (by decide)⟩ tbX3_last_ok hsnX okFX3 okLX3 okGX3 (fun _ _ _ _ => rfl) (fun _ _ _ _ => rfl) (List.forall_mem_cons.mpr ⟨sV_X3_finding (Or.inl lk_X3_59) rfl ⟨by decide, by decide⟩, List.forall_mem_cons.mpr ⟨sV_X3_isCrew (Or.inl lk_X3_87) rfl ⟨by decide, by decide⟩, List.forall_mem_cons.mpr ⟨sV_X0_placeOf (Or.inl lk_X3_93) rfl ⟨by decide, by decide⟩, List.forall_mem_cons.mpr ⟨sV_X0_heardAt (Or.inl lk_X3_146) rfl ⟨by decide, by decide⟩, List.forall_mem_cons.mpr ⟨sV_X1_timesFrom (Or.inl lk_X3_161) rfl ⟨by decide, by decide⟩, List.forall_mem_cons.mpr ⟨sV_X1_paceOf (Or.inl lk_X3_169) rfl ⟨by decide, by decide⟩, fun _ h => absurd h List.not_mem_nil⟩⟩⟩⟩⟩⟩) (List.forall_mem_cons.mpr ⟨sS_X3_isCell (Or.inl lk_X3_52) rfl ⟨by decide, by decide⟩, List.forall_mem_cons.mpr ⟨sS_X3_at (Or.inl lk_X3_165) rfl ⟨by decide, by decide⟩, List.forall_mem_cons.mpr ⟨sS_X3_setOf (Or.inl lk_X3_172) rfl ⟨by decide, by decide⟩, List.forall_mem_cons.mpr ⟨sS_X3_besides (Or.inl lk_X3_175) rfl ⟨by decide, by decide⟩, List.forall_mem_cons.mpr ⟨sS_X3_has (Or.inl lk_X3_179) rfl ⟨by decide, by decide⟩, fun _ h => absurd h List.not_mem_nil⟩⟩⟩⟩⟩)
noncomputable def sX3_last_34  (z : mm_S) : Option (Int32 × mm_S) := (sX3_finding 3 z).bind fun q5 => some (q5.1, q5.2)
theorem kX3_last_34  (z : mm_S) (oo : mm_R) : mm_Xs (sX3_last_34  z) (fun v => (fun v : Int32 × mm_S => ((some (mm_I v.1), v.2) : mm_R)) v = oo) (fun n => eX3_last_34 n  z) oo :=
  xs_row (fun n => qX3_last_34 n z) (xs_bd fun q5 => (xs_v fun hc => ⟨0, congrArg some hc⟩))
noncomputable def lX3_last_113 (s : Int32 × Int64 × Int32 × mm_S) : Option ((Int32 × Int64 × Int32 × mm_S) ⊕ (Int32 × mm_S)) := if 36 ≤ s.2.2.1 then (sX3_finding 3 s.2.2.2).bind fun q7 => some (.inr (q7.1, q7.2)) else if (pX3_has s.2.1 s.2.2.1) = 0 then some (.inl (s.1, s.2.1, (s.2.2.1 + 1), s.2.2.2)) else if (pX3_at 43 s.2.2.1 s.2.2.2) = s.1 then some (.inr (s.2.2.1, s.2.2.2)) else some (.inl (s.1, s.2.1, (s.2.2.1 + 1), s.2.2.2))
noncomputable def sX3_last_113 (y3 : Int32) (y4 : Int64) (y6 : Int32) (z : mm_S) : Option (Int32 × mm_S) := mm_wh (lX3_last_113 ) mm_fu (y3, y4, y6, z)
theorem kX3_last_113 (y3 : Int32) (y4 : Int64) (y6 : Int32) (z : mm_S) (oo : mm_R) : mm_Xs (sX3_last_113 y3 y4 y6 z) (fun v => (fun v : Int32 × mm_S => ((some (mm_I v.1), v.2) : mm_R)) v = oo) (fun n => eX3_last_113 n y3 y4 y6 z) oo :=
  xs_wh (stp := lX3_last_113 ) (o := oo) (E := (fun (s : Int32 × Int64 × Int32 × mm_S) n => eX3_last_113 n s.1 s.2.1 s.2.2.1 s.2.2.2)) (C := (fun v => (fun v : Int32 × mm_S => ((some (mm_I v.1), v.2) : mm_R)) v = oo)) (fun s => xs_row (fun n => qX3_last_113 n s.1 s.2.1 s.2.2.1 s.2.2.2) (xs_if (xs_bd fun q7 => (xs_v fun hc => ⟨0, congrArg some hc⟩)) (xs_if (xs_v fun hc => hc) (xs_if (xs_v fun hc => ⟨0, congrArg some hc⟩) (xs_v fun hc => hc))))) mm_fu (y3, y4, y6, z)
noncomputable def sX3_last_80 (y2 : Int32) (z : mm_S) : Option (Int32 × mm_S) := (sX3_last_113 ((pX3_at 43 y2 z) - (pX1_paceOf 2 y2 z)) (pX3_besides (pX3_setOf y2)) 0 z)
theorem kX3_last_80 (y2 : Int32) (z : mm_S) (oo : mm_R) : mm_Xs (sX3_last_80 y2 z) (fun v => (fun v : Int32 × mm_S => ((some (mm_I v.1), v.2) : mm_R)) v = oo) (fun n => eX3_last_80 n y2 z) oo :=
  xs_row (fun n => qX3_last_80 n y2 z) (kX3_last_113 ((pX3_at 43 y2 z) - (pX1_paceOf 2 y2 z)) (pX3_besides (pX3_setOf y2)) 0 z oo)
noncomputable def sX3_last_58 (y1 : Int32) (y2 : Int32) (z : mm_S) : Option (Int32 × mm_S) := (sX1_timesFrom 2 (pX0_placeOf 1 y1 z) 43 z).bind fun q6 => (sX3_last_80 y2 q6)
theorem kX3_last_58 (y1 : Int32) (y2 : Int32) (z : mm_S) (oo : mm_R) : mm_Xs (sX3_last_58 y1 y2 z) (fun v => (fun v : Int32 × mm_S => ((some (mm_I v.1), v.2) : mm_R)) v = oo) (fun n => eX3_last_58 n y1 y2 z) oo :=
  xs_row (fun n => qX3_last_58 n y1 y2 z) (xs_bd fun q6 => (kX3_last_80 y2 q6 oo))
noncomputable def sX3_last_40 (y1 : Int32) (y2 : Int32) (z : mm_S) : Option (Int32 × mm_S) := if (pX0_placeOf 1 y1 z) = y2 then (sX3_finding 4 z).bind fun q4 => some (q4.1, q4.2) else (sX3_last_58 y1 y2 z)
theorem kX3_last_40 (y1 : Int32) (y2 : Int32) (z : mm_S) (oo : mm_R) : mm_Xs (sX3_last_40 y1 y2 z) (fun v => (fun v : Int32 × mm_S => ((some (mm_I v.1), v.2) : mm_R)) v = oo) (fun n => eX3_last_40 n y1 y2 z) oo :=
  xs_row (fun n => qX3_last_40 n y1 y2 z) (xs_if (xs_bd fun q4 => (xs_v fun hc => ⟨0, congrArg some hc⟩)) (kX3_last_58 y1 y2 z oo))
noncomputable def sX3_last_21 (y1 : Int32) (y2 : Int32) (z : mm_S) : Option (Int32 × mm_S) := (sX0_heardAt 1 y1 y2 z).bind fun q3 => if q3.1 = (-1) then (sX3_last_34 q3.2) else (sX3_last_40 y1 y2 q3.2)
theorem kX3_last_21 (y1 : Int32) (y2 : Int32) (z : mm_S) (oo : mm_R) : mm_Xs (sX3_last_21 y1 y2 z) (fun v => (fun v : Int32 × mm_S => ((some (mm_I v.1), v.2) : mm_R)) v = oo) (fun n => eX3_last_21 n y1 y2 z) oo :=
  xs_row (fun n => qX3_last_21 n y1 y2 z) (xs_bd fun q3 => (xs_if (kX3_last_34 q3.2 oo) (kX3_last_40 y1 y2 q3.2 oo)))
noncomputable def sX3_last_0 (x1 : Int32) (x2 : Int32) (z : mm_S) : Option (Int32 × mm_S) := if (pX3_isCrew x1 z) = 0 then (sX3_finding 0 z).bind fun q1 => some (q1.1, q1.2) else if (pX3_isCell x2) = 0 then (sX3_finding 0 z).bind fun q2 => some (q2.1, q2.2) else (sX3_last_21 x1 x2 z)
theorem kX3_last_0 (x1 : Int32) (x2 : Int32) (z : mm_S) (oo : mm_R) : mm_Xs (sX3_last_0 x1 x2 z) (fun v => (fun v : Int32 × mm_S => ((some (mm_I v.1), v.2) : mm_R)) v = oo) (fun n => eX3_last_0 n x1 x2 z) oo :=
  xs_row (fun n => qX3_last_0 n x1 x2 z) (xs_if (xs_bd fun q1 => (xs_v fun hc => ⟨0, congrArg some hc⟩)) (xs_if (xs_bd fun q2 => (xs_v fun hc => ⟨0, congrArg some hc⟩)) (kX3_last_21 x1 x2 z oo)))
noncomputable def sX3_last (x1 : Int32) (x2 : Int32) (z : mm_S) : Option (Int32 × mm_S) := sX3_last_0 x1 x2 z
theorem sp_X3_last (x1 : Int32) (x2 : Int32) (z : mm_S) (hk : ∀ v ∈ [mm_P 3 0, mm_I x1, mm_I x2], mm_ok 46 lyTX 48 17 v) (q : Int32 × mm_S) (hq : sX3_last x1 x2 z = some q) : f_X3_last [mm_P 3 0, mm_I x1, mm_I x2] z (some (mm_I q.1), q.2) := ⟨Nat.le_of_ble_eq_true rfl, kX3_last_0 x1 x2 z _ q hq rfl⟩
noncomputable def clo_X3_last (as : List mm_V) (z : mm_S) (kk : Option mm_V → mm_S → Option mm_R) : Option mm_R := mm_pr as fun t o0 as => bif Nat.beq t 3 then mm_pi as fun a1 as => mm_pi as fun a2 as => (match as with | [] => (sX3_last a1 a2 z).bind fun q => kk (some (mm_I q.1)) q.2 | _ => none) else none
theorem cs_X3_last : mm_cs lyTX 46 48 17 f_X3_last clo_X3_last := by
  intro as z K o hk h
  obtain ⟨t0, o0, r0, rfl, g0⟩ := mm_pr_e h
  obtain ⟨b0, k0⟩ := mm_bif_e g0
  obtain rfl := Nat.eq_of_beq_eq_true b0
  obtain ⟨a1, r1, rfl, g1⟩ := mm_pi_e k0
  obtain ⟨a2, r2, rfl, g2⟩ := mm_pi_e g1
  rcases r2 with _ | ⟨u, w⟩
  rotate_left
  · cases g2
  obtain rfl : o0 = 0 := ok3 (hk (mm_P 3 o0) (by simp))
  obtain ⟨q, hq, hq2⟩ := Option.bind_eq_some_iff.mp g2
  exact ⟨_, _, sp_X3_last a1 a2 z hk q hq, fun v hv => by cases hv; exact Or.inl ⟨_, rfl⟩, hq2⟩
theorem sV_X3_last {own : String} {R : Room} {ar : Nat → Nat} {k : Nat} (hlink : Cond.methodLink own k yX3_last ∈ lw_gd ∨ ∃ host, (own, k, yX3_last, host) ∈ nmA) (har : ar k = 3) (hr : 6 ≤ R.frames ∧ 133 ≤ R.locals) : mm_okV lyTX lyFA lenX snX 46 48 17 roX rsA nfA nmA ssX own R ar k clo_X3_last := by
  refine ⟨yX3_last, cX3_last, 7, some .int, rm_X3_last, f_X3_last, 3, 2, (RX3, TX3, 12), M_X3_last, cs_X3_last, hlink, ⟨wv_X3_last, wz_X3_last, wi_X3_last, wc_X3_last⟩, ⟨by decide +kernel, by decide +kernel, by decide +kernel⟩, har, ⟨rfl, rfl, by decide⟩, ?_, ⟨rfl, rfl, hr.1, hr.2⟩⟩
  intro as z K o h
  obtain ⟨t0, o0, r0, rfl, g0⟩ := mm_pr_e h
  obtain ⟨b0, k0⟩ := mm_bif_e g0
  obtain rfl := Nat.eq_of_beq_eq_true b0
  exact ⟨_, _, rfl⟩
-- X3_many
noncomputable def lV_X3_many : List (Nat × (List mm_V → mm_S → (Option mm_V → mm_S → Option mm_R) → Option mm_R)) := [(59, clo_X3_finding), (146, clo_X0_heardAt)]
noncomputable def mV_X3_many (k : Nat) (as : List mm_V) (z : mm_S) (kk : Option mm_V → mm_S → Option mm_R) : Option mm_R := match mm_at lV_X3_many k with
  | some f => f as z kk
  | none => none
noncomputable def arV_X3_many (k : Nat) : Nat := (mm_at [(59, 2), (146, 3)] k).getD 0
noncomputable def lS_X3_many : List (Nat × (List mm_V → mm_S → (Option mm_V → mm_S → Option mm_R) → Option mm_R)) := [(52, clo_X3_isCell)]
noncomputable def mS_X3_many (k : Nat) (as : List mm_V) (z : mm_S) (kk : Option mm_V → mm_S → Option mm_R) : Option mm_R := match mm_at lS_X3_many k with
  | some f => f as z kk
  | none => none
noncomputable def arS_X3_many (k : Nat) : Nat := (mm_at [(52, 1)] k).getD 0
def ct_X3_many : List (Nat × List Nat) := [(13, [0, 1]), (17, [0, 1, 2, 3]), (41, [0, 1, 2, 3])]
noncomputable def go_X3_many : Nat → mm_K := mm_go (fun k => mm_at flX3 k) (fun k => mm_at clX3 k) (fun k => mm_at glX3 k) arV_X3_many arS_X3_many mV_X3_many mS_X3_many lenX roX snX 4 0 tbX3_many ct_X3_many
noncomputable def eX3_many_0 (n : Nat)  (x1 : Int32) (z : mm_S) : Option mm_R := go_X3_many n 0 [(0, mm_P 3 0), (1, mm_I x1)] [] z
noncomputable def eX3_many_13 (n : Nat)  (y1 : Int32) (z : mm_S) : Option mm_R := go_X3_many n 13 [(0, mm_P 3 0), (1, mm_I y1)] [] z
noncomputable def eX3_many_17 (n : Nat)  (y1 : Int32) (y2 : Int32) (y3 : Int32) (z : mm_S) : Option mm_R := go_X3_many n 17 [(0, mm_P 3 0), (1, mm_I y1), (2, mm_I y2), (3, mm_I y3)] [] z
noncomputable def eX3_many_41 (n : Nat)  (y1 : Int32) (y2 : Int32) (y3 : Int32) (z : mm_S) : Option mm_R := go_X3_many n 41 [(0, mm_P 3 0), (1, mm_I y1), (2, mm_I y2), (3, mm_I y3)] [] z
set_option maxRecDepth 100000 in
theorem qX3_many_0 (n : Nat)  (x1 : Int32) (z : mm_S) : eX3_many_0 (n + 1) x1 z = (if (pX3_isCell x1) = 0 then (sX3_finding 0 z).bind fun q1 => some (some (mm_I q1.1), q1.2) else eX3_many_13 n x1 z) := rfl
set_option maxRecDepth 100000 in
theorem qX3_many_13 (n : Nat)  (y1 : Int32) (z : mm_S) : eX3_many_13 (n + 1) y1 z = (eX3_many_17 n y1 0 0 z) := rfl
set_option maxRecDepth 100000 in
theorem qX3_many_17 (n : Nat)  (y1 : Int32) (y2 : Int32) (y3 : Int32) (z : mm_S) : eX3_many_17 (n + 1) y1 y2 y3 z = (if (z.1 1 4) ≤ y3 then some (some (mm_I y2), z) else (sX0_heardAt 1 y3 y1 z).bind fun q2 => if q2.1 = (-1) then eX3_many_17 n y1 y2 (y3 + 1) q2.2 else eX3_many_41 n y1 y2 y3 q2.2) := rfl
set_option maxRecDepth 100000 in
theorem qX3_many_41 (n : Nat)  (y1 : Int32) (y2 : Int32) (y3 : Int32) (z : mm_S) : eX3_many_41 (n + 1) y1 y2 y3 z = (eX3_many_17 n y1 (y2 + 1) (y3 + 1) z) := rfl
def rm_X3_many : Room := { frames := 5, cells := 0, slots := 0, locals := 107 }
noncomputable def f_X3_many (as : List mm_V) (z : mm_S) (o : mm_R) : Prop := (as.map mm_cat).sum ≤ 4 ∧ ∃ n, go_X3_many n 0 (mm_ar 0 as) [] z = some o
theorem M_X3_many : mm_M lyTX lyFA lenX snX 46 48 17 roX rsA nfA nmA ssX yX3_many cX3_many 4 (some .int) rm_X3_many f_X3_many :=
  mm_met (rt := 0) (by decide +kernel) ⟨fun h => rfl, fun h => absurd h (by decide), fun h => absurd h (by decide), fun h => absurd h (by decide)⟩ tbX3_many_ok hsnX okFX3 okLX3 okGX3 (fun _ _ _ _ => rfl) (fun _ _ _ _ => rfl) (List.forall_mem_cons.mpr ⟨sV_X3_finding (Or.inl lk_X3_59) rfl ⟨by decide, by decide⟩, List.forall_mem_cons.mpr ⟨sV_X0_heardAt (Or.inl lk_X3_146) rfl ⟨by decide, by decide⟩, fun _ h => absurd h List.not_mem_nil⟩⟩) (List.forall_mem_cons.mpr ⟨sS_X3_isCell (Or.inl lk_X3_52) rfl ⟨by decide, by decide⟩, fun _ h => absurd h List.not_mem_nil⟩)
noncomputable def sX3_many_41 (y1 : Int32) (y2 : Int32) (y3 : Int32) (z : mm_S) : Option ((Int32 × Int32 × Int32 × mm_S) ⊕ (Int32 × mm_S)) := some (.inl (y1, (y2 + 1), (y3 + 1), z))
theorem kX3_many_41 (y1 : Int32) (y2 : Int32) (y3 : Int32) (z : mm_S) (oo : mm_R) : mm_Xs (sX3_many_41 y1 y2 y3 z) (mm_mt (fun x : Int32 × Int32 × Int32 × mm_S => ∃ n, eX3_many_17 n x.1 x.2.1 x.2.2.1 x.2.2.2 = some oo) (fun v => (fun v : Int32 × mm_S => ((some (mm_I v.1), v.2) : mm_R)) v = oo)) (fun n => eX3_many_41 n y1 y2 y3 z) oo :=
  xs_row (fun n => qX3_many_41 n y1 y2 y3 z) (xs_v fun hc => hc)
noncomputable def lX3_many_17 (s : Int32 × Int32 × Int32 × mm_S) : Option ((Int32 × Int32 × Int32 × mm_S) ⊕ (Int32 × mm_S)) := if (s.2.2.2.1 1 4) ≤ s.2.2.1 then some (.inr (s.2.1, s.2.2.2)) else (sX0_heardAt 1 s.2.2.1 s.1 s.2.2.2).bind fun q2 => if q2.1 = (-1) then some (.inl (s.1, s.2.1, (s.2.2.1 + 1), q2.2)) else (sX3_many_41 s.1 s.2.1 s.2.2.1 q2.2)
noncomputable def sX3_many_17 (y1 : Int32) (y2 : Int32) (y3 : Int32) (z : mm_S) : Option (Int32 × mm_S) := mm_wh (lX3_many_17 ) mm_fu (y1, y2, y3, z)
theorem kX3_many_17 (y1 : Int32) (y2 : Int32) (y3 : Int32) (z : mm_S) (oo : mm_R) : mm_Xs (sX3_many_17 y1 y2 y3 z) (fun v => (fun v : Int32 × mm_S => ((some (mm_I v.1), v.2) : mm_R)) v = oo) (fun n => eX3_many_17 n y1 y2 y3 z) oo :=
  xs_wh (stp := lX3_many_17 ) (o := oo) (E := (fun (s : Int32 × Int32 × Int32 × mm_S) n => eX3_many_17 n s.1 s.2.1 s.2.2.1 s.2.2.2)) (C := (fun v => (fun v : Int32 × mm_S => ((some (mm_I v.1), v.2) : mm_R)) v = oo)) (fun s => xs_row (fun n => qX3_many_17 n s.1 s.2.1 s.2.2.1 s.2.2.2) (xs_if (xs_v fun hc => ⟨0, congrArg some hc⟩) (xs_bd fun q2 => (xs_if (xs_v fun hc => hc) (kX3_many_41 s.1 s.2.1 s.2.2.1 q2.2 oo))))) mm_fu (y1, y2, y3, z)
noncomputable def sX3_many_13 (y1 : Int32) (z : mm_S) : Option (Int32 × mm_S) := (sX3_many_17 y1 0 0 z)
theorem kX3_many_13 (y1 : Int32) (z : mm_S) (oo : mm_R) : mm_Xs (sX3_many_13 y1 z) (fun v => (fun v : Int32 × mm_S => ((some (mm_I v.1), v.2) : mm_R)) v = oo) (fun n => eX3_many_13 n y1 z) oo :=
  xs_row (fun n => qX3_many_13 n y1 z) (kX3_many_17 y1 0 0 z oo)
noncomputable def sX3_many_0 (x1 : Int32) (z : mm_S) : Option (Int32 × mm_S) := if (pX3_isCell x1) = 0 then (sX3_finding 0 z).bind fun q1 => some (q1.1, q1.2) else (sX3_many_13 x1 z)
theorem kX3_many_0 (x1 : Int32) (z : mm_S) (oo : mm_R) : mm_Xs (sX3_many_0 x1 z) (fun v => (fun v : Int32 × mm_S => ((some (mm_I v.1), v.2) : mm_R)) v = oo) (fun n => eX3_many_0 n x1 z) oo :=
  xs_row (fun n => qX3_many_0 n x1 z) (xs_if (xs_bd fun q1 => (xs_v fun hc => ⟨0, congrArg some hc⟩)) (kX3_many_13 x1 z oo))
noncomputable def sX3_many (x1 : Int32) (z : mm_S) : Option (Int32 × mm_S) := sX3_many_0 x1 z
theorem sp_X3_many (x1 : Int32) (z : mm_S) (hk : ∀ v ∈ [mm_P 3 0, mm_I x1], mm_ok 46 lyTX 48 17 v) (q : Int32 × mm_S) (hq : sX3_many x1 z = some q) : f_X3_many [mm_P 3 0, mm_I x1] z (some (mm_I q.1), q.2) := ⟨Nat.le_of_ble_eq_true rfl, kX3_many_0 x1 z _ q hq rfl⟩
noncomputable def clo_X3_many (as : List mm_V) (z : mm_S) (kk : Option mm_V → mm_S → Option mm_R) : Option mm_R := mm_pr as fun t o0 as => bif Nat.beq t 3 then mm_pi as fun a1 as => (match as with | [] => (sX3_many a1 z).bind fun q => kk (some (mm_I q.1)) q.2 | _ => none) else none
theorem cs_X3_many : mm_cs lyTX 46 48 17 f_X3_many clo_X3_many := by
  intro as z K o hk h
  obtain ⟨t0, o0, r0, rfl, g0⟩ := mm_pr_e h
  obtain ⟨b0, k0⟩ := mm_bif_e g0
  obtain rfl := Nat.eq_of_beq_eq_true b0
  obtain ⟨a1, r1, rfl, g1⟩ := mm_pi_e k0
  rcases r1 with _ | ⟨u, w⟩
  rotate_left
  · cases g1
  obtain rfl : o0 = 0 := ok3 (hk (mm_P 3 o0) (by simp))
  obtain ⟨q, hq, hq2⟩ := Option.bind_eq_some_iff.mp g1
  exact ⟨_, _, sp_X3_many a1 z hk q hq, fun v hv => by cases hv; exact Or.inl ⟨_, rfl⟩, hq2⟩
theorem sV_X3_many {own : String} {R : Room} {ar : Nat → Nat} {k : Nat} (hlink : Cond.methodLink own k yX3_many ∈ lw_gd ∨ ∃ host, (own, k, yX3_many, host) ∈ nmA) (har : ar k = 2) (hr : 6 ≤ R.frames ∧ 130 ≤ R.locals) : mm_okV lyTX lyFA lenX snX 46 48 17 roX rsA nfA nmA ssX own R ar k clo_X3_many := by
  refine ⟨yX3_many, cX3_many, 4, some .int, rm_X3_many, f_X3_many, 3, 1, (RX3, TX3, 12), M_X3_many, cs_X3_many, hlink, ⟨wv_X3_many, wz_X3_many, wi_X3_many, wc_X3_many⟩, ⟨by decide +kernel, by decide +kernel, by decide +kernel⟩, har, ⟨rfl, rfl, by decide⟩, ?_, ⟨rfl, rfl, hr.1, hr.2⟩⟩
  intro as z K o h
  obtain ⟨t0, o0, r0, rfl, g0⟩ := mm_pr_e h
  obtain ⟨b0, k0⟩ := mm_bif_e g0
  obtain rfl := Nat.eq_of_beq_eq_true b0
  exact ⟨_, _, rfl⟩
-- X3_silent
noncomputable def lV_X3_silent : List (Nat × (List mm_V → mm_S → (Option mm_V → mm_S → Option mm_R) → Option mm_R)) := [(183, clo_X0_silentCells)]
noncomputable def mV_X3_silent (k : Nat) (as : List mm_V) (z : mm_S) (kk : Option mm_V → mm_S → Option mm_R) : Option mm_R := match mm_at lV_X3_silent k with
  | some f => f as z kk
  | none => none
noncomputable def arV_X3_silent (k : Nat) : Nat := (mm_at [(183, 1)] k).getD 0
noncomputable def lS_X3_silent : List (Nat × (List mm_V → mm_S → (Option mm_V → mm_S → Option mm_R) → Option mm_R)) := []
noncomputable def mS_X3_silent (k : Nat) (as : List mm_V) (z : mm_S) (kk : Option mm_V → mm_S → Option mm_R) : Option mm_R := match mm_at lS_X3_silent k with
  | some f => f as z kk
  | none => none
noncomputable def arS_X3_silent (k : Nat) : Nat := (mm_at [] k).getD 0
def ct_X3_silent : List (Nat × List Nat) := []
noncomputable def go_X3_silent : Nat → mm_K := mm_go (fun k => mm_at flX3 k) (fun k => mm_at clX3 k) (fun k => mm_at glX3 k) arV_X3_silent arS_X3_silent mV_X3_silent mS_X3_silent lenX roX snX 1 2 tbX3_silent ct_X3_silent
noncomputable def eX3_silent_0 (n : Nat)  (z : mm_S) : Option mm_R := go_X3_silent n 0 [(0, mm_P 3 0)] [] z
set_option maxRecDepth 100000 in
theorem qX3_silent_0 (n : Nat)  (z : mm_S) : eX3_silent_0 (n + 1)  z = ((sX0_silentCells 1 z).bind fun q1 => some (some (mm_J q1.1), q1.2)) := rfl
def rm_X3_silent : Room := { frames := 5, cells := 0, slots := 0, locals := 124 }
noncomputable def f_X3_silent (as : List mm_V) (z : mm_S) (o : mm_R) : Prop := (as.map mm_cat).sum ≤ 1 ∧ ∃ n, go_X3_silent n 0 (mm_ar 0 as) [] z = some o
theorem M_X3_silent : mm_M lyTX lyFA lenX snX 46 48 17 roX rsA nfA nmA ssX yX3_silent cX3_silent 1 (some .long) rm_X3_silent f_X3_silent :=
  mm_met (rt := 2) (by decide +kernel) ⟨fun h => absurd h (by decide), fun h => absurd h (by decide), fun h => rfl, fun h => absurd h (by decide)⟩ tbX3_silent_ok hsnX okFX3 okLX3 okGX3 (fun _ _ _ _ => rfl) (fun _ _ _ _ => rfl) (List.forall_mem_cons.mpr ⟨sV_X0_silentCells (Or.inl lk_X3_183) rfl ⟨by decide, by decide⟩, fun _ h => absurd h List.not_mem_nil⟩) (fun _ h => absurd h List.not_mem_nil)
noncomputable def sX3_silent_0  (z : mm_S) : Option (Int64 × mm_S) := (sX0_silentCells 1 z).bind fun q1 => some (q1.1, q1.2)
theorem kX3_silent_0  (z : mm_S) (oo : mm_R) : mm_Xs (sX3_silent_0  z) (fun v => (fun v : Int64 × mm_S => ((some (mm_J v.1), v.2) : mm_R)) v = oo) (fun n => eX3_silent_0 n  z) oo :=
  xs_row (fun n => qX3_silent_0 n z) (xs_bd fun q1 => (xs_v fun hc => ⟨0, congrArg some hc⟩))
noncomputable def sX3_silent  (z : mm_S) : Option (Int64 × mm_S) := sX3_silent_0  z
theorem sp_X3_silent  (z : mm_S) (hk : ∀ v ∈ [mm_P 3 0], mm_ok 46 lyTX 48 17 v) (q : Int64 × mm_S) (hq : sX3_silent  z = some q) : f_X3_silent [mm_P 3 0] z (some (mm_J q.1), q.2) := ⟨Nat.le_of_ble_eq_true rfl, kX3_silent_0  z _ q hq rfl⟩
noncomputable def clo_X3_silent (as : List mm_V) (z : mm_S) (kk : Option mm_V → mm_S → Option mm_R) : Option mm_R := mm_pr as fun t o0 as => bif Nat.beq t 3 then (match as with | [] => (sX3_silent z).bind fun q => kk (some (mm_J q.1)) q.2 | _ => none) else none
theorem cs_X3_silent : mm_cs lyTX 46 48 17 f_X3_silent clo_X3_silent := by
  intro as z K o hk h
  obtain ⟨t0, o0, r0, rfl, g0⟩ := mm_pr_e h
  obtain ⟨b0, k0⟩ := mm_bif_e g0
  obtain rfl := Nat.eq_of_beq_eq_true b0
  rcases r0 with _ | ⟨u, w⟩
  rotate_left
  · cases k0
  obtain rfl : o0 = 0 := ok3 (hk (mm_P 3 o0) (by simp))
  obtain ⟨q, hq, hq2⟩ := Option.bind_eq_some_iff.mp k0
  exact ⟨_, _, sp_X3_silent  z hk q hq, fun v hv => by cases hv; exact Or.inr ⟨_, rfl⟩, hq2⟩
theorem sV_X3_silent {own : String} {R : Room} {ar : Nat → Nat} {k : Nat} (hlink : Cond.methodLink own k yX3_silent ∈ lw_gd ∨ ∃ host, (own, k, yX3_silent, host) ∈ nmA) (har : ar k = 1) (hr : 6 ≤ R.frames ∧ 144 ≤ R.locals) : mm_okV lyTX lyFA lenX snX 46 48 17 roX rsA nfA nmA ssX own R ar k clo_X3_silent := by
  refine ⟨yX3_silent, cX3_silent, 1, some .long, rm_X3_silent, f_X3_silent, 3, 0, (RX3, TX3, 12), M_X3_silent, cs_X3_silent, hlink, ⟨wv_X3_silent, wz_X3_silent, wi_X3_silent, wc_X3_silent⟩, ⟨by decide +kernel, by decide +kernel, by decide +kernel⟩, har, ⟨rfl, rfl, by decide⟩, ?_, ⟨rfl, rfl, hr.1, hr.2⟩⟩
  intro as z K o h
  obtain ⟨t0, o0, r0, rfl, g0⟩ := mm_pr_e h
  obtain ⟨b0, k0⟩ := mm_bif_e g0
  obtain rfl := Nat.eq_of_beq_eq_true b0
  exact ⟨_, _, rfl⟩
-- X3_areTwoCrews
noncomputable def lV_X3_areTwoCrews : List (Nat × (List mm_V → mm_S → (Option mm_V → mm_S → Option mm_R) → Option mm_R)) := [(87, clo_X3_isCrew)]
noncomputable def mV_X3_areTwoCrews (k : Nat) (as : List mm_V) (z : mm_S) (kk : Option mm_V → mm_S → Option mm_R) : Option mm_R := match mm_at lV_X3_areTwoCrews k with
  | some f => f as z kk
  | none => none
noncomputable def arV_X3_areTwoCrews (k : Nat) : Nat := (mm_at [(87, 2)] k).getD 0
noncomputable def lS_X3_areTwoCrews : List (Nat × (List mm_V → mm_S → (Option mm_V → mm_S → Option mm_R) → Option mm_R)) := []
noncomputable def mS_X3_areTwoCrews (k : Nat) (as : List mm_V) (z : mm_S) (kk : Option mm_V → mm_S → Option mm_R) : Option mm_R := match mm_at lS_X3_areTwoCrews k with
  | some f => f as z kk
  | none => none
noncomputable def arS_X3_areTwoCrews (k : Nat) : Nat := (mm_at [] k).getD 0
def ct_X3_areTwoCrews : List (Nat × List Nat) := []
noncomputable def go_X3_areTwoCrews : Nat → mm_K := mm_go (fun k => mm_at flX3 k) (fun k => mm_at clX3 k) (fun k => mm_at glX3 k) arV_X3_areTwoCrews arS_X3_areTwoCrews mV_X3_areTwoCrews mS_X3_areTwoCrews lenX roX snX 3 1 tbX3_areTwoCrews ct_X3_areTwoCrews
noncomputable def eX3_areTwoCrews_0 (n : Nat)  (x1 : Int32) (x2 : Int32) (z : mm_S) : Option mm_R := go_X3_areTwoCrews n 0 [(0, mm_P 3 0), (1, mm_I x1), (2, mm_I x2)] [] z
set_option maxRecDepth 100000 in
theorem qX3_areTwoCrews_0 (n : Nat)  (x1 : Int32) (x2 : Int32) (z : mm_S) : eX3_areTwoCrews_0 (n + 1) x1 x2 z = (if (pX3_isCrew x1 z) = 0 then some (some (mm_I 0), z) else if (pX3_isCrew x2 z) = 0 then some (some (mm_I 0), z) else if x1 = x2 then some (some (mm_I 0), z) else some (some (mm_I 1), z)) := rfl
def rm_X3_areTwoCrews : Room := { frames := 2, cells := 0, slots := 0, locals := 43 }
noncomputable def f_X3_areTwoCrews (as : List mm_V) (z : mm_S) (o : mm_R) : Prop := (as.map mm_cat).sum ≤ 3 ∧ ∃ n, go_X3_areTwoCrews n 0 (mm_ar 0 as) [] z = some o
theorem M_X3_areTwoCrews : mm_M lyTX lyFA lenX snX 46 48 17 roX rsA nfA nmA ssX yX3_areTwoCrews cX3_areTwoCrews 3 (some .boolean) rm_X3_areTwoCrews f_X3_areTwoCrews :=
  mm_met (rt := 1) (by decide +kernel) ⟨fun h => absurd h (by decide), fun h => rfl, fun h => absurd h (by decide), fun h => absurd h (by decide)⟩ tbX3_areTwoCrews_ok hsnX okFX3 okLX3 okGX3 (fun _ _ _ _ => rfl) (fun _ _ _ _ => rfl) (List.forall_mem_cons.mpr ⟨sV_X3_isCrew (Or.inl lk_X3_87) rfl ⟨by decide, by decide⟩, fun _ h => absurd h List.not_mem_nil⟩) (fun _ h => absurd h List.not_mem_nil)
noncomputable def pX3_areTwoCrews (x1 : Int32) (x2 : Int32) (z : mm_S) : Int32 := if (pX3_isCrew x1 z) = 0 then 0 else if (pX3_isCrew x2 z) = 0 then 0 else if x1 = x2 then 0 else 1
theorem z1_X3_areTwoCrews (x1 : Int32) (x2 : Int32) (z : mm_S) : pX3_areTwoCrews x1 x2 z = 0 ∨ pX3_areTwoCrews x1 x2 z = 1 := (mm_i01 (Or.inl rfl) (mm_i01 (Or.inl rfl) (mm_i01 (Or.inl rfl) (Or.inr rfl))))
theorem sp_X3_areTwoCrews (x1 : Int32) (x2 : Int32) (z : mm_S) (_ : ∀ v ∈ [mm_P 3 0, mm_I x1, mm_I x2], mm_ok 46 lyTX 48 17 v) : f_X3_areTwoCrews [mm_P 3 0, mm_I x1, mm_I x2] z (some (mm_I (pX3_areTwoCrews x1 x2 z)), z) := ⟨Nat.le_of_ble_eq_true rfl, 1, (qX3_areTwoCrews_0 0 x1 x2 z).trans (mm_if (fun v => some (some (mm_I v), z)) rfl (mm_if (fun v => some (some (mm_I v), z)) rfl (mm_if (fun v => some (some (mm_I v), z)) rfl rfl)))⟩
noncomputable def clo_X3_areTwoCrews (as : List mm_V) (z : mm_S) (kk : Option mm_V → mm_S → Option mm_R) : Option mm_R := mm_pr as fun t o0 as => bif Nat.beq t 3 then mm_pi as fun a1 as => mm_pi as fun a2 as => (match as with | [] => kk (some (mm_I (pX3_areTwoCrews a1 a2 z))) z | _ => none) else none
theorem cs_X3_areTwoCrews : mm_cs lyTX 46 48 17 f_X3_areTwoCrews clo_X3_areTwoCrews := by
  intro as z K o hk h
  obtain ⟨t0, o0, r0, rfl, g0⟩ := mm_pr_e h
  obtain ⟨b0, k0⟩ := mm_bif_e g0
  obtain rfl := Nat.eq_of_beq_eq_true b0
  obtain ⟨a1, r1, rfl, g1⟩ := mm_pi_e k0
  obtain ⟨a2, r2, rfl, g2⟩ := mm_pi_e g1
  rcases r2 with _ | ⟨u, w⟩
  rotate_left
  · cases g2
  obtain rfl : o0 = 0 := ok3 (hk (mm_P 3 o0) (by simp))
  exact ⟨_, _, sp_X3_areTwoCrews a1 a2 z hk, fun v hv => by cases hv; exact Or.inl ⟨_, rfl⟩, g2⟩
theorem sV_X3_areTwoCrews {own : String} {R : Room} {ar : Nat → Nat} {k : Nat} (hlink : Cond.methodLink own k yX3_areTwoCrews ∈ lw_gd ∨ ∃ host, (own, k, yX3_areTwoCrews, host) ∈ nmA) (har : ar k = 3) (hr : 3 ≤ R.frames ∧ 65 ≤ R.locals) : mm_okV lyTX lyFA lenX snX 46 48 17 roX rsA nfA nmA ssX own R ar k clo_X3_areTwoCrews := by
  refine ⟨yX3_areTwoCrews, cX3_areTwoCrews, 3, some .boolean, rm_X3_areTwoCrews, f_X3_areTwoCrews, 3, 2, (RX3, TX3, 12), M_X3_areTwoCrews, cs_X3_areTwoCrews, hlink, ⟨wv_X3_areTwoCrews, wz_X3_areTwoCrews, wi_X3_areTwoCrews, wc_X3_areTwoCrews⟩, ⟨by decide +kernel, by decide +kernel, by decide +kernel⟩, har, ⟨rfl, rfl, by decide⟩, ?_, ⟨rfl, rfl, hr.1, hr.2⟩⟩
  intro as z K o h
  obtain ⟨t0, o0, r0, rfl, g0⟩ := mm_pr_e h
  obtain ⟨b0, k0⟩ := mm_bif_e g0
  obtain rfl := Nat.eq_of_beq_eq_true b0
  exact ⟨_, _, rfl⟩
-- X3_lag
noncomputable def lV_X3_lag : List (Nat × (List mm_V → mm_S → (Option mm_V → mm_S → Option mm_R) → Option mm_R)) := [(59, clo_X3_finding), (146, clo_X0_heardAt), (187, clo_X3_areTwoCrews)]
noncomputable def mV_X3_lag (k : Nat) (as : List mm_V) (z : mm_S) (kk : Option mm_V → mm_S → Option mm_R) : Option mm_R := match mm_at lV_X3_lag k with
  | some f => f as z kk
  | none => none
noncomputable def arV_X3_lag (k : Nat) : Nat := (mm_at [(59, 2), (146, 3), (187, 3)] k).getD 0
noncomputable def lS_X3_lag : List (Nat × (List mm_V → mm_S → (Option mm_V → mm_S → Option mm_R) → Option mm_R)) := [(52, clo_X3_isCell)]
noncomputable def mS_X3_lag (k : Nat) (as : List mm_V) (z : mm_S) (kk : Option mm_V → mm_S → Option mm_R) : Option mm_R := match mm_at lS_X3_lag k with
  | some f => f as z kk
  | none => none
noncomputable def arS_X3_lag (k : Nat) : Nat := (mm_at [(52, 1)] k).getD 0
def ct_X3_lag : List (Nat × List Nat) := [(22, [0, 1, 2, 3]), (33, [0, 2, 3, 4]), (44, [0, 4, 5]), (62, [4, 5])]
noncomputable def go_X3_lag : Nat → mm_K := mm_go (fun k => mm_at flX3 k) (fun k => mm_at clX3 k) (fun k => mm_at glX3 k) arV_X3_lag arS_X3_lag mV_X3_lag mS_X3_lag lenX roX snX 6 0 tbX3_lag ct_X3_lag
noncomputable def eX3_lag_0 (n : Nat)  (x1 : Int32) (x2 : Int32) (x3 : Int32) (z : mm_S) : Option mm_R := go_X3_lag n 0 [(0, mm_P 3 0), (1, mm_I x1), (2, mm_I x2), (3, mm_I x3)] [] z
noncomputable def eX3_lag_22 (n : Nat)  (y1 : Int32) (y2 : Int32) (y3 : Int32) (z : mm_S) : Option mm_R := go_X3_lag n 22 [(0, mm_P 3 0), (1, mm_I y1), (2, mm_I y2), (3, mm_I y3)] [] z
noncomputable def eX3_lag_33 (n : Nat)  (y2 : Int32) (y3 : Int32) (y4 : Int32) (z : mm_S) : Option mm_R := go_X3_lag n 33 [(0, mm_P 3 0), (2, mm_I y2), (3, mm_I y3), (4, mm_I y4)] [] z
noncomputable def eX3_lag_44 (n : Nat)  (y4 : Int32) (y5 : Int32) (z : mm_S) : Option mm_R := go_X3_lag n 44 [(0, mm_P 3 0), (4, mm_I y4), (5, mm_I y5)] [] z
noncomputable def eX3_lag_62 (n : Nat) (y4 : Int32) (y5 : Int32) (z : mm_S) : Option mm_R := go_X3_lag n 62 [(4, mm_I y4), (5, mm_I y5)] [] z
set_option maxRecDepth 100000 in
theorem qX3_lag_0 (n : Nat)  (x1 : Int32) (x2 : Int32) (x3 : Int32) (z : mm_S) : eX3_lag_0 (n + 1) x1 x2 x3 z = (if (pX3_areTwoCrews x1 x2 z) = 0 then (sX3_finding 0 z).bind fun q1 => some (some (mm_I q1.1), q1.2) else if (pX3_isCell x3) = 0 then (sX3_finding 0 z).bind fun q2 => some (some (mm_I q2.1), q2.2) else eX3_lag_22 n x1 x2 x3 z) := rfl
set_option maxRecDepth 100000 in
theorem qX3_lag_22 (n : Nat)  (y1 : Int32) (y2 : Int32) (y3 : Int32) (z : mm_S) : eX3_lag_22 (n + 1) y1 y2 y3 z = ((sX0_heardAt 1 y1 y3 z).bind fun q3 => eX3_lag_33 n y2 y3 q3.1 q3.2) := rfl
set_option maxRecDepth 100000 in
theorem qX3_lag_33 (n : Nat)  (y2 : Int32) (y3 : Int32) (y4 : Int32) (z : mm_S) : eX3_lag_33 (n + 1) y2 y3 y4 z = ((sX0_heardAt 1 y2 y3 z).bind fun q4 => eX3_lag_44 n y4 q4.1 q4.2) := rfl
set_option maxRecDepth 100000 in
theorem qX3_lag_44 (n : Nat)  (y4 : Int32) (y5 : Int32) (z : mm_S) : eX3_lag_44 (n + 1) y4 y5 z = (if y4 = (-1) then (sX3_finding 3 z).bind fun q5 => some (some (mm_I q5.1), q5.2) else if y5 = (-1) then (sX3_finding 3 z).bind fun q6 => some (some (mm_I q6.1), q6.2) else eX3_lag_62 n y4 y5 z) := rfl
set_option maxRecDepth 100000 in
theorem qX3_lag_62 (n : Nat) (y4 : Int32) (y5 : Int32) (z : mm_S) : eX3_lag_62 (n + 1) y4 y5 z = (some (some (mm_I (y5 - y4)), z)) := rfl
def rm_X3_lag : Room := { frames := 5, cells := 0, slots := 0, locals := 107 }
noncomputable def f_X3_lag (as : List mm_V) (z : mm_S) (o : mm_R) : Prop := (as.map mm_cat).sum ≤ 6 ∧ ∃ n, go_X3_lag n 0 (mm_ar 0 as) [] z = some o
theorem M_X3_lag : mm_M lyTX lyFA lenX snX 46 48 17 roX rsA nfA nmA ssX yX3_lag cX3_lag 6 (some .int) rm_X3_lag f_X3_lag :=
  mm_met (rt := 0) (by decide +kernel) ⟨fun h => rfl, fun h => absurd h (by decide), fun h => absurd h (by decide), fun h => absurd h (by decide)⟩ tbX3_lag_ok hsnX okFX3 okLX3 okGX3 (fun _ _ _ _ => rfl) (fun _ _ _ _ => rfl) (List.forall_mem_cons.mpr ⟨sV_X3_finding (Or.inl lk_X3_59) rfl ⟨by decide, by decide⟩, List.forall_mem_cons.mpr ⟨sV_X0_heardAt (Or.inl lk_X3_146) rfl ⟨by decide, by decide⟩, List.forall_mem_cons.mpr ⟨sV_X3_areTwoCrews (Or.inl lk_X3_187) rfl ⟨by decide, by decide⟩, fun _ h => absurd h List.not_mem_nil⟩⟩⟩) (List.forall_mem_cons.mpr ⟨sS_X3_isCell (Or.inl lk_X3_52) rfl ⟨by decide, by decide⟩, fun _ h => absurd h List.not_mem_nil⟩)
noncomputable def sX3_lag_62 (y4 : Int32) (y5 : Int32) (z : mm_S) : Option (Int32 × mm_S) := some ((y5 - y4), z)
theorem kX3_lag_62 (y4 : Int32) (y5 : Int32) (z : mm_S) (oo : mm_R) : mm_Xs (sX3_lag_62 y4 y5 z) (fun v => (fun v : Int32 × mm_S => ((some (mm_I v.1), v.2) : mm_R)) v = oo) (fun n => eX3_lag_62 n y4 y5 z) oo :=
  xs_row (fun n => qX3_lag_62 n y4 y5 z) (xs_v fun hc => ⟨0, congrArg some hc⟩)
noncomputable def sX3_lag_44 (y4 : Int32) (y5 : Int32) (z : mm_S) : Option (Int32 × mm_S) := if y4 = (-1) then (sX3_finding 3 z).bind fun q5 => some (q5.1, q5.2) else if y5 = (-1) then (sX3_finding 3 z).bind fun q6 => some (q6.1, q6.2) else (sX3_lag_62 y4 y5 z)
theorem kX3_lag_44 (y4 : Int32) (y5 : Int32) (z : mm_S) (oo : mm_R) : mm_Xs (sX3_lag_44 y4 y5 z) (fun v => (fun v : Int32 × mm_S => ((some (mm_I v.1), v.2) : mm_R)) v = oo) (fun n => eX3_lag_44 n y4 y5 z) oo :=
  xs_row (fun n => qX3_lag_44 n y4 y5 z) (xs_if (xs_bd fun q5 => (xs_v fun hc => ⟨0, congrArg some hc⟩)) (xs_if (xs_bd fun q6 => (xs_v fun hc => ⟨0, congrArg some hc⟩)) (kX3_lag_62 y4 y5 z oo)))
noncomputable def sX3_lag_33 (y2 : Int32) (y3 : Int32) (y4 : Int32) (z : mm_S) : Option (Int32 × mm_S) := (sX0_heardAt 1 y2 y3 z).bind fun q4 => (sX3_lag_44 y4 q4.1 q4.2)
theorem kX3_lag_33 (y2 : Int32) (y3 : Int32) (y4 : Int32) (z : mm_S) (oo : mm_R) : mm_Xs (sX3_lag_33 y2 y3 y4 z) (fun v => (fun v : Int32 × mm_S => ((some (mm_I v.1), v.2) : mm_R)) v = oo) (fun n => eX3_lag_33 n y2 y3 y4 z) oo :=
  xs_row (fun n => qX3_lag_33 n y2 y3 y4 z) (xs_bd fun q4 => (kX3_lag_44 y4 q4.1 q4.2 oo))
noncomputable def sX3_lag_22 (y1 : Int32) (y2 : Int32) (y3 : Int32) (z : mm_S) : Option (Int32 × mm_S) := (sX0_heardAt 1 y1 y3 z).bind fun q3 => (sX3_lag_33 y2 y3 q3.1 q3.2)
theorem kX3_lag_22 (y1 : Int32) (y2 : Int32) (y3 : Int32) (z : mm_S) (oo : mm_R) : mm_Xs (sX3_lag_22 y1 y2 y3 z) (fun v => (fun v : Int32 × mm_S => ((some (mm_I v.1), v.2) : mm_R)) v = oo) (fun n => eX3_lag_22 n y1 y2 y3 z) oo :=
  xs_row (fun n => qX3_lag_22 n y1 y2 y3 z) (xs_bd fun q3 => (kX3_lag_33 y2 y3 q3.1 q3.2 oo))
noncomputable def sX3_lag_0 (x1 : Int32) (x2 : Int32) (x3 : Int32) (z : mm_S) : Option (Int32 × mm_S) := if (pX3_areTwoCrews x1 x2 z) = 0 then (sX3_finding 0 z).bind fun q1 => some (q1.1, q1.2) else if (pX3_isCell x3) = 0 then (sX3_finding 0 z).bind fun q2 => some (q2.1, q2.2) else (sX3_lag_22 x1 x2 x3 z)
theorem kX3_lag_0 (x1 : Int32) (x2 : Int32) (x3 : Int32) (z : mm_S) (oo : mm_R) : mm_Xs (sX3_lag_0 x1 x2 x3 z) (fun v => (fun v : Int32 × mm_S => ((some (mm_I v.1), v.2) : mm_R)) v = oo) (fun n => eX3_lag_0 n x1 x2 x3 z) oo :=
  xs_row (fun n => qX3_lag_0 n x1 x2 x3 z) (xs_if (xs_bd fun q1 => (xs_v fun hc => ⟨0, congrArg some hc⟩)) (xs_if (xs_bd fun q2 => (xs_v fun hc => ⟨0, congrArg some hc⟩)) (kX3_lag_22 x1 x2 x3 z oo)))
noncomputable def sX3_lag (x1 : Int32) (x2 : Int32) (x3 : Int32) (z : mm_S) : Option (Int32 × mm_S) := sX3_lag_0 x1 x2 x3 z
theorem sp_X3_lag (x1 : Int32) (x2 : Int32) (x3 : Int32) (z : mm_S) (hk : ∀ v ∈ [mm_P 3 0, mm_I x1, mm_I x2, mm_I x3], mm_ok 46 lyTX 48 17 v) (q : Int32 × mm_S) (hq : sX3_lag x1 x2 x3 z = some q) : f_X3_lag [mm_P 3 0, mm_I x1, mm_I x2, mm_I x3] z (some (mm_I q.1), q.2) := ⟨Nat.le_of_ble_eq_true rfl, kX3_lag_0 x1 x2 x3 z _ q hq rfl⟩
noncomputable def clo_X3_lag (as : List mm_V) (z : mm_S) (kk : Option mm_V → mm_S → Option mm_R) : Option mm_R := mm_pr as fun t o0 as => bif Nat.beq t 3 then mm_pi as fun a1 as => mm_pi as fun a2 as => mm_pi as fun a3 as => (match as with | [] => (sX3_lag a1 a2 a3 z).bind fun q => kk (some (mm_I q.1)) q.2 | _ => none) else none
theorem cs_X3_lag : mm_cs lyTX 46 48 17 f_X3_lag clo_X3_lag := by
  intro as z K o hk h
  obtain ⟨t0, o0, r0, rfl, g0⟩ := mm_pr_e h
  obtain ⟨b0, k0⟩ := mm_bif_e g0
  obtain rfl := Nat.eq_of_beq_eq_true b0
  obtain ⟨a1, r1, rfl, g1⟩ := mm_pi_e k0
  obtain ⟨a2, r2, rfl, g2⟩ := mm_pi_e g1
  obtain ⟨a3, r3, rfl, g3⟩ := mm_pi_e g2
  rcases r3 with _ | ⟨u, w⟩
  rotate_left
  · cases g3
  obtain rfl : o0 = 0 := ok3 (hk (mm_P 3 o0) (by simp))
  obtain ⟨q, hq, hq2⟩ := Option.bind_eq_some_iff.mp g3
  exact ⟨_, _, sp_X3_lag a1 a2 a3 z hk q hq, fun v hv => by cases hv; exact Or.inl ⟨_, rfl⟩, hq2⟩
theorem sV_X3_lag {own : String} {R : Room} {ar : Nat → Nat} {k : Nat} (hlink : Cond.methodLink own k yX3_lag ∈ lw_gd ∨ ∃ host, (own, k, yX3_lag, host) ∈ nmA) (har : ar k = 4) (hr : 6 ≤ R.frames ∧ 132 ≤ R.locals) : mm_okV lyTX lyFA lenX snX 46 48 17 roX rsA nfA nmA ssX own R ar k clo_X3_lag := by
  refine ⟨yX3_lag, cX3_lag, 6, some .int, rm_X3_lag, f_X3_lag, 3, 3, (RX3, TX3, 12), M_X3_lag, cs_X3_lag, hlink, ⟨wv_X3_lag, wz_X3_lag, wi_X3_lag, wc_X3_lag⟩, ⟨by decide +kernel, by decide +kernel, by decide +kernel⟩, har, ⟨rfl, rfl, by decide⟩, ?_, ⟨rfl, rfl, hr.1, hr.2⟩⟩
  intro as z K o h
  obtain ⟨t0, o0, r0, rfl, g0⟩ := mm_pr_e h
  obtain ⟨b0, k0⟩ := mm_bif_e g0
  obtain rfl := Nat.eq_of_beq_eq_true b0
  exact ⟨_, _, rfl⟩
-- X3_apart
noncomputable def lV_X3_apart : List (Nat × (List mm_V → mm_S → (Option mm_V → mm_S → Option mm_R) → Option mm_R)) := [(59, clo_X3_finding), (187, clo_X3_areTwoCrews), (191, clo_X0_fillHeard)]
noncomputable def mV_X3_apart (k : Nat) (as : List mm_V) (z : mm_S) (kk : Option mm_V → mm_S → Option mm_R) : Option mm_R := match mm_at lV_X3_apart k with
  | some f => f as z kk
  | none => none
noncomputable def arV_X3_apart (k : Nat) : Nat := (mm_at [(59, 2), (187, 3), (191, 3)] k).getD 0
noncomputable def lS_X3_apart : List (Nat × (List mm_V → mm_S → (Option mm_V → mm_S → Option mm_R) → Option mm_R)) := [(118, clo_X3_lies), (165, clo_X3_at)]
noncomputable def mS_X3_apart (k : Nat) (as : List mm_V) (z : mm_S) (kk : Option mm_V → mm_S → Option mm_R) : Option mm_R := match mm_at lS_X3_apart k with
  | some f => f as z kk
  | none => none
noncomputable def arS_X3_apart (k : Nat) : Nat := (mm_at [(118, 3), (165, 2)] k).getD 0
def ct_X3_apart : List (Nat × List Nat) := [(6, [0, 1, 2]), (15, [0, 1, 2]), (27, [0, 2]), (39, [0]), (45, [0, 3, 4]), (63, [0, 3, 4, 5]), (74, [0, 3, 4, 5, 6]), (97, [0, 3, 4, 5, 6])]
noncomputable def go_X3_apart : Nat → mm_K := mm_go (fun k => mm_at flX3 k) (fun k => mm_at clX3 k) (fun k => mm_at glX3 k) arV_X3_apart arS_X3_apart mV_X3_apart mS_X3_apart lenX roX snX 7 0 tbX3_apart ct_X3_apart
noncomputable def eX3_apart_0 (n : Nat)  (x1 : Int32) (x2 : Int32) (z : mm_S) : Option mm_R := go_X3_apart n 0 [(0, mm_P 3 0), (1, mm_I x1), (2, mm_I x2)] [] z
noncomputable def eX3_apart_6 (n : Nat)  (y1 : Int32) (y2 : Int32) (w0 : Int32) (z : mm_S) : Option mm_R := go_X3_apart n 6 [(0, mm_P 3 0), (1, mm_I y1), (2, mm_I y2)] [mm_I w0] z
noncomputable def eX3_apart_15 (n : Nat)  (y1 : Int32) (y2 : Int32) (z : mm_S) : Option mm_R := go_X3_apart n 15 [(0, mm_P 3 0), (1, mm_I y1), (2, mm_I y2)] [] z
noncomputable def eX3_apart_27 (n : Nat)  (y2 : Int32) (z : mm_S) : Option mm_R := go_X3_apart n 27 [(0, mm_P 3 0), (2, mm_I y2)] [] z
noncomputable def eX3_apart_39 (n : Nat)  (z : mm_S) : Option mm_R := go_X3_apart n 39 [(0, mm_P 3 0)] [] z
noncomputable def eX3_apart_45 (n : Nat)  (y3 : Int32) (y4 : Int32) (z : mm_S) : Option mm_R := go_X3_apart n 45 [(0, mm_P 3 0), (3, mm_I y3), (4, mm_I y4)] [] z
noncomputable def eX3_apart_63 (n : Nat)  (y3 : Int32) (y4 : Int32) (y5 : Int32) (z : mm_S) : Option mm_R := go_X3_apart n 63 [(0, mm_P 3 0), (3, mm_I y3), (4, mm_I y4), (5, mm_I y5)] [] z
noncomputable def eX3_apart_74 (n : Nat)  (y3 : Int32) (y4 : Int32) (y5 : Int32) (y6 : Int32) (z : mm_S) : Option mm_R := go_X3_apart n 74 [(0, mm_P 3 0), (3, mm_I y3), (4, mm_I y4), (5, mm_I y5), (6, mm_I y6)] [] z
noncomputable def eX3_apart_97 (n : Nat)  (y3 : Int32) (y4 : Int32) (y5 : Int32) (y6 : Int32) (w0 : Int32) (z : mm_S) : Option mm_R := go_X3_apart n 97 [(0, mm_P 3 0), (3, mm_I y3), (4, mm_I y4), (5, mm_I y5), (6, mm_I y6)] [mm_I w0] z
set_option maxRecDepth 100000 in
theorem qX3_apart_0 (n : Nat)  (x1 : Int32) (x2 : Int32) (z : mm_S) : eX3_apart_0 (n + 1) x1 x2 z = (eX3_apart_6 n x1 x2 (pX3_areTwoCrews x1 x2 z) z) := rfl
set_option maxRecDepth 100000 in
theorem qX3_apart_6 (n : Nat)  (y1 : Int32) (y2 : Int32) (w0 : Int32) (z : mm_S) : eX3_apart_6 (n + 1) y1 y2 w0 z = (if w0 = 0 then (sX3_finding 0 z).bind fun q1 => some (some (mm_I q1.1), q1.2) else eX3_apart_15 n y1 y2 z) := rfl
set_option maxRecDepth 100000 in
theorem qX3_apart_15 (n : Nat)  (y1 : Int32) (y2 : Int32) (z : mm_S) : eX3_apart_15 (n + 1) y1 y2 z = ((sX0_fillHeard 1 y1 43 z).bind fun q2 => eX3_apart_27 n y2 q2) := rfl
set_option maxRecDepth 100000 in
theorem qX3_apart_27 (n : Nat)  (y2 : Int32) (z : mm_S) : eX3_apart_27 (n + 1) y2 z = ((sX0_fillHeard 1 y2 44 z).bind fun q3 => eX3_apart_39 n  q3) := rfl
set_option maxRecDepth 100000 in
theorem qX3_apart_39 (n : Nat)  (z : mm_S) : eX3_apart_39 (n + 1)  z = (eX3_apart_45 n 2147483647 0 z) := rfl
set_option maxRecDepth 100000 in
theorem qX3_apart_45 (n : Nat)  (y3 : Int32) (y4 : Int32) (z : mm_S) : eX3_apart_45 (n + 1) y3 y4 z = (if 36 ≤ y4 then some (some (mm_I y3), z) else eX3_apart_63 n y3 y4 (pX3_at 43 y4 z) z) := rfl
set_option maxRecDepth 100000 in
theorem qX3_apart_63 (n : Nat)  (y3 : Int32) (y4 : Int32) (y5 : Int32) (z : mm_S) : eX3_apart_63 (n + 1) y3 y4 y5 z = (eX3_apart_74 n y3 y4 y5 (pX3_at 44 y4 z) z) := rfl
set_option maxRecDepth 100000 in
theorem qX3_apart_74 (n : Nat)  (y3 : Int32) (y4 : Int32) (y5 : Int32) (y6 : Int32) (z : mm_S) : eX3_apart_74 (n + 1) y3 y4 y5 y6 z = (if y5 = (-1) then eX3_apart_45 n y3 (y4 + 1) z else if y6 = (-1) then eX3_apart_45 n y3 (y4 + 1) z else eX3_apart_97 n y3 y4 y5 y6 (pX3_lies (y5 - y6) 0 30) z) := rfl
set_option maxRecDepth 100000 in
theorem qX3_apart_97 (n : Nat)  (y3 : Int32) (y4 : Int32) (y5 : Int32) (y6 : Int32) (w0 : Int32) (z : mm_S) : eX3_apart_97 (n + 1) y3 y4 y5 y6 w0 z = (if w0 = 0 then eX3_apart_45 n y3 (y4 + 1) z else let v4 : Int32 := (y3 &&& ((1 <<< ((y5 - y6) &&& 31)) ^^^ (-1))); eX3_apart_45 n v4 (y4 + 1) z) := rfl
def rm_X3_apart : Room := { frames := 5, cells := 0, slots := 0, locals := 108 }
noncomputable def f_X3_apart (as : List mm_V) (z : mm_S) (o : mm_R) : Prop := (as.map mm_cat).sum ≤ 7 ∧ ∃ n, go_X3_apart n 0 (mm_ar 0 as) [] z = some o
theorem M_X3_apart : mm_M lyTX lyFA lenX snX 46 48 17 roX rsA nfA nmA ssX yX3_apart cX3_apart 7 (some .int) rm_X3_apart f_X3_apart :=
  mm_met (rt := 0) (by decide +kernel) ⟨fun h => rfl, fun h => absurd h (by decide), fun h => absurd h (by decide), fun h => absurd h (by decide)⟩ tbX3_apart_ok hsnX okFX3 okLX3 okGX3 (fun _ _ _ _ => rfl) (fun _ _ _ _ => rfl) (List.forall_mem_cons.mpr ⟨sV_X3_finding (Or.inl lk_X3_59) rfl ⟨by decide, by decide⟩, List.forall_mem_cons.mpr ⟨sV_X3_areTwoCrews (Or.inl lk_X3_187) rfl ⟨by decide, by decide⟩, List.forall_mem_cons.mpr ⟨sV_X0_fillHeard (Or.inl lk_X3_191) rfl ⟨by decide, by decide⟩, fun _ h => absurd h List.not_mem_nil⟩⟩⟩) (List.forall_mem_cons.mpr ⟨sS_X3_lies (Or.inl lk_X3_118) rfl ⟨by decide, by decide⟩, List.forall_mem_cons.mpr ⟨sS_X3_at (Or.inl lk_X3_165) rfl ⟨by decide, by decide⟩, fun _ h => absurd h List.not_mem_nil⟩⟩)
noncomputable def sX3_apart_97 (y3 : Int32) (y4 : Int32) (y5 : Int32) (y6 : Int32) (w0 : Int32) (z : mm_S) : Option ((Int32 × Int32 × mm_S) ⊕ (Int32 × mm_S)) := if w0 = 0 then some (.inl (y3, (y4 + 1), z)) else let v4 : Int32 := (y3 &&& ((1 <<< ((y5 - y6) &&& 31)) ^^^ (-1))); some (.inl (v4, (y4 + 1), z))
theorem kX3_apart_97 (y3 : Int32) (y4 : Int32) (y5 : Int32) (y6 : Int32) (w0 : Int32) (z : mm_S) (oo : mm_R) : mm_Xs (sX3_apart_97 y3 y4 y5 y6 w0 z) (mm_mt (fun x : Int32 × Int32 × mm_S => ∃ n, eX3_apart_45 n x.1 x.2.1 x.2.2 = some oo) (fun v => (fun v : Int32 × mm_S => ((some (mm_I v.1), v.2) : mm_R)) v = oo)) (fun n => eX3_apart_97 n y3 y4 y5 y6 w0 z) oo :=
  xs_row (fun n => qX3_apart_97 n y3 y4 y5 y6 w0 z) (xs_if (xs_v fun hc => hc) (xs_let ((y3 &&& ((1 <<< ((y5 - y6) &&& 31)) ^^^ (-1)))) (S := fun (v4 : Int32) => (some (.inl (v4, (y4 + 1), z)) : Option ((Int32 × Int32 × mm_S) ⊕ (Int32 × mm_S)))) (T := fun (v4 : Int32) n => eX3_apart_45 n v4 (y4 + 1) z) (fun v4 => (xs_v fun hc => hc))))
noncomputable def sX3_apart_74 (y3 : Int32) (y4 : Int32) (y5 : Int32) (y6 : Int32) (z : mm_S) : Option ((Int32 × Int32 × mm_S) ⊕ (Int32 × mm_S)) := if y5 = (-1) then some (.inl (y3, (y4 + 1), z)) else if y6 = (-1) then some (.inl (y3, (y4 + 1), z)) else (sX3_apart_97 y3 y4 y5 y6 (pX3_lies (y5 - y6) 0 30) z)
theorem kX3_apart_74 (y3 : Int32) (y4 : Int32) (y5 : Int32) (y6 : Int32) (z : mm_S) (oo : mm_R) : mm_Xs (sX3_apart_74 y3 y4 y5 y6 z) (mm_mt (fun x : Int32 × Int32 × mm_S => ∃ n, eX3_apart_45 n x.1 x.2.1 x.2.2 = some oo) (fun v => (fun v : Int32 × mm_S => ((some (mm_I v.1), v.2) : mm_R)) v = oo)) (fun n => eX3_apart_74 n y3 y4 y5 y6 z) oo :=
  xs_row (fun n => qX3_apart_74 n y3 y4 y5 y6 z) (xs_if (xs_v fun hc => hc) (xs_if (xs_v fun hc => hc) (kX3_apart_97 y3 y4 y5 y6 (pX3_lies (y5 - y6) 0 30) z oo)))
noncomputable def sX3_apart_63 (y3 : Int32) (y4 : Int32) (y5 : Int32) (z : mm_S) : Option ((Int32 × Int32 × mm_S) ⊕ (Int32 × mm_S)) := (sX3_apart_74 y3 y4 y5 (pX3_at 44 y4 z) z)
theorem kX3_apart_63 (y3 : Int32) (y4 : Int32) (y5 : Int32) (z : mm_S) (oo : mm_R) : mm_Xs (sX3_apart_63 y3 y4 y5 z) (mm_mt (fun x : Int32 × Int32 × mm_S => ∃ n, eX3_apart_45 n x.1 x.2.1 x.2.2 = some oo) (fun v => (fun v : Int32 × mm_S => ((some (mm_I v.1), v.2) : mm_R)) v = oo)) (fun n => eX3_apart_63 n y3 y4 y5 z) oo :=
  xs_row (fun n => qX3_apart_63 n y3 y4 y5 z) (kX3_apart_74 y3 y4 y5 (pX3_at 44 y4 z) z oo)
noncomputable def lX3_apart_45 (s : Int32 × Int32 × mm_S) : Option ((Int32 × Int32 × mm_S) ⊕ (Int32 × mm_S)) := if 36 ≤ s.2.1 then some (.inr (s.1, s.2.2)) else (sX3_apart_63 s.1 s.2.1 (pX3_at 43 s.2.1 s.2.2) s.2.2)
noncomputable def sX3_apart_45 (y3 : Int32) (y4 : Int32) (z : mm_S) : Option (Int32 × mm_S) := mm_wh (lX3_apart_45 ) mm_fu (y3, y4, z)
theorem kX3_apart_45 (y3 : Int32) (y4 : Int32) (z : mm_S) (oo : mm_R) : mm_Xs (sX3_apart_45 y3 y4 z) (fun v => (fun v : Int32 × mm_S => ((some (mm_I v.1), v.2) : mm_R)) v = oo) (fun n => eX3_apart_45 n y3 y4 z) oo :=
  xs_wh (stp := lX3_apart_45 ) (o := oo) (E := (fun (s : Int32 × Int32 × mm_S) n => eX3_apart_45 n s.1 s.2.1 s.2.2)) (C := (fun v => (fun v : Int32 × mm_S => ((some (mm_I v.1), v.2) : mm_R)) v = oo)) (fun s => xs_row (fun n => qX3_apart_45 n s.1 s.2.1 s.2.2) (xs_if (xs_v fun hc => ⟨0, congrArg some hc⟩) (kX3_apart_63 s.1 s.2.1 (pX3_at 43 s.2.1 s.2.2) s.2.2 oo))) mm_fu (y3, y4, z)
noncomputable def sX3_apart_39  (z : mm_S) : Option (Int32 × mm_S) := (sX3_apart_45 2147483647 0 z)
theorem kX3_apart_39  (z : mm_S) (oo : mm_R) : mm_Xs (sX3_apart_39  z) (fun v => (fun v : Int32 × mm_S => ((some (mm_I v.1), v.2) : mm_R)) v = oo) (fun n => eX3_apart_39 n  z) oo :=
  xs_row (fun n => qX3_apart_39 n z) (kX3_apart_45 2147483647 0 z oo)
noncomputable def sX3_apart_27 (y2 : Int32) (z : mm_S) : Option (Int32 × mm_S) := (sX0_fillHeard 1 y2 44 z).bind fun q3 => (sX3_apart_39 q3)
theorem kX3_apart_27 (y2 : Int32) (z : mm_S) (oo : mm_R) : mm_Xs (sX3_apart_27 y2 z) (fun v => (fun v : Int32 × mm_S => ((some (mm_I v.1), v.2) : mm_R)) v = oo) (fun n => eX3_apart_27 n y2 z) oo :=
  xs_row (fun n => qX3_apart_27 n y2 z) (xs_bd fun q3 => (kX3_apart_39 q3 oo))
noncomputable def sX3_apart_15 (y1 : Int32) (y2 : Int32) (z : mm_S) : Option (Int32 × mm_S) := (sX0_fillHeard 1 y1 43 z).bind fun q2 => (sX3_apart_27 y2 q2)
theorem kX3_apart_15 (y1 : Int32) (y2 : Int32) (z : mm_S) (oo : mm_R) : mm_Xs (sX3_apart_15 y1 y2 z) (fun v => (fun v : Int32 × mm_S => ((some (mm_I v.1), v.2) : mm_R)) v = oo) (fun n => eX3_apart_15 n y1 y2 z) oo :=
  xs_row (fun n => qX3_apart_15 n y1 y2 z) (xs_bd fun q2 => (kX3_apart_27 y2 q2 oo))
noncomputable def sX3_apart_6 (y1 : Int32) (y2 : Int32) (w0 : Int32) (z : mm_S) : Option (Int32 × mm_S) := if w0 = 0 then (sX3_finding 0 z).bind fun q1 => some (q1.1, q1.2) else (sX3_apart_15 y1 y2 z)
theorem kX3_apart_6 (y1 : Int32) (y2 : Int32) (w0 : Int32) (z : mm_S) (oo : mm_R) : mm_Xs (sX3_apart_6 y1 y2 w0 z) (fun v => (fun v : Int32 × mm_S => ((some (mm_I v.1), v.2) : mm_R)) v = oo) (fun n => eX3_apart_6 n y1 y2 w0 z) oo :=
  xs_row (fun n => qX3_apart_6 n y1 y2 w0 z) (xs_if (xs_bd fun q1 => (xs_v fun hc => ⟨0, congrArg some hc⟩)) (kX3_apart_15 y1 y2 z oo))
noncomputable def sX3_apart_0 (x1 : Int32) (x2 : Int32) (z : mm_S) : Option (Int32 × mm_S) := (sX3_apart_6 x1 x2 (pX3_areTwoCrews x1 x2 z) z)
theorem kX3_apart_0 (x1 : Int32) (x2 : Int32) (z : mm_S) (oo : mm_R) : mm_Xs (sX3_apart_0 x1 x2 z) (fun v => (fun v : Int32 × mm_S => ((some (mm_I v.1), v.2) : mm_R)) v = oo) (fun n => eX3_apart_0 n x1 x2 z) oo :=
  xs_row (fun n => qX3_apart_0 n x1 x2 z) (kX3_apart_6 x1 x2 (pX3_areTwoCrews x1 x2 z) z oo)
noncomputable def sX3_apart (x1 : Int32) (x2 : Int32) (z : mm_S) : Option (Int32 × mm_S) := sX3_apart_0 x1 x2 z
theorem sp_X3_apart (x1 : Int32) (x2 : Int32) (z : mm_S) (hk : ∀ v ∈ [mm_P 3 0, mm_I x1, mm_I x2], mm_ok 46 lyTX 48 17 v) (q : Int32 × mm_S) (hq : sX3_apart x1 x2 z = some q) : f_X3_apart [mm_P 3 0, mm_I x1, mm_I x2] z (some (mm_I q.1), q.2) := ⟨Nat.le_of_ble_eq_true rfl, kX3_apart_0 x1 x2 z _ q hq rfl⟩
noncomputable def clo_X3_apart (as : List mm_V) (z : mm_S) (kk : Option mm_V → mm_S → Option mm_R) : Option mm_R := mm_pr as fun t o0 as => bif Nat.beq t 3 then mm_pi as fun a1 as => mm_pi as fun a2 as => (match as with | [] => (sX3_apart a1 a2 z).bind fun q => kk (some (mm_I q.1)) q.2 | _ => none) else none
theorem cs_X3_apart : mm_cs lyTX 46 48 17 f_X3_apart clo_X3_apart := by
  intro as z K o hk h
  obtain ⟨t0, o0, r0, rfl, g0⟩ := mm_pr_e h
  obtain ⟨b0, k0⟩ := mm_bif_e g0
  obtain rfl := Nat.eq_of_beq_eq_true b0
  obtain ⟨a1, r1, rfl, g1⟩ := mm_pi_e k0
  obtain ⟨a2, r2, rfl, g2⟩ := mm_pi_e g1
  rcases r2 with _ | ⟨u, w⟩
  rotate_left
  · cases g2
  obtain rfl : o0 = 0 := ok3 (hk (mm_P 3 o0) (by simp))
  obtain ⟨q, hq, hq2⟩ := Option.bind_eq_some_iff.mp g2
  exact ⟨_, _, sp_X3_apart a1 a2 z hk q hq, fun v hv => by cases hv; exact Or.inl ⟨_, rfl⟩, hq2⟩
theorem sV_X3_apart {own : String} {R : Room} {ar : Nat → Nat} {k : Nat} (hlink : Cond.methodLink own k yX3_apart ∈ lw_gd ∨ ∃ host, (own, k, yX3_apart, host) ∈ nmA) (har : ar k = 3) (hr : 6 ≤ R.frames ∧ 134 ≤ R.locals) : mm_okV lyTX lyFA lenX snX 46 48 17 roX rsA nfA nmA ssX own R ar k clo_X3_apart := by
  refine ⟨yX3_apart, cX3_apart, 7, some .int, rm_X3_apart, f_X3_apart, 3, 2, (RX3, TX3, 12), M_X3_apart, cs_X3_apart, hlink, ⟨wv_X3_apart, wz_X3_apart, wi_X3_apart, wc_X3_apart⟩, ⟨by decide +kernel, by decide +kernel, by decide +kernel⟩, har, ⟨rfl, rfl, by decide⟩, ?_, ⟨rfl, rfl, hr.1, hr.2⟩⟩
  intro as z K o h
  obtain ⟨t0, o0, r0, rfl, g0⟩ := mm_pr_e h
  obtain ⟨b0, k0⟩ := mm_bif_e g0
  obtain rfl := Nat.eq_of_beq_eq_true b0
  exact ⟨_, _, rfl⟩
