-- X3_as
noncomputable def lV_X3_as : List (Nat × (List mm_V → mm_S → (Option mm_V → mm_S → Option mm_R) → Option mm_R)) := [(59, clo_X3_finding), (90, clo_X0_kindOf)]
noncomputable def mV_X3_as (k : Nat) (as : List mm_V) (z : mm_S) (kk : Option mm_V → mm_S → Option mm_R) : Option mm_R := match mm_at lV_X3_as k with
  | some f => f as z kk
  | none => none
noncomputable def arV_X3_as (k : Nat) : Nat := (mm_at [(59, 2), (90, 2)] k).getD 0
noncomputable def lS_X3_as : List (Nat × (List mm_V → mm_S → (Option mm_V → mm_S → Option mm_R) → Option mm_R)) := [(76, clo_X3_isKind), (165, clo_X3_at), (300, clo_X3_isSpot), (306, clo_X3_isOfKind)]
noncomputable def mS_X3_as (k : Nat) (as : List mm_V) (z : mm_S) (kk : Option mm_V → mm_S → Option mm_R) : Option mm_R := match mm_at lS_X3_as k with
  | some f => f as z kk
  | none => none
noncomputable def arS_X3_as (k : Nat) : Nat := (mm_at [(76, 1), (165, 2), (300, 1), (306, 2)] k).getD 0
def ct_X3_as : List (Nat × List Nat) := [(4, [0, 1, 2]), (11, [0, 1, 2]), (20, [0, 1, 2]), (32, [0, 2, 3]), (43, [0, 2, 3]), (55, [0, 3]), (58, [3])]
noncomputable def go_X3_as : Nat → mm_K := mm_go (fun k => mm_at flX3 k) (fun k => mm_at clX3 k) (fun k => mm_at glX3 k) arV_X3_as arS_X3_as mV_X3_as mS_X3_as lenX roX snX 4 0 tbX3_as ct_X3_as
noncomputable def eX3_as_0 (n : Nat)  (x1 : Int32) (x2 : Int32) (z : mm_S) : Option mm_R := go_X3_as n 0 [(0, mm_P 3 0), (1, mm_I x1), (2, mm_I x2)] [] z
noncomputable def eX3_as_4 (n : Nat)  (y1 : Int32) (y2 : Int32) (w0 : Int32) (z : mm_S) : Option mm_R := go_X3_as n 4 [(0, mm_P 3 0), (1, mm_I y1), (2, mm_I y2)] [mm_I w0] z
noncomputable def eX3_as_11 (n : Nat)  (y1 : Int32) (y2 : Int32) (w0 : Int32) (z : mm_S) : Option mm_R := go_X3_as n 11 [(0, mm_P 3 0), (1, mm_I y1), (2, mm_I y2)] [mm_I w0] z
noncomputable def eX3_as_20 (n : Nat)  (y1 : Int32) (y2 : Int32) (z : mm_S) : Option mm_R := go_X3_as n 20 [(0, mm_P 3 0), (1, mm_I y1), (2, mm_I y2)] [] z
noncomputable def eX3_as_32 (n : Nat)  (y2 : Int32) (y3 : Int32) (z : mm_S) : Option mm_R := go_X3_as n 32 [(0, mm_P 3 0), (2, mm_I y2), (3, mm_I y3)] [] z
noncomputable def eX3_as_43 (n : Nat)  (y2 : Int32) (y3 : Int32) (z : mm_S) : Option mm_R := go_X3_as n 43 [(0, mm_P 3 0), (2, mm_I y2), (3, mm_I y3)] [] z
noncomputable def eX3_as_55 (n : Nat)  (y3 : Int32) (w0 : Int32) (z : mm_S) : Option mm_R := go_X3_as n 55 [(0, mm_P 3 0), (3, mm_I y3)] [mm_I w0] z
noncomputable def eX3_as_58 (n : Nat) (y3 : Int32) (z : mm_S) : Option mm_R := go_X3_as n 58 [(3, mm_I y3)] [] z
set_option maxRecDepth 100000 in
theorem qX3_as_0 (n : Nat)  (x1 : Int32) (x2 : Int32) (z : mm_S) : eX3_as_0 (n + 1) x1 x2 z = (eX3_as_4 n x1 x2 (pX3_isSpot x1) z) := rfl
set_option maxRecDepth 100000 in
theorem qX3_as_4 (n : Nat)  (y1 : Int32) (y2 : Int32) (w0 : Int32) (z : mm_S) : eX3_as_4 (n + 1) y1 y2 w0 z = (if w0 = 0 then (sX3_finding 0 z).bind fun q1 => some (some (mm_I q1.1), q1.2) else eX3_as_11 n y1 y2 (pX3_isKind y2) z) := rfl
set_option maxRecDepth 100000 in
theorem qX3_as_11 (n : Nat)  (y1 : Int32) (y2 : Int32) (w0 : Int32) (z : mm_S) : eX3_as_11 (n + 1) y1 y2 w0 z = (if w0 = 0 then (sX3_finding 0 z).bind fun q2 => some (some (mm_I q2.1), q2.2) else eX3_as_20 n y1 y2 z) := rfl
set_option maxRecDepth 100000 in
theorem qX3_as_20 (n : Nat)  (y1 : Int32) (y2 : Int32) (z : mm_S) : eX3_as_20 (n + 1) y1 y2 z = (eX3_as_32 n y2 (pX3_at 12 y1 z) z) := rfl
set_option maxRecDepth 100000 in
theorem qX3_as_32 (n : Nat)  (y2 : Int32) (y3 : Int32) (z : mm_S) : eX3_as_32 (n + 1) y2 y3 z = (if y3 = (-1) then (sX3_finding 5 z).bind fun q3 => some (some (mm_I q3.1), q3.2) else eX3_as_43 n y2 y3 z) := rfl
set_option maxRecDepth 100000 in
theorem qX3_as_43 (n : Nat)  (y2 : Int32) (y3 : Int32) (z : mm_S) : eX3_as_43 (n + 1) y2 y3 z = ((sX3_isOfKind (pX0_kindOf 1 y3 z) y2 z).bind fun q4 => eX3_as_55 n y3 q4.1 q4.2) := rfl
set_option maxRecDepth 100000 in
theorem qX3_as_55 (n : Nat)  (y3 : Int32) (w0 : Int32) (z : mm_S) : eX3_as_55 (n + 1) y3 w0 z = (if w0 = 0 then (sX3_finding 2 z).bind fun q5 => some (some (mm_I q5.1), q5.2) else eX3_as_58 n y3 z) := rfl
set_option maxRecDepth 100000 in
theorem qX3_as_58 (n : Nat) (y3 : Int32) (z : mm_S) : eX3_as_58 (n + 1) y3 z = (some (some (mm_I y3), z)) := rfl
def rm_X3_as : Room := { frames := 2, cells := 0, slots := 0, locals := 44 }
noncomputable def f_X3_as (as : List mm_V) (z : mm_S) (o : mm_R) : Prop := (as.map mm_cat).sum ≤ 4 ∧ ∃ n, go_X3_as n 0 (mm_ar 0 as) [] z = some o
theorem M_X3_as : mm_M lyTX lyFA lenX snX 46 48 17 roX rsA nfA nmA ssX yX3_as cX3_as 4 (some .int) rm_X3_as f_X3_as :=
  mm_met (rt := 0) (by decide +kernel) ⟨fun h => rfl, fun h => absurd h (by decide), fun h => absurd h (by decide), fun h => absurd h (by decide)⟩ tbX3_as_ok hsnX okFX3 okLX3 okGX3 (fun _ _ _ _ => rfl) (fun _ _ _ _ => rfl) (List.forall_mem_cons.mpr ⟨sV_X3_finding (Or.inl lk_X3_59) rfl ⟨by decide, by decide⟩, List.forall_mem_cons.mpr ⟨sV_X0_kindOf (Or.inl lk_X3_90) rfl ⟨by decide, by decide⟩, fun _ h => absurd h List.not_mem_nil⟩⟩) (List.forall_mem_cons.mpr ⟨sS_X3_isKind (Or.inl lk_X3_76) rfl ⟨by decide, by decide⟩, List.forall_mem_cons.mpr ⟨sS_X3_at (Or.inl lk_X3_165) rfl ⟨by decide, by decide⟩, List.forall_mem_cons.mpr ⟨sS_X3_isSpot (Or.inl lk_X3_300) rfl ⟨by decide, by decide⟩, List.forall_mem_cons.mpr ⟨sS_X3_isOfKind (Or.inl lk_X3_306) rfl ⟨by decide, by decide⟩, fun _ h => absurd h List.not_mem_nil⟩⟩⟩⟩)
noncomputable def sX3_as_58 (y3 : Int32) (z : mm_S) : Option (Int32 × mm_S) := some (y3, z)
theorem kX3_as_58 (y3 : Int32) (z : mm_S) (oo : mm_R) : mm_Xs (sX3_as_58 y3 z) (fun v => (fun v : Int32 × mm_S => ((some (mm_I v.1), v.2) : mm_R)) v = oo) (fun n => eX3_as_58 n y3 z) oo :=
  xs_row (fun n => qX3_as_58 n y3 z) (xs_v fun hc => ⟨0, congrArg some hc⟩)
noncomputable def sX3_as_55 (y3 : Int32) (w0 : Int32) (z : mm_S) : Option (Int32 × mm_S) := if w0 = 0 then (sX3_finding 2 z).bind fun q5 => some (q5.1, q5.2) else (sX3_as_58 y3 z)
theorem kX3_as_55 (y3 : Int32) (w0 : Int32) (z : mm_S) (oo : mm_R) : mm_Xs (sX3_as_55 y3 w0 z) (fun v => (fun v : Int32 × mm_S => ((some (mm_I v.1), v.2) : mm_R)) v = oo) (fun n => eX3_as_55 n y3 w0 z) oo :=
  xs_row (fun n => qX3_as_55 n y3 w0 z) (xs_if (xs_bd fun q5 => (xs_v fun hc => ⟨0, congrArg some hc⟩)) (kX3_as_58 y3 z oo))
noncomputable def sX3_as_43 (y2 : Int32) (y3 : Int32) (z : mm_S) : Option (Int32 × mm_S) := (sX3_isOfKind (pX0_kindOf 1 y3 z) y2 z).bind fun q4 => (sX3_as_55 y3 q4.1 q4.2)
theorem kX3_as_43 (y2 : Int32) (y3 : Int32) (z : mm_S) (oo : mm_R) : mm_Xs (sX3_as_43 y2 y3 z) (fun v => (fun v : Int32 × mm_S => ((some (mm_I v.1), v.2) : mm_R)) v = oo) (fun n => eX3_as_43 n y2 y3 z) oo :=
  xs_row (fun n => qX3_as_43 n y2 y3 z) (xs_bd fun q4 => (kX3_as_55 y3 q4.1 q4.2 oo))
noncomputable def sX3_as_32 (y2 : Int32) (y3 : Int32) (z : mm_S) : Option (Int32 × mm_S) := if y3 = (-1) then (sX3_finding 5 z).bind fun q3 => some (q3.1, q3.2) else (sX3_as_43 y2 y3 z)
theorem kX3_as_32 (y2 : Int32) (y3 : Int32) (z : mm_S) (oo : mm_R) : mm_Xs (sX3_as_32 y2 y3 z) (fun v => (fun v : Int32 × mm_S => ((some (mm_I v.1), v.2) : mm_R)) v = oo) (fun n => eX3_as_32 n y2 y3 z) oo :=
  xs_row (fun n => qX3_as_32 n y2 y3 z) (xs_if (xs_bd fun q3 => (xs_v fun hc => ⟨0, congrArg some hc⟩)) (kX3_as_43 y2 y3 z oo))
noncomputable def sX3_as_20 (y1 : Int32) (y2 : Int32) (z : mm_S) : Option (Int32 × mm_S) := (sX3_as_32 y2 (pX3_at 12 y1 z) z)
theorem kX3_as_20 (y1 : Int32) (y2 : Int32) (z : mm_S) (oo : mm_R) : mm_Xs (sX3_as_20 y1 y2 z) (fun v => (fun v : Int32 × mm_S => ((some (mm_I v.1), v.2) : mm_R)) v = oo) (fun n => eX3_as_20 n y1 y2 z) oo :=
  xs_row (fun n => qX3_as_20 n y1 y2 z) (kX3_as_32 y2 (pX3_at 12 y1 z) z oo)
noncomputable def sX3_as_11 (y1 : Int32) (y2 : Int32) (w0 : Int32) (z : mm_S) : Option (Int32 × mm_S) := if w0 = 0 then (sX3_finding 0 z).bind fun q2 => some (q2.1, q2.2) else (sX3_as_20 y1 y2 z)
theorem kX3_as_11 (y1 : Int32) (y2 : Int32) (w0 : Int32) (z : mm_S) (oo : mm_R) : mm_Xs (sX3_as_11 y1 y2 w0 z) (fun v => (fun v : Int32 × mm_S => ((some (mm_I v.1), v.2) : mm_R)) v = oo) (fun n => eX3_as_11 n y1 y2 w0 z) oo :=
  xs_row (fun n => qX3_as_11 n y1 y2 w0 z) (xs_if (xs_bd fun q2 => (xs_v fun hc => ⟨0, congrArg some hc⟩)) (kX3_as_20 y1 y2 z oo))
noncomputable def sX3_as_4 (y1 : Int32) (y2 : Int32) (w0 : Int32) (z : mm_S) : Option (Int32 × mm_S) := if w0 = 0 then (sX3_finding 0 z).bind fun q1 => some (q1.1, q1.2) else (sX3_as_11 y1 y2 (pX3_isKind y2) z)
theorem kX3_as_4 (y1 : Int32) (y2 : Int32) (w0 : Int32) (z : mm_S) (oo : mm_R) : mm_Xs (sX3_as_4 y1 y2 w0 z) (fun v => (fun v : Int32 × mm_S => ((some (mm_I v.1), v.2) : mm_R)) v = oo) (fun n => eX3_as_4 n y1 y2 w0 z) oo :=
  xs_row (fun n => qX3_as_4 n y1 y2 w0 z) (xs_if (xs_bd fun q1 => (xs_v fun hc => ⟨0, congrArg some hc⟩)) (kX3_as_11 y1 y2 (pX3_isKind y2) z oo))
noncomputable def sX3_as_0 (x1 : Int32) (x2 : Int32) (z : mm_S) : Option (Int32 × mm_S) := (sX3_as_4 x1 x2 (pX3_isSpot x1) z)
theorem kX3_as_0 (x1 : Int32) (x2 : Int32) (z : mm_S) (oo : mm_R) : mm_Xs (sX3_as_0 x1 x2 z) (fun v => (fun v : Int32 × mm_S => ((some (mm_I v.1), v.2) : mm_R)) v = oo) (fun n => eX3_as_0 n x1 x2 z) oo :=
  xs_row (fun n => qX3_as_0 n x1 x2 z) (kX3_as_4 x1 x2 (pX3_isSpot x1) z oo)
noncomputable def sX3_as (x1 : Int32) (x2 : Int32) (z : mm_S) : Option (Int32 × mm_S) := sX3_as_0 x1 x2 z
theorem sp_X3_as (x1 : Int32) (x2 : Int32) (z : mm_S) (hk : ∀ v ∈ [mm_P 3 0, mm_I x1, mm_I x2], mm_ok 46 lyTX 48 17 v) (q : Int32 × mm_S) (hq : sX3_as x1 x2 z = some q) : f_X3_as [mm_P 3 0, mm_I x1, mm_I x2] z (some (mm_I q.1), q.2) := ⟨Nat.le_of_ble_eq_true rfl, kX3_as_0 x1 x2 z _ q hq rfl⟩
noncomputable def clo_X3_as (as : List mm_V) (z : mm_S) (kk : Option mm_V → mm_S → Option mm_R) : Option mm_R := mm_pr as fun t o0 as => bif Nat.beq t 3 then mm_pi as fun a1 as => mm_pi as fun a2 as => (match as with | [] => (sX3_as a1 a2 z).bind fun q => kk (some (mm_I q.1)) q.2 | _ => none) else none
theorem cs_X3_as : mm_cs lyTX 46 48 17 f_X3_as clo_X3_as := by
  intro as z K o hk h
  obtain ⟨t0, o0, r0, rfl, g0⟩ := mm_pr_e h
  obtain ⟨b0, k0⟩ := mm_bif_e g0
  obtain rfl := Nat.eq_of_beq_eq_true b0
  obtain ⟨a1, r1, rfl, g1⟩ := mm_pi_e k0
  obtain ⟨a2, r2, rfl, g2⟩ := mm_pi_e g1
  rcases r2 with _ | ⟨u, w⟩
  rotate_left
  · cases g2
  obtain rfl : o0 = 0 := ok3 (hk (mm_P 3 o0) (by simp))
  obtain ⟨q, hq, hq2⟩ := Option.bind_eq_some_iff.mp g2
  exact ⟨_, _, sp_X3_as a1 a2 z hk q hq, fun v hv => by cases hv; exact Or.inl ⟨_, rfl⟩, hq2⟩
theorem sV_X3_as {own : String} {R : Room} {ar : Nat → Nat} {k : Nat} (hlink : Cond.methodLink own k yX3_as ∈ lw_gd ∨ ∃ host, (own, k, yX3_as, host) ∈ nmA) (har : ar k = 3) (hr : 3 ≤ R.frames ∧ 67 ≤ R.locals) : mm_okV lyTX lyFA lenX snX 46 48 17 roX rsA nfA nmA ssX own R ar k clo_X3_as := by
  refine ⟨yX3_as, cX3_as, 4, some .int, rm_X3_as, f_X3_as, 3, 2, (RX3, TX3, 12), M_X3_as, cs_X3_as, hlink, ⟨wv_X3_as, wz_X3_as, wi_X3_as, wc_X3_as⟩, ⟨by decide +kernel, by decide +kernel, by decide +kernel⟩, har, ⟨rfl, rfl, by decide⟩, ?_, ⟨rfl, rfl, hr.1, hr.2⟩⟩
  intro as z K o h
  obtain ⟨t0, o0, r0, rfl, g0⟩ := mm_pr_e h
  obtain ⟨b0, k0⟩ := mm_bif_e g0
  obtain rfl := Nat.eq_of_beq_eq_true b0
  exact ⟨_, _, rfl⟩
-- X3_sheet
noncomputable def lV_X3_sheet : List (Nat × (List mm_V → mm_S → (Option mm_V → mm_S → Option mm_R) → Option mm_R)) := [(59, clo_X3_finding)]
noncomputable def mV_X3_sheet (k : Nat) (as : List mm_V) (z : mm_S) (kk : Option mm_V → mm_S → Option mm_R) : Option mm_R := match mm_at lV_X3_sheet k with
  | some f => f as z kk
  | none => none
noncomputable def arV_X3_sheet (k : Nat) : Nat := (mm_at [(59, 2)] k).getD 0
noncomputable def lS_X3_sheet : List (Nat × (List mm_V → mm_S → (Option mm_V → mm_S → Option mm_R) → Option mm_R)) := [(111, clo_X3_exchange), (309, clo_X3_isSheet)]
noncomputable def mS_X3_sheet (k : Nat) (as : List mm_V) (z : mm_S) (kk : Option mm_V → mm_S → Option mm_R) : Option mm_R := match mm_at lS_X3_sheet k with
  | some f => f as z kk
  | none => none
noncomputable def arS_X3_sheet (k : Nat) : Nat := (mm_at [(111, 3), (309, 1)] k).getD 0
def ct_X3_sheet : List (Nat × List Nat) := [(4, [0, 1, 2, 3]), (35, [0, 1, 2, 3]), (46, [0, 1, 2, 3]), (58, [0, 1, 2, 3]), (79, [0, 1, 4]), (90, [0, 1, 4]), (93, [0, 1, 4, 5]), (116, [0, 1, 4, 5])]
noncomputable def go_X3_sheet : Nat → mm_K := mm_go (fun k => mm_at flX3 k) (fun k => mm_at clX3 k) (fun k => mm_at glX3 k) arV_X3_sheet arS_X3_sheet mV_X3_sheet mS_X3_sheet lenX roX snX 6 0 tbX3_sheet ct_X3_sheet
noncomputable def eX3_sheet_0 (n : Nat)  (x1 : Int32) (x2 : Int32) (x3 : Int32) (z : mm_S) : Option mm_R := go_X3_sheet n 0 [(0, mm_P 3 0), (1, mm_I x1), (2, mm_I x2), (3, mm_I x3)] [] z
noncomputable def eX3_sheet_4 (n : Nat)  (y1 : Int32) (y2 : Int32) (y3 : Int32) (w0 : Int32) (z : mm_S) : Option mm_R := go_X3_sheet n 4 [(0, mm_P 3 0), (1, mm_I y1), (2, mm_I y2), (3, mm_I y3)] [mm_I w0] z
noncomputable def eX3_sheet_35 (n : Nat)  (y1 : Int32) (y2 : Int32) (y3 : Int32) (z : mm_S) : Option mm_R := go_X3_sheet n 35 [(0, mm_P 3 0), (1, mm_I y1), (2, mm_I y2), (3, mm_I y3)] [] z
noncomputable def eX3_sheet_46 (n : Nat)  (y1 : Int32) (y2 : Int32) (y3 : Int32) (z : mm_S) : Option mm_R := go_X3_sheet n 46 [(0, mm_P 3 0), (1, mm_I y1), (2, mm_I y2), (3, mm_I y3)] [] z
noncomputable def eX3_sheet_58 (n : Nat)  (y1 : Int32) (y2 : Int32) (y3 : Int32) (z : mm_S) : Option mm_R := go_X3_sheet n 58 [(0, mm_P 3 0), (1, mm_I y1), (2, mm_I y2), (3, mm_I y3)] [] z
noncomputable def eX3_sheet_79 (n : Nat)  (y1 : Int32) (y4 : Int32) (z : mm_S) : Option mm_R := go_X3_sheet n 79 [(0, mm_P 3 0), (1, mm_I y1), (4, mm_I y4)] [] z
noncomputable def eX3_sheet_90 (n : Nat)  (y1 : Int32) (y4 : Int32) (z : mm_S) : Option mm_R := go_X3_sheet n 90 [(0, mm_P 3 0), (1, mm_I y1), (4, mm_I y4)] [] z
noncomputable def eX3_sheet_93 (n : Nat)  (y1 : Int32) (y4 : Int32) (y5 : Int32) (z : mm_S) : Option mm_R := go_X3_sheet n 93 [(0, mm_P 3 0), (1, mm_I y1), (4, mm_I y4), (5, mm_I y5)] [] z
noncomputable def eX3_sheet_116 (n : Nat)  (y1 : Int32) (y4 : Int32) (y5 : Int32) (z : mm_S) : Option mm_R := go_X3_sheet n 116 [(0, mm_P 3 0), (1, mm_I y1), (4, mm_I y4), (5, mm_I y5)] [] z
set_option maxRecDepth 100000 in
theorem qX3_sheet_0 (n : Nat)  (x1 : Int32) (x2 : Int32) (x3 : Int32) (z : mm_S) : eX3_sheet_0 (n + 1) x1 x2 x3 z = (eX3_sheet_4 n x1 x2 x3 (pX3_isSheet x1) z) := rfl
set_option maxRecDepth 100000 in
theorem qX3_sheet_4 (n : Nat)  (y1 : Int32) (y2 : Int32) (y3 : Int32) (w0 : Int32) (z : mm_S) : eX3_sheet_4 (n + 1) y1 y2 y3 w0 z = (if w0 = 0 then (sX3_finding 0 z).bind fun q1 => some (some (mm_I q1.1), q1.2) else if y2 = 0 then eX3_sheet_35 n y1 y2 y3 z else if y2 = 8 then eX3_sheet_35 n y1 y2 y3 z else if y2 = 16 then eX3_sheet_35 n y1 y2 y3 z else if y2 = 32 then eX3_sheet_35 n y1 y2 y3 z else (sX3_finding 0 z).bind fun q2 => some (some (mm_I q2.1), q2.2)) := rfl
set_option maxRecDepth 100000 in
theorem qX3_sheet_35 (n : Nat)  (y1 : Int32) (y2 : Int32) (y3 : Int32) (z : mm_S) : eX3_sheet_35 (n + 1) y1 y2 y3 z = (if 0 ≤ y3 then eX3_sheet_46 n y1 y2 y3 z else (sX3_finding 6 z).bind fun q3 => some (some (mm_I q3.1), q3.2)) := rfl
set_option maxRecDepth 100000 in
theorem qX3_sheet_46 (n : Nat)  (y1 : Int32) (y2 : Int32) (y3 : Int32) (z : mm_S) : eX3_sheet_46 (n + 1) y1 y2 y3 z = (if y3 ≤ 40 then eX3_sheet_58 n y1 y2 y3 z else (sX3_finding 0 z).bind fun q4 => some (some (mm_I q4.1), q4.2)) := rfl
set_option maxRecDepth 100000 in
theorem qX3_sheet_58 (n : Nat)  (y1 : Int32) (y2 : Int32) (y3 : Int32) (z : mm_S) : eX3_sheet_58 (n + 1) y1 y2 y3 z = (if y2 = 0 then let u6 := (tX3_exchange 39 y1 y2 z); eX3_sheet_79 n y1 0 u6.2 else let u5 := (tX3_exchange 39 y1 y2 z); eX3_sheet_79 n y1 y3 u5.2) := rfl
set_option maxRecDepth 100000 in
theorem qX3_sheet_79 (n : Nat)  (y1 : Int32) (y4 : Int32) (z : mm_S) : eX3_sheet_79 (n + 1) y1 y4 z = (let u7 := (tX3_exchange 40 y1 y4 z); eX3_sheet_90 n y1 y4 u7.2) := rfl
set_option maxRecDepth 100000 in
theorem qX3_sheet_90 (n : Nat)  (y1 : Int32) (y4 : Int32) (z : mm_S) : eX3_sheet_90 (n + 1) y1 y4 z = (eX3_sheet_93 n y1 y4 0 z) := rfl
set_option maxRecDepth 100000 in
theorem qX3_sheet_93 (n : Nat)  (y1 : Int32) (y4 : Int32) (y5 : Int32) (z : mm_S) : eX3_sheet_93 (n + 1) y1 y4 y5 z = (if y4 ≤ y5 then some (some (mm_I y4), z) else let u8 := (tX3_exchange 41 ((y1 * 40) + y5) 0 z); eX3_sheet_116 n y1 y4 y5 u8.2) := rfl
set_option maxRecDepth 100000 in
theorem qX3_sheet_116 (n : Nat)  (y1 : Int32) (y4 : Int32) (y5 : Int32) (z : mm_S) : eX3_sheet_116 (n + 1) y1 y4 y5 z = (eX3_sheet_93 n y1 y4 (y5 + 1) z) := rfl
def rm_X3_sheet : Room := { frames := 2, cells := 0, slots := 0, locals := 44 }
noncomputable def f_X3_sheet (as : List mm_V) (z : mm_S) (o : mm_R) : Prop := (as.map mm_cat).sum ≤ 6 ∧ ∃ n, go_X3_sheet n 0 (mm_ar 0 as) [] z = some o
theorem M_X3_sheet : mm_M lyTX lyFA lenX snX 46 48 17 roX rsA nfA nmA ssX yX3_sheet cX3_sheet 6 (some .int) rm_X3_sheet f_X3_sheet :=
  mm_met (rt := 0) (by decide +kernel) ⟨fun h => rfl, fun h => absurd h (by decide), fun h => absurd h (by decide), fun h => absurd h (by decide)⟩ tbX3_sheet_ok hsnX okFX3 okLX3 okGX3 (fun _ _ _ _ => rfl) (fun _ _ _ _ => rfl) (List.forall_mem_cons.mpr ⟨sV_X3_finding (Or.inl lk_X3_59) rfl ⟨by decide, by decide⟩, fun _ h => absurd h List.not_mem_nil⟩) (List.forall_mem_cons.mpr ⟨sS_X3_exchange (Or.inl lk_X3_111) rfl ⟨by decide, by decide⟩, List.forall_mem_cons.mpr ⟨sS_X3_isSheet (Or.inl lk_X3_309) rfl ⟨by decide, by decide⟩, fun _ h => absurd h List.not_mem_nil⟩⟩)
noncomputable def sX3_sheet_116 (y1 : Int32) (y4 : Int32) (y5 : Int32) (z : mm_S) : Option ((Int32 × Int32 × Int32 × mm_S) ⊕ (Int32 × mm_S)) := some (.inl (y1, y4, (y5 + 1), z))
theorem kX3_sheet_116 (y1 : Int32) (y4 : Int32) (y5 : Int32) (z : mm_S) (oo : mm_R) : mm_Xs (sX3_sheet_116 y1 y4 y5 z) (mm_mt (fun x : Int32 × Int32 × Int32 × mm_S => ∃ n, eX3_sheet_93 n x.1 x.2.1 x.2.2.1 x.2.2.2 = some oo) (fun v => (fun v : Int32 × mm_S => ((some (mm_I v.1), v.2) : mm_R)) v = oo)) (fun n => eX3_sheet_116 n y1 y4 y5 z) oo :=
  xs_row (fun n => qX3_sheet_116 n y1 y4 y5 z) (xs_v fun hc => hc)
noncomputable def lX3_sheet_93 (s : Int32 × Int32 × Int32 × mm_S) : Option ((Int32 × Int32 × Int32 × mm_S) ⊕ (Int32 × mm_S)) := if s.2.1 ≤ s.2.2.1 then some (.inr (s.2.1, s.2.2.2)) else let u8 := (tX3_exchange 41 ((s.1 * 40) + s.2.2.1) 0 s.2.2.2); (sX3_sheet_116 s.1 s.2.1 s.2.2.1 u8.2)
noncomputable def sX3_sheet_93 (y1 : Int32) (y4 : Int32) (y5 : Int32) (z : mm_S) : Option (Int32 × mm_S) := mm_wh (lX3_sheet_93 ) mm_fu (y1, y4, y5, z)
theorem kX3_sheet_93 (y1 : Int32) (y4 : Int32) (y5 : Int32) (z : mm_S) (oo : mm_R) : mm_Xs (sX3_sheet_93 y1 y4 y5 z) (fun v => (fun v : Int32 × mm_S => ((some (mm_I v.1), v.2) : mm_R)) v = oo) (fun n => eX3_sheet_93 n y1 y4 y5 z) oo :=
  xs_wh (stp := lX3_sheet_93 ) (o := oo) (E := (fun (s : Int32 × Int32 × Int32 × mm_S) n => eX3_sheet_93 n s.1 s.2.1 s.2.2.1 s.2.2.2)) (C := (fun v => (fun v : Int32 × mm_S => ((some (mm_I v.1), v.2) : mm_R)) v = oo)) (fun s => xs_row (fun n => qX3_sheet_93 n s.1 s.2.1 s.2.2.1 s.2.2.2) (xs_if (xs_v fun hc => ⟨0, congrArg some hc⟩) (xs_let ((tX3_exchange 41 ((s.1 * 40) + s.2.2.1) 0 s.2.2.2)) (S := fun (u8 : _) => ((sX3_sheet_116 s.1 s.2.1 s.2.2.1 u8.2) : Option ((Int32 × Int32 × Int32 × mm_S) ⊕ (Int32 × mm_S)))) (T := fun (u8 : _) n => eX3_sheet_116 n s.1 s.2.1 s.2.2.1 u8.2) (fun u8 => (kX3_sheet_116 s.1 s.2.1 s.2.2.1 u8.2 oo))))) mm_fu (y1, y4, y5, z)
noncomputable def sX3_sheet_90 (y1 : Int32) (y4 : Int32) (z : mm_S) : Option (Int32 × mm_S) := (sX3_sheet_93 y1 y4 0 z)
theorem kX3_sheet_90 (y1 : Int32) (y4 : Int32) (z : mm_S) (oo : mm_R) : mm_Xs (sX3_sheet_90 y1 y4 z) (fun v => (fun v : Int32 × mm_S => ((some (mm_I v.1), v.2) : mm_R)) v = oo) (fun n => eX3_sheet_90 n y1 y4 z) oo :=
  xs_row (fun n => qX3_sheet_90 n y1 y4 z) (kX3_sheet_93 y1 y4 0 z oo)
noncomputable def sX3_sheet_79 (y1 : Int32) (y4 : Int32) (z : mm_S) : Option (Int32 × mm_S) := let u7 := (tX3_exchange 40 y1 y4 z); (sX3_sheet_90 y1 y4 u7.2)
theorem kX3_sheet_79 (y1 : Int32) (y4 : Int32) (z : mm_S) (oo : mm_R) : mm_Xs (sX3_sheet_79 y1 y4 z) (fun v => (fun v : Int32 × mm_S => ((some (mm_I v.1), v.2) : mm_R)) v = oo) (fun n => eX3_sheet_79 n y1 y4 z) oo :=
  xs_row (fun n => qX3_sheet_79 n y1 y4 z) (xs_let ((tX3_exchange 40 y1 y4 z)) (S := fun (u7 : _) => ((sX3_sheet_90 y1 y4 u7.2) : Option (Int32 × mm_S))) (T := fun (u7 : _) n => eX3_sheet_90 n y1 y4 u7.2) (fun u7 => (kX3_sheet_90 y1 y4 u7.2 oo)))
noncomputable def sX3_sheet_58 (y1 : Int32) (y2 : Int32) (y3 : Int32) (z : mm_S) : Option (Int32 × mm_S) := if y2 = 0 then let u6 := (tX3_exchange 39 y1 y2 z); (sX3_sheet_79 y1 0 u6.2) else let u5 := (tX3_exchange 39 y1 y2 z); (sX3_sheet_79 y1 y3 u5.2)
theorem kX3_sheet_58 (y1 : Int32) (y2 : Int32) (y3 : Int32) (z : mm_S) (oo : mm_R) : mm_Xs (sX3_sheet_58 y1 y2 y3 z) (fun v => (fun v : Int32 × mm_S => ((some (mm_I v.1), v.2) : mm_R)) v = oo) (fun n => eX3_sheet_58 n y1 y2 y3 z) oo :=
  xs_row (fun n => qX3_sheet_58 n y1 y2 y3 z) (xs_if (xs_let ((tX3_exchange 39 y1 y2 z)) (S := fun (u6 : _) => ((sX3_sheet_79 y1 0 u6.2) : Option (Int32 × mm_S))) (T := fun (u6 : _) n => eX3_sheet_79 n y1 0 u6.2) (fun u6 => (kX3_sheet_79 y1 0 u6.2 oo))) (xs_let ((tX3_exchange 39 y1 y2 z)) (S := fun (u5 : _) => ((sX3_sheet_79 y1 y3 u5.2) : Option (Int32 × mm_S))) (T := fun (u5 : _) n => eX3_sheet_79 n y1 y3 u5.2) (fun u5 => (kX3_sheet_79 y1 y3 u5.2 oo))))
noncomputable def sX3_sheet_46 (y1 : Int32) (y2 : Int32) (y3 : Int32) (z : mm_S) : Option (Int32 × mm_S) := if y3 ≤ 40 then (sX3_sheet_58 y1 y2 y3 z) else (sX3_finding 0 z).bind fun q4 => some (q4.1, q4.2)
theorem kX3_sheet_46 (y1 : Int32) (y2 : Int32) (y3 : Int32) (z : mm_S) (oo : mm_R) : mm_Xs (sX3_sheet_46 y1 y2 y3 z) (fun v => (fun v : Int32 × mm_S => ((some (mm_I v.1), v.2) : mm_R)) v = oo) (fun n => eX3_sheet_46 n y1 y2 y3 z) oo :=
  xs_row (fun n => qX3_sheet_46 n y1 y2 y3 z) (xs_if (kX3_sheet_58 y1 y2 y3 z oo) (xs_bd fun q4 => (xs_v fun hc => ⟨0, congrArg some hc⟩)))
noncomputable def sX3_sheet_35 (y1 : Int32) (y2 : Int32) (y3 : Int32) (z : mm_S) : Option (Int32 × mm_S) := if 0 ≤ y3 then (sX3_sheet_46 y1 y2 y3 z) else (sX3_finding 6 z).bind fun q3 => some (q3.1, q3.2)
theorem kX3_sheet_35 (y1 : Int32) (y2 : Int32) (y3 : Int32) (z : mm_S) (oo : mm_R) : mm_Xs (sX3_sheet_35 y1 y2 y3 z) (fun v => (fun v : Int32 × mm_S => ((some (mm_I v.1), v.2) : mm_R)) v = oo) (fun n => eX3_sheet_35 n y1 y2 y3 z) oo :=
  xs_row (fun n => qX3_sheet_35 n y1 y2 y3 z) (xs_if (kX3_sheet_46 y1 y2 y3 z oo) (xs_bd fun q3 => (xs_v fun hc => ⟨0, congrArg some hc⟩)))
noncomputable def sX3_sheet_4 (y1 : Int32) (y2 : Int32) (y3 : Int32) (w0 : Int32) (z : mm_S) : Option (Int32 × mm_S) := if w0 = 0 then (sX3_finding 0 z).bind fun q1 => some (q1.1, q1.2) else if y2 = 0 then (sX3_sheet_35 y1 y2 y3 z) else if y2 = 8 then (sX3_sheet_35 y1 y2 y3 z) else if y2 = 16 then (sX3_sheet_35 y1 y2 y3 z) else if y2 = 32 then (sX3_sheet_35 y1 y2 y3 z) else (sX3_finding 0 z).bind fun q2 => some (q2.1, q2.2)
theorem kX3_sheet_4 (y1 : Int32) (y2 : Int32) (y3 : Int32) (w0 : Int32) (z : mm_S) (oo : mm_R) : mm_Xs (sX3_sheet_4 y1 y2 y3 w0 z) (fun v => (fun v : Int32 × mm_S => ((some (mm_I v.1), v.2) : mm_R)) v = oo) (fun n => eX3_sheet_4 n y1 y2 y3 w0 z) oo :=
  xs_row (fun n => qX3_sheet_4 n y1 y2 y3 w0 z) (xs_if (xs_bd fun q1 => (xs_v fun hc => ⟨0, congrArg some hc⟩)) (xs_if (kX3_sheet_35 y1 y2 y3 z oo) (xs_if (kX3_sheet_35 y1 y2 y3 z oo) (xs_if (kX3_sheet_35 y1 y2 y3 z oo) (xs_if (kX3_sheet_35 y1 y2 y3 z oo) (xs_bd fun q2 => (xs_v fun hc => ⟨0, congrArg some hc⟩)))))))
noncomputable def sX3_sheet_0 (x1 : Int32) (x2 : Int32) (x3 : Int32) (z : mm_S) : Option (Int32 × mm_S) := (sX3_sheet_4 x1 x2 x3 (pX3_isSheet x1) z)
theorem kX3_sheet_0 (x1 : Int32) (x2 : Int32) (x3 : Int32) (z : mm_S) (oo : mm_R) : mm_Xs (sX3_sheet_0 x1 x2 x3 z) (fun v => (fun v : Int32 × mm_S => ((some (mm_I v.1), v.2) : mm_R)) v = oo) (fun n => eX3_sheet_0 n x1 x2 x3 z) oo :=
  xs_row (fun n => qX3_sheet_0 n x1 x2 x3 z) (kX3_sheet_4 x1 x2 x3 (pX3_isSheet x1) z oo)
noncomputable def sX3_sheet (x1 : Int32) (x2 : Int32) (x3 : Int32) (z : mm_S) : Option (Int32 × mm_S) := sX3_sheet_0 x1 x2 x3 z
theorem sp_X3_sheet (x1 : Int32) (x2 : Int32) (x3 : Int32) (z : mm_S) (hk : ∀ v ∈ [mm_P 3 0, mm_I x1, mm_I x2, mm_I x3], mm_ok 46 lyTX 48 17 v) (q : Int32 × mm_S) (hq : sX3_sheet x1 x2 x3 z = some q) : f_X3_sheet [mm_P 3 0, mm_I x1, mm_I x2, mm_I x3] z (some (mm_I q.1), q.2) := ⟨Nat.le_of_ble_eq_true rfl, kX3_sheet_0 x1 x2 x3 z _ q hq rfl⟩
noncomputable def clo_X3_sheet (as : List mm_V) (z : mm_S) (kk : Option mm_V → mm_S → Option mm_R) : Option mm_R := mm_pr as fun t o0 as => bif Nat.beq t 3 then mm_pi as fun a1 as => mm_pi as fun a2 as => mm_pi as fun a3 as => (match as with | [] => (sX3_sheet a1 a2 a3 z).bind fun q => kk (some (mm_I q.1)) q.2 | _ => none) else none
theorem cs_X3_sheet : mm_cs lyTX 46 48 17 f_X3_sheet clo_X3_sheet := by
  intro as z K o hk h
  obtain ⟨t0, o0, r0, rfl, g0⟩ := mm_pr_e h
  obtain ⟨b0, k0⟩ := mm_bif_e g0
  obtain rfl := Nat.eq_of_beq_eq_true b0
  obtain ⟨a1, r1, rfl, g1⟩ := mm_pi_e k0
  obtain ⟨a2, r2, rfl, g2⟩ := mm_pi_e g1
  obtain ⟨a3, r3, rfl, g3⟩ := mm_pi_e g2
  rcases r3 with _ | ⟨u, w⟩
  rotate_left
  · cases g3
  obtain rfl : o0 = 0 := ok3 (hk (mm_P 3 o0) (by simp))
  obtain ⟨q, hq, hq2⟩ := Option.bind_eq_some_iff.mp g3
  exact ⟨_, _, sp_X3_sheet a1 a2 a3 z hk q hq, fun v hv => by cases hv; exact Or.inl ⟨_, rfl⟩, hq2⟩
theorem sV_X3_sheet {own : String} {R : Room} {ar : Nat → Nat} {k : Nat} (hlink : Cond.methodLink own k yX3_sheet ∈ lw_gd ∨ ∃ host, (own, k, yX3_sheet, host) ∈ nmA) (har : ar k = 4) (hr : 3 ≤ R.frames ∧ 69 ≤ R.locals) : mm_okV lyTX lyFA lenX snX 46 48 17 roX rsA nfA nmA ssX own R ar k clo_X3_sheet := by
  refine ⟨yX3_sheet, cX3_sheet, 6, some .int, rm_X3_sheet, f_X3_sheet, 3, 3, (RX3, TX3, 12), M_X3_sheet, cs_X3_sheet, hlink, ⟨wv_X3_sheet, wz_X3_sheet, wi_X3_sheet, wc_X3_sheet⟩, ⟨by decide +kernel, by decide +kernel, by decide +kernel⟩, har, ⟨rfl, rfl, by decide⟩, ?_, ⟨rfl, rfl, hr.1, hr.2⟩⟩
  intro as z K o h
  obtain ⟨t0, o0, r0, rfl, g0⟩ := mm_pr_e h
  obtain ⟨b0, k0⟩ := mm_bif_e g0
  obtain rfl := Nat.eq_of_beq_eq_true b0
  exact ⟨_, _, rfl⟩
-- X3_isMissing
noncomputable def lV_X3_isMissing : List (Nat × (List mm_V → mm_S → (Option mm_V → mm_S → Option mm_R) → Option mm_R)) := []
noncomputable def mV_X3_isMissing (k : Nat) (as : List mm_V) (z : mm_S) (kk : Option mm_V → mm_S → Option mm_R) : Option mm_R := match mm_at lV_X3_isMissing k with
  | some f => f as z kk
  | none => none
noncomputable def arV_X3_isMissing (k : Nat) : Nat := (mm_at [] k).getD 0
noncomputable def lS_X3_isMissing : List (Nat × (List mm_V → mm_S → (Option mm_V → mm_S → Option mm_R) → Option mm_R)) := [(165, clo_X3_at)]
noncomputable def mS_X3_isMissing (k : Nat) (as : List mm_V) (z : mm_S) (kk : Option mm_V → mm_S → Option mm_R) : Option mm_R := match mm_at lS_X3_isMissing k with
  | some f => f as z kk
  | none => none
noncomputable def arS_X3_isMissing (k : Nat) : Nat := (mm_at [(165, 2)] k).getD 0
def ct_X3_isMissing : List (Nat × List Nat) := []
noncomputable def go_X3_isMissing : Nat → mm_K := mm_go (fun k => mm_at flX3 k) (fun k => mm_at clX3 k) (fun k => mm_at glX3 k) arV_X3_isMissing arS_X3_isMissing mV_X3_isMissing mS_X3_isMissing lenX roX snX 2 1 tbX3_isMissing ct_X3_isMissing
noncomputable def eX3_isMissing_0 (n : Nat)  (x1 : Int32) (z : mm_S) : Option mm_R := go_X3_isMissing n 0 [(0, mm_P 3 0), (1, mm_I x1)] [] z
set_option maxRecDepth 100000 in
theorem qX3_isMissing_0 (n : Nat)  (x1 : Int32) (z : mm_S) : eX3_isMissing_0 (n + 1) x1 z = (if (pX3_at 39 x1 z) = 0 then some (some (mm_I 1), z) else some (some (mm_I 0), z)) := rfl
def rm_X3_isMissing : Room := { frames := 1, cells := 0, slots := 0, locals := 21 }
noncomputable def f_X3_isMissing (as : List mm_V) (z : mm_S) (o : mm_R) : Prop := (as.map mm_cat).sum ≤ 2 ∧ ∃ n, go_X3_isMissing n 0 (mm_ar 0 as) [] z = some o
theorem M_X3_isMissing : mm_M lyTX lyFA lenX snX 46 48 17 roX rsA nfA nmA ssX yX3_isMissing cX3_isMissing 2 (some .boolean) rm_X3_isMissing f_X3_isMissing :=
  mm_met (rt := 1) (by decide +kernel) ⟨fun h => absurd h (by decide), fun h => rfl, fun h => absurd h (by decide), fun h => absurd h (by decide)⟩ tbX3_isMissing_ok hsnX okFX3 okLX3 okGX3 (fun _ _ _ _ => rfl) (fun _ _ _ _ => rfl) (fun _ h => absurd h List.not_mem_nil) (List.forall_mem_cons.mpr ⟨sS_X3_at (Or.inl lk_X3_165) rfl ⟨by decide, by decide⟩, fun _ h => absurd h List.not_mem_nil⟩)
noncomputable def pX3_isMissing (x1 : Int32) (z : mm_S) : Int32 := if (pX3_at 39 x1 z) = 0 then 1 else 0
theorem z1_X3_isMissing (x1 : Int32) (z : mm_S) : pX3_isMissing x1 z = 0 ∨ pX3_isMissing x1 z = 1 := (mm_i01 (Or.inr rfl) (Or.inl rfl))
theorem sp_X3_isMissing (x1 : Int32) (z : mm_S) (_ : ∀ v ∈ [mm_P 3 0, mm_I x1], mm_ok 46 lyTX 48 17 v) : f_X3_isMissing [mm_P 3 0, mm_I x1] z (some (mm_I (pX3_isMissing x1 z)), z) := ⟨Nat.le_of_ble_eq_true rfl, 1, (qX3_isMissing_0 0 x1 z).trans (mm_if (fun v => some (some (mm_I v), z)) rfl rfl)⟩
noncomputable def clo_X3_isMissing (as : List mm_V) (z : mm_S) (kk : Option mm_V → mm_S → Option mm_R) : Option mm_R := mm_pr as fun t o0 as => bif Nat.beq t 3 then mm_pi as fun a1 as => (match as with | [] => kk (some (mm_I (pX3_isMissing a1 z))) z | _ => none) else none
theorem cs_X3_isMissing : mm_cs lyTX 46 48 17 f_X3_isMissing clo_X3_isMissing := by
  intro as z K o hk h
  obtain ⟨t0, o0, r0, rfl, g0⟩ := mm_pr_e h
  obtain ⟨b0, k0⟩ := mm_bif_e g0
  obtain rfl := Nat.eq_of_beq_eq_true b0
  obtain ⟨a1, r1, rfl, g1⟩ := mm_pi_e k0
  rcases r1 with _ | ⟨u, w⟩
  rotate_left
  · cases g1
  obtain rfl : o0 = 0 := ok3 (hk (mm_P 3 o0) (by simp))
  exact ⟨_, _, sp_X3_isMissing a1 z hk, fun v hv => by cases hv; exact Or.inl ⟨_, rfl⟩, g1⟩
theorem sV_X3_isMissing {own : String} {R : Room} {ar : Nat → Nat} {k : Nat} (hlink : Cond.methodLink own k yX3_isMissing ∈ lw_gd ∨ ∃ host, (own, k, yX3_isMissing, host) ∈ nmA) (har : ar k = 2) (hr : 2 ≤ R.frames ∧ 42 ≤ R.locals) : mm_okV lyTX lyFA lenX snX 46 48 17 roX rsA nfA nmA ssX own R ar k clo_X3_isMissing := by
  refine ⟨yX3_isMissing, cX3_isMissing, 2, some .boolean, rm_X3_isMissing, f_X3_isMissing, 3, 1, (RX3, TX3, 12), M_X3_isMissing, cs_X3_isMissing, hlink, ⟨wv_X3_isMissing, wz_X3_isMissing, wi_X3_isMissing, wc_X3_isMissing⟩, ⟨by decide +kernel, by decide +kernel, by decide +kernel⟩, har, ⟨rfl, rfl, by decide⟩, ?_, ⟨rfl, rfl, hr.1, hr.2⟩⟩
  intro as z K o h
  obtain ⟨t0, o0, r0, rfl, g0⟩ := mm_pr_e h
  obtain ⟨b0, k0⟩ := mm_bif_e g0
  obtain rfl := Nat.eq_of_beq_eq_true b0
  exact ⟨_, _, rfl⟩
-- X3_write
noncomputable def lV_X3_write : List (Nat × (List mm_V → mm_S → (Option mm_V → mm_S → Option mm_R) → Option mm_R)) := [(59, clo_X3_finding), (312, clo_X3_isMissing)]
noncomputable def mV_X3_write (k : Nat) (as : List mm_V) (z : mm_S) (kk : Option mm_V → mm_S → Option mm_R) : Option mm_R := match mm_at lV_X3_write k with
  | some f => f as z kk
  | none => none
noncomputable def arV_X3_write (k : Nat) : Nat := (mm_at [(59, 2), (312, 2)] k).getD 0
noncomputable def lS_X3_write : List (Nat × (List mm_V → mm_S → (Option mm_V → mm_S → Option mm_R) → Option mm_R)) := [(111, clo_X3_exchange), (118, clo_X3_lies), (165, clo_X3_at), (309, clo_X3_isSheet), (315, clo_X3_lowestBits)]
noncomputable def mS_X3_write (k : Nat) (as : List mm_V) (z : mm_S) (kk : Option mm_V → mm_S → Option mm_R) : Option mm_R := match mm_at lS_X3_write k with
  | some f => f as z kk
  | none => none
noncomputable def arS_X3_write (k : Nat) : Nat := (mm_at [(111, 3), (118, 3), (165, 2), (309, 1), (315, 2)] k).getD 0
def ct_X3_write : List (Nat × List Nat) := [(4, [0, 1, 2, 3]), (13, [0, 1, 2, 3]), (18, [0, 1, 2, 3]), (27, [0, 1, 2, 3]), (42, [0, 1, 2, 3]), (51, [0, 1, 2, 3]), (77, [])]
noncomputable def go_X3_write : Nat → mm_K := mm_go (fun k => mm_at flX3 k) (fun k => mm_at clX3 k) (fun k => mm_at glX3 k) arV_X3_write arS_X3_write mV_X3_write mS_X3_write lenX roX snX 4 0 tbX3_write ct_X3_write
noncomputable def eX3_write_0 (n : Nat)  (x1 : Int32) (x2 : Int32) (x3 : Int32) (z : mm_S) : Option mm_R := go_X3_write n 0 [(0, mm_P 3 0), (1, mm_I x1), (2, mm_I x2), (3, mm_I x3)] [] z
noncomputable def eX3_write_4 (n : Nat)  (y1 : Int32) (y2 : Int32) (y3 : Int32) (w0 : Int32) (z : mm_S) : Option mm_R := go_X3_write n 4 [(0, mm_P 3 0), (1, mm_I y1), (2, mm_I y2), (3, mm_I y3)] [mm_I w0] z
noncomputable def eX3_write_13 (n : Nat)  (y1 : Int32) (y2 : Int32) (y3 : Int32) (z : mm_S) : Option mm_R := go_X3_write n 13 [(0, mm_P 3 0), (1, mm_I y1), (2, mm_I y2), (3, mm_I y3)] [] z
noncomputable def eX3_write_18 (n : Nat)  (y1 : Int32) (y2 : Int32) (y3 : Int32) (w0 : Int32) (z : mm_S) : Option mm_R := go_X3_write n 18 [(0, mm_P 3 0), (1, mm_I y1), (2, mm_I y2), (3, mm_I y3)] [mm_I w0] z
noncomputable def eX3_write_27 (n : Nat)  (y1 : Int32) (y2 : Int32) (y3 : Int32) (z : mm_S) : Option mm_R := go_X3_write n 27 [(0, mm_P 3 0), (1, mm_I y1), (2, mm_I y2), (3, mm_I y3)] [] z
noncomputable def eX3_write_42 (n : Nat)  (y1 : Int32) (y2 : Int32) (y3 : Int32) (w0 : Int32) (z : mm_S) : Option mm_R := go_X3_write n 42 [(0, mm_P 3 0), (1, mm_I y1), (2, mm_I y2), (3, mm_I y3)] [mm_I w0] z
noncomputable def eX3_write_51 (n : Nat)  (y1 : Int32) (y2 : Int32) (y3 : Int32) (z : mm_S) : Option mm_R := go_X3_write n 51 [(0, mm_P 3 0), (1, mm_I y1), (2, mm_I y2), (3, mm_I y3)] [] z
noncomputable def eX3_write_77 (n : Nat)  (z : mm_S) : Option mm_R := go_X3_write n 77 [] [] z
set_option maxRecDepth 100000 in
theorem qX3_write_0 (n : Nat)  (x1 : Int32) (x2 : Int32) (x3 : Int32) (z : mm_S) : eX3_write_0 (n + 1) x1 x2 x3 z = (eX3_write_4 n x1 x2 x3 (pX3_isSheet x1) z) := rfl
set_option maxRecDepth 100000 in
theorem qX3_write_4 (n : Nat)  (y1 : Int32) (y2 : Int32) (y3 : Int32) (w0 : Int32) (z : mm_S) : eX3_write_4 (n + 1) y1 y2 y3 w0 z = (if w0 = 0 then (sX3_finding 0 z).bind fun q1 => some (some (mm_I q1.1), q1.2) else eX3_write_13 n y1 y2 y3 z) := rfl
set_option maxRecDepth 100000 in
theorem qX3_write_13 (n : Nat)  (y1 : Int32) (y2 : Int32) (y3 : Int32) (z : mm_S) : eX3_write_13 (n + 1) y1 y2 y3 z = (eX3_write_18 n y1 y2 y3 (pX3_isMissing y1 z) z) := rfl
set_option maxRecDepth 100000 in
theorem qX3_write_18 (n : Nat)  (y1 : Int32) (y2 : Int32) (y3 : Int32) (w0 : Int32) (z : mm_S) : eX3_write_18 (n + 1) y1 y2 y3 w0 z = (if w0 = 0 then eX3_write_27 n y1 y2 y3 z else (sX3_finding 5 z).bind fun q2 => some (some (mm_I q2.1), q2.2)) := rfl
set_option maxRecDepth 100000 in
theorem qX3_write_27 (n : Nat)  (y1 : Int32) (y2 : Int32) (y3 : Int32) (z : mm_S) : eX3_write_27 (n + 1) y1 y2 y3 z = (eX3_write_42 n y1 y2 y3 (pX3_lies y2 0 ((pX3_at 40 y1 z) - 1)) z) := rfl
set_option maxRecDepth 100000 in
theorem qX3_write_42 (n : Nat)  (y1 : Int32) (y2 : Int32) (y3 : Int32) (w0 : Int32) (z : mm_S) : eX3_write_42 (n + 1) y1 y2 y3 w0 z = (if w0 = 0 then (sX3_finding 0 z).bind fun q3 => some (some (mm_I q3.1), q3.2) else eX3_write_51 n y1 y2 y3 z) := rfl
set_option maxRecDepth 100000 in
theorem qX3_write_51 (n : Nat)  (y1 : Int32) (y2 : Int32) (y3 : Int32) (z : mm_S) : eX3_write_51 (n + 1) y1 y2 y3 z = (let u4 := (tX3_exchange 41 ((y1 * 40) + y2) (pX3_lowestBits y3 (pX3_at 39 y1 z)) z); eX3_write_77 n  u4.2) := rfl
set_option maxRecDepth 100000 in
theorem qX3_write_77 (n : Nat)  (z : mm_S) : eX3_write_77 (n + 1)  z = (some (some (mm_I 1), z)) := rfl
def rm_X3_write : Room := { frames := 2, cells := 0, slots := 0, locals := 44 }
noncomputable def f_X3_write (as : List mm_V) (z : mm_S) (o : mm_R) : Prop := (as.map mm_cat).sum ≤ 4 ∧ ∃ n, go_X3_write n 0 (mm_ar 0 as) [] z = some o
theorem M_X3_write : mm_M lyTX lyFA lenX snX 46 48 17 roX rsA nfA nmA ssX yX3_write cX3_write 4 (some .int) rm_X3_write f_X3_write :=
  mm_met (rt := 0) (by decide +kernel) ⟨fun h => rfl, fun h => absurd h (by decide), fun h => absurd h (by decide), fun h => absurd h (by decide)⟩ tbX3_write_ok hsnX okFX3 okLX3 okGX3 (fun _ _ _ _ => rfl) (fun _ _ _ _ => rfl) (List.forall_mem_cons.mpr ⟨sV_X3_finding (Or.inl lk_X3_59) rfl ⟨by decide, by decide⟩, List.forall_mem_cons.mpr ⟨sV_X3_isMissing (Or.inl lk_X3_312) rfl ⟨by decide, by decide⟩, fun _ h => absurd h List.not_mem_nil⟩⟩) (List.forall_mem_cons.mpr ⟨sS_X3_exchange (Or.inl lk_X3_111) rfl ⟨by decide, by decide⟩, List.forall_mem_cons.mpr ⟨sS_X3_lies (Or.inl lk_X3_118) rfl ⟨by decide, by decide⟩, List.forall_mem_cons.mpr ⟨sS_X3_at (Or.inl lk_X3_165) rfl ⟨by decide, by decide⟩, List.forall_mem_cons.mpr ⟨sS_X3_isSheet (Or.inl lk_X3_309) rfl ⟨by decide, by decide⟩, List.forall_mem_cons.mpr ⟨sS_X3_lowestBits (Or.inl lk_X3_315) rfl ⟨by decide, by decide⟩, fun _ h => absurd h List.not_mem_nil⟩⟩⟩⟩⟩)
noncomputable def sX3_write_77  (z : mm_S) : Option (Int32 × mm_S) := some (1, z)
theorem kX3_write_77  (z : mm_S) (oo : mm_R) : mm_Xs (sX3_write_77  z) (fun v => (fun v : Int32 × mm_S => ((some (mm_I v.1), v.2) : mm_R)) v = oo) (fun n => eX3_write_77 n  z) oo :=
  xs_row (fun n => qX3_write_77 n z) (xs_v fun hc => ⟨0, congrArg some hc⟩)
noncomputable def sX3_write_51 (y1 : Int32) (y2 : Int32) (y3 : Int32) (z : mm_S) : Option (Int32 × mm_S) := let u4 := (tX3_exchange 41 ((y1 * 40) + y2) (pX3_lowestBits y3 (pX3_at 39 y1 z)) z); (sX3_write_77 u4.2)
theorem kX3_write_51 (y1 : Int32) (y2 : Int32) (y3 : Int32) (z : mm_S) (oo : mm_R) : mm_Xs (sX3_write_51 y1 y2 y3 z) (fun v => (fun v : Int32 × mm_S => ((some (mm_I v.1), v.2) : mm_R)) v = oo) (fun n => eX3_write_51 n y1 y2 y3 z) oo :=
  xs_row (fun n => qX3_write_51 n y1 y2 y3 z) (xs_let ((tX3_exchange 41 ((y1 * 40) + y2) (pX3_lowestBits y3 (pX3_at 39 y1 z)) z)) (S := fun (u4 : _) => ((sX3_write_77 u4.2) : Option (Int32 × mm_S))) (T := fun (u4 : _) n => eX3_write_77 n  u4.2) (fun u4 => (kX3_write_77 u4.2 oo)))
noncomputable def sX3_write_42 (y1 : Int32) (y2 : Int32) (y3 : Int32) (w0 : Int32) (z : mm_S) : Option (Int32 × mm_S) := if w0 = 0 then (sX3_finding 0 z).bind fun q3 => some (q3.1, q3.2) else (sX3_write_51 y1 y2 y3 z)
theorem kX3_write_42 (y1 : Int32) (y2 : Int32) (y3 : Int32) (w0 : Int32) (z : mm_S) (oo : mm_R) : mm_Xs (sX3_write_42 y1 y2 y3 w0 z) (fun v => (fun v : Int32 × mm_S => ((some (mm_I v.1), v.2) : mm_R)) v = oo) (fun n => eX3_write_42 n y1 y2 y3 w0 z) oo :=
  xs_row (fun n => qX3_write_42 n y1 y2 y3 w0 z) (xs_if (xs_bd fun q3 => (xs_v fun hc => ⟨0, congrArg some hc⟩)) (kX3_write_51 y1 y2 y3 z oo))
noncomputable def sX3_write_27 (y1 : Int32) (y2 : Int32) (y3 : Int32) (z : mm_S) : Option (Int32 × mm_S) := (sX3_write_42 y1 y2 y3 (pX3_lies y2 0 ((pX3_at 40 y1 z) - 1)) z)
theorem kX3_write_27 (y1 : Int32) (y2 : Int32) (y3 : Int32) (z : mm_S) (oo : mm_R) : mm_Xs (sX3_write_27 y1 y2 y3 z) (fun v => (fun v : Int32 × mm_S => ((some (mm_I v.1), v.2) : mm_R)) v = oo) (fun n => eX3_write_27 n y1 y2 y3 z) oo :=
  xs_row (fun n => qX3_write_27 n y1 y2 y3 z) (kX3_write_42 y1 y2 y3 (pX3_lies y2 0 ((pX3_at 40 y1 z) - 1)) z oo)
noncomputable def sX3_write_18 (y1 : Int32) (y2 : Int32) (y3 : Int32) (w0 : Int32) (z : mm_S) : Option (Int32 × mm_S) := if w0 = 0 then (sX3_write_27 y1 y2 y3 z) else (sX3_finding 5 z).bind fun q2 => some (q2.1, q2.2)
theorem kX3_write_18 (y1 : Int32) (y2 : Int32) (y3 : Int32) (w0 : Int32) (z : mm_S) (oo : mm_R) : mm_Xs (sX3_write_18 y1 y2 y3 w0 z) (fun v => (fun v : Int32 × mm_S => ((some (mm_I v.1), v.2) : mm_R)) v = oo) (fun n => eX3_write_18 n y1 y2 y3 w0 z) oo :=
  xs_row (fun n => qX3_write_18 n y1 y2 y3 w0 z) (xs_if (kX3_write_27 y1 y2 y3 z oo) (xs_bd fun q2 => (xs_v fun hc => ⟨0, congrArg some hc⟩)))
noncomputable def sX3_write_13 (y1 : Int32) (y2 : Int32) (y3 : Int32) (z : mm_S) : Option (Int32 × mm_S) := (sX3_write_18 y1 y2 y3 (pX3_isMissing y1 z) z)
theorem kX3_write_13 (y1 : Int32) (y2 : Int32) (y3 : Int32) (z : mm_S) (oo : mm_R) : mm_Xs (sX3_write_13 y1 y2 y3 z) (fun v => (fun v : Int32 × mm_S => ((some (mm_I v.1), v.2) : mm_R)) v = oo) (fun n => eX3_write_13 n y1 y2 y3 z) oo :=
  xs_row (fun n => qX3_write_13 n y1 y2 y3 z) (kX3_write_18 y1 y2 y3 (pX3_isMissing y1 z) z oo)
noncomputable def sX3_write_4 (y1 : Int32) (y2 : Int32) (y3 : Int32) (w0 : Int32) (z : mm_S) : Option (Int32 × mm_S) := if w0 = 0 then (sX3_finding 0 z).bind fun q1 => some (q1.1, q1.2) else (sX3_write_13 y1 y2 y3 z)
theorem kX3_write_4 (y1 : Int32) (y2 : Int32) (y3 : Int32) (w0 : Int32) (z : mm_S) (oo : mm_R) : mm_Xs (sX3_write_4 y1 y2 y3 w0 z) (fun v => (fun v : Int32 × mm_S => ((some (mm_I v.1), v.2) : mm_R)) v = oo) (fun n => eX3_write_4 n y1 y2 y3 w0 z) oo :=
  xs_row (fun n => qX3_write_4 n y1 y2 y3 w0 z) (xs_if (xs_bd fun q1 => (xs_v fun hc => ⟨0, congrArg some hc⟩)) (kX3_write_13 y1 y2 y3 z oo))
noncomputable def sX3_write_0 (x1 : Int32) (x2 : Int32) (x3 : Int32) (z : mm_S) : Option (Int32 × mm_S) := (sX3_write_4 x1 x2 x3 (pX3_isSheet x1) z)
theorem kX3_write_0 (x1 : Int32) (x2 : Int32) (x3 : Int32) (z : mm_S) (oo : mm_R) : mm_Xs (sX3_write_0 x1 x2 x3 z) (fun v => (fun v : Int32 × mm_S => ((some (mm_I v.1), v.2) : mm_R)) v = oo) (fun n => eX3_write_0 n x1 x2 x3 z) oo :=
  xs_row (fun n => qX3_write_0 n x1 x2 x3 z) (kX3_write_4 x1 x2 x3 (pX3_isSheet x1) z oo)
noncomputable def sX3_write (x1 : Int32) (x2 : Int32) (x3 : Int32) (z : mm_S) : Option (Int32 × mm_S) := sX3_write_0 x1 x2 x3 z
theorem sp_X3_write (x1 : Int32) (x2 : Int32) (x3 : Int32) (z : mm_S) (hk : ∀ v ∈ [mm_P 3 0, mm_I x1, mm_I x2, mm_I x3], mm_ok 46 lyTX 48 17 v) (q : Int32 × mm_S) (hq : sX3_write x1 x2 x3 z = some q) : f_X3_write [mm_P 3 0, mm_I x1, mm_I x2, mm_I x3] z (some (mm_I q.1), q.2) := ⟨Nat.le_of_ble_eq_true rfl, kX3_write_0 x1 x2 x3 z _ q hq rfl⟩
noncomputable def clo_X3_write (as : List mm_V) (z : mm_S) (kk : Option mm_V → mm_S → Option mm_R) : Option mm_R := mm_pr as fun t o0 as => bif Nat.beq t 3 then mm_pi as fun a1 as => mm_pi as fun a2 as => mm_pi as fun a3 as => (match as with | [] => (sX3_write a1 a2 a3 z).bind fun q => kk (some (mm_I q.1)) q.2 | _ => none) else none
theorem cs_X3_write : mm_cs lyTX 46 48 17 f_X3_write clo_X3_write := by
  intro as z K o hk h
  obtain ⟨t0, o0, r0, rfl, g0⟩ := mm_pr_e h
  obtain ⟨b0, k0⟩ := mm_bif_e g0
  obtain rfl := Nat.eq_of_beq_eq_true b0
  obtain ⟨a1, r1, rfl, g1⟩ := mm_pi_e k0
  obtain ⟨a2, r2, rfl, g2⟩ := mm_pi_e g1
  obtain ⟨a3, r3, rfl, g3⟩ := mm_pi_e g2
  rcases r3 with _ | ⟨u, w⟩
  rotate_left
  · cases g3
  obtain rfl : o0 = 0 := ok3 (hk (mm_P 3 o0) (by simp))
  obtain ⟨q, hq, hq2⟩ := Option.bind_eq_some_iff.mp g3
  exact ⟨_, _, sp_X3_write a1 a2 a3 z hk q hq, fun v hv => by cases hv; exact Or.inl ⟨_, rfl⟩, hq2⟩
theorem sV_X3_write {own : String} {R : Room} {ar : Nat → Nat} {k : Nat} (hlink : Cond.methodLink own k yX3_write ∈ lw_gd ∨ ∃ host, (own, k, yX3_write, host) ∈ nmA) (har : ar k = 4) (hr : 3 ≤ R.frames ∧ 67 ≤ R.locals) : mm_okV lyTX lyFA lenX snX 46 48 17 roX rsA nfA nmA ssX own R ar k clo_X3_write := by
  refine ⟨yX3_write, cX3_write, 4, some .int, rm_X3_write, f_X3_write, 3, 3, (RX3, TX3, 12), M_X3_write, cs_X3_write, hlink, ⟨wv_X3_write, wz_X3_write, wi_X3_write, wc_X3_write⟩, ⟨by decide +kernel, by decide +kernel, by decide +kernel⟩, har, ⟨rfl, rfl, by decide⟩, ?_, ⟨rfl, rfl, hr.1, hr.2⟩⟩
  intro as z K o h
  obtain ⟨t0, o0, r0, rfl, g0⟩ := mm_pr_e h
  obtain ⟨b0, k0⟩ := mm_bif_e g0
  obtain rfl := Nat.eq_of_beq_eq_true b0
  exact ⟨_, _, rfl⟩
-- X3_hasNumbers
noncomputable def lV_X3_hasNumbers : List (Nat × (List mm_V → mm_S → (Option mm_V → mm_S → Option mm_R) → Option mm_R)) := []
noncomputable def mV_X3_hasNumbers (k : Nat) (as : List mm_V) (z : mm_S) (kk : Option mm_V → mm_S → Option mm_R) : Option mm_R := match mm_at lV_X3_hasNumbers k with
  | some f => f as z kk
  | none => none
noncomputable def arV_X3_hasNumbers (k : Nat) : Nat := (mm_at [] k).getD 0
noncomputable def lS_X3_hasNumbers : List (Nat × (List mm_V → mm_S → (Option mm_V → mm_S → Option mm_R) → Option mm_R)) := [(165, clo_X3_at)]
noncomputable def mS_X3_hasNumbers (k : Nat) (as : List mm_V) (z : mm_S) (kk : Option mm_V → mm_S → Option mm_R) : Option mm_R := match mm_at lS_X3_hasNumbers k with
  | some f => f as z kk
  | none => none
noncomputable def arS_X3_hasNumbers (k : Nat) : Nat := (mm_at [(165, 2)] k).getD 0
def ct_X3_hasNumbers : List (Nat × List Nat) := []
noncomputable def go_X3_hasNumbers : Nat → mm_K := mm_go (fun k => mm_at flX3 k) (fun k => mm_at clX3 k) (fun k => mm_at glX3 k) arV_X3_hasNumbers arS_X3_hasNumbers mV_X3_hasNumbers mS_X3_hasNumbers lenX roX snX 4 1 tbX3_hasNumbers ct_X3_hasNumbers
noncomputable def eX3_hasNumbers_0 (n : Nat)  (x1 : Int32) (x2 : Int32) (x3 : Int32) (z : mm_S) : Option mm_R := go_X3_hasNumbers n 0 [(0, mm_P 3 0), (1, mm_I x1), (2, mm_I x2), (3, mm_I x3)] [] z
set_option maxRecDepth 100000 in
theorem qX3_hasNumbers_0 (n : Nat)  (x1 : Int32) (x2 : Int32) (x3 : Int32) (z : mm_S) : eX3_hasNumbers_0 (n + 1) x1 x2 x3 z = (if x2 < 0 then some (some (mm_I 0), z) else if x3 < 0 then some (some (mm_I 0), z) else if 0 < (lg_cmp ((Int32.toInt64 x2) + (Int32.toInt64 x3)) (Int32.toInt64 (pX3_at 40 x1 z))) then some (some (mm_I 0), z) else some (some (mm_I 1), z)) := rfl
def rm_X3_hasNumbers : Room := { frames := 1, cells := 0, slots := 0, locals := 21 }
noncomputable def f_X3_hasNumbers (as : List mm_V) (z : mm_S) (o : mm_R) : Prop := (as.map mm_cat).sum ≤ 4 ∧ ∃ n, go_X3_hasNumbers n 0 (mm_ar 0 as) [] z = some o
theorem M_X3_hasNumbers : mm_M lyTX lyFA lenX snX 46 48 17 roX rsA nfA nmA ssX yX3_hasNumbers cX3_hasNumbers 4 (some .boolean) rm_X3_hasNumbers f_X3_hasNumbers :=
  mm_met (rt := 1) (by decide +kernel) ⟨fun h => absurd h (by decide), fun h => rfl, fun h => absurd h (by decide), fun h => absurd h (by decide)⟩ tbX3_hasNumbers_ok hsnX okFX3 okLX3 okGX3 (fun _ _ _ _ => rfl) (fun _ _ _ _ => rfl) (fun _ h => absurd h List.not_mem_nil) (List.forall_mem_cons.mpr ⟨sS_X3_at (Or.inl lk_X3_165) rfl ⟨by decide, by decide⟩, fun _ h => absurd h List.not_mem_nil⟩)
noncomputable def pX3_hasNumbers (x1 : Int32) (x2 : Int32) (x3 : Int32) (z : mm_S) : Int32 := if x2 < 0 then 0 else if x3 < 0 then 0 else if 0 < (lg_cmp ((Int32.toInt64 x2) + (Int32.toInt64 x3)) (Int32.toInt64 (pX3_at 40 x1 z))) then 0 else 1
theorem z1_X3_hasNumbers (x1 : Int32) (x2 : Int32) (x3 : Int32) (z : mm_S) : pX3_hasNumbers x1 x2 x3 z = 0 ∨ pX3_hasNumbers x1 x2 x3 z = 1 := (mm_i01 (Or.inl rfl) (mm_i01 (Or.inl rfl) (mm_i01 (Or.inl rfl) (Or.inr rfl))))
theorem sp_X3_hasNumbers (x1 : Int32) (x2 : Int32) (x3 : Int32) (z : mm_S) (_ : ∀ v ∈ [mm_P 3 0, mm_I x1, mm_I x2, mm_I x3], mm_ok 46 lyTX 48 17 v) : f_X3_hasNumbers [mm_P 3 0, mm_I x1, mm_I x2, mm_I x3] z (some (mm_I (pX3_hasNumbers x1 x2 x3 z)), z) := ⟨Nat.le_of_ble_eq_true rfl, 1, (qX3_hasNumbers_0 0 x1 x2 x3 z).trans (mm_if (fun v => some (some (mm_I v), z)) rfl (mm_if (fun v => some (some (mm_I v), z)) rfl (mm_if (fun v => some (some (mm_I v), z)) rfl rfl)))⟩
noncomputable def clo_X3_hasNumbers (as : List mm_V) (z : mm_S) (kk : Option mm_V → mm_S → Option mm_R) : Option mm_R := mm_pr as fun t o0 as => bif Nat.beq t 3 then mm_pi as fun a1 as => mm_pi as fun a2 as => mm_pi as fun a3 as => (match as with | [] => kk (some (mm_I (pX3_hasNumbers a1 a2 a3 z))) z | _ => none) else none
theorem cs_X3_hasNumbers : mm_cs lyTX 46 48 17 f_X3_hasNumbers clo_X3_hasNumbers := by
  intro as z K o hk h
  obtain ⟨t0, o0, r0, rfl, g0⟩ := mm_pr_e h
  obtain ⟨b0, k0⟩ := mm_bif_e g0
  obtain rfl := Nat.eq_of_beq_eq_true b0
  obtain ⟨a1, r1, rfl, g1⟩ := mm_pi_e k0
  obtain ⟨a2, r2, rfl, g2⟩ := mm_pi_e g1
  obtain ⟨a3, r3, rfl, g3⟩ := mm_pi_e g2
  rcases r3 with _ | ⟨u, w⟩
  rotate_left
  · cases g3
  obtain rfl : o0 = 0 := ok3 (hk (mm_P 3 o0) (by simp))
  exact ⟨_, _, sp_X3_hasNumbers a1 a2 a3 z hk, fun v hv => by cases hv; exact Or.inl ⟨_, rfl⟩, g3⟩
theorem sV_X3_hasNumbers {own : String} {R : Room} {ar : Nat → Nat} {k : Nat} (hlink : Cond.methodLink own k yX3_hasNumbers ∈ lw_gd ∨ ∃ host, (own, k, yX3_hasNumbers, host) ∈ nmA) (har : ar k = 4) (hr : 2 ≤ R.frames ∧ 44 ≤ R.locals) : mm_okV lyTX lyFA lenX snX 46 48 17 roX rsA nfA nmA ssX own R ar k clo_X3_hasNumbers := by
  refine ⟨yX3_hasNumbers, cX3_hasNumbers, 4, some .boolean, rm_X3_hasNumbers, f_X3_hasNumbers, 3, 3, (RX3, TX3, 12), M_X3_hasNumbers, cs_X3_hasNumbers, hlink, ⟨wv_X3_hasNumbers, wz_X3_hasNumbers, wi_X3_hasNumbers, wc_X3_hasNumbers⟩, ⟨by decide +kernel, by decide +kernel, by decide +kernel⟩, har, ⟨rfl, rfl, by decide⟩, ?_, ⟨rfl, rfl, hr.1, hr.2⟩⟩
  intro as z K o h
  obtain ⟨t0, o0, r0, rfl, g0⟩ := mm_pr_e h
  obtain ⟨b0, k0⟩ := mm_bif_e g0
  obtain rfl := Nat.eq_of_beq_eq_true b0
  exact ⟨_, _, rfl⟩
-- X3_copy
noncomputable def lV_X3_copy : List (Nat × (List mm_V → mm_S → (Option mm_V → mm_S → Option mm_R) → Option mm_R)) := [(59, clo_X3_finding), (312, clo_X3_isMissing), (318, clo_X3_hasNumbers)]
noncomputable def mV_X3_copy (k : Nat) (as : List mm_V) (z : mm_S) (kk : Option mm_V → mm_S → Option mm_R) : Option mm_R := match mm_at lV_X3_copy k with
  | some f => f as z kk
  | none => none
noncomputable def arV_X3_copy (k : Nat) : Nat := (mm_at [(59, 2), (312, 2), (318, 4)] k).getD 0
noncomputable def lS_X3_copy : List (Nat × (List mm_V → mm_S → (Option mm_V → mm_S → Option mm_R) → Option mm_R)) := [(165, clo_X3_at), (309, clo_X3_isSheet), (321, clo_X3_moveNumbers)]
noncomputable def mS_X3_copy (k : Nat) (as : List mm_V) (z : mm_S) (kk : Option mm_V → mm_S → Option mm_R) : Option mm_R := match mm_at lS_X3_copy k with
  | some f => f as z kk
  | none => none
noncomputable def arS_X3_copy (k : Nat) : Nat := (mm_at [(165, 2), (309, 1), (321, 4)] k).getD 0
def ct_X3_copy : List (Nat × List Nat) := [(4, [0, 1, 2, 3, 4, 5]), (11, [0, 1, 2, 3, 4, 5]), (20, [0, 1, 2, 3, 4, 5]), (25, [0, 1, 2, 3, 4, 5]), (33, [0, 1, 2, 3, 4, 5]), (42, [0, 1, 2, 3, 4, 5]), (67, [0, 1, 2, 3, 4, 5]), (75, [0, 1, 2, 3, 4, 5]), (87, [0, 1, 2, 3, 4, 5]), (96, [0, 1, 2, 3, 4, 5]), (118, [5])]
noncomputable def go_X3_copy : Nat → mm_K := mm_go (fun k => mm_at flX3 k) (fun k => mm_at clX3 k) (fun k => mm_at glX3 k) arV_X3_copy arS_X3_copy mV_X3_copy mS_X3_copy lenX roX snX 6 0 tbX3_copy ct_X3_copy
noncomputable def eX3_copy_0 (n : Nat)  (x1 : Int32) (x2 : Int32) (x3 : Int32) (x4 : Int32) (x5 : Int32) (z : mm_S) : Option mm_R := go_X3_copy n 0 [(0, mm_P 3 0), (1, mm_I x1), (2, mm_I x2), (3, mm_I x3), (4, mm_I x4), (5, mm_I x5)] [] z
noncomputable def eX3_copy_4 (n : Nat)  (y1 : Int32) (y2 : Int32) (y3 : Int32) (y4 : Int32) (y5 : Int32) (w0 : Int32) (z : mm_S) : Option mm_R := go_X3_copy n 4 [(0, mm_P 3 0), (1, mm_I y1), (2, mm_I y2), (3, mm_I y3), (4, mm_I y4), (5, mm_I y5)] [mm_I w0] z
noncomputable def eX3_copy_11 (n : Nat)  (y1 : Int32) (y2 : Int32) (y3 : Int32) (y4 : Int32) (y5 : Int32) (w0 : Int32) (z : mm_S) : Option mm_R := go_X3_copy n 11 [(0, mm_P 3 0), (1, mm_I y1), (2, mm_I y2), (3, mm_I y3), (4, mm_I y4), (5, mm_I y5)] [mm_I w0] z
noncomputable def eX3_copy_20 (n : Nat)  (y1 : Int32) (y2 : Int32) (y3 : Int32) (y4 : Int32) (y5 : Int32) (z : mm_S) : Option mm_R := go_X3_copy n 20 [(0, mm_P 3 0), (1, mm_I y1), (2, mm_I y2), (3, mm_I y3), (4, mm_I y4), (5, mm_I y5)] [] z
noncomputable def eX3_copy_25 (n : Nat)  (y1 : Int32) (y2 : Int32) (y3 : Int32) (y4 : Int32) (y5 : Int32) (w0 : Int32) (z : mm_S) : Option mm_R := go_X3_copy n 25 [(0, mm_P 3 0), (1, mm_I y1), (2, mm_I y2), (3, mm_I y3), (4, mm_I y4), (5, mm_I y5)] [mm_I w0] z
noncomputable def eX3_copy_33 (n : Nat)  (y1 : Int32) (y2 : Int32) (y3 : Int32) (y4 : Int32) (y5 : Int32) (w0 : Int32) (z : mm_S) : Option mm_R := go_X3_copy n 33 [(0, mm_P 3 0), (1, mm_I y1), (2, mm_I y2), (3, mm_I y3), (4, mm_I y4), (5, mm_I y5)] [mm_I w0] z
noncomputable def eX3_copy_42 (n : Nat)  (y1 : Int32) (y2 : Int32) (y3 : Int32) (y4 : Int32) (y5 : Int32) (z : mm_S) : Option mm_R := go_X3_copy n 42 [(0, mm_P 3 0), (1, mm_I y1), (2, mm_I y2), (3, mm_I y3), (4, mm_I y4), (5, mm_I y5)] [] z
noncomputable def eX3_copy_67 (n : Nat)  (y1 : Int32) (y2 : Int32) (y3 : Int32) (y4 : Int32) (y5 : Int32) (z : mm_S) : Option mm_R := go_X3_copy n 67 [(0, mm_P 3 0), (1, mm_I y1), (2, mm_I y2), (3, mm_I y3), (4, mm_I y4), (5, mm_I y5)] [] z
noncomputable def eX3_copy_75 (n : Nat)  (y1 : Int32) (y2 : Int32) (y3 : Int32) (y4 : Int32) (y5 : Int32) (w0 : Int32) (z : mm_S) : Option mm_R := go_X3_copy n 75 [(0, mm_P 3 0), (1, mm_I y1), (2, mm_I y2), (3, mm_I y3), (4, mm_I y4), (5, mm_I y5)] [mm_I w0] z
noncomputable def eX3_copy_87 (n : Nat)  (y1 : Int32) (y2 : Int32) (y3 : Int32) (y4 : Int32) (y5 : Int32) (w0 : Int32) (z : mm_S) : Option mm_R := go_X3_copy n 87 [(0, mm_P 3 0), (1, mm_I y1), (2, mm_I y2), (3, mm_I y3), (4, mm_I y4), (5, mm_I y5)] [mm_I w0] z
noncomputable def eX3_copy_96 (n : Nat)  (y1 : Int32) (y2 : Int32) (y3 : Int32) (y4 : Int32) (y5 : Int32) (z : mm_S) : Option mm_R := go_X3_copy n 96 [(0, mm_P 3 0), (1, mm_I y1), (2, mm_I y2), (3, mm_I y3), (4, mm_I y4), (5, mm_I y5)] [] z
noncomputable def eX3_copy_118 (n : Nat) (y5 : Int32) (z : mm_S) : Option mm_R := go_X3_copy n 118 [(5, mm_I y5)] [] z
set_option maxRecDepth 100000 in
theorem qX3_copy_0 (n : Nat)  (x1 : Int32) (x2 : Int32) (x3 : Int32) (x4 : Int32) (x5 : Int32) (z : mm_S) : eX3_copy_0 (n + 1) x1 x2 x3 x4 x5 z = (eX3_copy_4 n x1 x2 x3 x4 x5 (pX3_isSheet x1) z) := rfl
set_option maxRecDepth 100000 in
theorem qX3_copy_4 (n : Nat)  (y1 : Int32) (y2 : Int32) (y3 : Int32) (y4 : Int32) (y5 : Int32) (w0 : Int32) (z : mm_S) : eX3_copy_4 (n + 1) y1 y2 y3 y4 y5 w0 z = (if w0 = 0 then (sX3_finding 0 z).bind fun q1 => some (some (mm_I q1.1), q1.2) else eX3_copy_11 n y1 y2 y3 y4 y5 (pX3_isSheet y3) z) := rfl
set_option maxRecDepth 100000 in
theorem qX3_copy_11 (n : Nat)  (y1 : Int32) (y2 : Int32) (y3 : Int32) (y4 : Int32) (y5 : Int32) (w0 : Int32) (z : mm_S) : eX3_copy_11 (n + 1) y1 y2 y3 y4 y5 w0 z = (if w0 = 0 then (sX3_finding 0 z).bind fun q2 => some (some (mm_I q2.1), q2.2) else eX3_copy_20 n y1 y2 y3 y4 y5 z) := rfl
set_option maxRecDepth 100000 in
theorem qX3_copy_20 (n : Nat)  (y1 : Int32) (y2 : Int32) (y3 : Int32) (y4 : Int32) (y5 : Int32) (z : mm_S) : eX3_copy_20 (n + 1) y1 y2 y3 y4 y5 z = (eX3_copy_25 n y1 y2 y3 y4 y5 (pX3_isMissing y1 z) z) := rfl
set_option maxRecDepth 100000 in
theorem qX3_copy_25 (n : Nat)  (y1 : Int32) (y2 : Int32) (y3 : Int32) (y4 : Int32) (y5 : Int32) (w0 : Int32) (z : mm_S) : eX3_copy_25 (n + 1) y1 y2 y3 y4 y5 w0 z = (if w0 = 0 then eX3_copy_33 n y1 y2 y3 y4 y5 (pX3_isMissing y3 z) z else (sX3_finding 5 z).bind fun q3 => some (some (mm_I q3.1), q3.2)) := rfl
set_option maxRecDepth 100000 in
theorem qX3_copy_33 (n : Nat)  (y1 : Int32) (y2 : Int32) (y3 : Int32) (y4 : Int32) (y5 : Int32) (w0 : Int32) (z : mm_S) : eX3_copy_33 (n + 1) y1 y2 y3 y4 y5 w0 z = (if w0 = 0 then eX3_copy_42 n y1 y2 y3 y4 y5 z else (sX3_finding 5 z).bind fun q4 => some (some (mm_I q4.1), q4.2)) := rfl
set_option maxRecDepth 100000 in
theorem qX3_copy_42 (n : Nat)  (y1 : Int32) (y2 : Int32) (y3 : Int32) (y4 : Int32) (y5 : Int32) (z : mm_S) : eX3_copy_42 (n + 1) y1 y2 y3 y4 y5 z = (if (pX3_at 39 y1 z) = (pX3_at 39 y3 z) then eX3_copy_67 n y1 y2 y3 y4 y5 z else (sX3_finding 2 z).bind fun q5 => some (some (mm_I q5.1), q5.2)) := rfl
set_option maxRecDepth 100000 in
theorem qX3_copy_67 (n : Nat)  (y1 : Int32) (y2 : Int32) (y3 : Int32) (y4 : Int32) (y5 : Int32) (z : mm_S) : eX3_copy_67 (n + 1) y1 y2 y3 y4 y5 z = (eX3_copy_75 n y1 y2 y3 y4 y5 (pX3_hasNumbers y1 y2 y5 z) z) := rfl
set_option maxRecDepth 100000 in
theorem qX3_copy_75 (n : Nat)  (y1 : Int32) (y2 : Int32) (y3 : Int32) (y4 : Int32) (y5 : Int32) (w0 : Int32) (z : mm_S) : eX3_copy_75 (n + 1) y1 y2 y3 y4 y5 w0 z = (if w0 = 0 then (sX3_finding 0 z).bind fun q6 => some (some (mm_I q6.1), q6.2) else eX3_copy_87 n y1 y2 y3 y4 y5 (pX3_hasNumbers y3 y4 y5 z) z) := rfl
set_option maxRecDepth 100000 in
theorem qX3_copy_87 (n : Nat)  (y1 : Int32) (y2 : Int32) (y3 : Int32) (y4 : Int32) (y5 : Int32) (w0 : Int32) (z : mm_S) : eX3_copy_87 (n + 1) y1 y2 y3 y4 y5 w0 z = (if w0 = 0 then (sX3_finding 0 z).bind fun q7 => some (some (mm_I q7.1), q7.2) else eX3_copy_96 n y1 y2 y3 y4 y5 z) := rfl
set_option maxRecDepth 100000 in
theorem qX3_copy_96 (n : Nat)  (y1 : Int32) (y2 : Int32) (y3 : Int32) (y4 : Int32) (y5 : Int32) (z : mm_S) : eX3_copy_96 (n + 1) y1 y2 y3 y4 y5 z = (let u8 := (tX3_moveNumbers 41 ((y1 * 40) + y2) ((y3 * 40) + y4) y5 z); eX3_copy_118 n y5 u8) := rfl
set_option maxRecDepth 100000 in
theorem qX3_copy_118 (n : Nat) (y5 : Int32) (z : mm_S) : eX3_copy_118 (n + 1) y5 z = (some (some (mm_I y5), z)) := rfl
def rm_X3_copy : Room := { frames := 2, cells := 0, slots := 0, locals := 49 }
noncomputable def f_X3_copy (as : List mm_V) (z : mm_S) (o : mm_R) : Prop := (as.map mm_cat).sum ≤ 6 ∧ ∃ n, go_X3_copy n 0 (mm_ar 0 as) [] z = some o
theorem M_X3_copy : mm_M lyTX lyFA lenX snX 46 48 17 roX rsA nfA nmA ssX yX3_copy cX3_copy 6 (some .int) rm_X3_copy f_X3_copy :=
  mm_met (rt := 0) (by decide +kernel) ⟨fun h => rfl, fun h => absurd h (by decide), fun h => absurd h (by decide), fun h => absurd h (by decide)⟩ tbX3_copy_ok hsnX okFX3 okLX3 okGX3 (fun _ _ _ _ => rfl) (fun _ _ _ _ => rfl) (List.forall_mem_cons.mpr ⟨sV_X3_finding (Or.inl lk_X3_59) rfl ⟨by decide, by decide⟩, List.forall_mem_cons.mpr ⟨sV_X3_isMissing (Or.inl lk_X3_312) rfl ⟨by decide, by decide⟩, List.forall_mem_cons.mpr ⟨sV_X3_hasNumbers (Or.inl lk_X3_318) rfl ⟨by decide, by decide⟩, fun _ h => absurd h List.not_mem_nil⟩⟩⟩) (List.forall_mem_cons.mpr ⟨sS_X3_at (Or.inl lk_X3_165) rfl ⟨by decide, by decide⟩, List.forall_mem_cons.mpr ⟨sS_X3_isSheet (Or.inl lk_X3_309) rfl ⟨by decide, by decide⟩, List.forall_mem_cons.mpr ⟨sS_X3_moveNumbers (Or.inl lk_X3_321) rfl ⟨by decide, by decide⟩, fun _ h => absurd h List.not_mem_nil⟩⟩⟩)
noncomputable def sX3_copy_118 (y5 : Int32) (z : mm_S) : Option (Int32 × mm_S) := some (y5, z)
theorem kX3_copy_118 (y5 : Int32) (z : mm_S) (oo : mm_R) : mm_Xs (sX3_copy_118 y5 z) (fun v => (fun v : Int32 × mm_S => ((some (mm_I v.1), v.2) : mm_R)) v = oo) (fun n => eX3_copy_118 n y5 z) oo :=
  xs_row (fun n => qX3_copy_118 n y5 z) (xs_v fun hc => ⟨0, congrArg some hc⟩)
noncomputable def sX3_copy_96 (y1 : Int32) (y2 : Int32) (y3 : Int32) (y4 : Int32) (y5 : Int32) (z : mm_S) : Option (Int32 × mm_S) := let u8 := (tX3_moveNumbers 41 ((y1 * 40) + y2) ((y3 * 40) + y4) y5 z); (sX3_copy_118 y5 u8)
theorem kX3_copy_96 (y1 : Int32) (y2 : Int32) (y3 : Int32) (y4 : Int32) (y5 : Int32) (z : mm_S) (oo : mm_R) : mm_Xs (sX3_copy_96 y1 y2 y3 y4 y5 z) (fun v => (fun v : Int32 × mm_S => ((some (mm_I v.1), v.2) : mm_R)) v = oo) (fun n => eX3_copy_96 n y1 y2 y3 y4 y5 z) oo :=
  xs_row (fun n => qX3_copy_96 n y1 y2 y3 y4 y5 z) (xs_let ((tX3_moveNumbers 41 ((y1 * 40) + y2) ((y3 * 40) + y4) y5 z)) (S := fun (u8 : _) => ((sX3_copy_118 y5 u8) : Option (Int32 × mm_S))) (T := fun (u8 : _) n => eX3_copy_118 n y5 u8) (fun u8 => (kX3_copy_118 y5 u8 oo)))
noncomputable def sX3_copy_87 (y1 : Int32) (y2 : Int32) (y3 : Int32) (y4 : Int32) (y5 : Int32) (w0 : Int32) (z : mm_S) : Option (Int32 × mm_S) := if w0 = 0 then (sX3_finding 0 z).bind fun q7 => some (q7.1, q7.2) else (sX3_copy_96 y1 y2 y3 y4 y5 z)
theorem kX3_copy_87 (y1 : Int32) (y2 : Int32) (y3 : Int32) (y4 : Int32) (y5 : Int32) (w0 : Int32) (z : mm_S) (oo : mm_R) : mm_Xs (sX3_copy_87 y1 y2 y3 y4 y5 w0 z) (fun v => (fun v : Int32 × mm_S => ((some (mm_I v.1), v.2) : mm_R)) v = oo) (fun n => eX3_copy_87 n y1 y2 y3 y4 y5 w0 z) oo :=
  xs_row (fun n => qX3_copy_87 n y1 y2 y3 y4 y5 w0 z) (xs_if (xs_bd fun q7 => (xs_v fun hc => ⟨0, congrArg some hc⟩)) (kX3_copy_96 y1 y2 y3 y4 y5 z oo))
noncomputable def sX3_copy_75 (y1 : Int32) (y2 : Int32) (y3 : Int32) (y4 : Int32) (y5 : Int32) (w0 : Int32) (z : mm_S) : Option (Int32 × mm_S) := if w0 = 0 then (sX3_finding 0 z).bind fun q6 => some (q6.1, q6.2) else (sX3_copy_87 y1 y2 y3 y4 y5 (pX3_hasNumbers y3 y4 y5 z) z)
theorem kX3_copy_75 (y1 : Int32) (y2 : Int32) (y3 : Int32) (y4 : Int32) (y5 : Int32) (w0 : Int32) (z : mm_S) (oo : mm_R) : mm_Xs (sX3_copy_75 y1 y2 y3 y4 y5 w0 z) (fun v => (fun v : Int32 × mm_S => ((some (mm_I v.1), v.2) : mm_R)) v = oo) (fun n => eX3_copy_75 n y1 y2 y3 y4 y5 w0 z) oo :=
  xs_row (fun n => qX3_copy_75 n y1 y2 y3 y4 y5 w0 z) (xs_if (xs_bd fun q6 => (xs_v fun hc => ⟨0, congrArg some hc⟩)) (kX3_copy_87 y1 y2 y3 y4 y5 (pX3_hasNumbers y3 y4 y5 z) z oo))
noncomputable def sX3_copy_67 (y1 : Int32) (y2 : Int32) (y3 : Int32) (y4 : Int32) (y5 : Int32) (z : mm_S) : Option (Int32 × mm_S) := (sX3_copy_75 y1 y2 y3 y4 y5 (pX3_hasNumbers y1 y2 y5 z) z)
theorem kX3_copy_67 (y1 : Int32) (y2 : Int32) (y3 : Int32) (y4 : Int32) (y5 : Int32) (z : mm_S) (oo : mm_R) : mm_Xs (sX3_copy_67 y1 y2 y3 y4 y5 z) (fun v => (fun v : Int32 × mm_S => ((some (mm_I v.1), v.2) : mm_R)) v = oo) (fun n => eX3_copy_67 n y1 y2 y3 y4 y5 z) oo :=
  xs_row (fun n => qX3_copy_67 n y1 y2 y3 y4 y5 z) (kX3_copy_75 y1 y2 y3 y4 y5 (pX3_hasNumbers y1 y2 y5 z) z oo)
noncomputable def sX3_copy_42 (y1 : Int32) (y2 : Int32) (y3 : Int32) (y4 : Int32) (y5 : Int32) (z : mm_S) : Option (Int32 × mm_S) := if (pX3_at 39 y1 z) = (pX3_at 39 y3 z) then (sX3_copy_67 y1 y2 y3 y4 y5 z) else (sX3_finding 2 z).bind fun q5 => some (q5.1, q5.2)
theorem kX3_copy_42 (y1 : Int32) (y2 : Int32) (y3 : Int32) (y4 : Int32) (y5 : Int32) (z : mm_S) (oo : mm_R) : mm_Xs (sX3_copy_42 y1 y2 y3 y4 y5 z) (fun v => (fun v : Int32 × mm_S => ((some (mm_I v.1), v.2) : mm_R)) v = oo) (fun n => eX3_copy_42 n y1 y2 y3 y4 y5 z) oo :=
  xs_row (fun n => qX3_copy_42 n y1 y2 y3 y4 y5 z) (xs_if (kX3_copy_67 y1 y2 y3 y4 y5 z oo) (xs_bd fun q5 => (xs_v fun hc => ⟨0, congrArg some hc⟩)))
noncomputable def sX3_copy_33 (y1 : Int32) (y2 : Int32) (y3 : Int32) (y4 : Int32) (y5 : Int32) (w0 : Int32) (z : mm_S) : Option (Int32 × mm_S) := if w0 = 0 then (sX3_copy_42 y1 y2 y3 y4 y5 z) else (sX3_finding 5 z).bind fun q4 => some (q4.1, q4.2)
theorem kX3_copy_33 (y1 : Int32) (y2 : Int32) (y3 : Int32) (y4 : Int32) (y5 : Int32) (w0 : Int32) (z : mm_S) (oo : mm_R) : mm_Xs (sX3_copy_33 y1 y2 y3 y4 y5 w0 z) (fun v => (fun v : Int32 × mm_S => ((some (mm_I v.1), v.2) : mm_R)) v = oo) (fun n => eX3_copy_33 n y1 y2 y3 y4 y5 w0 z) oo :=
  xs_row (fun n => qX3_copy_33 n y1 y2 y3 y4 y5 w0 z) (xs_if (kX3_copy_42 y1 y2 y3 y4 y5 z oo) (xs_bd fun q4 => (xs_v fun hc => ⟨0, congrArg some hc⟩)))
noncomputable def sX3_copy_25 (y1 : Int32) (y2 : Int32) (y3 : Int32) (y4 : Int32) (y5 : Int32) (w0 : Int32) (z : mm_S) : Option (Int32 × mm_S) := if w0 = 0 then (sX3_copy_33 y1 y2 y3 y4 y5 (pX3_isMissing y3 z) z) else (sX3_finding 5 z).bind fun q3 => some (q3.1, q3.2)
theorem kX3_copy_25 (y1 : Int32) (y2 : Int32) (y3 : Int32) (y4 : Int32) (y5 : Int32) (w0 : Int32) (z : mm_S) (oo : mm_R) : mm_Xs (sX3_copy_25 y1 y2 y3 y4 y5 w0 z) (fun v => (fun v : Int32 × mm_S => ((some (mm_I v.1), v.2) : mm_R)) v = oo) (fun n => eX3_copy_25 n y1 y2 y3 y4 y5 w0 z) oo :=
  xs_row (fun n => qX3_copy_25 n y1 y2 y3 y4 y5 w0 z) (xs_if (kX3_copy_33 y1 y2 y3 y4 y5 (pX3_isMissing y3 z) z oo) (xs_bd fun q3 => (xs_v fun hc => ⟨0, congrArg some hc⟩)))
noncomputable def sX3_copy_20 (y1 : Int32) (y2 : Int32) (y3 : Int32) (y4 : Int32) (y5 : Int32) (z : mm_S) : Option (Int32 × mm_S) := (sX3_copy_25 y1 y2 y3 y4 y5 (pX3_isMissing y1 z) z)
theorem kX3_copy_20 (y1 : Int32) (y2 : Int32) (y3 : Int32) (y4 : Int32) (y5 : Int32) (z : mm_S) (oo : mm_R) : mm_Xs (sX3_copy_20 y1 y2 y3 y4 y5 z) (fun v => (fun v : Int32 × mm_S => ((some (mm_I v.1), v.2) : mm_R)) v = oo) (fun n => eX3_copy_20 n y1 y2 y3 y4 y5 z) oo :=
  xs_row (fun n => qX3_copy_20 n y1 y2 y3 y4 y5 z) (kX3_copy_25 y1 y2 y3 y4 y5 (pX3_isMissing y1 z) z oo)
noncomputable def sX3_copy_11 (y1 : Int32) (y2 : Int32) (y3 : Int32) (y4 : Int32) (y5 : Int32) (w0 : Int32) (z : mm_S) : Option (Int32 × mm_S) := if w0 = 0 then (sX3_finding 0 z).bind fun q2 => some (q2.1, q2.2) else (sX3_copy_20 y1 y2 y3 y4 y5 z)
theorem kX3_copy_11 (y1 : Int32) (y2 : Int32) (y3 : Int32) (y4 : Int32) (y5 : Int32) (w0 : Int32) (z : mm_S) (oo : mm_R) : mm_Xs (sX3_copy_11 y1 y2 y3 y4 y5 w0 z) (fun v => (fun v : Int32 × mm_S => ((some (mm_I v.1), v.2) : mm_R)) v = oo) (fun n => eX3_copy_11 n y1 y2 y3 y4 y5 w0 z) oo :=
  xs_row (fun n => qX3_copy_11 n y1 y2 y3 y4 y5 w0 z) (xs_if (xs_bd fun q2 => (xs_v fun hc => ⟨0, congrArg some hc⟩)) (kX3_copy_20 y1 y2 y3 y4 y5 z oo))
noncomputable def sX3_copy_4 (y1 : Int32) (y2 : Int32) (y3 : Int32) (y4 : Int32) (y5 : Int32) (w0 : Int32) (z : mm_S) : Option (Int32 × mm_S) := if w0 = 0 then (sX3_finding 0 z).bind fun q1 => some (q1.1, q1.2) else (sX3_copy_11 y1 y2 y3 y4 y5 (pX3_isSheet y3) z)
theorem kX3_copy_4 (y1 : Int32) (y2 : Int32) (y3 : Int32) (y4 : Int32) (y5 : Int32) (w0 : Int32) (z : mm_S) (oo : mm_R) : mm_Xs (sX3_copy_4 y1 y2 y3 y4 y5 w0 z) (fun v => (fun v : Int32 × mm_S => ((some (mm_I v.1), v.2) : mm_R)) v = oo) (fun n => eX3_copy_4 n y1 y2 y3 y4 y5 w0 z) oo :=
  xs_row (fun n => qX3_copy_4 n y1 y2 y3 y4 y5 w0 z) (xs_if (xs_bd fun q1 => (xs_v fun hc => ⟨0, congrArg some hc⟩)) (kX3_copy_11 y1 y2 y3 y4 y5 (pX3_isSheet y3) z oo))
noncomputable def sX3_copy_0 (x1 : Int32) (x2 : Int32) (x3 : Int32) (x4 : Int32) (x5 : Int32) (z : mm_S) : Option (Int32 × mm_S) := (sX3_copy_4 x1 x2 x3 x4 x5 (pX3_isSheet x1) z)
theorem kX3_copy_0 (x1 : Int32) (x2 : Int32) (x3 : Int32) (x4 : Int32) (x5 : Int32) (z : mm_S) (oo : mm_R) : mm_Xs (sX3_copy_0 x1 x2 x3 x4 x5 z) (fun v => (fun v : Int32 × mm_S => ((some (mm_I v.1), v.2) : mm_R)) v = oo) (fun n => eX3_copy_0 n x1 x2 x3 x4 x5 z) oo :=
  xs_row (fun n => qX3_copy_0 n x1 x2 x3 x4 x5 z) (kX3_copy_4 x1 x2 x3 x4 x5 (pX3_isSheet x1) z oo)
noncomputable def sX3_copy (x1 : Int32) (x2 : Int32) (x3 : Int32) (x4 : Int32) (x5 : Int32) (z : mm_S) : Option (Int32 × mm_S) := sX3_copy_0 x1 x2 x3 x4 x5 z
theorem sp_X3_copy (x1 : Int32) (x2 : Int32) (x3 : Int32) (x4 : Int32) (x5 : Int32) (z : mm_S) (hk : ∀ v ∈ [mm_P 3 0, mm_I x1, mm_I x2, mm_I x3, mm_I x4, mm_I x5], mm_ok 46 lyTX 48 17 v) (q : Int32 × mm_S) (hq : sX3_copy x1 x2 x3 x4 x5 z = some q) : f_X3_copy [mm_P 3 0, mm_I x1, mm_I x2, mm_I x3, mm_I x4, mm_I x5] z (some (mm_I q.1), q.2) := ⟨Nat.le_of_ble_eq_true rfl, kX3_copy_0 x1 x2 x3 x4 x5 z _ q hq rfl⟩
noncomputable def clo_X3_copy (as : List mm_V) (z : mm_S) (kk : Option mm_V → mm_S → Option mm_R) : Option mm_R := mm_pr as fun t o0 as => bif Nat.beq t 3 then mm_pi as fun a1 as => mm_pi as fun a2 as => mm_pi as fun a3 as => mm_pi as fun a4 as => mm_pi as fun a5 as => (match as with | [] => (sX3_copy a1 a2 a3 a4 a5 z).bind fun q => kk (some (mm_I q.1)) q.2 | _ => none) else none
theorem cs_X3_copy : mm_cs lyTX 46 48 17 f_X3_copy clo_X3_copy := by
  intro as z K o hk h
  obtain ⟨t0, o0, r0, rfl, g0⟩ := mm_pr_e h
  obtain ⟨b0, k0⟩ := mm_bif_e g0
  obtain rfl := Nat.eq_of_beq_eq_true b0
  obtain ⟨a1, r1, rfl, g1⟩ := mm_pi_e k0
  obtain ⟨a2, r2, rfl, g2⟩ := mm_pi_e g1
  obtain ⟨a3, r3, rfl, g3⟩ := mm_pi_e g2
  obtain ⟨a4, r4, rfl, g4⟩ := mm_pi_e g3
  obtain ⟨a5, r5, rfl, g5⟩ := mm_pi_e g4
  rcases r5 with _ | ⟨u, w⟩
  rotate_left
  · cases g5
  obtain rfl : o0 = 0 := ok3 (hk (mm_P 3 o0) (by simp))
  obtain ⟨q, hq, hq2⟩ := Option.bind_eq_some_iff.mp g5
  exact ⟨_, _, sp_X3_copy a1 a2 a3 a4 a5 z hk q hq, fun v hv => by cases hv; exact Or.inl ⟨_, rfl⟩, hq2⟩
theorem sV_X3_copy {own : String} {R : Room} {ar : Nat → Nat} {k : Nat} (hlink : Cond.methodLink own k yX3_copy ∈ lw_gd ∨ ∃ host, (own, k, yX3_copy, host) ∈ nmA) (har : ar k = 6) (hr : 3 ≤ R.frames ∧ 74 ≤ R.locals) : mm_okV lyTX lyFA lenX snX 46 48 17 roX rsA nfA nmA ssX own R ar k clo_X3_copy := by
  refine ⟨yX3_copy, cX3_copy, 6, some .int, rm_X3_copy, f_X3_copy, 3, 5, (RX3, TX3, 12), M_X3_copy, cs_X3_copy, hlink, ⟨wv_X3_copy, wz_X3_copy, wi_X3_copy, wc_X3_copy⟩, ⟨by decide +kernel, by decide +kernel, by decide +kernel⟩, har, ⟨rfl, rfl, by decide⟩, ?_, ⟨rfl, rfl, hr.1, hr.2⟩⟩
  intro as z K o h
  obtain ⟨t0, o0, r0, rfl, g0⟩ := mm_pr_e h
  obtain ⟨b0, k0⟩ := mm_bif_e g0
  obtain rfl := Nat.eq_of_beq_eq_true b0
  exact ⟨_, _, rfl⟩
-- X3_numberOf
noncomputable def lV_X3_numberOf : List (Nat × (List mm_V → mm_S → (Option mm_V → mm_S → Option mm_R) → Option mm_R)) := []
noncomputable def mV_X3_numberOf (k : Nat) (as : List mm_V) (z : mm_S) (kk : Option mm_V → mm_S → Option mm_R) : Option mm_R := match mm_at lV_X3_numberOf k with
  | some f => f as z kk
  | none => none
noncomputable def arV_X3_numberOf (k : Nat) : Nat := (mm_at [] k).getD 0
noncomputable def lS_X3_numberOf : List (Nat × (List mm_V → mm_S → (Option mm_V → mm_S → Option mm_R) → Option mm_R)) := [(165, clo_X3_at)]
noncomputable def mS_X3_numberOf (k : Nat) (as : List mm_V) (z : mm_S) (kk : Option mm_V → mm_S → Option mm_R) : Option mm_R := match mm_at lS_X3_numberOf k with
  | some f => f as z kk
  | none => none
noncomputable def arS_X3_numberOf (k : Nat) : Nat := (mm_at [(165, 2)] k).getD 0
def ct_X3_numberOf : List (Nat × List Nat) := []
noncomputable def go_X3_numberOf : Nat → mm_K := mm_go (fun k => mm_at flX3 k) (fun k => mm_at clX3 k) (fun k => mm_at glX3 k) arV_X3_numberOf arS_X3_numberOf mV_X3_numberOf mS_X3_numberOf lenX roX snX 3 0 tbX3_numberOf ct_X3_numberOf
noncomputable def eX3_numberOf_0 (n : Nat)  (x1 : Int32) (x2 : Int32) (z : mm_S) : Option mm_R := go_X3_numberOf n 0 [(0, mm_P 3 0), (1, mm_I x1), (2, mm_I x2)] [] z
set_option maxRecDepth 100000 in
theorem qX3_numberOf_0 (n : Nat)  (x1 : Int32) (x2 : Int32) (z : mm_S) : eX3_numberOf_0 (n + 1) x1 x2 z = (some (some (mm_I (pX3_at 41 ((x1 * 40) + x2) z)), z)) := rfl
def rm_X3_numberOf : Room := { frames := 1, cells := 0, slots := 0, locals := 21 }
noncomputable def f_X3_numberOf (as : List mm_V) (z : mm_S) (o : mm_R) : Prop := (as.map mm_cat).sum ≤ 3 ∧ ∃ n, go_X3_numberOf n 0 (mm_ar 0 as) [] z = some o
theorem M_X3_numberOf : mm_M lyTX lyFA lenX snX 46 48 17 roX rsA nfA nmA ssX yX3_numberOf cX3_numberOf 3 (some .int) rm_X3_numberOf f_X3_numberOf :=
  mm_met (rt := 0) (by decide +kernel) ⟨fun h => rfl, fun h => absurd h (by decide), fun h => absurd h (by decide), fun h => absurd h (by decide)⟩ tbX3_numberOf_ok hsnX okFX3 okLX3 okGX3 (fun _ _ _ _ => rfl) (fun _ _ _ _ => rfl) (fun _ h => absurd h List.not_mem_nil) (List.forall_mem_cons.mpr ⟨sS_X3_at (Or.inl lk_X3_165) rfl ⟨by decide, by decide⟩, fun _ h => absurd h List.not_mem_nil⟩)
noncomputable def pX3_numberOf (x1 : Int32) (x2 : Int32) (z : mm_S) : Int32 := (pX3_at 41 ((x1 * 40) + x2) z)
theorem sp_X3_numberOf (x1 : Int32) (x2 : Int32) (z : mm_S) (_ : ∀ v ∈ [mm_P 3 0, mm_I x1, mm_I x2], mm_ok 46 lyTX 48 17 v) : f_X3_numberOf [mm_P 3 0, mm_I x1, mm_I x2] z (some (mm_I (pX3_numberOf x1 x2 z)), z) := ⟨Nat.le_of_ble_eq_true rfl, 1, (qX3_numberOf_0 0 x1 x2 z).trans rfl⟩
noncomputable def clo_X3_numberOf (as : List mm_V) (z : mm_S) (kk : Option mm_V → mm_S → Option mm_R) : Option mm_R := mm_pr as fun t o0 as => bif Nat.beq t 3 then mm_pi as fun a1 as => mm_pi as fun a2 as => (match as with | [] => kk (some (mm_I (pX3_numberOf a1 a2 z))) z | _ => none) else none
theorem cs_X3_numberOf : mm_cs lyTX 46 48 17 f_X3_numberOf clo_X3_numberOf := by
  intro as z K o hk h
  obtain ⟨t0, o0, r0, rfl, g0⟩ := mm_pr_e h
  obtain ⟨b0, k0⟩ := mm_bif_e g0
  obtain rfl := Nat.eq_of_beq_eq_true b0
  obtain ⟨a1, r1, rfl, g1⟩ := mm_pi_e k0
  obtain ⟨a2, r2, rfl, g2⟩ := mm_pi_e g1
  rcases r2 with _ | ⟨u, w⟩
  rotate_left
  · cases g2
  obtain rfl : o0 = 0 := ok3 (hk (mm_P 3 o0) (by simp))
  exact ⟨_, _, sp_X3_numberOf a1 a2 z hk, fun v hv => by cases hv; exact Or.inl ⟨_, rfl⟩, g2⟩
theorem sV_X3_numberOf {own : String} {R : Room} {ar : Nat → Nat} {k : Nat} (hlink : Cond.methodLink own k yX3_numberOf ∈ lw_gd ∨ ∃ host, (own, k, yX3_numberOf, host) ∈ nmA) (har : ar k = 3) (hr : 2 ≤ R.frames ∧ 43 ≤ R.locals) : mm_okV lyTX lyFA lenX snX 46 48 17 roX rsA nfA nmA ssX own R ar k clo_X3_numberOf := by
  refine ⟨yX3_numberOf, cX3_numberOf, 3, some .int, rm_X3_numberOf, f_X3_numberOf, 3, 2, (RX3, TX3, 12), M_X3_numberOf, cs_X3_numberOf, hlink, ⟨wv_X3_numberOf, wz_X3_numberOf, wi_X3_numberOf, wc_X3_numberOf⟩, ⟨by decide +kernel, by decide +kernel, by decide +kernel⟩, har, ⟨rfl, rfl, by decide⟩, ?_, ⟨rfl, rfl, hr.1, hr.2⟩⟩
  intro as z K o h
  obtain ⟨t0, o0, r0, rfl, g0⟩ := mm_pr_e h
  obtain ⟨b0, k0⟩ := mm_bif_e g0
  obtain rfl := Nat.eq_of_beq_eq_true b0
  exact ⟨_, _, rfl⟩
-- X3_load
noncomputable def lV_X3_load : List (Nat × (List mm_V → mm_S → (Option mm_V → mm_S → Option mm_R) → Option mm_R)) := [(59, clo_X3_finding), (72, clo_X1_put), (312, clo_X3_isMissing), (330, clo_X3_numberOf)]
noncomputable def mV_X3_load (k : Nat) (as : List mm_V) (z : mm_S) (kk : Option mm_V → mm_S → Option mm_R) : Option mm_R := match mm_at lV_X3_load k with
  | some f => f as z kk
  | none => none
noncomputable def arV_X3_load (k : Nat) : Nat := (mm_at [(59, 2), (72, 3), (312, 2), (330, 3)] k).getD 0
noncomputable def lS_X3_load : List (Nat × (List mm_V → mm_S → (Option mm_V → mm_S → Option mm_R) → Option mm_R)) := [(56, clo_X3_isStuff), (165, clo_X3_at), (309, clo_X3_isSheet), (325, mm_mn)]
noncomputable def mS_X3_load (k : Nat) (as : List mm_V) (z : mm_S) (kk : Option mm_V → mm_S → Option mm_R) : Option mm_R := match mm_at lS_X3_load k with
  | some f => f as z kk
  | none => none
noncomputable def arS_X3_load (k : Nat) : Nat := (mm_at [(56, 1), (165, 2), (309, 1), (325, 2)] k).getD 0
def ct_X3_load : List (Nat × List Nat) := [(4, [0, 1]), (13, [0, 1]), (18, [0, 1]), (27, [0, 1]), (41, [0, 1, 2]), (43, [0, 1, 2, 3]), (56, [0, 1, 2, 3, 4]), (61, [0, 1, 2, 3, 4]), (79, [0, 1, 2, 3])]
noncomputable def go_X3_load : Nat → mm_K := mm_go (fun k => mm_at flX3 k) (fun k => mm_at clX3 k) (fun k => mm_at glX3 k) arV_X3_load arS_X3_load mV_X3_load mS_X3_load lenX roX snX 5 0 tbX3_load ct_X3_load
noncomputable def eX3_load_0 (n : Nat)  (x1 : Int32) (z : mm_S) : Option mm_R := go_X3_load n 0 [(0, mm_P 3 0), (1, mm_I x1)] [] z
noncomputable def eX3_load_4 (n : Nat)  (y1 : Int32) (w0 : Int32) (z : mm_S) : Option mm_R := go_X3_load n 4 [(0, mm_P 3 0), (1, mm_I y1)] [mm_I w0] z
noncomputable def eX3_load_13 (n : Nat)  (y1 : Int32) (z : mm_S) : Option mm_R := go_X3_load n 13 [(0, mm_P 3 0), (1, mm_I y1)] [] z
noncomputable def eX3_load_18 (n : Nat)  (y1 : Int32) (w0 : Int32) (z : mm_S) : Option mm_R := go_X3_load n 18 [(0, mm_P 3 0), (1, mm_I y1)] [mm_I w0] z
noncomputable def eX3_load_27 (n : Nat)  (y1 : Int32) (z : mm_S) : Option mm_R := go_X3_load n 27 [(0, mm_P 3 0), (1, mm_I y1)] [] z
noncomputable def eX3_load_41 (n : Nat)  (y1 : Int32) (y2 : Int32) (z : mm_S) : Option mm_R := go_X3_load n 41 [(0, mm_P 3 0), (1, mm_I y1), (2, mm_I y2)] [] z
noncomputable def eX3_load_43 (n : Nat)  (y1 : Int32) (y2 : Int32) (y3 : Int32) (z : mm_S) : Option mm_R := go_X3_load n 43 [(0, mm_P 3 0), (1, mm_I y1), (2, mm_I y2), (3, mm_I y3)] [] z
noncomputable def eX3_load_56 (n : Nat)  (y1 : Int32) (y2 : Int32) (y3 : Int32) (y4 : Int32) (z : mm_S) : Option mm_R := go_X3_load n 56 [(0, mm_P 3 0), (1, mm_I y1), (2, mm_I y2), (3, mm_I y3), (4, mm_I y4)] [] z
noncomputable def eX3_load_61 (n : Nat)  (y1 : Int32) (y2 : Int32) (y3 : Int32) (y4 : Int32) (w0 : Int32) (z : mm_S) : Option mm_R := go_X3_load n 61 [(0, mm_P 3 0), (1, mm_I y1), (2, mm_I y2), (3, mm_I y3), (4, mm_I y4)] [mm_I w0] z
noncomputable def eX3_load_79 (n : Nat)  (y1 : Int32) (y2 : Int32) (y3 : Int32) (z : mm_S) : Option mm_R := go_X3_load n 79 [(0, mm_P 3 0), (1, mm_I y1), (2, mm_I y2), (3, mm_I y3)] [] z
set_option maxRecDepth 100000 in
theorem qX3_load_0 (n : Nat)  (x1 : Int32) (z : mm_S) : eX3_load_0 (n + 1) x1 z = (eX3_load_4 n x1 (pX3_isSheet x1) z) := rfl
set_option maxRecDepth 100000 in
theorem qX3_load_4 (n : Nat)  (y1 : Int32) (w0 : Int32) (z : mm_S) : eX3_load_4 (n + 1) y1 w0 z = (if w0 = 0 then (sX3_finding 0 z).bind fun q1 => some (some (mm_I q1.1), q1.2) else eX3_load_13 n y1 z) := rfl
set_option maxRecDepth 100000 in
theorem qX3_load_13 (n : Nat)  (y1 : Int32) (z : mm_S) : eX3_load_13 (n + 1) y1 z = (eX3_load_18 n y1 (pX3_isMissing y1 z) z) := rfl
set_option maxRecDepth 100000 in
theorem qX3_load_18 (n : Nat)  (y1 : Int32) (w0 : Int32) (z : mm_S) : eX3_load_18 (n + 1) y1 w0 z = (if w0 = 0 then eX3_load_27 n y1 z else (sX3_finding 5 z).bind fun q2 => some (some (mm_I q2.1), q2.2)) := rfl
set_option maxRecDepth 100000 in
theorem qX3_load_27 (n : Nat)  (y1 : Int32) (z : mm_S) : eX3_load_27 (n + 1) y1 z = (eX3_load_41 n y1 (mm_min (pX3_at 40 y1 z) 36) z) := rfl
set_option maxRecDepth 100000 in
theorem qX3_load_41 (n : Nat)  (y1 : Int32) (y2 : Int32) (z : mm_S) : eX3_load_41 (n + 1) y1 y2 z = (eX3_load_43 n y1 y2 0 z) := rfl
set_option maxRecDepth 100000 in
theorem qX3_load_43 (n : Nat)  (y1 : Int32) (y2 : Int32) (y3 : Int32) (z : mm_S) : eX3_load_43 (n + 1) y1 y2 y3 z = (if y2 ≤ y3 then some (some (mm_I y2), z) else eX3_load_56 n y1 y2 y3 (pX3_numberOf y1 y3 z) z) := rfl
set_option maxRecDepth 100000 in
theorem qX3_load_56 (n : Nat)  (y1 : Int32) (y2 : Int32) (y3 : Int32) (y4 : Int32) (z : mm_S) : eX3_load_56 (n + 1) y1 y2 y3 y4 z = (eX3_load_61 n y1 y2 y3 y4 (pX3_isStuff y4) z) := rfl
set_option maxRecDepth 100000 in
theorem qX3_load_61 (n : Nat)  (y1 : Int32) (y2 : Int32) (y3 : Int32) (y4 : Int32) (w0 : Int32) (z : mm_S) : eX3_load_61 (n + 1) y1 y2 y3 y4 w0 z = (if w0 = 0 then some (some (mm_I y3), z) else let u3 := (tX1_put 2 y3 y4 z); eX3_load_79 n y1 y2 y3 u3) := rfl
set_option maxRecDepth 100000 in
theorem qX3_load_79 (n : Nat)  (y1 : Int32) (y2 : Int32) (y3 : Int32) (z : mm_S) : eX3_load_79 (n + 1) y1 y2 y3 z = (eX3_load_43 n y1 y2 (y3 + 1) z) := rfl
def rm_X3_load : Room := { frames := 3, cells := 0, slots := 0, locals := 65 }
noncomputable def f_X3_load (as : List mm_V) (z : mm_S) (o : mm_R) : Prop := (as.map mm_cat).sum ≤ 5 ∧ ∃ n, go_X3_load n 0 (mm_ar 0 as) [] z = some o
theorem M_X3_load : mm_M lyTX lyFA lenX snX 46 48 17 roX rsA nfA nmA ssX yX3_load cX3_load 5 (some .int) rm_X3_load f_X3_load :=
  mm_met (rt := 0) (by decide +kernel) ⟨fun h => rfl, fun h => absurd h (by decide), fun h => absurd h (by decide), fun h => absurd h (by decide)⟩ tbX3_load_ok hsnX okFX3 okLX3 okGX3 (fun _ _ _ _ => rfl) (fun _ _ _ _ => rfl) (List.forall_mem_cons.mpr ⟨sV_X3_finding (Or.inl lk_X3_59) rfl ⟨by decide, by decide⟩, List.forall_mem_cons.mpr ⟨sV_X1_put (Or.inl lk_X3_72) rfl ⟨by decide, by decide⟩, List.forall_mem_cons.mpr ⟨sV_X3_isMissing (Or.inl lk_X3_312) rfl ⟨by decide, by decide⟩, List.forall_mem_cons.mpr ⟨sV_X3_numberOf (Or.inl lk_X3_330) rfl ⟨by decide, by decide⟩, fun _ h => absurd h List.not_mem_nil⟩⟩⟩⟩) (List.forall_mem_cons.mpr ⟨sS_X3_isStuff (Or.inl lk_X3_56) rfl ⟨by decide, by decide⟩, List.forall_mem_cons.mpr ⟨sS_X3_at (Or.inl lk_X3_165) rfl ⟨by decide, by decide⟩, List.forall_mem_cons.mpr ⟨sS_X3_isSheet (Or.inl lk_X3_309) rfl ⟨by decide, by decide⟩, List.forall_mem_cons.mpr ⟨Or.inr (Or.inr ⟨Or.inr ⟨rfl, lk_X3_325, ws_min, wc_min⟩, wi_math, by decide, by decide, rfl⟩), fun _ h => absurd h List.not_mem_nil⟩⟩⟩⟩)
noncomputable def sX3_load_79 (y1 : Int32) (y2 : Int32) (y3 : Int32) (z : mm_S) : Option ((Int32 × Int32 × Int32 × mm_S) ⊕ (Int32 × mm_S)) := some (.inl (y1, y2, (y3 + 1), z))
theorem kX3_load_79 (y1 : Int32) (y2 : Int32) (y3 : Int32) (z : mm_S) (oo : mm_R) : mm_Xs (sX3_load_79 y1 y2 y3 z) (mm_mt (fun x : Int32 × Int32 × Int32 × mm_S => ∃ n, eX3_load_43 n x.1 x.2.1 x.2.2.1 x.2.2.2 = some oo) (fun v => (fun v : Int32 × mm_S => ((some (mm_I v.1), v.2) : mm_R)) v = oo)) (fun n => eX3_load_79 n y1 y2 y3 z) oo :=
  xs_row (fun n => qX3_load_79 n y1 y2 y3 z) (xs_v fun hc => hc)
noncomputable def sX3_load_61 (y1 : Int32) (y2 : Int32) (y3 : Int32) (y4 : Int32) (w0 : Int32) (z : mm_S) : Option ((Int32 × Int32 × Int32 × mm_S) ⊕ (Int32 × mm_S)) := if w0 = 0 then some (.inr (y3, z)) else let u3 := (tX1_put 2 y3 y4 z); (sX3_load_79 y1 y2 y3 u3)
theorem kX3_load_61 (y1 : Int32) (y2 : Int32) (y3 : Int32) (y4 : Int32) (w0 : Int32) (z : mm_S) (oo : mm_R) : mm_Xs (sX3_load_61 y1 y2 y3 y4 w0 z) (mm_mt (fun x : Int32 × Int32 × Int32 × mm_S => ∃ n, eX3_load_43 n x.1 x.2.1 x.2.2.1 x.2.2.2 = some oo) (fun v => (fun v : Int32 × mm_S => ((some (mm_I v.1), v.2) : mm_R)) v = oo)) (fun n => eX3_load_61 n y1 y2 y3 y4 w0 z) oo :=
  xs_row (fun n => qX3_load_61 n y1 y2 y3 y4 w0 z) (xs_if (xs_v fun hc => ⟨0, congrArg some hc⟩) (xs_let ((tX1_put 2 y3 y4 z)) (S := fun (u3 : _) => ((sX3_load_79 y1 y2 y3 u3) : Option ((Int32 × Int32 × Int32 × mm_S) ⊕ (Int32 × mm_S)))) (T := fun (u3 : _) n => eX3_load_79 n y1 y2 y3 u3) (fun u3 => (kX3_load_79 y1 y2 y3 u3 oo))))
noncomputable def sX3_load_56 (y1 : Int32) (y2 : Int32) (y3 : Int32) (y4 : Int32) (z : mm_S) : Option ((Int32 × Int32 × Int32 × mm_S) ⊕ (Int32 × mm_S)) := (sX3_load_61 y1 y2 y3 y4 (pX3_isStuff y4) z)
theorem kX3_load_56 (y1 : Int32) (y2 : Int32) (y3 : Int32) (y4 : Int32) (z : mm_S) (oo : mm_R) : mm_Xs (sX3_load_56 y1 y2 y3 y4 z) (mm_mt (fun x : Int32 × Int32 × Int32 × mm_S => ∃ n, eX3_load_43 n x.1 x.2.1 x.2.2.1 x.2.2.2 = some oo) (fun v => (fun v : Int32 × mm_S => ((some (mm_I v.1), v.2) : mm_R)) v = oo)) (fun n => eX3_load_56 n y1 y2 y3 y4 z) oo :=
  xs_row (fun n => qX3_load_56 n y1 y2 y3 y4 z) (kX3_load_61 y1 y2 y3 y4 (pX3_isStuff y4) z oo)
noncomputable def lX3_load_43 (s : Int32 × Int32 × Int32 × mm_S) : Option ((Int32 × Int32 × Int32 × mm_S) ⊕ (Int32 × mm_S)) := if s.2.1 ≤ s.2.2.1 then some (.inr (s.2.1, s.2.2.2)) else (sX3_load_56 s.1 s.2.1 s.2.2.1 (pX3_numberOf s.1 s.2.2.1 s.2.2.2) s.2.2.2)
noncomputable def sX3_load_43 (y1 : Int32) (y2 : Int32) (y3 : Int32) (z : mm_S) : Option (Int32 × mm_S) := mm_wh (lX3_load_43 ) mm_fu (y1, y2, y3, z)
theorem kX3_load_43 (y1 : Int32) (y2 : Int32) (y3 : Int32) (z : mm_S) (oo : mm_R) : mm_Xs (sX3_load_43 y1 y2 y3 z) (fun v => (fun v : Int32 × mm_S => ((some (mm_I v.1), v.2) : mm_R)) v = oo) (fun n => eX3_load_43 n y1 y2 y3 z) oo :=
  xs_wh (stp := lX3_load_43 ) (o := oo) (E := (fun (s : Int32 × Int32 × Int32 × mm_S) n => eX3_load_43 n s.1 s.2.1 s.2.2.1 s.2.2.2)) (C := (fun v => (fun v : Int32 × mm_S => ((some (mm_I v.1), v.2) : mm_R)) v = oo)) (fun s => xs_row (fun n => qX3_load_43 n s.1 s.2.1 s.2.2.1 s.2.2.2) (xs_if (xs_v fun hc => ⟨0, congrArg some hc⟩) (kX3_load_56 s.1 s.2.1 s.2.2.1 (pX3_numberOf s.1 s.2.2.1 s.2.2.2) s.2.2.2 oo))) mm_fu (y1, y2, y3, z)
noncomputable def sX3_load_41 (y1 : Int32) (y2 : Int32) (z : mm_S) : Option (Int32 × mm_S) := (sX3_load_43 y1 y2 0 z)
theorem kX3_load_41 (y1 : Int32) (y2 : Int32) (z : mm_S) (oo : mm_R) : mm_Xs (sX3_load_41 y1 y2 z) (fun v => (fun v : Int32 × mm_S => ((some (mm_I v.1), v.2) : mm_R)) v = oo) (fun n => eX3_load_41 n y1 y2 z) oo :=
  xs_row (fun n => qX3_load_41 n y1 y2 z) (kX3_load_43 y1 y2 0 z oo)
noncomputable def sX3_load_27 (y1 : Int32) (z : mm_S) : Option (Int32 × mm_S) := (sX3_load_41 y1 (mm_min (pX3_at 40 y1 z) 36) z)
theorem kX3_load_27 (y1 : Int32) (z : mm_S) (oo : mm_R) : mm_Xs (sX3_load_27 y1 z) (fun v => (fun v : Int32 × mm_S => ((some (mm_I v.1), v.2) : mm_R)) v = oo) (fun n => eX3_load_27 n y1 z) oo :=
  xs_row (fun n => qX3_load_27 n y1 z) (kX3_load_41 y1 (mm_min (pX3_at 40 y1 z) 36) z oo)
noncomputable def sX3_load_18 (y1 : Int32) (w0 : Int32) (z : mm_S) : Option (Int32 × mm_S) := if w0 = 0 then (sX3_load_27 y1 z) else (sX3_finding 5 z).bind fun q2 => some (q2.1, q2.2)
theorem kX3_load_18 (y1 : Int32) (w0 : Int32) (z : mm_S) (oo : mm_R) : mm_Xs (sX3_load_18 y1 w0 z) (fun v => (fun v : Int32 × mm_S => ((some (mm_I v.1), v.2) : mm_R)) v = oo) (fun n => eX3_load_18 n y1 w0 z) oo :=
  xs_row (fun n => qX3_load_18 n y1 w0 z) (xs_if (kX3_load_27 y1 z oo) (xs_bd fun q2 => (xs_v fun hc => ⟨0, congrArg some hc⟩)))
noncomputable def sX3_load_13 (y1 : Int32) (z : mm_S) : Option (Int32 × mm_S) := (sX3_load_18 y1 (pX3_isMissing y1 z) z)
theorem kX3_load_13 (y1 : Int32) (z : mm_S) (oo : mm_R) : mm_Xs (sX3_load_13 y1 z) (fun v => (fun v : Int32 × mm_S => ((some (mm_I v.1), v.2) : mm_R)) v = oo) (fun n => eX3_load_13 n y1 z) oo :=
  xs_row (fun n => qX3_load_13 n y1 z) (kX3_load_18 y1 (pX3_isMissing y1 z) z oo)
noncomputable def sX3_load_4 (y1 : Int32) (w0 : Int32) (z : mm_S) : Option (Int32 × mm_S) := if w0 = 0 then (sX3_finding 0 z).bind fun q1 => some (q1.1, q1.2) else (sX3_load_13 y1 z)
theorem kX3_load_4 (y1 : Int32) (w0 : Int32) (z : mm_S) (oo : mm_R) : mm_Xs (sX3_load_4 y1 w0 z) (fun v => (fun v : Int32 × mm_S => ((some (mm_I v.1), v.2) : mm_R)) v = oo) (fun n => eX3_load_4 n y1 w0 z) oo :=
  xs_row (fun n => qX3_load_4 n y1 w0 z) (xs_if (xs_bd fun q1 => (xs_v fun hc => ⟨0, congrArg some hc⟩)) (kX3_load_13 y1 z oo))
noncomputable def sX3_load_0 (x1 : Int32) (z : mm_S) : Option (Int32 × mm_S) := (sX3_load_4 x1 (pX3_isSheet x1) z)
theorem kX3_load_0 (x1 : Int32) (z : mm_S) (oo : mm_R) : mm_Xs (sX3_load_0 x1 z) (fun v => (fun v : Int32 × mm_S => ((some (mm_I v.1), v.2) : mm_R)) v = oo) (fun n => eX3_load_0 n x1 z) oo :=
  xs_row (fun n => qX3_load_0 n x1 z) (kX3_load_4 x1 (pX3_isSheet x1) z oo)
noncomputable def sX3_load (x1 : Int32) (z : mm_S) : Option (Int32 × mm_S) := sX3_load_0 x1 z
theorem sp_X3_load (x1 : Int32) (z : mm_S) (hk : ∀ v ∈ [mm_P 3 0, mm_I x1], mm_ok 46 lyTX 48 17 v) (q : Int32 × mm_S) (hq : sX3_load x1 z = some q) : f_X3_load [mm_P 3 0, mm_I x1] z (some (mm_I q.1), q.2) := ⟨Nat.le_of_ble_eq_true rfl, kX3_load_0 x1 z _ q hq rfl⟩
noncomputable def clo_X3_load (as : List mm_V) (z : mm_S) (kk : Option mm_V → mm_S → Option mm_R) : Option mm_R := mm_pr as fun t o0 as => bif Nat.beq t 3 then mm_pi as fun a1 as => (match as with | [] => (sX3_load a1 z).bind fun q => kk (some (mm_I q.1)) q.2 | _ => none) else none
theorem cs_X3_load : mm_cs lyTX 46 48 17 f_X3_load clo_X3_load := by
  intro as z K o hk h
  obtain ⟨t0, o0, r0, rfl, g0⟩ := mm_pr_e h
  obtain ⟨b0, k0⟩ := mm_bif_e g0
  obtain rfl := Nat.eq_of_beq_eq_true b0
  obtain ⟨a1, r1, rfl, g1⟩ := mm_pi_e k0
  rcases r1 with _ | ⟨u, w⟩
  rotate_left
  · cases g1
  obtain rfl : o0 = 0 := ok3 (hk (mm_P 3 o0) (by simp))
  obtain ⟨q, hq, hq2⟩ := Option.bind_eq_some_iff.mp g1
  exact ⟨_, _, sp_X3_load a1 z hk q hq, fun v hv => by cases hv; exact Or.inl ⟨_, rfl⟩, hq2⟩
theorem sV_X3_load {own : String} {R : Room} {ar : Nat → Nat} {k : Nat} (hlink : Cond.methodLink own k yX3_load ∈ lw_gd ∨ ∃ host, (own, k, yX3_load, host) ∈ nmA) (har : ar k = 2) (hr : 4 ≤ R.frames ∧ 89 ≤ R.locals) : mm_okV lyTX lyFA lenX snX 46 48 17 roX rsA nfA nmA ssX own R ar k clo_X3_load := by
  refine ⟨yX3_load, cX3_load, 5, some .int, rm_X3_load, f_X3_load, 3, 1, (RX3, TX3, 12), M_X3_load, cs_X3_load, hlink, ⟨wv_X3_load, wz_X3_load, wi_X3_load, wc_X3_load⟩, ⟨by decide +kernel, by decide +kernel, by decide +kernel⟩, har, ⟨rfl, rfl, by decide⟩, ?_, ⟨rfl, rfl, hr.1, hr.2⟩⟩
  intro as z K o h
  obtain ⟨t0, o0, r0, rfl, g0⟩ := mm_pr_e h
  obtain ⟨b0, k0⟩ := mm_bif_e g0
  obtain rfl := Nat.eq_of_beq_eq_true b0
  exact ⟨_, _, rfl⟩
-- X3_judge
noncomputable def lV_X3_judge : List (Nat × (List mm_V → mm_S → (Option mm_V → mm_S → Option mm_R) → Option mm_R)) := [(59, clo_X3_finding), (87, clo_X3_isCrew), (191, clo_X0_fillHeard), (312, clo_X3_isMissing), (330, clo_X3_numberOf)]
noncomputable def mV_X3_judge (k : Nat) (as : List mm_V) (z : mm_S) (kk : Option mm_V → mm_S → Option mm_R) : Option mm_R := match mm_at lV_X3_judge k with
  | some f => f as z kk
  | none => none
noncomputable def arV_X3_judge (k : Nat) : Nat := (mm_at [(59, 2), (87, 2), (191, 3), (312, 2), (330, 3)] k).getD 0
noncomputable def lS_X3_judge : List (Nat × (List mm_V → mm_S → (Option mm_V → mm_S → Option mm_R) → Option mm_R)) := [(165, clo_X3_at), (309, clo_X3_isSheet), (325, mm_mn)]
noncomputable def mS_X3_judge (k : Nat) (as : List mm_V) (z : mm_S) (kk : Option mm_V → mm_S → Option mm_R) : Option mm_R := match mm_at lS_X3_judge k with
  | some f => f as z kk
  | none => none
noncomputable def arS_X3_judge (k : Nat) : Nat := (mm_at [(165, 2), (309, 1), (325, 2)] k).getD 0
def ct_X3_judge : List (Nat × List Nat) := [(4, [0, 1, 2]), (13, [0, 1, 2]), (18, [0, 1, 2]), (27, [0, 1, 2]), (32, [0, 1, 2]), (41, [0, 1, 2]), (53, [0, 1]), (67, [0, 1, 3]), (70, [0, 1, 3, 4])]
noncomputable def go_X3_judge : Nat → mm_K := mm_go (fun k => mm_at flX3 k) (fun k => mm_at clX3 k) (fun k => mm_at glX3 k) arV_X3_judge arS_X3_judge mV_X3_judge mS_X3_judge lenX roX snX 5 0 tbX3_judge ct_X3_judge
noncomputable def eX3_judge_0 (n : Nat)  (x1 : Int32) (x2 : Int32) (z : mm_S) : Option mm_R := go_X3_judge n 0 [(0, mm_P 3 0), (1, mm_I x1), (2, mm_I x2)] [] z
noncomputable def eX3_judge_4 (n : Nat)  (y1 : Int32) (y2 : Int32) (w0 : Int32) (z : mm_S) : Option mm_R := go_X3_judge n 4 [(0, mm_P 3 0), (1, mm_I y1), (2, mm_I y2)] [mm_I w0] z
noncomputable def eX3_judge_13 (n : Nat)  (y1 : Int32) (y2 : Int32) (z : mm_S) : Option mm_R := go_X3_judge n 13 [(0, mm_P 3 0), (1, mm_I y1), (2, mm_I y2)] [] z
noncomputable def eX3_judge_18 (n : Nat)  (y1 : Int32) (y2 : Int32) (w0 : Int32) (z : mm_S) : Option mm_R := go_X3_judge n 18 [(0, mm_P 3 0), (1, mm_I y1), (2, mm_I y2)] [mm_I w0] z
noncomputable def eX3_judge_27 (n : Nat)  (y1 : Int32) (y2 : Int32) (z : mm_S) : Option mm_R := go_X3_judge n 27 [(0, mm_P 3 0), (1, mm_I y1), (2, mm_I y2)] [] z
noncomputable def eX3_judge_32 (n : Nat)  (y1 : Int32) (y2 : Int32) (w0 : Int32) (z : mm_S) : Option mm_R := go_X3_judge n 32 [(0, mm_P 3 0), (1, mm_I y1), (2, mm_I y2)] [mm_I w0] z
noncomputable def eX3_judge_41 (n : Nat)  (y1 : Int32) (y2 : Int32) (z : mm_S) : Option mm_R := go_X3_judge n 41 [(0, mm_P 3 0), (1, mm_I y1), (2, mm_I y2)] [] z
noncomputable def eX3_judge_53 (n : Nat)  (y1 : Int32) (z : mm_S) : Option mm_R := go_X3_judge n 53 [(0, mm_P 3 0), (1, mm_I y1)] [] z
noncomputable def eX3_judge_67 (n : Nat)  (y1 : Int32) (y3 : Int32) (z : mm_S) : Option mm_R := go_X3_judge n 67 [(0, mm_P 3 0), (1, mm_I y1), (3, mm_I y3)] [] z
noncomputable def eX3_judge_70 (n : Nat)  (y1 : Int32) (y3 : Int32) (y4 : Int32) (z : mm_S) : Option mm_R := go_X3_judge n 70 [(0, mm_P 3 0), (1, mm_I y1), (3, mm_I y3), (4, mm_I y4)] [] z
set_option maxRecDepth 100000 in
theorem qX3_judge_0 (n : Nat)  (x1 : Int32) (x2 : Int32) (z : mm_S) : eX3_judge_0 (n + 1) x1 x2 z = (eX3_judge_4 n x1 x2 (pX3_isSheet x1) z) := rfl
set_option maxRecDepth 100000 in
theorem qX3_judge_4 (n : Nat)  (y1 : Int32) (y2 : Int32) (w0 : Int32) (z : mm_S) : eX3_judge_4 (n + 1) y1 y2 w0 z = (if w0 = 0 then (sX3_finding 0 z).bind fun q1 => some (some (mm_I q1.1), q1.2) else eX3_judge_13 n y1 y2 z) := rfl
set_option maxRecDepth 100000 in
theorem qX3_judge_13 (n : Nat)  (y1 : Int32) (y2 : Int32) (z : mm_S) : eX3_judge_13 (n + 1) y1 y2 z = (eX3_judge_18 n y1 y2 (pX3_isMissing y1 z) z) := rfl
set_option maxRecDepth 100000 in
theorem qX3_judge_18 (n : Nat)  (y1 : Int32) (y2 : Int32) (w0 : Int32) (z : mm_S) : eX3_judge_18 (n + 1) y1 y2 w0 z = (if w0 = 0 then eX3_judge_27 n y1 y2 z else (sX3_finding 5 z).bind fun q2 => some (some (mm_I q2.1), q2.2)) := rfl
set_option maxRecDepth 100000 in
theorem qX3_judge_27 (n : Nat)  (y1 : Int32) (y2 : Int32) (z : mm_S) : eX3_judge_27 (n + 1) y1 y2 z = (eX3_judge_32 n y1 y2 (pX3_isCrew y2 z) z) := rfl
set_option maxRecDepth 100000 in
theorem qX3_judge_32 (n : Nat)  (y1 : Int32) (y2 : Int32) (w0 : Int32) (z : mm_S) : eX3_judge_32 (n + 1) y1 y2 w0 z = (if w0 = 0 then (sX3_finding 0 z).bind fun q3 => some (some (mm_I q3.1), q3.2) else eX3_judge_41 n y1 y2 z) := rfl
set_option maxRecDepth 100000 in
theorem qX3_judge_41 (n : Nat)  (y1 : Int32) (y2 : Int32) (z : mm_S) : eX3_judge_41 (n + 1) y1 y2 z = ((sX0_fillHeard 1 y2 43 z).bind fun q4 => eX3_judge_53 n y1 q4) := rfl
set_option maxRecDepth 100000 in
theorem qX3_judge_53 (n : Nat)  (y1 : Int32) (z : mm_S) : eX3_judge_53 (n + 1) y1 z = (eX3_judge_67 n y1 (mm_min (pX3_at 40 y1 z) 36) z) := rfl
set_option maxRecDepth 100000 in
theorem qX3_judge_67 (n : Nat)  (y1 : Int32) (y3 : Int32) (z : mm_S) : eX3_judge_67 (n + 1) y1 y3 z = (eX3_judge_70 n y1 y3 0 z) := rfl
set_option maxRecDepth 100000 in
theorem qX3_judge_70 (n : Nat)  (y1 : Int32) (y3 : Int32) (y4 : Int32) (z : mm_S) : eX3_judge_70 (n + 1) y1 y3 y4 z = (if y3 ≤ y4 then some (some (mm_I 0), z) else if (pX3_numberOf y1 y4 z) = (pX3_at 43 y4 z) then eX3_judge_70 n y1 y3 (y4 + 1) z else some (some (mm_I (1 + y4)), z)) := rfl
def rm_X3_judge : Room := { frames := 5, cells := 0, slots := 0, locals := 108 }
noncomputable def f_X3_judge (as : List mm_V) (z : mm_S) (o : mm_R) : Prop := (as.map mm_cat).sum ≤ 5 ∧ ∃ n, go_X3_judge n 0 (mm_ar 0 as) [] z = some o
theorem M_X3_judge : mm_M lyTX lyFA lenX snX 46 48 17 roX rsA nfA nmA ssX yX3_judge cX3_judge 5 (some .int) rm_X3_judge f_X3_judge :=
  mm_met (rt := 0) (by decide +kernel) ⟨fun h => rfl, fun h => absurd h (by decide), fun h => absurd h (by decide), fun h => absurd h (by decide)⟩ tbX3_judge_ok hsnX okFX3 okLX3 okGX3 (fun _ _ _ _ => rfl) (fun _ _ _ _ => rfl) (List.forall_mem_cons.mpr ⟨sV_X3_finding (Or.inl lk_X3_59) rfl ⟨by decide, by decide⟩, List.forall_mem_cons.mpr ⟨sV_X3_isCrew (Or.inl lk_X3_87) rfl ⟨by decide, by decide⟩, List.forall_mem_cons.mpr ⟨sV_X0_fillHeard (Or.inl lk_X3_191) rfl ⟨by decide, by decide⟩, List.forall_mem_cons.mpr ⟨sV_X3_isMissing (Or.inl lk_X3_312) rfl ⟨by decide, by decide⟩, List.forall_mem_cons.mpr ⟨sV_X3_numberOf (Or.inl lk_X3_330) rfl ⟨by decide, by decide⟩, fun _ h => absurd h List.not_mem_nil⟩⟩⟩⟩⟩) (List.forall_mem_cons.mpr ⟨sS_X3_at (Or.inl lk_X3_165) rfl ⟨by decide, by decide⟩, List.forall_mem_cons.mpr ⟨sS_X3_isSheet (Or.inl lk_X3_309) rfl ⟨by decide, by decide⟩, List.forall_mem_cons.mpr ⟨Or.inr (Or.inr ⟨Or.inr ⟨rfl, lk_X3_325, ws_min, wc_min⟩, wi_math, by decide, by decide, rfl⟩), fun _ h => absurd h List.not_mem_nil⟩⟩⟩)
noncomputable def lX3_judge_70 (s : Int32 × Int32 × Int32 × mm_S) : Option ((Int32 × Int32 × Int32 × mm_S) ⊕ (Int32 × mm_S)) := if s.2.1 ≤ s.2.2.1 then some (.inr (0, s.2.2.2)) else if (pX3_numberOf s.1 s.2.2.1 s.2.2.2) = (pX3_at 43 s.2.2.1 s.2.2.2) then some (.inl (s.1, s.2.1, (s.2.2.1 + 1), s.2.2.2)) else some (.inr ((1 + s.2.2.1), s.2.2.2))
noncomputable def sX3_judge_70 (y1 : Int32) (y3 : Int32) (y4 : Int32) (z : mm_S) : Option (Int32 × mm_S) := mm_wh (lX3_judge_70 ) mm_fu (y1, y3, y4, z)
theorem kX3_judge_70 (y1 : Int32) (y3 : Int32) (y4 : Int32) (z : mm_S) (oo : mm_R) : mm_Xs (sX3_judge_70 y1 y3 y4 z) (fun v => (fun v : Int32 × mm_S => ((some (mm_I v.1), v.2) : mm_R)) v = oo) (fun n => eX3_judge_70 n y1 y3 y4 z) oo :=
  xs_wh (stp := lX3_judge_70 ) (o := oo) (E := (fun (s : Int32 × Int32 × Int32 × mm_S) n => eX3_judge_70 n s.1 s.2.1 s.2.2.1 s.2.2.2)) (C := (fun v => (fun v : Int32 × mm_S => ((some (mm_I v.1), v.2) : mm_R)) v = oo)) (fun s => xs_row (fun n => qX3_judge_70 n s.1 s.2.1 s.2.2.1 s.2.2.2) (xs_if (xs_v fun hc => ⟨0, congrArg some hc⟩) (xs_if (xs_v fun hc => hc) (xs_v fun hc => ⟨0, congrArg some hc⟩)))) mm_fu (y1, y3, y4, z)
noncomputable def sX3_judge_67 (y1 : Int32) (y3 : Int32) (z : mm_S) : Option (Int32 × mm_S) := (sX3_judge_70 y1 y3 0 z)
theorem kX3_judge_67 (y1 : Int32) (y3 : Int32) (z : mm_S) (oo : mm_R) : mm_Xs (sX3_judge_67 y1 y3 z) (fun v => (fun v : Int32 × mm_S => ((some (mm_I v.1), v.2) : mm_R)) v = oo) (fun n => eX3_judge_67 n y1 y3 z) oo :=
  xs_row (fun n => qX3_judge_67 n y1 y3 z) (kX3_judge_70 y1 y3 0 z oo)
noncomputable def sX3_judge_53 (y1 : Int32) (z : mm_S) : Option (Int32 × mm_S) := (sX3_judge_67 y1 (mm_min (pX3_at 40 y1 z) 36) z)
theorem kX3_judge_53 (y1 : Int32) (z : mm_S) (oo : mm_R) : mm_Xs (sX3_judge_53 y1 z) (fun v => (fun v : Int32 × mm_S => ((some (mm_I v.1), v.2) : mm_R)) v = oo) (fun n => eX3_judge_53 n y1 z) oo :=
  xs_row (fun n => qX3_judge_53 n y1 z) (kX3_judge_67 y1 (mm_min (pX3_at 40 y1 z) 36) z oo)
noncomputable def sX3_judge_41 (y1 : Int32) (y2 : Int32) (z : mm_S) : Option (Int32 × mm_S) := (sX0_fillHeard 1 y2 43 z).bind fun q4 => (sX3_judge_53 y1 q4)
theorem kX3_judge_41 (y1 : Int32) (y2 : Int32) (z : mm_S) (oo : mm_R) : mm_Xs (sX3_judge_41 y1 y2 z) (fun v => (fun v : Int32 × mm_S => ((some (mm_I v.1), v.2) : mm_R)) v = oo) (fun n => eX3_judge_41 n y1 y2 z) oo :=
  xs_row (fun n => qX3_judge_41 n y1 y2 z) (xs_bd fun q4 => (kX3_judge_53 y1 q4 oo))
noncomputable def sX3_judge_32 (y1 : Int32) (y2 : Int32) (w0 : Int32) (z : mm_S) : Option (Int32 × mm_S) := if w0 = 0 then (sX3_finding 0 z).bind fun q3 => some (q3.1, q3.2) else (sX3_judge_41 y1 y2 z)
theorem kX3_judge_32 (y1 : Int32) (y2 : Int32) (w0 : Int32) (z : mm_S) (oo : mm_R) : mm_Xs (sX3_judge_32 y1 y2 w0 z) (fun v => (fun v : Int32 × mm_S => ((some (mm_I v.1), v.2) : mm_R)) v = oo) (fun n => eX3_judge_32 n y1 y2 w0 z) oo :=
  xs_row (fun n => qX3_judge_32 n y1 y2 w0 z) (xs_if (xs_bd fun q3 => (xs_v fun hc => ⟨0, congrArg some hc⟩)) (kX3_judge_41 y1 y2 z oo))
noncomputable def sX3_judge_27 (y1 : Int32) (y2 : Int32) (z : mm_S) : Option (Int32 × mm_S) := (sX3_judge_32 y1 y2 (pX3_isCrew y2 z) z)
theorem kX3_judge_27 (y1 : Int32) (y2 : Int32) (z : mm_S) (oo : mm_R) : mm_Xs (sX3_judge_27 y1 y2 z) (fun v => (fun v : Int32 × mm_S => ((some (mm_I v.1), v.2) : mm_R)) v = oo) (fun n => eX3_judge_27 n y1 y2 z) oo :=
  xs_row (fun n => qX3_judge_27 n y1 y2 z) (kX3_judge_32 y1 y2 (pX3_isCrew y2 z) z oo)
noncomputable def sX3_judge_18 (y1 : Int32) (y2 : Int32) (w0 : Int32) (z : mm_S) : Option (Int32 × mm_S) := if w0 = 0 then (sX3_judge_27 y1 y2 z) else (sX3_finding 5 z).bind fun q2 => some (q2.1, q2.2)
theorem kX3_judge_18 (y1 : Int32) (y2 : Int32) (w0 : Int32) (z : mm_S) (oo : mm_R) : mm_Xs (sX3_judge_18 y1 y2 w0 z) (fun v => (fun v : Int32 × mm_S => ((some (mm_I v.1), v.2) : mm_R)) v = oo) (fun n => eX3_judge_18 n y1 y2 w0 z) oo :=
  xs_row (fun n => qX3_judge_18 n y1 y2 w0 z) (xs_if (kX3_judge_27 y1 y2 z oo) (xs_bd fun q2 => (xs_v fun hc => ⟨0, congrArg some hc⟩)))
noncomputable def sX3_judge_13 (y1 : Int32) (y2 : Int32) (z : mm_S) : Option (Int32 × mm_S) := (sX3_judge_18 y1 y2 (pX3_isMissing y1 z) z)
theorem kX3_judge_13 (y1 : Int32) (y2 : Int32) (z : mm_S) (oo : mm_R) : mm_Xs (sX3_judge_13 y1 y2 z) (fun v => (fun v : Int32 × mm_S => ((some (mm_I v.1), v.2) : mm_R)) v = oo) (fun n => eX3_judge_13 n y1 y2 z) oo :=
  xs_row (fun n => qX3_judge_13 n y1 y2 z) (kX3_judge_18 y1 y2 (pX3_isMissing y1 z) z oo)
noncomputable def sX3_judge_4 (y1 : Int32) (y2 : Int32) (w0 : Int32) (z : mm_S) : Option (Int32 × mm_S) := if w0 = 0 then (sX3_finding 0 z).bind fun q1 => some (q1.1, q1.2) else (sX3_judge_13 y1 y2 z)
theorem kX3_judge_4 (y1 : Int32) (y2 : Int32) (w0 : Int32) (z : mm_S) (oo : mm_R) : mm_Xs (sX3_judge_4 y1 y2 w0 z) (fun v => (fun v : Int32 × mm_S => ((some (mm_I v.1), v.2) : mm_R)) v = oo) (fun n => eX3_judge_4 n y1 y2 w0 z) oo :=
  xs_row (fun n => qX3_judge_4 n y1 y2 w0 z) (xs_if (xs_bd fun q1 => (xs_v fun hc => ⟨0, congrArg some hc⟩)) (kX3_judge_13 y1 y2 z oo))
noncomputable def sX3_judge_0 (x1 : Int32) (x2 : Int32) (z : mm_S) : Option (Int32 × mm_S) := (sX3_judge_4 x1 x2 (pX3_isSheet x1) z)
theorem kX3_judge_0 (x1 : Int32) (x2 : Int32) (z : mm_S) (oo : mm_R) : mm_Xs (sX3_judge_0 x1 x2 z) (fun v => (fun v : Int32 × mm_S => ((some (mm_I v.1), v.2) : mm_R)) v = oo) (fun n => eX3_judge_0 n x1 x2 z) oo :=
  xs_row (fun n => qX3_judge_0 n x1 x2 z) (kX3_judge_4 x1 x2 (pX3_isSheet x1) z oo)
noncomputable def sX3_judge (x1 : Int32) (x2 : Int32) (z : mm_S) : Option (Int32 × mm_S) := sX3_judge_0 x1 x2 z
theorem sp_X3_judge (x1 : Int32) (x2 : Int32) (z : mm_S) (hk : ∀ v ∈ [mm_P 3 0, mm_I x1, mm_I x2], mm_ok 46 lyTX 48 17 v) (q : Int32 × mm_S) (hq : sX3_judge x1 x2 z = some q) : f_X3_judge [mm_P 3 0, mm_I x1, mm_I x2] z (some (mm_I q.1), q.2) := ⟨Nat.le_of_ble_eq_true rfl, kX3_judge_0 x1 x2 z _ q hq rfl⟩
noncomputable def clo_X3_judge (as : List mm_V) (z : mm_S) (kk : Option mm_V → mm_S → Option mm_R) : Option mm_R := mm_pr as fun t o0 as => bif Nat.beq t 3 then mm_pi as fun a1 as => mm_pi as fun a2 as => (match as with | [] => (sX3_judge a1 a2 z).bind fun q => kk (some (mm_I q.1)) q.2 | _ => none) else none
theorem cs_X3_judge : mm_cs lyTX 46 48 17 f_X3_judge clo_X3_judge := by
  intro as z K o hk h
  obtain ⟨t0, o0, r0, rfl, g0⟩ := mm_pr_e h
  obtain ⟨b0, k0⟩ := mm_bif_e g0
  obtain rfl := Nat.eq_of_beq_eq_true b0
  obtain ⟨a1, r1, rfl, g1⟩ := mm_pi_e k0
  obtain ⟨a2, r2, rfl, g2⟩ := mm_pi_e g1
  rcases r2 with _ | ⟨u, w⟩
  rotate_left
  · cases g2
  obtain rfl : o0 = 0 := ok3 (hk (mm_P 3 o0) (by simp))
  obtain ⟨q, hq, hq2⟩ := Option.bind_eq_some_iff.mp g2
  exact ⟨_, _, sp_X3_judge a1 a2 z hk q hq, fun v hv => by cases hv; exact Or.inl ⟨_, rfl⟩, hq2⟩
theorem sV_X3_judge {own : String} {R : Room} {ar : Nat → Nat} {k : Nat} (hlink : Cond.methodLink own k yX3_judge ∈ lw_gd ∨ ∃ host, (own, k, yX3_judge, host) ∈ nmA) (har : ar k = 3) (hr : 6 ≤ R.frames ∧ 132 ≤ R.locals) : mm_okV lyTX lyFA lenX snX 46 48 17 roX rsA nfA nmA ssX own R ar k clo_X3_judge := by
  refine ⟨yX3_judge, cX3_judge, 5, some .int, rm_X3_judge, f_X3_judge, 3, 2, (RX3, TX3, 12), M_X3_judge, cs_X3_judge, hlink, ⟨wv_X3_judge, wz_X3_judge, wi_X3_judge, wc_X3_judge⟩, ⟨by decide +kernel, by decide +kernel, by decide +kernel⟩, har, ⟨rfl, rfl, by decide⟩, ?_, ⟨rfl, rfl, hr.1, hr.2⟩⟩
  intro as z K o h
  obtain ⟨t0, o0, r0, rfl, g0⟩ := mm_pr_e h
  obtain ⟨b0, k0⟩ := mm_bif_e g0
  obtain rfl := Nat.eq_of_beq_eq_true b0
  exact ⟨_, _, rfl⟩
-- X3_image
noncomputable def lV_X3_image : List (Nat × (List mm_V → mm_S → (Option mm_V → mm_S → Option mm_R) → Option mm_R)) := [(283, clo_X0_become)]
noncomputable def mV_X3_image (k : Nat) (as : List mm_V) (z : mm_S) (kk : Option mm_V → mm_S → Option mm_R) : Option mm_R := match mm_at lV_X3_image k with
  | some f => f as z kk
  | none => none
noncomputable def arV_X3_image (k : Nat) : Nat := (mm_at [(283, 2)] k).getD 0
noncomputable def lS_X3_image : List (Nat × (List mm_V → mm_S → (Option mm_V → mm_S → Option mm_R) → Option mm_R)) := []
noncomputable def mS_X3_image (k : Nat) (as : List mm_V) (z : mm_S) (kk : Option mm_V → mm_S → Option mm_R) : Option mm_R := match mm_at lS_X3_image k with
  | some f => f as z kk
  | none => none
noncomputable def arS_X3_image (k : Nat) : Nat := (mm_at [] k).getD 0
def ct_X3_image : List (Nat × List Nat) := [(11, [0]), (16, [])]
noncomputable def go_X3_image : Nat → mm_K := mm_go (fun k => mm_at flX3 k) (fun k => mm_at clX3 k) (fun k => mm_at glX3 k) arV_X3_image arS_X3_image mV_X3_image mS_X3_image lenX roX snX 1 0 tbX3_image ct_X3_image
noncomputable def eX3_image_0 (n : Nat)  (z : mm_S) : Option mm_R := go_X3_image n 0 [(0, mm_P 3 0)] [] z
noncomputable def eX3_image_11 (n : Nat)  (z : mm_S) : Option mm_R := go_X3_image n 11 [(0, mm_P 3 0)] [] z
noncomputable def eX3_image_16 (n : Nat)  (z : mm_S) : Option mm_R := go_X3_image n 16 [] [] z
set_option maxRecDepth 100000 in
theorem qX3_image_0 (n : Nat)  (z : mm_S) : eX3_image_0 (n + 1)  z = (let u1 := (tX0_become 13 1 z); eX3_image_11 n  u1) := rfl
set_option maxRecDepth 100000 in
theorem qX3_image_11 (n : Nat)  (z : mm_S) : eX3_image_11 (n + 1)  z = (eX3_image_16 n  ((mm_ui z.1 0 2 1), z.2)) := rfl
set_option maxRecDepth 100000 in
theorem qX3_image_16 (n : Nat)  (z : mm_S) : eX3_image_16 (n + 1)  z = (some (some (mm_I 1), z)) := rfl
def rm_X3_image : Room := { frames := 3, cells := 0, slots := 0, locals := 68 }
noncomputable def f_X3_image (as : List mm_V) (z : mm_S) (o : mm_R) : Prop := (as.map mm_cat).sum ≤ 1 ∧ ∃ n, go_X3_image n 0 (mm_ar 0 as) [] z = some o
theorem M_X3_image : mm_M lyTX lyFA lenX snX 46 48 17 roX rsA nfA nmA ssX yX3_image cX3_image 1 (some .int) rm_X3_image f_X3_image :=
  mm_met (rt := 0) (by decide +kernel) ⟨fun h => rfl, fun h => absurd h (by decide), fun h => absurd h (by decide), fun h => absurd h (by decide)⟩ tbX3_image_ok hsnX okFX3 okLX3 okGX3 (fun _ _ _ _ => rfl) (fun _ _ _ _ => rfl) (List.forall_mem_cons.mpr ⟨sV_X0_become (Or.inl lk_X3_283) rfl ⟨by decide, by decide⟩, fun _ h => absurd h List.not_mem_nil⟩) (fun _ h => absurd h List.not_mem_nil)
noncomputable def sX3_image_16  (z : mm_S) : Option (Int32 × mm_S) := some (1, z)
theorem kX3_image_16  (z : mm_S) (oo : mm_R) : mm_Xs (sX3_image_16  z) (fun v => (fun v : Int32 × mm_S => ((some (mm_I v.1), v.2) : mm_R)) v = oo) (fun n => eX3_image_16 n  z) oo :=
  xs_row (fun n => qX3_image_16 n z) (xs_v fun hc => ⟨0, congrArg some hc⟩)
noncomputable def sX3_image_11  (z : mm_S) : Option (Int32 × mm_S) := (sX3_image_16 ((mm_ui z.1 0 2 1), z.2))
theorem kX3_image_11  (z : mm_S) (oo : mm_R) : mm_Xs (sX3_image_11  z) (fun v => (fun v : Int32 × mm_S => ((some (mm_I v.1), v.2) : mm_R)) v = oo) (fun n => eX3_image_11 n  z) oo :=
  xs_row (fun n => qX3_image_11 n z) (kX3_image_16 ((mm_ui z.1 0 2 1), z.2) oo)
noncomputable def sX3_image_0  (z : mm_S) : Option (Int32 × mm_S) := let u1 := (tX0_become 13 1 z); (sX3_image_11 u1)
theorem kX3_image_0  (z : mm_S) (oo : mm_R) : mm_Xs (sX3_image_0  z) (fun v => (fun v : Int32 × mm_S => ((some (mm_I v.1), v.2) : mm_R)) v = oo) (fun n => eX3_image_0 n  z) oo :=
  xs_row (fun n => qX3_image_0 n z) (xs_let ((tX0_become 13 1 z)) (S := fun (u1 : _) => ((sX3_image_11 u1) : Option (Int32 × mm_S))) (T := fun (u1 : _) n => eX3_image_11 n  u1) (fun u1 => (kX3_image_11 u1 oo)))
noncomputable def sX3_image  (z : mm_S) : Option (Int32 × mm_S) := sX3_image_0  z
theorem sp_X3_image  (z : mm_S) (hk : ∀ v ∈ [mm_P 3 0], mm_ok 46 lyTX 48 17 v) (q : Int32 × mm_S) (hq : sX3_image  z = some q) : f_X3_image [mm_P 3 0] z (some (mm_I q.1), q.2) := ⟨Nat.le_of_ble_eq_true rfl, kX3_image_0  z _ q hq rfl⟩
noncomputable def clo_X3_image (as : List mm_V) (z : mm_S) (kk : Option mm_V → mm_S → Option mm_R) : Option mm_R := mm_pr as fun t o0 as => bif Nat.beq t 3 then (match as with | [] => (sX3_image z).bind fun q => kk (some (mm_I q.1)) q.2 | _ => none) else none
theorem cs_X3_image : mm_cs lyTX 46 48 17 f_X3_image clo_X3_image := by
  intro as z K o hk h
  obtain ⟨t0, o0, r0, rfl, g0⟩ := mm_pr_e h
  obtain ⟨b0, k0⟩ := mm_bif_e g0
  obtain rfl := Nat.eq_of_beq_eq_true b0
  rcases r0 with _ | ⟨u, w⟩
  rotate_left
  · cases k0
  obtain rfl : o0 = 0 := ok3 (hk (mm_P 3 o0) (by simp))
  obtain ⟨q, hq, hq2⟩ := Option.bind_eq_some_iff.mp k0
  exact ⟨_, _, sp_X3_image  z hk q hq, fun v hv => by cases hv; exact Or.inl ⟨_, rfl⟩, hq2⟩
theorem sV_X3_image {own : String} {R : Room} {ar : Nat → Nat} {k : Nat} (hlink : Cond.methodLink own k yX3_image ∈ lw_gd ∨ ∃ host, (own, k, yX3_image, host) ∈ nmA) (har : ar k = 1) (hr : 4 ≤ R.frames ∧ 88 ≤ R.locals) : mm_okV lyTX lyFA lenX snX 46 48 17 roX rsA nfA nmA ssX own R ar k clo_X3_image := by
  refine ⟨yX3_image, cX3_image, 1, some .int, rm_X3_image, f_X3_image, 3, 0, (RX3, TX3, 12), M_X3_image, cs_X3_image, hlink, ⟨wv_X3_image, wz_X3_image, wi_X3_image, wc_X3_image⟩, ⟨by decide +kernel, by decide +kernel, by decide +kernel⟩, har, ⟨rfl, rfl, by decide⟩, ?_, ⟨rfl, rfl, hr.1, hr.2⟩⟩
  intro as z K o h
  obtain ⟨t0, o0, r0, rfl, g0⟩ := mm_pr_e h
  obtain ⟨b0, k0⟩ := mm_bif_e g0
  obtain rfl := Nat.eq_of_beq_eq_true b0
  exact ⟨_, _, rfl⟩
-- X3_undo
noncomputable def lV_X3_undo : List (Nat × (List mm_V → mm_S → (Option mm_V → mm_S → Option mm_R) → Option mm_R)) := [(59, clo_X3_finding), (283, clo_X0_become)]
noncomputable def mV_X3_undo (k : Nat) (as : List mm_V) (z : mm_S) (kk : Option mm_V → mm_S → Option mm_R) : Option mm_R := match mm_at lV_X3_undo k with
  | some f => f as z kk
  | none => none
noncomputable def arV_X3_undo (k : Nat) : Nat := (mm_at [(59, 2), (283, 2)] k).getD 0
noncomputable def lS_X3_undo : List (Nat × (List mm_V → mm_S → (Option mm_V → mm_S → Option mm_R) → Option mm_R)) := []
noncomputable def mS_X3_undo (k : Nat) (as : List mm_V) (z : mm_S) (kk : Option mm_V → mm_S → Option mm_R) : Option mm_R := match mm_at lS_X3_undo k with
  | some f => f as z kk
  | none => none
noncomputable def arS_X3_undo (k : Nat) : Nat := (mm_at [] k).getD 0
def ct_X3_undo : List (Nat × List Nat) := [(13, [0]), (24, [0])]
noncomputable def go_X3_undo : Nat → mm_K := mm_go (fun k => mm_at flX3 k) (fun k => mm_at clX3 k) (fun k => mm_at glX3 k) arV_X3_undo arS_X3_undo mV_X3_undo mS_X3_undo lenX roX snX 1 0 tbX3_undo ct_X3_undo
noncomputable def eX3_undo_0 (n : Nat)  (z : mm_S) : Option mm_R := go_X3_undo n 0 [(0, mm_P 3 0)] [] z
noncomputable def eX3_undo_13 (n : Nat)  (z : mm_S) : Option mm_R := go_X3_undo n 13 [(0, mm_P 3 0)] [] z
noncomputable def eX3_undo_24 (n : Nat)  (z : mm_S) : Option mm_R := go_X3_undo n 24 [(0, mm_P 3 0)] [] z
set_option maxRecDepth 100000 in
theorem qX3_undo_0 (n : Nat)  (z : mm_S) : eX3_undo_0 (n + 1)  z = (if (z.1 0 2) = 0 then (sX3_finding 3 z).bind fun q1 => some (some (mm_I q1.1), q1.2) else eX3_undo_13 n  z) := rfl
set_option maxRecDepth 100000 in
theorem qX3_undo_13 (n : Nat)  (z : mm_S) : eX3_undo_13 (n + 1)  z = (let u2 := (tX0_become 1 13 z); eX3_undo_24 n  u2) := rfl
set_option maxRecDepth 100000 in
theorem qX3_undo_24 (n : Nat)  (z : mm_S) : eX3_undo_24 (n + 1)  z = (some (some (mm_I (z.1 1 12)), z)) := rfl
def rm_X3_undo : Room := { frames := 3, cells := 0, slots := 0, locals := 68 }
noncomputable def f_X3_undo (as : List mm_V) (z : mm_S) (o : mm_R) : Prop := (as.map mm_cat).sum ≤ 1 ∧ ∃ n, go_X3_undo n 0 (mm_ar 0 as) [] z = some o
theorem M_X3_undo : mm_M lyTX lyFA lenX snX 46 48 17 roX rsA nfA nmA ssX yX3_undo cX3_undo 1 (some .int) rm_X3_undo f_X3_undo :=
  mm_met (rt := 0) (by decide +kernel) ⟨fun h => rfl, fun h => absurd h (by decide), fun h => absurd h (by decide), fun h => absurd h (by decide)⟩ tbX3_undo_ok hsnX okFX3 okLX3 okGX3 (fun _ _ _ _ => rfl) (fun _ _ _ _ => rfl) (List.forall_mem_cons.mpr ⟨sV_X3_finding (Or.inl lk_X3_59) rfl ⟨by decide, by decide⟩, List.forall_mem_cons.mpr ⟨sV_X0_become (Or.inl lk_X3_283) rfl ⟨by decide, by decide⟩, fun _ h => absurd h List.not_mem_nil⟩⟩) (fun _ h => absurd h List.not_mem_nil)
noncomputable def sX3_undo_24  (z : mm_S) : Option (Int32 × mm_S) := some ((z.1 1 12), z)
theorem kX3_undo_24  (z : mm_S) (oo : mm_R) : mm_Xs (sX3_undo_24  z) (fun v => (fun v : Int32 × mm_S => ((some (mm_I v.1), v.2) : mm_R)) v = oo) (fun n => eX3_undo_24 n  z) oo :=
  xs_row (fun n => qX3_undo_24 n z) (xs_v fun hc => ⟨0, congrArg some hc⟩)
noncomputable def sX3_undo_13  (z : mm_S) : Option (Int32 × mm_S) := let u2 := (tX0_become 1 13 z); (sX3_undo_24 u2)
theorem kX3_undo_13  (z : mm_S) (oo : mm_R) : mm_Xs (sX3_undo_13  z) (fun v => (fun v : Int32 × mm_S => ((some (mm_I v.1), v.2) : mm_R)) v = oo) (fun n => eX3_undo_13 n  z) oo :=
  xs_row (fun n => qX3_undo_13 n z) (xs_let ((tX0_become 1 13 z)) (S := fun (u2 : _) => ((sX3_undo_24 u2) : Option (Int32 × mm_S))) (T := fun (u2 : _) n => eX3_undo_24 n  u2) (fun u2 => (kX3_undo_24 u2 oo)))
noncomputable def sX3_undo_0  (z : mm_S) : Option (Int32 × mm_S) := if (z.1 0 2) = 0 then (sX3_finding 3 z).bind fun q1 => some (q1.1, q1.2) else (sX3_undo_13 z)
theorem kX3_undo_0  (z : mm_S) (oo : mm_R) : mm_Xs (sX3_undo_0  z) (fun v => (fun v : Int32 × mm_S => ((some (mm_I v.1), v.2) : mm_R)) v = oo) (fun n => eX3_undo_0 n  z) oo :=
  xs_row (fun n => qX3_undo_0 n z) (xs_if (xs_bd fun q1 => (xs_v fun hc => ⟨0, congrArg some hc⟩)) (kX3_undo_13 z oo))
noncomputable def sX3_undo  (z : mm_S) : Option (Int32 × mm_S) := sX3_undo_0  z
theorem sp_X3_undo  (z : mm_S) (hk : ∀ v ∈ [mm_P 3 0], mm_ok 46 lyTX 48 17 v) (q : Int32 × mm_S) (hq : sX3_undo  z = some q) : f_X3_undo [mm_P 3 0] z (some (mm_I q.1), q.2) := ⟨Nat.le_of_ble_eq_true rfl, kX3_undo_0  z _ q hq rfl⟩
noncomputable def clo_X3_undo (as : List mm_V) (z : mm_S) (kk : Option mm_V → mm_S → Option mm_R) : Option mm_R := mm_pr as fun t o0 as => bif Nat.beq t 3 then (match as with | [] => (sX3_undo z).bind fun q => kk (some (mm_I q.1)) q.2 | _ => none) else none
theorem cs_X3_undo : mm_cs lyTX 46 48 17 f_X3_undo clo_X3_undo := by
  intro as z K o hk h
  obtain ⟨t0, o0, r0, rfl, g0⟩ := mm_pr_e h
  obtain ⟨b0, k0⟩ := mm_bif_e g0
  obtain rfl := Nat.eq_of_beq_eq_true b0
  rcases r0 with _ | ⟨u, w⟩
  rotate_left
  · cases k0
  obtain rfl : o0 = 0 := ok3 (hk (mm_P 3 o0) (by simp))
  obtain ⟨q, hq, hq2⟩ := Option.bind_eq_some_iff.mp k0
  exact ⟨_, _, sp_X3_undo  z hk q hq, fun v hv => by cases hv; exact Or.inl ⟨_, rfl⟩, hq2⟩
theorem sV_X3_undo {own : String} {R : Room} {ar : Nat → Nat} {k : Nat} (hlink : Cond.methodLink own k yX3_undo ∈ lw_gd ∨ ∃ host, (own, k, yX3_undo, host) ∈ nmA) (har : ar k = 1) (hr : 4 ≤ R.frames ∧ 88 ≤ R.locals) : mm_okV lyTX lyFA lenX snX 46 48 17 roX rsA nfA nmA ssX own R ar k clo_X3_undo := by
  refine ⟨yX3_undo, cX3_undo, 1, some .int, rm_X3_undo, f_X3_undo, 3, 0, (RX3, TX3, 12), M_X3_undo, cs_X3_undo, hlink, ⟨wv_X3_undo, wz_X3_undo, wi_X3_undo, wc_X3_undo⟩, ⟨by decide +kernel, by decide +kernel, by decide +kernel⟩, har, ⟨rfl, rfl, by decide⟩, ?_, ⟨rfl, rfl, hr.1, hr.2⟩⟩
  intro as z K o h
  obtain ⟨t0, o0, r0, rfl, g0⟩ := mm_pr_e h
  obtain ⟨b0, k0⟩ := mm_bif_e g0
  obtain rfl := Nat.eq_of_beq_eq_true b0
  exact ⟨_, _, rfl⟩
-- X3_tear
noncomputable def lV_X3_tear : List (Nat × (List mm_V → mm_S → (Option mm_V → mm_S → Option mm_R) → Option mm_R)) := []
noncomputable def mV_X3_tear (k : Nat) (as : List mm_V) (z : mm_S) (kk : Option mm_V → mm_S → Option mm_R) : Option mm_R := match mm_at lV_X3_tear k with
  | some f => f as z kk
  | none => none
noncomputable def arV_X3_tear (k : Nat) : Nat := (mm_at [] k).getD 0
noncomputable def lS_X3_tear : List (Nat × (List mm_V → mm_S → (Option mm_V → mm_S → Option mm_R) → Option mm_R)) := []
noncomputable def mS_X3_tear (k : Nat) (as : List mm_V) (z : mm_S) (kk : Option mm_V → mm_S → Option mm_R) : Option mm_R := match mm_at lS_X3_tear k with
  | some f => f as z kk
  | none => none
noncomputable def arS_X3_tear (k : Nat) : Nat := (mm_at [] k).getD 0
def ct_X3_tear : List (Nat × List Nat) := [(18, [1])]
noncomputable def go_X3_tear : Nat → mm_K := mm_go (fun k => mm_at flX3 k) (fun k => mm_at clX3 k) (fun k => mm_at glX3 k) arV_X3_tear arS_X3_tear mV_X3_tear mS_X3_tear lenX roX snX 2 0 tbX3_tear ct_X3_tear
noncomputable def eX3_tear_0 (n : Nat)  (z : mm_S) : Option mm_R := go_X3_tear n 0 [(0, mm_P 3 0)] [] z
noncomputable def eX3_tear_18 (n : Nat) (y1 : Int32) (z : mm_S) : Option mm_R := go_X3_tear n 18 [(1, mm_I y1)] [] z
set_option maxRecDepth 100000 in
theorem qX3_tear_0 (n : Nat)  (z : mm_S) : eX3_tear_0 (n + 1)  z = (if (z.1 0 2) = 0 then eX3_tear_18 n 0 ((mm_ui z.1 0 2 0), z.2) else eX3_tear_18 n 1 ((mm_ui z.1 0 2 0), z.2)) := rfl
set_option maxRecDepth 100000 in
theorem qX3_tear_18 (n : Nat) (y1 : Int32) (z : mm_S) : eX3_tear_18 (n + 1) y1 z = (some (some (mm_I y1), z)) := rfl
def rm_X3_tear : Room := { frames := 0, cells := 0, slots := 0, locals := 0 }
noncomputable def f_X3_tear (as : List mm_V) (z : mm_S) (o : mm_R) : Prop := (as.map mm_cat).sum ≤ 2 ∧ ∃ n, go_X3_tear n 0 (mm_ar 0 as) [] z = some o
theorem M_X3_tear : mm_M lyTX lyFA lenX snX 46 48 17 roX rsA nfA nmA ssX yX3_tear cX3_tear 2 (some .int) rm_X3_tear f_X3_tear :=
  mm_met (rt := 0) (by decide +kernel) ⟨fun h => rfl, fun h => absurd h (by decide), fun h => absurd h (by decide), fun h => absurd h (by decide)⟩ tbX3_tear_ok hsnX okFX3 okLX3 okGX3 (fun _ _ _ _ => rfl) (fun _ _ _ _ => rfl) (fun _ h => absurd h List.not_mem_nil) (fun _ h => absurd h List.not_mem_nil)
noncomputable def sX3_tear_18 (y1 : Int32) (z : mm_S) : Option (Int32 × mm_S) := some (y1, z)
theorem kX3_tear_18 (y1 : Int32) (z : mm_S) (oo : mm_R) : mm_Xs (sX3_tear_18 y1 z) (fun v => (fun v : Int32 × mm_S => ((some (mm_I v.1), v.2) : mm_R)) v = oo) (fun n => eX3_tear_18 n y1 z) oo :=
  xs_row (fun n => qX3_tear_18 n y1 z) (xs_v fun hc => ⟨0, congrArg some hc⟩)
noncomputable def sX3_tear_0  (z : mm_S) : Option (Int32 × mm_S) := if (z.1 0 2) = 0 then (sX3_tear_18 0 ((mm_ui z.1 0 2 0), z.2)) else (sX3_tear_18 1 ((mm_ui z.1 0 2 0), z.2))
theorem kX3_tear_0  (z : mm_S) (oo : mm_R) : mm_Xs (sX3_tear_0  z) (fun v => (fun v : Int32 × mm_S => ((some (mm_I v.1), v.2) : mm_R)) v = oo) (fun n => eX3_tear_0 n  z) oo :=
  xs_row (fun n => qX3_tear_0 n z) (xs_if (kX3_tear_18 0 ((mm_ui z.1 0 2 0), z.2) oo) (kX3_tear_18 1 ((mm_ui z.1 0 2 0), z.2) oo))
noncomputable def sX3_tear  (z : mm_S) : Option (Int32 × mm_S) := sX3_tear_0  z
theorem sp_X3_tear  (z : mm_S) (hk : ∀ v ∈ [mm_P 3 0], mm_ok 46 lyTX 48 17 v) (q : Int32 × mm_S) (hq : sX3_tear  z = some q) : f_X3_tear [mm_P 3 0] z (some (mm_I q.1), q.2) := ⟨Nat.le_of_ble_eq_true rfl, kX3_tear_0  z _ q hq rfl⟩
noncomputable def clo_X3_tear (as : List mm_V) (z : mm_S) (kk : Option mm_V → mm_S → Option mm_R) : Option mm_R := mm_pr as fun t o0 as => bif Nat.beq t 3 then (match as with | [] => (sX3_tear z).bind fun q => kk (some (mm_I q.1)) q.2 | _ => none) else none
theorem cs_X3_tear : mm_cs lyTX 46 48 17 f_X3_tear clo_X3_tear := by
  intro as z K o hk h
  obtain ⟨t0, o0, r0, rfl, g0⟩ := mm_pr_e h
  obtain ⟨b0, k0⟩ := mm_bif_e g0
  obtain rfl := Nat.eq_of_beq_eq_true b0
  rcases r0 with _ | ⟨u, w⟩
  rotate_left
  · cases k0
  obtain rfl : o0 = 0 := ok3 (hk (mm_P 3 o0) (by simp))
  obtain ⟨q, hq, hq2⟩ := Option.bind_eq_some_iff.mp k0
  exact ⟨_, _, sp_X3_tear  z hk q hq, fun v hv => by cases hv; exact Or.inl ⟨_, rfl⟩, hq2⟩
theorem sV_X3_tear {own : String} {R : Room} {ar : Nat → Nat} {k : Nat} (hlink : Cond.methodLink own k yX3_tear ∈ lw_gd ∨ ∃ host, (own, k, yX3_tear, host) ∈ nmA) (har : ar k = 1) (hr : 1 ≤ R.frames ∧ 21 ≤ R.locals) : mm_okV lyTX lyFA lenX snX 46 48 17 roX rsA nfA nmA ssX own R ar k clo_X3_tear := by
  refine ⟨yX3_tear, cX3_tear, 2, some .int, rm_X3_tear, f_X3_tear, 3, 0, (RX3, TX3, 12), M_X3_tear, cs_X3_tear, hlink, ⟨wv_X3_tear, wz_X3_tear, wi_X3_tear, wc_X3_tear⟩, ⟨by decide +kernel, by decide +kernel, by decide +kernel⟩, har, ⟨rfl, rfl, by decide⟩, ?_, ⟨rfl, rfl, hr.1, hr.2⟩⟩
  intro as z K o h
  obtain ⟨t0, o0, r0, rfl, g0⟩ := mm_pr_e h
  obtain ⟨b0, k0⟩ := mm_bif_e g0
  obtain rfl := Nat.eq_of_beq_eq_true b0
  exact ⟨_, _, rfl⟩
-- X3_count
noncomputable def lV_X3_count : List (Nat × (List mm_V → mm_S → (Option mm_V → mm_S → Option mm_R) → Option mm_R)) := [(59, clo_X3_finding), (280, clo_X0_holes), (337, clo_X0_heldSpots)]
noncomputable def mV_X3_count (k : Nat) (as : List mm_V) (z : mm_S) (kk : Option mm_V → mm_S → Option mm_R) : Option mm_R := match mm_at lV_X3_count k with
  | some f => f as z kk
  | none => none
noncomputable def arV_X3_count (k : Nat) : Nat := (mm_at [(59, 2), (280, 1), (337, 1)] k).getD 0
noncomputable def lS_X3_count : List (Nat × (List mm_V → mm_S → (Option mm_V → mm_S → Option mm_R) → Option mm_R)) := []
noncomputable def mS_X3_count (k : Nat) (as : List mm_V) (z : mm_S) (kk : Option mm_V → mm_S → Option mm_R) : Option mm_R := match mm_at lS_X3_count k with
  | some f => f as z kk
  | none => none
noncomputable def arS_X3_count (k : Nat) : Nat := (mm_at [] k).getD 0
def ct_X3_count : List (Nat × List Nat) := []
noncomputable def go_X3_count : Nat → mm_K := mm_go (fun k => mm_at flX3 k) (fun k => mm_at clX3 k) (fun k => mm_at glX3 k) arV_X3_count arS_X3_count mV_X3_count mS_X3_count lenX roX snX 2 0 tbX3_count ct_X3_count
noncomputable def eX3_count_0 (n : Nat)  (x1 : Int32) (z : mm_S) : Option mm_R := go_X3_count n 0 [(0, mm_P 3 0), (1, mm_I x1)] [] z
set_option maxRecDepth 100000 in
theorem qX3_count_0 (n : Nat)  (x1 : Int32) (z : mm_S) : eX3_count_0 (n + 1) x1 z = (if x1 = 0 then some (some (mm_I (z.1 1 12)), z) else if x1 = 1 then some (some (mm_I (z.1 1 4)), z) else if x1 = 2 then some (some (mm_I (pX0_holes 1 z)), z) else if x1 = 3 then some (some (mm_I (z.1 1 10)), z) else if x1 = 4 then some (some (mm_I (z.1 1 6)), z) else if x1 = 5 then some (some (mm_I (z.1 37 1)), z) else if x1 = 6 then some (some (mm_I (z.1 1 13)), z) else if x1 = 7 then some (some (mm_I (pX0_heldSpots 1 z)), z) else (sX3_finding 0 z).bind fun q1 => some (some (mm_I q1.1), q1.2)) := rfl
def rm_X3_count : Room := { frames := 3, cells := 0, slots := 0, locals := 62 }
noncomputable def f_X3_count (as : List mm_V) (z : mm_S) (o : mm_R) : Prop := (as.map mm_cat).sum ≤ 2 ∧ ∃ n, go_X3_count n 0 (mm_ar 0 as) [] z = some o
theorem M_X3_count : mm_M lyTX lyFA lenX snX 46 48 17 roX rsA nfA nmA ssX yX3_count cX3_count 2 (some .int) rm_X3_count f_X3_count :=
  mm_met (rt := 0) (by decide +kernel) ⟨fun h => rfl, fun h => absurd h (by decide), fun h => absurd h (by decide), fun h => absurd h (by decide)⟩ tbX3_count_ok hsnX okFX3 okLX3 okGX3 (fun _ _ _ _ => rfl) (fun _ _ _ _ => rfl) (List.forall_mem_cons.mpr ⟨sV_X3_finding (Or.inl lk_X3_59) rfl ⟨by decide, by decide⟩, List.forall_mem_cons.mpr ⟨sV_X0_holes (Or.inl lk_X3_280) rfl ⟨by decide, by decide⟩, List.forall_mem_cons.mpr ⟨sV_X0_heldSpots (Or.inl lk_X3_337) rfl ⟨by decide, by decide⟩, fun _ h => absurd h List.not_mem_nil⟩⟩⟩) (fun _ h => absurd h List.not_mem_nil)
noncomputable def sX3_count_0 (x1 : Int32) (z : mm_S) : Option (Int32 × mm_S) := if x1 = 0 then some ((z.1 1 12), z) else if x1 = 1 then some ((z.1 1 4), z) else if x1 = 2 then some ((pX0_holes 1 z), z) else if x1 = 3 then some ((z.1 1 10), z) else if x1 = 4 then some ((z.1 1 6), z) else if x1 = 5 then some ((z.1 37 1), z) else if x1 = 6 then some ((z.1 1 13), z) else if x1 = 7 then some ((pX0_heldSpots 1 z), z) else (sX3_finding 0 z).bind fun q1 => some (q1.1, q1.2)
theorem kX3_count_0 (x1 : Int32) (z : mm_S) (oo : mm_R) : mm_Xs (sX3_count_0 x1 z) (fun v => (fun v : Int32 × mm_S => ((some (mm_I v.1), v.2) : mm_R)) v = oo) (fun n => eX3_count_0 n x1 z) oo :=
  xs_row (fun n => qX3_count_0 n x1 z) (xs_if (xs_v fun hc => ⟨0, congrArg some hc⟩) (xs_if (xs_v fun hc => ⟨0, congrArg some hc⟩) (xs_if (xs_v fun hc => ⟨0, congrArg some hc⟩) (xs_if (xs_v fun hc => ⟨0, congrArg some hc⟩) (xs_if (xs_v fun hc => ⟨0, congrArg some hc⟩) (xs_if (xs_v fun hc => ⟨0, congrArg some hc⟩) (xs_if (xs_v fun hc => ⟨0, congrArg some hc⟩) (xs_if (xs_v fun hc => ⟨0, congrArg some hc⟩) (xs_bd fun q1 => (xs_v fun hc => ⟨0, congrArg some hc⟩))))))))))
noncomputable def sX3_count (x1 : Int32) (z : mm_S) : Option (Int32 × mm_S) := sX3_count_0 x1 z
theorem sp_X3_count (x1 : Int32) (z : mm_S) (hk : ∀ v ∈ [mm_P 3 0, mm_I x1], mm_ok 46 lyTX 48 17 v) (q : Int32 × mm_S) (hq : sX3_count x1 z = some q) : f_X3_count [mm_P 3 0, mm_I x1] z (some (mm_I q.1), q.2) := ⟨Nat.le_of_ble_eq_true rfl, kX3_count_0 x1 z _ q hq rfl⟩
noncomputable def clo_X3_count (as : List mm_V) (z : mm_S) (kk : Option mm_V → mm_S → Option mm_R) : Option mm_R := mm_pr as fun t o0 as => bif Nat.beq t 3 then mm_pi as fun a1 as => (match as with | [] => (sX3_count a1 z).bind fun q => kk (some (mm_I q.1)) q.2 | _ => none) else none
theorem cs_X3_count : mm_cs lyTX 46 48 17 f_X3_count clo_X3_count := by
  intro as z K o hk h
  obtain ⟨t0, o0, r0, rfl, g0⟩ := mm_pr_e h
  obtain ⟨b0, k0⟩ := mm_bif_e g0
  obtain rfl := Nat.eq_of_beq_eq_true b0
  obtain ⟨a1, r1, rfl, g1⟩ := mm_pi_e k0
  rcases r1 with _ | ⟨u, w⟩
  rotate_left
  · cases g1
  obtain rfl : o0 = 0 := ok3 (hk (mm_P 3 o0) (by simp))
  obtain ⟨q, hq, hq2⟩ := Option.bind_eq_some_iff.mp g1
  exact ⟨_, _, sp_X3_count a1 z hk q hq, fun v hv => by cases hv; exact Or.inl ⟨_, rfl⟩, hq2⟩
theorem sV_X3_count {own : String} {R : Room} {ar : Nat → Nat} {k : Nat} (hlink : Cond.methodLink own k yX3_count ∈ lw_gd ∨ ∃ host, (own, k, yX3_count, host) ∈ nmA) (har : ar k = 2) (hr : 4 ≤ R.frames ∧ 83 ≤ R.locals) : mm_okV lyTX lyFA lenX snX 46 48 17 roX rsA nfA nmA ssX own R ar k clo_X3_count := by
  refine ⟨yX3_count, cX3_count, 2, some .int, rm_X3_count, f_X3_count, 3, 1, (RX3, TX3, 12), M_X3_count, cs_X3_count, hlink, ⟨wv_X3_count, wz_X3_count, wi_X3_count, wc_X3_count⟩, ⟨by decide +kernel, by decide +kernel, by decide +kernel⟩, har, ⟨rfl, rfl, by decide⟩, ?_, ⟨rfl, rfl, hr.1, hr.2⟩⟩
  intro as z K o h
  obtain ⟨t0, o0, r0, rfl, g0⟩ := mm_pr_e h
  obtain ⟨b0, k0⟩ := mm_bif_e g0
  obtain rfl := Nat.eq_of_beq_eq_true b0
  exact ⟨_, _, rfl⟩
-- X3_status
noncomputable def lV_X3_status : List (Nat × (List mm_V → mm_S → (Option mm_V → mm_S → Option mm_R) → Option mm_R)) := [(59, clo_X3_finding)]
noncomputable def mV_X3_status (k : Nat) (as : List mm_V) (z : mm_S) (kk : Option mm_V → mm_S → Option mm_R) : Option mm_R := match mm_at lV_X3_status k with
  | some f => f as z kk
  | none => none
noncomputable def arV_X3_status (k : Nat) : Nat := (mm_at [(59, 2)] k).getD 0
noncomputable def lS_X3_status : List (Nat × (List mm_V → mm_S → (Option mm_V → mm_S → Option mm_R) → Option mm_R)) := [(118, clo_X3_lies), (165, clo_X3_at)]
noncomputable def mS_X3_status (k : Nat) (as : List mm_V) (z : mm_S) (kk : Option mm_V → mm_S → Option mm_R) : Option mm_R := match mm_at lS_X3_status k with
  | some f => f as z kk
  | none => none
noncomputable def arS_X3_status (k : Nat) : Nat := (mm_at [(118, 3), (165, 2)] k).getD 0
def ct_X3_status : List (Nat × List Nat) := [(7, [0, 1]), (16, [0, 1]), (33, [0, 2, 3])]
noncomputable def go_X3_status : Nat → mm_K := mm_go (fun k => mm_at flX3 k) (fun k => mm_at clX3 k) (fun k => mm_at glX3 k) arV_X3_status arS_X3_status mV_X3_status mS_X3_status lenX roX snX 4 0 tbX3_status ct_X3_status
noncomputable def eX3_status_0 (n : Nat)  (x1 : Int32) (z : mm_S) : Option mm_R := go_X3_status n 0 [(0, mm_P 3 0), (1, mm_I x1)] [] z
noncomputable def eX3_status_7 (n : Nat)  (y1 : Int32) (w0 : Int32) (z : mm_S) : Option mm_R := go_X3_status n 7 [(0, mm_P 3 0), (1, mm_I y1)] [mm_I w0] z
noncomputable def eX3_status_16 (n : Nat)  (y1 : Int32) (z : mm_S) : Option mm_R := go_X3_status n 16 [(0, mm_P 3 0), (1, mm_I y1)] [] z
noncomputable def eX3_status_33 (n : Nat)  (y2 : Int32) (y3 : Int32) (z : mm_S) : Option mm_R := go_X3_status n 33 [(0, mm_P 3 0), (2, mm_I y2), (3, mm_I y3)] [] z
set_option maxRecDepth 100000 in
theorem qX3_status_0 (n : Nat)  (x1 : Int32) (z : mm_S) : eX3_status_0 (n + 1) x1 z = (eX3_status_7 n x1 (pX3_lies x1 (-1) 6) z) := rfl
set_option maxRecDepth 100000 in
theorem qX3_status_7 (n : Nat)  (y1 : Int32) (w0 : Int32) (z : mm_S) : eX3_status_7 (n + 1) y1 w0 z = (if w0 = 0 then (sX3_finding 0 z).bind fun q1 => some (some (mm_I q1.1), q1.2) else eX3_status_16 n y1 z) := rfl
set_option maxRecDepth 100000 in
theorem qX3_status_16 (n : Nat)  (y1 : Int32) (z : mm_S) : eX3_status_16 (n + 1) y1 z = (if y1 < 0 then eX3_status_33 n 0 0 z else some (some (mm_I (pX3_at 42 y1 z)), z)) := rfl
set_option maxRecDepth 100000 in
theorem qX3_status_33 (n : Nat)  (y2 : Int32) (y3 : Int32) (z : mm_S) : eX3_status_33 (n + 1) y2 y3 z = (if 7 ≤ y3 then some (some (mm_I y2), z) else eX3_status_33 n (y2 + (pX3_at 42 y3 z)) (y3 + 1) z) := rfl
def rm_X3_status : Room := { frames := 2, cells := 0, slots := 0, locals := 44 }
noncomputable def f_X3_status (as : List mm_V) (z : mm_S) (o : mm_R) : Prop := (as.map mm_cat).sum ≤ 4 ∧ ∃ n, go_X3_status n 0 (mm_ar 0 as) [] z = some o
theorem M_X3_status : mm_M lyTX lyFA lenX snX 46 48 17 roX rsA nfA nmA ssX yX3_status cX3_status 4 (some .int) rm_X3_status f_X3_status :=
  mm_met (rt := 0) (by decide +kernel) ⟨fun h => rfl, fun h => absurd h (by decide), fun h => absurd h (by decide), fun h => absurd h (by decide)⟩ tbX3_status_ok hsnX okFX3 okLX3 okGX3 (fun _ _ _ _ => rfl) (fun _ _ _ _ => rfl) (List.forall_mem_cons.mpr ⟨sV_X3_finding (Or.inl lk_X3_59) rfl ⟨by decide, by decide⟩, fun _ h => absurd h List.not_mem_nil⟩) (List.forall_mem_cons.mpr ⟨sS_X3_lies (Or.inl lk_X3_118) rfl ⟨by decide, by decide⟩, List.forall_mem_cons.mpr ⟨sS_X3_at (Or.inl lk_X3_165) rfl ⟨by decide, by decide⟩, fun _ h => absurd h List.not_mem_nil⟩⟩)
noncomputable def lX3_status_33 (s : Int32 × Int32 × mm_S) : Option ((Int32 × Int32 × mm_S) ⊕ (Int32 × mm_S)) := if 7 ≤ s.2.1 then some (.inr (s.1, s.2.2)) else some (.inl ((s.1 + (pX3_at 42 s.2.1 s.2.2)), (s.2.1 + 1), s.2.2))
noncomputable def sX3_status_33 (y2 : Int32) (y3 : Int32) (z : mm_S) : Option (Int32 × mm_S) := mm_wh (lX3_status_33 ) mm_fu (y2, y3, z)
theorem kX3_status_33 (y2 : Int32) (y3 : Int32) (z : mm_S) (oo : mm_R) : mm_Xs (sX3_status_33 y2 y3 z) (fun v => (fun v : Int32 × mm_S => ((some (mm_I v.1), v.2) : mm_R)) v = oo) (fun n => eX3_status_33 n y2 y3 z) oo :=
  xs_wh (stp := lX3_status_33 ) (o := oo) (E := (fun (s : Int32 × Int32 × mm_S) n => eX3_status_33 n s.1 s.2.1 s.2.2)) (C := (fun v => (fun v : Int32 × mm_S => ((some (mm_I v.1), v.2) : mm_R)) v = oo)) (fun s => xs_row (fun n => qX3_status_33 n s.1 s.2.1 s.2.2) (xs_if (xs_v fun hc => ⟨0, congrArg some hc⟩) (xs_v fun hc => hc))) mm_fu (y2, y3, z)
noncomputable def sX3_status_16 (y1 : Int32) (z : mm_S) : Option (Int32 × mm_S) := if y1 < 0 then (sX3_status_33 0 0 z) else some ((pX3_at 42 y1 z), z)
theorem kX3_status_16 (y1 : Int32) (z : mm_S) (oo : mm_R) : mm_Xs (sX3_status_16 y1 z) (fun v => (fun v : Int32 × mm_S => ((some (mm_I v.1), v.2) : mm_R)) v = oo) (fun n => eX3_status_16 n y1 z) oo :=
  xs_row (fun n => qX3_status_16 n y1 z) (xs_if (kX3_status_33 0 0 z oo) (xs_v fun hc => ⟨0, congrArg some hc⟩))
noncomputable def sX3_status_7 (y1 : Int32) (w0 : Int32) (z : mm_S) : Option (Int32 × mm_S) := if w0 = 0 then (sX3_finding 0 z).bind fun q1 => some (q1.1, q1.2) else (sX3_status_16 y1 z)
theorem kX3_status_7 (y1 : Int32) (w0 : Int32) (z : mm_S) (oo : mm_R) : mm_Xs (sX3_status_7 y1 w0 z) (fun v => (fun v : Int32 × mm_S => ((some (mm_I v.1), v.2) : mm_R)) v = oo) (fun n => eX3_status_7 n y1 w0 z) oo :=
  xs_row (fun n => qX3_status_7 n y1 w0 z) (xs_if (xs_bd fun q1 => (xs_v fun hc => ⟨0, congrArg some hc⟩)) (kX3_status_16 y1 z oo))
noncomputable def sX3_status_0 (x1 : Int32) (z : mm_S) : Option (Int32 × mm_S) := (sX3_status_7 x1 (pX3_lies x1 (-1) 6) z)
theorem kX3_status_0 (x1 : Int32) (z : mm_S) (oo : mm_R) : mm_Xs (sX3_status_0 x1 z) (fun v => (fun v : Int32 × mm_S => ((some (mm_I v.1), v.2) : mm_R)) v = oo) (fun n => eX3_status_0 n x1 z) oo :=
  xs_row (fun n => qX3_status_0 n x1 z) (kX3_status_7 x1 (pX3_lies x1 (-1) 6) z oo)
noncomputable def sX3_status (x1 : Int32) (z : mm_S) : Option (Int32 × mm_S) := sX3_status_0 x1 z
theorem sp_X3_status (x1 : Int32) (z : mm_S) (hk : ∀ v ∈ [mm_P 3 0, mm_I x1], mm_ok 46 lyTX 48 17 v) (q : Int32 × mm_S) (hq : sX3_status x1 z = some q) : f_X3_status [mm_P 3 0, mm_I x1] z (some (mm_I q.1), q.2) := ⟨Nat.le_of_ble_eq_true rfl, kX3_status_0 x1 z _ q hq rfl⟩
noncomputable def clo_X3_status (as : List mm_V) (z : mm_S) (kk : Option mm_V → mm_S → Option mm_R) : Option mm_R := mm_pr as fun t o0 as => bif Nat.beq t 3 then mm_pi as fun a1 as => (match as with | [] => (sX3_status a1 z).bind fun q => kk (some (mm_I q.1)) q.2 | _ => none) else none
theorem cs_X3_status : mm_cs lyTX 46 48 17 f_X3_status clo_X3_status := by
  intro as z K o hk h
  obtain ⟨t0, o0, r0, rfl, g0⟩ := mm_pr_e h
  obtain ⟨b0, k0⟩ := mm_bif_e g0
  obtain rfl := Nat.eq_of_beq_eq_true b0
  obtain ⟨a1, r1, rfl, g1⟩ := mm_pi_e k0
  rcases r1 with _ | ⟨u, w⟩
  rotate_left
  · cases g1
  obtain rfl : o0 = 0 := ok3 (hk (mm_P 3 o0) (by simp))
  obtain ⟨q, hq, hq2⟩ := Option.bind_eq_some_iff.mp g1
  exact ⟨_, _, sp_X3_status a1 z hk q hq, fun v hv => by cases hv; exact Or.inl ⟨_, rfl⟩, hq2⟩
theorem sV_X3_status {own : String} {R : Room} {ar : Nat → Nat} {k : Nat} (hlink : Cond.methodLink own k yX3_status ∈ lw_gd ∨ ∃ host, (own, k, yX3_status, host) ∈ nmA) (har : ar k = 2) (hr : 3 ≤ R.frames ∧ 67 ≤ R.locals) : mm_okV lyTX lyFA lenX snX 46 48 17 roX rsA nfA nmA ssX own R ar k clo_X3_status := by
  refine ⟨yX3_status, cX3_status, 4, some .int, rm_X3_status, f_X3_status, 3, 1, (RX3, TX3, 12), M_X3_status, cs_X3_status, hlink, ⟨wv_X3_status, wz_X3_status, wi_X3_status, wc_X3_status⟩, ⟨by decide +kernel, by decide +kernel, by decide +kernel⟩, har, ⟨rfl, rfl, by decide⟩, ?_, ⟨rfl, rfl, hr.1, hr.2⟩⟩
  intro as z K o h
  obtain ⟨t0, o0, r0, rfl, g0⟩ := mm_pr_e h
  obtain ⟨b0, k0⟩ := mm_bif_e g0
  obtain rfl := Nat.eq_of_beq_eq_true b0
  exact ⟨_, _, rfl⟩
