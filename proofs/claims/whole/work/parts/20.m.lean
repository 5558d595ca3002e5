-- X4_finding
noncomputable def lV_X4_finding : List (Nat × (List mm_V → mm_S → (Option mm_V → mm_S → Option mm_R) → Option mm_R)) := []
noncomputable def mV_X4_finding (k : Nat) (as : List mm_V) (z : mm_S) (kk : Option mm_V → mm_S → Option mm_R) : Option mm_R := match mm_at lV_X4_finding k with
  | some f => f as z kk
  | none => none
noncomputable def arV_X4_finding (k : Nat) : Nat := (mm_at [] k).getD 0
noncomputable def lS_X4_finding : List (Nat × (List mm_V → mm_S → (Option mm_V → mm_S → Option mm_R) → Option mm_R)) := []
noncomputable def mS_X4_finding (k : Nat) (as : List mm_V) (z : mm_S) (kk : Option mm_V → mm_S → Option mm_R) : Option mm_R := match mm_at lS_X4_finding k with
  | some f => f as z kk
  | none => none
noncomputable def arS_X4_finding (k : Nat) : Nat := (mm_at [] k).getD 0
def ct_X4_finding : List (Nat × List Nat) := [(10, [0, 1]), (15, [0, 1]), (25, [1])]
noncomputable def go_X4_finding : Nat → mm_K := mm_go (fun k => mm_at flX4 k) (fun k => mm_at clX4 k) (fun k => mm_at glX4 k) arV_X4_finding arS_X4_finding mV_X4_finding mS_X4_finding lenM roM snM 2 0 tbX4_finding ct_X4_finding
noncomputable def eX4_finding_0 (n : Nat)  (x1 : Int32) (z : mm_S) : Option mm_R := go_X4_finding n 0 [(0, mm_P 4 0), (1, mm_I x1)] [] z
noncomputable def eX4_finding_10 (n : Nat)  (y1 : Int32) (w0 : Int32) (w1 : Nat) (z : mm_S) : Option mm_R := go_X4_finding n 10 [(0, mm_P 4 0), (1, mm_I y1)] [mm_I w0, mm_P 10 w1] z
noncomputable def eX4_finding_15 (n : Nat)  (y1 : Int32) (z : mm_S) : Option mm_R := go_X4_finding n 15 [(0, mm_P 4 0), (1, mm_I y1)] [] z
noncomputable def eX4_finding_25 (n : Nat) (y1 : Int32) (z : mm_S) : Option mm_R := go_X4_finding n 25 [(1, mm_I y1)] [] z
set_option maxRecDepth 100000 in
theorem qX4_finding_0 (n : Nat)  (x1 : Int32) (z : mm_S) : eX4_finding_0 (n + 1) x1 z = (eX4_finding_10 n x1 (((-1000001) - x1) + 1) 4 z) := rfl
set_option maxRecDepth 100000 in
theorem qX4_finding_10 (n : Nat)  (y1 : Int32) (w0 : Int32) (w1 : Nat) (z : mm_S) : eX4_finding_10 (n + 1) y1 w0 w1 z = (if w0 < 0 ∨ lenM w1 ≤ Int32.toNatClampNeg w0 then none else if w0 < 0 ∨ lenM w1 ≤ Int32.toNatClampNeg w0 then none else let u1 : mm_S := ((mm_ui z.1 w1 (Int32.toNatClampNeg w0) ((z.1 w1 (Int32.toNatClampNeg w0)) + 1)), z.2); eX4_finding_15 n y1 u1) := rfl
set_option maxRecDepth 100000 in
theorem qX4_finding_15 (n : Nat)  (y1 : Int32) (z : mm_S) : eX4_finding_15 (n + 1) y1 z = (eX4_finding_25 n y1 ((mm_ui z.1 4 0 ((z.1 4 0) + 1)), z.2)) := rfl
set_option maxRecDepth 100000 in
theorem qX4_finding_25 (n : Nat) (y1 : Int32) (z : mm_S) : eX4_finding_25 (n + 1) y1 z = (some (some (mm_I y1), z)) := rfl
def rm_X4_finding : Room := { frames := 0, cells := 0, slots := 0, locals := 0 }
noncomputable def f_X4_finding (as : List mm_V) (z : mm_S) (o : mm_R) : Prop := (as.map mm_cat).sum ≤ 2 ∧ ∃ n, go_X4_finding n 0 (mm_ar 0 as) [] z = some o
theorem M_X4_finding : mm_M lyTM lyFA lenM snM 22 22 17 roM rsA nfA nmA [] yX4_finding cX4_finding 2 (some .int) rm_X4_finding f_X4_finding :=
  mm_met (rt := 0) (by decide +kernel) ⟨fun h => rfl, fun h => absurd h (by decide), fun h => absurd h (by decide), fun h => absurd h (by decide)⟩ tbX4_finding_ok hsnM okFX4 okLX4 (fun _ h => absurd h List.not_mem_nil) (fun _ _ _ _ => rfl) (fun _ _ _ _ => rfl) (fun _ h => absurd h List.not_mem_nil) (fun _ h => absurd h List.not_mem_nil)
noncomputable def sX4_finding_25 (y1 : Int32) (z : mm_S) : Option (Int32 × mm_S) := some (y1, z)
theorem kX4_finding_25 (y1 : Int32) (z : mm_S) (oo : mm_R) : mm_Xs (sX4_finding_25 y1 z) (fun v => (fun v : Int32 × mm_S => ((some (mm_I v.1), v.2) : mm_R)) v = oo) (fun n => eX4_finding_25 n y1 z) oo :=
  xs_row (fun n => qX4_finding_25 n y1 z) (xs_v fun hc => ⟨0, congrArg some hc⟩)
noncomputable def sX4_finding_15 (y1 : Int32) (z : mm_S) : Option (Int32 × mm_S) := (sX4_finding_25 y1 ((mm_ui z.1 4 0 ((z.1 4 0) + 1)), z.2))
theorem kX4_finding_15 (y1 : Int32) (z : mm_S) (oo : mm_R) : mm_Xs (sX4_finding_15 y1 z) (fun v => (fun v : Int32 × mm_S => ((some (mm_I v.1), v.2) : mm_R)) v = oo) (fun n => eX4_finding_15 n y1 z) oo :=
  xs_row (fun n => qX4_finding_15 n y1 z) (kX4_finding_25 y1 ((mm_ui z.1 4 0 ((z.1 4 0) + 1)), z.2) oo)
noncomputable def sX4_finding_10 (y1 : Int32) (w0 : Int32) (w1 : Nat) (z : mm_S) : Option (Int32 × mm_S) := if w0 < 0 ∨ lenM w1 ≤ Int32.toNatClampNeg w0 then none else if w0 < 0 ∨ lenM w1 ≤ Int32.toNatClampNeg w0 then none else let u1 : mm_S := ((mm_ui z.1 w1 (Int32.toNatClampNeg w0) ((z.1 w1 (Int32.toNatClampNeg w0)) + 1)), z.2); (sX4_finding_15 y1 u1)
theorem kX4_finding_10 (y1 : Int32) (w0 : Int32) (w1 : Nat) (z : mm_S) (oo : mm_R) : mm_Xs (sX4_finding_10 y1 w0 w1 z) (fun v => (fun v : Int32 × mm_S => ((some (mm_I v.1), v.2) : mm_R)) v = oo) (fun n => eX4_finding_10 n y1 w0 w1 z) oo :=
  xs_row (fun n => qX4_finding_10 n y1 w0 w1 z) (xs_if xs_n (xs_if xs_n (let u1 : mm_S := ((mm_ui z.1 w1 (Int32.toNatClampNeg w0) ((z.1 w1 (Int32.toNatClampNeg w0)) + 1)), z.2); (kX4_finding_15 y1 u1 oo))))
noncomputable def sX4_finding_0 (x1 : Int32) (z : mm_S) : Option (Int32 × mm_S) := (sX4_finding_10 x1 (((-1000001) - x1) + 1) 4 z)
theorem kX4_finding_0 (x1 : Int32) (z : mm_S) (oo : mm_R) : mm_Xs (sX4_finding_0 x1 z) (fun v => (fun v : Int32 × mm_S => ((some (mm_I v.1), v.2) : mm_R)) v = oo) (fun n => eX4_finding_0 n x1 z) oo :=
  xs_row (fun n => qX4_finding_0 n x1 z) (kX4_finding_10 x1 (((-1000001) - x1) + 1) 4 z oo)
noncomputable def sX4_finding (x1 : Int32) (z : mm_S) : Option (Int32 × mm_S) := sX4_finding_0 x1 z
theorem sp_X4_finding (x1 : Int32) (z : mm_S) (hk : ∀ v ∈ [mm_P 4 0, mm_I x1], mm_ok 22 lyTM 22 17 v) (q : Int32 × mm_S) (hq : sX4_finding x1 z = some q) : f_X4_finding [mm_P 4 0, mm_I x1] z (some (mm_I q.1), q.2) := ⟨Nat.le_of_ble_eq_true rfl, kX4_finding_0 x1 z _ q hq rfl⟩
noncomputable def clo_X4_finding (as : List mm_V) (z : mm_S) (kk : Option mm_V → mm_S → Option mm_R) : Option mm_R := mm_pr as fun t o0 as => bif Nat.beq t 4 then mm_pi as fun a1 as => (match as with | [] => (sX4_finding a1 z).bind fun q => kk (some (mm_I q.1)) q.2 | _ => none) else none
theorem cs_X4_finding : mm_cs lyTM 22 22 17 f_X4_finding clo_X4_finding := by
  intro as z K o hk h
  obtain ⟨t0, o0, r0, rfl, g0⟩ := mm_pr_e h
  obtain ⟨b0, k0⟩ := mm_bif_e g0
  obtain rfl := Nat.eq_of_beq_eq_true b0
  obtain ⟨a1, r1, rfl, g1⟩ := mm_pi_e k0
  rcases r1 with _ | ⟨u, w⟩
  rotate_left
  · cases g1
  obtain rfl : o0 = 0 := ok4 (hk (mm_P 4 o0) (by simp))
  obtain ⟨q, hq, hq2⟩ := Option.bind_eq_some_iff.mp g1
  exact ⟨_, _, sp_X4_finding a1 z hk q hq, fun v hv => by cases hv; exact Or.inl ⟨_, rfl⟩, hq2⟩
theorem sV_X4_finding {own : String} {R : Room} {ar : Nat → Nat} {k : Nat} (hlink : Cond.methodLink own k yX4_finding ∈ lw_gd ∨ ∃ host, (own, k, yX4_finding, host) ∈ nmA) (har : ar k = 2) (hr : 1 ≤ R.frames ∧ 21 ≤ R.locals) : mm_okV lyTM lyFA lenM snM 22 22 17 roM rsA nfA nmA [] own R ar k clo_X4_finding := by
  refine ⟨yX4_finding, cX4_finding, 2, some .int, rm_X4_finding, f_X4_finding, 4, 1, (RX4, TX4, 36), M_X4_finding, cs_X4_finding, hlink, ⟨wv_X4_finding, wz_X4_finding, wi_X4_finding, wc_X4_finding⟩, ⟨by decide +kernel, by decide +kernel, by decide +kernel⟩, har, ⟨rfl, rfl, by decide⟩, ?_, ⟨rfl, rfl, hr.1, hr.2⟩⟩
  intro as z K o h
  obtain ⟨t0, o0, r0, rfl, g0⟩ := mm_pr_e h
  obtain ⟨b0, k0⟩ := mm_bif_e g0
  obtain rfl := Nat.eq_of_beq_eq_true b0
  exact ⟨_, _, rfl⟩
-- X4_within
noncomputable def lV_X4_within : List (Nat × (List mm_V → mm_S → (Option mm_V → mm_S → Option mm_R) → Option mm_R)) := []
noncomputable def mV_X4_within (k : Nat) (as : List mm_V) (z : mm_S) (kk : Option mm_V → mm_S → Option mm_R) : Option mm_R := match mm_at lV_X4_within k with
  | some f => f as z kk
  | none => none
noncomputable def arV_X4_within (k : Nat) : Nat := (mm_at [] k).getD 0
noncomputable def lS_X4_within : List (Nat × (List mm_V → mm_S → (Option mm_V → mm_S → Option mm_R) → Option mm_R)) := []
noncomputable def mS_X4_within (k : Nat) (as : List mm_V) (z : mm_S) (kk : Option mm_V → mm_S → Option mm_R) : Option mm_R := match mm_at lS_X4_within k with
  | some f => f as z kk
  | none => none
noncomputable def arS_X4_within (k : Nat) : Nat := (mm_at [] k).getD 0
def ct_X4_within : List (Nat × List Nat) := []
noncomputable def go_X4_within : Nat → mm_K := mm_go (fun k => mm_at flX4 k) (fun k => mm_at clX4 k) (fun k => mm_at glX4 k) arV_X4_within arS_X4_within mV_X4_within mS_X4_within lenM roM snM 3 1 tbX4_within ct_X4_within
noncomputable def eX4_within_0 (n : Nat) (x1 : Int32) (x2 : Int32) (x3 : Int32) (z : mm_S) : Option mm_R := go_X4_within n 0 [(0, mm_I x1), (1, mm_I x2), (2, mm_I x3)] [] z
set_option maxRecDepth 100000 in
theorem qX4_within_0 (n : Nat) (x1 : Int32) (x2 : Int32) (x3 : Int32) (z : mm_S) : eX4_within_0 (n + 1) x1 x2 x3 z = (if x1 < x2 then some (some (mm_I 0), z) else if x3 < x1 then some (some (mm_I 0), z) else some (some (mm_I 1), z)) := rfl
def rm_X4_within : Room := { frames := 0, cells := 0, slots := 0, locals := 0 }
noncomputable def f_X4_within (as : List mm_V) (z : mm_S) (o : mm_R) : Prop := (as.map mm_cat).sum ≤ 3 ∧ ∃ n, go_X4_within n 0 (mm_ar 0 as) [] z = some o
theorem M_X4_within : mm_M lyTM lyFA lenM snM 22 22 17 roM rsA nfA nmA [] yX4_within cX4_within 3 (some .boolean) rm_X4_within f_X4_within :=
  mm_met (rt := 1) (by decide +kernel) ⟨fun h => absurd h (by decide), fun h => rfl, fun h => absurd h (by decide), fun h => absurd h (by decide)⟩ tbX4_within_ok hsnM okFX4 okLX4 (fun _ h => absurd h List.not_mem_nil) (fun _ _ _ _ => rfl) (fun _ _ _ _ => rfl) (fun _ h => absurd h List.not_mem_nil) (fun _ h => absurd h List.not_mem_nil)
noncomputable def pX4_within (x1 : Int32) (x2 : Int32) (x3 : Int32) : Int32 := if x1 < x2 then 0 else if x3 < x1 then 0 else 1
theorem z1_X4_within (x1 : Int32) (x2 : Int32) (x3 : Int32) : pX4_within x1 x2 x3 = 0 ∨ pX4_within x1 x2 x3 = 1 := (mm_i01 (Or.inl rfl) (mm_i01 (Or.inl rfl) (Or.inr rfl)))
theorem sp_X4_within (x1 : Int32) (x2 : Int32) (x3 : Int32) (z : mm_S) (_ : ∀ v ∈ [mm_I x1, mm_I x2, mm_I x3], mm_ok 22 lyTM 22 17 v) : f_X4_within [mm_I x1, mm_I x2, mm_I x3] z (some (mm_I (pX4_within x1 x2 x3)), z) := ⟨Nat.le_of_ble_eq_true rfl, 1, (qX4_within_0 0 x1 x2 x3 z).trans (mm_if (fun v => some (some (mm_I v), z)) rfl (mm_if (fun v => some (some (mm_I v), z)) rfl rfl))⟩
noncomputable def clo_X4_within (as : List mm_V) (z : mm_S) (kk : Option mm_V → mm_S → Option mm_R) : Option mm_R := mm_pi as fun a0 as => mm_pi as fun a1 as => mm_pi as fun a2 as => (match as with | [] => kk (some (mm_I (pX4_within a0 a1 a2))) z | _ => none)
theorem cs_X4_within : mm_cs lyTM 22 22 17 f_X4_within clo_X4_within := by
  intro as z K o hk h
  obtain ⟨a0, r0, rfl, g0⟩ := mm_pi_e h
  obtain ⟨a1, r1, rfl, g1⟩ := mm_pi_e g0
  obtain ⟨a2, r2, rfl, g2⟩ := mm_pi_e g1
  rcases r2 with _ | ⟨u, w⟩
  rotate_left
  · cases g2
  exact ⟨_, _, sp_X4_within a0 a1 a2 z hk, fun v hv => by cases hv; exact Or.inl ⟨_, rfl⟩, g2⟩
theorem sS_X4_within {own : String} {R : Room} {ar : Nat → Nat} {k : Nat} (hlink : Cond.methodLink own k yX4_within ∈ lw_gd ∨ ∃ host, (own, k, yX4_within, host) ∈ nmA) (har : ar k = 3) (hr : 1 ≤ R.frames ∧ 22 ≤ R.locals) : mm_okS lyTM lyFA lenM snM 22 22 17 roM rsA nfA nmA [] own R ar k clo_X4_within :=
  Or.inl ⟨yX4_within, cX4_within, 3, some .boolean, rm_X4_within, f_X4_within, M_X4_within, cs_X4_within, hlink, ⟨ws_X4_within, wi_X4_within, wc_X4_within⟩, ⟨by decide +kernel, by decide +kernel, by rw [har]; decide +kernel⟩, ⟨rfl, rfl, hr.1, hr.2⟩⟩
-- X4_become
noncomputable def lV_X4_become : List (Nat × (List mm_V → mm_S → (Option mm_V → mm_S → Option mm_R) → Option mm_R)) := []
noncomputable def mV_X4_become (k : Nat) (as : List mm_V) (z : mm_S) (kk : Option mm_V → mm_S → Option mm_R) : Option mm_R := match mm_at lV_X4_become k with
  | some f => f as z kk
  | none => none
noncomputable def arV_X4_become (k : Nat) : Nat := (mm_at [] k).getD 0
noncomputable def lS_X4_become : List (Nat × (List mm_V → mm_S → (Option mm_V → mm_S → Option mm_R) → Option mm_R)) := []
noncomputable def mS_X4_become (k : Nat) (as : List mm_V) (z : mm_S) (kk : Option mm_V → mm_S → Option mm_R) : Option mm_R := match mm_at lS_X4_become k with
  | some f => f as z kk
  | none => none
noncomputable def arS_X4_become (k : Nat) : Nat := (mm_at [] k).getD 0
def ct_X4_become : List (Nat × List Nat) := [(14, [3])]
noncomputable def go_X4_become : Nat → mm_K := mm_go (fun k => mm_at flX4 k) (fun k => mm_at clX4 k) (fun k => mm_at glX4 k) arV_X4_become arS_X4_become mV_X4_become mS_X4_become lenM roM snM 4 0 tbX4_become ct_X4_become
noncomputable def eX4_become_0 (n : Nat)  (x1 : Int32) (x2 : Int32) (z : mm_S) : Option mm_R := go_X4_become n 0 [(0, mm_P 4 0), (1, mm_I x1), (2, mm_I x2)] [] z
noncomputable def eX4_become_14 (n : Nat) (y3 : Int32) (z : mm_S) : Option mm_R := go_X4_become n 14 [(3, mm_I y3)] [] z
set_option maxRecDepth 100000 in
theorem qX4_become_0 (n : Nat)  (x1 : Int32) (x2 : Int32) (z : mm_S) : eX4_become_0 (n + 1) x1 x2 z = (if x1 < 0 ∨ 97 ≤ Int32.toNatClampNeg x1 then none else if x1 < 0 ∨ 97 ≤ Int32.toNatClampNeg x1 then none else eX4_become_14 n (z.1 1 (Int32.toNatClampNeg x1)) ((mm_ui z.1 1 (Int32.toNatClampNeg x1) x2), z.2)) := rfl
set_option maxRecDepth 100000 in
theorem qX4_become_14 (n : Nat) (y3 : Int32) (z : mm_S) : eX4_become_14 (n + 1) y3 z = (some (some (mm_I y3), z)) := rfl
def rm_X4_become : Room := { frames := 0, cells := 0, slots := 0, locals := 0 }
noncomputable def f_X4_become (as : List mm_V) (z : mm_S) (o : mm_R) : Prop := (as.map mm_cat).sum ≤ 4 ∧ ∃ n, go_X4_become n 0 (mm_ar 0 as) [] z = some o
theorem M_X4_become : mm_M lyTM lyFA lenM snM 22 22 17 roM rsA nfA nmA [] yX4_become cX4_become 4 (some .int) rm_X4_become f_X4_become :=
  mm_met (rt := 0) (by decide +kernel) ⟨fun h => rfl, fun h => absurd h (by decide), fun h => absurd h (by decide), fun h => absurd h (by decide)⟩ tbX4_become_ok hsnM okFX4 okLX4 (fun _ h => absurd h List.not_mem_nil) (fun _ _ _ _ => rfl) (fun _ _ _ _ => rfl) (fun _ h => absurd h List.not_mem_nil) (fun _ h => absurd h List.not_mem_nil)
noncomputable def sX4_become_14 (y3 : Int32) (z : mm_S) : Option (Int32 × mm_S) := some (y3, z)
theorem kX4_become_14 (y3 : Int32) (z : mm_S) (oo : mm_R) : mm_Xs (sX4_become_14 y3 z) (fun v => (fun v : Int32 × mm_S => ((some (mm_I v.1), v.2) : mm_R)) v = oo) (fun n => eX4_become_14 n y3 z) oo :=
  xs_row (fun n => qX4_become_14 n y3 z) (xs_v fun hc => ⟨0, congrArg some hc⟩)
noncomputable def sX4_become_0 (x1 : Int32) (x2 : Int32) (z : mm_S) : Option (Int32 × mm_S) := if x1 < 0 ∨ 97 ≤ Int32.toNatClampNeg x1 then none else if x1 < 0 ∨ 97 ≤ Int32.toNatClampNeg x1 then none else (sX4_become_14 (z.1 1 (Int32.toNatClampNeg x1)) ((mm_ui z.1 1 (Int32.toNatClampNeg x1) x2), z.2))
theorem kX4_become_0 (x1 : Int32) (x2 : Int32) (z : mm_S) (oo : mm_R) : mm_Xs (sX4_become_0 x1 x2 z) (fun v => (fun v : Int32 × mm_S => ((some (mm_I v.1), v.2) : mm_R)) v = oo) (fun n => eX4_become_0 n x1 x2 z) oo :=
  xs_row (fun n => qX4_become_0 n x1 x2 z) (xs_if xs_n (xs_if xs_n (kX4_become_14 (z.1 1 (Int32.toNatClampNeg x1)) ((mm_ui z.1 1 (Int32.toNatClampNeg x1) x2), z.2) oo)))
noncomputable def sX4_become (x1 : Int32) (x2 : Int32) (z : mm_S) : Option (Int32 × mm_S) := sX4_become_0 x1 x2 z
theorem sp_X4_become (x1 : Int32) (x2 : Int32) (z : mm_S) (hk : ∀ v ∈ [mm_P 4 0, mm_I x1, mm_I x2], mm_ok 22 lyTM 22 17 v) (q : Int32 × mm_S) (hq : sX4_become x1 x2 z = some q) : f_X4_become [mm_P 4 0, mm_I x1, mm_I x2] z (some (mm_I q.1), q.2) := ⟨Nat.le_of_ble_eq_true rfl, kX4_become_0 x1 x2 z _ q hq rfl⟩
noncomputable def clo_X4_become (as : List mm_V) (z : mm_S) (kk : Option mm_V → mm_S → Option mm_R) : Option mm_R := mm_pr as fun t o0 as => bif Nat.beq t 4 then mm_pi as fun a1 as => mm_pi as fun a2 as => (match as with | [] => (sX4_become a1 a2 z).bind fun q => kk (some (mm_I q.1)) q.2 | _ => none) else none
theorem cs_X4_become : mm_cs lyTM 22 22 17 f_X4_become clo_X4_become := by
  intro as z K o hk h
  obtain ⟨t0, o0, r0, rfl, g0⟩ := mm_pr_e h
  obtain ⟨b0, k0⟩ := mm_bif_e g0
  obtain rfl := Nat.eq_of_beq_eq_true b0
  obtain ⟨a1, r1, rfl, g1⟩ := mm_pi_e k0
  obtain ⟨a2, r2, rfl, g2⟩ := mm_pi_e g1
  rcases r2 with _ | ⟨u, w⟩
  rotate_left
  · cases g2
  obtain rfl : o0 = 0 := ok4 (hk (mm_P 4 o0) (by simp))
  obtain ⟨q, hq, hq2⟩ := Option.bind_eq_some_iff.mp g2
  exact ⟨_, _, sp_X4_become a1 a2 z hk q hq, fun v hv => by cases hv; exact Or.inl ⟨_, rfl⟩, hq2⟩
theorem sV_X4_become {own : String} {R : Room} {ar : Nat → Nat} {k : Nat} (hlink : Cond.methodLink own k yX4_become ∈ lw_gd ∨ ∃ host, (own, k, yX4_become, host) ∈ nmA) (har : ar k = 3) (hr : 1 ≤ R.frames ∧ 23 ≤ R.locals) : mm_okV lyTM lyFA lenM snM 22 22 17 roM rsA nfA nmA [] own R ar k clo_X4_become := by
  refine ⟨yX4_become, cX4_become, 4, some .int, rm_X4_become, f_X4_become, 4, 2, (RX4, TX4, 36), M_X4_become, cs_X4_become, hlink, ⟨wv_X4_become, wz_X4_become, wi_X4_become, wc_X4_become⟩, ⟨by decide +kernel, by decide +kernel, by decide +kernel⟩, har, ⟨rfl, rfl, by decide⟩, ?_, ⟨rfl, rfl, hr.1, hr.2⟩⟩
  intro as z K o h
  obtain ⟨t0, o0, r0, rfl, g0⟩ := mm_pr_e h
  obtain ⟨b0, k0⟩ := mm_bif_e g0
  obtain rfl := Nat.eq_of_beq_eq_true b0
  exact ⟨_, _, rfl⟩
-- X4_copyRow
noncomputable def lV_X4_copyRow : List (Nat × (List mm_V → mm_S → (Option mm_V → mm_S → Option mm_R) → Option mm_R)) := []
noncomputable def mV_X4_copyRow (k : Nat) (as : List mm_V) (z : mm_S) (kk : Option mm_V → mm_S → Option mm_R) : Option mm_R := match mm_at lV_X4_copyRow k with
  | some f => f as z kk
  | none => none
noncomputable def arV_X4_copyRow (k : Nat) : Nat := (mm_at [] k).getD 0
noncomputable def lS_X4_copyRow : List (Nat × (List mm_V → mm_S → (Option mm_V → mm_S → Option mm_R) → Option mm_R)) := []
noncomputable def mS_X4_copyRow (k : Nat) (as : List mm_V) (z : mm_S) (kk : Option mm_V → mm_S → Option mm_R) : Option mm_R := match mm_at lS_X4_copyRow k with
  | some f => f as z kk
  | none => none
noncomputable def arS_X4_copyRow (k : Nat) : Nat := (mm_at [] k).getD 0
def ct_X4_copyRow : List (Nat × List Nat) := [(2, [0, 1, 2]), (14, [0, 1, 2])]
noncomputable def go_X4_copyRow : Nat → mm_K := mm_go (fun k => mm_at flX4 k) (fun k => mm_at clX4 k) (fun k => mm_at glX4 k) arV_X4_copyRow arS_X4_copyRow mV_X4_copyRow mS_X4_copyRow lenM roM snM 3 3 tbX4_copyRow ct_X4_copyRow
noncomputable def eX4_copyRow_0 (n : Nat) (x1 : Nat) (x2 : Nat) (z : mm_S) : Option mm_R := go_X4_copyRow n 0 [(0, mm_P 10 x1), (1, mm_P 10 x2)] [] z
noncomputable def eX4_copyRow_2 (n : Nat) (y0 : Nat) (y1 : Nat) (y2 : Int32) (z : mm_S) : Option mm_R := go_X4_copyRow n 2 [(0, mm_P 10 y0), (1, mm_P 10 y1), (2, mm_I y2)] [] z
noncomputable def eX4_copyRow_14 (n : Nat) (y0 : Nat) (y1 : Nat) (y2 : Int32) (z : mm_S) : Option mm_R := go_X4_copyRow n 14 [(0, mm_P 10 y0), (1, mm_P 10 y1), (2, mm_I y2)] [] z
set_option maxRecDepth 100000 in
theorem qX4_copyRow_0 (n : Nat) (x1 : Nat) (x2 : Nat) (z : mm_S) : eX4_copyRow_0 (n + 1) x1 x2 z = (eX4_copyRow_2 n x1 x2 0 z) := rfl
set_option maxRecDepth 100000 in
theorem qX4_copyRow_2 (n : Nat) (y0 : Nat) (y1 : Nat) (y2 : Int32) (z : mm_S) : eX4_copyRow_2 (n + 1) y0 y1 y2 z = (if 97 ≤ y2 then some (none, z) else if y2 < 0 ∨ lenM y0 ≤ Int32.toNatClampNeg y2 then none else if y2 < 0 ∨ lenM y1 ≤ Int32.toNatClampNeg y2 then none else let u1 : mm_S := ((mm_ui z.1 y1 (Int32.toNatClampNeg y2) (z.1 y0 (Int32.toNatClampNeg y2))), z.2); eX4_copyRow_14 n y0 y1 y2 u1) := rfl
set_option maxRecDepth 100000 in
theorem qX4_copyRow_14 (n : Nat) (y0 : Nat) (y1 : Nat) (y2 : Int32) (z : mm_S) : eX4_copyRow_14 (n + 1) y0 y1 y2 z = (eX4_copyRow_2 n y0 y1 (y2 + 1) z) := rfl
def rm_X4_copyRow : Room := { frames := 0, cells := 0, slots := 0, locals := 0 }
noncomputable def f_X4_copyRow (as : List mm_V) (z : mm_S) (o : mm_R) : Prop := (as.map mm_cat).sum ≤ 3 ∧ ∃ n, go_X4_copyRow n 0 (mm_ar 0 as) [] z = some o
theorem M_X4_copyRow : mm_M lyTM lyFA lenM snM 22 22 17 roM rsA nfA nmA [] yX4_copyRow cX4_copyRow 3 (none) rm_X4_copyRow f_X4_copyRow :=
  mm_met (rt := 3) (by decide +kernel) ⟨fun h => absurd h (by decide), fun h => absurd h (by decide), fun h => absurd h (by decide), fun h => rfl⟩ tbX4_copyRow_ok hsnM okFX4 okLX4 (fun _ h => absurd h List.not_mem_nil) (fun _ _ _ _ => rfl) (fun _ _ _ _ => rfl) (fun _ h => absurd h List.not_mem_nil) (fun _ h => absurd h List.not_mem_nil)
noncomputable def sX4_copyRow_14 (y0 : Nat) (y1 : Nat) (y2 : Int32) (z : mm_S) : Option ((Nat × Nat × Int32 × mm_S) ⊕ (mm_S)) := some (.inl (y0, y1, (y2 + 1), z))
theorem kX4_copyRow_14 (y0 : Nat) (y1 : Nat) (y2 : Int32) (z : mm_S) (oo : mm_R) : mm_Xs (sX4_copyRow_14 y0 y1 y2 z) (mm_mt (fun x : Nat × Nat × Int32 × mm_S => ∃ n, eX4_copyRow_2 n x.1 x.2.1 x.2.2.1 x.2.2.2 = some oo) (fun v => (fun v : mm_S => ((none, v) : mm_R)) v = oo)) (fun n => eX4_copyRow_14 n y0 y1 y2 z) oo :=
  xs_row (fun n => qX4_copyRow_14 n y0 y1 y2 z) (xs_v fun hc => hc)
noncomputable def lX4_copyRow_2 (s : Nat × Nat × Int32 × mm_S) : Option ((Nat × Nat × Int32 × mm_S) ⊕ (mm_S)) := if 97 ≤ s.2.2.1 then some (.inr (s.2.2.2)) else if s.2.2.1 < 0 ∨ lenM s.1 ≤ Int32.toNatClampNeg s.2.2.1 then none else if s.2.2.1 < 0 ∨ lenM s.2.1 ≤ Int32.toNatClampNeg s.2.2.1 then none else let u1 : mm_S := ((mm_ui s.2.2.2.1 s.2.1 (Int32.toNatClampNeg s.2.2.1) (s.2.2.2.1 s.1 (Int32.toNatClampNeg s.2.2.1))), s.2.2.2.2); (sX4_copyRow_14 s.1 s.2.1 s.2.2.1 u1)
noncomputable def sX4_copyRow_2 (y0 : Nat) (y1 : Nat) (y2 : Int32) (z : mm_S) : Option (mm_S) := mm_wh (lX4_copyRow_2 ) mm_fu (y0, y1, y2, z)
theorem kX4_copyRow_2 (y0 : Nat) (y1 : Nat) (y2 : Int32) (z : mm_S) (oo : mm_R) : mm_Xs (sX4_copyRow_2 y0 y1 y2 z) (fun v => (fun v : mm_S => ((none, v) : mm_R)) v = oo) (fun n => eX4_copyRow_2 n y0 y1 y2 z) oo :=
  xs_wh (stp := lX4_copyRow_2 ) (o := oo) (E := (fun (s : Nat × Nat × Int32 × mm_S) n => eX4_copyRow_2 n s.1 s.2.1 s.2.2.1 s.2.2.2)) (C := (fun v => (fun v : mm_S => ((none, v) : mm_R)) v = oo)) (fun s => xs_row (fun n => qX4_copyRow_2 n s.1 s.2.1 s.2.2.1 s.2.2.2) (xs_if (xs_v fun hc => ⟨0, congrArg some hc⟩) (xs_if xs_n (xs_if xs_n (let u1 : mm_S := ((mm_ui s.2.2.2.1 s.2.1 (Int32.toNatClampNeg s.2.2.1) (s.2.2.2.1 s.1 (Int32.toNatClampNeg s.2.2.1))), s.2.2.2.2); (kX4_copyRow_14 s.1 s.2.1 s.2.2.1 u1 oo)))))) mm_fu (y0, y1, y2, z)
noncomputable def sX4_copyRow_0 (x1 : Nat) (x2 : Nat) (z : mm_S) : Option (mm_S) := (sX4_copyRow_2 x1 x2 0 z)
theorem kX4_copyRow_0 (x1 : Nat) (x2 : Nat) (z : mm_S) (oo : mm_R) : mm_Xs (sX4_copyRow_0 x1 x2 z) (fun v => (fun v : mm_S => ((none, v) : mm_R)) v = oo) (fun n => eX4_copyRow_0 n x1 x2 z) oo :=
  xs_row (fun n => qX4_copyRow_0 n x1 x2 z) (kX4_copyRow_2 x1 x2 0 z oo)
noncomputable def sX4_copyRow (x1 : Nat) (x2 : Nat) (z : mm_S) : Option (mm_S) := sX4_copyRow_0 x1 x2 z
theorem sp_X4_copyRow (x1 : Nat) (x2 : Nat) (z : mm_S) (hk : ∀ v ∈ [mm_P 10 x1, mm_P 10 x2], mm_ok 22 lyTM 22 17 v) (q : mm_S) (hq : sX4_copyRow x1 x2 z = some q) : f_X4_copyRow [mm_P 10 x1, mm_P 10 x2] z (none, q) := ⟨Nat.le_of_ble_eq_true rfl, kX4_copyRow_0 x1 x2 z _ q hq rfl⟩
noncomputable def clo_X4_copyRow (as : List mm_V) (z : mm_S) (kk : Option mm_V → mm_S → Option mm_R) : Option mm_R := mm_pr as fun t o0 as => bif Nat.beq t 10 then mm_pr as fun t o1 as => bif Nat.beq t 10 then (match as with | [] => (sX4_copyRow o0 o1 z).bind fun q => kk none q | _ => none) else none else none
theorem cs_X4_copyRow : mm_cs lyTM 22 22 17 f_X4_copyRow clo_X4_copyRow := by
  intro as z K o hk h
  obtain ⟨t0, o0, r0, rfl, g0⟩ := mm_pr_e h
  obtain ⟨b0, k0⟩ := mm_bif_e g0
  obtain rfl := Nat.eq_of_beq_eq_true b0
  obtain ⟨t1, o1, r1, rfl, g1⟩ := mm_pr_e k0
  obtain ⟨b1, k1⟩ := mm_bif_e g1
  obtain rfl := Nat.eq_of_beq_eq_true b1
  rcases r1 with _ | ⟨u, w⟩
  rotate_left
  · cases k1
  obtain ⟨q, hq, hq2⟩ := Option.bind_eq_some_iff.mp k1
  exact ⟨_, _, sp_X4_copyRow o0 o1 z hk q hq, (fun v hv => by cases hv), hq2⟩
theorem sS_X4_copyRow {own : String} {R : Room} {ar : Nat → Nat} {k : Nat} (hlink : Cond.methodLink own k yX4_copyRow ∈ lw_gd ∨ ∃ host, (own, k, yX4_copyRow, host) ∈ nmA) (har : ar k = 2) (hr : 1 ≤ R.frames ∧ 22 ≤ R.locals) : mm_okS lyTM lyFA lenM snM 22 22 17 roM rsA nfA nmA [] own R ar k clo_X4_copyRow :=
  Or.inl ⟨yX4_copyRow, cX4_copyRow, 3, none, rm_X4_copyRow, f_X4_copyRow, M_X4_copyRow, cs_X4_copyRow, hlink, ⟨ws_X4_copyRow, wi_X4_copyRow, wc_X4_copyRow⟩, ⟨by decide +kernel, by decide +kernel, by rw [har]; decide +kernel⟩, ⟨rfl, rfl, hr.1, hr.2⟩⟩
-- X4_putBack
noncomputable def lV_X4_putBack : List (Nat × (List mm_V → mm_S → (Option mm_V → mm_S → Option mm_R) → Option mm_R)) := []
noncomputable def mV_X4_putBack (k : Nat) (as : List mm_V) (z : mm_S) (kk : Option mm_V → mm_S → Option mm_R) : Option mm_R := match mm_at lV_X4_putBack k with
  | some f => f as z kk
  | none => none
noncomputable def arV_X4_putBack (k : Nat) : Nat := (mm_at [] k).getD 0
noncomputable def lS_X4_putBack : List (Nat × (List mm_V → mm_S → (Option mm_V → mm_S → Option mm_R) → Option mm_R)) := [(102, clo_X4_copyRow)]
noncomputable def mS_X4_putBack (k : Nat) (as : List mm_V) (z : mm_S) (kk : Option mm_V → mm_S → Option mm_R) : Option mm_R := match mm_at lS_X4_putBack k with
  | some f => f as z kk
  | none => none
noncomputable def arS_X4_putBack (k : Nat) : Nat := (mm_at [(102, 2)] k).getD 0
def ct_X4_putBack : List (Nat × List Nat) := [(11, [1])]
noncomputable def go_X4_putBack : Nat → mm_K := mm_go (fun k => mm_at flX4 k) (fun k => mm_at clX4 k) (fun k => mm_at glX4 k) arV_X4_putBack arS_X4_putBack mV_X4_putBack mS_X4_putBack lenM roM snM 2 0 tbX4_putBack ct_X4_putBack
noncomputable def eX4_putBack_0 (n : Nat)  (x1 : Int32) (z : mm_S) : Option mm_R := go_X4_putBack n 0 [(0, mm_P 4 0), (1, mm_I x1)] [] z
noncomputable def eX4_putBack_11 (n : Nat) (y1 : Int32) (z : mm_S) : Option mm_R := go_X4_putBack n 11 [(1, mm_I y1)] [] z
set_option maxRecDepth 100000 in
theorem qX4_putBack_0 (n : Nat)  (x1 : Int32) (z : mm_S) : eX4_putBack_0 (n + 1) x1 z = ((sX4_copyRow 3 1 z).bind fun q1 => eX4_putBack_11 n x1 q1) := rfl
set_option maxRecDepth 100000 in
theorem qX4_putBack_11 (n : Nat) (y1 : Int32) (z : mm_S) : eX4_putBack_11 (n + 1) y1 z = (some (some (mm_I y1), z)) := rfl
def rm_X4_putBack : Room := { frames := 1, cells := 0, slots := 0, locals := 22 }
noncomputable def f_X4_putBack (as : List mm_V) (z : mm_S) (o : mm_R) : Prop := (as.map mm_cat).sum ≤ 2 ∧ ∃ n, go_X4_putBack n 0 (mm_ar 0 as) [] z = some o
theorem M_X4_putBack : mm_M lyTM lyFA lenM snM 22 22 17 roM rsA nfA nmA [] yX4_putBack cX4_putBack 2 (some .int) rm_X4_putBack f_X4_putBack :=
  mm_met (rt := 0) (by decide +kernel) ⟨fun h => rfl, fun h => absurd h (by decide), fun h => absurd h (by decide), fun h => absurd h (by decide)⟩ tbX4_putBack_ok hsnM okFX4 okLX4 (fun _ h => absurd h List.not_mem_nil) (fun _ _ _ _ => rfl) (fun _ _ _ _ => rfl) (fun _ h => absurd h List.not_mem_nil) (List.forall_mem_cons.mpr ⟨sS_X4_copyRow (Or.inl lk_X4_102) rfl ⟨by decide, by decide⟩, fun _ h => absurd h List.not_mem_nil⟩)
noncomputable def sX4_putBack_11 (y1 : Int32) (z : mm_S) : Option (Int32 × mm_S) := some (y1, z)
theorem kX4_putBack_11 (y1 : Int32) (z : mm_S) (oo : mm_R) : mm_Xs (sX4_putBack_11 y1 z) (fun v => (fun v : Int32 × mm_S => ((some (mm_I v.1), v.2) : mm_R)) v = oo) (fun n => eX4_putBack_11 n y1 z) oo :=
  xs_row (fun n => qX4_putBack_11 n y1 z) (xs_v fun hc => ⟨0, congrArg some hc⟩)
noncomputable def sX4_putBack_0 (x1 : Int32) (z : mm_S) : Option (Int32 × mm_S) := (sX4_copyRow 3 1 z).bind fun q1 => (sX4_putBack_11 x1 q1)
theorem kX4_putBack_0 (x1 : Int32) (z : mm_S) (oo : mm_R) : mm_Xs (sX4_putBack_0 x1 z) (fun v => (fun v : Int32 × mm_S => ((some (mm_I v.1), v.2) : mm_R)) v = oo) (fun n => eX4_putBack_0 n x1 z) oo :=
  xs_row (fun n => qX4_putBack_0 n x1 z) (xs_bd fun q1 => (kX4_putBack_11 x1 q1 oo))
noncomputable def sX4_putBack (x1 : Int32) (z : mm_S) : Option (Int32 × mm_S) := sX4_putBack_0 x1 z
theorem sp_X4_putBack (x1 : Int32) (z : mm_S) (hk : ∀ v ∈ [mm_P 4 0, mm_I x1], mm_ok 22 lyTM 22 17 v) (q : Int32 × mm_S) (hq : sX4_putBack x1 z = some q) : f_X4_putBack [mm_P 4 0, mm_I x1] z (some (mm_I q.1), q.2) := ⟨Nat.le_of_ble_eq_true rfl, kX4_putBack_0 x1 z _ q hq rfl⟩
noncomputable def clo_X4_putBack (as : List mm_V) (z : mm_S) (kk : Option mm_V → mm_S → Option mm_R) : Option mm_R := mm_pr as fun t o0 as => bif Nat.beq t 4 then mm_pi as fun a1 as => (match as with | [] => (sX4_putBack a1 z).bind fun q => kk (some (mm_I q.1)) q.2 | _ => none) else none
theorem cs_X4_putBack : mm_cs lyTM 22 22 17 f_X4_putBack clo_X4_putBack := by
  intro as z K o hk h
  obtain ⟨t0, o0, r0, rfl, g0⟩ := mm_pr_e h
  obtain ⟨b0, k0⟩ := mm_bif_e g0
  obtain rfl := Nat.eq_of_beq_eq_true b0
  obtain ⟨a1, r1, rfl, g1⟩ := mm_pi_e k0
  rcases r1 with _ | ⟨u, w⟩
  rotate_left
  · cases g1
  obtain rfl : o0 = 0 := ok4 (hk (mm_P 4 o0) (by simp))
  obtain ⟨q, hq, hq2⟩ := Option.bind_eq_some_iff.mp g1
  exact ⟨_, _, sp_X4_putBack a1 z hk q hq, fun v hv => by cases hv; exact Or.inl ⟨_, rfl⟩, hq2⟩
theorem sV_X4_putBack {own : String} {R : Room} {ar : Nat → Nat} {k : Nat} (hlink : Cond.methodLink own k yX4_putBack ∈ lw_gd ∨ ∃ host, (own, k, yX4_putBack, host) ∈ nmA) (har : ar k = 2) (hr : 2 ≤ R.frames ∧ 43 ≤ R.locals) : mm_okV lyTM lyFA lenM snM 22 22 17 roM rsA nfA nmA [] own R ar k clo_X4_putBack := by
  refine ⟨yX4_putBack, cX4_putBack, 2, some .int, rm_X4_putBack, f_X4_putBack, 4, 1, (RX4, TX4, 36), M_X4_putBack, cs_X4_putBack, hlink, ⟨wv_X4_putBack, wz_X4_putBack, wi_X4_putBack, wc_X4_putBack⟩, ⟨by decide +kernel, by decide +kernel, by decide +kernel⟩, har, ⟨rfl, rfl, by decide⟩, ?_, ⟨rfl, rfl, hr.1, hr.2⟩⟩
  intro as z K o h
  obtain ⟨t0, o0, r0, rfl, g0⟩ := mm_pr_e h
  obtain ⟨b0, k0⟩ := mm_bif_e g0
  obtain rfl := Nat.eq_of_beq_eq_true b0
  exact ⟨_, _, rfl⟩
-- X4_bits
noncomputable def lV_X4_bits : List (Nat × (List mm_V → mm_S → (Option mm_V → mm_S → Option mm_R) → Option mm_R)) := []
noncomputable def mV_X4_bits (k : Nat) (as : List mm_V) (z : mm_S) (kk : Option mm_V → mm_S → Option mm_R) : Option mm_R := match mm_at lV_X4_bits k with
  | some f => f as z kk
  | none => none
noncomputable def arV_X4_bits (k : Nat) : Nat := (mm_at [] k).getD 0
noncomputable def lS_X4_bits : List (Nat × (List mm_V → mm_S → (Option mm_V → mm_S → Option mm_R) → Option mm_R)) := []
noncomputable def mS_X4_bits (k : Nat) (as : List mm_V) (z : mm_S) (kk : Option mm_V → mm_S → Option mm_R) : Option mm_R := match mm_at lS_X4_bits k with
  | some f => f as z kk
  | none => none
noncomputable def arS_X4_bits (k : Nat) : Nat := (mm_at [] k).getD 0
def ct_X4_bits : List (Nat × List Nat) := [(4, [2, 3])]
noncomputable def go_X4_bits : Nat → mm_K := mm_go (fun k => mm_at flX4 k) (fun k => mm_at clX4 k) (fun k => mm_at glX4 k) arV_X4_bits arS_X4_bits mV_X4_bits mS_X4_bits lenM roM snM 5 0 tbX4_bits ct_X4_bits
noncomputable def eX4_bits_0 (n : Nat) (x1 : Int64) (z : mm_S) : Option mm_R := go_X4_bits n 0 [(0, mm_J x1)] [] z
noncomputable def eX4_bits_4 (n : Nat) (y2 : Int32) (y3 : Int64) (z : mm_S) : Option mm_R := go_X4_bits n 4 [(2, mm_I y2), (3, mm_J y3)] [] z
set_option maxRecDepth 100000 in
theorem qX4_bits_0 (n : Nat) (x1 : Int64) (z : mm_S) : eX4_bits_0 (n + 1) x1 z = (eX4_bits_4 n 0 x1 z) := rfl
set_option maxRecDepth 100000 in
theorem qX4_bits_4 (n : Nat) (y2 : Int32) (y3 : Int64) (z : mm_S) : eX4_bits_4 (n + 1) y2 y3 z = (if (lg_cmp y3 0) = 0 then some (some (mm_I y2), z) else eX4_bits_4 n (y2 + 1) (y3 &&& (y3 - 1)) z) := rfl
def rm_X4_bits : Room := { frames := 0, cells := 0, slots := 0, locals := 0 }
noncomputable def f_X4_bits (as : List mm_V) (z : mm_S) (o : mm_R) : Prop := (as.map mm_cat).sum ≤ 5 ∧ ∃ n, go_X4_bits n 0 (mm_ar 0 as) [] z = some o
theorem M_X4_bits : mm_M lyTM lyFA lenM snM 22 22 17 roM rsA nfA nmA [] yX4_bits cX4_bits 5 (some .int) rm_X4_bits f_X4_bits :=
  mm_met (rt := 0) (by decide +kernel) ⟨fun h => rfl, fun h => absurd h (by decide), fun h => absurd h (by decide), fun h => absurd h (by decide)⟩ tbX4_bits_ok hsnM okFX4 okLX4 (fun _ h => absurd h List.not_mem_nil) (fun _ _ _ _ => rfl) (fun _ _ _ _ => rfl) (fun _ h => absurd h List.not_mem_nil) (fun _ h => absurd h List.not_mem_nil)
noncomputable def lX4_bits_4 (s : Int32 × Int64 × mm_S) : Option ((Int32 × Int64 × mm_S) ⊕ (Int32 × mm_S)) := if (lg_cmp s.2.1 0) = 0 then some (.inr (s.1, s.2.2)) else some (.inl ((s.1 + 1), (s.2.1 &&& (s.2.1 - 1)), s.2.2))
noncomputable def sX4_bits_4 (y2 : Int32) (y3 : Int64) (z : mm_S) : Option (Int32 × mm_S) := mm_wh (lX4_bits_4 ) mm_fu (y2, y3, z)
theorem kX4_bits_4 (y2 : Int32) (y3 : Int64) (z : mm_S) (oo : mm_R) : mm_Xs (sX4_bits_4 y2 y3 z) (fun v => (fun v : Int32 × mm_S => ((some (mm_I v.1), v.2) : mm_R)) v = oo) (fun n => eX4_bits_4 n y2 y3 z) oo :=
  xs_wh (stp := lX4_bits_4 ) (o := oo) (E := (fun (s : Int32 × Int64 × mm_S) n => eX4_bits_4 n s.1 s.2.1 s.2.2)) (C := (fun v => (fun v : Int32 × mm_S => ((some (mm_I v.1), v.2) : mm_R)) v = oo)) (fun s => xs_row (fun n => qX4_bits_4 n s.1 s.2.1 s.2.2) (xs_if (xs_v fun hc => ⟨0, congrArg some hc⟩) (xs_v fun hc => hc))) mm_fu (y2, y3, z)
noncomputable def sX4_bits_0 (x1 : Int64) (z : mm_S) : Option (Int32 × mm_S) := (sX4_bits_4 0 x1 z)
theorem kX4_bits_0 (x1 : Int64) (z : mm_S) (oo : mm_R) : mm_Xs (sX4_bits_0 x1 z) (fun v => (fun v : Int32 × mm_S => ((some (mm_I v.1), v.2) : mm_R)) v = oo) (fun n => eX4_bits_0 n x1 z) oo :=
  xs_row (fun n => qX4_bits_0 n x1 z) (kX4_bits_4 0 x1 z oo)
noncomputable def sX4_bits (x1 : Int64) (z : mm_S) : Option (Int32 × mm_S) := sX4_bits_0 x1 z
theorem sp_X4_bits (x1 : Int64) (z : mm_S) (hk : ∀ v ∈ [mm_J x1], mm_ok 22 lyTM 22 17 v) (q : Int32 × mm_S) (hq : sX4_bits x1 z = some q) : f_X4_bits [mm_J x1] z (some (mm_I q.1), q.2) := ⟨Nat.le_of_ble_eq_true rfl, kX4_bits_0 x1 z _ q hq rfl⟩
noncomputable def clo_X4_bits (as : List mm_V) (z : mm_S) (kk : Option mm_V → mm_S → Option mm_R) : Option mm_R := mm_pj as fun a0 as => (match as with | [] => (sX4_bits a0 z).bind fun q => kk (some (mm_I q.1)) q.2 | _ => none)
theorem cs_X4_bits : mm_cs lyTM 22 22 17 f_X4_bits clo_X4_bits := by
  intro as z K o hk h
  obtain ⟨a0, r0, rfl, g0⟩ := mm_pj_e h
  rcases r0 with _ | ⟨u, w⟩
  rotate_left
  · cases g0
  obtain ⟨q, hq, hq2⟩ := Option.bind_eq_some_iff.mp g0
  exact ⟨_, _, sp_X4_bits a0 z hk q hq, fun v hv => by cases hv; exact Or.inl ⟨_, rfl⟩, hq2⟩
theorem sS_X4_bits {own : String} {R : Room} {ar : Nat → Nat} {k : Nat} (hlink : Cond.methodLink own k yX4_bits ∈ lw_gd ∨ ∃ host, (own, k, yX4_bits, host) ∈ nmA) (har : ar k = 1) (hr : 1 ≤ R.frames ∧ 24 ≤ R.locals) : mm_okS lyTM lyFA lenM snM 22 22 17 roM rsA nfA nmA [] own R ar k clo_X4_bits :=
  Or.inl ⟨yX4_bits, cX4_bits, 5, some .int, rm_X4_bits, f_X4_bits, M_X4_bits, cs_X4_bits, hlink, ⟨ws_X4_bits, wi_X4_bits, wc_X4_bits⟩, ⟨by decide +kernel, by decide +kernel, by rw [har]; decide +kernel⟩, ⟨rfl, rfl, hr.1, hr.2⟩⟩
-- X4_isCell
noncomputable def lV_X4_isCell : List (Nat × (List mm_V → mm_S → (Option mm_V → mm_S → Option mm_R) → Option mm_R)) := []
noncomputable def mV_X4_isCell (k : Nat) (as : List mm_V) (z : mm_S) (kk : Option mm_V → mm_S → Option mm_R) : Option mm_R := match mm_at lV_X4_isCell k with
  | some f => f as z kk
  | none => none
noncomputable def arV_X4_isCell (k : Nat) : Nat := (mm_at [] k).getD 0
noncomputable def lS_X4_isCell : List (Nat × (List mm_V → mm_S → (Option mm_V → mm_S → Option mm_R) → Option mm_R)) := [(106, clo_X4_within)]
noncomputable def mS_X4_isCell (k : Nat) (as : List mm_V) (z : mm_S) (kk : Option mm_V → mm_S → Option mm_R) : Option mm_R := match mm_at lS_X4_isCell k with
  | some f => f as z kk
  | none => none
noncomputable def arS_X4_isCell (k : Nat) : Nat := (mm_at [(106, 3)] k).getD 0
def ct_X4_isCell : List (Nat × List Nat) := []
noncomputable def go_X4_isCell : Nat → mm_K := mm_go (fun k => mm_at flX4 k) (fun k => mm_at clX4 k) (fun k => mm_at glX4 k) arV_X4_isCell arS_X4_isCell mV_X4_isCell mS_X4_isCell lenM roM snM 1 1 tbX4_isCell ct_X4_isCell
noncomputable def eX4_isCell_0 (n : Nat) (x1 : Int32) (z : mm_S) : Option mm_R := go_X4_isCell n 0 [(0, mm_I x1)] [] z
set_option maxRecDepth 100000 in
theorem qX4_isCell_0 (n : Nat) (x1 : Int32) (z : mm_S) : eX4_isCell_0 (n + 1) x1 z = (mm_rt 1 (pX4_within x1 0 35) z) := rfl
def rm_X4_isCell : Room := { frames := 1, cells := 0, slots := 0, locals := 22 }
noncomputable def f_X4_isCell (as : List mm_V) (z : mm_S) (o : mm_R) : Prop := (as.map mm_cat).sum ≤ 1 ∧ ∃ n, go_X4_isCell n 0 (mm_ar 0 as) [] z = some o
theorem M_X4_isCell : mm_M lyTM lyFA lenM snM 22 22 17 roM rsA nfA nmA [] yX4_isCell cX4_isCell 1 (some .boolean) rm_X4_isCell f_X4_isCell :=
  mm_met (rt := 1) (by decide +kernel) ⟨fun h => absurd h (by decide), fun h => rfl, fun h => absurd h (by decide), fun h => absurd h (by decide)⟩ tbX4_isCell_ok hsnM okFX4 okLX4 (fun _ h => absurd h List.not_mem_nil) (fun _ _ _ _ => rfl) (fun _ _ _ _ => rfl) (fun _ h => absurd h List.not_mem_nil) (List.forall_mem_cons.mpr ⟨sS_X4_within (Or.inl lk_X4_106) rfl ⟨by decide, by decide⟩, fun _ h => absurd h List.not_mem_nil⟩)
noncomputable def pX4_isCell (x1 : Int32) : Int32 := (pX4_within x1 0 35)
theorem z1_X4_isCell (x1 : Int32) : pX4_isCell x1 = 0 ∨ pX4_isCell x1 = 1 := (z1_X4_within x1 0 35)
theorem sp_X4_isCell (x1 : Int32) (z : mm_S) (_ : ∀ v ∈ [mm_I x1], mm_ok 22 lyTM 22 17 v) : f_X4_isCell [mm_I x1] z (some (mm_I (pX4_isCell x1)), z) := ⟨Nat.le_of_ble_eq_true rfl, 1, (qX4_isCell_0 0 x1 z).trans (mm_rt1 z (z1_X4_within x1 0 35))⟩
noncomputable def clo_X4_isCell (as : List mm_V) (z : mm_S) (kk : Option mm_V → mm_S → Option mm_R) : Option mm_R := mm_pi as fun a0 as => (match as with | [] => kk (some (mm_I (pX4_isCell a0))) z | _ => none)
theorem cs_X4_isCell : mm_cs lyTM 22 22 17 f_X4_isCell clo_X4_isCell := by
  intro as z K o hk h
  obtain ⟨a0, r0, rfl, g0⟩ := mm_pi_e h
  rcases r0 with _ | ⟨u, w⟩
  rotate_left
  · cases g0
  exact ⟨_, _, sp_X4_isCell a0 z hk, fun v hv => by cases hv; exact Or.inl ⟨_, rfl⟩, g0⟩
theorem sS_X4_isCell {own : String} {R : Room} {ar : Nat → Nat} {k : Nat} (hlink : Cond.methodLink own k yX4_isCell ∈ lw_gd ∨ ∃ host, (own, k, yX4_isCell, host) ∈ nmA) (har : ar k = 1) (hr : 2 ≤ R.frames ∧ 42 ≤ R.locals) : mm_okS lyTM lyFA lenM snM 22 22 17 roM rsA nfA nmA [] own R ar k clo_X4_isCell :=
  Or.inl ⟨yX4_isCell, cX4_isCell, 1, some .boolean, rm_X4_isCell, f_X4_isCell, M_X4_isCell, cs_X4_isCell, hlink, ⟨ws_X4_isCell, wi_X4_isCell, wc_X4_isCell⟩, ⟨by decide +kernel, by decide +kernel, by rw [har]; decide +kernel⟩, ⟨rfl, rfl, hr.1, hr.2⟩⟩
-- X4_isStuff
noncomputable def lV_X4_isStuff : List (Nat × (List mm_V → mm_S → (Option mm_V → mm_S → Option mm_R) → Option mm_R)) := []
noncomputable def mV_X4_isStuff (k : Nat) (as : List mm_V) (z : mm_S) (kk : Option mm_V → mm_S → Option mm_R) : Option mm_R := match mm_at lV_X4_isStuff k with
  | some f => f as z kk
  | none => none
noncomputable def arV_X4_isStuff (k : Nat) : Nat := (mm_at [] k).getD 0
noncomputable def lS_X4_isStuff : List (Nat × (List mm_V → mm_S → (Option mm_V → mm_S → Option mm_R) → Option mm_R)) := [(106, clo_X4_within)]
noncomputable def mS_X4_isStuff (k : Nat) (as : List mm_V) (z : mm_S) (kk : Option mm_V → mm_S → Option mm_R) : Option mm_R := match mm_at lS_X4_isStuff k with
  | some f => f as z kk
  | none => none
noncomputable def arS_X4_isStuff (k : Nat) : Nat := (mm_at [(106, 3)] k).getD 0
def ct_X4_isStuff : List (Nat × List Nat) := []
noncomputable def go_X4_isStuff : Nat → mm_K := mm_go (fun k => mm_at flX4 k) (fun k => mm_at clX4 k) (fun k => mm_at glX4 k) arV_X4_isStuff arS_X4_isStuff mV_X4_isStuff mS_X4_isStuff lenM roM snM 1 1 tbX4_isStuff ct_X4_isStuff
noncomputable def eX4_isStuff_0 (n : Nat) (x1 : Int32) (z : mm_S) : Option mm_R := go_X4_isStuff n 0 [(0, mm_I x1)] [] z
set_option maxRecDepth 100000 in
theorem qX4_isStuff_0 (n : Nat) (x1 : Int32) (z : mm_S) : eX4_isStuff_0 (n + 1) x1 z = (mm_rt 1 (pX4_within x1 0 4) z) := rfl
def rm_X4_isStuff : Room := { frames := 1, cells := 0, slots := 0, locals := 22 }
noncomputable def f_X4_isStuff (as : List mm_V) (z : mm_S) (o : mm_R) : Prop := (as.map mm_cat).sum ≤ 1 ∧ ∃ n, go_X4_isStuff n 0 (mm_ar 0 as) [] z = some o
theorem M_X4_isStuff : mm_M lyTM lyFA lenM snM 22 22 17 roM rsA nfA nmA [] yX4_isStuff cX4_isStuff 1 (some .boolean) rm_X4_isStuff f_X4_isStuff :=
  mm_met (rt := 1) (by decide +kernel) ⟨fun h => absurd h (by decide), fun h => rfl, fun h => absurd h (by decide), fun h => absurd h (by decide)⟩ tbX4_isStuff_ok hsnM okFX4 okLX4 (fun _ h => absurd h List.not_mem_nil) (fun _ _ _ _ => rfl) (fun _ _ _ _ => rfl) (fun _ h => absurd h List.not_mem_nil) (List.forall_mem_cons.mpr ⟨sS_X4_within (Or.inl lk_X4_106) rfl ⟨by decide, by decide⟩, fun _ h => absurd h List.not_mem_nil⟩)
noncomputable def pX4_isStuff (x1 : Int32) : Int32 := (pX4_within x1 0 4)
theorem z1_X4_isStuff (x1 : Int32) : pX4_isStuff x1 = 0 ∨ pX4_isStuff x1 = 1 := (z1_X4_within x1 0 4)
theorem sp_X4_isStuff (x1 : Int32) (z : mm_S) (_ : ∀ v ∈ [mm_I x1], mm_ok 22 lyTM 22 17 v) : f_X4_isStuff [mm_I x1] z (some (mm_I (pX4_isStuff x1)), z) := ⟨Nat.le_of_ble_eq_true rfl, 1, (qX4_isStuff_0 0 x1 z).trans (mm_rt1 z (z1_X4_within x1 0 4))⟩
noncomputable def clo_X4_isStuff (as : List mm_V) (z : mm_S) (kk : Option mm_V → mm_S → Option mm_R) : Option mm_R := mm_pi as fun a0 as => (match as with | [] => kk (some (mm_I (pX4_isStuff a0))) z | _ => none)
theorem cs_X4_isStuff : mm_cs lyTM 22 22 17 f_X4_isStuff clo_X4_isStuff := by
  intro as z K o hk h
  obtain ⟨a0, r0, rfl, g0⟩ := mm_pi_e h
  rcases r0 with _ | ⟨u, w⟩
  rotate_left
  · cases g0
  exact ⟨_, _, sp_X4_isStuff a0 z hk, fun v hv => by cases hv; exact Or.inl ⟨_, rfl⟩, g0⟩
theorem sS_X4_isStuff {own : String} {R : Room} {ar : Nat → Nat} {k : Nat} (hlink : Cond.methodLink own k yX4_isStuff ∈ lw_gd ∨ ∃ host, (own, k, yX4_isStuff, host) ∈ nmA) (har : ar k = 1) (hr : 2 ≤ R.frames ∧ 42 ≤ R.locals) : mm_okS lyTM lyFA lenM snM 22 22 17 roM rsA nfA nmA [] own R ar k clo_X4_isStuff :=
  Or.inl ⟨yX4_isStuff, cX4_isStuff, 1, some .boolean, rm_X4_isStuff, f_X4_isStuff, M_X4_isStuff, cs_X4_isStuff, hlink, ⟨ws_X4_isStuff, wi_X4_isStuff, wc_X4_isStuff⟩, ⟨by decide +kernel, by decide +kernel, by rw [har]; decide +kernel⟩, ⟨rfl, rfl, hr.1, hr.2⟩⟩
-- X4_isCrew
noncomputable def lV_X4_isCrew : List (Nat × (List mm_V → mm_S → (Option mm_V → mm_S → Option mm_R) → Option mm_R)) := []
noncomputable def mV_X4_isCrew (k : Nat) (as : List mm_V) (z : mm_S) (kk : Option mm_V → mm_S → Option mm_R) : Option mm_R := match mm_at lV_X4_isCrew k with
  | some f => f as z kk
  | none => none
noncomputable def arV_X4_isCrew (k : Nat) : Nat := (mm_at [] k).getD 0
noncomputable def lS_X4_isCrew : List (Nat × (List mm_V → mm_S → (Option mm_V → mm_S → Option mm_R) → Option mm_R)) := [(106, clo_X4_within)]
noncomputable def mS_X4_isCrew (k : Nat) (as : List mm_V) (z : mm_S) (kk : Option mm_V → mm_S → Option mm_R) : Option mm_R := match mm_at lS_X4_isCrew k with
  | some f => f as z kk
  | none => none
noncomputable def arS_X4_isCrew (k : Nat) : Nat := (mm_at [(106, 3)] k).getD 0
def ct_X4_isCrew : List (Nat × List Nat) := []
noncomputable def go_X4_isCrew : Nat → mm_K := mm_go (fun k => mm_at flX4 k) (fun k => mm_at clX4 k) (fun k => mm_at glX4 k) arV_X4_isCrew arS_X4_isCrew mV_X4_isCrew mS_X4_isCrew lenM roM snM 2 1 tbX4_isCrew ct_X4_isCrew
noncomputable def eX4_isCrew_0 (n : Nat)  (x1 : Int32) (z : mm_S) : Option mm_R := go_X4_isCrew n 0 [(0, mm_P 4 0), (1, mm_I x1)] [] z
set_option maxRecDepth 100000 in
theorem qX4_isCrew_0 (n : Nat)  (x1 : Int32) (z : mm_S) : eX4_isCrew_0 (n + 1) x1 z = (mm_rt 1 (pX4_within x1 0 ((z.1 1 1) - 1)) z) := rfl
def rm_X4_isCrew : Room := { frames := 1, cells := 0, slots := 0, locals := 22 }
noncomputable def f_X4_isCrew (as : List mm_V) (z : mm_S) (o : mm_R) : Prop := (as.map mm_cat).sum ≤ 2 ∧ ∃ n, go_X4_isCrew n 0 (mm_ar 0 as) [] z = some o
theorem M_X4_isCrew : mm_M lyTM lyFA lenM snM 22 22 17 roM rsA nfA nmA [] yX4_isCrew cX4_isCrew 2 (some .boolean) rm_X4_isCrew f_X4_isCrew :=
  mm_met (rt := 1) (by decide +kernel) ⟨fun h => absurd h (by decide), fun h => rfl, fun h => absurd h (by decide), fun h => absurd h (by decide)⟩ tbX4_isCrew_ok hsnM okFX4 okLX4 (fun _ h => absurd h List.not_mem_nil) (fun _ _ _ _ => rfl) (fun _ _ _ _ => rfl) (fun _ h => absurd h List.not_mem_nil) (List.forall_mem_cons.mpr ⟨sS_X4_within (Or.inl lk_X4_106) rfl ⟨by decide, by decide⟩, fun _ h => absurd h List.not_mem_nil⟩)
noncomputable def pX4_isCrew (x1 : Int32) (z : mm_S) : Int32 := (pX4_within x1 0 ((z.1 1 1) - 1))
theorem z1_X4_isCrew (x1 : Int32) (z : mm_S) : pX4_isCrew x1 z = 0 ∨ pX4_isCrew x1 z = 1 := (z1_X4_within x1 0 ((z.1 1 1) - 1))
theorem sp_X4_isCrew (x1 : Int32) (z : mm_S) (_ : ∀ v ∈ [mm_P 4 0, mm_I x1], mm_ok 22 lyTM 22 17 v) : f_X4_isCrew [mm_P 4 0, mm_I x1] z (some (mm_I (pX4_isCrew x1 z)), z) := ⟨Nat.le_of_ble_eq_true rfl, 1, (qX4_isCrew_0 0 x1 z).trans (mm_rt1 z (z1_X4_within x1 0 ((z.1 1 1) - 1)))⟩
noncomputable def clo_X4_isCrew (as : List mm_V) (z : mm_S) (kk : Option mm_V → mm_S → Option mm_R) : Option mm_R := mm_pr as fun t o0 as => bif Nat.beq t 4 then mm_pi as fun a1 as => (match as with | [] => kk (some (mm_I (pX4_isCrew a1 z))) z | _ => none) else none
theorem cs_X4_isCrew : mm_cs lyTM 22 22 17 f_X4_isCrew clo_X4_isCrew := by
  intro as z K o hk h
  obtain ⟨t0, o0, r0, rfl, g0⟩ := mm_pr_e h
  obtain ⟨b0, k0⟩ := mm_bif_e g0
  obtain rfl := Nat.eq_of_beq_eq_true b0
  obtain ⟨a1, r1, rfl, g1⟩ := mm_pi_e k0
  rcases r1 with _ | ⟨u, w⟩
  rotate_left
  · cases g1
  obtain rfl : o0 = 0 := ok4 (hk (mm_P 4 o0) (by simp))
  exact ⟨_, _, sp_X4_isCrew a1 z hk, fun v hv => by cases hv; exact Or.inl ⟨_, rfl⟩, g1⟩
theorem sV_X4_isCrew {own : String} {R : Room} {ar : Nat → Nat} {k : Nat} (hlink : Cond.methodLink own k yX4_isCrew ∈ lw_gd ∨ ∃ host, (own, k, yX4_isCrew, host) ∈ nmA) (har : ar k = 2) (hr : 2 ≤ R.frames ∧ 43 ≤ R.locals) : mm_okV lyTM lyFA lenM snM 22 22 17 roM rsA nfA nmA [] own R ar k clo_X4_isCrew := by
  refine ⟨yX4_isCrew, cX4_isCrew, 2, some .boolean, rm_X4_isCrew, f_X4_isCrew, 4, 1, (RX4, TX4, 36), M_X4_isCrew, cs_X4_isCrew, hlink, ⟨wv_X4_isCrew, wz_X4_isCrew, wi_X4_isCrew, wc_X4_isCrew⟩, ⟨by decide +kernel, by decide +kernel, by decide +kernel⟩, har, ⟨rfl, rfl, by decide⟩, ?_, ⟨rfl, rfl, hr.1, hr.2⟩⟩
  intro as z K o h
  obtain ⟨t0, o0, r0, rfl, g0⟩ := mm_pr_e h
  obtain ⟨b0, k0⟩ := mm_bif_e g0
  obtain rfl := Nat.eq_of_beq_eq_true b0
  exact ⟨_, _, rfl⟩
-- X4_isKind
noncomputable def lV_X4_isKind : List (Nat × (List mm_V → mm_S → (Option mm_V → mm_S → Option mm_R) → Option mm_R)) := []
noncomputable def mV_X4_isKind (k : Nat) (as : List mm_V) (z : mm_S) (kk : Option mm_V → mm_S → Option mm_R) : Option mm_R := match mm_at lV_X4_isKind k with
  | some f => f as z kk
  | none => none
noncomputable def arV_X4_isKind (k : Nat) : Nat := (mm_at [] k).getD 0
noncomputable def lS_X4_isKind : List (Nat × (List mm_V → mm_S → (Option mm_V → mm_S → Option mm_R) → Option mm_R)) := [(106, clo_X4_within)]
noncomputable def mS_X4_isKind (k : Nat) (as : List mm_V) (z : mm_S) (kk : Option mm_V → mm_S → Option mm_R) : Option mm_R := match mm_at lS_X4_isKind k with
  | some f => f as z kk
  | none => none
noncomputable def arS_X4_isKind (k : Nat) : Nat := (mm_at [(106, 3)] k).getD 0
def ct_X4_isKind : List (Nat × List Nat) := []
noncomputable def go_X4_isKind : Nat → mm_K := mm_go (fun k => mm_at flX4 k) (fun k => mm_at clX4 k) (fun k => mm_at glX4 k) arV_X4_isKind arS_X4_isKind mV_X4_isKind mS_X4_isKind lenM roM snM 1 1 tbX4_isKind ct_X4_isKind
noncomputable def eX4_isKind_0 (n : Nat) (x1 : Int32) (z : mm_S) : Option mm_R := go_X4_isKind n 0 [(0, mm_I x1)] [] z
set_option maxRecDepth 100000 in
theorem qX4_isKind_0 (n : Nat) (x1 : Int32) (z : mm_S) : eX4_isKind_0 (n + 1) x1 z = (mm_rt 1 (pX4_within x1 0 6) z) := rfl
def rm_X4_isKind : Room := { frames := 1, cells := 0, slots := 0, locals := 22 }
noncomputable def f_X4_isKind (as : List mm_V) (z : mm_S) (o : mm_R) : Prop := (as.map mm_cat).sum ≤ 1 ∧ ∃ n, go_X4_isKind n 0 (mm_ar 0 as) [] z = some o
theorem M_X4_isKind : mm_M lyTM lyFA lenM snM 22 22 17 roM rsA nfA nmA [] yX4_isKind cX4_isKind 1 (some .boolean) rm_X4_isKind f_X4_isKind :=
  mm_met (rt := 1) (by decide +kernel) ⟨fun h => absurd h (by decide), fun h => rfl, fun h => absurd h (by decide), fun h => absurd h (by decide)⟩ tbX4_isKind_ok hsnM okFX4 okLX4 (fun _ h => absurd h List.not_mem_nil) (fun _ _ _ _ => rfl) (fun _ _ _ _ => rfl) (fun _ h => absurd h List.not_mem_nil) (List.forall_mem_cons.mpr ⟨sS_X4_within (Or.inl lk_X4_106) rfl ⟨by decide, by decide⟩, fun _ h => absurd h List.not_mem_nil⟩)
noncomputable def pX4_isKind (x1 : Int32) : Int32 := (pX4_within x1 0 6)
theorem z1_X4_isKind (x1 : Int32) : pX4_isKind x1 = 0 ∨ pX4_isKind x1 = 1 := (z1_X4_within x1 0 6)
theorem sp_X4_isKind (x1 : Int32) (z : mm_S) (_ : ∀ v ∈ [mm_I x1], mm_ok 22 lyTM 22 17 v) : f_X4_isKind [mm_I x1] z (some (mm_I (pX4_isKind x1)), z) := ⟨Nat.le_of_ble_eq_true rfl, 1, (qX4_isKind_0 0 x1 z).trans (mm_rt1 z (z1_X4_within x1 0 6))⟩
noncomputable def clo_X4_isKind (as : List mm_V) (z : mm_S) (kk : Option mm_V → mm_S → Option mm_R) : Option mm_R := mm_pi as fun a0 as => (match as with | [] => kk (some (mm_I (pX4_isKind a0))) z | _ => none)
theorem cs_X4_isKind : mm_cs lyTM 22 22 17 f_X4_isKind clo_X4_isKind := by
  intro as z K o hk h
  obtain ⟨a0, r0, rfl, g0⟩ := mm_pi_e h
  rcases r0 with _ | ⟨u, w⟩
  rotate_left
  · cases g0
  exact ⟨_, _, sp_X4_isKind a0 z hk, fun v hv => by cases hv; exact Or.inl ⟨_, rfl⟩, g0⟩
theorem sS_X4_isKind {own : String} {R : Room} {ar : Nat → Nat} {k : Nat} (hlink : Cond.methodLink own k yX4_isKind ∈ lw_gd ∨ ∃ host, (own, k, yX4_isKind, host) ∈ nmA) (har : ar k = 1) (hr : 2 ≤ R.frames ∧ 42 ≤ R.locals) : mm_okS lyTM lyFA lenM snM 22 22 17 roM rsA nfA nmA [] own R ar k clo_X4_isKind :=
  Or.inl ⟨yX4_isKind, cX4_isKind, 1, some .boolean, rm_X4_isKind, f_X4_isKind, M_X4_isKind, cs_X4_isKind, hlink, ⟨ws_X4_isKind, wi_X4_isKind, wc_X4_isKind⟩, ⟨by decide +kernel, by decide +kernel, by rw [har]; decide +kernel⟩, ⟨rfl, rfl, hr.1, hr.2⟩⟩
-- X4_at
noncomputable def lV_X4_at : List (Nat × (List mm_V → mm_S → (Option mm_V → mm_S → Option mm_R) → Option mm_R)) := []
noncomputable def mV_X4_at (k : Nat) (as : List mm_V) (z : mm_S) (kk : Option mm_V → mm_S → Option mm_R) : Option mm_R := match mm_at lV_X4_at k with
  | some f => f as z kk
  | none => none
noncomputable def arV_X4_at (k : Nat) : Nat := (mm_at [] k).getD 0
noncomputable def lS_X4_at : List (Nat × (List mm_V → mm_S → (Option mm_V → mm_S → Option mm_R) → Option mm_R)) := []
noncomputable def mS_X4_at (k : Nat) (as : List mm_V) (z : mm_S) (kk : Option mm_V → mm_S → Option mm_R) : Option mm_R := match mm_at lS_X4_at k with
  | some f => f as z kk
  | none => none
noncomputable def arS_X4_at (k : Nat) : Nat := (mm_at [] k).getD 0
def ct_X4_at : List (Nat × List Nat) := []
noncomputable def go_X4_at : Nat → mm_K := mm_go (fun k => mm_at flX4 k) (fun k => mm_at clX4 k) (fun k => mm_at glX4 k) arV_X4_at arS_X4_at mV_X4_at mS_X4_at lenM roM snM 2 0 tbX4_at ct_X4_at
noncomputable def eX4_at_0 (n : Nat) (x1 : Int32) (x2 : Int32) (z : mm_S) : Option mm_R := go_X4_at n 0 [(0, mm_I x1), (1, mm_I x2)] [] z
set_option maxRecDepth 100000 in
theorem qX4_at_0 (n : Nat) (x1 : Int32) (x2 : Int32) (z : mm_S) : eX4_at_0 (n + 1) x1 x2 z = (some (some (mm_I ((51 + (3 * x1)) + x2)), z)) := rfl
def rm_X4_at : Room := { frames := 0, cells := 0, slots := 0, locals := 0 }
noncomputable def f_X4_at (as : List mm_V) (z : mm_S) (o : mm_R) : Prop := (as.map mm_cat).sum ≤ 2 ∧ ∃ n, go_X4_at n 0 (mm_ar 0 as) [] z = some o
theorem M_X4_at : mm_M lyTM lyFA lenM snM 22 22 17 roM rsA nfA nmA [] yX4_at cX4_at 2 (some .int) rm_X4_at f_X4_at :=
  mm_met (rt := 0) (by decide +kernel) ⟨fun h => rfl, fun h => absurd h (by decide), fun h => absurd h (by decide), fun h => absurd h (by decide)⟩ tbX4_at_ok hsnM okFX4 okLX4 (fun _ h => absurd h List.not_mem_nil) (fun _ _ _ _ => rfl) (fun _ _ _ _ => rfl) (fun _ h => absurd h List.not_mem_nil) (fun _ h => absurd h List.not_mem_nil)
noncomputable def pX4_at (x1 : Int32) (x2 : Int32) : Int32 := ((51 + (3 * x1)) + x2)
theorem sp_X4_at (x1 : Int32) (x2 : Int32) (z : mm_S) (_ : ∀ v ∈ [mm_I x1, mm_I x2], mm_ok 22 lyTM 22 17 v) : f_X4_at [mm_I x1, mm_I x2] z (some (mm_I (pX4_at x1 x2)), z) := ⟨Nat.le_of_ble_eq_true rfl, 1, (qX4_at_0 0 x1 x2 z).trans rfl⟩
noncomputable def clo_X4_at (as : List mm_V) (z : mm_S) (kk : Option mm_V → mm_S → Option mm_R) : Option mm_R := mm_pi as fun a0 as => mm_pi as fun a1 as => (match as with | [] => kk (some (mm_I (pX4_at a0 a1))) z | _ => none)
theorem cs_X4_at : mm_cs lyTM 22 22 17 f_X4_at clo_X4_at := by
  intro as z K o hk h
  obtain ⟨a0, r0, rfl, g0⟩ := mm_pi_e h
  obtain ⟨a1, r1, rfl, g1⟩ := mm_pi_e g0
  rcases r1 with _ | ⟨u, w⟩
  rotate_left
  · cases g1
  exact ⟨_, _, sp_X4_at a0 a1 z hk, fun v hv => by cases hv; exact Or.inl ⟨_, rfl⟩, g1⟩
theorem sS_X4_at {own : String} {R : Room} {ar : Nat → Nat} {k : Nat} (hlink : Cond.methodLink own k yX4_at ∈ lw_gd ∨ ∃ host, (own, k, yX4_at, host) ∈ nmA) (har : ar k = 2) (hr : 1 ≤ R.frames ∧ 21 ≤ R.locals) : mm_okS lyTM lyFA lenM snM 22 22 17 roM rsA nfA nmA [] own R ar k clo_X4_at :=
  Or.inl ⟨yX4_at, cX4_at, 2, some .int, rm_X4_at, f_X4_at, M_X4_at, cs_X4_at, hlink, ⟨ws_X4_at, wi_X4_at, wc_X4_at⟩, ⟨by decide +kernel, by decide +kernel, by rw [har]; decide +kernel⟩, ⟨rfl, rfl, hr.1, hr.2⟩⟩
-- X4_crewIs
noncomputable def lV_X4_crewIs : List (Nat × (List mm_V → mm_S → (Option mm_V → mm_S → Option mm_R) → Option mm_R)) := []
noncomputable def mV_X4_crewIs (k : Nat) (as : List mm_V) (z : mm_S) (kk : Option mm_V → mm_S → Option mm_R) : Option mm_R := match mm_at lV_X4_crewIs k with
  | some f => f as z kk
  | none => none
noncomputable def arV_X4_crewIs (k : Nat) : Nat := (mm_at [] k).getD 0
noncomputable def lS_X4_crewIs : List (Nat × (List mm_V → mm_S → (Option mm_V → mm_S → Option mm_R) → Option mm_R)) := [(110, clo_X4_at)]
noncomputable def mS_X4_crewIs (k : Nat) (as : List mm_V) (z : mm_S) (kk : Option mm_V → mm_S → Option mm_R) : Option mm_R := match mm_at lS_X4_crewIs k with
  | some f => f as z kk
  | none => none
noncomputable def arS_X4_crewIs (k : Nat) : Nat := (mm_at [(110, 2)] k).getD 0
def ct_X4_crewIs : List (Nat × List Nat) := []
noncomputable def go_X4_crewIs : Nat → mm_K := mm_go (fun k => mm_at flX4 k) (fun k => mm_at clX4 k) (fun k => mm_at glX4 k) arV_X4_crewIs arS_X4_crewIs mV_X4_crewIs mS_X4_crewIs lenM roM snM 3 0 tbX4_crewIs ct_X4_crewIs
noncomputable def eX4_crewIs_0 (n : Nat)  (x1 : Int32) (x2 : Int32) (z : mm_S) : Option mm_R := go_X4_crewIs n 0 [(0, mm_P 4 0), (1, mm_I x1), (2, mm_I x2)] [] z
set_option maxRecDepth 100000 in
theorem qX4_crewIs_0 (n : Nat)  (x1 : Int32) (x2 : Int32) (z : mm_S) : eX4_crewIs_0 (n + 1) x1 x2 z = (if (pX4_at x1 x2) < 0 ∨ 97 ≤ Int32.toNatClampNeg (pX4_at x1 x2) then none else some (some (mm_I (z.1 1 (Int32.toNatClampNeg (pX4_at x1 x2)))), z)) := rfl
def rm_X4_crewIs : Room := { frames := 1, cells := 0, slots := 0, locals := 21 }
noncomputable def f_X4_crewIs (as : List mm_V) (z : mm_S) (o : mm_R) : Prop := (as.map mm_cat).sum ≤ 3 ∧ ∃ n, go_X4_crewIs n 0 (mm_ar 0 as) [] z = some o
theorem M_X4_crewIs : mm_M lyTM lyFA lenM snM 22 22 17 roM rsA nfA nmA [] yX4_crewIs cX4_crewIs 3 (some .int) rm_X4_crewIs f_X4_crewIs :=
  mm_met (rt := 0) (by decide +kernel) ⟨fun h => rfl, fun h => absurd h (by decide), fun h => absurd h (by decide), fun h => absurd h (by decide)⟩ tbX4_crewIs_ok hsnM okFX4 okLX4 (fun _ h => absurd h List.not_mem_nil) (fun _ _ _ _ => rfl) (fun _ _ _ _ => rfl) (fun _ h => absurd h List.not_mem_nil) (List.forall_mem_cons.mpr ⟨sS_X4_at (Or.inl lk_X4_110) rfl ⟨by decide, by decide⟩, fun _ h => absurd h List.not_mem_nil⟩)
noncomputable def sX4_crewIs_0 (x1 : Int32) (x2 : Int32) (z : mm_S) : Option (Int32 × mm_S) := if (pX4_at x1 x2) < 0 ∨ 97 ≤ Int32.toNatClampNeg (pX4_at x1 x2) then none else some ((z.1 1 (Int32.toNatClampNeg (pX4_at x1 x2))), z)
theorem kX4_crewIs_0 (x1 : Int32) (x2 : Int32) (z : mm_S) (oo : mm_R) : mm_Xs (sX4_crewIs_0 x1 x2 z) (fun v => (fun v : Int32 × mm_S => ((some (mm_I v.1), v.2) : mm_R)) v = oo) (fun n => eX4_crewIs_0 n x1 x2 z) oo :=
  xs_row (fun n => qX4_crewIs_0 n x1 x2 z) (xs_if xs_n (xs_v fun hc => ⟨0, congrArg some hc⟩))
noncomputable def sX4_crewIs (x1 : Int32) (x2 : Int32) (z : mm_S) : Option (Int32 × mm_S) := sX4_crewIs_0 x1 x2 z
theorem sp_X4_crewIs (x1 : Int32) (x2 : Int32) (z : mm_S) (hk : ∀ v ∈ [mm_P 4 0, mm_I x1, mm_I x2], mm_ok 22 lyTM 22 17 v) (q : Int32 × mm_S) (hq : sX4_crewIs x1 x2 z = some q) : f_X4_crewIs [mm_P 4 0, mm_I x1, mm_I x2] z (some (mm_I q.1), q.2) := ⟨Nat.le_of_ble_eq_true rfl, kX4_crewIs_0 x1 x2 z _ q hq rfl⟩
noncomputable def clo_X4_crewIs (as : List mm_V) (z : mm_S) (kk : Option mm_V → mm_S → Option mm_R) : Option mm_R := mm_pr as fun t o0 as => bif Nat.beq t 4 then mm_pi as fun a1 as => mm_pi as fun a2 as => (match as with | [] => (sX4_crewIs a1 a2 z).bind fun q => kk (some (mm_I q.1)) q.2 | _ => none) else none
theorem cs_X4_crewIs : mm_cs lyTM 22 22 17 f_X4_crewIs clo_X4_crewIs := by
  intro as z K o hk h
  obtain ⟨t0, o0, r0, rfl, g0⟩ := mm_pr_e h
  obtain ⟨b0, k0⟩ := mm_bif_e g0
  obtain rfl := Nat.eq_of_beq_eq_true b0
  obtain ⟨a1, r1, rfl, g1⟩ := mm_pi_e k0
  obtain ⟨a2, r2, rfl, g2⟩ := mm_pi_e g1
  rcases r2 with _ | ⟨u, w⟩
  rotate_left
  · cases g2
  obtain rfl : o0 = 0 := ok4 (hk (mm_P 4 o0) (by simp))
  obtain ⟨q, hq, hq2⟩ := Option.bind_eq_some_iff.mp g2
  exact ⟨_, _, sp_X4_crewIs a1 a2 z hk q hq, fun v hv => by cases hv; exact Or.inl ⟨_, rfl⟩, hq2⟩
theorem sV_X4_crewIs {own : String} {R : Room} {ar : Nat → Nat} {k : Nat} (hlink : Cond.methodLink own k yX4_crewIs ∈ lw_gd ∨ ∃ host, (own, k, yX4_crewIs, host) ∈ nmA) (har : ar k = 3) (hr : 2 ≤ R.frames ∧ 43 ≤ R.locals) : mm_okV lyTM lyFA lenM snM 22 22 17 roM rsA nfA nmA [] own R ar k clo_X4_crewIs := by
  refine ⟨yX4_crewIs, cX4_crewIs, 3, some .int, rm_X4_crewIs, f_X4_crewIs, 4, 2, (RX4, TX4, 36), M_X4_crewIs, cs_X4_crewIs, hlink, ⟨wv_X4_crewIs, wz_X4_crewIs, wi_X4_crewIs, wc_X4_crewIs⟩, ⟨by decide +kernel, by decide +kernel, by decide +kernel⟩, har, ⟨rfl, rfl, by decide⟩, ?_, ⟨rfl, rfl, hr.1, hr.2⟩⟩
  intro as z K o h
  obtain ⟨t0, o0, r0, rfl, g0⟩ := mm_pr_e h
  obtain ⟨b0, k0⟩ := mm_bif_e g0
  obtain rfl := Nat.eq_of_beq_eq_true b0
  exact ⟨_, _, rfl⟩
-- X4_stuffIs
noncomputable def lV_X4_stuffIs : List (Nat × (List mm_V → mm_S → (Option mm_V → mm_S → Option mm_R) → Option mm_R)) := []
noncomputable def mV_X4_stuffIs (k : Nat) (as : List mm_V) (z : mm_S) (kk : Option mm_V → mm_S → Option mm_R) : Option mm_R := match mm_at lV_X4_stuffIs k with
  | some f => f as z kk
  | none => none
noncomputable def arV_X4_stuffIs (k : Nat) : Nat := (mm_at [] k).getD 0
noncomputable def lS_X4_stuffIs : List (Nat × (List mm_V → mm_S → (Option mm_V → mm_S → Option mm_R) → Option mm_R)) := []
noncomputable def mS_X4_stuffIs (k : Nat) (as : List mm_V) (z : mm_S) (kk : Option mm_V → mm_S → Option mm_R) : Option mm_R := match mm_at lS_X4_stuffIs k with
  | some f => f as z kk
  | none => none
noncomputable def arS_X4_stuffIs (k : Nat) : Nat := (mm_at [] k).getD 0
def ct_X4_stuffIs : List (Nat × List Nat) := []
noncomputable def go_X4_stuffIs : Nat → mm_K := mm_go (fun k => mm_at flX4 k) (fun k => mm_at clX4 k) (fun k => mm_at glX4 k) arV_X4_stuffIs arS_X4_stuffIs mV_X4_stuffIs mS_X4_stuffIs lenM roM snM 2 0 tbX4_stuffIs ct_X4_stuffIs
noncomputable def eX4_stuffIs_0 (n : Nat)  (x1 : Int32) (z : mm_S) : Option mm_R := go_X4_stuffIs n 0 [(0, mm_P 4 0), (1, mm_I x1)] [] z
set_option maxRecDepth 100000 in
theorem qX4_stuffIs_0 (n : Nat)  (x1 : Int32) (z : mm_S) : eX4_stuffIs_0 (n + 1) x1 z = (if (15 + x1) < 0 ∨ 97 ≤ Int32.toNatClampNeg (15 + x1) then none else some (some (mm_I (z.1 1 (Int32.toNatClampNeg (15 + x1)))), z)) := rfl
def rm_X4_stuffIs : Room := { frames := 0, cells := 0, slots := 0, locals := 0 }
noncomputable def f_X4_stuffIs (as : List mm_V) (z : mm_S) (o : mm_R) : Prop := (as.map mm_cat).sum ≤ 2 ∧ ∃ n, go_X4_stuffIs n 0 (mm_ar 0 as) [] z = some o
theorem M_X4_stuffIs : mm_M lyTM lyFA lenM snM 22 22 17 roM rsA nfA nmA [] yX4_stuffIs cX4_stuffIs 2 (some .int) rm_X4_stuffIs f_X4_stuffIs :=
  mm_met (rt := 0) (by decide +kernel) ⟨fun h => rfl, fun h => absurd h (by decide), fun h => absurd h (by decide), fun h => absurd h (by decide)⟩ tbX4_stuffIs_ok hsnM okFX4 okLX4 (fun _ h => absurd h List.not_mem_nil) (fun _ _ _ _ => rfl) (fun _ _ _ _ => rfl) (fun _ h => absurd h List.not_mem_nil) (fun _ h => absurd h List.not_mem_nil)
noncomputable def sX4_stuffIs_0 (x1 : Int32) (z : mm_S) : Option (Int32 × mm_S) := if (15 + x1) < 0 ∨ 97 ≤ Int32.toNatClampNeg (15 + x1) then none else some ((z.1 1 (Int32.toNatClampNeg (15 + x1))), z)
theorem kX4_stuffIs_0 (x1 : Int32) (z : mm_S) (oo : mm_R) : mm_Xs (sX4_stuffIs_0 x1 z) (fun v => (fun v : Int32 × mm_S => ((some (mm_I v.1), v.2) : mm_R)) v = oo) (fun n => eX4_stuffIs_0 n x1 z) oo :=
  xs_row (fun n => qX4_stuffIs_0 n x1 z) (xs_if xs_n (xs_v fun hc => ⟨0, congrArg some hc⟩))
noncomputable def sX4_stuffIs (x1 : Int32) (z : mm_S) : Option (Int32 × mm_S) := sX4_stuffIs_0 x1 z
theorem sp_X4_stuffIs (x1 : Int32) (z : mm_S) (hk : ∀ v ∈ [mm_P 4 0, mm_I x1], mm_ok 22 lyTM 22 17 v) (q : Int32 × mm_S) (hq : sX4_stuffIs x1 z = some q) : f_X4_stuffIs [mm_P 4 0, mm_I x1] z (some (mm_I q.1), q.2) := ⟨Nat.le_of_ble_eq_true rfl, kX4_stuffIs_0 x1 z _ q hq rfl⟩
noncomputable def clo_X4_stuffIs (as : List mm_V) (z : mm_S) (kk : Option mm_V → mm_S → Option mm_R) : Option mm_R := mm_pr as fun t o0 as => bif Nat.beq t 4 then mm_pi as fun a1 as => (match as with | [] => (sX4_stuffIs a1 z).bind fun q => kk (some (mm_I q.1)) q.2 | _ => none) else none
theorem cs_X4_stuffIs : mm_cs lyTM 22 22 17 f_X4_stuffIs clo_X4_stuffIs := by
  intro as z K o hk h
  obtain ⟨t0, o0, r0, rfl, g0⟩ := mm_pr_e h
  obtain ⟨b0, k0⟩ := mm_bif_e g0
  obtain rfl := Nat.eq_of_beq_eq_true b0
  obtain ⟨a1, r1, rfl, g1⟩ := mm_pi_e k0
  rcases r1 with _ | ⟨u, w⟩
  rotate_left
  · cases g1
  obtain rfl : o0 = 0 := ok4 (hk (mm_P 4 o0) (by simp))
  obtain ⟨q, hq, hq2⟩ := Option.bind_eq_some_iff.mp g1
  exact ⟨_, _, sp_X4_stuffIs a1 z hk q hq, fun v hv => by cases hv; exact Or.inl ⟨_, rfl⟩, hq2⟩
theorem sV_X4_stuffIs {own : String} {R : Room} {ar : Nat → Nat} {k : Nat} (hlink : Cond.methodLink own k yX4_stuffIs ∈ lw_gd ∨ ∃ host, (own, k, yX4_stuffIs, host) ∈ nmA) (har : ar k = 2) (hr : 1 ≤ R.frames ∧ 21 ≤ R.locals) : mm_okV lyTM lyFA lenM snM 22 22 17 roM rsA nfA nmA [] own R ar k clo_X4_stuffIs := by
  refine ⟨yX4_stuffIs, cX4_stuffIs, 2, some .int, rm_X4_stuffIs, f_X4_stuffIs, 4, 1, (RX4, TX4, 36), M_X4_stuffIs, cs_X4_stuffIs, hlink, ⟨wv_X4_stuffIs, wz_X4_stuffIs, wi_X4_stuffIs, wc_X4_stuffIs⟩, ⟨by decide +kernel, by decide +kernel, by decide +kernel⟩, har, ⟨rfl, rfl, by decide⟩, ?_, ⟨rfl, rfl, hr.1, hr.2⟩⟩
  intro as z K o h
  obtain ⟨t0, o0, r0, rfl, g0⟩ := mm_pr_e h
  obtain ⟨b0, k0⟩ := mm_bif_e g0
  obtain rfl := Nat.eq_of_beq_eq_true b0
  exact ⟨_, _, rfl⟩
-- X4_stuff
noncomputable def lV_X4_stuff : List (Nat × (List mm_V → mm_S → (Option mm_V → mm_S → Option mm_R) → Option mm_R)) := [(121, clo_X4_become), (124, clo_X4_finding)]
noncomputable def mV_X4_stuff (k : Nat) (as : List mm_V) (z : mm_S) (kk : Option mm_V → mm_S → Option mm_R) : Option mm_R := match mm_at lV_X4_stuff k with
  | some f => f as z kk
  | none => none
noncomputable def arV_X4_stuff (k : Nat) : Nat := (mm_at [(121, 3), (124, 2)] k).getD 0
noncomputable def lS_X4_stuff : List (Nat × (List mm_V → mm_S → (Option mm_V → mm_S → Option mm_R) → Option mm_R)) := [(114, clo_X4_isCell), (118, clo_X4_isStuff)]
noncomputable def mS_X4_stuff (k : Nat) (as : List mm_V) (z : mm_S) (kk : Option mm_V → mm_S → Option mm_R) : Option mm_R := match mm_at lS_X4_stuff k with
  | some f => f as z kk
  | none => none
noncomputable def arS_X4_stuff (k : Nat) : Nat := (mm_at [(114, 1), (118, 1)] k).getD 0
def ct_X4_stuff : List (Nat × List Nat) := [(26, [0])]
noncomputable def go_X4_stuff : Nat → mm_K := mm_go (fun k => mm_at flX4 k) (fun k => mm_at clX4 k) (fun k => mm_at glX4 k) arV_X4_stuff arS_X4_stuff mV_X4_stuff mS_X4_stuff lenM roM snM 3 0 tbX4_stuff ct_X4_stuff
noncomputable def eX4_stuff_0 (n : Nat)  (x1 : Int32) (x2 : Int32) (z : mm_S) : Option mm_R := go_X4_stuff n 0 [(0, mm_P 4 0), (1, mm_I x1), (2, mm_I x2)] [] z
noncomputable def eX4_stuff_26 (n : Nat)  (z : mm_S) : Option mm_R := go_X4_stuff n 26 [(0, mm_P 4 0)] [] z
set_option maxRecDepth 100000 in
theorem qX4_stuff_0 (n : Nat)  (x1 : Int32) (x2 : Int32) (z : mm_S) : eX4_stuff_0 (n + 1) x1 x2 z = (if (pX4_isCell x1) = 0 then eX4_stuff_26 n  z else if (pX4_isStuff x2) = 0 then eX4_stuff_26 n  z else (sX4_become (15 + x1) x2 z).bind fun q1 => some (some (mm_I q1.1), q1.2)) := rfl
set_option maxRecDepth 100000 in
theorem qX4_stuff_26 (n : Nat)  (z : mm_S) : eX4_stuff_26 (n + 1)  z = ((sX4_finding (-1000001) z).bind fun q2 => some (some (mm_I q2.1), q2.2)) := rfl
def rm_X4_stuff : Room := { frames := 2, cells := 0, slots := 0, locals := 42 }
noncomputable def f_X4_stuff (as : List mm_V) (z : mm_S) (o : mm_R) : Prop := (as.map mm_cat).sum ≤ 3 ∧ ∃ n, go_X4_stuff n 0 (mm_ar 0 as) [] z = some o
theorem M_X4_stuff : mm_M lyTM lyFA lenM snM 22 22 17 roM rsA nfA nmA [] yX4_stuff cX4_stuff 3 (some .int) rm_X4_stuff f_X4_stuff :=
  mm_met (rt := 0) (by decide +kernel) ⟨fun h => rfl, fun h => absurd h (by decide), fun h => absurd h (by decide), fun h => absurd h (by decide)⟩ tbX4_stuff_ok hsnM okFX4 okLX4 (fun _ h => absurd h List.not_mem_nil) (fun _ _ _ _ => rfl) (fun _ _ _ _ => rfl) (List.forall_mem_cons.mpr ⟨sV_X4_become (Or.inl lk_X4_121) rfl ⟨by decide, by decide⟩, List.forall_mem_cons.mpr ⟨sV_X4_finding (Or.inl lk_X4_124) rfl ⟨by decide, by decide⟩, fun _ h => absurd h List.not_mem_nil⟩⟩) (List.forall_mem_cons.mpr ⟨sS_X4_isCell (Or.inl lk_X4_114) rfl ⟨by decide, by decide⟩, List.forall_mem_cons.mpr ⟨sS_X4_isStuff (Or.inl lk_X4_118) rfl ⟨by decide, by decide⟩, fun _ h => absurd h List.not_mem_nil⟩⟩)
noncomputable def sX4_stuff_26  (z : mm_S) : Option (Int32 × mm_S) := (sX4_finding (-1000001) z).bind fun q2 => some (q2.1, q2.2)
theorem kX4_stuff_26  (z : mm_S) (oo : mm_R) : mm_Xs (sX4_stuff_26  z) (fun v => (fun v : Int32 × mm_S => ((some (mm_I v.1), v.2) : mm_R)) v = oo) (fun n => eX4_stuff_26 n  z) oo :=
  xs_row (fun n => qX4_stuff_26 n z) (xs_bd fun q2 => (xs_v fun hc => ⟨0, congrArg some hc⟩))
noncomputable def sX4_stuff_0 (x1 : Int32) (x2 : Int32) (z : mm_S) : Option (Int32 × mm_S) := if (pX4_isCell x1) = 0 then (sX4_stuff_26 z) else if (pX4_isStuff x2) = 0 then (sX4_stuff_26 z) else (sX4_become (15 + x1) x2 z).bind fun q1 => some (q1.1, q1.2)
theorem kX4_stuff_0 (x1 : Int32) (x2 : Int32) (z : mm_S) (oo : mm_R) : mm_Xs (sX4_stuff_0 x1 x2 z) (fun v => (fun v : Int32 × mm_S => ((some (mm_I v.1), v.2) : mm_R)) v = oo) (fun n => eX4_stuff_0 n x1 x2 z) oo :=
  xs_row (fun n => qX4_stuff_0 n x1 x2 z) (xs_if (kX4_stuff_26 z oo) (xs_if (kX4_stuff_26 z oo) (xs_bd fun q1 => (xs_v fun hc => ⟨0, congrArg some hc⟩))))
noncomputable def sX4_stuff (x1 : Int32) (x2 : Int32) (z : mm_S) : Option (Int32 × mm_S) := sX4_stuff_0 x1 x2 z
theorem sp_X4_stuff (x1 : Int32) (x2 : Int32) (z : mm_S) (hk : ∀ v ∈ [mm_P 4 0, mm_I x1, mm_I x2], mm_ok 22 lyTM 22 17 v) (q : Int32 × mm_S) (hq : sX4_stuff x1 x2 z = some q) : f_X4_stuff [mm_P 4 0, mm_I x1, mm_I x2] z (some (mm_I q.1), q.2) := ⟨Nat.le_of_ble_eq_true rfl, kX4_stuff_0 x1 x2 z _ q hq rfl⟩
noncomputable def clo_X4_stuff (as : List mm_V) (z : mm_S) (kk : Option mm_V → mm_S → Option mm_R) : Option mm_R := mm_pr as fun t o0 as => bif Nat.beq t 4 then mm_pi as fun a1 as => mm_pi as fun a2 as => (match as with | [] => (sX4_stuff a1 a2 z).bind fun q => kk (some (mm_I q.1)) q.2 | _ => none) else none
theorem cs_X4_stuff : mm_cs lyTM 22 22 17 f_X4_stuff clo_X4_stuff := by
  intro as z K o hk h
  obtain ⟨t0, o0, r0, rfl, g0⟩ := mm_pr_e h
  obtain ⟨b0, k0⟩ := mm_bif_e g0
  obtain rfl := Nat.eq_of_beq_eq_true b0
  obtain ⟨a1, r1, rfl, g1⟩ := mm_pi_e k0
  obtain ⟨a2, r2, rfl, g2⟩ := mm_pi_e g1
  rcases r2 with _ | ⟨u, w⟩
  rotate_left
  · cases g2
  obtain rfl : o0 = 0 := ok4 (hk (mm_P 4 o0) (by simp))
  obtain ⟨q, hq, hq2⟩ := Option.bind_eq_some_iff.mp g2
  exact ⟨_, _, sp_X4_stuff a1 a2 z hk q hq, fun v hv => by cases hv; exact Or.inl ⟨_, rfl⟩, hq2⟩
theorem sV_X4_stuff {own : String} {R : Room} {ar : Nat → Nat} {k : Nat} (hlink : Cond.methodLink own k yX4_stuff ∈ lw_gd ∨ ∃ host, (own, k, yX4_stuff, host) ∈ nmA) (har : ar k = 3) (hr : 3 ≤ R.frames ∧ 64 ≤ R.locals) : mm_okV lyTM lyFA lenM snM 22 22 17 roM rsA nfA nmA [] own R ar k clo_X4_stuff := by
  refine ⟨yX4_stuff, cX4_stuff, 3, some .int, rm_X4_stuff, f_X4_stuff, 4, 2, (RX4, TX4, 36), M_X4_stuff, cs_X4_stuff, hlink, ⟨wv_X4_stuff, wz_X4_stuff, wi_X4_stuff, wc_X4_stuff⟩, ⟨by decide +kernel, by decide +kernel, by decide +kernel⟩, har, ⟨rfl, rfl, by decide⟩, ?_, ⟨rfl, rfl, hr.1, hr.2⟩⟩
  intro as z K o h
  obtain ⟨t0, o0, r0, rfl, g0⟩ := mm_pr_e h
  obtain ⟨b0, k0⟩ := mm_bif_e g0
  obtain rfl := Nat.eq_of_beq_eq_true b0
  exact ⟨_, _, rfl⟩
-- X4_comes
noncomputable def lV_X4_comes : List (Nat × (List mm_V → mm_S → (Option mm_V → mm_S → Option mm_R) → Option mm_R)) := []
noncomputable def mV_X4_comes (k : Nat) (as : List mm_V) (z : mm_S) (kk : Option mm_V → mm_S → Option mm_R) : Option mm_R := match mm_at lV_X4_comes k with
  | some f => f as z kk
  | none => none
noncomputable def arV_X4_comes (k : Nat) : Nat := (mm_at [] k).getD 0
noncomputable def lS_X4_comes : List (Nat × (List mm_V → mm_S → (Option mm_V → mm_S → Option mm_R) → Option mm_R)) := [(110, clo_X4_at)]
noncomputable def mS_X4_comes (k : Nat) (as : List mm_V) (z : mm_S) (kk : Option mm_V → mm_S → Option mm_R) : Option mm_R := match mm_at lS_X4_comes k with
  | some f => f as z kk
  | none => none
noncomputable def arS_X4_comes (k : Nat) : Nat := (mm_at [(110, 2)] k).getD 0
def ct_X4_comes : List (Nat × List Nat) := [(20, [0, 2, 3, 4]), (32, [0, 3, 4]), (44, [0, 4]), (54, [4])]
noncomputable def go_X4_comes : Nat → mm_K := mm_go (fun k => mm_at flX4 k) (fun k => mm_at clX4 k) (fun k => mm_at glX4 k) arV_X4_comes arS_X4_comes mV_X4_comes mS_X4_comes lenM roM snM 5 0 tbX4_comes ct_X4_comes
noncomputable def eX4_comes_0 (n : Nat)  (x1 : Int32) (x2 : Int32) (x3 : Int32) (z : mm_S) : Option mm_R := go_X4_comes n 0 [(0, mm_P 4 0), (1, mm_I x1), (2, mm_I x2), (3, mm_I x3)] [] z
noncomputable def eX4_comes_20 (n : Nat)  (y2 : Int32) (y3 : Int32) (y4 : Int32) (z : mm_S) : Option mm_R := go_X4_comes n 20 [(0, mm_P 4 0), (2, mm_I y2), (3, mm_I y3), (4, mm_I y4)] [] z
noncomputable def eX4_comes_32 (n : Nat)  (y3 : Int32) (y4 : Int32) (z : mm_S) : Option mm_R := go_X4_comes n 32 [(0, mm_P 4 0), (3, mm_I y3), (4, mm_I y4)] [] z
noncomputable def eX4_comes_44 (n : Nat)  (y4 : Int32) (z : mm_S) : Option mm_R := go_X4_comes n 44 [(0, mm_P 4 0), (4, mm_I y4)] [] z
noncomputable def eX4_comes_54 (n : Nat) (y4 : Int32) (z : mm_S) : Option mm_R := go_X4_comes n 54 [(4, mm_I y4)] [] z
set_option maxRecDepth 100000 in
theorem qX4_comes_0 (n : Nat)  (x1 : Int32) (x2 : Int32) (x3 : Int32) (z : mm_S) : eX4_comes_0 (n + 1) x1 x2 x3 z = (if (pX4_at (z.1 1 1) 0) < 0 ∨ 97 ≤ Int32.toNatClampNeg (pX4_at (z.1 1 1) 0) then none else eX4_comes_20 n x2 x3 (z.1 1 1) ((mm_ui z.1 1 (Int32.toNatClampNeg (pX4_at (z.1 1 1) 0)) x1), z.2)) := rfl
set_option maxRecDepth 100000 in
theorem qX4_comes_20 (n : Nat)  (y2 : Int32) (y3 : Int32) (y4 : Int32) (z : mm_S) : eX4_comes_20 (n + 1) y2 y3 y4 z = (if (pX4_at y4 1) < 0 ∨ 97 ≤ Int32.toNatClampNeg (pX4_at y4 1) then none else eX4_comes_32 n y3 y4 ((mm_ui z.1 1 (Int32.toNatClampNeg (pX4_at y4 1)) y2), z.2)) := rfl
set_option maxRecDepth 100000 in
theorem qX4_comes_32 (n : Nat)  (y3 : Int32) (y4 : Int32) (z : mm_S) : eX4_comes_32 (n + 1) y3 y4 z = (if (pX4_at y4 2) < 0 ∨ 97 ≤ Int32.toNatClampNeg (pX4_at y4 2) then none else eX4_comes_44 n y4 ((mm_ui z.1 1 (Int32.toNatClampNeg (pX4_at y4 2)) y3), z.2)) := rfl
set_option maxRecDepth 100000 in
theorem qX4_comes_44 (n : Nat)  (y4 : Int32) (z : mm_S) : eX4_comes_44 (n + 1) y4 z = (eX4_comes_54 n y4 ((mm_ui z.1 1 1 ((z.1 1 1) + 1)), z.2)) := rfl
set_option maxRecDepth 100000 in
theorem qX4_comes_54 (n : Nat) (y4 : Int32) (z : mm_S) : eX4_comes_54 (n + 1) y4 z = (some (some (mm_I y4), z)) := rfl
def rm_X4_comes : Room := { frames := 1, cells := 0, slots := 0, locals := 21 }
noncomputable def f_X4_comes (as : List mm_V) (z : mm_S) (o : mm_R) : Prop := (as.map mm_cat).sum ≤ 5 ∧ ∃ n, go_X4_comes n 0 (mm_ar 0 as) [] z = some o
theorem M_X4_comes : mm_M lyTM lyFA lenM snM 22 22 17 roM rsA nfA nmA [] yX4_comes cX4_comes 5 (some .int) rm_X4_comes f_X4_comes :=
  mm_met (rt := 0) (by decide +kernel) ⟨fun h => rfl, fun h => absurd h (by decide), fun h => absurd h (by decide), fun h => absurd h (by decide)⟩ tbX4_comes_ok hsnM okFX4 okLX4 (fun _ h => absurd h List.not_mem_nil) (fun _ _ _ _ => rfl) (fun _ _ _ _ => rfl) (fun _ h => absurd h List.not_mem_nil) (List.forall_mem_cons.mpr ⟨sS_X4_at (Or.inl lk_X4_110) rfl ⟨by decide, by decide⟩, fun _ h => absurd h List.not_mem_nil⟩)
noncomputable def sX4_comes_54 (y4 : Int32) (z : mm_S) : Option (Int32 × mm_S) := some (y4, z)
theorem kX4_comes_54 (y4 : Int32) (z : mm_S) (oo : mm_R) : mm_Xs (sX4_comes_54 y4 z) (fun v => (fun v : Int32 × mm_S => ((some (mm_I v.1), v.2) : mm_R)) v = oo) (fun n => eX4_comes_54 n y4 z) oo :=
  xs_row (fun n => qX4_comes_54 n y4 z) (xs_v fun hc => ⟨0, congrArg some hc⟩)
noncomputable def sX4_comes_44 (y4 : Int32) (z : mm_S) : Option (Int32 × mm_S) := (sX4_comes_54 y4 ((mm_ui z.1 1 1 ((z.1 1 1) + 1)), z.2))
theorem kX4_comes_44 (y4 : Int32) (z : mm_S) (oo : mm_R) : mm_Xs (sX4_comes_44 y4 z) (fun v => (fun v : Int32 × mm_S => ((some (mm_I v.1), v.2) : mm_R)) v = oo) (fun n => eX4_comes_44 n y4 z) oo :=
  xs_row (fun n => qX4_comes_44 n y4 z) (kX4_comes_54 y4 ((mm_ui z.1 1 1 ((z.1 1 1) + 1)), z.2) oo)
noncomputable def sX4_comes_32 (y3 : Int32) (y4 : Int32) (z : mm_S) : Option (Int32 × mm_S) := if (pX4_at y4 2) < 0 ∨ 97 ≤ Int32.toNatClampNeg (pX4_at y4 2) then none else (sX4_comes_44 y4 ((mm_ui z.1 1 (Int32.toNatClampNeg (pX4_at y4 2)) y3), z.2))
theorem kX4_comes_32 (y3 : Int32) (y4 : Int32) (z : mm_S) (oo : mm_R) : mm_Xs (sX4_comes_32 y3 y4 z) (fun v => (fun v : Int32 × mm_S => ((some (mm_I v.1), v.2) : mm_R)) v = oo) (fun n => eX4_comes_32 n y3 y4 z) oo :=
  xs_row (fun n => qX4_comes_32 n y3 y4 z) (xs_if xs_n (kX4_comes_44 y4 ((mm_ui z.1 1 (Int32.toNatClampNeg (pX4_at y4 2)) y3), z.2) oo))
noncomputable def sX4_comes_20 (y2 : Int32) (y3 : Int32) (y4 : Int32) (z : mm_S) : Option (Int32 × mm_S) := if (pX4_at y4 1) < 0 ∨ 97 ≤ Int32.toNatClampNeg (pX4_at y4 1) then none else (sX4_comes_32 y3 y4 ((mm_ui z.1 1 (Int32.toNatClampNeg (pX4_at y4 1)) y2), z.2))
theorem kX4_comes_20 (y2 : Int32) (y3 : Int32) (y4 : Int32) (z : mm_S) (oo : mm_R) : mm_Xs (sX4_comes_20 y2 y3 y4 z) (fun v => (fun v : Int32 × mm_S => ((some (mm_I v.1), v.2) : mm_R)) v = oo) (fun n => eX4_comes_20 n y2 y3 y4 z) oo :=
  xs_row (fun n => qX4_comes_20 n y2 y3 y4 z) (xs_if xs_n (kX4_comes_32 y3 y4 ((mm_ui z.1 1 (Int32.toNatClampNeg (pX4_at y4 1)) y2), z.2) oo))
noncomputable def sX4_comes_0 (x1 : Int32) (x2 : Int32) (x3 : Int32) (z : mm_S) : Option (Int32 × mm_S) := if (pX4_at (z.1 1 1) 0) < 0 ∨ 97 ≤ Int32.toNatClampNeg (pX4_at (z.1 1 1) 0) then none else (sX4_comes_20 x2 x3 (z.1 1 1) ((mm_ui z.1 1 (Int32.toNatClampNeg (pX4_at (z.1 1 1) 0)) x1), z.2))
theorem kX4_comes_0 (x1 : Int32) (x2 : Int32) (x3 : Int32) (z : mm_S) (oo : mm_R) : mm_Xs (sX4_comes_0 x1 x2 x3 z) (fun v => (fun v : Int32 × mm_S => ((some (mm_I v.1), v.2) : mm_R)) v = oo) (fun n => eX4_comes_0 n x1 x2 x3 z) oo :=
  xs_row (fun n => qX4_comes_0 n x1 x2 x3 z) (xs_if xs_n (kX4_comes_20 x2 x3 (z.1 1 1) ((mm_ui z.1 1 (Int32.toNatClampNeg (pX4_at (z.1 1 1) 0)) x1), z.2) oo))
noncomputable def sX4_comes (x1 : Int32) (x2 : Int32) (x3 : Int32) (z : mm_S) : Option (Int32 × mm_S) := sX4_comes_0 x1 x2 x3 z
theorem sp_X4_comes (x1 : Int32) (x2 : Int32) (x3 : Int32) (z : mm_S) (hk : ∀ v ∈ [mm_P 4 0, mm_I x1, mm_I x2, mm_I x3], mm_ok 22 lyTM 22 17 v) (q : Int32 × mm_S) (hq : sX4_comes x1 x2 x3 z = some q) : f_X4_comes [mm_P 4 0, mm_I x1, mm_I x2, mm_I x3] z (some (mm_I q.1), q.2) := ⟨Nat.le_of_ble_eq_true rfl, kX4_comes_0 x1 x2 x3 z _ q hq rfl⟩
noncomputable def clo_X4_comes (as : List mm_V) (z : mm_S) (kk : Option mm_V → mm_S → Option mm_R) : Option mm_R := mm_pr as fun t o0 as => bif Nat.beq t 4 then mm_pi as fun a1 as => mm_pi as fun a2 as => mm_pi as fun a3 as => (match as with | [] => (sX4_comes a1 a2 a3 z).bind fun q => kk (some (mm_I q.1)) q.2 | _ => none) else none
theorem cs_X4_comes : mm_cs lyTM 22 22 17 f_X4_comes clo_X4_comes := by
  intro as z K o hk h
  obtain ⟨t0, o0, r0, rfl, g0⟩ := mm_pr_e h
  obtain ⟨b0, k0⟩ := mm_bif_e g0
  obtain rfl := Nat.eq_of_beq_eq_true b0
  obtain ⟨a1, r1, rfl, g1⟩ := mm_pi_e k0
  obtain ⟨a2, r2, rfl, g2⟩ := mm_pi_e g1
  obtain ⟨a3, r3, rfl, g3⟩ := mm_pi_e g2
  rcases r3 with _ | ⟨u, w⟩
  rotate_left
  · cases g3
  obtain rfl : o0 = 0 := ok4 (hk (mm_P 4 o0) (by simp))
  obtain ⟨q, hq, hq2⟩ := Option.bind_eq_some_iff.mp g3
  exact ⟨_, _, sp_X4_comes a1 a2 a3 z hk q hq, fun v hv => by cases hv; exact Or.inl ⟨_, rfl⟩, hq2⟩
theorem sV_X4_comes {own : String} {R : Room} {ar : Nat → Nat} {k : Nat} (hlink : Cond.methodLink own k yX4_comes ∈ lw_gd ∨ ∃ host, (own, k, yX4_comes, host) ∈ nmA) (har : ar k = 4) (hr : 2 ≤ R.frames ∧ 45 ≤ R.locals) : mm_okV lyTM lyFA lenM snM 22 22 17 roM rsA nfA nmA [] own R ar k clo_X4_comes := by
  refine ⟨yX4_comes, cX4_comes, 5, some .int, rm_X4_comes, f_X4_comes, 4, 3, (RX4, TX4, 36), M_X4_comes, cs_X4_comes, hlink, ⟨wv_X4_comes, wz_X4_comes, wi_X4_comes, wc_X4_comes⟩, ⟨by decide +kernel, by decide +kernel, by decide +kernel⟩, har, ⟨rfl, rfl, by decide⟩, ?_, ⟨rfl, rfl, hr.1, hr.2⟩⟩
  intro as z K o h
  obtain ⟨t0, o0, r0, rfl, g0⟩ := mm_pr_e h
  obtain ⟨b0, k0⟩ := mm_bif_e g0
  obtain rfl := Nat.eq_of_beq_eq_true b0
  exact ⟨_, _, rfl⟩
-- X4_crew
noncomputable def lV_X4_crew : List (Nat × (List mm_V → mm_S → (Option mm_V → mm_S → Option mm_R) → Option mm_R)) := [(124, clo_X4_finding), (132, clo_X4_comes)]
noncomputable def mV_X4_crew (k : Nat) (as : List mm_V) (z : mm_S) (kk : Option mm_V → mm_S → Option mm_R) : Option mm_R := match mm_at lV_X4_crew k with
  | some f => f as z kk
  | none => none
noncomputable def arV_X4_crew (k : Nat) : Nat := (mm_at [(124, 2), (132, 4)] k).getD 0
noncomputable def lS_X4_crew : List (Nat × (List mm_V → mm_S → (Option mm_V → mm_S → Option mm_R) → Option mm_R)) := [(114, clo_X4_isCell), (128, clo_X4_isKind)]
noncomputable def mS_X4_crew (k : Nat) (as : List mm_V) (z : mm_S) (kk : Option mm_V → mm_S → Option mm_R) : Option mm_R := match mm_at lS_X4_crew k with
  | some f => f as z kk
  | none => none
noncomputable def arS_X4_crew (k : Nat) : Nat := (mm_at [(114, 1), (128, 1)] k).getD 0
def ct_X4_crew : List (Nat × List Nat) := [(21, [0, 1, 2]), (41, [0, 1, 2])]
noncomputable def go_X4_crew : Nat → mm_K := mm_go (fun k => mm_at flX4 k) (fun k => mm_at clX4 k) (fun k => mm_at glX4 k) arV_X4_crew arS_X4_crew mV_X4_crew mS_X4_crew lenM roM snM 3 0 tbX4_crew ct_X4_crew
noncomputable def eX4_crew_0 (n : Nat)  (x1 : Int32) (x2 : Int32) (z : mm_S) : Option mm_R := go_X4_crew n 0 [(0, mm_P 4 0), (1, mm_I x1), (2, mm_I x2)] [] z
noncomputable def eX4_crew_21 (n : Nat)  (y1 : Int32) (y2 : Int32) (z : mm_S) : Option mm_R := go_X4_crew n 21 [(0, mm_P 4 0), (1, mm_I y1), (2, mm_I y2)] [] z
noncomputable def eX4_crew_41 (n : Nat)  (y1 : Int32) (y2 : Int32) (z : mm_S) : Option mm_R := go_X4_crew n 41 [(0, mm_P 4 0), (1, mm_I y1), (2, mm_I y2)] [] z
set_option maxRecDepth 100000 in
theorem qX4_crew_0 (n : Nat)  (x1 : Int32) (x2 : Int32) (z : mm_S) : eX4_crew_0 (n + 1) x1 x2 z = (if (pX4_isKind x1) = 0 then (sX4_finding (-1000001) z).bind fun q1 => some (some (mm_I q1.1), q1.2) else if (pX4_isCell x2) = 0 then (sX4_finding (-1000001) z).bind fun q2 => some (some (mm_I q2.1), q2.2) else eX4_crew_21 n x1 x2 z) := rfl
set_option maxRecDepth 100000 in
theorem qX4_crew_21 (n : Nat)  (y1 : Int32) (y2 : Int32) (z : mm_S) : eX4_crew_21 (n + 1) y1 y2 z = (if (z.1 1 1) = 6 then (sX4_finding (-1000002) z).bind fun q3 => some (some (mm_I q3.1), q3.2) else eX4_crew_41 n y1 y2 z) := rfl
set_option maxRecDepth 100000 in
theorem qX4_crew_41 (n : Nat)  (y1 : Int32) (y2 : Int32) (z : mm_S) : eX4_crew_41 (n + 1) y1 y2 z = ((sX4_comes y1 y2 6 z).bind fun q4 => some (some (mm_I q4.1), q4.2)) := rfl
def rm_X4_crew : Room := { frames := 2, cells := 0, slots := 0, locals := 45 }
noncomputable def f_X4_crew (as : List mm_V) (z : mm_S) (o : mm_R) : Prop := (as.map mm_cat).sum ≤ 3 ∧ ∃ n, go_X4_crew n 0 (mm_ar 0 as) [] z = some o
theorem M_X4_crew : mm_M lyTM lyFA lenM snM 22 22 17 roM rsA nfA nmA [] yX4_crew cX4_crew 3 (some .int) rm_X4_crew f_X4_crew :=
  mm_met (rt := 0) (by decide +kernel) ⟨fun h => rfl, fun h => absurd h (by decide), fun h => absurd h (by decide), fun h => absurd h (by decide)⟩ tbX4_crew_ok hsnM okFX4 okLX4 (fun _ h => absurd h List.not_mem_nil) (fun _ _ _ _ => rfl) (fun _ _ _ _ => rfl) (List.forall_mem_cons.mpr ⟨sV_X4_finding (Or.inl lk_X4_124) rfl ⟨by decide, by decide⟩, List.forall_mem_cons.mpr ⟨sV_X4_comes (Or.inl lk_X4_132) rfl ⟨by decide, by decide⟩, fun _ h => absurd h List.not_mem_nil⟩⟩) (List.forall_mem_cons.mpr ⟨sS_X4_isCell (Or.inl lk_X4_114) rfl ⟨by decide, by decide⟩, List.forall_mem_cons.mpr ⟨sS_X4_isKind (Or.inl lk_X4_128) rfl ⟨by decide, by decide⟩, fun _ h => absurd h List.not_mem_nil⟩⟩)
noncomputable def sX4_crew_41 (y1 : Int32) (y2 : Int32) (z : mm_S) : Option (Int32 × mm_S) := (sX4_comes y1 y2 6 z).bind fun q4 => some (q4.1, q4.2)
theorem kX4_crew_41 (y1 : Int32) (y2 : Int32) (z : mm_S) (oo : mm_R) : mm_Xs (sX4_crew_41 y1 y2 z) (fun v => (fun v : Int32 × mm_S => ((some (mm_I v.1), v.2) : mm_R)) v = oo) (fun n => eX4_crew_41 n y1 y2 z) oo :=
  xs_row (fun n => qX4_crew_41 n y1 y2 z) (xs_bd fun q4 => (xs_v fun hc => ⟨0, congrArg some hc⟩))
noncomputable def sX4_crew_21 (y1 : Int32) (y2 : Int32) (z : mm_S) : Option (Int32 × mm_S) := if (z.1 1 1) = 6 then (sX4_finding (-1000002) z).bind fun q3 => some (q3.1, q3.2) else (sX4_crew_41 y1 y2 z)
theorem kX4_crew_21 (y1 : Int32) (y2 : Int32) (z : mm_S) (oo : mm_R) : mm_Xs (sX4_crew_21 y1 y2 z) (fun v => (fun v : Int32 × mm_S => ((some (mm_I v.1), v.2) : mm_R)) v = oo) (fun n => eX4_crew_21 n y1 y2 z) oo :=
  xs_row (fun n => qX4_crew_21 n y1 y2 z) (xs_if (xs_bd fun q3 => (xs_v fun hc => ⟨0, congrArg some hc⟩)) (kX4_crew_41 y1 y2 z oo))
noncomputable def sX4_crew_0 (x1 : Int32) (x2 : Int32) (z : mm_S) : Option (Int32 × mm_S) := if (pX4_isKind x1) = 0 then (sX4_finding (-1000001) z).bind fun q1 => some (q1.1, q1.2) else if (pX4_isCell x2) = 0 then (sX4_finding (-1000001) z).bind fun q2 => some (q2.1, q2.2) else (sX4_crew_21 x1 x2 z)
theorem kX4_crew_0 (x1 : Int32) (x2 : Int32) (z : mm_S) (oo : mm_R) : mm_Xs (sX4_crew_0 x1 x2 z) (fun v => (fun v : Int32 × mm_S => ((some (mm_I v.1), v.2) : mm_R)) v = oo) (fun n => eX4_crew_0 n x1 x2 z) oo :=
  xs_row (fun n => qX4_crew_0 n x1 x2 z) (xs_if (xs_bd fun q1 => (xs_v fun hc => ⟨0, congrArg some hc⟩)) (xs_if (xs_bd fun q2 => (xs_v fun hc => ⟨0, congrArg some hc⟩)) (kX4_crew_21 x1 x2 z oo)))
noncomputable def sX4_crew (x1 : Int32) (x2 : Int32) (z : mm_S) : Option (Int32 × mm_S) := sX4_crew_0 x1 x2 z
theorem sp_X4_crew (x1 : Int32) (x2 : Int32) (z : mm_S) (hk : ∀ v ∈ [mm_P 4 0, mm_I x1, mm_I x2], mm_ok 22 lyTM 22 17 v) (q : Int32 × mm_S) (hq : sX4_crew x1 x2 z = some q) : f_X4_crew [mm_P 4 0, mm_I x1, mm_I x2] z (some (mm_I q.1), q.2) := ⟨Nat.le_of_ble_eq_true rfl, kX4_crew_0 x1 x2 z _ q hq rfl⟩
noncomputable def clo_X4_crew (as : List mm_V) (z : mm_S) (kk : Option mm_V → mm_S → Option mm_R) : Option mm_R := mm_pr as fun t o0 as => bif Nat.beq t 4 then mm_pi as fun a1 as => mm_pi as fun a2 as => (match as with | [] => (sX4_crew a1 a2 z).bind fun q => kk (some (mm_I q.1)) q.2 | _ => none) else none
theorem cs_X4_crew : mm_cs lyTM 22 22 17 f_X4_crew clo_X4_crew := by
  intro as z K o hk h
  obtain ⟨t0, o0, r0, rfl, g0⟩ := mm_pr_e h
  obtain ⟨b0, k0⟩ := mm_bif_e g0
  obtain rfl := Nat.eq_of_beq_eq_true b0
  obtain ⟨a1, r1, rfl, g1⟩ := mm_pi_e k0
  obtain ⟨a2, r2, rfl, g2⟩ := mm_pi_e g1
  rcases r2 with _ | ⟨u, w⟩
  rotate_left
  · cases g2
  obtain rfl : o0 = 0 := ok4 (hk (mm_P 4 o0) (by simp))
  obtain ⟨q, hq, hq2⟩ := Option.bind_eq_some_iff.mp g2
  exact ⟨_, _, sp_X4_crew a1 a2 z hk q hq, fun v hv => by cases hv; exact Or.inl ⟨_, rfl⟩, hq2⟩
theorem sV_X4_crew {own : String} {R : Room} {ar : Nat → Nat} {k : Nat} (hlink : Cond.methodLink own k yX4_crew ∈ lw_gd ∨ ∃ host, (own, k, yX4_crew, host) ∈ nmA) (har : ar k = 3) (hr : 3 ≤ R.frames ∧ 67 ≤ R.locals) : mm_okV lyTM lyFA lenM snM 22 22 17 roM rsA nfA nmA [] own R ar k clo_X4_crew := by
  refine ⟨yX4_crew, cX4_crew, 3, some .int, rm_X4_crew, f_X4_crew, 4, 2, (RX4, TX4, 36), M_X4_crew, cs_X4_crew, hlink, ⟨wv_X4_crew, wz_X4_crew, wi_X4_crew, wc_X4_crew⟩, ⟨by decide +kernel, by decide +kernel, by decide +kernel⟩, har, ⟨rfl, rfl, by decide⟩, ?_, ⟨rfl, rfl, hr.1, hr.2⟩⟩
  intro as z K o h
  obtain ⟨t0, o0, r0, rfl, g0⟩ := mm_pr_e h
  obtain ⟨b0, k0⟩ := mm_bif_e g0
  obtain rfl := Nat.eq_of_beq_eq_true b0
  exact ⟨_, _, rfl⟩
-- X4_above
noncomputable def lV_X4_above : List (Nat × (List mm_V → mm_S → (Option mm_V → mm_S → Option mm_R) → Option mm_R)) := []
noncomputable def mV_X4_above (k : Nat) (as : List mm_V) (z : mm_S) (kk : Option mm_V → mm_S → Option mm_R) : Option mm_R := match mm_at lV_X4_above k with
  | some f => f as z kk
  | none => none
noncomputable def arV_X4_above (k : Nat) : Nat := (mm_at [] k).getD 0
noncomputable def lS_X4_above : List (Nat × (List mm_V → mm_S → (Option mm_V → mm_S → Option mm_R) → Option mm_R)) := []
noncomputable def mS_X4_above (k : Nat) (as : List mm_V) (z : mm_S) (kk : Option mm_V → mm_S → Option mm_R) : Option mm_R := match mm_at lS_X4_above k with
  | some f => f as z kk
  | none => none
noncomputable def arS_X4_above (k : Nat) : Nat := (mm_at [] k).getD 0
def ct_X4_above : List (Nat × List Nat) := []
noncomputable def go_X4_above : Nat → mm_K := mm_go (fun k => mm_at flX4 k) (fun k => mm_at clX4 k) (fun k => mm_at glX4 k) arV_X4_above arS_X4_above mV_X4_above mS_X4_above lenM roM snM 1 0 tbX4_above ct_X4_above
noncomputable def eX4_above_0 (n : Nat) (x1 : Int32) (z : mm_S) : Option mm_R := go_X4_above n 0 [(0, mm_I x1)] [] z
set_option maxRecDepth 100000 in
theorem qX4_above_0 (n : Nat) (x1 : Int32) (z : mm_S) : eX4_above_0 (n + 1) x1 z = (if x1 = 0 then some (some (mm_I (-1)), z) else if x1 = 2 then some (some (mm_I 1), z) else if x1 = 3 then some (some (mm_I 2), z) else if x1 = 5 then some (some (mm_I 4), z) else some (some (mm_I 0), z)) := rfl
def rm_X4_above : Room := { frames := 0, cells := 0, slots := 0, locals := 0 }
noncomputable def f_X4_above (as : List mm_V) (z : mm_S) (o : mm_R) : Prop := (as.map mm_cat).sum ≤ 1 ∧ ∃ n, go_X4_above n 0 (mm_ar 0 as) [] z = some o
theorem M_X4_above : mm_M lyTM lyFA lenM snM 22 22 17 roM rsA nfA nmA [] yX4_above cX4_above 1 (some .int) rm_X4_above f_X4_above :=
  mm_met (rt := 0) (by decide +kernel) ⟨fun h => rfl, fun h => absurd h (by decide), fun h => absurd h (by decide), fun h => absurd h (by decide)⟩ tbX4_above_ok hsnM okFX4 okLX4 (fun _ h => absurd h List.not_mem_nil) (fun _ _ _ _ => rfl) (fun _ _ _ _ => rfl) (fun _ h => absurd h List.not_mem_nil) (fun _ h => absurd h List.not_mem_nil)
noncomputable def pX4_above (x1 : Int32) : Int32 := if x1 = 0 then (-1) else if x1 = 2 then 1 else if x1 = 3 then 2 else if x1 = 5 then 4 else 0
theorem sp_X4_above (x1 : Int32) (z : mm_S) (_ : ∀ v ∈ [mm_I x1], mm_ok 22 lyTM 22 17 v) : f_X4_above [mm_I x1] z (some (mm_I (pX4_above x1)), z) := ⟨Nat.le_of_ble_eq_true rfl, 1, (qX4_above_0 0 x1 z).trans (mm_if (fun v => some (some (mm_I v), z)) rfl (mm_if (fun v => some (some (mm_I v), z)) rfl (mm_if (fun v => some (some (mm_I v), z)) rfl (mm_if (fun v => some (some (mm_I v), z)) rfl rfl))))⟩
noncomputable def clo_X4_above (as : List mm_V) (z : mm_S) (kk : Option mm_V → mm_S → Option mm_R) : Option mm_R := mm_pi as fun a0 as => (match as with | [] => kk (some (mm_I (pX4_above a0))) z | _ => none)
theorem cs_X4_above : mm_cs lyTM 22 22 17 f_X4_above clo_X4_above := by
  intro as z K o hk h
  obtain ⟨a0, r0, rfl, g0⟩ := mm_pi_e h
  rcases r0 with _ | ⟨u, w⟩
  rotate_left
  · cases g0
  exact ⟨_, _, sp_X4_above a0 z hk, fun v hv => by cases hv; exact Or.inl ⟨_, rfl⟩, g0⟩
theorem sS_X4_above {own : String} {R : Room} {ar : Nat → Nat} {k : Nat} (hlink : Cond.methodLink own k yX4_above ∈ lw_gd ∨ ∃ host, (own, k, yX4_above, host) ∈ nmA) (har : ar k = 1) (hr : 1 ≤ R.frames ∧ 20 ≤ R.locals) : mm_okS lyTM lyFA lenM snM 22 22 17 roM rsA nfA nmA [] own R ar k clo_X4_above :=
  Or.inl ⟨yX4_above, cX4_above, 1, some .int, rm_X4_above, f_X4_above, M_X4_above, cs_X4_above, hlink, ⟨ws_X4_above, wi_X4_above, wc_X4_above⟩, ⟨by decide +kernel, by decide +kernel, by rw [har]; decide +kernel⟩, ⟨rfl, rfl, hr.1, hr.2⟩⟩
-- X4_isUnder
noncomputable def lV_X4_isUnder : List (Nat × (List mm_V → mm_S → (Option mm_V → mm_S → Option mm_R) → Option mm_R)) := []
noncomputable def mV_X4_isUnder (k : Nat) (as : List mm_V) (z : mm_S) (kk : Option mm_V → mm_S → Option mm_R) : Option mm_R := match mm_at lV_X4_isUnder k with
  | some f => f as z kk
  | none => none
noncomputable def arV_X4_isUnder (k : Nat) : Nat := (mm_at [] k).getD 0
noncomputable def lS_X4_isUnder : List (Nat × (List mm_V → mm_S → (Option mm_V → mm_S → Option mm_R) → Option mm_R)) := [(136, clo_X4_above)]
noncomputable def mS_X4_isUnder (k : Nat) (as : List mm_V) (z : mm_S) (kk : Option mm_V → mm_S → Option mm_R) : Option mm_R := match mm_at lS_X4_isUnder k with
  | some f => f as z kk
  | none => none
noncomputable def arS_X4_isUnder (k : Nat) : Nat := (mm_at [(136, 1)] k).getD 0
def ct_X4_isUnder : List (Nat × List Nat) := [(2, [1, 2])]
noncomputable def go_X4_isUnder : Nat → mm_K := mm_go (fun k => mm_at flX4 k) (fun k => mm_at clX4 k) (fun k => mm_at glX4 k) arV_X4_isUnder arS_X4_isUnder mV_X4_isUnder mS_X4_isUnder lenM roM snM 3 1 tbX4_isUnder ct_X4_isUnder
noncomputable def eX4_isUnder_0 (n : Nat) (x1 : Int32) (x2 : Int32) (z : mm_S) : Option mm_R := go_X4_isUnder n 0 [(0, mm_I x1), (1, mm_I x2)] [] z
noncomputable def eX4_isUnder_2 (n : Nat) (y1 : Int32) (y2 : Int32) (z : mm_S) : Option mm_R := go_X4_isUnder n 2 [(1, mm_I y1), (2, mm_I y2)] [] z
set_option maxRecDepth 100000 in
theorem qX4_isUnder_0 (n : Nat) (x1 : Int32) (x2 : Int32) (z : mm_S) : eX4_isUnder_0 (n + 1) x1 x2 z = (eX4_isUnder_2 n x2 x1 z) := rfl
set_option maxRecDepth 100000 in
theorem qX4_isUnder_2 (n : Nat) (y1 : Int32) (y2 : Int32) (z : mm_S) : eX4_isUnder_2 (n + 1) y1 y2 z = (if y2 < 0 then if y2 < 0 then some (some (mm_I 0), z) else some (some (mm_I 1), z) else if y2 = y1 then if y2 < 0 then some (some (mm_I 0), z) else some (some (mm_I 1), z) else eX4_isUnder_2 n y1 (pX4_above y2) z) := rfl
def rm_X4_isUnder : Room := { frames := 1, cells := 0, slots := 0, locals := 20 }
noncomputable def f_X4_isUnder (as : List mm_V) (z : mm_S) (o : mm_R) : Prop := (as.map mm_cat).sum ≤ 3 ∧ ∃ n, go_X4_isUnder n 0 (mm_ar 0 as) [] z = some o
theorem M_X4_isUnder : mm_M lyTM lyFA lenM snM 22 22 17 roM rsA nfA nmA [] yX4_isUnder cX4_isUnder 3 (some .boolean) rm_X4_isUnder f_X4_isUnder :=
  mm_met (rt := 1) (by decide +kernel) ⟨fun h => absurd h (by decide), fun h => rfl, fun h => absurd h (by decide), fun h => absurd h (by decide)⟩ tbX4_isUnder_ok hsnM okFX4 okLX4 (fun _ h => absurd h List.not_mem_nil) (fun _ _ _ _ => rfl) (fun _ _ _ _ => rfl) (fun _ h => absurd h List.not_mem_nil) (List.forall_mem_cons.mpr ⟨sS_X4_above (Or.inl lk_X4_136) rfl ⟨by decide, by decide⟩, fun _ h => absurd h List.not_mem_nil⟩)
noncomputable def lX4_isUnder_2 (s : Int32 × Int32 × mm_S) : Option ((Int32 × Int32 × mm_S) ⊕ (Int32 × mm_S)) := if s.2.1 < 0 then if s.2.1 < 0 then some (.inr (0, s.2.2)) else some (.inr (1, s.2.2)) else if s.2.1 = s.1 then if s.2.1 < 0 then some (.inr (0, s.2.2)) else some (.inr (1, s.2.2)) else some (.inl (s.1, (pX4_above s.2.1), s.2.2))
noncomputable def sX4_isUnder_2 (y1 : Int32) (y2 : Int32) (z : mm_S) : Option (Int32 × mm_S) := mm_wh (lX4_isUnder_2 ) mm_fu (y1, y2, z)
theorem kX4_isUnder_2 (y1 : Int32) (y2 : Int32) (z : mm_S) (oo : mm_R) : mm_Xs (sX4_isUnder_2 y1 y2 z) (fun v => (fun v : Int32 × mm_S => ((some (mm_I v.1), v.2) : mm_R)) v = oo) (fun n => eX4_isUnder_2 n y1 y2 z) oo :=
  xs_wh (stp := lX4_isUnder_2 ) (o := oo) (E := (fun (s : Int32 × Int32 × mm_S) n => eX4_isUnder_2 n s.1 s.2.1 s.2.2)) (C := (fun v => (fun v : Int32 × mm_S => ((some (mm_I v.1), v.2) : mm_R)) v = oo)) (fun s => xs_row (fun n => qX4_isUnder_2 n s.1 s.2.1 s.2.2) (xs_if (xs_if (xs_v fun hc => ⟨0, congrArg some hc⟩) (xs_v fun hc => ⟨0, congrArg some hc⟩)) (xs_if (xs_if (xs_v fun hc => ⟨0, congrArg some hc⟩) (xs_v fun hc => ⟨0, congrArg some hc⟩)) (xs_v fun hc => hc)))) mm_fu (y1, y2, z)
noncomputable def sX4_isUnder_0 (x1 : Int32) (x2 : Int32) (z : mm_S) : Option (Int32 × mm_S) := (sX4_isUnder_2 x2 x1 z)
theorem kX4_isUnder_0 (x1 : Int32) (x2 : Int32) (z : mm_S) (oo : mm_R) : mm_Xs (sX4_isUnder_0 x1 x2 z) (fun v => (fun v : Int32 × mm_S => ((some (mm_I v.1), v.2) : mm_R)) v = oo) (fun n => eX4_isUnder_0 n x1 x2 z) oo :=
  xs_row (fun n => qX4_isUnder_0 n x1 x2 z) (kX4_isUnder_2 x2 x1 z oo)
noncomputable def sX4_isUnder (x1 : Int32) (x2 : Int32) (z : mm_S) : Option (Int32 × mm_S) := sX4_isUnder_0 x1 x2 z
theorem sp_X4_isUnder (x1 : Int32) (x2 : Int32) (z : mm_S) (hk : ∀ v ∈ [mm_I x1, mm_I x2], mm_ok 22 lyTM 22 17 v) (q : Int32 × mm_S) (hq : sX4_isUnder x1 x2 z = some q) : f_X4_isUnder [mm_I x1, mm_I x2] z (some (mm_I q.1), q.2) := ⟨Nat.le_of_ble_eq_true rfl, kX4_isUnder_0 x1 x2 z _ q hq rfl⟩
noncomputable def clo_X4_isUnder (as : List mm_V) (z : mm_S) (kk : Option mm_V → mm_S → Option mm_R) : Option mm_R := mm_pi as fun a0 as => mm_pi as fun a1 as => (match as with | [] => (sX4_isUnder a0 a1 z).bind fun q => kk (some (mm_I q.1)) q.2 | _ => none)
theorem cs_X4_isUnder : mm_cs lyTM 22 22 17 f_X4_isUnder clo_X4_isUnder := by
  intro as z K o hk h
  obtain ⟨a0, r0, rfl, g0⟩ := mm_pi_e h
  obtain ⟨a1, r1, rfl, g1⟩ := mm_pi_e g0
  rcases r1 with _ | ⟨u, w⟩
  rotate_left
  · cases g1
  obtain ⟨q, hq, hq2⟩ := Option.bind_eq_some_iff.mp g1
  exact ⟨_, _, sp_X4_isUnder a0 a1 z hk q hq, fun v hv => by cases hv; exact Or.inl ⟨_, rfl⟩, hq2⟩
theorem sS_X4_isUnder {own : String} {R : Room} {ar : Nat → Nat} {k : Nat} (hlink : Cond.methodLink own k yX4_isUnder ∈ lw_gd ∨ ∃ host, (own, k, yX4_isUnder, host) ∈ nmA) (har : ar k = 2) (hr : 2 ≤ R.frames ∧ 42 ≤ R.locals) : mm_okS lyTM lyFA lenM snM 22 22 17 roM rsA nfA nmA [] own R ar k clo_X4_isUnder :=
  Or.inl ⟨yX4_isUnder, cX4_isUnder, 3, some .boolean, rm_X4_isUnder, f_X4_isUnder, M_X4_isUnder, cs_X4_isUnder, hlink, ⟨ws_X4_isUnder, wi_X4_isUnder, wc_X4_isUnder⟩, ⟨by decide +kernel, by decide +kernel, by rw [har]; decide +kernel⟩, ⟨rfl, rfl, hr.1, hr.2⟩⟩
-- X4_carries
noncomputable def lV_X4_carries : List (Nat × (List mm_V → mm_S → (Option mm_V → mm_S → Option mm_R) → Option mm_R)) := [(139, clo_X4_crewIs)]
noncomputable def mV_X4_carries (k : Nat) (as : List mm_V) (z : mm_S) (kk : Option mm_V → mm_S → Option mm_R) : Option mm_R := match mm_at lV_X4_carries k with
  | some f => f as z kk
  | none => none
noncomputable def arV_X4_carries (k : Nat) : Nat := (mm_at [(139, 3)] k).getD 0
noncomputable def lS_X4_carries : List (Nat × (List mm_V → mm_S → (Option mm_V → mm_S → Option mm_R) → Option mm_R)) := []
noncomputable def mS_X4_carries (k : Nat) (as : List mm_V) (z : mm_S) (kk : Option mm_V → mm_S → Option mm_R) : Option mm_R := match mm_at lS_X4_carries k with
  | some f => f as z kk
  | none => none
noncomputable def arS_X4_carries (k : Nat) : Nat := (mm_at [] k).getD 0
def ct_X4_carries : List (Nat × List Nat) := [(7, [0, 1, 2])]
noncomputable def go_X4_carries : Nat → mm_K := mm_go (fun k => mm_at flX4 k) (fun k => mm_at clX4 k) (fun k => mm_at glX4 k) arV_X4_carries arS_X4_carries mV_X4_carries mS_X4_carries lenM roM snM 3 0 tbX4_carries ct_X4_carries
noncomputable def eX4_carries_0 (n : Nat)  (x1 : Int32) (z : mm_S) : Option mm_R := go_X4_carries n 0 [(0, mm_P 4 0), (1, mm_I x1)] [] z
noncomputable def eX4_carries_7 (n : Nat)  (y1 : Int32) (y2 : Int32) (z : mm_S) : Option mm_R := go_X4_carries n 7 [(0, mm_P 4 0), (1, mm_I y1), (2, mm_I y2)] [] z
set_option maxRecDepth 100000 in
theorem qX4_carries_0 (n : Nat)  (x1 : Int32) (z : mm_S) : eX4_carries_0 (n + 1) x1 z = ((sX4_crewIs x1 2 z).bind fun q1 => eX4_carries_7 n x1 q1.1 q1.2) := rfl
set_option maxRecDepth 100000 in
theorem qX4_carries_7 (n : Nat)  (y1 : Int32) (y2 : Int32) (z : mm_S) : eX4_carries_7 (n + 1) y1 y2 z = ((sX4_crewIs y1 0 z).bind fun q2 => if q2.1 = 1 then some (some (mm_I (8 * y2)), q2.2) else if q2.1 = 2 then some (some (mm_I ((8 * y2) + 5)), q2.2) else if q2.1 = 3 then some (some (mm_I ((9 * y2) + 5)), q2.2) else if q2.1 = 4 then some (some (mm_I (2 * y2)), q2.2) else if q2.1 = 5 then some (some (mm_I 0), q2.2) else some (some (mm_I (4 * y2)), q2.2)) := rfl
def rm_X4_carries : Room := { frames := 2, cells := 0, slots := 0, locals := 43 }
noncomputable def f_X4_carries (as : List mm_V) (z : mm_S) (o : mm_R) : Prop := (as.map mm_cat).sum ≤ 3 ∧ ∃ n, go_X4_carries n 0 (mm_ar 0 as) [] z = some o
theorem M_X4_carries : mm_M lyTM lyFA lenM snM 22 22 17 roM rsA nfA nmA [] yX4_carries cX4_carries 3 (some .int) rm_X4_carries f_X4_carries :=
  mm_met (rt := 0) (by decide +kernel) ⟨fun h => rfl, fun h => absurd h (by decide), fun h => absurd h (by decide), fun h => absurd h (by decide)⟩ tbX4_carries_ok hsnM okFX4 okLX4 (fun _ h => absurd h List.not_mem_nil) (fun _ _ _ _ => rfl) (fun _ _ _ _ => rfl) (List.forall_mem_cons.mpr ⟨sV_X4_crewIs (Or.inl lk_X4_139) rfl ⟨by decide, by decide⟩, fun _ h => absurd h List.not_mem_nil⟩) (fun _ h => absurd h List.not_mem_nil)
noncomputable def sX4_carries_7 (y1 : Int32) (y2 : Int32) (z : mm_S) : Option (Int32 × mm_S) := (sX4_crewIs y1 0 z).bind fun q2 => if q2.1 = 1 then some ((8 * y2), q2.2) else if q2.1 = 2 then some (((8 * y2) + 5), q2.2) else if q2.1 = 3 then some (((9 * y2) + 5), q2.2) else if q2.1 = 4 then some ((2 * y2), q2.2) else if q2.1 = 5 then some (0, q2.2) else some ((4 * y2), q2.2)
theorem kX4_carries_7 (y1 : Int32) (y2 : Int32) (z : mm_S) (oo : mm_R) : mm_Xs (sX4_carries_7 y1 y2 z) (fun v => (fun v : Int32 × mm_S => ((some (mm_I v.1), v.2) : mm_R)) v = oo) (fun n => eX4_carries_7 n y1 y2 z) oo :=
  xs_row (fun n => qX4_carries_7 n y1 y2 z) (xs_bd fun q2 => (xs_if (xs_v fun hc => ⟨0, congrArg some hc⟩) (xs_if (xs_v fun hc => ⟨0, congrArg some hc⟩) (xs_if (xs_v fun hc => ⟨0, congrArg some hc⟩) (xs_if (xs_v fun hc => ⟨0, congrArg some hc⟩) (xs_if (xs_v fun hc => ⟨0, congrArg some hc⟩) (xs_v fun hc => ⟨0, congrArg some hc⟩)))))))
noncomputable def sX4_carries_0 (x1 : Int32) (z : mm_S) : Option (Int32 × mm_S) := (sX4_crewIs x1 2 z).bind fun q1 => (sX4_carries_7 x1 q1.1 q1.2)
theorem kX4_carries_0 (x1 : Int32) (z : mm_S) (oo : mm_R) : mm_Xs (sX4_carries_0 x1 z) (fun v => (fun v : Int32 × mm_S => ((some (mm_I v.1), v.2) : mm_R)) v = oo) (fun n => eX4_carries_0 n x1 z) oo :=
  xs_row (fun n => qX4_carries_0 n x1 z) (xs_bd fun q1 => (kX4_carries_7 x1 q1.1 q1.2 oo))
noncomputable def sX4_carries (x1 : Int32) (z : mm_S) : Option (Int32 × mm_S) := sX4_carries_0 x1 z
theorem sp_X4_carries (x1 : Int32) (z : mm_S) (hk : ∀ v ∈ [mm_P 4 0, mm_I x1], mm_ok 22 lyTM 22 17 v) (q : Int32 × mm_S) (hq : sX4_carries x1 z = some q) : f_X4_carries [mm_P 4 0, mm_I x1] z (some (mm_I q.1), q.2) := ⟨Nat.le_of_ble_eq_true rfl, kX4_carries_0 x1 z _ q hq rfl⟩
noncomputable def clo_X4_carries (as : List mm_V) (z : mm_S) (kk : Option mm_V → mm_S → Option mm_R) : Option mm_R := mm_pr as fun t o0 as => bif Nat.beq t 4 then mm_pi as fun a1 as => (match as with | [] => (sX4_carries a1 z).bind fun q => kk (some (mm_I q.1)) q.2 | _ => none) else none
theorem cs_X4_carries : mm_cs lyTM 22 22 17 f_X4_carries clo_X4_carries := by
  intro as z K o hk h
  obtain ⟨t0, o0, r0, rfl, g0⟩ := mm_pr_e h
  obtain ⟨b0, k0⟩ := mm_bif_e g0
  obtain rfl := Nat.eq_of_beq_eq_true b0
  obtain ⟨a1, r1, rfl, g1⟩ := mm_pi_e k0
  rcases r1 with _ | ⟨u, w⟩
  rotate_left
  · cases g1
  obtain rfl : o0 = 0 := ok4 (hk (mm_P 4 o0) (by simp))
  obtain ⟨q, hq, hq2⟩ := Option.bind_eq_some_iff.mp g1
  exact ⟨_, _, sp_X4_carries a1 z hk q hq, fun v hv => by cases hv; exact Or.inl ⟨_, rfl⟩, hq2⟩
theorem sV_X4_carries {own : String} {R : Room} {ar : Nat → Nat} {k : Nat} (hlink : Cond.methodLink own k yX4_carries ∈ lw_gd ∨ ∃ host, (own, k, yX4_carries, host) ∈ nmA) (har : ar k = 2) (hr : 3 ≤ R.frames ∧ 65 ≤ R.locals) : mm_okV lyTM lyFA lenM snM 22 22 17 roM rsA nfA nmA [] own R ar k clo_X4_carries := by
  refine ⟨yX4_carries, cX4_carries, 3, some .int, rm_X4_carries, f_X4_carries, 4, 1, (RX4, TX4, 36), M_X4_carries, cs_X4_carries, hlink, ⟨wv_X4_carries, wz_X4_carries, wi_X4_carries, wc_X4_carries⟩, ⟨by decide +kernel, by decide +kernel, by decide +kernel⟩, har, ⟨rfl, rfl, by decide⟩, ?_, ⟨rfl, rfl, hr.1, hr.2⟩⟩
  intro as z K o h
  obtain ⟨t0, o0, r0, rfl, g0⟩ := mm_pr_e h
  obtain ⟨b0, k0⟩ := mm_bif_e g0
  obtain rfl := Nat.eq_of_beq_eq_true b0
  exact ⟨_, _, rfl⟩
-- X4_starts
noncomputable def lV_X4_starts : List (Nat × (List mm_V → mm_S → (Option mm_V → mm_S → Option mm_R) → Option mm_R)) := [(139, clo_X4_crewIs)]
noncomputable def mV_X4_starts (k : Nat) (as : List mm_V) (z : mm_S) (kk : Option mm_V → mm_S → Option mm_R) : Option mm_R := match mm_at lV_X4_starts k with
  | some f => f as z kk
  | none => none
noncomputable def arV_X4_starts (k : Nat) : Nat := (mm_at [(139, 3)] k).getD 0
noncomputable def lS_X4_starts : List (Nat × (List mm_V → mm_S → (Option mm_V → mm_S → Option mm_R) → Option mm_R)) := [(142, clo_X4_isUnder)]
noncomputable def mS_X4_starts (k : Nat) (as : List mm_V) (z : mm_S) (kk : Option mm_V → mm_S → Option mm_R) : Option mm_R := match mm_at lS_X4_starts k with
  | some f => f as z kk
  | none => none
noncomputable def arS_X4_starts (k : Nat) : Nat := (mm_at [(142, 2)] k).getD 0
def ct_X4_starts : List (Nat × List Nat) := [(7, [2]), (29, [])]
noncomputable def go_X4_starts : Nat → mm_K := mm_go (fun k => mm_at flX4 k) (fun k => mm_at clX4 k) (fun k => mm_at glX4 k) arV_X4_starts arS_X4_starts mV_X4_starts mS_X4_starts lenM roM snM 3 0 tbX4_starts ct_X4_starts
noncomputable def eX4_starts_0 (n : Nat)  (x1 : Int32) (z : mm_S) : Option mm_R := go_X4_starts n 0 [(0, mm_P 4 0), (1, mm_I x1)] [] z
noncomputable def eX4_starts_7 (n : Nat) (y2 : Int32) (z : mm_S) : Option mm_R := go_X4_starts n 7 [(2, mm_I y2)] [] z
noncomputable def eX4_starts_29 (n : Nat)  (z : mm_S) : Option mm_R := go_X4_starts n 29 [] [] z
set_option maxRecDepth 100000 in
theorem qX4_starts_0 (n : Nat)  (x1 : Int32) (z : mm_S) : eX4_starts_0 (n + 1) x1 z = ((sX4_crewIs x1 0 z).bind fun q1 => eX4_starts_7 n q1.1 q1.2) := rfl
set_option maxRecDepth 100000 in
theorem qX4_starts_7 (n : Nat) (y2 : Int32) (z : mm_S) : eX4_starts_7 (n + 1) y2 z = (if y2 = 2 then some (some (mm_I 1), z) else if y2 = 3 then eX4_starts_29 n  z else (sX4_isUnder y2 4 z).bind fun q2 => if q2.1 = 0 then some (some (mm_I 0), q2.2) else eX4_starts_29 n  q2.2) := rfl
set_option maxRecDepth 100000 in
theorem qX4_starts_29 (n : Nat)  (z : mm_S) : eX4_starts_29 (n + 1)  z = (some (some (mm_I 2), z)) := rfl
def rm_X4_starts : Room := { frames := 2, cells := 0, slots := 0, locals := 43 }
noncomputable def f_X4_starts (as : List mm_V) (z : mm_S) (o : mm_R) : Prop := (as.map mm_cat).sum ≤ 3 ∧ ∃ n, go_X4_starts n 0 (mm_ar 0 as) [] z = some o
theorem M_X4_starts : mm_M lyTM lyFA lenM snM 22 22 17 roM rsA nfA nmA [] yX4_starts cX4_starts 3 (some .int) rm_X4_starts f_X4_starts :=
  mm_met (rt := 0) (by decide +kernel) ⟨fun h => rfl, fun h => absurd h (by decide), fun h => absurd h (by decide), fun h => absurd h (by decide)⟩ tbX4_starts_ok hsnM okFX4 okLX4 (fun _ h => absurd h List.not_mem_nil) (fun _ _ _ _ => rfl) (fun _ _ _ _ => rfl) (List.forall_mem_cons.mpr ⟨sV_X4_crewIs (Or.inl lk_X4_139) rfl ⟨by decide, by decide⟩, fun _ h => absurd h List.not_mem_nil⟩) (List.forall_mem_cons.mpr ⟨sS_X4_isUnder (Or.inl lk_X4_142) rfl ⟨by decide, by decide⟩, fun _ h => absurd h List.not_mem_nil⟩)
noncomputable def sX4_starts_29  (z : mm_S) : Option (Int32 × mm_S) := some (2, z)
theorem kX4_starts_29  (z : mm_S) (oo : mm_R) : mm_Xs (sX4_starts_29  z) (fun v => (fun v : Int32 × mm_S => ((some (mm_I v.1), v.2) : mm_R)) v = oo) (fun n => eX4_starts_29 n  z) oo :=
  xs_row (fun n => qX4_starts_29 n z) (xs_v fun hc => ⟨0, congrArg some hc⟩)
noncomputable def sX4_starts_7 (y2 : Int32) (z : mm_S) : Option (Int32 × mm_S) := if y2 = 2 then some (1, z) else if y2 = 3 then (sX4_starts_29 z) else (sX4_isUnder y2 4 z).bind fun q2 => if q2.1 = 0 then some (0, q2.2) else (sX4_starts_29 q2.2)
theorem kX4_starts_7 (y2 : Int32) (z : mm_S) (oo : mm_R) : mm_Xs (sX4_starts_7 y2 z) (fun v => (fun v : Int32 × mm_S => ((some (mm_I v.1), v.2) : mm_R)) v = oo) (fun n => eX4_starts_7 n y2 z) oo :=
  xs_row (fun n => qX4_starts_7 n y2 z) (xs_if (xs_v fun hc => ⟨0, congrArg some hc⟩) (xs_if (kX4_starts_29 z oo) (xs_bd fun q2 => (xs_if (xs_v fun hc => ⟨0, congrArg some hc⟩) (kX4_starts_29 q2.2 oo)))))
noncomputable def sX4_starts_0 (x1 : Int32) (z : mm_S) : Option (Int32 × mm_S) := (sX4_crewIs x1 0 z).bind fun q1 => (sX4_starts_7 q1.1 q1.2)
theorem kX4_starts_0 (x1 : Int32) (z : mm_S) (oo : mm_R) : mm_Xs (sX4_starts_0 x1 z) (fun v => (fun v : Int32 × mm_S => ((some (mm_I v.1), v.2) : mm_R)) v = oo) (fun n => eX4_starts_0 n x1 z) oo :=
  xs_row (fun n => qX4_starts_0 n x1 z) (xs_bd fun q1 => (kX4_starts_7 q1.1 q1.2 oo))
noncomputable def sX4_starts (x1 : Int32) (z : mm_S) : Option (Int32 × mm_S) := sX4_starts_0 x1 z
theorem sp_X4_starts (x1 : Int32) (z : mm_S) (hk : ∀ v ∈ [mm_P 4 0, mm_I x1], mm_ok 22 lyTM 22 17 v) (q : Int32 × mm_S) (hq : sX4_starts x1 z = some q) : f_X4_starts [mm_P 4 0, mm_I x1] z (some (mm_I q.1), q.2) := ⟨Nat.le_of_ble_eq_true rfl, kX4_starts_0 x1 z _ q hq rfl⟩
noncomputable def clo_X4_starts (as : List mm_V) (z : mm_S) (kk : Option mm_V → mm_S → Option mm_R) : Option mm_R := mm_pr as fun t o0 as => bif Nat.beq t 4 then mm_pi as fun a1 as => (match as with | [] => (sX4_starts a1 z).bind fun q => kk (some (mm_I q.1)) q.2 | _ => none) else none
theorem cs_X4_starts : mm_cs lyTM 22 22 17 f_X4_starts clo_X4_starts := by
  intro as z K o hk h
  obtain ⟨t0, o0, r0, rfl, g0⟩ := mm_pr_e h
  obtain ⟨b0, k0⟩ := mm_bif_e g0
  obtain rfl := Nat.eq_of_beq_eq_true b0
  obtain ⟨a1, r1, rfl, g1⟩ := mm_pi_e k0
  rcases r1 with _ | ⟨u, w⟩
  rotate_left
  · cases g1
  obtain rfl : o0 = 0 := ok4 (hk (mm_P 4 o0) (by simp))
  obtain ⟨q, hq, hq2⟩ := Option.bind_eq_some_iff.mp g1
  exact ⟨_, _, sp_X4_starts a1 z hk q hq, fun v hv => by cases hv; exact Or.inl ⟨_, rfl⟩, hq2⟩
theorem sV_X4_starts {own : String} {R : Room} {ar : Nat → Nat} {k : Nat} (hlink : Cond.methodLink own k yX4_starts ∈ lw_gd ∨ ∃ host, (own, k, yX4_starts, host) ∈ nmA) (har : ar k = 2) (hr : 3 ≤ R.frames ∧ 65 ≤ R.locals) : mm_okV lyTM lyFA lenM snM 22 22 17 roM rsA nfA nmA [] own R ar k clo_X4_starts := by
  refine ⟨yX4_starts, cX4_starts, 3, some .int, rm_X4_starts, f_X4_starts, 4, 1, (RX4, TX4, 36), M_X4_starts, cs_X4_starts, hlink, ⟨wv_X4_starts, wz_X4_starts, wi_X4_starts, wc_X4_starts⟩, ⟨by decide +kernel, by decide +kernel, by decide +kernel⟩, har, ⟨rfl, rfl, by decide⟩, ?_, ⟨rfl, rfl, hr.1, hr.2⟩⟩
  intro as z K o h
  obtain ⟨t0, o0, r0, rfl, g0⟩ := mm_pr_e h
  obtain ⟨b0, k0⟩ := mm_bif_e g0
  obtain rfl := Nat.eq_of_beq_eq_true b0
  exact ⟨_, _, rfl⟩
-- X4_hearsBy
noncomputable def lV_X4_hearsBy : List (Nat × (List mm_V → mm_S → (Option mm_V → mm_S → Option mm_R) → Option mm_R)) := [(139, clo_X4_crewIs)]
noncomputable def mV_X4_hearsBy (k : Nat) (as : List mm_V) (z : mm_S) (kk : Option mm_V → mm_S → Option mm_R) : Option mm_R := match mm_at lV_X4_hearsBy k with
  | some f => f as z kk
  | none => none
noncomputable def arV_X4_hearsBy (k : Nat) : Nat := (mm_at [(139, 3)] k).getD 0
noncomputable def lS_X4_hearsBy : List (Nat × (List mm_V → mm_S → (Option mm_V → mm_S → Option mm_R) → Option mm_R)) := [(142, clo_X4_isUnder)]
noncomputable def mS_X4_hearsBy (k : Nat) (as : List mm_V) (z : mm_S) (kk : Option mm_V → mm_S → Option mm_R) : Option mm_R := match mm_at lS_X4_hearsBy k with
  | some f => f as z kk
  | none => none
noncomputable def arS_X4_hearsBy (k : Nat) : Nat := (mm_at [(142, 2)] k).getD 0
def ct_X4_hearsBy : List (Nat × List Nat) := [(7, [2]), (35, [])]
noncomputable def go_X4_hearsBy : Nat → mm_K := mm_go (fun k => mm_at flX4 k) (fun k => mm_at clX4 k) (fun k => mm_at glX4 k) arV_X4_hearsBy arS_X4_hearsBy mV_X4_hearsBy mS_X4_hearsBy lenM roM snM 3 0 tbX4_hearsBy ct_X4_hearsBy
noncomputable def eX4_hearsBy_0 (n : Nat)  (x1 : Int32) (z : mm_S) : Option mm_R := go_X4_hearsBy n 0 [(0, mm_P 4 0), (1, mm_I x1)] [] z
noncomputable def eX4_hearsBy_7 (n : Nat) (y2 : Int32) (z : mm_S) : Option mm_R := go_X4_hearsBy n 7 [(2, mm_I y2)] [] z
noncomputable def eX4_hearsBy_35 (n : Nat)  (z : mm_S) : Option mm_R := go_X4_hearsBy n 35 [] [] z
set_option maxRecDepth 100000 in
theorem qX4_hearsBy_0 (n : Nat)  (x1 : Int32) (z : mm_S) : eX4_hearsBy_0 (n + 1) x1 z = ((sX4_crewIs x1 0 z).bind fun q1 => eX4_hearsBy_7 n q1.1 q1.2) := rfl
set_option maxRecDepth 100000 in
theorem qX4_hearsBy_7 (n : Nat) (y2 : Int32) (z : mm_S) : eX4_hearsBy_7 (n + 1) y2 z = (if y2 = 6 then some (some (mm_I (-1)), z) else if y2 = 3 then some (some (mm_I 40), z) else (sX4_isUnder y2 4 z).bind fun q2 => if q2.1 = 0 then some (some (mm_I 60), q2.2) else eX4_hearsBy_35 n  q2.2) := rfl
set_option maxRecDepth 100000 in
theorem qX4_hearsBy_35 (n : Nat)  (z : mm_S) : eX4_hearsBy_35 (n + 1)  z = (some (some (mm_I 30), z)) := rfl
def rm_X4_hearsBy : Room := { frames := 2, cells := 0, slots := 0, locals := 43 }
noncomputable def f_X4_hearsBy (as : List mm_V) (z : mm_S) (o : mm_R) : Prop := (as.map mm_cat).sum ≤ 3 ∧ ∃ n, go_X4_hearsBy n 0 (mm_ar 0 as) [] z = some o
theorem M_X4_hearsBy : mm_M lyTM lyFA lenM snM 22 22 17 roM rsA nfA nmA [] yX4_hearsBy cX4_hearsBy 3 (some .int) rm_X4_hearsBy f_X4_hearsBy :=
  mm_met (rt := 0) (by decide +kernel) ⟨fun h => rfl, fun h => absurd h (by decide), fun h => absurd h (by decide), fun h => absurd h (by decide)⟩ tbX4_hearsBy_ok hsnM okFX4 okLX4 (fun _ h => absurd h List.not_mem_nil) (fun _ _ _ _ => rfl) (fun _ _ _ _ => rfl) (List.forall_mem_cons.mpr ⟨sV_X4_crewIs (Or.inl lk_X4_139) rfl ⟨by decide, by decide⟩, fun _ h => absurd h List.not_mem_nil⟩) (List.forall_mem_cons.mpr ⟨sS_X4_isUnder (Or.inl lk_X4_142) rfl ⟨by decide, by decide⟩, fun _ h => absurd h List.not_mem_nil⟩)
noncomputable def sX4_hearsBy_35  (z : mm_S) : Option (Int32 × mm_S) := some (30, z)
theorem kX4_hearsBy_35  (z : mm_S) (oo : mm_R) : mm_Xs (sX4_hearsBy_35  z) (fun v => (fun v : Int32 × mm_S => ((some (mm_I v.1), v.2) : mm_R)) v = oo) (fun n => eX4_hearsBy_35 n  z) oo :=
  xs_row (fun n => qX4_hearsBy_35 n z) (xs_v fun hc => ⟨0, congrArg some hc⟩)
noncomputable def sX4_hearsBy_7 (y2 : Int32) (z : mm_S) : Option (Int32 × mm_S) := if y2 = 6 then some ((-1), z) else if y2 = 3 then some (40, z) else (sX4_isUnder y2 4 z).bind fun q2 => if q2.1 = 0 then some (60, q2.2) else (sX4_hearsBy_35 q2.2)
theorem kX4_hearsBy_7 (y2 : Int32) (z : mm_S) (oo : mm_R) : mm_Xs (sX4_hearsBy_7 y2 z) (fun v => (fun v : Int32 × mm_S => ((some (mm_I v.1), v.2) : mm_R)) v = oo) (fun n => eX4_hearsBy_7 n y2 z) oo :=
  xs_row (fun n => qX4_hearsBy_7 n y2 z) (xs_if (xs_v fun hc => ⟨0, congrArg some hc⟩) (xs_if (xs_v fun hc => ⟨0, congrArg some hc⟩) (xs_bd fun q2 => (xs_if (xs_v fun hc => ⟨0, congrArg some hc⟩) (kX4_hearsBy_35 q2.2 oo)))))
noncomputable def sX4_hearsBy_0 (x1 : Int32) (z : mm_S) : Option (Int32 × mm_S) := (sX4_crewIs x1 0 z).bind fun q1 => (sX4_hearsBy_7 q1.1 q1.2)
theorem kX4_hearsBy_0 (x1 : Int32) (z : mm_S) (oo : mm_R) : mm_Xs (sX4_hearsBy_0 x1 z) (fun v => (fun v : Int32 × mm_S => ((some (mm_I v.1), v.2) : mm_R)) v = oo) (fun n => eX4_hearsBy_0 n x1 z) oo :=
  xs_row (fun n => qX4_hearsBy_0 n x1 z) (xs_bd fun q1 => (kX4_hearsBy_7 q1.1 q1.2 oo))
noncomputable def sX4_hearsBy (x1 : Int32) (z : mm_S) : Option (Int32 × mm_S) := sX4_hearsBy_0 x1 z
theorem sp_X4_hearsBy (x1 : Int32) (z : mm_S) (hk : ∀ v ∈ [mm_P 4 0, mm_I x1], mm_ok 22 lyTM 22 17 v) (q : Int32 × mm_S) (hq : sX4_hearsBy x1 z = some q) : f_X4_hearsBy [mm_P 4 0, mm_I x1] z (some (mm_I q.1), q.2) := ⟨Nat.le_of_ble_eq_true rfl, kX4_hearsBy_0 x1 z _ q hq rfl⟩
noncomputable def clo_X4_hearsBy (as : List mm_V) (z : mm_S) (kk : Option mm_V → mm_S → Option mm_R) : Option mm_R := mm_pr as fun t o0 as => bif Nat.beq t 4 then mm_pi as fun a1 as => (match as with | [] => (sX4_hearsBy a1 z).bind fun q => kk (some (mm_I q.1)) q.2 | _ => none) else none
theorem cs_X4_hearsBy : mm_cs lyTM 22 22 17 f_X4_hearsBy clo_X4_hearsBy := by
  intro as z K o hk h
  obtain ⟨t0, o0, r0, rfl, g0⟩ := mm_pr_e h
  obtain ⟨b0, k0⟩ := mm_bif_e g0
  obtain rfl := Nat.eq_of_beq_eq_true b0
  obtain ⟨a1, r1, rfl, g1⟩ := mm_pi_e k0
  rcases r1 with _ | ⟨u, w⟩
  rotate_left
  · cases g1
  obtain rfl : o0 = 0 := ok4 (hk (mm_P 4 o0) (by simp))
  obtain ⟨q, hq, hq2⟩ := Option.bind_eq_some_iff.mp g1
  exact ⟨_, _, sp_X4_hearsBy a1 z hk q hq, fun v hv => by cases hv; exact Or.inl ⟨_, rfl⟩, hq2⟩
theorem sV_X4_hearsBy {own : String} {R : Room} {ar : Nat → Nat} {k : Nat} (hlink : Cond.methodLink own k yX4_hearsBy ∈ lw_gd ∨ ∃ host, (own, k, yX4_hearsBy, host) ∈ nmA) (har : ar k = 2) (hr : 3 ≤ R.frames ∧ 65 ≤ R.locals) : mm_okV lyTM lyFA lenM snM 22 22 17 roM rsA nfA nmA [] own R ar k clo_X4_hearsBy := by
  refine ⟨yX4_hearsBy, cX4_hearsBy, 3, some .int, rm_X4_hearsBy, f_X4_hearsBy, 4, 1, (RX4, TX4, 36), M_X4_hearsBy, cs_X4_hearsBy, hlink, ⟨wv_X4_hearsBy, wz_X4_hearsBy, wi_X4_hearsBy, wc_X4_hearsBy⟩, ⟨by decide +kernel, by decide +kernel, by decide +kernel⟩, har, ⟨rfl, rfl, by decide⟩, ?_, ⟨rfl, rfl, hr.1, hr.2⟩⟩
  intro as z K o h
  obtain ⟨t0, o0, r0, rfl, g0⟩ := mm_pr_e h
  obtain ⟨b0, k0⟩ := mm_bif_e g0
  obtain rfl := Nat.eq_of_beq_eq_true b0
  exact ⟨_, _, rfl⟩
-- X4_of
noncomputable def lV_X4_of : List (Nat × (List mm_V → mm_S → (Option mm_V → mm_S → Option mm_R) → Option mm_R)) := [(124, clo_X4_finding), (139, clo_X4_crewIs), (146, clo_X4_isCrew), (149, clo_X4_carries), (152, clo_X4_starts), (155, clo_X4_hearsBy)]
noncomputable def mV_X4_of (k : Nat) (as : List mm_V) (z : mm_S) (kk : Option mm_V → mm_S → Option mm_R) : Option mm_R := match mm_at lV_X4_of k with
  | some f => f as z kk
  | none => none
noncomputable def arV_X4_of (k : Nat) : Nat := (mm_at [(124, 2), (139, 3), (146, 2), (149, 2), (152, 2), (155, 2)] k).getD 0
noncomputable def lS_X4_of : List (Nat × (List mm_V → mm_S → (Option mm_V → mm_S → Option mm_R) → Option mm_R)) := [(106, clo_X4_within)]
noncomputable def mS_X4_of (k : Nat) (as : List mm_V) (z : mm_S) (kk : Option mm_V → mm_S → Option mm_R) : Option mm_R := match mm_at lS_X4_of k with
  | some f => f as z kk
  | none => none
noncomputable def arS_X4_of (k : Nat) : Nat := (mm_at [(106, 3)] k).getD 0
def ct_X4_of : List (Nat × List Nat) := [(24, [0, 1, 2]), (38, [0, 1, 2]), (51, [0, 1, 2]), (64, [0, 1])]
noncomputable def go_X4_of : Nat → mm_K := mm_go (fun k => mm_at flX4 k) (fun k => mm_at clX4 k) (fun k => mm_at glX4 k) arV_X4_of arS_X4_of mV_X4_of mS_X4_of lenM roM snM 3 0 tbX4_of ct_X4_of
noncomputable def eX4_of_0 (n : Nat)  (x1 : Int32) (x2 : Int32) (z : mm_S) : Option mm_R := go_X4_of n 0 [(0, mm_P 4 0), (1, mm_I x1), (2, mm_I x2)] [] z
noncomputable def eX4_of_24 (n : Nat)  (y1 : Int32) (y2 : Int32) (z : mm_S) : Option mm_R := go_X4_of n 24 [(0, mm_P 4 0), (1, mm_I y1), (2, mm_I y2)] [] z
noncomputable def eX4_of_38 (n : Nat)  (y1 : Int32) (y2 : Int32) (z : mm_S) : Option mm_R := go_X4_of n 38 [(0, mm_P 4 0), (1, mm_I y1), (2, mm_I y2)] [] z
noncomputable def eX4_of_51 (n : Nat)  (y1 : Int32) (y2 : Int32) (z : mm_S) : Option mm_R := go_X4_of n 51 [(0, mm_P 4 0), (1, mm_I y1), (2, mm_I y2)] [] z
noncomputable def eX4_of_64 (n : Nat)  (y1 : Int32) (z : mm_S) : Option mm_R := go_X4_of n 64 [(0, mm_P 4 0), (1, mm_I y1)] [] z
set_option maxRecDepth 100000 in
theorem qX4_of_0 (n : Nat)  (x1 : Int32) (x2 : Int32) (z : mm_S) : eX4_of_0 (n + 1) x1 x2 z = (if (pX4_isCrew x1 z) = 0 then (sX4_finding (-1000001) z).bind fun q1 => some (some (mm_I q1.1), q1.2) else if (pX4_within x2 0 5) = 0 then (sX4_finding (-1000001) z).bind fun q2 => some (some (mm_I q2.1), q2.2) else eX4_of_24 n x1 x2 z) := rfl
set_option maxRecDepth 100000 in
theorem qX4_of_24 (n : Nat)  (y1 : Int32) (y2 : Int32) (z : mm_S) : eX4_of_24 (n + 1) y1 y2 z = (if 3 ≤ y2 then eX4_of_38 n y1 y2 z else (sX4_crewIs y1 y2 z).bind fun q3 => some (some (mm_I q3.1), q3.2)) := rfl
set_option maxRecDepth 100000 in
theorem qX4_of_38 (n : Nat)  (y1 : Int32) (y2 : Int32) (z : mm_S) : eX4_of_38 (n + 1) y1 y2 z = (if y2 = 3 then (sX4_carries y1 z).bind fun q4 => some (some (mm_I q4.1), q4.2) else eX4_of_51 n y1 y2 z) := rfl
set_option maxRecDepth 100000 in
theorem qX4_of_51 (n : Nat)  (y1 : Int32) (y2 : Int32) (z : mm_S) : eX4_of_51 (n + 1) y1 y2 z = (if y2 = 4 then (sX4_starts y1 z).bind fun q5 => some (some (mm_I q5.1), q5.2) else eX4_of_64 n y1 z) := rfl
set_option maxRecDepth 100000 in
theorem qX4_of_64 (n : Nat)  (y1 : Int32) (z : mm_S) : eX4_of_64 (n + 1) y1 z = ((sX4_hearsBy y1 z).bind fun q6 => some (some (mm_I q6.1), q6.2)) := rfl
def rm_X4_of : Room := { frames := 3, cells := 0, slots := 0, locals := 65 }
noncomputable def f_X4_of (as : List mm_V) (z : mm_S) (o : mm_R) : Prop := (as.map mm_cat).sum ≤ 3 ∧ ∃ n, go_X4_of n 0 (mm_ar 0 as) [] z = some o
theorem M_X4_of : mm_M lyTM lyFA lenM snM 22 22 17 roM rsA nfA nmA [] yX4_of cX4_of 3 (some .int) rm_X4_of f_X4_of :=
  mm_met (rt := 0) (by decide +kernel) ⟨fun h => rfl, fun h => absurd h (by decide), fun h => absurd h (by decide), fun h => absurd h (by decide)⟩ tbX4_of_ok hsnM okFX4 okLX4 (fun _ h => absurd h List.not_mem_nil) (fun _ _ _ _ => rfl) (fun _ _ _ _ => rfl) (List.forall_mem_cons.mpr ⟨sV_X4_finding (Or.inl lk_X4_124) rfl ⟨by decide, by decide⟩, List.forall_mem_cons.mpr ⟨sV_X4_crewIs (Or.inl lk_X4_139) rfl ⟨by decide, by decide⟩, List.forall_mem_cons.mpr ⟨sV_X4_isCrew (Or.inl lk_X4_146) rfl ⟨by decide, by decide⟩, List.forall_mem_cons.mpr ⟨sV_X4_carries (Or.inl lk_X4_149) rfl ⟨by decide, by decide⟩, List.forall_mem_cons.mpr ⟨sV_X4_starts (Or.inl lk_X4_152) rfl ⟨by decide, by decide⟩, List.forall_mem_cons.mpr ⟨sV_X4_hearsBy (Or.inl lk_X4_155) rfl ⟨by decide, by decide⟩, fun _ h => absurd h List.not_mem_nil⟩⟩⟩⟩⟩⟩) (List.forall_mem_cons.mpr ⟨sS_X4_within (Or.inl lk_X4_106) rfl ⟨by decide, by decide⟩, fun _ h => absurd h List.not_mem_nil⟩)
noncomputable def sX4_of_64 (y1 : Int32) (z : mm_S) : Option (Int32 × mm_S) := (sX4_hearsBy y1 z).bind fun q6 => some (q6.1, q6.2)
theorem kX4_of_64 (y1 : Int32) (z : mm_S) (oo : mm_R) : mm_Xs (sX4_of_64 y1 z) (fun v => (fun v : Int32 × mm_S => ((some (mm_I v.1), v.2) : mm_R)) v = oo) (fun n => eX4_of_64 n y1 z) oo :=
  xs_row (fun n => qX4_of_64 n y1 z) (xs_bd fun q6 => (xs_v fun hc => ⟨0, congrArg some hc⟩))
noncomputable def sX4_of_51 (y1 : Int32) (y2 : Int32) (z : mm_S) : Option (Int32 × mm_S) := if y2 = 4 then (sX4_starts y1 z).bind fun q5 => some (q5.1, q5.2) else (sX4_of_64 y1 z)
theorem kX4_of_51 (y1 : Int32) (y2 : Int32) (z : mm_S) (oo : mm_R) : mm_Xs (sX4_of_51 y1 y2 z) (fun v => (fun v : Int32 × mm_S => ((some (mm_I v.1), v.2) : mm_R)) v = oo) (fun n => eX4_of_51 n y1 y2 z) oo :=
  xs_row (fun n => qX4_of_51 n y1 y2 z) (xs_if (xs_bd fun q5 => (xs_v fun hc => ⟨0, congrArg some hc⟩)) (kX4_of_64 y1 z oo))
noncomputable def sX4_of_38 (y1 : Int32) (y2 : Int32) (z : mm_S) : Option (Int32 × mm_S) := if y2 = 3 then (sX4_carries y1 z).bind fun q4 => some (q4.1, q4.2) else (sX4_of_51 y1 y2 z)
theorem kX4_of_38 (y1 : Int32) (y2 : Int32) (z : mm_S) (oo : mm_R) : mm_Xs (sX4_of_38 y1 y2 z) (fun v => (fun v : Int32 × mm_S => ((some (mm_I v.1), v.2) : mm_R)) v = oo) (fun n => eX4_of_38 n y1 y2 z) oo :=
  xs_row (fun n => qX4_of_38 n y1 y2 z) (xs_if (xs_bd fun q4 => (xs_v fun hc => ⟨0, congrArg some hc⟩)) (kX4_of_51 y1 y2 z oo))
noncomputable def sX4_of_24 (y1 : Int32) (y2 : Int32) (z : mm_S) : Option (Int32 × mm_S) := if 3 ≤ y2 then (sX4_of_38 y1 y2 z) else (sX4_crewIs y1 y2 z).bind fun q3 => some (q3.1, q3.2)
theorem kX4_of_24 (y1 : Int32) (y2 : Int32) (z : mm_S) (oo : mm_R) : mm_Xs (sX4_of_24 y1 y2 z) (fun v => (fun v : Int32 × mm_S => ((some (mm_I v.1), v.2) : mm_R)) v = oo) (fun n => eX4_of_24 n y1 y2 z) oo :=
  xs_row (fun n => qX4_of_24 n y1 y2 z) (xs_if (kX4_of_38 y1 y2 z oo) (xs_bd fun q3 => (xs_v fun hc => ⟨0, congrArg some hc⟩)))
noncomputable def sX4_of_0 (x1 : Int32) (x2 : Int32) (z : mm_S) : Option (Int32 × mm_S) := if (pX4_isCrew x1 z) = 0 then (sX4_finding (-1000001) z).bind fun q1 => some (q1.1, q1.2) else if (pX4_within x2 0 5) = 0 then (sX4_finding (-1000001) z).bind fun q2 => some (q2.1, q2.2) else (sX4_of_24 x1 x2 z)
theorem kX4_of_0 (x1 : Int32) (x2 : Int32) (z : mm_S) (oo : mm_R) : mm_Xs (sX4_of_0 x1 x2 z) (fun v => (fun v : Int32 × mm_S => ((some (mm_I v.1), v.2) : mm_R)) v = oo) (fun n => eX4_of_0 n x1 x2 z) oo :=
  xs_row (fun n => qX4_of_0 n x1 x2 z) (xs_if (xs_bd fun q1 => (xs_v fun hc => ⟨0, congrArg some hc⟩)) (xs_if (xs_bd fun q2 => (xs_v fun hc => ⟨0, congrArg some hc⟩)) (kX4_of_24 x1 x2 z oo)))
noncomputable def sX4_of (x1 : Int32) (x2 : Int32) (z : mm_S) : Option (Int32 × mm_S) := sX4_of_0 x1 x2 z
theorem sp_X4_of (x1 : Int32) (x2 : Int32) (z : mm_S) (hk : ∀ v ∈ [mm_P 4 0, mm_I x1, mm_I x2], mm_ok 22 lyTM 22 17 v) (q : Int32 × mm_S) (hq : sX4_of x1 x2 z = some q) : f_X4_of [mm_P 4 0, mm_I x1, mm_I x2] z (some (mm_I q.1), q.2) := ⟨Nat.le_of_ble_eq_true rfl, kX4_of_0 x1 x2 z _ q hq rfl⟩
noncomputable def clo_X4_of (as : List mm_V) (z : mm_S) (kk : Option mm_V → mm_S → Option mm_R) : Option mm_R := mm_pr as fun t o0 as => bif Nat.beq t 4 then mm_pi as fun a1 as => mm_pi as fun a2 as => (match as with | [] => (sX4_of a1 a2 z).bind fun q => kk (some (mm_I q.1)) q.2 | _ => none) else none
theorem cs_X4_of : mm_cs lyTM 22 22 17 f_X4_of clo_X4_of := by
  intro as z K o hk h
  obtain ⟨t0, o0, r0, rfl, g0⟩ := mm_pr_e h
  obtain ⟨b0, k0⟩ := mm_bif_e g0
  obtain rfl := Nat.eq_of_beq_eq_true b0
  obtain ⟨a1, r1, rfl, g1⟩ := mm_pi_e k0
  obtain ⟨a2, r2, rfl, g2⟩ := mm_pi_e g1
  rcases r2 with _ | ⟨u, w⟩
  rotate_left
  · cases g2
  obtain rfl : o0 = 0 := ok4 (hk (mm_P 4 o0) (by simp))
  obtain ⟨q, hq, hq2⟩ := Option.bind_eq_some_iff.mp g2
  exact ⟨_, _, sp_X4_of a1 a2 z hk q hq, fun v hv => by cases hv; exact Or.inl ⟨_, rfl⟩, hq2⟩
theorem sV_X4_of {own : String} {R : Room} {ar : Nat → Nat} {k : Nat} (hlink : Cond.methodLink own k yX4_of ∈ lw_gd ∨ ∃ host, (own, k, yX4_of, host) ∈ nmA) (har : ar k = 3) (hr : 4 ≤ R.frames ∧ 87 ≤ R.locals) : mm_okV lyTM lyFA lenM snM 22 22 17 roM rsA nfA nmA [] own R ar k clo_X4_of := by
  refine ⟨yX4_of, cX4_of, 3, some .int, rm_X4_of, f_X4_of, 4, 2, (RX4, TX4, 36), M_X4_of, cs_X4_of, hlink, ⟨wv_X4_of, wz_X4_of, wi_X4_of, wc_X4_of⟩, ⟨by decide +kernel, by decide +kernel, by decide +kernel⟩, har, ⟨rfl, rfl, by decide⟩, ?_, ⟨rfl, rfl, hr.1, hr.2⟩⟩
  intro as z K o h
  obtain ⟨t0, o0, r0, rfl, g0⟩ := mm_pr_e h
  obtain ⟨b0, k0⟩ := mm_bif_e g0
  obtain rfl := Nat.eq_of_beq_eq_true b0
  exact ⟨_, _, rfl⟩
-- X4_change
noncomputable def lV_X4_change : List (Nat × (List mm_V → mm_S → (Option mm_V → mm_S → Option mm_R) → Option mm_R)) := [(121, clo_X4_become), (124, clo_X4_finding), (146, clo_X4_isCrew)]
noncomputable def mV_X4_change (k : Nat) (as : List mm_V) (z : mm_S) (kk : Option mm_V → mm_S → Option mm_R) : Option mm_R := match mm_at lV_X4_change k with
  | some f => f as z kk
  | none => none
noncomputable def arV_X4_change (k : Nat) : Nat := (mm_at [(121, 3), (124, 2), (146, 2)] k).getD 0
noncomputable def lS_X4_change : List (Nat × (List mm_V → mm_S → (Option mm_V → mm_S → Option mm_R) → Option mm_R)) := [(106, clo_X4_within), (110, clo_X4_at), (114, clo_X4_isCell), (128, clo_X4_isKind)]
noncomputable def mS_X4_change (k : Nat) (as : List mm_V) (z : mm_S) (kk : Option mm_V → mm_S → Option mm_R) : Option mm_R := match mm_at lS_X4_change k with
  | some f => f as z kk
  | none => none
noncomputable def arS_X4_change (k : Nat) : Nat := (mm_at [(106, 3), (110, 2), (114, 1), (128, 1)] k).getD 0
def ct_X4_change : List (Nat × List Nat) := [(71, [0])]
noncomputable def go_X4_change : Nat → mm_K := mm_go (fun k => mm_at flX4 k) (fun k => mm_at clX4 k) (fun k => mm_at glX4 k) arV_X4_change arS_X4_change mV_X4_change mS_X4_change lenM roM snM 5 0 tbX4_change ct_X4_change
noncomputable def eX4_change_0 (n : Nat)  (x1 : Int32) (x2 : Int32) (x3 : Int32) (z : mm_S) : Option mm_R := go_X4_change n 0 [(0, mm_P 4 0), (1, mm_I x1), (2, mm_I x2), (3, mm_I x3)] [] z
noncomputable def eX4_change_71 (n : Nat)  (z : mm_S) : Option mm_R := go_X4_change n 71 [(0, mm_P 4 0)] [] z
set_option maxRecDepth 100000 in
theorem qX4_change_0 (n : Nat)  (x1 : Int32) (x2 : Int32) (x3 : Int32) (z : mm_S) : eX4_change_0 (n + 1) x1 x2 x3 z = (if x2 = 0 then if (pX4_isKind x3) = 0 then if x2 = 1 then if (pX4_isCell x3) = 0 then if x2 = 2 then if (pX4_within x3 1 20) = 0 then if (pX4_isCrew x1 z) = 0 then eX4_change_71 n  z else eX4_change_71 n  z else if (pX4_isCrew x1 z) = 0 then eX4_change_71 n  z else (sX4_become (pX4_at x1 x2) x3 z).bind fun q7 => some (some (mm_I q7.1), q7.2) else if (pX4_isCrew x1 z) = 0 then eX4_change_71 n  z else eX4_change_71 n  z else if (pX4_isCrew x1 z) = 0 then eX4_change_71 n  z else (sX4_become (pX4_at x1 x2) x3 z).bind fun q6 => some (some (mm_I q6.1), q6.2) else if x2 = 2 then if (pX4_within x3 1 20) = 0 then if (pX4_isCrew x1 z) = 0 then eX4_change_71 n  z else eX4_change_71 n  z else if (pX4_isCrew x1 z) = 0 then eX4_change_71 n  z else (sX4_become (pX4_at x1 x2) x3 z).bind fun q5 => some (some (mm_I q5.1), q5.2) else if (pX4_isCrew x1 z) = 0 then eX4_change_71 n  z else eX4_change_71 n  z else if (pX4_isCrew x1 z) = 0 then eX4_change_71 n  z else (sX4_become (pX4_at x1 x2) x3 z).bind fun q4 => some (some (mm_I q4.1), q4.2) else if x2 = 1 then if (pX4_isCell x3) = 0 then if x2 = 2 then if (pX4_within x3 1 20) = 0 then if (pX4_isCrew x1 z) = 0 then eX4_change_71 n  z else eX4_change_71 n  z else if (pX4_isCrew x1 z) = 0 then eX4_change_71 n  z else (sX4_become (pX4_at x1 x2) x3 z).bind fun q3 => some (some (mm_I q3.1), q3.2) else if (pX4_isCrew x1 z) = 0 then eX4_change_71 n  z else eX4_change_71 n  z else if (pX4_isCrew x1 z) = 0 then eX4_change_71 n  z else (sX4_become (pX4_at x1 x2) x3 z).bind fun q2 => some (some (mm_I q2.1), q2.2) else if x2 = 2 then if (pX4_within x3 1 20) = 0 then if (pX4_isCrew x1 z) = 0 then eX4_change_71 n  z else eX4_change_71 n  z else if (pX4_isCrew x1 z) = 0 then eX4_change_71 n  z else (sX4_become (pX4_at x1 x2) x3 z).bind fun q1 => some (some (mm_I q1.1), q1.2) else if (pX4_isCrew x1 z) = 0 then eX4_change_71 n  z else eX4_change_71 n  z) := rfl
set_option maxRecDepth 100000 in
theorem qX4_change_71 (n : Nat)  (z : mm_S) : eX4_change_71 (n + 1)  z = ((sX4_finding (-1000001) z).bind fun q8 => some (some (mm_I q8.1), q8.2)) := rfl
def rm_X4_change : Room := { frames := 2, cells := 0, slots := 0, locals := 43 }
noncomputable def f_X4_change (as : List mm_V) (z : mm_S) (o : mm_R) : Prop := (as.map mm_cat).sum ≤ 5 ∧ ∃ n, go_X4_change n 0 (mm_ar 0 as) [] z = some o
theorem M_X4_change : mm_M lyTM lyFA lenM snM 22 22 17 roM rsA nfA nmA [] yX4_change cX4_change 5 (some .int) rm_X4_change f_X4_change :=
  mm_met (rt := 0) (by decide +kernel) ⟨fun h => rfl, fun h => absurd h (by decide), fun h => absurd h (by decide), fun h => absurd h (by decide)⟩ tbX4_change_ok hsnM okFX4 okLX4 (fun _ h => absurd h List.not_mem_nil) (fun _ _ _ _ => rfl) (fun _ _ _ _ => rfl) (List.forall_mem_cons.mpr ⟨sV_X4_become (Or.inl lk_X4_121) rfl ⟨by decide, by decide⟩, List.forall_mem_cons.mpr ⟨sV_X4_finding (Or.inl lk_X4_124) rfl ⟨by decide, by decide⟩, List.forall_mem_cons.mpr ⟨sV_X4_isCrew (Or.inl lk_X4_146) rfl ⟨by decide, by decide⟩, fun _ h => absurd h List.not_mem_nil⟩⟩⟩) (List.forall_mem_cons.mpr ⟨sS_X4_within (Or.inl lk_X4_106) rfl ⟨by decide, by decide⟩, List.forall_mem_cons.mpr ⟨sS_X4_at (Or.inl lk_X4_110) rfl ⟨by decide, by decide⟩, List.forall_mem_cons.mpr ⟨sS_X4_isCell (Or.inl lk_X4_114) rfl ⟨by decide, by decide⟩, List.forall_mem_cons.mpr ⟨sS_X4_isKind (Or.inl lk_X4_128) rfl ⟨by decide, by decide⟩, fun _ h => absurd h List.not_mem_nil⟩⟩⟩⟩)
noncomputable def sX4_change_71  (z : mm_S) : Option (Int32 × mm_S) := (sX4_finding (-1000001) z).bind fun q8 => some (q8.1, q8.2)
theorem kX4_change_71  (z : mm_S) (oo : mm_R) : mm_Xs (sX4_change_71  z) (fun v => (fun v : Int32 × mm_S => ((some (mm_I v.1), v.2) : mm_R)) v = oo) (fun n => eX4_change_71 n  z) oo :=
  xs_row (fun n => qX4_change_71 n z) (xs_bd fun q8 => (xs_v fun hc => ⟨0, congrArg some hc⟩))
noncomputable def sX4_change_0 (x1 : Int32) (x2 : Int32) (x3 : Int32) (z : mm_S) : Option (Int32 × mm_S) := if x2 = 0 then if (pX4_isKind x3) = 0 then if x2 = 1 then if (pX4_isCell x3) = 0 then if x2 = 2 then if (pX4_within x3 1 20) = 0 then if (pX4_isCrew x1 z) = 0 then (sX4_change_71 z) else (sX4_change_71 z) else if (pX4_isCrew x1 z) = 0 then (sX4_change_71 z) else (sX4_become (pX4_at x1 x2) x3 z).bind fun q7 => some (q7.1, q7.2) else if (pX4_isCrew x1 z) = 0 then (sX4_change_71 z) else (sX4_change_71 z) else if (pX4_isCrew x1 z) = 0 then (sX4_change_71 z) else (sX4_become (pX4_at x1 x2) x3 z).bind fun q6 => some (q6.1, q6.2) else if x2 = 2 then if (pX4_within x3 1 20) = 0 then if (pX4_isCrew x1 z) = 0 then (sX4_change_71 z) else (sX4_change_71 z) else if (pX4_isCrew x1 z) = 0 then (sX4_change_71 z) else (sX4_become (pX4_at x1 x2) x3 z).bind fun q5 => some (q5.1, q5.2) else if (pX4_isCrew x1 z) = 0 then (sX4_change_71 z) else (sX4_change_71 z) else if (pX4_isCrew x1 z) = 0 then (sX4_change_71 z) else (sX4_become (pX4_at x1 x2) x3 z).bind fun q4 => some (q4.1, q4.2) else if x2 = 1 then if (pX4_isCell x3) = 0 then if x2 = 2 then if (pX4_within x3 1 20) = 0 then if (pX4_isCrew x1 z) = 0 then (sX4_change_71 z) else (sX4_change_71 z) else if (pX4_isCrew x1 z) = 0 then (sX4_change_71 z) else (sX4_become (pX4_at x1 x2) x3 z).bind fun q3 => some (q3.1, q3.2) else if (pX4_isCrew x1 z) = 0 then (sX4_change_71 z) else (sX4_change_71 z) else if (pX4_isCrew x1 z) = 0 then (sX4_change_71 z) else (sX4_become (pX4_at x1 x2) x3 z).bind fun q2 => some (q2.1, q2.2) else if x2 = 2 then if (pX4_within x3 1 20) = 0 then if (pX4_isCrew x1 z) = 0 then (sX4_change_71 z) else (sX4_change_71 z) else if (pX4_isCrew x1 z) = 0 then (sX4_change_71 z) else (sX4_become (pX4_at x1 x2) x3 z).bind fun q1 => some (q1.1, q1.2) else if (pX4_isCrew x1 z) = 0 then (sX4_change_71 z) else (sX4_change_71 z)
theorem kX4_change_0 (x1 : Int32) (x2 : Int32) (x3 : Int32) (z : mm_S) (oo : mm_R) : mm_Xs (sX4_change_0 x1 x2 x3 z) (fun v => (fun v : Int32 × mm_S => ((some (mm_I v.1), v.2) : mm_R)) v = oo) (fun n => eX4_change_0 n x1 x2 x3 z) oo :=
  xs_row (fun n => qX4_change_0 n x1 x2 x3 z) (xs_if (xs_if (xs_if (xs_if (xs_if (xs_if (xs_if (kX4_change_71 z oo) (kX4_change_71 z oo)) (xs_if (kX4_change_71 z oo) (xs_bd fun q7 => (xs_v fun hc => ⟨0, congrArg some hc⟩)))) (xs_if (kX4_change_71 z oo) (kX4_change_71 z oo))) (xs_if (kX4_change_71 z oo) (xs_bd fun q6 => (xs_v fun hc => ⟨0, congrArg some hc⟩)))) (xs_if (xs_if (xs_if (kX4_change_71 z oo) (kX4_change_71 z oo)) (xs_if (kX4_change_71 z oo) (xs_bd fun q5 => (xs_v fun hc => ⟨0, congrArg some hc⟩)))) (xs_if (kX4_change_71 z oo) (kX4_change_71 z oo)))) (xs_if (kX4_change_71 z oo) (xs_bd fun q4 => (xs_v fun hc => ⟨0, congrArg some hc⟩)))) (xs_if (xs_if (xs_if (xs_if (xs_if (kX4_change_71 z oo) (kX4_change_71 z oo)) (xs_if (kX4_change_71 z oo) (xs_bd fun q3 => (xs_v fun hc => ⟨0, congrArg some hc⟩)))) (xs_if (kX4_change_71 z oo) (kX4_change_71 z oo))) (xs_if (kX4_change_71 z oo) (xs_bd fun q2 => (xs_v fun hc => ⟨0, congrArg some hc⟩)))) (xs_if (xs_if (xs_if (kX4_change_71 z oo) (kX4_change_71 z oo)) (xs_if (kX4_change_71 z oo) (xs_bd fun q1 => (xs_v fun hc => ⟨0, congrArg some hc⟩)))) (xs_if (kX4_change_71 z oo) (kX4_change_71 z oo)))))
noncomputable def sX4_change (x1 : Int32) (x2 : Int32) (x3 : Int32) (z : mm_S) : Option (Int32 × mm_S) := sX4_change_0 x1 x2 x3 z
theorem sp_X4_change (x1 : Int32) (x2 : Int32) (x3 : Int32) (z : mm_S) (hk : ∀ v ∈ [mm_P 4 0, mm_I x1, mm_I x2, mm_I x3], mm_ok 22 lyTM 22 17 v) (q : Int32 × mm_S) (hq : sX4_change x1 x2 x3 z = some q) : f_X4_change [mm_P 4 0, mm_I x1, mm_I x2, mm_I x3] z (some (mm_I q.1), q.2) := ⟨Nat.le_of_ble_eq_true rfl, kX4_change_0 x1 x2 x3 z _ q hq rfl⟩
noncomputable def clo_X4_change (as : List mm_V) (z : mm_S) (kk : Option mm_V → mm_S → Option mm_R) : Option mm_R := mm_pr as fun t o0 as => bif Nat.beq t 4 then mm_pi as fun a1 as => mm_pi as fun a2 as => mm_pi as fun a3 as => (match as with | [] => (sX4_change a1 a2 a3 z).bind fun q => kk (some (mm_I q.1)) q.2 | _ => none) else none
theorem cs_X4_change : mm_cs lyTM 22 22 17 f_X4_change clo_X4_change := by
  intro as z K o hk h
  obtain ⟨t0, o0, r0, rfl, g0⟩ := mm_pr_e h
  obtain ⟨b0, k0⟩ := mm_bif_e g0
  obtain rfl := Nat.eq_of_beq_eq_true b0
  obtain ⟨a1, r1, rfl, g1⟩ := mm_pi_e k0
  obtain ⟨a2, r2, rfl, g2⟩ := mm_pi_e g1
  obtain ⟨a3, r3, rfl, g3⟩ := mm_pi_e g2
  rcases r3 with _ | ⟨u, w⟩
  rotate_left
  · cases g3
  obtain rfl : o0 = 0 := ok4 (hk (mm_P 4 o0) (by simp))
  obtain ⟨q, hq, hq2⟩ := Option.bind_eq_some_iff.mp g3
  exact ⟨_, _, sp_X4_change a1 a2 a3 z hk q hq, fun v hv => by cases hv; exact Or.inl ⟨_, rfl⟩, hq2⟩
theorem sV_X4_change {own : String} {R : Room} {ar : Nat → Nat} {k : Nat} (hlink : Cond.methodLink own k yX4_change ∈ lw_gd ∨ ∃ host, (own, k, yX4_change, host) ∈ nmA) (har : ar k = 4) (hr : 3 ≤ R.frames ∧ 67 ≤ R.locals) : mm_okV lyTM lyFA lenM snM 22 22 17 roM rsA nfA nmA [] own R ar k clo_X4_change := by
  refine ⟨yX4_change, cX4_change, 5, some .int, rm_X4_change, f_X4_change, 4, 3, (RX4, TX4, 36), M_X4_change, cs_X4_change, hlink, ⟨wv_X4_change, wz_X4_change, wi_X4_change, wc_X4_change⟩, ⟨by decide +kernel, by decide +kernel, by decide +kernel⟩, har, ⟨rfl, rfl, by decide⟩, ?_, ⟨rfl, rfl, hr.1, hr.2⟩⟩
  intro as z K o h
  obtain ⟨t0, o0, r0, rfl, g0⟩ := mm_pr_e h
  obtain ⟨b0, k0⟩ := mm_bif_e g0
  obtain rfl := Nat.eq_of_beq_eq_true b0
  exact ⟨_, _, rfl⟩
-- X4_cellsOf
noncomputable def lV_X4_cellsOf : List (Nat × (List mm_V → mm_S → (Option mm_V → mm_S → Option mm_R) → Option mm_R)) := [(158, clo_X4_stuffIs)]
noncomputable def mV_X4_cellsOf (k : Nat) (as : List mm_V) (z : mm_S) (kk : Option mm_V → mm_S → Option mm_R) : Option mm_R := match mm_at lV_X4_cellsOf k with
  | some f => f as z kk
  | none => none
noncomputable def arV_X4_cellsOf (k : Nat) : Nat := (mm_at [(158, 2)] k).getD 0
noncomputable def lS_X4_cellsOf : List (Nat × (List mm_V → mm_S → (Option mm_V → mm_S → Option mm_R) → Option mm_R)) := []
noncomputable def mS_X4_cellsOf (k : Nat) (as : List mm_V) (z : mm_S) (kk : Option mm_V → mm_S → Option mm_R) : Option mm_R := match mm_at lS_X4_cellsOf k with
  | some f => f as z kk
  | none => none
noncomputable def arS_X4_cellsOf (k : Nat) : Nat := (mm_at [] k).getD 0
def ct_X4_cellsOf : List (Nat × List Nat) := [(5, [0, 1, 2, 4]), (33, [0, 1, 2, 4])]
noncomputable def go_X4_cellsOf : Nat → mm_K := mm_go (fun k => mm_at flX4 k) (fun k => mm_at clX4 k) (fun k => mm_at glX4 k) arV_X4_cellsOf arS_X4_cellsOf mV_X4_cellsOf mS_X4_cellsOf lenM roM snM 5 2 tbX4_cellsOf ct_X4_cellsOf
noncomputable def eX4_cellsOf_0 (n : Nat)  (x1 : Int32) (z : mm_S) : Option mm_R := go_X4_cellsOf n 0 [(0, mm_P 4 0), (1, mm_I x1)] [] z
noncomputable def eX4_cellsOf_5 (n : Nat)  (y1 : Int32) (y2 : Int64) (y4 : Int32) (z : mm_S) : Option mm_R := go_X4_cellsOf n 5 [(0, mm_P 4 0), (1, mm_I y1), (2, mm_J y2), (4, mm_I y4)] [] z
noncomputable def eX4_cellsOf_33 (n : Nat)  (y1 : Int32) (y2 : Int64) (y4 : Int32) (z : mm_S) : Option mm_R := go_X4_cellsOf n 33 [(0, mm_P 4 0), (1, mm_I y1), (2, mm_J y2), (4, mm_I y4)] [] z
set_option maxRecDepth 100000 in
theorem qX4_cellsOf_0 (n : Nat)  (x1 : Int32) (z : mm_S) : eX4_cellsOf_0 (n + 1) x1 z = (eX4_cellsOf_5 n x1 0 0 z) := rfl
set_option maxRecDepth 100000 in
theorem qX4_cellsOf_5 (n : Nat)  (y1 : Int32) (y2 : Int64) (y4 : Int32) (z : mm_S) : eX4_cellsOf_5 (n + 1) y1 y2 y4 z = (if 36 ≤ y4 then some (some (mm_J y2), z) else (sX4_stuffIs y4 z).bind fun q1 => if q1.1 = y1 then let v2 : Int64 := (y2 ||| (1 <<< (Int32.toInt64 y4 &&& 63))); eX4_cellsOf_33 n y1 v2 y4 q1.2 else eX4_cellsOf_33 n y1 (y2 ||| 0) y4 q1.2) := rfl
set_option maxRecDepth 100000 in
theorem qX4_cellsOf_33 (n : Nat)  (y1 : Int32) (y2 : Int64) (y4 : Int32) (z : mm_S) : eX4_cellsOf_33 (n + 1) y1 y2 y4 z = (eX4_cellsOf_5 n y1 y2 (y4 + 1) z) := rfl
def rm_X4_cellsOf : Room := { frames := 1, cells := 0, slots := 0, locals := 21 }
noncomputable def f_X4_cellsOf (as : List mm_V) (z : mm_S) (o : mm_R) : Prop := (as.map mm_cat).sum ≤ 5 ∧ ∃ n, go_X4_cellsOf n 0 (mm_ar 0 as) [] z = some o
theorem M_X4_cellsOf : mm_M lyTM lyFA lenM snM 22 22 17 roM rsA nfA nmA [] yX4_cellsOf cX4_cellsOf 5 (some .long) rm_X4_cellsOf f_X4_cellsOf :=
  mm_met (rt := 2) (by decide +kernel) ⟨fun h => absurd h (by decide), fun h => absurd h (by decide), fun h => rfl, fun h => absurd h (by decide)⟩ tbX4_cellsOf_ok hsnM okFX4 okLX4 (fun _ h => absurd h List.not_mem_nil) (fun _ _ _ _ => rfl) (fun _ _ _ _ => rfl) (List.forall_mem_cons.mpr ⟨sV_X4_stuffIs (Or.inl lk_X4_158) rfl ⟨by decide, by decide⟩, fun _ h => absurd h List.not_mem_nil⟩) (fun _ h => absurd h List.not_mem_nil)
noncomputable def sX4_cellsOf_33 (y1 : Int32) (y2 : Int64) (y4 : Int32) (z : mm_S) : Option ((Int32 × Int64 × Int32 × mm_S) ⊕ (Int64 × mm_S)) := some (.inl (y1, y2, (y4 + 1), z))
theorem kX4_cellsOf_33 (y1 : Int32) (y2 : Int64) (y4 : Int32) (z : mm_S) (oo : mm_R) : mm_Xs (sX4_cellsOf_33 y1 y2 y4 z) (mm_mt (fun x : Int32 × Int64 × Int32 × mm_S => ∃ n, eX4_cellsOf_5 n x.1 x.2.1 x.2.2.1 x.2.2.2 = some oo) (fun v => (fun v : Int64 × mm_S => ((some (mm_J v.1), v.2) : mm_R)) v = oo)) (fun n => eX4_cellsOf_33 n y1 y2 y4 z) oo :=
  xs_row (fun n => qX4_cellsOf_33 n y1 y2 y4 z) (xs_v fun hc => hc)
noncomputable def lX4_cellsOf_5 (s : Int32 × Int64 × Int32 × mm_S) : Option ((Int32 × Int64 × Int32 × mm_S) ⊕ (Int64 × mm_S)) := if 36 ≤ s.2.2.1 then some (.inr (s.2.1, s.2.2.2)) else (sX4_stuffIs s.2.2.1 s.2.2.2).bind fun q1 => if q1.1 = s.1 then let v2 : Int64 := (s.2.1 ||| (1 <<< (Int32.toInt64 s.2.2.1 &&& 63))); (sX4_cellsOf_33 s.1 v2 s.2.2.1 q1.2) else (sX4_cellsOf_33 s.1 (s.2.1 ||| 0) s.2.2.1 q1.2)
noncomputable def sX4_cellsOf_5 (y1 : Int32) (y2 : Int64) (y4 : Int32) (z : mm_S) : Option (Int64 × mm_S) := mm_wh (lX4_cellsOf_5 ) mm_fu (y1, y2, y4, z)
theorem kX4_cellsOf_5 (y1 : Int32) (y2 : Int64) (y4 : Int32) (z : mm_S) (oo : mm_R) : mm_Xs (sX4_cellsOf_5 y1 y2 y4 z) (fun v => (fun v : Int64 × mm_S => ((some (mm_J v.1), v.2) : mm_R)) v = oo) (fun n => eX4_cellsOf_5 n y1 y2 y4 z) oo :=
  xs_wh (stp := lX4_cellsOf_5 ) (o := oo) (E := (fun (s : Int32 × Int64 × Int32 × mm_S) n => eX4_cellsOf_5 n s.1 s.2.1 s.2.2.1 s.2.2.2)) (C := (fun v => (fun v : Int64 × mm_S => ((some (mm_J v.1), v.2) : mm_R)) v = oo)) (fun s => xs_row (fun n => qX4_cellsOf_5 n s.1 s.2.1 s.2.2.1 s.2.2.2) (xs_if (xs_v fun hc => ⟨0, congrArg some hc⟩) (xs_bd fun q1 => (xs_if (let v2 : Int64 := (s.2.1 ||| (1 <<< (Int32.toInt64 s.2.2.1 &&& 63))); (kX4_cellsOf_33 s.1 v2 s.2.2.1 q1.2 oo)) (kX4_cellsOf_33 s.1 (s.2.1 ||| 0) s.2.2.1 q1.2 oo))))) mm_fu (y1, y2, y4, z)
noncomputable def sX4_cellsOf_0 (x1 : Int32) (z : mm_S) : Option (Int64 × mm_S) := (sX4_cellsOf_5 x1 0 0 z)
theorem kX4_cellsOf_0 (x1 : Int32) (z : mm_S) (oo : mm_R) : mm_Xs (sX4_cellsOf_0 x1 z) (fun v => (fun v : Int64 × mm_S => ((some (mm_J v.1), v.2) : mm_R)) v = oo) (fun n => eX4_cellsOf_0 n x1 z) oo :=
  xs_row (fun n => qX4_cellsOf_0 n x1 z) (kX4_cellsOf_5 x1 0 0 z oo)
noncomputable def sX4_cellsOf (x1 : Int32) (z : mm_S) : Option (Int64 × mm_S) := sX4_cellsOf_0 x1 z
theorem sp_X4_cellsOf (x1 : Int32) (z : mm_S) (hk : ∀ v ∈ [mm_P 4 0, mm_I x1], mm_ok 22 lyTM 22 17 v) (q : Int64 × mm_S) (hq : sX4_cellsOf x1 z = some q) : f_X4_cellsOf [mm_P 4 0, mm_I x1] z (some (mm_J q.1), q.2) := ⟨Nat.le_of_ble_eq_true rfl, kX4_cellsOf_0 x1 z _ q hq rfl⟩
noncomputable def clo_X4_cellsOf (as : List mm_V) (z : mm_S) (kk : Option mm_V → mm_S → Option mm_R) : Option mm_R := mm_pr as fun t o0 as => bif Nat.beq t 4 then mm_pi as fun a1 as => (match as with | [] => (sX4_cellsOf a1 z).bind fun q => kk (some (mm_J q.1)) q.2 | _ => none) else none
theorem cs_X4_cellsOf : mm_cs lyTM 22 22 17 f_X4_cellsOf clo_X4_cellsOf := by
  intro as z K o hk h
  obtain ⟨t0, o0, r0, rfl, g0⟩ := mm_pr_e h
  obtain ⟨b0, k0⟩ := mm_bif_e g0
  obtain rfl := Nat.eq_of_beq_eq_true b0
  obtain ⟨a1, r1, rfl, g1⟩ := mm_pi_e k0
  rcases r1 with _ | ⟨u, w⟩
  rotate_left
  · cases g1
  obtain rfl : o0 = 0 := ok4 (hk (mm_P 4 o0) (by simp))
  obtain ⟨q, hq, hq2⟩ := Option.bind_eq_some_iff.mp g1
  exact ⟨_, _, sp_X4_cellsOf a1 z hk q hq, fun v hv => by cases hv; exact Or.inr ⟨_, rfl⟩, hq2⟩
theorem sV_X4_cellsOf {own : String} {R : Room} {ar : Nat → Nat} {k : Nat} (hlink : Cond.methodLink own k yX4_cellsOf ∈ lw_gd ∨ ∃ host, (own, k, yX4_cellsOf, host) ∈ nmA) (har : ar k = 2) (hr : 2 ≤ R.frames ∧ 45 ≤ R.locals) : mm_okV lyTM lyFA lenM snM 22 22 17 roM rsA nfA nmA [] own R ar k clo_X4_cellsOf := by
  refine ⟨yX4_cellsOf, cX4_cellsOf, 5, some .long, rm_X4_cellsOf, f_X4_cellsOf, 4, 1, (RX4, TX4, 36), M_X4_cellsOf, cs_X4_cellsOf, hlink, ⟨wv_X4_cellsOf, wz_X4_cellsOf, wi_X4_cellsOf, wc_X4_cellsOf⟩, ⟨by decide +kernel, by decide +kernel, by decide +kernel⟩, har, ⟨rfl, rfl, by decide⟩, ?_, ⟨rfl, rfl, hr.1, hr.2⟩⟩
  intro as z K o h
  obtain ⟨t0, o0, r0, rfl, g0⟩ := mm_pr_e h
  obtain ⟨b0, k0⟩ := mm_bif_e g0
  obtain rfl := Nat.eq_of_beq_eq_true b0
  exact ⟨_, _, rfl⟩
-- X4_cells
noncomputable def lV_X4_cells : List (Nat × (List mm_V → mm_S → (Option mm_V → mm_S → Option mm_R) → Option mm_R)) := [(124, clo_X4_finding), (161, clo_X4_cellsOf)]
noncomputable def mV_X4_cells (k : Nat) (as : List mm_V) (z : mm_S) (kk : Option mm_V → mm_S → Option mm_R) : Option mm_R := match mm_at lV_X4_cells k with
  | some f => f as z kk
  | none => none
noncomputable def arV_X4_cells (k : Nat) : Nat := (mm_at [(124, 2), (161, 2)] k).getD 0
noncomputable def lS_X4_cells : List (Nat × (List mm_V → mm_S → (Option mm_V → mm_S → Option mm_R) → Option mm_R)) := [(118, clo_X4_isStuff)]
noncomputable def mS_X4_cells (k : Nat) (as : List mm_V) (z : mm_S) (kk : Option mm_V → mm_S → Option mm_R) : Option mm_R := match mm_at lS_X4_cells k with
  | some f => f as z kk
  | none => none
noncomputable def arS_X4_cells (k : Nat) : Nat := (mm_at [(118, 1)] k).getD 0
def ct_X4_cells : List (Nat × List Nat) := [(15, [0])]
noncomputable def go_X4_cells : Nat → mm_K := mm_go (fun k => mm_at flX4 k) (fun k => mm_at clX4 k) (fun k => mm_at glX4 k) arV_X4_cells arS_X4_cells mV_X4_cells mS_X4_cells lenM roM snM 2 2 tbX4_cells ct_X4_cells
noncomputable def eX4_cells_0 (n : Nat)  (x1 : Int32) (z : mm_S) : Option mm_R := go_X4_cells n 0 [(0, mm_P 4 0), (1, mm_I x1)] [] z
noncomputable def eX4_cells_15 (n : Nat)  (z : mm_S) : Option mm_R := go_X4_cells n 15 [(0, mm_P 4 0)] [] z
set_option maxRecDepth 100000 in
theorem qX4_cells_0 (n : Nat)  (x1 : Int32) (z : mm_S) : eX4_cells_0 (n + 1) x1 z = (if (pX4_isStuff x1) = 0 then eX4_cells_15 n  z else (sX4_cellsOf x1 z).bind fun q1 => some (some (mm_J q1.1), q1.2)) := rfl
set_option maxRecDepth 100000 in
theorem qX4_cells_15 (n : Nat)  (z : mm_S) : eX4_cells_15 (n + 1)  z = ((sX4_finding (-1000001) z).bind fun q2 => some (some (mm_J (Int32.toInt64 q2.1)), q2.2)) := rfl
def rm_X4_cells : Room := { frames := 2, cells := 0, slots := 0, locals := 45 }
noncomputable def f_X4_cells (as : List mm_V) (z : mm_S) (o : mm_R) : Prop := (as.map mm_cat).sum ≤ 2 ∧ ∃ n, go_X4_cells n 0 (mm_ar 0 as) [] z = some o
theorem M_X4_cells : mm_M lyTM lyFA lenM snM 22 22 17 roM rsA nfA nmA [] yX4_cells cX4_cells 2 (some .long) rm_X4_cells f_X4_cells :=
  mm_met (rt := 2) (by decide +kernel) ⟨fun h => absurd h (by decide), fun h => absurd h (by decide), fun h => rfl, fun h => absurd h (by decide)⟩ tbX4_cells_ok hsnM okFX4 okLX4 (fun _ h => absurd h List.not_mem_nil) (fun _ _ _ _ => rfl) (fun _ _ _ _ => rfl) (List.forall_mem_cons.mpr ⟨sV_X4_finding (Or.inl lk_X4_124) rfl ⟨by decide, by decide⟩, List.forall_mem_cons.mpr ⟨sV_X4_cellsOf (Or.inl lk_X4_161) rfl ⟨by decide, by decide⟩, fun _ h => absurd h List.not_mem_nil⟩⟩) (List.forall_mem_cons.mpr ⟨sS_X4_isStuff (Or.inl lk_X4_118) rfl ⟨by decide, by decide⟩, fun _ h => absurd h List.not_mem_nil⟩)
noncomputable def sX4_cells_15  (z : mm_S) : Option (Int64 × mm_S) := (sX4_finding (-1000001) z).bind fun q2 => some ((Int32.toInt64 q2.1), q2.2)
theorem kX4_cells_15  (z : mm_S) (oo : mm_R) : mm_Xs (sX4_cells_15  z) (fun v => (fun v : Int64 × mm_S => ((some (mm_J v.1), v.2) : mm_R)) v = oo) (fun n => eX4_cells_15 n  z) oo :=
  xs_row (fun n => qX4_cells_15 n z) (xs_bd fun q2 => (xs_v fun hc => ⟨0, congrArg some hc⟩))
noncomputable def sX4_cells_0 (x1 : Int32) (z : mm_S) : Option (Int64 × mm_S) := if (pX4_isStuff x1) = 0 then (sX4_cells_15 z) else (sX4_cellsOf x1 z).bind fun q1 => some (q1.1, q1.2)
theorem kX4_cells_0 (x1 : Int32) (z : mm_S) (oo : mm_R) : mm_Xs (sX4_cells_0 x1 z) (fun v => (fun v : Int64 × mm_S => ((some (mm_J v.1), v.2) : mm_R)) v = oo) (fun n => eX4_cells_0 n x1 z) oo :=
  xs_row (fun n => qX4_cells_0 n x1 z) (xs_if (kX4_cells_15 z oo) (xs_bd fun q1 => (xs_v fun hc => ⟨0, congrArg some hc⟩)))
noncomputable def sX4_cells (x1 : Int32) (z : mm_S) : Option (Int64 × mm_S) := sX4_cells_0 x1 z
theorem sp_X4_cells (x1 : Int32) (z : mm_S) (hk : ∀ v ∈ [mm_P 4 0, mm_I x1], mm_ok 22 lyTM 22 17 v) (q : Int64 × mm_S) (hq : sX4_cells x1 z = some q) : f_X4_cells [mm_P 4 0, mm_I x1] z (some (mm_J q.1), q.2) := ⟨Nat.le_of_ble_eq_true rfl, kX4_cells_0 x1 z _ q hq rfl⟩
noncomputable def clo_X4_cells (as : List mm_V) (z : mm_S) (kk : Option mm_V → mm_S → Option mm_R) : Option mm_R := mm_pr as fun t o0 as => bif Nat.beq t 4 then mm_pi as fun a1 as => (match as with | [] => (sX4_cells a1 z).bind fun q => kk (some (mm_J q.1)) q.2 | _ => none) else none
theorem cs_X4_cells : mm_cs lyTM 22 22 17 f_X4_cells clo_X4_cells := by
  intro as z K o hk h
  obtain ⟨t0, o0, r0, rfl, g0⟩ := mm_pr_e h
  obtain ⟨b0, k0⟩ := mm_bif_e g0
  obtain rfl := Nat.eq_of_beq_eq_true b0
  obtain ⟨a1, r1, rfl, g1⟩ := mm_pi_e k0
  rcases r1 with _ | ⟨u, w⟩
  rotate_left
  · cases g1
  obtain rfl : o0 = 0 := ok4 (hk (mm_P 4 o0) (by simp))
  obtain ⟨q, hq, hq2⟩ := Option.bind_eq_some_iff.mp g1
  exact ⟨_, _, sp_X4_cells a1 z hk q hq, fun v hv => by cases hv; exact Or.inr ⟨_, rfl⟩, hq2⟩
theorem sV_X4_cells {own : String} {R : Room} {ar : Nat → Nat} {k : Nat} (hlink : Cond.methodLink own k yX4_cells ∈ lw_gd ∨ ∃ host, (own, k, yX4_cells, host) ∈ nmA) (har : ar k = 2) (hr : 3 ≤ R.frames ∧ 66 ≤ R.locals) : mm_okV lyTM lyFA lenM snM 22 22 17 roM rsA nfA nmA [] own R ar k clo_X4_cells := by
  refine ⟨yX4_cells, cX4_cells, 2, some .long, rm_X4_cells, f_X4_cells, 4, 1, (RX4, TX4, 36), M_X4_cells, cs_X4_cells, hlink, ⟨wv_X4_cells, wz_X4_cells, wi_X4_cells, wc_X4_cells⟩, ⟨by decide +kernel, by decide +kernel, by decide +kernel⟩, har, ⟨rfl, rfl, by decide⟩, ?_, ⟨rfl, rfl, hr.1, hr.2⟩⟩
  intro as z K o h
  obtain ⟨t0, o0, r0, rfl, g0⟩ := mm_pr_e h
  obtain ⟨b0, k0⟩ := mm_bif_e g0
  obtain rfl := Nat.eq_of_beq_eq_true b0
  exact ⟨_, _, rfl⟩
-- X4_isUnsure
noncomputable def lV_X4_isUnsure : List (Nat × (List mm_V → mm_S → (Option mm_V → mm_S → Option mm_R) → Option mm_R)) := []
noncomputable def mV_X4_isUnsure (k : Nat) (as : List mm_V) (z : mm_S) (kk : Option mm_V → mm_S → Option mm_R) : Option mm_R := match mm_at lV_X4_isUnsure k with
  | some f => f as z kk
  | none => none
noncomputable def arV_X4_isUnsure (k : Nat) : Nat := (mm_at [] k).getD 0
noncomputable def lS_X4_isUnsure : List (Nat × (List mm_V → mm_S → (Option mm_V → mm_S → Option mm_R) → Option mm_R)) := []
noncomputable def mS_X4_isUnsure (k : Nat) (as : List mm_V) (z : mm_S) (kk : Option mm_V → mm_S → Option mm_R) : Option mm_R := match mm_at lS_X4_isUnsure k with
  | some f => f as z kk
  | none => none
noncomputable def arS_X4_isUnsure (k : Nat) : Nat := (mm_at [] k).getD 0
def ct_X4_isUnsure : List (Nat × List Nat) := [(4, [0, 1, 2, 3])]
noncomputable def go_X4_isUnsure : Nat → mm_K := mm_go (fun k => mm_at flX4 k) (fun k => mm_at clX4 k) (fun k => mm_at glX4 k) arV_X4_isUnsure arS_X4_isUnsure mV_X4_isUnsure mS_X4_isUnsure lenM roM snM 4 1 tbX4_isUnsure ct_X4_isUnsure
noncomputable def eX4_isUnsure_0 (n : Nat)  (x1 : Int32) (z : mm_S) : Option mm_R := go_X4_isUnsure n 0 [(0, mm_P 4 0), (1, mm_I x1)] [] z
noncomputable def eX4_isUnsure_4 (n : Nat)  (y1 : Int32) (y2 : Int32) (y3 : Int32) (z : mm_S) : Option mm_R := go_X4_isUnsure n 4 [(0, mm_P 4 0), (1, mm_I y1), (2, mm_I y2), (3, mm_I y3)] [] z
set_option maxRecDepth 100000 in
theorem qX4_isUnsure_0 (n : Nat)  (x1 : Int32) (z : mm_S) : eX4_isUnsure_0 (n + 1) x1 z = (eX4_isUnsure_4 n x1 0 0 z) := rfl
set_option maxRecDepth 100000 in
theorem qX4_isUnsure_4 (n : Nat)  (y1 : Int32) (y2 : Int32) (y3 : Int32) (z : mm_S) : eX4_isUnsure_4 (n + 1) y1 y2 y3 z = (if (z.1 1 3) ≤ y3 then mm_rt 1 y2 z else if y2 = 0 then if (69 + y3) < 0 ∨ 97 ≤ Int32.toNatClampNeg (69 + y3) then none else if (z.1 1 (Int32.toNatClampNeg (69 + y3))) = y1 then eX4_isUnsure_4 n y1 1 (y3 + 1) z else eX4_isUnsure_4 n y1 0 (y3 + 1) z else eX4_isUnsure_4 n y1 1 (y3 + 1) z) := rfl
def rm_X4_isUnsure : Room := { frames := 0, cells := 0, slots := 0, locals := 0 }
noncomputable def f_X4_isUnsure (as : List mm_V) (z : mm_S) (o : mm_R) : Prop := (as.map mm_cat).sum ≤ 4 ∧ ∃ n, go_X4_isUnsure n 0 (mm_ar 0 as) [] z = some o
theorem M_X4_isUnsure : mm_M lyTM lyFA lenM snM 22 22 17 roM rsA nfA nmA [] yX4_isUnsure cX4_isUnsure 4 (some .boolean) rm_X4_isUnsure f_X4_isUnsure :=
  mm_met (rt := 1) (by decide +kernel) ⟨fun h => absurd h (by decide), fun h => rfl, fun h => absurd h (by decide), fun h => absurd h (by decide)⟩ tbX4_isUnsure_ok hsnM okFX4 okLX4 (fun _ h => absurd h List.not_mem_nil) (fun _ _ _ _ => rfl) (fun _ _ _ _ => rfl) (fun _ h => absurd h List.not_mem_nil) (fun _ h => absurd h List.not_mem_nil)
noncomputable def lX4_isUnsure_4 (s : Int32 × Int32 × Int32 × mm_S) : Option ((Int32 × Int32 × Int32 × mm_S) ⊕ (Int32 × mm_S)) := if (s.2.2.2.1 1 3) ≤ s.2.2.1 then if s.2.1 = 0 then some (.inr (0, s.2.2.2)) else if s.2.1 = 1 then some (.inr (1, s.2.2.2)) else none else if s.2.1 = 0 then if (69 + s.2.2.1) < 0 ∨ 97 ≤ Int32.toNatClampNeg (69 + s.2.2.1) then none else if (s.2.2.2.1 1 (Int32.toNatClampNeg (69 + s.2.2.1))) = s.1 then some (.inl (s.1, 1, (s.2.2.1 + 1), s.2.2.2)) else some (.inl (s.1, 0, (s.2.2.1 + 1), s.2.2.2)) else some (.inl (s.1, 1, (s.2.2.1 + 1), s.2.2.2))
noncomputable def sX4_isUnsure_4 (y1 : Int32) (y2 : Int32) (y3 : Int32) (z : mm_S) : Option (Int32 × mm_S) := mm_wh (lX4_isUnsure_4 ) mm_fu (y1, y2, y3, z)
theorem kX4_isUnsure_4 (y1 : Int32) (y2 : Int32) (y3 : Int32) (z : mm_S) (oo : mm_R) : mm_Xs (sX4_isUnsure_4 y1 y2 y3 z) (fun v => (fun v : Int32 × mm_S => ((some (mm_I v.1), v.2) : mm_R)) v = oo) (fun n => eX4_isUnsure_4 n y1 y2 y3 z) oo :=
  xs_wh (stp := lX4_isUnsure_4 ) (o := oo) (E := (fun (s : Int32 × Int32 × Int32 × mm_S) n => eX4_isUnsure_4 n s.1 s.2.1 s.2.2.1 s.2.2.2)) (C := (fun v => (fun v : Int32 × mm_S => ((some (mm_I v.1), v.2) : mm_R)) v = oo)) (fun s => xs_row (fun n => qX4_isUnsure_4 n s.1 s.2.1 s.2.2.1 s.2.2.2) (xs_if (xs_if (X := fun _ => some (some (mm_I 0), s.2.2.2)) (Y := fun _ => if s.2.1 = 1 then some (some (mm_I 1), s.2.2.2) else none) (xs_v fun hc => ⟨0, congrArg some hc⟩) (xs_if (X := fun _ => some (some (mm_I 1), s.2.2.2)) (Y := fun _ => none) (xs_v fun hc => ⟨0, congrArg some hc⟩) xs_n)) (xs_if (xs_if xs_n (xs_if (xs_v fun hc => hc) (xs_v fun hc => hc))) (xs_v fun hc => hc)))) mm_fu (y1, y2, y3, z)
noncomputable def sX4_isUnsure_0 (x1 : Int32) (z : mm_S) : Option (Int32 × mm_S) := (sX4_isUnsure_4 x1 0 0 z)
theorem kX4_isUnsure_0 (x1 : Int32) (z : mm_S) (oo : mm_R) : mm_Xs (sX4_isUnsure_0 x1 z) (fun v => (fun v : Int32 × mm_S => ((some (mm_I v.1), v.2) : mm_R)) v = oo) (fun n => eX4_isUnsure_0 n x1 z) oo :=
  xs_row (fun n => qX4_isUnsure_0 n x1 z) (kX4_isUnsure_4 x1 0 0 z oo)
noncomputable def sX4_isUnsure (x1 : Int32) (z : mm_S) : Option (Int32 × mm_S) := sX4_isUnsure_0 x1 z
theorem sp_X4_isUnsure (x1 : Int32) (z : mm_S) (hk : ∀ v ∈ [mm_P 4 0, mm_I x1], mm_ok 22 lyTM 22 17 v) (q : Int32 × mm_S) (hq : sX4_isUnsure x1 z = some q) : f_X4_isUnsure [mm_P 4 0, mm_I x1] z (some (mm_I q.1), q.2) := ⟨Nat.le_of_ble_eq_true rfl, kX4_isUnsure_0 x1 z _ q hq rfl⟩
noncomputable def clo_X4_isUnsure (as : List mm_V) (z : mm_S) (kk : Option mm_V → mm_S → Option mm_R) : Option mm_R := mm_pr as fun t o0 as => bif Nat.beq t 4 then mm_pi as fun a1 as => (match as with | [] => (sX4_isUnsure a1 z).bind fun q => kk (some (mm_I q.1)) q.2 | _ => none) else none
theorem cs_X4_isUnsure : mm_cs lyTM 22 22 17 f_X4_isUnsure clo_X4_isUnsure := by
  intro as z K o hk h
  obtain ⟨t0, o0, r0, rfl, g0⟩ := mm_pr_e h
  obtain ⟨b0, k0⟩ := mm_bif_e g0
  obtain rfl := Nat.eq_of_beq_eq_true b0
  obtain ⟨a1, r1, rfl, g1⟩ := mm_pi_e k0
  rcases r1 with _ | ⟨u, w⟩
  rotate_left
  · cases g1
  obtain rfl : o0 = 0 := ok4 (hk (mm_P 4 o0) (by simp))
  obtain ⟨q, hq, hq2⟩ := Option.bind_eq_some_iff.mp g1
  exact ⟨_, _, sp_X4_isUnsure a1 z hk q hq, fun v hv => by cases hv; exact Or.inl ⟨_, rfl⟩, hq2⟩
theorem sV_X4_isUnsure {own : String} {R : Room} {ar : Nat → Nat} {k : Nat} (hlink : Cond.methodLink own k yX4_isUnsure ∈ lw_gd ∨ ∃ host, (own, k, yX4_isUnsure, host) ∈ nmA) (har : ar k = 2) (hr : 1 ≤ R.frames ∧ 23 ≤ R.locals) : mm_okV lyTM lyFA lenM snM 22 22 17 roM rsA nfA nmA [] own R ar k clo_X4_isUnsure := by
  refine ⟨yX4_isUnsure, cX4_isUnsure, 4, some .boolean, rm_X4_isUnsure, f_X4_isUnsure, 4, 1, (RX4, TX4, 36), M_X4_isUnsure, cs_X4_isUnsure, hlink, ⟨wv_X4_isUnsure, wz_X4_isUnsure, wi_X4_isUnsure, wc_X4_isUnsure⟩, ⟨by decide +kernel, by decide +kernel, by decide +kernel⟩, har, ⟨rfl, rfl, by decide⟩, ?_, ⟨rfl, rfl, hr.1, hr.2⟩⟩
  intro as z K o h
  obtain ⟨t0, o0, r0, rfl, g0⟩ := mm_pr_e h
  obtain ⟨b0, k0⟩ := mm_bif_e g0
  obtain rfl := Nat.eq_of_beq_eq_true b0
  exact ⟨_, _, rfl⟩
-- X4_getsUnsure
noncomputable def lV_X4_getsUnsure : List (Nat × (List mm_V → mm_S → (Option mm_V → mm_S → Option mm_R) → Option mm_R)) := []
noncomputable def mV_X4_getsUnsure (k : Nat) (as : List mm_V) (z : mm_S) (kk : Option mm_V → mm_S → Option mm_R) : Option mm_R := match mm_at lV_X4_getsUnsure k with
  | some f => f as z kk
  | none => none
noncomputable def arV_X4_getsUnsure (k : Nat) : Nat := (mm_at [] k).getD 0
noncomputable def lS_X4_getsUnsure : List (Nat × (List mm_V → mm_S → (Option mm_V → mm_S → Option mm_R) → Option mm_R)) := []
noncomputable def mS_X4_getsUnsure (k : Nat) (as : List mm_V) (z : mm_S) (kk : Option mm_V → mm_S → Option mm_R) : Option mm_R := match mm_at lS_X4_getsUnsure k with
  | some f => f as z kk
  | none => none
noncomputable def arS_X4_getsUnsure (k : Nat) : Nat := (mm_at [] k).getD 0
def ct_X4_getsUnsure : List (Nat × List Nat) := [(15, [0]), (25, [0])]
noncomputable def go_X4_getsUnsure : Nat → mm_K := mm_go (fun k => mm_at flX4 k) (fun k => mm_at clX4 k) (fun k => mm_at glX4 k) arV_X4_getsUnsure arS_X4_getsUnsure mV_X4_getsUnsure mS_X4_getsUnsure lenM roM snM 2 0 tbX4_getsUnsure ct_X4_getsUnsure
noncomputable def eX4_getsUnsure_0 (n : Nat)  (x1 : Int32) (z : mm_S) : Option mm_R := go_X4_getsUnsure n 0 [(0, mm_P 4 0), (1, mm_I x1)] [] z
noncomputable def eX4_getsUnsure_15 (n : Nat)  (z : mm_S) : Option mm_R := go_X4_getsUnsure n 15 [(0, mm_P 4 0)] [] z
noncomputable def eX4_getsUnsure_25 (n : Nat)  (z : mm_S) : Option mm_R := go_X4_getsUnsure n 25 [(0, mm_P 4 0)] [] z
set_option maxRecDepth 100000 in
theorem qX4_getsUnsure_0 (n : Nat)  (x1 : Int32) (z : mm_S) : eX4_getsUnsure_0 (n + 1) x1 z = (if (69 + (z.1 1 3)) < 0 ∨ 97 ≤ Int32.toNatClampNeg (69 + (z.1 1 3)) then none else eX4_getsUnsure_15 n  ((mm_ui z.1 1 (Int32.toNatClampNeg (69 + (z.1 1 3))) x1), z.2)) := rfl
set_option maxRecDepth 100000 in
theorem qX4_getsUnsure_15 (n : Nat)  (z : mm_S) : eX4_getsUnsure_15 (n + 1)  z = (eX4_getsUnsure_25 n  ((mm_ui z.1 1 3 ((z.1 1 3) + 1)), z.2)) := rfl
set_option maxRecDepth 100000 in
theorem qX4_getsUnsure_25 (n : Nat)  (z : mm_S) : eX4_getsUnsure_25 (n + 1)  z = (some (some (mm_I (z.1 1 3)), z)) := rfl
def rm_X4_getsUnsure : Room := { frames := 0, cells := 0, slots := 0, locals := 0 }
noncomputable def f_X4_getsUnsure (as : List mm_V) (z : mm_S) (o : mm_R) : Prop := (as.map mm_cat).sum ≤ 2 ∧ ∃ n, go_X4_getsUnsure n 0 (mm_ar 0 as) [] z = some o
theorem M_X4_getsUnsure : mm_M lyTM lyFA lenM snM 22 22 17 roM rsA nfA nmA [] yX4_getsUnsure cX4_getsUnsure 2 (some .int) rm_X4_getsUnsure f_X4_getsUnsure :=
  mm_met (rt := 0) (by decide +kernel) ⟨fun h => rfl, fun h => absurd h (by decide), fun h => absurd h (by decide), fun h => absurd h (by decide)⟩ tbX4_getsUnsure_ok hsnM okFX4 okLX4 (fun _ h => absurd h List.not_mem_nil) (fun _ _ _ _ => rfl) (fun _ _ _ _ => rfl) (fun _ h => absurd h List.not_mem_nil) (fun _ h => absurd h List.not_mem_nil)
noncomputable def sX4_getsUnsure_25  (z : mm_S) : Option (Int32 × mm_S) := some ((z.1 1 3), z)
theorem kX4_getsUnsure_25  (z : mm_S) (oo : mm_R) : mm_Xs (sX4_getsUnsure_25  z) (fun v => (fun v : Int32 × mm_S => ((some (mm_I v.1), v.2) : mm_R)) v = oo) (fun n => eX4_getsUnsure_25 n  z) oo :=
  xs_row (fun n => qX4_getsUnsure_25 n z) (xs_v fun hc => ⟨0, congrArg some hc⟩)
noncomputable def sX4_getsUnsure_15  (z : mm_S) : Option (Int32 × mm_S) := (sX4_getsUnsure_25 ((mm_ui z.1 1 3 ((z.1 1 3) + 1)), z.2))
theorem kX4_getsUnsure_15  (z : mm_S) (oo : mm_R) : mm_Xs (sX4_getsUnsure_15  z) (fun v => (fun v : Int32 × mm_S => ((some (mm_I v.1), v.2) : mm_R)) v = oo) (fun n => eX4_getsUnsure_15 n  z) oo :=
  xs_row (fun n => qX4_getsUnsure_15 n z) (kX4_getsUnsure_25 ((mm_ui z.1 1 3 ((z.1 1 3) + 1)), z.2) oo)
noncomputable def sX4_getsUnsure_0 (x1 : Int32) (z : mm_S) : Option (Int32 × mm_S) := if (69 + (z.1 1 3)) < 0 ∨ 97 ≤ Int32.toNatClampNeg (69 + (z.1 1 3)) then none else (sX4_getsUnsure_15 ((mm_ui z.1 1 (Int32.toNatClampNeg (69 + (z.1 1 3))) x1), z.2))
theorem kX4_getsUnsure_0 (x1 : Int32) (z : mm_S) (oo : mm_R) : mm_Xs (sX4_getsUnsure_0 x1 z) (fun v => (fun v : Int32 × mm_S => ((some (mm_I v.1), v.2) : mm_R)) v = oo) (fun n => eX4_getsUnsure_0 n x1 z) oo :=
  xs_row (fun n => qX4_getsUnsure_0 n x1 z) (xs_if xs_n (kX4_getsUnsure_15 ((mm_ui z.1 1 (Int32.toNatClampNeg (69 + (z.1 1 3))) x1), z.2) oo))
noncomputable def sX4_getsUnsure (x1 : Int32) (z : mm_S) : Option (Int32 × mm_S) := sX4_getsUnsure_0 x1 z
theorem sp_X4_getsUnsure (x1 : Int32) (z : mm_S) (hk : ∀ v ∈ [mm_P 4 0, mm_I x1], mm_ok 22 lyTM 22 17 v) (q : Int32 × mm_S) (hq : sX4_getsUnsure x1 z = some q) : f_X4_getsUnsure [mm_P 4 0, mm_I x1] z (some (mm_I q.1), q.2) := ⟨Nat.le_of_ble_eq_true rfl, kX4_getsUnsure_0 x1 z _ q hq rfl⟩
noncomputable def clo_X4_getsUnsure (as : List mm_V) (z : mm_S) (kk : Option mm_V → mm_S → Option mm_R) : Option mm_R := mm_pr as fun t o0 as => bif Nat.beq t 4 then mm_pi as fun a1 as => (match as with | [] => (sX4_getsUnsure a1 z).bind fun q => kk (some (mm_I q.1)) q.2 | _ => none) else none
theorem cs_X4_getsUnsure : mm_cs lyTM 22 22 17 f_X4_getsUnsure clo_X4_getsUnsure := by
  intro as z K o hk h
  obtain ⟨t0, o0, r0, rfl, g0⟩ := mm_pr_e h
  obtain ⟨b0, k0⟩ := mm_bif_e g0
  obtain rfl := Nat.eq_of_beq_eq_true b0
  obtain ⟨a1, r1, rfl, g1⟩ := mm_pi_e k0
  rcases r1 with _ | ⟨u, w⟩
  rotate_left
  · cases g1
  obtain rfl : o0 = 0 := ok4 (hk (mm_P 4 o0) (by simp))
  obtain ⟨q, hq, hq2⟩ := Option.bind_eq_some_iff.mp g1
  exact ⟨_, _, sp_X4_getsUnsure a1 z hk q hq, fun v hv => by cases hv; exact Or.inl ⟨_, rfl⟩, hq2⟩
theorem sV_X4_getsUnsure {own : String} {R : Room} {ar : Nat → Nat} {k : Nat} (hlink : Cond.methodLink own k yX4_getsUnsure ∈ lw_gd ∨ ∃ host, (own, k, yX4_getsUnsure, host) ∈ nmA) (har : ar k = 2) (hr : 1 ≤ R.frames ∧ 21 ≤ R.locals) : mm_okV lyTM lyFA lenM snM 22 22 17 roM rsA nfA nmA [] own R ar k clo_X4_getsUnsure := by
  refine ⟨yX4_getsUnsure, cX4_getsUnsure, 2, some .int, rm_X4_getsUnsure, f_X4_getsUnsure, 4, 1, (RX4, TX4, 36), M_X4_getsUnsure, cs_X4_getsUnsure, hlink, ⟨wv_X4_getsUnsure, wz_X4_getsUnsure, wi_X4_getsUnsure, wc_X4_getsUnsure⟩, ⟨by decide +kernel, by decide +kernel, by decide +kernel⟩, har, ⟨rfl, rfl, by decide⟩, ?_, ⟨rfl, rfl, hr.1, hr.2⟩⟩
  intro as z K o h
  obtain ⟨t0, o0, r0, rfl, g0⟩ := mm_pr_e h
  obtain ⟨b0, k0⟩ := mm_bif_e g0
  obtain rfl := Nat.eq_of_beq_eq_true b0
  exact ⟨_, _, rfl⟩
-- X4_unsure
noncomputable def lV_X4_unsure : List (Nat × (List mm_V → mm_S → (Option mm_V → mm_S → Option mm_R) → Option mm_R)) := [(124, clo_X4_finding), (165, clo_X4_isUnsure), (169, clo_X4_getsUnsure)]
noncomputable def mV_X4_unsure (k : Nat) (as : List mm_V) (z : mm_S) (kk : Option mm_V → mm_S → Option mm_R) : Option mm_R := match mm_at lV_X4_unsure k with
  | some f => f as z kk
  | none => none
noncomputable def arV_X4_unsure (k : Nat) : Nat := (mm_at [(124, 2), (165, 2), (169, 2)] k).getD 0
noncomputable def lS_X4_unsure : List (Nat × (List mm_V → mm_S → (Option mm_V → mm_S → Option mm_R) → Option mm_R)) := [(114, clo_X4_isCell)]
noncomputable def mS_X4_unsure (k : Nat) (as : List mm_V) (z : mm_S) (kk : Option mm_V → mm_S → Option mm_R) : Option mm_R := match mm_at lS_X4_unsure k with
  | some f => f as z kk
  | none => none
noncomputable def arS_X4_unsure (k : Nat) : Nat := (mm_at [(114, 1)] k).getD 0
def ct_X4_unsure : List (Nat × List Nat) := [(14, [0, 1]), (22, [0]), (29, [0, 1]), (48, [0, 1])]
noncomputable def go_X4_unsure : Nat → mm_K := mm_go (fun k => mm_at flX4 k) (fun k => mm_at clX4 k) (fun k => mm_at glX4 k) arV_X4_unsure arS_X4_unsure mV_X4_unsure mS_X4_unsure lenM roM snM 2 0 tbX4_unsure ct_X4_unsure
noncomputable def eX4_unsure_0 (n : Nat)  (x1 : Int32) (z : mm_S) : Option mm_R := go_X4_unsure n 0 [(0, mm_P 4 0), (1, mm_I x1)] [] z
noncomputable def eX4_unsure_14 (n : Nat)  (y1 : Int32) (z : mm_S) : Option mm_R := go_X4_unsure n 14 [(0, mm_P 4 0), (1, mm_I y1)] [] z
noncomputable def eX4_unsure_29 (n : Nat)  (y1 : Int32) (z : mm_S) : Option mm_R := go_X4_unsure n 29 [(0, mm_P 4 0), (1, mm_I y1)] [] z
noncomputable def eX4_unsure_22 (n : Nat)  (z : mm_S) : Option mm_R := go_X4_unsure n 22 [(0, mm_P 4 0)] [] z
noncomputable def eX4_unsure_48 (n : Nat)  (y1 : Int32) (z : mm_S) : Option mm_R := go_X4_unsure n 48 [(0, mm_P 4 0), (1, mm_I y1)] [] z
set_option maxRecDepth 100000 in
theorem qX4_unsure_0 (n : Nat)  (x1 : Int32) (z : mm_S) : eX4_unsure_0 (n + 1) x1 z = (if (pX4_isCell x1) = 0 then (sX4_finding (-1000001) z).bind fun q1 => some (some (mm_I q1.1), q1.2) else eX4_unsure_14 n x1 z) := rfl
set_option maxRecDepth 100000 in
theorem qX4_unsure_14 (n : Nat)  (y1 : Int32) (z : mm_S) : eX4_unsure_14 (n + 1) y1 z = ((sX4_isUnsure y1 z).bind fun q2 => if q2.1 = 0 then eX4_unsure_29 n y1 q2.2 else eX4_unsure_22 n  q2.2) := rfl
set_option maxRecDepth 100000 in
theorem qX4_unsure_29 (n : Nat)  (y1 : Int32) (z : mm_S) : eX4_unsure_29 (n + 1) y1 z = (if (z.1 1 3) = 4 then (sX4_finding (-1000002) z).bind fun q3 => some (some (mm_I q3.1), q3.2) else eX4_unsure_48 n y1 z) := rfl
set_option maxRecDepth 100000 in
theorem qX4_unsure_22 (n : Nat)  (z : mm_S) : eX4_unsure_22 (n + 1)  z = ((sX4_finding (-1000005) z).bind fun q4 => some (some (mm_I q4.1), q4.2)) := rfl
set_option maxRecDepth 100000 in
theorem qX4_unsure_48 (n : Nat)  (y1 : Int32) (z : mm_S) : eX4_unsure_48 (n + 1) y1 z = ((sX4_getsUnsure y1 z).bind fun q5 => some (some (mm_I q5.1), q5.2)) := rfl
def rm_X4_unsure : Room := { frames := 2, cells := 0, slots := 0, locals := 42 }
noncomputable def f_X4_unsure (as : List mm_V) (z : mm_S) (o : mm_R) : Prop := (as.map mm_cat).sum ≤ 2 ∧ ∃ n, go_X4_unsure n 0 (mm_ar 0 as) [] z = some o
theorem M_X4_unsure : mm_M lyTM lyFA lenM snM 22 22 17 roM rsA nfA nmA [] yX4_unsure cX4_unsure 2 (some .int) rm_X4_unsure f_X4_unsure :=
  mm_met (rt := 0) (by decide +kernel) ⟨fun h => rfl, fun h => absurd h (by decide), fun h => absurd h (by decide), fun h => absurd h (by decide)⟩ tbX4_unsure_ok hsnM okFX4 okLX4 (fun _ h => absurd h List.not_mem_nil) (fun _ _ _ _ => rfl) (fun _ _ _ _ => rfl) (List.forall_mem_cons.mpr ⟨sV_X4_finding (Or.inl lk_X4_124) rfl ⟨by decide, by decide⟩, List.forall_mem_cons.mpr ⟨sV_X4_isUnsure (Or.inl lk_X4_165) rfl ⟨by decide, by decide⟩, List.forall_mem_cons.mpr ⟨sV_X4_getsUnsure (Or.inl lk_X4_169) rfl ⟨by decide, by decide⟩, fun _ h => absurd h List.not_mem_nil⟩⟩⟩) (List.forall_mem_cons.mpr ⟨sS_X4_isCell (Or.inl lk_X4_114) rfl ⟨by decide, by decide⟩, fun _ h => absurd h List.not_mem_nil⟩)
noncomputable def sX4_unsure_22  (z : mm_S) : Option (Int32 × mm_S) := (sX4_finding (-1000005) z).bind fun q4 => some (q4.1, q4.2)
theorem kX4_unsure_22  (z : mm_S) (oo : mm_R) : mm_Xs (sX4_unsure_22  z) (fun v => (fun v : Int32 × mm_S => ((some (mm_I v.1), v.2) : mm_R)) v = oo) (fun n => eX4_unsure_22 n  z) oo :=
  xs_row (fun n => qX4_unsure_22 n z) (xs_bd fun q4 => (xs_v fun hc => ⟨0, congrArg some hc⟩))
noncomputable def sX4_unsure_48 (y1 : Int32) (z : mm_S) : Option (Int32 × mm_S) := (sX4_getsUnsure y1 z).bind fun q5 => some (q5.1, q5.2)
theorem kX4_unsure_48 (y1 : Int32) (z : mm_S) (oo : mm_R) : mm_Xs (sX4_unsure_48 y1 z) (fun v => (fun v : Int32 × mm_S => ((some (mm_I v.1), v.2) : mm_R)) v = oo) (fun n => eX4_unsure_48 n y1 z) oo :=
  xs_row (fun n => qX4_unsure_48 n y1 z) (xs_bd fun q5 => (xs_v fun hc => ⟨0, congrArg some hc⟩))
noncomputable def sX4_unsure_29 (y1 : Int32) (z : mm_S) : Option (Int32 × mm_S) := if (z.1 1 3) = 4 then (sX4_finding (-1000002) z).bind fun q3 => some (q3.1, q3.2) else (sX4_unsure_48 y1 z)
theorem kX4_unsure_29 (y1 : Int32) (z : mm_S) (oo : mm_R) : mm_Xs (sX4_unsure_29 y1 z) (fun v => (fun v : Int32 × mm_S => ((some (mm_I v.1), v.2) : mm_R)) v = oo) (fun n => eX4_unsure_29 n y1 z) oo :=
  xs_row (fun n => qX4_unsure_29 n y1 z) (xs_if (xs_bd fun q3 => (xs_v fun hc => ⟨0, congrArg some hc⟩)) (kX4_unsure_48 y1 z oo))
noncomputable def sX4_unsure_14 (y1 : Int32) (z : mm_S) : Option (Int32 × mm_S) := (sX4_isUnsure y1 z).bind fun q2 => if q2.1 = 0 then (sX4_unsure_29 y1 q2.2) else (sX4_unsure_22 q2.2)
theorem kX4_unsure_14 (y1 : Int32) (z : mm_S) (oo : mm_R) : mm_Xs (sX4_unsure_14 y1 z) (fun v => (fun v : Int32 × mm_S => ((some (mm_I v.1), v.2) : mm_R)) v = oo) (fun n => eX4_unsure_14 n y1 z) oo :=
  xs_row (fun n => qX4_unsure_14 n y1 z) (xs_bd fun q2 => (xs_if (kX4_unsure_29 y1 q2.2 oo) (kX4_unsure_22 q2.2 oo)))
noncomputable def sX4_unsure_0 (x1 : Int32) (z : mm_S) : Option (Int32 × mm_S) := if (pX4_isCell x1) = 0 then (sX4_finding (-1000001) z).bind fun q1 => some (q1.1, q1.2) else (sX4_unsure_14 x1 z)
theorem kX4_unsure_0 (x1 : Int32) (z : mm_S) (oo : mm_R) : mm_Xs (sX4_unsure_0 x1 z) (fun v => (fun v : Int32 × mm_S => ((some (mm_I v.1), v.2) : mm_R)) v = oo) (fun n => eX4_unsure_0 n x1 z) oo :=
  xs_row (fun n => qX4_unsure_0 n x1 z) (xs_if (xs_bd fun q1 => (xs_v fun hc => ⟨0, congrArg some hc⟩)) (kX4_unsure_14 x1 z oo))
noncomputable def sX4_unsure (x1 : Int32) (z : mm_S) : Option (Int32 × mm_S) := sX4_unsure_0 x1 z
theorem sp_X4_unsure (x1 : Int32) (z : mm_S) (hk : ∀ v ∈ [mm_P 4 0, mm_I x1], mm_ok 22 lyTM 22 17 v) (q : Int32 × mm_S) (hq : sX4_unsure x1 z = some q) : f_X4_unsure [mm_P 4 0, mm_I x1] z (some (mm_I q.1), q.2) := ⟨Nat.le_of_ble_eq_true rfl, kX4_unsure_0 x1 z _ q hq rfl⟩
noncomputable def clo_X4_unsure (as : List mm_V) (z : mm_S) (kk : Option mm_V → mm_S → Option mm_R) : Option mm_R := mm_pr as fun t o0 as => bif Nat.beq t 4 then mm_pi as fun a1 as => (match as with | [] => (sX4_unsure a1 z).bind fun q => kk (some (mm_I q.1)) q.2 | _ => none) else none
theorem cs_X4_unsure : mm_cs lyTM 22 22 17 f_X4_unsure clo_X4_unsure := by
  intro as z K o hk h
  obtain ⟨t0, o0, r0, rfl, g0⟩ := mm_pr_e h
  obtain ⟨b0, k0⟩ := mm_bif_e g0
  obtain rfl := Nat.eq_of_beq_eq_true b0
  obtain ⟨a1, r1, rfl, g1⟩ := mm_pi_e k0
  rcases r1 with _ | ⟨u, w⟩
  rotate_left
  · cases g1
  obtain rfl : o0 = 0 := ok4 (hk (mm_P 4 o0) (by simp))
  obtain ⟨q, hq, hq2⟩ := Option.bind_eq_some_iff.mp g1
  exact ⟨_, _, sp_X4_unsure a1 z hk q hq, fun v hv => by cases hv; exact Or.inl ⟨_, rfl⟩, hq2⟩
theorem sV_X4_unsure {own : String} {R : Room} {ar : Nat → Nat} {k : Nat} (hlink : Cond.methodLink own k yX4_unsure ∈ lw_gd ∨ ∃ host, (own, k, yX4_unsure, host) ∈ nmA) (har : ar k = 2) (hr : 3 ≤ R.frames ∧ 63 ≤ R.locals) : mm_okV lyTM lyFA lenM snM 22 22 17 roM rsA nfA nmA [] own R ar k clo_X4_unsure := by
  refine ⟨yX4_unsure, cX4_unsure, 2, some .int, rm_X4_unsure, f_X4_unsure, 4, 1, (RX4, TX4, 36), M_X4_unsure, cs_X4_unsure, hlink, ⟨wv_X4_unsure, wz_X4_unsure, wi_X4_unsure, wc_X4_unsure⟩, ⟨by decide +kernel, by decide +kernel, by decide +kernel⟩, har, ⟨rfl, rfl, by decide⟩, ?_, ⟨rfl, rfl, hr.1, hr.2⟩⟩
  intro as z K o h
  obtain ⟨t0, o0, r0, rfl, g0⟩ := mm_pr_e h
  obtain ⟨b0, k0⟩ := mm_bif_e g0
  obtain rfl := Nat.eq_of_beq_eq_true b0
  exact ⟨_, _, rfl⟩
-- X4_sure
noncomputable def lV_X4_sure : List (Nat × (List mm_V → mm_S → (Option mm_V → mm_S → Option mm_R) → Option mm_R)) := [(121, clo_X4_become)]
noncomputable def mV_X4_sure (k : Nat) (as : List mm_V) (z : mm_S) (kk : Option mm_V → mm_S → Option mm_R) : Option mm_R := match mm_at lV_X4_sure k with
  | some f => f as z kk
  | none => none
noncomputable def arV_X4_sure (k : Nat) : Nat := (mm_at [(121, 3)] k).getD 0
noncomputable def lS_X4_sure : List (Nat × (List mm_V → mm_S → (Option mm_V → mm_S → Option mm_R) → Option mm_R)) := []
noncomputable def mS_X4_sure (k : Nat) (as : List mm_V) (z : mm_S) (kk : Option mm_V → mm_S → Option mm_R) : Option mm_R := match mm_at lS_X4_sure k with
  | some f => f as z kk
  | none => none
noncomputable def arS_X4_sure (k : Nat) : Nat := (mm_at [] k).getD 0
def ct_X4_sure : List (Nat × List Nat) := []
noncomputable def go_X4_sure : Nat → mm_K := mm_go (fun k => mm_at flX4 k) (fun k => mm_at clX4 k) (fun k => mm_at glX4 k) arV_X4_sure arS_X4_sure mV_X4_sure mS_X4_sure lenM roM snM 1 0 tbX4_sure ct_X4_sure
noncomputable def eX4_sure_0 (n : Nat)  (z : mm_S) : Option mm_R := go_X4_sure n 0 [(0, mm_P 4 0)] [] z
set_option maxRecDepth 100000 in
theorem qX4_sure_0 (n : Nat)  (z : mm_S) : eX4_sure_0 (n + 1)  z = ((sX4_become 3 0 z).bind fun q1 => some (some (mm_I q1.1), q1.2)) := rfl
def rm_X4_sure : Room := { frames := 1, cells := 0, slots := 0, locals := 23 }
noncomputable def f_X4_sure (as : List mm_V) (z : mm_S) (o : mm_R) : Prop := (as.map mm_cat).sum ≤ 1 ∧ ∃ n, go_X4_sure n 0 (mm_ar 0 as) [] z = some o
theorem M_X4_sure : mm_M lyTM lyFA lenM snM 22 22 17 roM rsA nfA nmA [] yX4_sure cX4_sure 1 (some .int) rm_X4_sure f_X4_sure :=
  mm_met (rt := 0) (by decide +kernel) ⟨fun h => rfl, fun h => absurd h (by decide), fun h => absurd h (by decide), fun h => absurd h (by decide)⟩ tbX4_sure_ok hsnM okFX4 okLX4 (fun _ h => absurd h List.not_mem_nil) (fun _ _ _ _ => rfl) (fun _ _ _ _ => rfl) (List.forall_mem_cons.mpr ⟨sV_X4_become (Or.inl lk_X4_121) rfl ⟨by decide, by decide⟩, fun _ h => absurd h List.not_mem_nil⟩) (fun _ h => absurd h List.not_mem_nil)
noncomputable def sX4_sure_0  (z : mm_S) : Option (Int32 × mm_S) := (sX4_become 3 0 z).bind fun q1 => some (q1.1, q1.2)
theorem kX4_sure_0  (z : mm_S) (oo : mm_R) : mm_Xs (sX4_sure_0  z) (fun v => (fun v : Int32 × mm_S => ((some (mm_I v.1), v.2) : mm_R)) v = oo) (fun n => eX4_sure_0 n  z) oo :=
  xs_row (fun n => qX4_sure_0 n z) (xs_bd fun q1 => (xs_v fun hc => ⟨0, congrArg some hc⟩))
noncomputable def sX4_sure  (z : mm_S) : Option (Int32 × mm_S) := sX4_sure_0  z
theorem sp_X4_sure  (z : mm_S) (hk : ∀ v ∈ [mm_P 4 0], mm_ok 22 lyTM 22 17 v) (q : Int32 × mm_S) (hq : sX4_sure  z = some q) : f_X4_sure [mm_P 4 0] z (some (mm_I q.1), q.2) := ⟨Nat.le_of_ble_eq_true rfl, kX4_sure_0  z _ q hq rfl⟩
noncomputable def clo_X4_sure (as : List mm_V) (z : mm_S) (kk : Option mm_V → mm_S → Option mm_R) : Option mm_R := mm_pr as fun t o0 as => bif Nat.beq t 4 then (match as with | [] => (sX4_sure z).bind fun q => kk (some (mm_I q.1)) q.2 | _ => none) else none
theorem cs_X4_sure : mm_cs lyTM 22 22 17 f_X4_sure clo_X4_sure := by
  intro as z K o hk h
  obtain ⟨t0, o0, r0, rfl, g0⟩ := mm_pr_e h
  obtain ⟨b0, k0⟩ := mm_bif_e g0
  obtain rfl := Nat.eq_of_beq_eq_true b0
  rcases r0 with _ | ⟨u, w⟩
  rotate_left
  · cases k0
  obtain rfl : o0 = 0 := ok4 (hk (mm_P 4 o0) (by simp))
  obtain ⟨q, hq, hq2⟩ := Option.bind_eq_some_iff.mp k0
  exact ⟨_, _, sp_X4_sure  z hk q hq, fun v hv => by cases hv; exact Or.inl ⟨_, rfl⟩, hq2⟩
theorem sV_X4_sure {own : String} {R : Room} {ar : Nat → Nat} {k : Nat} (hlink : Cond.methodLink own k yX4_sure ∈ lw_gd ∨ ∃ host, (own, k, yX4_sure, host) ∈ nmA) (har : ar k = 1) (hr : 2 ≤ R.frames ∧ 43 ≤ R.locals) : mm_okV lyTM lyFA lenM snM 22 22 17 roM rsA nfA nmA [] own R ar k clo_X4_sure := by
  refine ⟨yX4_sure, cX4_sure, 1, some .int, rm_X4_sure, f_X4_sure, 4, 0, (RX4, TX4, 36), M_X4_sure, cs_X4_sure, hlink, ⟨wv_X4_sure, wz_X4_sure, wi_X4_sure, wc_X4_sure⟩, ⟨by decide +kernel, by decide +kernel, by decide +kernel⟩, har, ⟨rfl, rfl, by decide⟩, ?_, ⟨rfl, rfl, hr.1, hr.2⟩⟩
  intro as z K o h
  obtain ⟨t0, o0, r0, rfl, g0⟩ := mm_pr_e h
  obtain ⟨b0, k0⟩ := mm_bif_e g0
  obtain rfl := Nat.eq_of_beq_eq_true b0
  exact ⟨_, _, rfl⟩
-- X4_pace
noncomputable def lV_X4_pace : List (Nat × (List mm_V → mm_S → (Option mm_V → mm_S → Option mm_R) → Option mm_R)) := []
noncomputable def mV_X4_pace (k : Nat) (as : List mm_V) (z : mm_S) (kk : Option mm_V → mm_S → Option mm_R) : Option mm_R := match mm_at lV_X4_pace k with
  | some f => f as z kk
  | none => none
noncomputable def arV_X4_pace (k : Nat) : Nat := (mm_at [] k).getD 0
noncomputable def lS_X4_pace : List (Nat × (List mm_V → mm_S → (Option mm_V → mm_S → Option mm_R) → Option mm_R)) := []
noncomputable def mS_X4_pace (k : Nat) (as : List mm_V) (z : mm_S) (kk : Option mm_V → mm_S → Option mm_R) : Option mm_R := match mm_at lS_X4_pace k with
  | some f => f as z kk
  | none => none
noncomputable def arS_X4_pace (k : Nat) : Nat := (mm_at [] k).getD 0
def ct_X4_pace : List (Nat × List Nat) := []
noncomputable def go_X4_pace : Nat → mm_K := mm_go (fun k => mm_at flX4 k) (fun k => mm_at clX4 k) (fun k => mm_at glX4 k) arV_X4_pace arS_X4_pace mV_X4_pace mS_X4_pace lenM roM snM 1 0 tbX4_pace ct_X4_pace
noncomputable def eX4_pace_0 (n : Nat) (x1 : Int32) (z : mm_S) : Option mm_R := go_X4_pace n 0 [(0, mm_I x1)] [] z
set_option maxRecDepth 100000 in
theorem qX4_pace_0 (n : Nat) (x1 : Int32) (z : mm_S) : eX4_pace_0 (n + 1) x1 z = (if x1 = 0 then some (some (mm_I 2), z) else if x1 = 1 then some (some (mm_I 6), z) else if x1 = 3 then some (some (mm_I 3), z) else some (some (mm_I 1), z)) := rfl
def rm_X4_pace : Room := { frames := 0, cells := 0, slots := 0, locals := 0 }
noncomputable def f_X4_pace (as : List mm_V) (z : mm_S) (o : mm_R) : Prop := (as.map mm_cat).sum ≤ 1 ∧ ∃ n, go_X4_pace n 0 (mm_ar 0 as) [] z = some o
theorem M_X4_pace : mm_M lyTM lyFA lenM snM 22 22 17 roM rsA nfA nmA [] yX4_pace cX4_pace 1 (some .int) rm_X4_pace f_X4_pace :=
  mm_met (rt := 0) (by decide +kernel) ⟨fun h => rfl, fun h => absurd h (by decide), fun h => absurd h (by decide), fun h => absurd h (by decide)⟩ tbX4_pace_ok hsnM okFX4 okLX4 (fun _ h => absurd h List.not_mem_nil) (fun _ _ _ _ => rfl) (fun _ _ _ _ => rfl) (fun _ h => absurd h List.not_mem_nil) (fun _ h => absurd h List.not_mem_nil)
noncomputable def pX4_pace (x1 : Int32) : Int32 := if x1 = 0 then 2 else if x1 = 1 then 6 else if x1 = 3 then 3 else 1
theorem sp_X4_pace (x1 : Int32) (z : mm_S) (_ : ∀ v ∈ [mm_I x1], mm_ok 22 lyTM 22 17 v) : f_X4_pace [mm_I x1] z (some (mm_I (pX4_pace x1)), z) := ⟨Nat.le_of_ble_eq_true rfl, 1, (qX4_pace_0 0 x1 z).trans (mm_if (fun v => some (some (mm_I v), z)) rfl (mm_if (fun v => some (some (mm_I v), z)) rfl (mm_if (fun v => some (some (mm_I v), z)) rfl rfl)))⟩
noncomputable def clo_X4_pace (as : List mm_V) (z : mm_S) (kk : Option mm_V → mm_S → Option mm_R) : Option mm_R := mm_pi as fun a0 as => (match as with | [] => kk (some (mm_I (pX4_pace a0))) z | _ => none)
theorem cs_X4_pace : mm_cs lyTM 22 22 17 f_X4_pace clo_X4_pace := by
  intro as z K o hk h
  obtain ⟨a0, r0, rfl, g0⟩ := mm_pi_e h
  rcases r0 with _ | ⟨u, w⟩
  rotate_left
  · cases g0
  exact ⟨_, _, sp_X4_pace a0 z hk, fun v hv => by cases hv; exact Or.inl ⟨_, rfl⟩, g0⟩
theorem sS_X4_pace {own : String} {R : Room} {ar : Nat → Nat} {k : Nat} (hlink : Cond.methodLink own k yX4_pace ∈ lw_gd ∨ ∃ host, (own, k, yX4_pace, host) ∈ nmA) (har : ar k = 1) (hr : 1 ≤ R.frames ∧ 20 ≤ R.locals) : mm_okS lyTM lyFA lenM snM 22 22 17 roM rsA nfA nmA [] own R ar k clo_X4_pace :=
  Or.inl ⟨yX4_pace, cX4_pace, 1, some .int, rm_X4_pace, f_X4_pace, M_X4_pace, cs_X4_pace, hlink, ⟨ws_X4_pace, wi_X4_pace, wc_X4_pace⟩, ⟨by decide +kernel, by decide +kernel, by rw [har]; decide +kernel⟩, ⟨rfl, rfl, hr.1, hr.2⟩⟩
-- X4_beside
noncomputable def lV_X4_beside : List (Nat × (List mm_V → mm_S → (Option mm_V → mm_S → Option mm_R) → Option mm_R)) := []
noncomputable def mV_X4_beside (k : Nat) (as : List mm_V) (z : mm_S) (kk : Option mm_V → mm_S → Option mm_R) : Option mm_R := match mm_at lV_X4_beside k with
  | some f => f as z kk
  | none => none
noncomputable def arV_X4_beside (k : Nat) : Nat := (mm_at [] k).getD 0
noncomputable def lS_X4_beside : List (Nat × (List mm_V → mm_S → (Option mm_V → mm_S → Option mm_R) → Option mm_R)) := [(106, clo_X4_within)]
noncomputable def mS_X4_beside (k : Nat) (as : List mm_V) (z : mm_S) (kk : Option mm_V → mm_S → Option mm_R) : Option mm_R := match mm_at lS_X4_beside k with
  | some f => f as z kk
  | none => none
noncomputable def arS_X4_beside (k : Nat) : Nat := (mm_at [(106, 3)] k).getD 0
def ct_X4_beside : List (Nat × List Nat) := [(24, [0, 1, 2]), (49, [2, 3])]
noncomputable def go_X4_beside : Nat → mm_K := mm_go (fun k => mm_at flX4 k) (fun k => mm_at clX4 k) (fun k => mm_at glX4 k) arV_X4_beside arS_X4_beside mV_X4_beside mS_X4_beside lenM roM snM 4 0 tbX4_beside ct_X4_beside
noncomputable def eX4_beside_0 (n : Nat) (x1 : Int32) (x2 : Int32) (z : mm_S) : Option mm_R := go_X4_beside n 0 [(0, mm_I x1), (1, mm_I x2)] [] z
noncomputable def eX4_beside_24 (n : Nat) (y0 : Int32) (y1 : Int32) (y2 : Int32) (z : mm_S) : Option mm_R := go_X4_beside n 24 [(0, mm_I y0), (1, mm_I y1), (2, mm_I y2)] [] z
noncomputable def eX4_beside_49 (n : Nat) (y2 : Int32) (y3 : Int32) (z : mm_S) : Option mm_R := go_X4_beside n 49 [(2, mm_I y2), (3, mm_I y3)] [] z
set_option maxRecDepth 100000 in
theorem qX4_beside_0 (n : Nat) (x1 : Int32) (x2 : Int32) (z : mm_S) : eX4_beside_0 (n + 1) x1 x2 z = (if x2 = 0 then eX4_beside_24 n x1 x2 ((x1 / 6) + (-1)) z else if x2 = 1 then eX4_beside_24 n x1 x2 ((x1 / 6) + 1) z else eX4_beside_24 n x1 x2 ((x1 / 6) + 0) z) := rfl
set_option maxRecDepth 100000 in
theorem qX4_beside_24 (n : Nat) (y0 : Int32) (y1 : Int32) (y2 : Int32) (z : mm_S) : eX4_beside_24 (n + 1) y0 y1 y2 z = (if y1 = 2 then eX4_beside_49 n y2 ((y0 - y0 / 6 * 6) + (-1)) z else if y1 = 3 then eX4_beside_49 n y2 ((y0 - y0 / 6 * 6) + 1) z else eX4_beside_49 n y2 ((y0 - y0 / 6 * 6) + 0) z) := rfl
set_option maxRecDepth 100000 in
theorem qX4_beside_49 (n : Nat) (y2 : Int32) (y3 : Int32) (z : mm_S) : eX4_beside_49 (n + 1) y2 y3 z = (if (pX4_within y2 0 5) = 0 then some (some (mm_I (-1)), z) else if (pX4_within y3 0 5) = 0 then some (some (mm_I (-1)), z) else some (some (mm_I ((6 * y2) + y3)), z)) := rfl
def rm_X4_beside : Room := { frames := 1, cells := 0, slots := 0, locals := 22 }
noncomputable def f_X4_beside (as : List mm_V) (z : mm_S) (o : mm_R) : Prop := (as.map mm_cat).sum ≤ 4 ∧ ∃ n, go_X4_beside n 0 (mm_ar 0 as) [] z = some o
theorem M_X4_beside : mm_M lyTM lyFA lenM snM 22 22 17 roM rsA nfA nmA [] yX4_beside cX4_beside 4 (some .int) rm_X4_beside f_X4_beside :=
  mm_met (rt := 0) (by decide +kernel) ⟨fun h => rfl, fun h => absurd h (by decide), fun h => absurd h (by decide), fun h => absurd h (by decide)⟩ tbX4_beside_ok hsnM okFX4 okLX4 (fun _ h => absurd h List.not_mem_nil) (fun _ _ _ _ => rfl) (fun _ _ _ _ => rfl) (fun _ h => absurd h List.not_mem_nil) (List.forall_mem_cons.mpr ⟨sS_X4_within (Or.inl lk_X4_106) rfl ⟨by decide, by decide⟩, fun _ h => absurd h List.not_mem_nil⟩)
noncomputable def pX4_beside_49 (y2 : Int32) (y3 : Int32) (z : mm_S) : Int32 := if (pX4_within y2 0 5) = 0 then (-1) else if (pX4_within y3 0 5) = 0 then (-1) else ((6 * y2) + y3)
theorem kX4_beside_49 (n : Nat) (y2 : Int32) (y3 : Int32) (z : mm_S) : eX4_beside_49 (n + 1) y2 y3 z = some (some (mm_I (pX4_beside_49 y2 y3 z)), z) := (qX4_beside_49 (n + 0) y2 y3 z).trans (mm_if (fun v => some (some (mm_I v), z)) rfl (mm_if (fun v => some (some (mm_I v), z)) rfl rfl))
noncomputable def pX4_beside_24 (y0 : Int32) (y1 : Int32) (y2 : Int32) (z : mm_S) : Int32 := if y1 = 2 then (pX4_beside_49 y2 ((y0 - y0 / 6 * 6) + (-1)) z) else if y1 = 3 then (pX4_beside_49 y2 ((y0 - y0 / 6 * 6) + 1) z) else (pX4_beside_49 y2 ((y0 - y0 / 6 * 6) + 0) z)
theorem kX4_beside_24 (n : Nat) (y0 : Int32) (y1 : Int32) (y2 : Int32) (z : mm_S) : eX4_beside_24 (n + 2) y0 y1 y2 z = some (some (mm_I (pX4_beside_24 y0 y1 y2 z)), z) := (qX4_beside_24 (n + 1) y0 y1 y2 z).trans (mm_if (fun v => some (some (mm_I v), z)) (kX4_beside_49 (n + 0) y2 ((y0 - y0 / 6 * 6) + (-1)) z) (mm_if (fun v => some (some (mm_I v), z)) (kX4_beside_49 (n + 0) y2 ((y0 - y0 / 6 * 6) + 1) z) (kX4_beside_49 (n + 0) y2 ((y0 - y0 / 6 * 6) + 0) z)))
noncomputable def pX4_beside (x1 : Int32) (x2 : Int32) (z : mm_S) : Int32 := if x2 = 0 then (pX4_beside_24 x1 x2 ((x1 / 6) + (-1)) z) else if x2 = 1 then (pX4_beside_24 x1 x2 ((x1 / 6) + 1) z) else (pX4_beside_24 x1 x2 ((x1 / 6) + 0) z)
theorem kX4_beside_0 (n : Nat) (x1 : Int32) (x2 : Int32) (z : mm_S) : eX4_beside_0 (n + 3) x1 x2 z = some (some (mm_I (pX4_beside x1 x2 z)), z) := (qX4_beside_0 (n + 2) x1 x2 z).trans (mm_if (fun v => some (some (mm_I v), z)) (kX4_beside_24 (n + 0) x1 x2 ((x1 / 6) + (-1)) z) (mm_if (fun v => some (some (mm_I v), z)) (kX4_beside_24 (n + 0) x1 x2 ((x1 / 6) + 1) z) (kX4_beside_24 (n + 0) x1 x2 ((x1 / 6) + 0) z)))
theorem sp_X4_beside (x1 : Int32) (x2 : Int32) (z : mm_S) (hk : ∀ v ∈ [mm_I x1, mm_I x2], mm_ok 22 lyTM 22 17 v) : f_X4_beside [mm_I x1, mm_I x2] z (some (mm_I (pX4_beside x1 x2 z)), z) := ⟨Nat.le_of_ble_eq_true rfl, 0 + 3, kX4_beside_0 0 x1 x2 z⟩
noncomputable def clo_X4_beside (as : List mm_V) (z : mm_S) (kk : Option mm_V → mm_S → Option mm_R) : Option mm_R := mm_pi as fun a0 as => mm_pi as fun a1 as => (match as with | [] => kk (some (mm_I (pX4_beside a0 a1 z))) z | _ => none)
theorem cs_X4_beside : mm_cs lyTM 22 22 17 f_X4_beside clo_X4_beside := by
  intro as z K o hk h
  obtain ⟨a0, r0, rfl, g0⟩ := mm_pi_e h
  obtain ⟨a1, r1, rfl, g1⟩ := mm_pi_e g0
  rcases r1 with _ | ⟨u, w⟩
  rotate_left
  · cases g1
  exact ⟨_, _, sp_X4_beside a0 a1 z hk, fun v hv => by cases hv; exact Or.inl ⟨_, rfl⟩, g1⟩
theorem sS_X4_beside {own : String} {R : Room} {ar : Nat → Nat} {k : Nat} (hlink : Cond.methodLink own k yX4_beside ∈ lw_gd ∨ ∃ host, (own, k, yX4_beside, host) ∈ nmA) (har : ar k = 2) (hr : 2 ≤ R.frames ∧ 45 ≤ R.locals) : mm_okS lyTM lyFA lenM snM 22 22 17 roM rsA nfA nmA [] own R ar k clo_X4_beside :=
  Or.inl ⟨yX4_beside, cX4_beside, 4, some .int, rm_X4_beside, f_X4_beside, M_X4_beside, cs_X4_beside, hlink, ⟨ws_X4_beside, wi_X4_beside, wc_X4_beside⟩, ⟨by decide +kernel, by decide +kernel, by rw [har]; decide +kernel⟩, ⟨rfl, rfl, hr.1, hr.2⟩⟩
