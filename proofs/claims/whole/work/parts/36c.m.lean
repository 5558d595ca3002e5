-- X4_must
noncomputable def lV_X4_must : List (Nat × (List mm_V → mm_S → (Option mm_V → mm_S → Option mm_R) → Option mm_R)) := [(334, clo_X4_next)]
noncomputable def mV_X4_must (k : Nat) (as : List mm_V) (z : mm_S) (kk : Option mm_V → mm_S → Option mm_R) : Option mm_R := match mm_at lV_X4_must k with
  | some f => f as z kk
  | none => none
noncomputable def arV_X4_must (k : Nat) : Nat := (mm_at [(334, 1)] k).getD 0
noncomputable def lS_X4_must : List (Nat × (List mm_V → mm_S → (Option mm_V → mm_S → Option mm_R) → Option mm_R)) := []
noncomputable def mS_X4_must (k : Nat) (as : List mm_V) (z : mm_S) (kk : Option mm_V → mm_S → Option mm_R) : Option mm_R := match mm_at lS_X4_must k with
  | some f => f as z kk
  | none => none
noncomputable def arS_X4_must (k : Nat) : Nat := (mm_at [] k).getD 0
def ct_X4_must : List (Nat × List Nat) := [(20, [0]), (31, [])]
noncomputable def go_X4_must : Nat → mm_K := mm_go (fun k => mm_at flX4 k) (fun k => mm_at clX4 k) (fun k => mm_at glX4 k) arV_X4_must arS_X4_must mV_X4_must mS_X4_must lenM roM snM 2 3 tbX4_must ct_X4_must
noncomputable def eX4_must_0 (n : Nat)  (x1 : Int32) (z : mm_S) : Option mm_R := go_X4_must n 0 [(0, mm_P 4 0), (1, mm_I x1)] [] z
noncomputable def eX4_must_20 (n : Nat)  (z : mm_S) : Option mm_R := go_X4_must n 20 [(0, mm_P 4 0)] [] z
noncomputable def eX4_must_31 (n : Nat)  (z : mm_S) : Option mm_R := go_X4_must n 31 [] [] z
set_option maxRecDepth 100000 in
theorem qX4_must_0 (n : Nat)  (x1 : Int32) (z : mm_S) : eX4_must_0 (n + 1) x1 z = (if (z.1 0 23) = 0 then if x1 = 0 then eX4_must_20 n  ((mm_ui z.1 0 23 1), z.2) else eX4_must_20 n  ((mm_ui z.1 0 23 0), z.2) else eX4_must_20 n  ((mm_ui z.1 0 23 1), z.2)) := rfl
set_option maxRecDepth 100000 in
theorem qX4_must_20 (n : Nat)  (z : mm_S) : eX4_must_20 (n + 1)  z = (if (z.1 0 23) = 0 then (sX4_next  z).bind fun q1 => eX4_must_31 n  q1 else eX4_must_31 n  z) := rfl
set_option maxRecDepth 100000 in
theorem qX4_must_31 (n : Nat)  (z : mm_S) : eX4_must_31 (n + 1)  z = (some (none, z)) := rfl
def rm_X4_must : Room := { frames := 2, cells := 0, slots := 0, locals := 43 }
noncomputable def f_X4_must (as : List mm_V) (z : mm_S) (o : mm_R) : Prop := (as.map mm_cat).sum ≤ 2 ∧ ∃ n, go_X4_must n 0 (mm_ar 0 as) [] z = some o
theorem M_X4_must : mm_M lyTM lyFA lenM snM 22 22 17 roM rsA nfA nmA [] yX4_must cX4_must 2 (none) rm_X4_must f_X4_must :=
  mm_met (rt := 3) (by decide +kernel) ⟨fun h => absurd h (by decide), fun h => absurd h (by decide), fun h => absurd h (by decide), fun h => rfl⟩ tbX4_must_ok hsnM okFX4 okLX4 (fun _ h => absurd h List.not_mem_nil) (fun _ _ _ _ => rfl) (fun _ _ _ _ => rfl) (List.forall_mem_cons.mpr ⟨sV_X4_next (Or.inl lk_X4_334) rfl ⟨by decide, by decide⟩, fun _ h => absurd h List.not_mem_nil⟩) (fun _ h => absurd h List.not_mem_nil)
noncomputable def sX4_must_31  (z : mm_S) : Option (mm_S) := some (z)
theorem kX4_must_31  (z : mm_S) (oo : mm_R) : mm_Xs (sX4_must_31  z) (fun v => (fun v : mm_S => ((none, v) : mm_R)) v = oo) (fun n => eX4_must_31 n  z) oo :=
  xs_row (fun n => qX4_must_31 n z) (xs_v fun hc => ⟨0, congrArg some hc⟩)
noncomputable def sX4_must_20  (z : mm_S) : Option (mm_S) := if (z.1 0 23) = 0 then (sX4_next  z).bind fun q1 => (sX4_must_31 q1) else (sX4_must_31 z)
theorem kX4_must_20  (z : mm_S) (oo : mm_R) : mm_Xs (sX4_must_20  z) (fun v => (fun v : mm_S => ((none, v) : mm_R)) v = oo) (fun n => eX4_must_20 n  z) oo :=
  xs_row (fun n => qX4_must_20 n z) (xs_if (xs_bd fun q1 => (kX4_must_31 q1 oo)) (kX4_must_31 z oo))
noncomputable def sX4_must_0 (x1 : Int32) (z : mm_S) : Option (mm_S) := if (z.1 0 23) = 0 then if x1 = 0 then (sX4_must_20 ((mm_ui z.1 0 23 1), z.2)) else (sX4_must_20 ((mm_ui z.1 0 23 0), z.2)) else (sX4_must_20 ((mm_ui z.1 0 23 1), z.2))
theorem kX4_must_0 (x1 : Int32) (z : mm_S) (oo : mm_R) : mm_Xs (sX4_must_0 x1 z) (fun v => (fun v : mm_S => ((none, v) : mm_R)) v = oo) (fun n => eX4_must_0 n x1 z) oo :=
  xs_row (fun n => qX4_must_0 n x1 z) (xs_if (xs_if (kX4_must_20 ((mm_ui z.1 0 23 1), z.2) oo) (kX4_must_20 ((mm_ui z.1 0 23 0), z.2) oo)) (kX4_must_20 ((mm_ui z.1 0 23 1), z.2) oo))
noncomputable def sX4_must (x1 : Int32) (z : mm_S) : Option (mm_S) := sX4_must_0 x1 z
theorem sp_X4_must (x1 : Int32) (z : mm_S) (hk : ∀ v ∈ [mm_P 4 0, mm_I x1], mm_ok 22 lyTM 22 17 v) (q : mm_S) (hq : sX4_must x1 z = some q) : f_X4_must [mm_P 4 0, mm_I x1] z (none, q) := ⟨Nat.le_of_ble_eq_true rfl, kX4_must_0 x1 z _ q hq rfl⟩
noncomputable def clo_X4_must (as : List mm_V) (z : mm_S) (kk : Option mm_V → mm_S → Option mm_R) : Option mm_R := mm_pr as fun t o0 as => bif Nat.beq t 4 then mm_pi as fun a1 as => (match as with | [] => (sX4_must a1 z).bind fun q => kk none q | _ => none) else none
theorem cs_X4_must : mm_cs lyTM 22 22 17 f_X4_must clo_X4_must := by
  intro as z K o hk h
  obtain ⟨t0, o0, r0, rfl, g0⟩ := mm_pr_e h
  obtain ⟨b0, k0⟩ := mm_bif_e g0
  obtain rfl := Nat.eq_of_beq_eq_true b0
  obtain ⟨a1, r1, rfl, g1⟩ := mm_pi_e k0
  rcases r1 with _ | ⟨u, w⟩
  rotate_left
  · cases g1
  obtain rfl : o0 = 0 := ok4 (hk (mm_P 4 o0) (by simp))
  obtain ⟨q, hq, hq2⟩ := Option.bind_eq_some_iff.mp g1
  exact ⟨_, _, sp_X4_must a1 z hk q hq, (fun v hv => by cases hv), hq2⟩
theorem sV_X4_must {own : String} {R : Room} {ar : Nat → Nat} {k : Nat} (hlink : Cond.methodLink own k yX4_must ∈ lw_gd ∨ ∃ host, (own, k, yX4_must, host) ∈ nmA) (har : ar k = 2) (hr : 3 ≤ R.frames ∧ 64 ≤ R.locals) : mm_okV lyTM lyFA lenM snM 22 22 17 roM rsA nfA nmA [] own R ar k clo_X4_must := by
  refine ⟨yX4_must, cX4_must, 2, none, rm_X4_must, f_X4_must, 4, 1, (RX4, TX4, 36), M_X4_must, cs_X4_must, hlink, ⟨wv_X4_must, wz_X4_must, wi_X4_must, wc_X4_must⟩, ⟨by decide +kernel, by decide +kernel, by decide +kernel⟩, har, ⟨rfl, rfl, by decide⟩, ?_, ⟨rfl, rfl, hr.1, hr.2⟩⟩
  intro as z K o h
  obtain ⟨t0, o0, r0, rfl, g0⟩ := mm_pr_e h
  obtain ⟨b0, k0⟩ := mm_bif_e g0
  obtain rfl := Nat.eq_of_beq_eq_true b0
  exact ⟨_, _, rfl⟩
-- X4_number
noncomputable def lV_X4_number : List (Nat × (List mm_V → mm_S → (Option mm_V → mm_S → Option mm_R) → Option mm_R)) := [(337, clo_X4_must)]
noncomputable def mV_X4_number (k : Nat) (as : List mm_V) (z : mm_S) (kk : Option mm_V → mm_S → Option mm_R) : Option mm_R := match mm_at lV_X4_number k with
  | some f => f as z kk
  | none => none
noncomputable def arV_X4_number (k : Nat) : Nat := (mm_at [(337, 2)] k).getD 0
noncomputable def lS_X4_number : List (Nat × (List mm_V → mm_S → (Option mm_V → mm_S → Option mm_R) → Option mm_R)) := [(106, clo_X4_within)]
noncomputable def mS_X4_number (k : Nat) (as : List mm_V) (z : mm_S) (kk : Option mm_V → mm_S → Option mm_R) : Option mm_R := match mm_at lS_X4_number k with
  | some f => f as z kk
  | none => none
noncomputable def arS_X4_number (k : Nat) : Nat := (mm_at [(106, 3)] k).getD 0
def ct_X4_number : List (Nat × List Nat) := [(31, [3])]
noncomputable def go_X4_number : Nat → mm_K := mm_go (fun k => mm_at flX4 k) (fun k => mm_at clX4 k) (fun k => mm_at glX4 k) arV_X4_number arS_X4_number mV_X4_number mS_X4_number lenM roM snM 4 0 tbX4_number ct_X4_number
noncomputable def eX4_number_0 (n : Nat)  (x1 : Int32) (x2 : Int32) (z : mm_S) : Option mm_R := go_X4_number n 0 [(0, mm_P 4 0), (1, mm_I x1), (2, mm_I x2)] [] z
noncomputable def eX4_number_31 (n : Nat) (y3 : Int32) (z : mm_S) : Option mm_R := go_X4_number n 31 [(3, mm_I y3)] [] z
set_option maxRecDepth 100000 in
theorem qX4_number_0 (n : Nat)  (x1 : Int32) (x2 : Int32) (z : mm_S) : eX4_number_0 (n + 1) x1 x2 z = (if (z.1 0 21) = 2 then if (pX4_within (z.1 0 22) x1 x2) = 0 then (sX4_must 0 z).bind fun q2 => eX4_number_31 n (z.1 0 22) q2 else (sX4_must 1 z).bind fun q3 => eX4_number_31 n (z.1 0 22) q3 else (sX4_must 0 z).bind fun q1 => eX4_number_31 n (z.1 0 22) q1) := rfl
set_option maxRecDepth 100000 in
theorem qX4_number_31 (n : Nat) (y3 : Int32) (z : mm_S) : eX4_number_31 (n + 1) y3 z = (some (some (mm_I y3), z)) := rfl
def rm_X4_number : Room := { frames := 3, cells := 0, slots := 0, locals := 64 }
noncomputable def f_X4_number (as : List mm_V) (z : mm_S) (o : mm_R) : Prop := (as.map mm_cat).sum ≤ 4 ∧ ∃ n, go_X4_number n 0 (mm_ar 0 as) [] z = some o
theorem M_X4_number : mm_M lyTM lyFA lenM snM 22 22 17 roM rsA nfA nmA [] yX4_number cX4_number 4 (some .int) rm_X4_number f_X4_number :=
  mm_met (rt := 0) (by decide +kernel) ⟨fun h => rfl, fun h => absurd h (by decide), fun h => absurd h (by decide), fun h => absurd h (by decide)⟩ tbX4_number_ok hsnM okFX4 okLX4 (fun _ h => absurd h List.not_mem_nil) (fun _ _ _ _ => rfl) (fun _ _ _ _ => rfl) (List.forall_mem_cons.mpr ⟨sV_X4_must (Or.inl lk_X4_337) rfl ⟨by decide, by decide⟩, fun _ h => absurd h List.not_mem_nil⟩) (List.forall_mem_cons.mpr ⟨sS_X4_within (Or.inl lk_X4_106) rfl ⟨by decide, by decide⟩, fun _ h => absurd h List.not_mem_nil⟩)
noncomputable def sX4_number_31 (y3 : Int32) (z : mm_S) : Option (Int32 × mm_S) := some (y3, z)
theorem kX4_number_31 (y3 : Int32) (z : mm_S) (oo : mm_R) : mm_Xs (sX4_number_31 y3 z) (fun v => (fun v : Int32 × mm_S => ((some (mm_I v.1), v.2) : mm_R)) v = oo) (fun n => eX4_number_31 n y3 z) oo :=
  xs_row (fun n => qX4_number_31 n y3 z) (xs_v fun hc => ⟨0, congrArg some hc⟩)
noncomputable def sX4_number_0 (x1 : Int32) (x2 : Int32) (z : mm_S) : Option (Int32 × mm_S) := if (z.1 0 21) = 2 then if (pX4_within (z.1 0 22) x1 x2) = 0 then (sX4_must 0 z).bind fun q2 => (sX4_number_31 (z.1 0 22) q2) else (sX4_must 1 z).bind fun q3 => (sX4_number_31 (z.1 0 22) q3) else (sX4_must 0 z).bind fun q1 => (sX4_number_31 (z.1 0 22) q1)
theorem kX4_number_0 (x1 : Int32) (x2 : Int32) (z : mm_S) (oo : mm_R) : mm_Xs (sX4_number_0 x1 x2 z) (fun v => (fun v : Int32 × mm_S => ((some (mm_I v.1), v.2) : mm_R)) v = oo) (fun n => eX4_number_0 n x1 x2 z) oo :=
  xs_row (fun n => qX4_number_0 n x1 x2 z) (xs_if (xs_if (xs_bd fun q2 => (kX4_number_31 (z.1 0 22) q2 oo)) (xs_bd fun q3 => (kX4_number_31 (z.1 0 22) q3 oo))) (xs_bd fun q1 => (kX4_number_31 (z.1 0 22) q1 oo)))
noncomputable def sX4_number (x1 : Int32) (x2 : Int32) (z : mm_S) : Option (Int32 × mm_S) := sX4_number_0 x1 x2 z
theorem sp_X4_number (x1 : Int32) (x2 : Int32) (z : mm_S) (hk : ∀ v ∈ [mm_P 4 0, mm_I x1, mm_I x2], mm_ok 22 lyTM 22 17 v) (q : Int32 × mm_S) (hq : sX4_number x1 x2 z = some q) : f_X4_number [mm_P 4 0, mm_I x1, mm_I x2] z (some (mm_I q.1), q.2) := ⟨Nat.le_of_ble_eq_true rfl, kX4_number_0 x1 x2 z _ q hq rfl⟩
noncomputable def clo_X4_number (as : List mm_V) (z : mm_S) (kk : Option mm_V → mm_S → Option mm_R) : Option mm_R := mm_pr as fun t o0 as => bif Nat.beq t 4 then mm_pi as fun a1 as => mm_pi as fun a2 as => (match as with | [] => (sX4_number a1 a2 z).bind fun q => kk (some (mm_I q.1)) q.2 | _ => none) else none
theorem cs_X4_number : mm_cs lyTM 22 22 17 f_X4_number clo_X4_number := by
  intro as z K o hk h
  obtain ⟨t0, o0, r0, rfl, g0⟩ := mm_pr_e h
  obtain ⟨b0, k0⟩ := mm_bif_e g0
  obtain rfl := Nat.eq_of_beq_eq_true b0
  obtain ⟨a1, r1, rfl, g1⟩ := mm_pi_e k0
  obtain ⟨a2, r2, rfl, g2⟩ := mm_pi_e g1
  rcases r2 with _ | ⟨u, w⟩
  rotate_left
  · cases g2
  obtain rfl : o0 = 0 := ok4 (hk (mm_P 4 o0) (by simp))
  obtain ⟨q, hq, hq2⟩ := Option.bind_eq_some_iff.mp g2
  exact ⟨_, _, sp_X4_number a1 a2 z hk q hq, fun v hv => by cases hv; exact Or.inl ⟨_, rfl⟩, hq2⟩
theorem sV_X4_number {own : String} {R : Room} {ar : Nat → Nat} {k : Nat} (hlink : Cond.methodLink own k yX4_number ∈ lw_gd ∨ ∃ host, (own, k, yX4_number, host) ∈ nmA) (har : ar k = 3) (hr : 4 ≤ R.frames ∧ 87 ≤ R.locals) : mm_okV lyTM lyFA lenM snM 22 22 17 roM rsA nfA nmA [] own R ar k clo_X4_number := by
  refine ⟨yX4_number, cX4_number, 4, some .int, rm_X4_number, f_X4_number, 4, 2, (RX4, TX4, 36), M_X4_number, cs_X4_number, hlink, ⟨wv_X4_number, wz_X4_number, wi_X4_number, wc_X4_number⟩, ⟨by decide +kernel, by decide +kernel, by decide +kernel⟩, har, ⟨rfl, rfl, by decide⟩, ?_, ⟨rfl, rfl, hr.1, hr.2⟩⟩
  intro as z K o h
  obtain ⟨t0, o0, r0, rfl, g0⟩ := mm_pr_e h
  obtain ⟨b0, k0⟩ := mm_bif_e g0
  obtain rfl := Nat.eq_of_beq_eq_true b0
  exact ⟨_, _, rfl⟩
-- X4_item
noncomputable def lV_X4_item : List (Nat × (List mm_V → mm_S → (Option mm_V → mm_S → Option mm_R) → Option mm_R)) := []
noncomputable def mV_X4_item (k : Nat) (as : List mm_V) (z : mm_S) (kk : Option mm_V → mm_S → Option mm_R) : Option mm_R := match mm_at lV_X4_item k with
  | some f => f as z kk
  | none => none
noncomputable def arV_X4_item (k : Nat) : Nat := (mm_at [] k).getD 0
noncomputable def lS_X4_item : List (Nat × (List mm_V → mm_S → (Option mm_V → mm_S → Option mm_R) → Option mm_R)) := []
noncomputable def mS_X4_item (k : Nat) (as : List mm_V) (z : mm_S) (kk : Option mm_V → mm_S → Option mm_R) : Option mm_R := match mm_at lS_X4_item k with
  | some f => f as z kk
  | none => none
noncomputable def arS_X4_item (k : Nat) : Nat := (mm_at [] k).getD 0
def ct_X4_item : List (Nat × List Nat) := [(16, [0, 2, 3, 4, 5]), (26, [0, 3, 4, 5]), (36, [0, 4, 5]), (47, [0]), (57, [])]
noncomputable def go_X4_item : Nat → mm_K := mm_go (fun k => mm_at flX4 k) (fun k => mm_at clX4 k) (fun k => mm_at glX4 k) arV_X4_item arS_X4_item mV_X4_item mS_X4_item lenM roM snM 6 3 tbX4_item ct_X4_item
noncomputable def eX4_item_0 (n : Nat)  (x1 : Int32) (x2 : Int32) (x3 : Int32) (x4 : Int32) (z : mm_S) : Option mm_R := go_X4_item n 0 [(0, mm_P 4 0), (1, mm_I x1), (2, mm_I x2), (3, mm_I x3), (4, mm_I x4)] [] z
noncomputable def eX4_item_16 (n : Nat)  (y2 : Int32) (y3 : Int32) (y4 : Int32) (y5 : Int32) (z : mm_S) : Option mm_R := go_X4_item n 16 [(0, mm_P 4 0), (2, mm_I y2), (3, mm_I y3), (4, mm_I y4), (5, mm_I y5)] [] z
noncomputable def eX4_item_26 (n : Nat)  (y3 : Int32) (y4 : Int32) (y5 : Int32) (z : mm_S) : Option mm_R := go_X4_item n 26 [(0, mm_P 4 0), (3, mm_I y3), (4, mm_I y4), (5, mm_I y5)] [] z
noncomputable def eX4_item_36 (n : Nat)  (y4 : Int32) (y5 : Int32) (z : mm_S) : Option mm_R := go_X4_item n 36 [(0, mm_P 4 0), (4, mm_I y4), (5, mm_I y5)] [] z
noncomputable def eX4_item_47 (n : Nat)  (z : mm_S) : Option mm_R := go_X4_item n 47 [(0, mm_P 4 0)] [] z
noncomputable def eX4_item_57 (n : Nat)  (z : mm_S) : Option mm_R := go_X4_item n 57 [] [] z
set_option maxRecDepth 100000 in
theorem qX4_item_0 (n : Nat)  (x1 : Int32) (x2 : Int32) (x3 : Int32) (x4 : Int32) (z : mm_S) : eX4_item_0 (n + 1) x1 x2 x3 x4 z = (if (4 * (z.1 0 27)) < 0 ∨ 480 ≤ Int32.toNatClampNeg (4 * (z.1 0 27)) then none else eX4_item_16 n x2 x3 x4 (4 * (z.1 0 27)) ((mm_ui z.1 16 (Int32.toNatClampNeg (4 * (z.1 0 27))) x1), z.2)) := rfl
set_option maxRecDepth 100000 in
theorem qX4_item_16 (n : Nat)  (y2 : Int32) (y3 : Int32) (y4 : Int32) (y5 : Int32) (z : mm_S) : eX4_item_16 (n + 1) y2 y3 y4 y5 z = (if (y5 + 1) < 0 ∨ 480 ≤ Int32.toNatClampNeg (y5 + 1) then none else eX4_item_26 n y3 y4 y5 ((mm_ui z.1 16 (Int32.toNatClampNeg (y5 + 1)) y2), z.2)) := rfl
set_option maxRecDepth 100000 in
theorem qX4_item_26 (n : Nat)  (y3 : Int32) (y4 : Int32) (y5 : Int32) (z : mm_S) : eX4_item_26 (n + 1) y3 y4 y5 z = (if (y5 + 2) < 0 ∨ 480 ≤ Int32.toNatClampNeg (y5 + 2) then none else eX4_item_36 n y4 y5 ((mm_ui z.1 16 (Int32.toNatClampNeg (y5 + 2)) y3), z.2)) := rfl
set_option maxRecDepth 100000 in
theorem qX4_item_36 (n : Nat)  (y4 : Int32) (y5 : Int32) (z : mm_S) : eX4_item_36 (n + 1) y4 y5 z = (if (y5 + 3) < 0 ∨ 480 ≤ Int32.toNatClampNeg (y5 + 3) then none else eX4_item_47 n  ((mm_ui z.1 16 (Int32.toNatClampNeg (y5 + 3)) y4), z.2)) := rfl
set_option maxRecDepth 100000 in
theorem qX4_item_47 (n : Nat)  (z : mm_S) : eX4_item_47 (n + 1)  z = (eX4_item_57 n  ((mm_ui z.1 0 27 ((z.1 0 27) + 1)), z.2)) := rfl
set_option maxRecDepth 100000 in
theorem qX4_item_57 (n : Nat)  (z : mm_S) : eX4_item_57 (n + 1)  z = (some (none, z)) := rfl
def rm_X4_item : Room := { frames := 0, cells := 0, slots := 0, locals := 0 }
noncomputable def f_X4_item (as : List mm_V) (z : mm_S) (o : mm_R) : Prop := (as.map mm_cat).sum ≤ 6 ∧ ∃ n, go_X4_item n 0 (mm_ar 0 as) [] z = some o
theorem M_X4_item : mm_M lyTM lyFA lenM snM 22 22 17 roM rsA nfA nmA [] yX4_item cX4_item 6 (none) rm_X4_item f_X4_item :=
  mm_met (rt := 3) (by decide +kernel) ⟨fun h => absurd h (by decide), fun h => absurd h (by decide), fun h => absurd h (by decide), fun h => rfl⟩ tbX4_item_ok hsnM okFX4 okLX4 (fun _ h => absurd h List.not_mem_nil) (fun _ _ _ _ => rfl) (fun _ _ _ _ => rfl) (fun _ h => absurd h List.not_mem_nil) (fun _ h => absurd h List.not_mem_nil)
noncomputable def sX4_item_57  (z : mm_S) : Option (mm_S) := some (z)
theorem kX4_item_57  (z : mm_S) (oo : mm_R) : mm_Xs (sX4_item_57  z) (fun v => (fun v : mm_S => ((none, v) : mm_R)) v = oo) (fun n => eX4_item_57 n  z) oo :=
  xs_row (fun n => qX4_item_57 n z) (xs_v fun hc => ⟨0, congrArg some hc⟩)
noncomputable def sX4_item_47  (z : mm_S) : Option (mm_S) := (sX4_item_57 ((mm_ui z.1 0 27 ((z.1 0 27) + 1)), z.2))
theorem kX4_item_47  (z : mm_S) (oo : mm_R) : mm_Xs (sX4_item_47  z) (fun v => (fun v : mm_S => ((none, v) : mm_R)) v = oo) (fun n => eX4_item_47 n  z) oo :=
  xs_row (fun n => qX4_item_47 n z) (kX4_item_57 ((mm_ui z.1 0 27 ((z.1 0 27) + 1)), z.2) oo)
noncomputable def sX4_item_36 (y4 : Int32) (y5 : Int32) (z : mm_S) : Option (mm_S) := if (y5 + 3) < 0 ∨ 480 ≤ Int32.toNatClampNeg (y5 + 3) then none else (sX4_item_47 ((mm_ui z.1 16 (Int32.toNatClampNeg (y5 + 3)) y4), z.2))
theorem kX4_item_36 (y4 : Int32) (y5 : Int32) (z : mm_S) (oo : mm_R) : mm_Xs (sX4_item_36 y4 y5 z) (fun v => (fun v : mm_S => ((none, v) : mm_R)) v = oo) (fun n => eX4_item_36 n y4 y5 z) oo :=
  xs_row (fun n => qX4_item_36 n y4 y5 z) (xs_if xs_n (kX4_item_47 ((mm_ui z.1 16 (Int32.toNatClampNeg (y5 + 3)) y4), z.2) oo))
noncomputable def sX4_item_26 (y3 : Int32) (y4 : Int32) (y5 : Int32) (z : mm_S) : Option (mm_S) := if (y5 + 2) < 0 ∨ 480 ≤ Int32.toNatClampNeg (y5 + 2) then none else (sX4_item_36 y4 y5 ((mm_ui z.1 16 (Int32.toNatClampNeg (y5 + 2)) y3), z.2))
theorem kX4_item_26 (y3 : Int32) (y4 : Int32) (y5 : Int32) (z : mm_S) (oo : mm_R) : mm_Xs (sX4_item_26 y3 y4 y5 z) (fun v => (fun v : mm_S => ((none, v) : mm_R)) v = oo) (fun n => eX4_item_26 n y3 y4 y5 z) oo :=
  xs_row (fun n => qX4_item_26 n y3 y4 y5 z) (xs_if xs_n (kX4_item_36 y4 y5 ((mm_ui z.1 16 (Int32.toNatClampNeg (y5 + 2)) y3), z.2) oo))
noncomputable def sX4_item_16 (y2 : Int32) (y3 : Int32) (y4 : Int32) (y5 : Int32) (z : mm_S) : Option (mm_S) := if (y5 + 1) < 0 ∨ 480 ≤ Int32.toNatClampNeg (y5 + 1) then none else (sX4_item_26 y3 y4 y5 ((mm_ui z.1 16 (Int32.toNatClampNeg (y5 + 1)) y2), z.2))
theorem kX4_item_16 (y2 : Int32) (y3 : Int32) (y4 : Int32) (y5 : Int32) (z : mm_S) (oo : mm_R) : mm_Xs (sX4_item_16 y2 y3 y4 y5 z) (fun v => (fun v : mm_S => ((none, v) : mm_R)) v = oo) (fun n => eX4_item_16 n y2 y3 y4 y5 z) oo :=
  xs_row (fun n => qX4_item_16 n y2 y3 y4 y5 z) (xs_if xs_n (kX4_item_26 y3 y4 y5 ((mm_ui z.1 16 (Int32.toNatClampNeg (y5 + 1)) y2), z.2) oo))
noncomputable def sX4_item_0 (x1 : Int32) (x2 : Int32) (x3 : Int32) (x4 : Int32) (z : mm_S) : Option (mm_S) := if (4 * (z.1 0 27)) < 0 ∨ 480 ≤ Int32.toNatClampNeg (4 * (z.1 0 27)) then none else (sX4_item_16 x2 x3 x4 (4 * (z.1 0 27)) ((mm_ui z.1 16 (Int32.toNatClampNeg (4 * (z.1 0 27))) x1), z.2))
theorem kX4_item_0 (x1 : Int32) (x2 : Int32) (x3 : Int32) (x4 : Int32) (z : mm_S) (oo : mm_R) : mm_Xs (sX4_item_0 x1 x2 x3 x4 z) (fun v => (fun v : mm_S => ((none, v) : mm_R)) v = oo) (fun n => eX4_item_0 n x1 x2 x3 x4 z) oo :=
  xs_row (fun n => qX4_item_0 n x1 x2 x3 x4 z) (xs_if xs_n (kX4_item_16 x2 x3 x4 (4 * (z.1 0 27)) ((mm_ui z.1 16 (Int32.toNatClampNeg (4 * (z.1 0 27))) x1), z.2) oo))
noncomputable def sX4_item (x1 : Int32) (x2 : Int32) (x3 : Int32) (x4 : Int32) (z : mm_S) : Option (mm_S) := sX4_item_0 x1 x2 x3 x4 z
theorem sp_X4_item (x1 : Int32) (x2 : Int32) (x3 : Int32) (x4 : Int32) (z : mm_S) (hk : ∀ v ∈ [mm_P 4 0, mm_I x1, mm_I x2, mm_I x3, mm_I x4], mm_ok 22 lyTM 22 17 v) (q : mm_S) (hq : sX4_item x1 x2 x3 x4 z = some q) : f_X4_item [mm_P 4 0, mm_I x1, mm_I x2, mm_I x3, mm_I x4] z (none, q) := ⟨Nat.le_of_ble_eq_true rfl, kX4_item_0 x1 x2 x3 x4 z _ q hq rfl⟩
noncomputable def clo_X4_item (as : List mm_V) (z : mm_S) (kk : Option mm_V → mm_S → Option mm_R) : Option mm_R := mm_pr as fun t o0 as => bif Nat.beq t 4 then mm_pi as fun a1 as => mm_pi as fun a2 as => mm_pi as fun a3 as => mm_pi as fun a4 as => (match as with | [] => (sX4_item a1 a2 a3 a4 z).bind fun q => kk none q | _ => none) else none
theorem cs_X4_item : mm_cs lyTM 22 22 17 f_X4_item clo_X4_item := by
  intro as z K o hk h
  obtain ⟨t0, o0, r0, rfl, g0⟩ := mm_pr_e h
  obtain ⟨b0, k0⟩ := mm_bif_e g0
  obtain rfl := Nat.eq_of_beq_eq_true b0
  obtain ⟨a1, r1, rfl, g1⟩ := mm_pi_e k0
  obtain ⟨a2, r2, rfl, g2⟩ := mm_pi_e g1
  obtain ⟨a3, r3, rfl, g3⟩ := mm_pi_e g2
  obtain ⟨a4, r4, rfl, g4⟩ := mm_pi_e g3
  rcases r4 with _ | ⟨u, w⟩
  rotate_left
  · cases g4
  obtain rfl : o0 = 0 := ok4 (hk (mm_P 4 o0) (by simp))
  obtain ⟨q, hq, hq2⟩ := Option.bind_eq_some_iff.mp g4
  exact ⟨_, _, sp_X4_item a1 a2 a3 a4 z hk q hq, (fun v hv => by cases hv), hq2⟩
theorem sV_X4_item {own : String} {R : Room} {ar : Nat → Nat} {k : Nat} (hlink : Cond.methodLink own k yX4_item ∈ lw_gd ∨ ∃ host, (own, k, yX4_item, host) ∈ nmA) (har : ar k = 5) (hr : 1 ≤ R.frames ∧ 25 ≤ R.locals) : mm_okV lyTM lyFA lenM snM 22 22 17 roM rsA nfA nmA [] own R ar k clo_X4_item := by
  refine ⟨yX4_item, cX4_item, 6, none, rm_X4_item, f_X4_item, 4, 4, (RX4, TX4, 36), M_X4_item, cs_X4_item, hlink, ⟨wv_X4_item, wz_X4_item, wi_X4_item, wc_X4_item⟩, ⟨by decide +kernel, by decide +kernel, by decide +kernel⟩, har, ⟨rfl, rfl, by decide⟩, ?_, ⟨rfl, rfl, hr.1, hr.2⟩⟩
  intro as z K o h
  obtain ⟨t0, o0, r0, rfl, g0⟩ := mm_pr_e h
  obtain ⟨b0, k0⟩ := mm_bif_e g0
  obtain rfl := Nat.eq_of_beq_eq_true b0
  exact ⟨_, _, rfl⟩
-- X4_isSo
noncomputable def lV_X4_isSo : List (Nat × (List mm_V → mm_S → (Option mm_V → mm_S → Option mm_R) → Option mm_R)) := [(132, clo_X4_comes), (169, clo_X4_getsUnsure), (236, clo_X4_enters)]
noncomputable def mV_X4_isSo (k : Nat) (as : List mm_V) (z : mm_S) (kk : Option mm_V → mm_S → Option mm_R) : Option mm_R := match mm_at lV_X4_isSo k with
  | some f => f as z kk
  | none => none
noncomputable def arV_X4_isSo (k : Nat) : Nat := (mm_at [(132, 4), (169, 2), (236, 4)] k).getD 0
noncomputable def lS_X4_isSo : List (Nat × (List mm_V → mm_S → (Option mm_V → mm_S → Option mm_R) → Option mm_R)) := []
noncomputable def mS_X4_isSo (k : Nat) (as : List mm_V) (z : mm_S) (kk : Option mm_V → mm_S → Option mm_R) : Option mm_R := match mm_at lS_X4_isSo k with
  | some f => f as z kk
  | none => none
noncomputable def arS_X4_isSo (k : Nat) : Nat := (mm_at [] k).getD 0
def ct_X4_isSo : List (Nat × List Nat) := [(42, [0, 1, 2, 3, 4]), (64, [0, 2, 3, 4]), (77, [0, 2, 3, 4]), (80, [0, 3, 4, 5]), (101, [0, 3, 4, 5])]
noncomputable def go_X4_isSo : Nat → mm_K := mm_go (fun k => mm_at flX4 k) (fun k => mm_at clX4 k) (fun k => mm_at glX4 k) arV_X4_isSo arS_X4_isSo mV_X4_isSo mS_X4_isSo lenM roM snM 6 0 tbX4_isSo ct_X4_isSo
noncomputable def eX4_isSo_0 (n : Nat)  (x1 : Int32) (z : mm_S) : Option mm_R := go_X4_isSo n 0 [(0, mm_P 4 0), (1, mm_I x1)] [] z
noncomputable def eX4_isSo_42 (n : Nat)  (y1 : Int32) (y2 : Int32) (y3 : Int32) (y4 : Int32) (z : mm_S) : Option mm_R := go_X4_isSo n 42 [(0, mm_P 4 0), (1, mm_I y1), (2, mm_I y2), (3, mm_I y3), (4, mm_I y4)] [] z
noncomputable def eX4_isSo_64 (n : Nat)  (y2 : Int32) (y3 : Int32) (y4 : Int32) (z : mm_S) : Option mm_R := go_X4_isSo n 64 [(0, mm_P 4 0), (2, mm_I y2), (3, mm_I y3), (4, mm_I y4)] [] z
noncomputable def eX4_isSo_77 (n : Nat)  (y2 : Int32) (y3 : Int32) (y4 : Int32) (z : mm_S) : Option mm_R := go_X4_isSo n 77 [(0, mm_P 4 0), (2, mm_I y2), (3, mm_I y3), (4, mm_I y4)] [] z
noncomputable def eX4_isSo_80 (n : Nat)  (y3 : Int32) (y4 : Int32) (y5 : Int32) (z : mm_S) : Option mm_R := go_X4_isSo n 80 [(0, mm_P 4 0), (3, mm_I y3), (4, mm_I y4), (5, mm_I y5)] [] z
noncomputable def eX4_isSo_101 (n : Nat)  (y3 : Int32) (y4 : Int32) (y5 : Int32) (z : mm_S) : Option mm_R := go_X4_isSo n 101 [(0, mm_P 4 0), (3, mm_I y3), (4, mm_I y4), (5, mm_I y5)] [] z
set_option maxRecDepth 100000 in
theorem qX4_isSo_0 (n : Nat)  (x1 : Int32) (z : mm_S) : eX4_isSo_0 (n + 1) x1 z = (if (x1 + 1) < 0 ∨ 480 ≤ Int32.toNatClampNeg (x1 + 1) then none else if (x1 + 2) < 0 ∨ 480 ≤ Int32.toNatClampNeg (x1 + 2) then none else if x1 < 0 ∨ 480 ≤ Int32.toNatClampNeg x1 then none else if 10 ≤ (z.1 16 (Int32.toNatClampNeg x1)) then eX4_isSo_42 n x1 (z.1 16 (Int32.toNatClampNeg (x1 + 1))) (z.1 16 (Int32.toNatClampNeg (x1 + 2))) (z.1 16 (Int32.toNatClampNeg x1)) z else (sX4_comes (z.1 16 (Int32.toNatClampNeg x1)) (z.1 16 (Int32.toNatClampNeg (x1 + 1))) (z.1 16 (Int32.toNatClampNeg (x1 + 2))) z).bind fun q1 => some (some (mm_I q1.1), q1.2)) := rfl
set_option maxRecDepth 100000 in
theorem qX4_isSo_42 (n : Nat)  (y1 : Int32) (y2 : Int32) (y3 : Int32) (y4 : Int32) (z : mm_S) : eX4_isSo_42 (n + 1) y1 y2 y3 y4 z = (if y4 = 20 then if (y1 + 3) < 0 ∨ 480 ≤ Int32.toNatClampNeg (y1 + 3) then none else (sX4_enters y2 y3 (z.1 16 (Int32.toNatClampNeg (y1 + 3))) z).bind fun q2 => some (some (mm_I q2.1), q2.2) else eX4_isSo_64 n y2 y3 y4 z) := rfl
set_option maxRecDepth 100000 in
theorem qX4_isSo_64 (n : Nat)  (y2 : Int32) (y3 : Int32) (y4 : Int32) (z : mm_S) : eX4_isSo_64 (n + 1) y2 y3 y4 z = (if y4 = 21 then (sX4_getsUnsure y2 z).bind fun q3 => some (some (mm_I q3.1), q3.2) else eX4_isSo_77 n y2 y3 y4 z) := rfl
set_option maxRecDepth 100000 in
theorem qX4_isSo_77 (n : Nat)  (y2 : Int32) (y3 : Int32) (y4 : Int32) (z : mm_S) : eX4_isSo_77 (n + 1) y2 y3 y4 z = (eX4_isSo_80 n y3 y4 y2 z) := rfl
set_option maxRecDepth 100000 in
theorem qX4_isSo_80 (n : Nat)  (y3 : Int32) (y4 : Int32) (y5 : Int32) (z : mm_S) : eX4_isSo_80 (n + 1) y3 y4 y5 z = (if y3 < y5 then some (some (mm_I 0), z) else if (15 + y5) < 0 ∨ 97 ≤ Int32.toNatClampNeg (15 + y5) then none else eX4_isSo_101 n y3 y4 y5 ((mm_ui z.1 1 (Int32.toNatClampNeg (15 + y5)) (y4 - 10)), z.2)) := rfl
set_option maxRecDepth 100000 in
theorem qX4_isSo_101 (n : Nat)  (y3 : Int32) (y4 : Int32) (y5 : Int32) (z : mm_S) : eX4_isSo_101 (n + 1) y3 y4 y5 z = (eX4_isSo_80 n y3 y4 (y5 + 1) z) := rfl
def rm_X4_isSo : Room := { frames := 2, cells := 0, slots := 0, locals := 45 }
noncomputable def f_X4_isSo (as : List mm_V) (z : mm_S) (o : mm_R) : Prop := (as.map mm_cat).sum ≤ 6 ∧ ∃ n, go_X4_isSo n 0 (mm_ar 0 as) [] z = some o
theorem M_X4_isSo : mm_M lyTM lyFA lenM snM 22 22 17 roM rsA nfA nmA [] yX4_isSo cX4_isSo 6 (some .int) rm_X4_isSo f_X4_isSo :=
  mm_met (rt := 0) (by decide +kernel) ⟨fun h => rfl, fun h => absurd h (by decide), fun h => absurd h (by decide), fun h => absurd h (by decide)⟩ tbX4_isSo_ok hsnM okFX4 okLX4 (fun _ h => absurd h List.not_mem_nil) (fun _ _ _ _ => rfl) (fun _ _ _ _ => rfl) (List.forall_mem_cons.mpr ⟨sV_X4_comes (Or.inl lk_X4_132) rfl ⟨by decide, by decide⟩, List.forall_mem_cons.mpr ⟨sV_X4_getsUnsure (Or.inl lk_X4_169) rfl ⟨by decide, by decide⟩, List.forall_mem_cons.mpr ⟨sV_X4_enters (Or.inl lk_X4_236) rfl ⟨by decide, by decide⟩, fun _ h => absurd h List.not_mem_nil⟩⟩⟩) (fun _ h => absurd h List.not_mem_nil)
noncomputable def sX4_isSo_101 (y3 : Int32) (y4 : Int32) (y5 : Int32) (z : mm_S) : Option ((Int32 × Int32 × Int32 × mm_S) ⊕ (Int32 × mm_S)) := some (.inl (y3, y4, (y5 + 1), z))
theorem kX4_isSo_101 (y3 : Int32) (y4 : Int32) (y5 : Int32) (z : mm_S) (oo : mm_R) : mm_Xs (sX4_isSo_101 y3 y4 y5 z) (mm_mt (fun x : Int32 × Int32 × Int32 × mm_S => ∃ n, eX4_isSo_80 n x.1 x.2.1 x.2.2.1 x.2.2.2 = some oo) (fun v => (fun v : Int32 × mm_S => ((some (mm_I v.1), v.2) : mm_R)) v = oo)) (fun n => eX4_isSo_101 n y3 y4 y5 z) oo :=
  xs_row (fun n => qX4_isSo_101 n y3 y4 y5 z) (xs_v fun hc => hc)
noncomputable def lX4_isSo_80 (s : Int32 × Int32 × Int32 × mm_S) : Option ((Int32 × Int32 × Int32 × mm_S) ⊕ (Int32 × mm_S)) := if s.1 < s.2.2.1 then some (.inr (0, s.2.2.2)) else if (15 + s.2.2.1) < 0 ∨ 97 ≤ Int32.toNatClampNeg (15 + s.2.2.1) then none else (sX4_isSo_101 s.1 s.2.1 s.2.2.1 ((mm_ui s.2.2.2.1 1 (Int32.toNatClampNeg (15 + s.2.2.1)) (s.2.1 - 10)), s.2.2.2.2))
noncomputable def sX4_isSo_80 (y3 : Int32) (y4 : Int32) (y5 : Int32) (z : mm_S) : Option (Int32 × mm_S) := mm_wh (lX4_isSo_80 ) mm_fu (y3, y4, y5, z)
theorem kX4_isSo_80 (y3 : Int32) (y4 : Int32) (y5 : Int32) (z : mm_S) (oo : mm_R) : mm_Xs (sX4_isSo_80 y3 y4 y5 z) (fun v => (fun v : Int32 × mm_S => ((some (mm_I v.1), v.2) : mm_R)) v = oo) (fun n => eX4_isSo_80 n y3 y4 y5 z) oo :=
  xs_wh (stp := lX4_isSo_80 ) (o := oo) (E := (fun (s : Int32 × Int32 × Int32 × mm_S) n => eX4_isSo_80 n s.1 s.2.1 s.2.2.1 s.2.2.2)) (C := (fun v => (fun v : Int32 × mm_S => ((some (mm_I v.1), v.2) : mm_R)) v = oo)) (fun s => xs_row (fun n => qX4_isSo_80 n s.1 s.2.1 s.2.2.1 s.2.2.2) (xs_if (xs_v fun hc => ⟨0, congrArg some hc⟩) (xs_if xs_n (kX4_isSo_101 s.1 s.2.1 s.2.2.1 ((mm_ui s.2.2.2.1 1 (Int32.toNatClampNeg (15 + s.2.2.1)) (s.2.1 - 10)), s.2.2.2.2) oo)))) mm_fu (y3, y4, y5, z)
noncomputable def sX4_isSo_77 (y2 : Int32) (y3 : Int32) (y4 : Int32) (z : mm_S) : Option (Int32 × mm_S) := (sX4_isSo_80 y3 y4 y2 z)
theorem kX4_isSo_77 (y2 : Int32) (y3 : Int32) (y4 : Int32) (z : mm_S) (oo : mm_R) : mm_Xs (sX4_isSo_77 y2 y3 y4 z) (fun v => (fun v : Int32 × mm_S => ((some (mm_I v.1), v.2) : mm_R)) v = oo) (fun n => eX4_isSo_77 n y2 y3 y4 z) oo :=
  xs_row (fun n => qX4_isSo_77 n y2 y3 y4 z) (kX4_isSo_80 y3 y4 y2 z oo)
noncomputable def sX4_isSo_64 (y2 : Int32) (y3 : Int32) (y4 : Int32) (z : mm_S) : Option (Int32 × mm_S) := if y4 = 21 then (sX4_getsUnsure y2 z).bind fun q3 => some (q3.1, q3.2) else (sX4_isSo_77 y2 y3 y4 z)
theorem kX4_isSo_64 (y2 : Int32) (y3 : Int32) (y4 : Int32) (z : mm_S) (oo : mm_R) : mm_Xs (sX4_isSo_64 y2 y3 y4 z) (fun v => (fun v : Int32 × mm_S => ((some (mm_I v.1), v.2) : mm_R)) v = oo) (fun n => eX4_isSo_64 n y2 y3 y4 z) oo :=
  xs_row (fun n => qX4_isSo_64 n y2 y3 y4 z) (xs_if (xs_bd fun q3 => (xs_v fun hc => ⟨0, congrArg some hc⟩)) (kX4_isSo_77 y2 y3 y4 z oo))
noncomputable def sX4_isSo_42 (y1 : Int32) (y2 : Int32) (y3 : Int32) (y4 : Int32) (z : mm_S) : Option (Int32 × mm_S) := if y4 = 20 then if (y1 + 3) < 0 ∨ 480 ≤ Int32.toNatClampNeg (y1 + 3) then none else (sX4_enters y2 y3 (z.1 16 (Int32.toNatClampNeg (y1 + 3))) z).bind fun q2 => some (q2.1, q2.2) else (sX4_isSo_64 y2 y3 y4 z)
theorem kX4_isSo_42 (y1 : Int32) (y2 : Int32) (y3 : Int32) (y4 : Int32) (z : mm_S) (oo : mm_R) : mm_Xs (sX4_isSo_42 y1 y2 y3 y4 z) (fun v => (fun v : Int32 × mm_S => ((some (mm_I v.1), v.2) : mm_R)) v = oo) (fun n => eX4_isSo_42 n y1 y2 y3 y4 z) oo :=
  xs_row (fun n => qX4_isSo_42 n y1 y2 y3 y4 z) (xs_if (xs_if xs_n (xs_bd fun q2 => (xs_v fun hc => ⟨0, congrArg some hc⟩))) (kX4_isSo_64 y2 y3 y4 z oo))
noncomputable def sX4_isSo_0 (x1 : Int32) (z : mm_S) : Option (Int32 × mm_S) := if (x1 + 1) < 0 ∨ 480 ≤ Int32.toNatClampNeg (x1 + 1) then none else if (x1 + 2) < 0 ∨ 480 ≤ Int32.toNatClampNeg (x1 + 2) then none else if x1 < 0 ∨ 480 ≤ Int32.toNatClampNeg x1 then none else if 10 ≤ (z.1 16 (Int32.toNatClampNeg x1)) then (sX4_isSo_42 x1 (z.1 16 (Int32.toNatClampNeg (x1 + 1))) (z.1 16 (Int32.toNatClampNeg (x1 + 2))) (z.1 16 (Int32.toNatClampNeg x1)) z) else (sX4_comes (z.1 16 (Int32.toNatClampNeg x1)) (z.1 16 (Int32.toNatClampNeg (x1 + 1))) (z.1 16 (Int32.toNatClampNeg (x1 + 2))) z).bind fun q1 => some (q1.1, q1.2)
theorem kX4_isSo_0 (x1 : Int32) (z : mm_S) (oo : mm_R) : mm_Xs (sX4_isSo_0 x1 z) (fun v => (fun v : Int32 × mm_S => ((some (mm_I v.1), v.2) : mm_R)) v = oo) (fun n => eX4_isSo_0 n x1 z) oo :=
  xs_row (fun n => qX4_isSo_0 n x1 z) (xs_if xs_n (xs_if xs_n (xs_if xs_n (xs_if (kX4_isSo_42 x1 (z.1 16 (Int32.toNatClampNeg (x1 + 1))) (z.1 16 (Int32.toNatClampNeg (x1 + 2))) (z.1 16 (Int32.toNatClampNeg x1)) z oo) (xs_bd fun q1 => (xs_v fun hc => ⟨0, congrArg some hc⟩))))))
noncomputable def sX4_isSo (x1 : Int32) (z : mm_S) : Option (Int32 × mm_S) := sX4_isSo_0 x1 z
theorem sp_X4_isSo (x1 : Int32) (z : mm_S) (hk : ∀ v ∈ [mm_P 4 0, mm_I x1], mm_ok 22 lyTM 22 17 v) (q : Int32 × mm_S) (hq : sX4_isSo x1 z = some q) : f_X4_isSo [mm_P 4 0, mm_I x1] z (some (mm_I q.1), q.2) := ⟨Nat.le_of_ble_eq_true rfl, kX4_isSo_0 x1 z _ q hq rfl⟩
noncomputable def clo_X4_isSo (as : List mm_V) (z : mm_S) (kk : Option mm_V → mm_S → Option mm_R) : Option mm_R := mm_pr as fun t o0 as => bif Nat.beq t 4 then mm_pi as fun a1 as => (match as with | [] => (sX4_isSo a1 z).bind fun q => kk (some (mm_I q.1)) q.2 | _ => none) else none
theorem cs_X4_isSo : mm_cs lyTM 22 22 17 f_X4_isSo clo_X4_isSo := by
  intro as z K o hk h
  obtain ⟨t0, o0, r0, rfl, g0⟩ := mm_pr_e h
  obtain ⟨b0, k0⟩ := mm_bif_e g0
  obtain rfl := Nat.eq_of_beq_eq_true b0
  obtain ⟨a1, r1, rfl, g1⟩ := mm_pi_e k0
  rcases r1 with _ | ⟨u, w⟩
  rotate_left
  · cases g1
  obtain rfl : o0 = 0 := ok4 (hk (mm_P 4 o0) (by simp))
  obtain ⟨q, hq, hq2⟩ := Option.bind_eq_some_iff.mp g1
  exact ⟨_, _, sp_X4_isSo a1 z hk q hq, fun v hv => by cases hv; exact Or.inl ⟨_, rfl⟩, hq2⟩
theorem sV_X4_isSo {own : String} {R : Room} {ar : Nat → Nat} {k : Nat} (hlink : Cond.methodLink own k yX4_isSo ∈ lw_gd ∨ ∃ host, (own, k, yX4_isSo, host) ∈ nmA) (har : ar k = 2) (hr : 3 ≤ R.frames ∧ 70 ≤ R.locals) : mm_okV lyTM lyFA lenM snM 22 22 17 roM rsA nfA nmA [] own R ar k clo_X4_isSo := by
  refine ⟨yX4_isSo, cX4_isSo, 6, some .int, rm_X4_isSo, f_X4_isSo, 4, 1, (RX4, TX4, 36), M_X4_isSo, cs_X4_isSo, hlink, ⟨wv_X4_isSo, wz_X4_isSo, wi_X4_isSo, wc_X4_isSo⟩, ⟨by decide +kernel, by decide +kernel, by decide +kernel⟩, har, ⟨rfl, rfl, by decide⟩, ?_, ⟨rfl, rfl, hr.1, hr.2⟩⟩
  intro as z K o h
  obtain ⟨t0, o0, r0, rfl, g0⟩ := mm_pr_e h
  obtain ⟨b0, k0⟩ := mm_bif_e g0
  obtain rfl := Nat.eq_of_beq_eq_true b0
  exact ⟨_, _, rfl⟩
-- X4_isSpot
noncomputable def lV_X4_isSpot : List (Nat × (List mm_V → mm_S → (Option mm_V → mm_S → Option mm_R) → Option mm_R)) := []
noncomputable def mV_X4_isSpot (k : Nat) (as : List mm_V) (z : mm_S) (kk : Option mm_V → mm_S → Option mm_R) : Option mm_R := match mm_at lV_X4_isSpot k with
  | some f => f as z kk
  | none => none
noncomputable def arV_X4_isSpot (k : Nat) : Nat := (mm_at [] k).getD 0
noncomputable def lS_X4_isSpot : List (Nat × (List mm_V → mm_S → (Option mm_V → mm_S → Option mm_R) → Option mm_R)) := [(106, clo_X4_within)]
noncomputable def mS_X4_isSpot (k : Nat) (as : List mm_V) (z : mm_S) (kk : Option mm_V → mm_S → Option mm_R) : Option mm_R := match mm_at lS_X4_isSpot k with
  | some f => f as z kk
  | none => none
noncomputable def arS_X4_isSpot (k : Nat) : Nat := (mm_at [(106, 3)] k).getD 0
def ct_X4_isSpot : List (Nat × List Nat) := []
noncomputable def go_X4_isSpot : Nat → mm_K := mm_go (fun k => mm_at flX4 k) (fun k => mm_at clX4 k) (fun k => mm_at glX4 k) arV_X4_isSpot arS_X4_isSpot mV_X4_isSpot mS_X4_isSpot lenM roM snM 1 1 tbX4_isSpot ct_X4_isSpot
noncomputable def eX4_isSpot_0 (n : Nat) (x1 : Int32) (z : mm_S) : Option mm_R := go_X4_isSpot n 0 [(0, mm_I x1)] [] z
set_option maxRecDepth 100000 in
theorem qX4_isSpot_0 (n : Nat) (x1 : Int32) (z : mm_S) : eX4_isSpot_0 (n + 1) x1 z = (mm_rt 1 (pX4_within x1 0 9) z) := rfl
def rm_X4_isSpot : Room := { frames := 1, cells := 0, slots := 0, locals := 22 }
noncomputable def f_X4_isSpot (as : List mm_V) (z : mm_S) (o : mm_R) : Prop := (as.map mm_cat).sum ≤ 1 ∧ ∃ n, go_X4_isSpot n 0 (mm_ar 0 as) [] z = some o
theorem M_X4_isSpot : mm_M lyTM lyFA lenM snM 22 22 17 roM rsA nfA nmA [] yX4_isSpot cX4_isSpot 1 (some .boolean) rm_X4_isSpot f_X4_isSpot :=
  mm_met (rt := 1) (by decide +kernel) ⟨fun h => absurd h (by decide), fun h => rfl, fun h => absurd h (by decide), fun h => absurd h (by decide)⟩ tbX4_isSpot_ok hsnM okFX4 okLX4 (fun _ h => absurd h List.not_mem_nil) (fun _ _ _ _ => rfl) (fun _ _ _ _ => rfl) (fun _ h => absurd h List.not_mem_nil) (List.forall_mem_cons.mpr ⟨sS_X4_within (Or.inl lk_X4_106) rfl ⟨by decide, by decide⟩, fun _ h => absurd h List.not_mem_nil⟩)
noncomputable def pX4_isSpot (x1 : Int32) : Int32 := (pX4_within x1 0 9)
theorem z1_X4_isSpot (x1 : Int32) : pX4_isSpot x1 = 0 ∨ pX4_isSpot x1 = 1 := (z1_X4_within x1 0 9)
theorem sp_X4_isSpot (x1 : Int32) (z : mm_S) (_ : ∀ v ∈ [mm_I x1], mm_ok 22 lyTM 22 17 v) : f_X4_isSpot [mm_I x1] z (some (mm_I (pX4_isSpot x1)), z) := ⟨Nat.le_of_ble_eq_true rfl, 1, (qX4_isSpot_0 0 x1 z).trans (mm_rt1 z (z1_X4_within x1 0 9))⟩
noncomputable def clo_X4_isSpot (as : List mm_V) (z : mm_S) (kk : Option mm_V → mm_S → Option mm_R) : Option mm_R := mm_pi as fun a0 as => (match as with | [] => kk (some (mm_I (pX4_isSpot a0))) z | _ => none)
theorem cs_X4_isSpot : mm_cs lyTM 22 22 17 f_X4_isSpot clo_X4_isSpot := by
  intro as z K o hk h
  obtain ⟨a0, r0, rfl, g0⟩ := mm_pi_e h
  rcases r0 with _ | ⟨u, w⟩
  rotate_left
  · cases g0
  exact ⟨_, _, sp_X4_isSpot a0 z hk, fun v hv => by cases hv; exact Or.inl ⟨_, rfl⟩, g0⟩
theorem sS_X4_isSpot {own : String} {R : Room} {ar : Nat → Nat} {k : Nat} (hlink : Cond.methodLink own k yX4_isSpot ∈ lw_gd ∨ ∃ host, (own, k, yX4_isSpot, host) ∈ nmA) (har : ar k = 1) (hr : 2 ≤ R.frames ∧ 42 ≤ R.locals) : mm_okS lyTM lyFA lenM snM 22 22 17 roM rsA nfA nmA [] own R ar k clo_X4_isSpot :=
  Or.inl ⟨yX4_isSpot, cX4_isSpot, 1, some .boolean, rm_X4_isSpot, f_X4_isSpot, M_X4_isSpot, cs_X4_isSpot, hlink, ⟨ws_X4_isSpot, wi_X4_isSpot, wc_X4_isSpot⟩, ⟨by decide +kernel, by decide +kernel, by rw [har]; decide +kernel⟩, ⟨rfl, rfl, hr.1, hr.2⟩⟩
-- X4_hold
noncomputable def lV_X4_hold : List (Nat × (List mm_V → mm_S → (Option mm_V → mm_S → Option mm_R) → Option mm_R)) := [(124, clo_X4_finding), (146, clo_X4_isCrew)]
noncomputable def mV_X4_hold (k : Nat) (as : List mm_V) (z : mm_S) (kk : Option mm_V → mm_S → Option mm_R) : Option mm_R := match mm_at lV_X4_hold k with
  | some f => f as z kk
  | none => none
noncomputable def arV_X4_hold (k : Nat) : Nat := (mm_at [(124, 2), (146, 2)] k).getD 0
noncomputable def lS_X4_hold : List (Nat × (List mm_V → mm_S → (Option mm_V → mm_S → Option mm_R) → Option mm_R)) := [(389, clo_X4_isSpot)]
noncomputable def mS_X4_hold (k : Nat) (as : List mm_V) (z : mm_S) (kk : Option mm_V → mm_S → Option mm_R) : Option mm_R := match mm_at lS_X4_hold k with
  | some f => f as z kk
  | none => none
noncomputable def arS_X4_hold (k : Nat) : Nat := (mm_at [(389, 1)] k).getD 0
def ct_X4_hold : List (Nat × List Nat) := [(27, [0, 1, 2]), (36, [])]
noncomputable def go_X4_hold : Nat → mm_K := mm_go (fun k => mm_at flX4 k) (fun k => mm_at clX4 k) (fun k => mm_at glX4 k) arV_X4_hold arS_X4_hold mV_X4_hold mS_X4_hold lenM roM snM 3 0 tbX4_hold ct_X4_hold
noncomputable def eX4_hold_0 (n : Nat)  (x1 : Int32) (x2 : Int32) (z : mm_S) : Option mm_R := go_X4_hold n 0 [(0, mm_P 4 0), (1, mm_I x1), (2, mm_I x2)] [] z
noncomputable def eX4_hold_27 (n : Nat)  (y1 : Int32) (y2 : Int32) (z : mm_S) : Option mm_R := go_X4_hold n 27 [(0, mm_P 4 0), (1, mm_I y1), (2, mm_I y2)] [] z
noncomputable def eX4_hold_36 (n : Nat)  (z : mm_S) : Option mm_R := go_X4_hold n 36 [] [] z
set_option maxRecDepth 100000 in
theorem qX4_hold_0 (n : Nat)  (x1 : Int32) (x2 : Int32) (z : mm_S) : eX4_hold_0 (n + 1) x1 x2 z = (if (pX4_isSpot x1) = 0 then (sX4_finding (-1000001) z).bind fun q1 => some (some (mm_I q1.1), q1.2) else if x2 = (-1) then eX4_hold_27 n x1 x2 z else if (pX4_isCrew x2 z) = 0 then (sX4_finding (-1000001) z).bind fun q2 => some (some (mm_I q2.1), q2.2) else eX4_hold_27 n x1 x2 z) := rfl
set_option maxRecDepth 100000 in
theorem qX4_hold_27 (n : Nat)  (y1 : Int32) (y2 : Int32) (z : mm_S) : eX4_hold_27 (n + 1) y1 y2 z = (if (5 + y1) < 0 ∨ 97 ≤ Int32.toNatClampNeg (5 + y1) then none else eX4_hold_36 n  ((mm_ui z.1 1 (Int32.toNatClampNeg (5 + y1)) y2), z.2)) := rfl
set_option maxRecDepth 100000 in
theorem qX4_hold_36 (n : Nat)  (z : mm_S) : eX4_hold_36 (n + 1)  z = (some (some (mm_I 1), z)) := rfl
def rm_X4_hold : Room := { frames := 2, cells := 0, slots := 0, locals := 43 }
noncomputable def f_X4_hold (as : List mm_V) (z : mm_S) (o : mm_R) : Prop := (as.map mm_cat).sum ≤ 3 ∧ ∃ n, go_X4_hold n 0 (mm_ar 0 as) [] z = some o
theorem M_X4_hold : mm_M lyTM lyFA lenM snM 22 22 17 roM rsA nfA nmA [] yX4_hold cX4_hold 3 (some .int) rm_X4_hold f_X4_hold :=
  mm_met (rt := 0) (by decide +kernel) ⟨fun h => rfl, fun h => absurd h (by decide), fun h => absurd h (by decide), fun h => absurd h (by decide)⟩ tbX4_hold_ok hsnM okFX4 okLX4 (fun _ h => absurd h List.not_mem_nil) (fun _ _ _ _ => rfl) (fun _ _ _ _ => rfl) (List.forall_mem_cons.mpr ⟨sV_X4_finding (Or.inl lk_X4_124) rfl ⟨by decide, by decide⟩, List.forall_mem_cons.mpr ⟨sV_X4_isCrew (Or.inl lk_X4_146) rfl ⟨by decide, by decide⟩, fun _ h => absurd h List.not_mem_nil⟩⟩) (List.forall_mem_cons.mpr ⟨sS_X4_isSpot (Or.inl lk_X4_389) rfl ⟨by decide, by decide⟩, fun _ h => absurd h List.not_mem_nil⟩)
noncomputable def sX4_hold_36  (z : mm_S) : Option (Int32 × mm_S) := some (1, z)
theorem kX4_hold_36  (z : mm_S) (oo : mm_R) : mm_Xs (sX4_hold_36  z) (fun v => (fun v : Int32 × mm_S => ((some (mm_I v.1), v.2) : mm_R)) v = oo) (fun n => eX4_hold_36 n  z) oo :=
  xs_row (fun n => qX4_hold_36 n z) (xs_v fun hc => ⟨0, congrArg some hc⟩)
noncomputable def sX4_hold_27 (y1 : Int32) (y2 : Int32) (z : mm_S) : Option (Int32 × mm_S) := if (5 + y1) < 0 ∨ 97 ≤ Int32.toNatClampNeg (5 + y1) then none else (sX4_hold_36 ((mm_ui z.1 1 (Int32.toNatClampNeg (5 + y1)) y2), z.2))
theorem kX4_hold_27 (y1 : Int32) (y2 : Int32) (z : mm_S) (oo : mm_R) : mm_Xs (sX4_hold_27 y1 y2 z) (fun v => (fun v : Int32 × mm_S => ((some (mm_I v.1), v.2) : mm_R)) v = oo) (fun n => eX4_hold_27 n y1 y2 z) oo :=
  xs_row (fun n => qX4_hold_27 n y1 y2 z) (xs_if xs_n (kX4_hold_36 ((mm_ui z.1 1 (Int32.toNatClampNeg (5 + y1)) y2), z.2) oo))
noncomputable def sX4_hold_0 (x1 : Int32) (x2 : Int32) (z : mm_S) : Option (Int32 × mm_S) := if (pX4_isSpot x1) = 0 then (sX4_finding (-1000001) z).bind fun q1 => some (q1.1, q1.2) else if x2 = (-1) then (sX4_hold_27 x1 x2 z) else if (pX4_isCrew x2 z) = 0 then (sX4_finding (-1000001) z).bind fun q2 => some (q2.1, q2.2) else (sX4_hold_27 x1 x2 z)
theorem kX4_hold_0 (x1 : Int32) (x2 : Int32) (z : mm_S) (oo : mm_R) : mm_Xs (sX4_hold_0 x1 x2 z) (fun v => (fun v : Int32 × mm_S => ((some (mm_I v.1), v.2) : mm_R)) v = oo) (fun n => eX4_hold_0 n x1 x2 z) oo :=
  xs_row (fun n => qX4_hold_0 n x1 x2 z) (xs_if (xs_bd fun q1 => (xs_v fun hc => ⟨0, congrArg some hc⟩)) (xs_if (kX4_hold_27 x1 x2 z oo) (xs_if (xs_bd fun q2 => (xs_v fun hc => ⟨0, congrArg some hc⟩)) (kX4_hold_27 x1 x2 z oo))))
noncomputable def sX4_hold (x1 : Int32) (x2 : Int32) (z : mm_S) : Option (Int32 × mm_S) := sX4_hold_0 x1 x2 z
theorem sp_X4_hold (x1 : Int32) (x2 : Int32) (z : mm_S) (hk : ∀ v ∈ [mm_P 4 0, mm_I x1, mm_I x2], mm_ok 22 lyTM 22 17 v) (q : Int32 × mm_S) (hq : sX4_hold x1 x2 z = some q) : f_X4_hold [mm_P 4 0, mm_I x1, mm_I x2] z (some (mm_I q.1), q.2) := ⟨Nat.le_of_ble_eq_true rfl, kX4_hold_0 x1 x2 z _ q hq rfl⟩
noncomputable def clo_X4_hold (as : List mm_V) (z : mm_S) (kk : Option mm_V → mm_S → Option mm_R) : Option mm_R := mm_pr as fun t o0 as => bif Nat.beq t 4 then mm_pi as fun a1 as => mm_pi as fun a2 as => (match as with | [] => (sX4_hold a1 a2 z).bind fun q => kk (some (mm_I q.1)) q.2 | _ => none) else none
theorem cs_X4_hold : mm_cs lyTM 22 22 17 f_X4_hold clo_X4_hold := by
  intro as z K o hk h
  obtain ⟨t0, o0, r0, rfl, g0⟩ := mm_pr_e h
  obtain ⟨b0, k0⟩ := mm_bif_e g0
  obtain rfl := Nat.eq_of_beq_eq_true b0
  obtain ⟨a1, r1, rfl, g1⟩ := mm_pi_e k0
  obtain ⟨a2, r2, rfl, g2⟩ := mm_pi_e g1
  rcases r2 with _ | ⟨u, w⟩
  rotate_left
  · cases g2
  obtain rfl : o0 = 0 := ok4 (hk (mm_P 4 o0) (by simp))
  obtain ⟨q, hq, hq2⟩ := Option.bind_eq_some_iff.mp g2
  exact ⟨_, _, sp_X4_hold a1 a2 z hk q hq, fun v hv => by cases hv; exact Or.inl ⟨_, rfl⟩, hq2⟩
theorem sV_X4_hold {own : String} {R : Room} {ar : Nat → Nat} {k : Nat} (hlink : Cond.methodLink own k yX4_hold ∈ lw_gd ∨ ∃ host, (own, k, yX4_hold, host) ∈ nmA) (har : ar k = 3) (hr : 3 ≤ R.frames ∧ 65 ≤ R.locals) : mm_okV lyTM lyFA lenM snM 22 22 17 roM rsA nfA nmA [] own R ar k clo_X4_hold := by
  refine ⟨yX4_hold, cX4_hold, 3, some .int, rm_X4_hold, f_X4_hold, 4, 2, (RX4, TX4, 36), M_X4_hold, cs_X4_hold, hlink, ⟨wv_X4_hold, wz_X4_hold, wi_X4_hold, wc_X4_hold⟩, ⟨by decide +kernel, by decide +kernel, by decide +kernel⟩, har, ⟨rfl, rfl, by decide⟩, ?_, ⟨rfl, rfl, hr.1, hr.2⟩⟩
  intro as z K o h
  obtain ⟨t0, o0, r0, rfl, g0⟩ := mm_pr_e h
  obtain ⟨b0, k0⟩ := mm_bif_e g0
  obtain rfl := Nat.eq_of_beq_eq_true b0
  exact ⟨_, _, rfl⟩
-- X4_as
noncomputable def lV_X4_as : List (Nat × (List mm_V → mm_S → (Option mm_V → mm_S → Option mm_R) → Option mm_R)) := [(124, clo_X4_finding), (139, clo_X4_crewIs)]
noncomputable def mV_X4_as (k : Nat) (as : List mm_V) (z : mm_S) (kk : Option mm_V → mm_S → Option mm_R) : Option mm_R := match mm_at lV_X4_as k with
  | some f => f as z kk
  | none => none
noncomputable def arV_X4_as (k : Nat) : Nat := (mm_at [(124, 2), (139, 3)] k).getD 0
noncomputable def lS_X4_as : List (Nat × (List mm_V → mm_S → (Option mm_V → mm_S → Option mm_R) → Option mm_R)) := [(128, clo_X4_isKind), (142, clo_X4_isUnder), (389, clo_X4_isSpot)]
noncomputable def mS_X4_as (k : Nat) (as : List mm_V) (z : mm_S) (kk : Option mm_V → mm_S → Option mm_R) : Option mm_R := match mm_at lS_X4_as k with
  | some f => f as z kk
  | none => none
noncomputable def arS_X4_as (k : Nat) : Nat := (mm_at [(128, 1), (142, 2), (389, 1)] k).getD 0
def ct_X4_as : List (Nat × List Nat) := [(21, [0, 1, 2]), (42, [0, 2, 3]), (55, [3])]
noncomputable def go_X4_as : Nat → mm_K := mm_go (fun k => mm_at flX4 k) (fun k => mm_at clX4 k) (fun k => mm_at glX4 k) arV_X4_as arS_X4_as mV_X4_as mS_X4_as lenM roM snM 4 0 tbX4_as ct_X4_as
noncomputable def eX4_as_0 (n : Nat)  (x1 : Int32) (x2 : Int32) (z : mm_S) : Option mm_R := go_X4_as n 0 [(0, mm_P 4 0), (1, mm_I x1), (2, mm_I x2)] [] z
noncomputable def eX4_as_21 (n : Nat)  (y1 : Int32) (y2 : Int32) (z : mm_S) : Option mm_R := go_X4_as n 21 [(0, mm_P 4 0), (1, mm_I y1), (2, mm_I y2)] [] z
noncomputable def eX4_as_42 (n : Nat)  (y2 : Int32) (y3 : Int32) (z : mm_S) : Option mm_R := go_X4_as n 42 [(0, mm_P 4 0), (2, mm_I y2), (3, mm_I y3)] [] z
noncomputable def eX4_as_55 (n : Nat) (y3 : Int32) (z : mm_S) : Option mm_R := go_X4_as n 55 [(3, mm_I y3)] [] z
set_option maxRecDepth 100000 in
theorem qX4_as_0 (n : Nat)  (x1 : Int32) (x2 : Int32) (z : mm_S) : eX4_as_0 (n + 1) x1 x2 z = (if (pX4_isSpot x1) = 0 then (sX4_finding (-1000001) z).bind fun q1 => some (some (mm_I q1.1), q1.2) else if (pX4_isKind x2) = 0 then (sX4_finding (-1000001) z).bind fun q2 => some (some (mm_I q2.1), q2.2) else eX4_as_21 n x1 x2 z) := rfl
set_option maxRecDepth 100000 in
theorem qX4_as_21 (n : Nat)  (y1 : Int32) (y2 : Int32) (z : mm_S) : eX4_as_21 (n + 1) y1 y2 z = (if (5 + y1) < 0 ∨ 97 ≤ Int32.toNatClampNeg (5 + y1) then none else if 0 ≤ (z.1 1 (Int32.toNatClampNeg (5 + y1))) then eX4_as_42 n y2 (z.1 1 (Int32.toNatClampNeg (5 + y1))) z else (sX4_finding (-1000006) z).bind fun q3 => some (some (mm_I q3.1), q3.2)) := rfl
set_option maxRecDepth 100000 in
theorem qX4_as_42 (n : Nat)  (y2 : Int32) (y3 : Int32) (z : mm_S) : eX4_as_42 (n + 1) y2 y3 z = ((sX4_crewIs y3 0 z).bind fun q4 => (sX4_isUnder q4.1 y2 q4.2).bind fun q5 => if q5.1 = 0 then (sX4_finding (-1000003) q5.2).bind fun q6 => some (some (mm_I q6.1), q6.2) else eX4_as_55 n y3 q5.2) := rfl
set_option maxRecDepth 100000 in
theorem qX4_as_55 (n : Nat) (y3 : Int32) (z : mm_S) : eX4_as_55 (n + 1) y3 z = (some (some (mm_I y3), z)) := rfl
def rm_X4_as : Room := { frames := 2, cells := 0, slots := 0, locals := 43 }
noncomputable def f_X4_as (as : List mm_V) (z : mm_S) (o : mm_R) : Prop := (as.map mm_cat).sum ≤ 4 ∧ ∃ n, go_X4_as n 0 (mm_ar 0 as) [] z = some o
theorem M_X4_as : mm_M lyTM lyFA lenM snM 22 22 17 roM rsA nfA nmA [] yX4_as cX4_as 4 (some .int) rm_X4_as f_X4_as :=
  mm_met (rt := 0) (by decide +kernel) ⟨fun h => rfl, fun h => absurd h (by decide), fun h => absurd h (by decide), fun h => absurd h (by decide)⟩ tbX4_as_ok hsnM okFX4 okLX4 (fun _ h => absurd h List.not_mem_nil) (fun _ _ _ _ => rfl) (fun _ _ _ _ => rfl) (List.forall_mem_cons.mpr ⟨sV_X4_finding (Or.inl lk_X4_124) rfl ⟨by decide, by decide⟩, List.forall_mem_cons.mpr ⟨sV_X4_crewIs (Or.inl lk_X4_139) rfl ⟨by decide, by decide⟩, fun _ h => absurd h List.not_mem_nil⟩⟩) (List.forall_mem_cons.mpr ⟨sS_X4_isKind (Or.inl lk_X4_128) rfl ⟨by decide, by decide⟩, List.forall_mem_cons.mpr ⟨sS_X4_isUnder (Or.inl lk_X4_142) rfl ⟨by decide, by decide⟩, List.forall_mem_cons.mpr ⟨sS_X4_isSpot (Or.inl lk_X4_389) rfl ⟨by decide, by decide⟩, fun _ h => absurd h List.not_mem_nil⟩⟩⟩)
noncomputable def sX4_as_55 (y3 : Int32) (z : mm_S) : Option (Int32 × mm_S) := some (y3, z)
theorem kX4_as_55 (y3 : Int32) (z : mm_S) (oo : mm_R) : mm_Xs (sX4_as_55 y3 z) (fun v => (fun v : Int32 × mm_S => ((some (mm_I v.1), v.2) : mm_R)) v = oo) (fun n => eX4_as_55 n y3 z) oo :=
  xs_row (fun n => qX4_as_55 n y3 z) (xs_v fun hc => ⟨0, congrArg some hc⟩)
noncomputable def sX4_as_42 (y2 : Int32) (y3 : Int32) (z : mm_S) : Option (Int32 × mm_S) := (sX4_crewIs y3 0 z).bind fun q4 => (sX4_isUnder q4.1 y2 q4.2).bind fun q5 => if q5.1 = 0 then (sX4_finding (-1000003) q5.2).bind fun q6 => some (q6.1, q6.2) else (sX4_as_55 y3 q5.2)
theorem kX4_as_42 (y2 : Int32) (y3 : Int32) (z : mm_S) (oo : mm_R) : mm_Xs (sX4_as_42 y2 y3 z) (fun v => (fun v : Int32 × mm_S => ((some (mm_I v.1), v.2) : mm_R)) v = oo) (fun n => eX4_as_42 n y2 y3 z) oo :=
  xs_row (fun n => qX4_as_42 n y2 y3 z) (xs_bd fun q4 => (xs_bd fun q5 => (xs_if (xs_bd fun q6 => (xs_v fun hc => ⟨0, congrArg some hc⟩)) (kX4_as_55 y3 q5.2 oo))))
noncomputable def sX4_as_21 (y1 : Int32) (y2 : Int32) (z : mm_S) : Option (Int32 × mm_S) := if (5 + y1) < 0 ∨ 97 ≤ Int32.toNatClampNeg (5 + y1) then none else if 0 ≤ (z.1 1 (Int32.toNatClampNeg (5 + y1))) then (sX4_as_42 y2 (z.1 1 (Int32.toNatClampNeg (5 + y1))) z) else (sX4_finding (-1000006) z).bind fun q3 => some (q3.1, q3.2)
theorem kX4_as_21 (y1 : Int32) (y2 : Int32) (z : mm_S) (oo : mm_R) : mm_Xs (sX4_as_21 y1 y2 z) (fun v => (fun v : Int32 × mm_S => ((some (mm_I v.1), v.2) : mm_R)) v = oo) (fun n => eX4_as_21 n y1 y2 z) oo :=
  xs_row (fun n => qX4_as_21 n y1 y2 z) (xs_if xs_n (xs_if (kX4_as_42 y2 (z.1 1 (Int32.toNatClampNeg (5 + y1))) z oo) (xs_bd fun q3 => (xs_v fun hc => ⟨0, congrArg some hc⟩))))
noncomputable def sX4_as_0 (x1 : Int32) (x2 : Int32) (z : mm_S) : Option (Int32 × mm_S) := if (pX4_isSpot x1) = 0 then (sX4_finding (-1000001) z).bind fun q1 => some (q1.1, q1.2) else if (pX4_isKind x2) = 0 then (sX4_finding (-1000001) z).bind fun q2 => some (q2.1, q2.2) else (sX4_as_21 x1 x2 z)
theorem kX4_as_0 (x1 : Int32) (x2 : Int32) (z : mm_S) (oo : mm_R) : mm_Xs (sX4_as_0 x1 x2 z) (fun v => (fun v : Int32 × mm_S => ((some (mm_I v.1), v.2) : mm_R)) v = oo) (fun n => eX4_as_0 n x1 x2 z) oo :=
  xs_row (fun n => qX4_as_0 n x1 x2 z) (xs_if (xs_bd fun q1 => (xs_v fun hc => ⟨0, congrArg some hc⟩)) (xs_if (xs_bd fun q2 => (xs_v fun hc => ⟨0, congrArg some hc⟩)) (kX4_as_21 x1 x2 z oo)))
noncomputable def sX4_as (x1 : Int32) (x2 : Int32) (z : mm_S) : Option (Int32 × mm_S) := sX4_as_0 x1 x2 z
theorem sp_X4_as (x1 : Int32) (x2 : Int32) (z : mm_S) (hk : ∀ v ∈ [mm_P 4 0, mm_I x1, mm_I x2], mm_ok 22 lyTM 22 17 v) (q : Int32 × mm_S) (hq : sX4_as x1 x2 z = some q) : f_X4_as [mm_P 4 0, mm_I x1, mm_I x2] z (some (mm_I q.1), q.2) := ⟨Nat.le_of_ble_eq_true rfl, kX4_as_0 x1 x2 z _ q hq rfl⟩
noncomputable def clo_X4_as (as : List mm_V) (z : mm_S) (kk : Option mm_V → mm_S → Option mm_R) : Option mm_R := mm_pr as fun t o0 as => bif Nat.beq t 4 then mm_pi as fun a1 as => mm_pi as fun a2 as => (match as with | [] => (sX4_as a1 a2 z).bind fun q => kk (some (mm_I q.1)) q.2 | _ => none) else none
theorem cs_X4_as : mm_cs lyTM 22 22 17 f_X4_as clo_X4_as := by
  intro as z K o hk h
  obtain ⟨t0, o0, r0, rfl, g0⟩ := mm_pr_e h
  obtain ⟨b0, k0⟩ := mm_bif_e g0
  obtain rfl := Nat.eq_of_beq_eq_true b0
  obtain ⟨a1, r1, rfl, g1⟩ := mm_pi_e k0
  obtain ⟨a2, r2, rfl, g2⟩ := mm_pi_e g1
  rcases r2 with _ | ⟨u, w⟩
  rotate_left
  · cases g2
  obtain rfl : o0 = 0 := ok4 (hk (mm_P 4 o0) (by simp))
  obtain ⟨q, hq, hq2⟩ := Option.bind_eq_some_iff.mp g2
  exact ⟨_, _, sp_X4_as a1 a2 z hk q hq, fun v hv => by cases hv; exact Or.inl ⟨_, rfl⟩, hq2⟩
theorem sV_X4_as {own : String} {R : Room} {ar : Nat → Nat} {k : Nat} (hlink : Cond.methodLink own k yX4_as ∈ lw_gd ∨ ∃ host, (own, k, yX4_as, host) ∈ nmA) (har : ar k = 3) (hr : 3 ≤ R.frames ∧ 66 ≤ R.locals) : mm_okV lyTM lyFA lenM snM 22 22 17 roM rsA nfA nmA [] own R ar k clo_X4_as := by
  refine ⟨yX4_as, cX4_as, 4, some .int, rm_X4_as, f_X4_as, 4, 2, (RX4, TX4, 36), M_X4_as, cs_X4_as, hlink, ⟨wv_X4_as, wz_X4_as, wi_X4_as, wc_X4_as⟩, ⟨by decide +kernel, by decide +kernel, by decide +kernel⟩, har, ⟨rfl, rfl, by decide⟩, ?_, ⟨rfl, rfl, hr.1, hr.2⟩⟩
  intro as z K o h
  obtain ⟨t0, o0, r0, rfl, g0⟩ := mm_pr_e h
  obtain ⟨b0, k0⟩ := mm_bif_e g0
  obtain rfl := Nat.eq_of_beq_eq_true b0
  exact ⟨_, _, rfl⟩
-- X4_isSheet
noncomputable def lV_X4_isSheet : List (Nat × (List mm_V → mm_S → (Option mm_V → mm_S → Option mm_R) → Option mm_R)) := []
noncomputable def mV_X4_isSheet (k : Nat) (as : List mm_V) (z : mm_S) (kk : Option mm_V → mm_S → Option mm_R) : Option mm_R := match mm_at lV_X4_isSheet k with
  | some f => f as z kk
  | none => none
noncomputable def arV_X4_isSheet (k : Nat) : Nat := (mm_at [] k).getD 0
noncomputable def lS_X4_isSheet : List (Nat × (List mm_V → mm_S → (Option mm_V → mm_S → Option mm_R) → Option mm_R)) := [(106, clo_X4_within)]
noncomputable def mS_X4_isSheet (k : Nat) (as : List mm_V) (z : mm_S) (kk : Option mm_V → mm_S → Option mm_R) : Option mm_R := match mm_at lS_X4_isSheet k with
  | some f => f as z kk
  | none => none
noncomputable def arS_X4_isSheet (k : Nat) : Nat := (mm_at [(106, 3)] k).getD 0
def ct_X4_isSheet : List (Nat × List Nat) := []
noncomputable def go_X4_isSheet : Nat → mm_K := mm_go (fun k => mm_at flX4 k) (fun k => mm_at clX4 k) (fun k => mm_at glX4 k) arV_X4_isSheet arS_X4_isSheet mV_X4_isSheet mS_X4_isSheet lenM roM snM 1 1 tbX4_isSheet ct_X4_isSheet
noncomputable def eX4_isSheet_0 (n : Nat) (x1 : Int32) (z : mm_S) : Option mm_R := go_X4_isSheet n 0 [(0, mm_I x1)] [] z
set_option maxRecDepth 100000 in
theorem qX4_isSheet_0 (n : Nat) (x1 : Int32) (z : mm_S) : eX4_isSheet_0 (n + 1) x1 z = (mm_rt 1 (pX4_within x1 0 3) z) := rfl
def rm_X4_isSheet : Room := { frames := 1, cells := 0, slots := 0, locals := 22 }
noncomputable def f_X4_isSheet (as : List mm_V) (z : mm_S) (o : mm_R) : Prop := (as.map mm_cat).sum ≤ 1 ∧ ∃ n, go_X4_isSheet n 0 (mm_ar 0 as) [] z = some o
theorem M_X4_isSheet : mm_M lyTM lyFA lenM snM 22 22 17 roM rsA nfA nmA [] yX4_isSheet cX4_isSheet 1 (some .boolean) rm_X4_isSheet f_X4_isSheet :=
  mm_met (rt := 1) (by decide +kernel) ⟨fun h => absurd h (by decide), fun h => rfl, fun h => absurd h (by decide), fun h => absurd h (by decide)⟩ tbX4_isSheet_ok hsnM okFX4 okLX4 (fun _ h => absurd h List.not_mem_nil) (fun _ _ _ _ => rfl) (fun _ _ _ _ => rfl) (fun _ h => absurd h List.not_mem_nil) (List.forall_mem_cons.mpr ⟨sS_X4_within (Or.inl lk_X4_106) rfl ⟨by decide, by decide⟩, fun _ h => absurd h List.not_mem_nil⟩)
noncomputable def pX4_isSheet (x1 : Int32) : Int32 := (pX4_within x1 0 3)
theorem z1_X4_isSheet (x1 : Int32) : pX4_isSheet x1 = 0 ∨ pX4_isSheet x1 = 1 := (z1_X4_within x1 0 3)
theorem sp_X4_isSheet (x1 : Int32) (z : mm_S) (_ : ∀ v ∈ [mm_I x1], mm_ok 22 lyTM 22 17 v) : f_X4_isSheet [mm_I x1] z (some (mm_I (pX4_isSheet x1)), z) := ⟨Nat.le_of_ble_eq_true rfl, 1, (qX4_isSheet_0 0 x1 z).trans (mm_rt1 z (z1_X4_within x1 0 3))⟩
noncomputable def clo_X4_isSheet (as : List mm_V) (z : mm_S) (kk : Option mm_V → mm_S → Option mm_R) : Option mm_R := mm_pi as fun a0 as => (match as with | [] => kk (some (mm_I (pX4_isSheet a0))) z | _ => none)
theorem cs_X4_isSheet : mm_cs lyTM 22 22 17 f_X4_isSheet clo_X4_isSheet := by
  intro as z K o hk h
  obtain ⟨a0, r0, rfl, g0⟩ := mm_pi_e h
  rcases r0 with _ | ⟨u, w⟩
  rotate_left
  · cases g0
  exact ⟨_, _, sp_X4_isSheet a0 z hk, fun v hv => by cases hv; exact Or.inl ⟨_, rfl⟩, g0⟩
theorem sS_X4_isSheet {own : String} {R : Room} {ar : Nat → Nat} {k : Nat} (hlink : Cond.methodLink own k yX4_isSheet ∈ lw_gd ∨ ∃ host, (own, k, yX4_isSheet, host) ∈ nmA) (har : ar k = 1) (hr : 2 ≤ R.frames ∧ 42 ≤ R.locals) : mm_okS lyTM lyFA lenM snM 22 22 17 roM rsA nfA nmA [] own R ar k clo_X4_isSheet :=
  Or.inl ⟨yX4_isSheet, cX4_isSheet, 1, some .boolean, rm_X4_isSheet, f_X4_isSheet, M_X4_isSheet, cs_X4_isSheet, hlink, ⟨ws_X4_isSheet, wi_X4_isSheet, wc_X4_isSheet⟩, ⟨by decide +kernel, by decide +kernel, by rw [har]; decide +kernel⟩, ⟨rfl, rfl, hr.1, hr.2⟩⟩
-- X4_cutTo
noncomputable def lV_X4_cutTo : List (Nat × (List mm_V → mm_S → (Option mm_V → mm_S → Option mm_R) → Option mm_R)) := []
noncomputable def mV_X4_cutTo (k : Nat) (as : List mm_V) (z : mm_S) (kk : Option mm_V → mm_S → Option mm_R) : Option mm_R := match mm_at lV_X4_cutTo k with
  | some f => f as z kk
  | none => none
noncomputable def arV_X4_cutTo (k : Nat) : Nat := (mm_at [] k).getD 0
noncomputable def lS_X4_cutTo : List (Nat × (List mm_V → mm_S → (Option mm_V → mm_S → Option mm_R) → Option mm_R)) := []
noncomputable def mS_X4_cutTo (k : Nat) (as : List mm_V) (z : mm_S) (kk : Option mm_V → mm_S → Option mm_R) : Option mm_R := match mm_at lS_X4_cutTo k with
  | some f => f as z kk
  | none => none
noncomputable def arS_X4_cutTo (k : Nat) : Nat := (mm_at [] k).getD 0
def ct_X4_cutTo : List (Nat × List Nat) := []
noncomputable def go_X4_cutTo : Nat → mm_K := mm_go (fun k => mm_at flX4 k) (fun k => mm_at clX4 k) (fun k => mm_at glX4 k) arV_X4_cutTo arS_X4_cutTo mV_X4_cutTo mS_X4_cutTo lenM roM snM 2 0 tbX4_cutTo ct_X4_cutTo
noncomputable def eX4_cutTo_0 (n : Nat) (x1 : Int32) (x2 : Int32) (z : mm_S) : Option mm_R := go_X4_cutTo n 0 [(0, mm_I x1), (1, mm_I x2)] [] z
set_option maxRecDepth 100000 in
theorem qX4_cutTo_0 (n : Nat) (x1 : Int32) (x2 : Int32) (z : mm_S) : eX4_cutTo_0 (n + 1) x1 x2 z = (if x2 = 8 then some (some (mm_I (Int32.toInt8 x1).toInt32), z) else if x2 = 16 then some (some (mm_I (Int32.toInt16 x1).toInt32), z) else some (some (mm_I x1), z)) := rfl
def rm_X4_cutTo : Room := { frames := 0, cells := 0, slots := 0, locals := 0 }
noncomputable def f_X4_cutTo (as : List mm_V) (z : mm_S) (o : mm_R) : Prop := (as.map mm_cat).sum ≤ 2 ∧ ∃ n, go_X4_cutTo n 0 (mm_ar 0 as) [] z = some o
theorem M_X4_cutTo : mm_M lyTM lyFA lenM snM 22 22 17 roM rsA nfA nmA [] yX4_cutTo cX4_cutTo 2 (some .int) rm_X4_cutTo f_X4_cutTo :=
  mm_met (rt := 0) (by decide +kernel) ⟨fun h => rfl, fun h => absurd h (by decide), fun h => absurd h (by decide), fun h => absurd h (by decide)⟩ tbX4_cutTo_ok hsnM okFX4 okLX4 (fun _ h => absurd h List.not_mem_nil) (fun _ _ _ _ => rfl) (fun _ _ _ _ => rfl) (fun _ h => absurd h List.not_mem_nil) (fun _ h => absurd h List.not_mem_nil)
noncomputable def pX4_cutTo (x1 : Int32) (x2 : Int32) : Int32 := if x2 = 8 then (Int32.toInt8 x1).toInt32 else if x2 = 16 then (Int32.toInt16 x1).toInt32 else x1
theorem sp_X4_cutTo (x1 : Int32) (x2 : Int32) (z : mm_S) (_ : ∀ v ∈ [mm_I x1, mm_I x2], mm_ok 22 lyTM 22 17 v) : f_X4_cutTo [mm_I x1, mm_I x2] z (some (mm_I (pX4_cutTo x1 x2)), z) := ⟨Nat.le_of_ble_eq_true rfl, 1, (qX4_cutTo_0 0 x1 x2 z).trans (mm_if (fun v => some (some (mm_I v), z)) rfl (mm_if (fun v => some (some (mm_I v), z)) rfl rfl))⟩
noncomputable def clo_X4_cutTo (as : List mm_V) (z : mm_S) (kk : Option mm_V → mm_S → Option mm_R) : Option mm_R := mm_pi as fun a0 as => mm_pi as fun a1 as => (match as with | [] => kk (some (mm_I (pX4_cutTo a0 a1))) z | _ => none)
theorem cs_X4_cutTo : mm_cs lyTM 22 22 17 f_X4_cutTo clo_X4_cutTo := by
  intro as z K o hk h
  obtain ⟨a0, r0, rfl, g0⟩ := mm_pi_e h
  obtain ⟨a1, r1, rfl, g1⟩ := mm_pi_e g0
  rcases r1 with _ | ⟨u, w⟩
  rotate_left
  · cases g1
  exact ⟨_, _, sp_X4_cutTo a0 a1 z hk, fun v hv => by cases hv; exact Or.inl ⟨_, rfl⟩, g1⟩
theorem sS_X4_cutTo {own : String} {R : Room} {ar : Nat → Nat} {k : Nat} (hlink : Cond.methodLink own k yX4_cutTo ∈ lw_gd ∨ ∃ host, (own, k, yX4_cutTo, host) ∈ nmA) (har : ar k = 2) (hr : 1 ≤ R.frames ∧ 21 ≤ R.locals) : mm_okS lyTM lyFA lenM snM 22 22 17 roM rsA nfA nmA [] own R ar k clo_X4_cutTo :=
  Or.inl ⟨yX4_cutTo, cX4_cutTo, 2, some .int, rm_X4_cutTo, f_X4_cutTo, M_X4_cutTo, cs_X4_cutTo, hlink, ⟨ws_X4_cutTo, wi_X4_cutTo, wc_X4_cutTo⟩, ⟨by decide +kernel, by decide +kernel, by rw [har]; decide +kernel⟩, ⟨rfl, rfl, hr.1, hr.2⟩⟩
-- X4_sheet
noncomputable def lV_X4_sheet : List (Nat × (List mm_V → mm_S → (Option mm_V → mm_S → Option mm_R) → Option mm_R)) := [(124, clo_X4_finding)]
noncomputable def mV_X4_sheet (k : Nat) (as : List mm_V) (z : mm_S) (kk : Option mm_V → mm_S → Option mm_R) : Option mm_R := match mm_at lV_X4_sheet k with
  | some f => f as z kk
  | none => none
noncomputable def arV_X4_sheet (k : Nat) : Nat := (mm_at [(124, 2)] k).getD 0
noncomputable def lS_X4_sheet : List (Nat × (List mm_V → mm_S → (Option mm_V → mm_S → Option mm_R) → Option mm_R)) := [(394, clo_X4_isSheet)]
noncomputable def mS_X4_sheet (k : Nat) (as : List mm_V) (z : mm_S) (kk : Option mm_V → mm_S → Option mm_R) : Option mm_R := match mm_at lS_X4_sheet k with
  | some f => f as z kk
  | none => none
noncomputable def arS_X4_sheet (k : Nat) : Nat := (mm_at [(394, 1)] k).getD 0
def ct_X4_sheet : List (Nat × List Nat) := [(36, [0, 1, 2, 3]), (48, [0, 1, 2, 3]), (61, [0, 1, 2, 3]), (68, [0, 1, 2, 3]), (83, [0, 1]), (86, [0, 1, 4]), (106, [0, 1, 4])]
noncomputable def go_X4_sheet : Nat → mm_K := mm_go (fun k => mm_at flX4 k) (fun k => mm_at clX4 k) (fun k => mm_at glX4 k) arV_X4_sheet arS_X4_sheet mV_X4_sheet mS_X4_sheet lenM roM snM 5 0 tbX4_sheet ct_X4_sheet
noncomputable def eX4_sheet_0 (n : Nat)  (x1 : Int32) (x2 : Int32) (x3 : Int32) (z : mm_S) : Option mm_R := go_X4_sheet n 0 [(0, mm_P 4 0), (1, mm_I x1), (2, mm_I x2), (3, mm_I x3)] [] z
noncomputable def eX4_sheet_36 (n : Nat)  (y1 : Int32) (y2 : Int32) (y3 : Int32) (z : mm_S) : Option mm_R := go_X4_sheet n 36 [(0, mm_P 4 0), (1, mm_I y1), (2, mm_I y2), (3, mm_I y3)] [] z
noncomputable def eX4_sheet_48 (n : Nat)  (y1 : Int32) (y2 : Int32) (y3 : Int32) (z : mm_S) : Option mm_R := go_X4_sheet n 48 [(0, mm_P 4 0), (1, mm_I y1), (2, mm_I y2), (3, mm_I y3)] [] z
noncomputable def eX4_sheet_61 (n : Nat)  (y1 : Int32) (y2 : Int32) (y3 : Int32) (z : mm_S) : Option mm_R := go_X4_sheet n 61 [(0, mm_P 4 0), (1, mm_I y1), (2, mm_I y2), (3, mm_I y3)] [] z
noncomputable def eX4_sheet_68 (n : Nat)  (y1 : Int32) (y2 : Int32) (y3 : Int32) (z : mm_S) : Option mm_R := go_X4_sheet n 68 [(0, mm_P 4 0), (1, mm_I y1), (2, mm_I y2), (3, mm_I y3)] [] z
noncomputable def eX4_sheet_83 (n : Nat)  (y1 : Int32) (z : mm_S) : Option mm_R := go_X4_sheet n 83 [(0, mm_P 4 0), (1, mm_I y1)] [] z
noncomputable def eX4_sheet_86 (n : Nat)  (y1 : Int32) (y4 : Int32) (z : mm_S) : Option mm_R := go_X4_sheet n 86 [(0, mm_P 4 0), (1, mm_I y1), (4, mm_I y4)] [] z
noncomputable def eX4_sheet_106 (n : Nat)  (y1 : Int32) (y4 : Int32) (z : mm_S) : Option mm_R := go_X4_sheet n 106 [(0, mm_P 4 0), (1, mm_I y1), (4, mm_I y4)] [] z
set_option maxRecDepth 100000 in
theorem qX4_sheet_0 (n : Nat)  (x1 : Int32) (x2 : Int32) (x3 : Int32) (z : mm_S) : eX4_sheet_0 (n + 1) x1 x2 x3 z = (if (pX4_isSheet x1) = 0 then (sX4_finding (-1000001) z).bind fun q1 => some (some (mm_I q1.1), q1.2) else if x2 = 0 then eX4_sheet_36 n x1 x2 x3 z else if x2 = 8 then eX4_sheet_36 n x1 x2 x3 z else if x2 = 16 then eX4_sheet_36 n x1 x2 x3 z else if x2 = 32 then eX4_sheet_36 n x1 x2 x3 z else (sX4_finding (-1000001) z).bind fun q2 => some (some (mm_I q2.1), q2.2)) := rfl
set_option maxRecDepth 100000 in
theorem qX4_sheet_36 (n : Nat)  (y1 : Int32) (y2 : Int32) (y3 : Int32) (z : mm_S) : eX4_sheet_36 (n + 1) y1 y2 y3 z = (if 0 ≤ y3 then eX4_sheet_48 n y1 y2 y3 z else (sX4_finding (-1000007) z).bind fun q3 => some (some (mm_I q3.1), q3.2)) := rfl
set_option maxRecDepth 100000 in
theorem qX4_sheet_48 (n : Nat)  (y1 : Int32) (y2 : Int32) (y3 : Int32) (z : mm_S) : eX4_sheet_48 (n + 1) y1 y2 y3 z = (if y3 ≤ 40 then eX4_sheet_61 n y1 y2 y3 z else (sX4_finding (-1000001) z).bind fun q4 => some (some (mm_I q4.1), q4.2)) := rfl
set_option maxRecDepth 100000 in
theorem qX4_sheet_61 (n : Nat)  (y1 : Int32) (y2 : Int32) (y3 : Int32) (z : mm_S) : eX4_sheet_61 (n + 1) y1 y2 y3 z = (if y1 < 0 ∨ 4 ≤ Int32.toNatClampNeg y1 then none else eX4_sheet_68 n y1 y2 y3 ((mm_ui z.1 18 (Int32.toNatClampNeg y1) y2), z.2)) := rfl
set_option maxRecDepth 100000 in
theorem qX4_sheet_68 (n : Nat)  (y1 : Int32) (y2 : Int32) (y3 : Int32) (z : mm_S) : eX4_sheet_68 (n + 1) y1 y2 y3 z = (if y2 = 0 then if y1 < 0 ∨ 4 ≤ Int32.toNatClampNeg y1 then none else eX4_sheet_83 n y1 ((mm_ui z.1 19 (Int32.toNatClampNeg y1) 0), z.2) else if y1 < 0 ∨ 4 ≤ Int32.toNatClampNeg y1 then none else eX4_sheet_83 n y1 ((mm_ui z.1 19 (Int32.toNatClampNeg y1) y3), z.2)) := rfl
set_option maxRecDepth 100000 in
theorem qX4_sheet_83 (n : Nat)  (y1 : Int32) (z : mm_S) : eX4_sheet_83 (n + 1) y1 z = (eX4_sheet_86 n y1 0 z) := rfl
set_option maxRecDepth 100000 in
theorem qX4_sheet_86 (n : Nat)  (y1 : Int32) (y4 : Int32) (z : mm_S) : eX4_sheet_86 (n + 1) y1 y4 z = (if 40 ≤ y4 then if y1 < 0 ∨ 4 ≤ Int32.toNatClampNeg y1 then none else some (some (mm_I (z.1 19 (Int32.toNatClampNeg y1))), z) else if ((40 * y1) + y4) < 0 ∨ 160 ≤ Int32.toNatClampNeg ((40 * y1) + y4) then none else eX4_sheet_106 n y1 y4 ((mm_ui z.1 20 (Int32.toNatClampNeg ((40 * y1) + y4)) 0), z.2)) := rfl
set_option maxRecDepth 100000 in
theorem qX4_sheet_106 (n : Nat)  (y1 : Int32) (y4 : Int32) (z : mm_S) : eX4_sheet_106 (n + 1) y1 y4 z = (eX4_sheet_86 n y1 (y4 + 1) z) := rfl
def rm_X4_sheet : Room := { frames := 2, cells := 0, slots := 0, locals := 42 }
noncomputable def f_X4_sheet (as : List mm_V) (z : mm_S) (o : mm_R) : Prop := (as.map mm_cat).sum ≤ 5 ∧ ∃ n, go_X4_sheet n 0 (mm_ar 0 as) [] z = some o
theorem M_X4_sheet : mm_M lyTM lyFA lenM snM 22 22 17 roM rsA nfA nmA [] yX4_sheet cX4_sheet 5 (some .int) rm_X4_sheet f_X4_sheet :=
  mm_met (rt := 0) (by decide +kernel) ⟨fun h => rfl, fun h => absurd h (by decide), fun h => absurd h (by decide), fun h => absurd h (by decide)⟩ tbX4_sheet_ok hsnM okFX4 okLX4 (fun _ h => absurd h List.not_mem_nil) (fun _ _ _ _ => rfl) (fun _ _ _ _ => rfl) (List.forall_mem_cons.mpr ⟨sV_X4_finding (Or.inl lk_X4_124) rfl ⟨by decide, by decide⟩, fun _ h => absurd h List.not_mem_nil⟩) (List.forall_mem_cons.mpr ⟨sS_X4_isSheet (Or.inl lk_X4_394) rfl ⟨by decide, by decide⟩, fun _ h => absurd h List.not_mem_nil⟩)
noncomputable def sX4_sheet_106 (y1 : Int32) (y4 : Int32) (z : mm_S) : Option ((Int32 × Int32 × mm_S) ⊕ (Int32 × mm_S)) := some (.inl (y1, (y4 + 1), z))
theorem kX4_sheet_106 (y1 : Int32) (y4 : Int32) (z : mm_S) (oo : mm_R) : mm_Xs (sX4_sheet_106 y1 y4 z) (mm_mt (fun x : Int32 × Int32 × mm_S => ∃ n, eX4_sheet_86 n x.1 x.2.1 x.2.2 = some oo) (fun v => (fun v : Int32 × mm_S => ((some (mm_I v.1), v.2) : mm_R)) v = oo)) (fun n => eX4_sheet_106 n y1 y4 z) oo :=
  xs_row (fun n => qX4_sheet_106 n y1 y4 z) (xs_v fun hc => hc)
noncomputable def lX4_sheet_86 (s : Int32 × Int32 × mm_S) : Option ((Int32 × Int32 × mm_S) ⊕ (Int32 × mm_S)) := if 40 ≤ s.2.1 then if s.1 < 0 ∨ 4 ≤ Int32.toNatClampNeg s.1 then none else some (.inr ((s.2.2.1 19 (Int32.toNatClampNeg s.1)), s.2.2)) else if ((40 * s.1) + s.2.1) < 0 ∨ 160 ≤ Int32.toNatClampNeg ((40 * s.1) + s.2.1) then none else (sX4_sheet_106 s.1 s.2.1 ((mm_ui s.2.2.1 20 (Int32.toNatClampNeg ((40 * s.1) + s.2.1)) 0), s.2.2.2))
noncomputable def sX4_sheet_86 (y1 : Int32) (y4 : Int32) (z : mm_S) : Option (Int32 × mm_S) := mm_wh (lX4_sheet_86 ) mm_fu (y1, y4, z)
theorem kX4_sheet_86 (y1 : Int32) (y4 : Int32) (z : mm_S) (oo : mm_R) : mm_Xs (sX4_sheet_86 y1 y4 z) (fun v => (fun v : Int32 × mm_S => ((some (mm_I v.1), v.2) : mm_R)) v = oo) (fun n => eX4_sheet_86 n y1 y4 z) oo :=
  xs_wh (stp := lX4_sheet_86 ) (o := oo) (E := (fun (s : Int32 × Int32 × mm_S) n => eX4_sheet_86 n s.1 s.2.1 s.2.2)) (C := (fun v => (fun v : Int32 × mm_S => ((some (mm_I v.1), v.2) : mm_R)) v = oo)) (fun s => xs_row (fun n => qX4_sheet_86 n s.1 s.2.1 s.2.2) (xs_if (xs_if xs_n (xs_v fun hc => ⟨0, congrArg some hc⟩)) (xs_if xs_n (kX4_sheet_106 s.1 s.2.1 ((mm_ui s.2.2.1 20 (Int32.toNatClampNeg ((40 * s.1) + s.2.1)) 0), s.2.2.2) oo)))) mm_fu (y1, y4, z)
noncomputable def sX4_sheet_83 (y1 : Int32) (z : mm_S) : Option (Int32 × mm_S) := (sX4_sheet_86 y1 0 z)
theorem kX4_sheet_83 (y1 : Int32) (z : mm_S) (oo : mm_R) : mm_Xs (sX4_sheet_83 y1 z) (fun v => (fun v : Int32 × mm_S => ((some (mm_I v.1), v.2) : mm_R)) v = oo) (fun n => eX4_sheet_83 n y1 z) oo :=
  xs_row (fun n => qX4_sheet_83 n y1 z) (kX4_sheet_86 y1 0 z oo)
noncomputable def sX4_sheet_68 (y1 : Int32) (y2 : Int32) (y3 : Int32) (z : mm_S) : Option (Int32 × mm_S) := if y2 = 0 then if y1 < 0 ∨ 4 ≤ Int32.toNatClampNeg y1 then none else (sX4_sheet_83 y1 ((mm_ui z.1 19 (Int32.toNatClampNeg y1) 0), z.2)) else if y1 < 0 ∨ 4 ≤ Int32.toNatClampNeg y1 then none else (sX4_sheet_83 y1 ((mm_ui z.1 19 (Int32.toNatClampNeg y1) y3), z.2))
theorem kX4_sheet_68 (y1 : Int32) (y2 : Int32) (y3 : Int32) (z : mm_S) (oo : mm_R) : mm_Xs (sX4_sheet_68 y1 y2 y3 z) (fun v => (fun v : Int32 × mm_S => ((some (mm_I v.1), v.2) : mm_R)) v = oo) (fun n => eX4_sheet_68 n y1 y2 y3 z) oo :=
  xs_row (fun n => qX4_sheet_68 n y1 y2 y3 z) (xs_if (xs_if xs_n (kX4_sheet_83 y1 ((mm_ui z.1 19 (Int32.toNatClampNeg y1) 0), z.2) oo)) (xs_if xs_n (kX4_sheet_83 y1 ((mm_ui z.1 19 (Int32.toNatClampNeg y1) y3), z.2) oo)))
noncomputable def sX4_sheet_61 (y1 : Int32) (y2 : Int32) (y3 : Int32) (z : mm_S) : Option (Int32 × mm_S) := if y1 < 0 ∨ 4 ≤ Int32.toNatClampNeg y1 then none else (sX4_sheet_68 y1 y2 y3 ((mm_ui z.1 18 (Int32.toNatClampNeg y1) y2), z.2))
theorem kX4_sheet_61 (y1 : Int32) (y2 : Int32) (y3 : Int32) (z : mm_S) (oo : mm_R) : mm_Xs (sX4_sheet_61 y1 y2 y3 z) (fun v => (fun v : Int32 × mm_S => ((some (mm_I v.1), v.2) : mm_R)) v = oo) (fun n => eX4_sheet_61 n y1 y2 y3 z) oo :=
  xs_row (fun n => qX4_sheet_61 n y1 y2 y3 z) (xs_if xs_n (kX4_sheet_68 y1 y2 y3 ((mm_ui z.1 18 (Int32.toNatClampNeg y1) y2), z.2) oo))
noncomputable def sX4_sheet_48 (y1 : Int32) (y2 : Int32) (y3 : Int32) (z : mm_S) : Option (Int32 × mm_S) := if y3 ≤ 40 then (sX4_sheet_61 y1 y2 y3 z) else (sX4_finding (-1000001) z).bind fun q4 => some (q4.1, q4.2)
theorem kX4_sheet_48 (y1 : Int32) (y2 : Int32) (y3 : Int32) (z : mm_S) (oo : mm_R) : mm_Xs (sX4_sheet_48 y1 y2 y3 z) (fun v => (fun v : Int32 × mm_S => ((some (mm_I v.1), v.2) : mm_R)) v = oo) (fun n => eX4_sheet_48 n y1 y2 y3 z) oo :=
  xs_row (fun n => qX4_sheet_48 n y1 y2 y3 z) (xs_if (kX4_sheet_61 y1 y2 y3 z oo) (xs_bd fun q4 => (xs_v fun hc => ⟨0, congrArg some hc⟩)))
noncomputable def sX4_sheet_36 (y1 : Int32) (y2 : Int32) (y3 : Int32) (z : mm_S) : Option (Int32 × mm_S) := if 0 ≤ y3 then (sX4_sheet_48 y1 y2 y3 z) else (sX4_finding (-1000007) z).bind fun q3 => some (q3.1, q3.2)
theorem kX4_sheet_36 (y1 : Int32) (y2 : Int32) (y3 : Int32) (z : mm_S) (oo : mm_R) : mm_Xs (sX4_sheet_36 y1 y2 y3 z) (fun v => (fun v : Int32 × mm_S => ((some (mm_I v.1), v.2) : mm_R)) v = oo) (fun n => eX4_sheet_36 n y1 y2 y3 z) oo :=
  xs_row (fun n => qX4_sheet_36 n y1 y2 y3 z) (xs_if (kX4_sheet_48 y1 y2 y3 z oo) (xs_bd fun q3 => (xs_v fun hc => ⟨0, congrArg some hc⟩)))
noncomputable def sX4_sheet_0 (x1 : Int32) (x2 : Int32) (x3 : Int32) (z : mm_S) : Option (Int32 × mm_S) := if (pX4_isSheet x1) = 0 then (sX4_finding (-1000001) z).bind fun q1 => some (q1.1, q1.2) else if x2 = 0 then (sX4_sheet_36 x1 x2 x3 z) else if x2 = 8 then (sX4_sheet_36 x1 x2 x3 z) else if x2 = 16 then (sX4_sheet_36 x1 x2 x3 z) else if x2 = 32 then (sX4_sheet_36 x1 x2 x3 z) else (sX4_finding (-1000001) z).bind fun q2 => some (q2.1, q2.2)
theorem kX4_sheet_0 (x1 : Int32) (x2 : Int32) (x3 : Int32) (z : mm_S) (oo : mm_R) : mm_Xs (sX4_sheet_0 x1 x2 x3 z) (fun v => (fun v : Int32 × mm_S => ((some (mm_I v.1), v.2) : mm_R)) v = oo) (fun n => eX4_sheet_0 n x1 x2 x3 z) oo :=
  xs_row (fun n => qX4_sheet_0 n x1 x2 x3 z) (xs_if (xs_bd fun q1 => (xs_v fun hc => ⟨0, congrArg some hc⟩)) (xs_if (kX4_sheet_36 x1 x2 x3 z oo) (xs_if (kX4_sheet_36 x1 x2 x3 z oo) (xs_if (kX4_sheet_36 x1 x2 x3 z oo) (xs_if (kX4_sheet_36 x1 x2 x3 z oo) (xs_bd fun q2 => (xs_v fun hc => ⟨0, congrArg some hc⟩)))))))
noncomputable def sX4_sheet (x1 : Int32) (x2 : Int32) (x3 : Int32) (z : mm_S) : Option (Int32 × mm_S) := sX4_sheet_0 x1 x2 x3 z
theorem sp_X4_sheet (x1 : Int32) (x2 : Int32) (x3 : Int32) (z : mm_S) (hk : ∀ v ∈ [mm_P 4 0, mm_I x1, mm_I x2, mm_I x3], mm_ok 22 lyTM 22 17 v) (q : Int32 × mm_S) (hq : sX4_sheet x1 x2 x3 z = some q) : f_X4_sheet [mm_P 4 0, mm_I x1, mm_I x2, mm_I x3] z (some (mm_I q.1), q.2) := ⟨Nat.le_of_ble_eq_true rfl, kX4_sheet_0 x1 x2 x3 z _ q hq rfl⟩
noncomputable def clo_X4_sheet (as : List mm_V) (z : mm_S) (kk : Option mm_V → mm_S → Option mm_R) : Option mm_R := mm_pr as fun t o0 as => bif Nat.beq t 4 then mm_pi as fun a1 as => mm_pi as fun a2 as => mm_pi as fun a3 as => (match as with | [] => (sX4_sheet a1 a2 a3 z).bind fun q => kk (some (mm_I q.1)) q.2 | _ => none) else none
theorem cs_X4_sheet : mm_cs lyTM 22 22 17 f_X4_sheet clo_X4_sheet := by
  intro as z K o hk h
  obtain ⟨t0, o0, r0, rfl, g0⟩ := mm_pr_e h
  obtain ⟨b0, k0⟩ := mm_bif_e g0
  obtain rfl := Nat.eq_of_beq_eq_true b0
  obtain ⟨a1, r1, rfl, g1⟩ := mm_pi_e k0
  obtain ⟨a2, r2, rfl, g2⟩ := mm_pi_e g1
  obtain ⟨a3, r3, rfl, g3⟩ := mm_pi_e g2
  rcases r3 with _ | ⟨u, w⟩
  rotate_left
  · cases g3
  obtain rfl : o0 = 0 := ok4 (hk (mm_P 4 o0) (by simp))
  obtain ⟨q, hq, hq2⟩ := Option.bind_eq_some_iff.mp g3
  exact ⟨_, _, sp_X4_sheet a1 a2 a3 z hk q hq, fun v hv => by cases hv; exact Or.inl ⟨_, rfl⟩, hq2⟩
theorem sV_X4_sheet {own : String} {R : Room} {ar : Nat → Nat} {k : Nat} (hlink : Cond.methodLink own k yX4_sheet ∈ lw_gd ∨ ∃ host, (own, k, yX4_sheet, host) ∈ nmA) (har : ar k = 4) (hr : 3 ≤ R.frames ∧ 66 ≤ R.locals) : mm_okV lyTM lyFA lenM snM 22 22 17 roM rsA nfA nmA [] own R ar k clo_X4_sheet := by
  refine ⟨yX4_sheet, cX4_sheet, 5, some .int, rm_X4_sheet, f_X4_sheet, 4, 3, (RX4, TX4, 36), M_X4_sheet, cs_X4_sheet, hlink, ⟨wv_X4_sheet, wz_X4_sheet, wi_X4_sheet, wc_X4_sheet⟩, ⟨by decide +kernel, by decide +kernel, by decide +kernel⟩, har, ⟨rfl, rfl, by decide⟩, ?_, ⟨rfl, rfl, hr.1, hr.2⟩⟩
  intro as z K o h
  obtain ⟨t0, o0, r0, rfl, g0⟩ := mm_pr_e h
  obtain ⟨b0, k0⟩ := mm_bif_e g0
  obtain rfl := Nat.eq_of_beq_eq_true b0
  exact ⟨_, _, rfl⟩
-- X4_write
noncomputable def lV_X4_write : List (Nat × (List mm_V → mm_S → (Option mm_V → mm_S → Option mm_R) → Option mm_R)) := [(124, clo_X4_finding)]
noncomputable def mV_X4_write (k : Nat) (as : List mm_V) (z : mm_S) (kk : Option mm_V → mm_S → Option mm_R) : Option mm_R := match mm_at lV_X4_write k with
  | some f => f as z kk
  | none => none
noncomputable def arV_X4_write (k : Nat) : Nat := (mm_at [(124, 2)] k).getD 0
noncomputable def lS_X4_write : List (Nat × (List mm_V → mm_S → (Option mm_V → mm_S → Option mm_R) → Option mm_R)) := [(106, clo_X4_within), (394, clo_X4_isSheet), (398, clo_X4_cutTo)]
noncomputable def mS_X4_write (k : Nat) (as : List mm_V) (z : mm_S) (kk : Option mm_V → mm_S → Option mm_R) : Option mm_R := match mm_at lS_X4_write k with
  | some f => f as z kk
  | none => none
noncomputable def arS_X4_write (k : Nat) : Nat := (mm_at [(106, 3), (394, 1), (398, 2)] k).getD 0
def ct_X4_write : List (Nat × List Nat) := [(14, [0, 1, 2, 3]), (31, [0, 1, 2, 3]), (54, [0, 1, 2, 3]), (75, [])]
noncomputable def go_X4_write : Nat → mm_K := mm_go (fun k => mm_at flX4 k) (fun k => mm_at clX4 k) (fun k => mm_at glX4 k) arV_X4_write arS_X4_write mV_X4_write mS_X4_write lenM roM snM 4 0 tbX4_write ct_X4_write
noncomputable def eX4_write_0 (n : Nat)  (x1 : Int32) (x2 : Int32) (x3 : Int32) (z : mm_S) : Option mm_R := go_X4_write n 0 [(0, mm_P 4 0), (1, mm_I x1), (2, mm_I x2), (3, mm_I x3)] [] z
noncomputable def eX4_write_14 (n : Nat)  (y1 : Int32) (y2 : Int32) (y3 : Int32) (z : mm_S) : Option mm_R := go_X4_write n 14 [(0, mm_P 4 0), (1, mm_I y1), (2, mm_I y2), (3, mm_I y3)] [] z
noncomputable def eX4_write_31 (n : Nat)  (y1 : Int32) (y2 : Int32) (y3 : Int32) (z : mm_S) : Option mm_R := go_X4_write n 31 [(0, mm_P 4 0), (1, mm_I y1), (2, mm_I y2), (3, mm_I y3)] [] z
noncomputable def eX4_write_54 (n : Nat)  (y1 : Int32) (y2 : Int32) (y3 : Int32) (z : mm_S) : Option mm_R := go_X4_write n 54 [(0, mm_P 4 0), (1, mm_I y1), (2, mm_I y2), (3, mm_I y3)] [] z
noncomputable def eX4_write_75 (n : Nat)  (z : mm_S) : Option mm_R := go_X4_write n 75 [] [] z
set_option maxRecDepth 100000 in
theorem qX4_write_0 (n : Nat)  (x1 : Int32) (x2 : Int32) (x3 : Int32) (z : mm_S) : eX4_write_0 (n + 1) x1 x2 x3 z = (if (pX4_isSheet x1) = 0 then (sX4_finding (-1000001) z).bind fun q1 => some (some (mm_I q1.1), q1.2) else eX4_write_14 n x1 x2 x3 z) := rfl
set_option maxRecDepth 100000 in
theorem qX4_write_14 (n : Nat)  (y1 : Int32) (y2 : Int32) (y3 : Int32) (z : mm_S) : eX4_write_14 (n + 1) y1 y2 y3 z = (if y1 < 0 ∨ 4 ≤ Int32.toNatClampNeg y1 then none else if (z.1 18 (Int32.toNatClampNeg y1)) = 0 then (sX4_finding (-1000006) z).bind fun q2 => some (some (mm_I q2.1), q2.2) else eX4_write_31 n y1 y2 y3 z) := rfl
set_option maxRecDepth 100000 in
theorem qX4_write_31 (n : Nat)  (y1 : Int32) (y2 : Int32) (y3 : Int32) (z : mm_S) : eX4_write_31 (n + 1) y1 y2 y3 z = (if y1 < 0 ∨ 4 ≤ Int32.toNatClampNeg y1 then none else if (pX4_within y2 0 ((z.1 19 (Int32.toNatClampNeg y1)) - 1)) = 0 then (sX4_finding (-1000001) z).bind fun q3 => some (some (mm_I q3.1), q3.2) else eX4_write_54 n y1 y2 y3 z) := rfl
set_option maxRecDepth 100000 in
theorem qX4_write_54 (n : Nat)  (y1 : Int32) (y2 : Int32) (y3 : Int32) (z : mm_S) : eX4_write_54 (n + 1) y1 y2 y3 z = (if y1 < 0 ∨ 4 ≤ Int32.toNatClampNeg y1 then none else if ((40 * y1) + y2) < 0 ∨ 160 ≤ Int32.toNatClampNeg ((40 * y1) + y2) then none else let u4 : mm_S := ((mm_ui z.1 20 (Int32.toNatClampNeg ((40 * y1) + y2)) (pX4_cutTo y3 (z.1 18 (Int32.toNatClampNeg y1)))), z.2); eX4_write_75 n  u4) := rfl
set_option maxRecDepth 100000 in
theorem qX4_write_75 (n : Nat)  (z : mm_S) : eX4_write_75 (n + 1)  z = (some (some (mm_I 1), z)) := rfl
def rm_X4_write : Room := { frames := 2, cells := 0, slots := 0, locals := 42 }
noncomputable def f_X4_write (as : List mm_V) (z : mm_S) (o : mm_R) : Prop := (as.map mm_cat).sum ≤ 4 ∧ ∃ n, go_X4_write n 0 (mm_ar 0 as) [] z = some o
theorem M_X4_write : mm_M lyTM lyFA lenM snM 22 22 17 roM rsA nfA nmA [] yX4_write cX4_write 4 (some .int) rm_X4_write f_X4_write :=
  mm_met (rt := 0) (by decide +kernel) ⟨fun h => rfl, fun h => absurd h (by decide), fun h => absurd h (by decide), fun h => absurd h (by decide)⟩ tbX4_write_ok hsnM okFX4 okLX4 (fun _ h => absurd h List.not_mem_nil) (fun _ _ _ _ => rfl) (fun _ _ _ _ => rfl) (List.forall_mem_cons.mpr ⟨sV_X4_finding (Or.inl lk_X4_124) rfl ⟨by decide, by decide⟩, fun _ h => absurd h List.not_mem_nil⟩) (List.forall_mem_cons.mpr ⟨sS_X4_within (Or.inl lk_X4_106) rfl ⟨by decide, by decide⟩, List.forall_mem_cons.mpr ⟨sS_X4_isSheet (Or.inl lk_X4_394) rfl ⟨by decide, by decide⟩, List.forall_mem_cons.mpr ⟨sS_X4_cutTo (Or.inl lk_X4_398) rfl ⟨by decide, by decide⟩, fun _ h => absurd h List.not_mem_nil⟩⟩⟩)
noncomputable def sX4_write_75  (z : mm_S) : Option (Int32 × mm_S) := some (1, z)
theorem kX4_write_75  (z : mm_S) (oo : mm_R) : mm_Xs (sX4_write_75  z) (fun v => (fun v : Int32 × mm_S => ((some (mm_I v.1), v.2) : mm_R)) v = oo) (fun n => eX4_write_75 n  z) oo :=
  xs_row (fun n => qX4_write_75 n z) (xs_v fun hc => ⟨0, congrArg some hc⟩)
noncomputable def sX4_write_54 (y1 : Int32) (y2 : Int32) (y3 : Int32) (z : mm_S) : Option (Int32 × mm_S) := if y1 < 0 ∨ 4 ≤ Int32.toNatClampNeg y1 then none else if ((40 * y1) + y2) < 0 ∨ 160 ≤ Int32.toNatClampNeg ((40 * y1) + y2) then none else let u4 : mm_S := ((mm_ui z.1 20 (Int32.toNatClampNeg ((40 * y1) + y2)) (pX4_cutTo y3 (z.1 18 (Int32.toNatClampNeg y1)))), z.2); (sX4_write_75 u4)
theorem kX4_write_54 (y1 : Int32) (y2 : Int32) (y3 : Int32) (z : mm_S) (oo : mm_R) : mm_Xs (sX4_write_54 y1 y2 y3 z) (fun v => (fun v : Int32 × mm_S => ((some (mm_I v.1), v.2) : mm_R)) v = oo) (fun n => eX4_write_54 n y1 y2 y3 z) oo :=
  xs_row (fun n => qX4_write_54 n y1 y2 y3 z) (xs_if xs_n (xs_if xs_n (xs_let (((mm_ui z.1 20 (Int32.toNatClampNeg ((40 * y1) + y2)) (pX4_cutTo y3 (z.1 18 (Int32.toNatClampNeg y1)))), z.2)) (S := fun (u4 : mm_S) => ((sX4_write_75 u4) : Option (Int32 × mm_S))) (T := fun (u4 : mm_S) n => eX4_write_75 n  u4) (fun u4 => (kX4_write_75 u4 oo)))))
noncomputable def sX4_write_31 (y1 : Int32) (y2 : Int32) (y3 : Int32) (z : mm_S) : Option (Int32 × mm_S) := if y1 < 0 ∨ 4 ≤ Int32.toNatClampNeg y1 then none else if (pX4_within y2 0 ((z.1 19 (Int32.toNatClampNeg y1)) - 1)) = 0 then (sX4_finding (-1000001) z).bind fun q3 => some (q3.1, q3.2) else (sX4_write_54 y1 y2 y3 z)
theorem kX4_write_31 (y1 : Int32) (y2 : Int32) (y3 : Int32) (z : mm_S) (oo : mm_R) : mm_Xs (sX4_write_31 y1 y2 y3 z) (fun v => (fun v : Int32 × mm_S => ((some (mm_I v.1), v.2) : mm_R)) v = oo) (fun n => eX4_write_31 n y1 y2 y3 z) oo :=
  xs_row (fun n => qX4_write_31 n y1 y2 y3 z) (xs_if xs_n (xs_if (xs_bd fun q3 => (xs_v fun hc => ⟨0, congrArg some hc⟩)) (kX4_write_54 y1 y2 y3 z oo)))
noncomputable def sX4_write_14 (y1 : Int32) (y2 : Int32) (y3 : Int32) (z : mm_S) : Option (Int32 × mm_S) := if y1 < 0 ∨ 4 ≤ Int32.toNatClampNeg y1 then none else if (z.1 18 (Int32.toNatClampNeg y1)) = 0 then (sX4_finding (-1000006) z).bind fun q2 => some (q2.1, q2.2) else (sX4_write_31 y1 y2 y3 z)
theorem kX4_write_14 (y1 : Int32) (y2 : Int32) (y3 : Int32) (z : mm_S) (oo : mm_R) : mm_Xs (sX4_write_14 y1 y2 y3 z) (fun v => (fun v : Int32 × mm_S => ((some (mm_I v.1), v.2) : mm_R)) v = oo) (fun n => eX4_write_14 n y1 y2 y3 z) oo :=
  xs_row (fun n => qX4_write_14 n y1 y2 y3 z) (xs_if xs_n (xs_if (xs_bd fun q2 => (xs_v fun hc => ⟨0, congrArg some hc⟩)) (kX4_write_31 y1 y2 y3 z oo)))
noncomputable def sX4_write_0 (x1 : Int32) (x2 : Int32) (x3 : Int32) (z : mm_S) : Option (Int32 × mm_S) := if (pX4_isSheet x1) = 0 then (sX4_finding (-1000001) z).bind fun q1 => some (q1.1, q1.2) else (sX4_write_14 x1 x2 x3 z)
theorem kX4_write_0 (x1 : Int32) (x2 : Int32) (x3 : Int32) (z : mm_S) (oo : mm_R) : mm_Xs (sX4_write_0 x1 x2 x3 z) (fun v => (fun v : Int32 × mm_S => ((some (mm_I v.1), v.2) : mm_R)) v = oo) (fun n => eX4_write_0 n x1 x2 x3 z) oo :=
  xs_row (fun n => qX4_write_0 n x1 x2 x3 z) (xs_if (xs_bd fun q1 => (xs_v fun hc => ⟨0, congrArg some hc⟩)) (kX4_write_14 x1 x2 x3 z oo))
noncomputable def sX4_write (x1 : Int32) (x2 : Int32) (x3 : Int32) (z : mm_S) : Option (Int32 × mm_S) := sX4_write_0 x1 x2 x3 z
theorem sp_X4_write (x1 : Int32) (x2 : Int32) (x3 : Int32) (z : mm_S) (hk : ∀ v ∈ [mm_P 4 0, mm_I x1, mm_I x2, mm_I x3], mm_ok 22 lyTM 22 17 v) (q : Int32 × mm_S) (hq : sX4_write x1 x2 x3 z = some q) : f_X4_write [mm_P 4 0, mm_I x1, mm_I x2, mm_I x3] z (some (mm_I q.1), q.2) := ⟨Nat.le_of_ble_eq_true rfl, kX4_write_0 x1 x2 x3 z _ q hq rfl⟩
noncomputable def clo_X4_write (as : List mm_V) (z : mm_S) (kk : Option mm_V → mm_S → Option mm_R) : Option mm_R := mm_pr as fun t o0 as => bif Nat.beq t 4 then mm_pi as fun a1 as => mm_pi as fun a2 as => mm_pi as fun a3 as => (match as with | [] => (sX4_write a1 a2 a3 z).bind fun q => kk (some (mm_I q.1)) q.2 | _ => none) else none
theorem cs_X4_write : mm_cs lyTM 22 22 17 f_X4_write clo_X4_write := by
  intro as z K o hk h
  obtain ⟨t0, o0, r0, rfl, g0⟩ := mm_pr_e h
  obtain ⟨b0, k0⟩ := mm_bif_e g0
  obtain rfl := Nat.eq_of_beq_eq_true b0
  obtain ⟨a1, r1, rfl, g1⟩ := mm_pi_e k0
  obtain ⟨a2, r2, rfl, g2⟩ := mm_pi_e g1
  obtain ⟨a3, r3, rfl, g3⟩ := mm_pi_e g2
  rcases r3 with _ | ⟨u, w⟩
  rotate_left
  · cases g3
  obtain rfl : o0 = 0 := ok4 (hk (mm_P 4 o0) (by simp))
  obtain ⟨q, hq, hq2⟩ := Option.bind_eq_some_iff.mp g3
  exact ⟨_, _, sp_X4_write a1 a2 a3 z hk q hq, fun v hv => by cases hv; exact Or.inl ⟨_, rfl⟩, hq2⟩
theorem sV_X4_write {own : String} {R : Room} {ar : Nat → Nat} {k : Nat} (hlink : Cond.methodLink own k yX4_write ∈ lw_gd ∨ ∃ host, (own, k, yX4_write, host) ∈ nmA) (har : ar k = 4) (hr : 3 ≤ R.frames ∧ 65 ≤ R.locals) : mm_okV lyTM lyFA lenM snM 22 22 17 roM rsA nfA nmA [] own R ar k clo_X4_write := by
  refine ⟨yX4_write, cX4_write, 4, some .int, rm_X4_write, f_X4_write, 4, 3, (RX4, TX4, 36), M_X4_write, cs_X4_write, hlink, ⟨wv_X4_write, wz_X4_write, wi_X4_write, wc_X4_write⟩, ⟨by decide +kernel, by decide +kernel, by decide +kernel⟩, har, ⟨rfl, rfl, by decide⟩, ?_, ⟨rfl, rfl, hr.1, hr.2⟩⟩
  intro as z K o h
  obtain ⟨t0, o0, r0, rfl, g0⟩ := mm_pr_e h
  obtain ⟨b0, k0⟩ := mm_bif_e g0
  obtain rfl := Nat.eq_of_beq_eq_true b0
  exact ⟨_, _, rfl⟩
-- X4_copy
noncomputable def lV_X4_copy : List (Nat × (List mm_V → mm_S → (Option mm_V → mm_S → Option mm_R) → Option mm_R)) := [(124, clo_X4_finding)]
noncomputable def mV_X4_copy (k : Nat) (as : List mm_V) (z : mm_S) (kk : Option mm_V → mm_S → Option mm_R) : Option mm_R := match mm_at lV_X4_copy k with
  | some f => f as z kk
  | none => none
noncomputable def arV_X4_copy (k : Nat) : Nat := (mm_at [(124, 2)] k).getD 0
noncomputable def lS_X4_copy : List (Nat × (List mm_V → mm_S → (Option mm_V → mm_S → Option mm_R) → Option mm_R)) := [(394, clo_X4_isSheet)]
noncomputable def mS_X4_copy (k : Nat) (as : List mm_V) (z : mm_S) (kk : Option mm_V → mm_S → Option mm_R) : Option mm_R := match mm_at lS_X4_copy k with
  | some f => f as z kk
  | none => none
noncomputable def arS_X4_copy (k : Nat) : Nat := (mm_at [(394, 1)] k).getD 0
def ct_X4_copy : List (Nat × List Nat) := [(21, [0, 1, 2, 3, 4, 5]), (47, [0, 1, 2, 3, 4, 5]), (70, [0, 1, 2, 3, 4, 5]), (126, [0, 1, 2, 3, 4, 5]), (129, [0, 1, 2, 3, 4, 5, 6]), (157, [0, 1, 2, 3, 4, 5, 6]), (166, [0, 3, 4, 5, 6]), (195, [0, 3, 4, 5, 6])]
noncomputable def go_X4_copy : Nat → mm_K := mm_go (fun k => mm_at flX4 k) (fun k => mm_at clX4 k) (fun k => mm_at glX4 k) arV_X4_copy arS_X4_copy mV_X4_copy mS_X4_copy lenM roM snM 7 0 tbX4_copy ct_X4_copy
noncomputable def eX4_copy_0 (n : Nat)  (x1 : Int32) (x2 : Int32) (x3 : Int32) (x4 : Int32) (x5 : Int32) (z : mm_S) : Option mm_R := go_X4_copy n 0 [(0, mm_P 4 0), (1, mm_I x1), (2, mm_I x2), (3, mm_I x3), (4, mm_I x4), (5, mm_I x5)] [] z
noncomputable def eX4_copy_21 (n : Nat)  (y1 : Int32) (y2 : Int32) (y3 : Int32) (y4 : Int32) (y5 : Int32) (z : mm_S) : Option mm_R := go_X4_copy n 21 [(0, mm_P 4 0), (1, mm_I y1), (2, mm_I y2), (3, mm_I y3), (4, mm_I y4), (5, mm_I y5)] [] z
noncomputable def eX4_copy_47 (n : Nat)  (y1 : Int32) (y2 : Int32) (y3 : Int32) (y4 : Int32) (y5 : Int32) (z : mm_S) : Option mm_R := go_X4_copy n 47 [(0, mm_P 4 0), (1, mm_I y1), (2, mm_I y2), (3, mm_I y3), (4, mm_I y4), (5, mm_I y5)] [] z
noncomputable def eX4_copy_70 (n : Nat)  (y1 : Int32) (y2 : Int32) (y3 : Int32) (y4 : Int32) (y5 : Int32) (z : mm_S) : Option mm_R := go_X4_copy n 70 [(0, mm_P 4 0), (1, mm_I y1), (2, mm_I y2), (3, mm_I y3), (4, mm_I y4), (5, mm_I y5)] [] z
noncomputable def eX4_copy_126 (n : Nat)  (y1 : Int32) (y2 : Int32) (y3 : Int32) (y4 : Int32) (y5 : Int32) (z : mm_S) : Option mm_R := go_X4_copy n 126 [(0, mm_P 4 0), (1, mm_I y1), (2, mm_I y2), (3, mm_I y3), (4, mm_I y4), (5, mm_I y5)] [] z
noncomputable def eX4_copy_129 (n : Nat)  (y1 : Int32) (y2 : Int32) (y3 : Int32) (y4 : Int32) (y5 : Int32) (y6 : Int32) (z : mm_S) : Option mm_R := go_X4_copy n 129 [(0, mm_P 4 0), (1, mm_I y1), (2, mm_I y2), (3, mm_I y3), (4, mm_I y4), (5, mm_I y5), (6, mm_I y6)] [] z
noncomputable def eX4_copy_166 (n : Nat)  (y3 : Int32) (y4 : Int32) (y5 : Int32) (y6 : Int32) (z : mm_S) : Option mm_R := go_X4_copy n 166 [(0, mm_P 4 0), (3, mm_I y3), (4, mm_I y4), (5, mm_I y5), (6, mm_I y6)] [] z
noncomputable def eX4_copy_157 (n : Nat)  (y1 : Int32) (y2 : Int32) (y3 : Int32) (y4 : Int32) (y5 : Int32) (y6 : Int32) (z : mm_S) : Option mm_R := go_X4_copy n 157 [(0, mm_P 4 0), (1, mm_I y1), (2, mm_I y2), (3, mm_I y3), (4, mm_I y4), (5, mm_I y5), (6, mm_I y6)] [] z
noncomputable def eX4_copy_195 (n : Nat)  (y3 : Int32) (y4 : Int32) (y5 : Int32) (y6 : Int32) (z : mm_S) : Option mm_R := go_X4_copy n 195 [(0, mm_P 4 0), (3, mm_I y3), (4, mm_I y4), (5, mm_I y5), (6, mm_I y6)] [] z
set_option maxRecDepth 100000 in
theorem qX4_copy_0 (n : Nat)  (x1 : Int32) (x2 : Int32) (x3 : Int32) (x4 : Int32) (x5 : Int32) (z : mm_S) : eX4_copy_0 (n + 1) x1 x2 x3 x4 x5 z = (if (pX4_isSheet x1) = 0 then (sX4_finding (-1000001) z).bind fun q1 => some (some (mm_I q1.1), q1.2) else if (pX4_isSheet x3) = 0 then (sX4_finding (-1000001) z).bind fun q2 => some (some (mm_I q2.1), q2.2) else eX4_copy_21 n x1 x2 x3 x4 x5 z) := rfl
set_option maxRecDepth 100000 in
theorem qX4_copy_21 (n : Nat)  (y1 : Int32) (y2 : Int32) (y3 : Int32) (y4 : Int32) (y5 : Int32) (z : mm_S) : eX4_copy_21 (n + 1) y1 y2 y3 y4 y5 z = (if y1 < 0 ∨ 4 ≤ Int32.toNatClampNeg y1 then none else if (z.1 18 (Int32.toNatClampNeg y1)) = 0 then (sX4_finding (-1000006) z).bind fun q3 => some (some (mm_I q3.1), q3.2) else if y3 < 0 ∨ 4 ≤ Int32.toNatClampNeg y3 then none else if (z.1 18 (Int32.toNatClampNeg y3)) = 0 then (sX4_finding (-1000006) z).bind fun q4 => some (some (mm_I q4.1), q4.2) else eX4_copy_47 n y1 y2 y3 y4 y5 z) := rfl
set_option maxRecDepth 100000 in
theorem qX4_copy_47 (n : Nat)  (y1 : Int32) (y2 : Int32) (y3 : Int32) (y4 : Int32) (y5 : Int32) (z : mm_S) : eX4_copy_47 (n + 1) y1 y2 y3 y4 y5 z = (if y1 < 0 ∨ 4 ≤ Int32.toNatClampNeg y1 then none else if y3 < 0 ∨ 4 ≤ Int32.toNatClampNeg y3 then none else if (z.1 18 (Int32.toNatClampNeg y1)) = (z.1 18 (Int32.toNatClampNeg y3)) then eX4_copy_70 n y1 y2 y3 y4 y5 z else (sX4_finding (-1000003) z).bind fun q5 => some (some (mm_I q5.1), q5.2)) := rfl
set_option maxRecDepth 100000 in
theorem qX4_copy_70 (n : Nat)  (y1 : Int32) (y2 : Int32) (y3 : Int32) (y4 : Int32) (y5 : Int32) (z : mm_S) : eX4_copy_70 (n + 1) y1 y2 y3 y4 y5 z = (if y2 < 0 then (sX4_finding (-1000001) z).bind fun q6 => some (some (mm_I q6.1), q6.2) else if y4 < 0 then (sX4_finding (-1000001) z).bind fun q7 => some (some (mm_I q7.1), q7.2) else if y5 < 0 then (sX4_finding (-1000001) z).bind fun q8 => some (some (mm_I q8.1), q8.2) else if y1 < 0 ∨ 4 ≤ Int32.toNatClampNeg y1 then none else if 0 < (lg_cmp ((Int32.toInt64 y2) + (Int32.toInt64 y5)) (Int32.toInt64 (z.1 19 (Int32.toNatClampNeg y1)))) then (sX4_finding (-1000001) z).bind fun q9 => some (some (mm_I q9.1), q9.2) else if y3 < 0 ∨ 4 ≤ Int32.toNatClampNeg y3 then none else if (lg_cmp ((Int32.toInt64 y4) + (Int32.toInt64 y5)) (Int32.toInt64 (z.1 19 (Int32.toNatClampNeg y3)))) ≤ 0 then eX4_copy_126 n y1 y2 y3 y4 y5 z else (sX4_finding (-1000001) z).bind fun q10 => some (some (mm_I q10.1), q10.2)) := rfl
set_option maxRecDepth 100000 in
theorem qX4_copy_126 (n : Nat)  (y1 : Int32) (y2 : Int32) (y3 : Int32) (y4 : Int32) (y5 : Int32) (z : mm_S) : eX4_copy_126 (n + 1) y1 y2 y3 y4 y5 z = (eX4_copy_129 n y1 y2 y3 y4 y5 0 z) := rfl
set_option maxRecDepth 100000 in
theorem qX4_copy_129 (n : Nat)  (y1 : Int32) (y2 : Int32) (y3 : Int32) (y4 : Int32) (y5 : Int32) (y6 : Int32) (z : mm_S) : eX4_copy_129 (n + 1) y1 y2 y3 y4 y5 y6 z = (if y5 ≤ y6 then eX4_copy_166 n y3 y4 y5 0 z else if (((40 * y1) + y2) + y6) < 0 ∨ 160 ≤ Int32.toNatClampNeg (((40 * y1) + y2) + y6) then none else if y6 < 0 ∨ 40 ≤ Int32.toNatClampNeg y6 then none else let u11 : mm_S := ((mm_ui z.1 21 (Int32.toNatClampNeg y6) (z.1 20 (Int32.toNatClampNeg (((40 * y1) + y2) + y6)))), z.2); eX4_copy_157 n y1 y2 y3 y4 y5 y6 u11) := rfl
set_option maxRecDepth 100000 in
theorem qX4_copy_166 (n : Nat)  (y3 : Int32) (y4 : Int32) (y5 : Int32) (y6 : Int32) (z : mm_S) : eX4_copy_166 (n + 1) y3 y4 y5 y6 z = (if y5 ≤ y6 then some (some (mm_I y5), z) else if y6 < 0 ∨ 40 ≤ Int32.toNatClampNeg y6 then none else if (((40 * y3) + y4) + y6) < 0 ∨ 160 ≤ Int32.toNatClampNeg (((40 * y3) + y4) + y6) then none else let u12 : mm_S := ((mm_ui z.1 20 (Int32.toNatClampNeg (((40 * y3) + y4) + y6)) (z.1 21 (Int32.toNatClampNeg y6))), z.2); eX4_copy_195 n y3 y4 y5 y6 u12) := rfl
set_option maxRecDepth 100000 in
theorem qX4_copy_157 (n : Nat)  (y1 : Int32) (y2 : Int32) (y3 : Int32) (y4 : Int32) (y5 : Int32) (y6 : Int32) (z : mm_S) : eX4_copy_157 (n + 1) y1 y2 y3 y4 y5 y6 z = (eX4_copy_129 n y1 y2 y3 y4 y5 (y6 + 1) z) := rfl
set_option maxRecDepth 100000 in
theorem qX4_copy_195 (n : Nat)  (y3 : Int32) (y4 : Int32) (y5 : Int32) (y6 : Int32) (z : mm_S) : eX4_copy_195 (n + 1) y3 y4 y5 y6 z = (eX4_copy_166 n y3 y4 y5 (y6 + 1) z) := rfl
def rm_X4_copy : Room := { frames := 2, cells := 0, slots := 0, locals := 42 }
noncomputable def f_X4_copy (as : List mm_V) (z : mm_S) (o : mm_R) : Prop := (as.map mm_cat).sum ≤ 7 ∧ ∃ n, go_X4_copy n 0 (mm_ar 0 as) [] z = some o
theorem M_X4_copy : mm_M lyTM lyFA lenM snM 22 22 17 roM rsA nfA nmA [] yX4_copy cX4_copy 7 (some .int) rm_X4_copy f_X4_copy :=
  mm_met (rt := 0) (by decide +kernel) ⟨fun h => rfl, fun h => absurd h (by decide), fun h => absurd h (by decide), fun h => absurd h (by decide)⟩ tbX4_copy_ok hsnM okFX4 okLX4 (fun _ h => absurd h List.not_mem_nil) (fun _ _ _ _ => rfl) (fun _ _ _ _ => rfl) (List.forall_mem_cons.mpr ⟨sV_X4_finding (Or.inl lk_X4_124) rfl ⟨by decide, by decide⟩, fun _ h => absurd h List.not_mem_nil⟩) (List.forall_mem_cons.mpr ⟨sS_X4_isSheet (Or.inl lk_X4_394) rfl ⟨by decide, by decide⟩, fun _ h => absurd h List.not_mem_nil⟩)
noncomputable def sX4_copy_157 (y1 : Int32) (y2 : Int32) (y3 : Int32) (y4 : Int32) (y5 : Int32) (y6 : Int32) (z : mm_S) : Option ((Int32 × Int32 × Int32 × Int32 × Int32 × Int32 × mm_S) ⊕ (Int32 × mm_S)) := some (.inl (y1, y2, y3, y4, y5, (y6 + 1), z))
theorem kX4_copy_157 (y1 : Int32) (y2 : Int32) (y3 : Int32) (y4 : Int32) (y5 : Int32) (y6 : Int32) (z : mm_S) (oo : mm_R) : mm_Xs (sX4_copy_157 y1 y2 y3 y4 y5 y6 z) (mm_mt (fun x : Int32 × Int32 × Int32 × Int32 × Int32 × Int32 × mm_S => ∃ n, eX4_copy_129 n x.1 x.2.1 x.2.2.1 x.2.2.2.1 x.2.2.2.2.1 x.2.2.2.2.2.1 x.2.2.2.2.2.2 = some oo) (fun v => (fun v : Int32 × mm_S => ((some (mm_I v.1), v.2) : mm_R)) v = oo)) (fun n => eX4_copy_157 n y1 y2 y3 y4 y5 y6 z) oo :=
  xs_row (fun n => qX4_copy_157 n y1 y2 y3 y4 y5 y6 z) (xs_v fun hc => hc)
noncomputable def sX4_copy_195 (y3 : Int32) (y4 : Int32) (y5 : Int32) (y6 : Int32) (z : mm_S) : Option ((Int32 × Int32 × Int32 × Int32 × mm_S) ⊕ (Int32 × mm_S)) := some (.inl (y3, y4, y5, (y6 + 1), z))
theorem kX4_copy_195 (y3 : Int32) (y4 : Int32) (y5 : Int32) (y6 : Int32) (z : mm_S) (oo : mm_R) : mm_Xs (sX4_copy_195 y3 y4 y5 y6 z) (mm_mt (fun x : Int32 × Int32 × Int32 × Int32 × mm_S => ∃ n, eX4_copy_166 n x.1 x.2.1 x.2.2.1 x.2.2.2.1 x.2.2.2.2 = some oo) (fun v => (fun v : Int32 × mm_S => ((some (mm_I v.1), v.2) : mm_R)) v = oo)) (fun n => eX4_copy_195 n y3 y4 y5 y6 z) oo :=
  xs_row (fun n => qX4_copy_195 n y3 y4 y5 y6 z) (xs_v fun hc => hc)
noncomputable def lX4_copy_166 (s : Int32 × Int32 × Int32 × Int32 × mm_S) : Option ((Int32 × Int32 × Int32 × Int32 × mm_S) ⊕ (Int32 × mm_S)) := if s.2.2.1 ≤ s.2.2.2.1 then some (.inr (s.2.2.1, s.2.2.2.2)) else if s.2.2.2.1 < 0 ∨ 40 ≤ Int32.toNatClampNeg s.2.2.2.1 then none else if (((40 * s.1) + s.2.1) + s.2.2.2.1) < 0 ∨ 160 ≤ Int32.toNatClampNeg (((40 * s.1) + s.2.1) + s.2.2.2.1) then none else let u12 : mm_S := ((mm_ui s.2.2.2.2.1 20 (Int32.toNatClampNeg (((40 * s.1) + s.2.1) + s.2.2.2.1)) (s.2.2.2.2.1 21 (Int32.toNatClampNeg s.2.2.2.1))), s.2.2.2.2.2); (sX4_copy_195 s.1 s.2.1 s.2.2.1 s.2.2.2.1 u12)
noncomputable def sX4_copy_166 (y3 : Int32) (y4 : Int32) (y5 : Int32) (y6 : Int32) (z : mm_S) : Option (Int32 × mm_S) := mm_wh (lX4_copy_166 ) mm_fu (y3, y4, y5, y6, z)
theorem kX4_copy_166 (y3 : Int32) (y4 : Int32) (y5 : Int32) (y6 : Int32) (z : mm_S) (oo : mm_R) : mm_Xs (sX4_copy_166 y3 y4 y5 y6 z) (fun v => (fun v : Int32 × mm_S => ((some (mm_I v.1), v.2) : mm_R)) v = oo) (fun n => eX4_copy_166 n y3 y4 y5 y6 z) oo :=
  xs_wh (stp := lX4_copy_166 ) (o := oo) (E := (fun (s : Int32 × Int32 × Int32 × Int32 × mm_S) n => eX4_copy_166 n s.1 s.2.1 s.2.2.1 s.2.2.2.1 s.2.2.2.2)) (C := (fun v => (fun v : Int32 × mm_S => ((some (mm_I v.1), v.2) : mm_R)) v = oo)) (fun s => xs_row (fun n => qX4_copy_166 n s.1 s.2.1 s.2.2.1 s.2.2.2.1 s.2.2.2.2) (xs_if (xs_v fun hc => ⟨0, congrArg some hc⟩) (xs_if xs_n (xs_if xs_n (xs_let (((mm_ui s.2.2.2.2.1 20 (Int32.toNatClampNeg (((40 * s.1) + s.2.1) + s.2.2.2.1)) (s.2.2.2.2.1 21 (Int32.toNatClampNeg s.2.2.2.1))), s.2.2.2.2.2)) (S := fun (u12 : mm_S) => ((sX4_copy_195 s.1 s.2.1 s.2.2.1 s.2.2.2.1 u12) : Option ((Int32 × Int32 × Int32 × Int32 × mm_S) ⊕ (Int32 × mm_S)))) (T := fun (u12 : mm_S) n => eX4_copy_195 n s.1 s.2.1 s.2.2.1 s.2.2.2.1 u12) (fun u12 => (kX4_copy_195 s.1 s.2.1 s.2.2.1 s.2.2.2.1 u12 oo))))))) mm_fu (y3, y4, y5, y6, z)
noncomputable def lX4_copy_129 (s : Int32 × Int32 × Int32 × Int32 × Int32 × Int32 × mm_S) : Option ((Int32 × Int32 × Int32 × Int32 × Int32 × Int32 × mm_S) ⊕ (Int32 × mm_S)) := if s.2.2.2.2.1 ≤ s.2.2.2.2.2.1 then ((sX4_copy_166 s.2.2.1 s.2.2.2.1 s.2.2.2.2.1 0 s.2.2.2.2.2.2).map fun w => (Sum.inr w)) else if (((40 * s.1) + s.2.1) + s.2.2.2.2.2.1) < 0 ∨ 160 ≤ Int32.toNatClampNeg (((40 * s.1) + s.2.1) + s.2.2.2.2.2.1) then none else if s.2.2.2.2.2.1 < 0 ∨ 40 ≤ Int32.toNatClampNeg s.2.2.2.2.2.1 then none else let u11 : mm_S := ((mm_ui s.2.2.2.2.2.2.1 21 (Int32.toNatClampNeg s.2.2.2.2.2.1) (s.2.2.2.2.2.2.1 20 (Int32.toNatClampNeg (((40 * s.1) + s.2.1) + s.2.2.2.2.2.1)))), s.2.2.2.2.2.2.2); (sX4_copy_157 s.1 s.2.1 s.2.2.1 s.2.2.2.1 s.2.2.2.2.1 s.2.2.2.2.2.1 u11)
noncomputable def sX4_copy_129 (y1 : Int32) (y2 : Int32) (y3 : Int32) (y4 : Int32) (y5 : Int32) (y6 : Int32) (z : mm_S) : Option (Int32 × mm_S) := mm_wh (lX4_copy_129 ) mm_fu (y1, y2, y3, y4, y5, y6, z)
theorem kX4_copy_129 (y1 : Int32) (y2 : Int32) (y3 : Int32) (y4 : Int32) (y5 : Int32) (y6 : Int32) (z : mm_S) (oo : mm_R) : mm_Xs (sX4_copy_129 y1 y2 y3 y4 y5 y6 z) (fun v => (fun v : Int32 × mm_S => ((some (mm_I v.1), v.2) : mm_R)) v = oo) (fun n => eX4_copy_129 n y1 y2 y3 y4 y5 y6 z) oo :=
  xs_wh (stp := lX4_copy_129 ) (o := oo) (E := (fun (s : Int32 × Int32 × Int32 × Int32 × Int32 × Int32 × mm_S) n => eX4_copy_129 n s.1 s.2.1 s.2.2.1 s.2.2.2.1 s.2.2.2.2.1 s.2.2.2.2.2.1 s.2.2.2.2.2.2)) (C := (fun v => (fun v : Int32 × mm_S => ((some (mm_I v.1), v.2) : mm_R)) v = oo)) (fun s => xs_row (fun n => qX4_copy_129 n s.1 s.2.1 s.2.2.1 s.2.2.2.1 s.2.2.2.2.1 s.2.2.2.2.2.1 s.2.2.2.2.2.2) (xs_if (xs_map (f := fun w => (Sum.inr w)) (kX4_copy_166 s.2.2.1 s.2.2.2.1 s.2.2.2.2.1 0 s.2.2.2.2.2.2 oo) (fun _ h => h)) (xs_if xs_n (xs_if xs_n (xs_let (((mm_ui s.2.2.2.2.2.2.1 21 (Int32.toNatClampNeg s.2.2.2.2.2.1) (s.2.2.2.2.2.2.1 20 (Int32.toNatClampNeg (((40 * s.1) + s.2.1) + s.2.2.2.2.2.1)))), s.2.2.2.2.2.2.2)) (S := fun (u11 : mm_S) => ((sX4_copy_157 s.1 s.2.1 s.2.2.1 s.2.2.2.1 s.2.2.2.2.1 s.2.2.2.2.2.1 u11) : Option ((Int32 × Int32 × Int32 × Int32 × Int32 × Int32 × mm_S) ⊕ (Int32 × mm_S)))) (T := fun (u11 : mm_S) n => eX4_copy_157 n s.1 s.2.1 s.2.2.1 s.2.2.2.1 s.2.2.2.2.1 s.2.2.2.2.2.1 u11) (fun u11 => (kX4_copy_157 s.1 s.2.1 s.2.2.1 s.2.2.2.1 s.2.2.2.2.1 s.2.2.2.2.2.1 u11 oo))))))) mm_fu (y1, y2, y3, y4, y5, y6, z)
noncomputable def sX4_copy_126 (y1 : Int32) (y2 : Int32) (y3 : Int32) (y4 : Int32) (y5 : Int32) (z : mm_S) : Option (Int32 × mm_S) := (sX4_copy_129 y1 y2 y3 y4 y5 0 z)
theorem kX4_copy_126 (y1 : Int32) (y2 : Int32) (y3 : Int32) (y4 : Int32) (y5 : Int32) (z : mm_S) (oo : mm_R) : mm_Xs (sX4_copy_126 y1 y2 y3 y4 y5 z) (fun v => (fun v : Int32 × mm_S => ((some (mm_I v.1), v.2) : mm_R)) v = oo) (fun n => eX4_copy_126 n y1 y2 y3 y4 y5 z) oo :=
  xs_row (fun n => qX4_copy_126 n y1 y2 y3 y4 y5 z) (kX4_copy_129 y1 y2 y3 y4 y5 0 z oo)
noncomputable def sX4_copy_70 (y1 : Int32) (y2 : Int32) (y3 : Int32) (y4 : Int32) (y5 : Int32) (z : mm_S) : Option (Int32 × mm_S) := if y2 < 0 then (sX4_finding (-1000001) z).bind fun q6 => some (q6.1, q6.2) else if y4 < 0 then (sX4_finding (-1000001) z).bind fun q7 => some (q7.1, q7.2) else if y5 < 0 then (sX4_finding (-1000001) z).bind fun q8 => some (q8.1, q8.2) else if y1 < 0 ∨ 4 ≤ Int32.toNatClampNeg y1 then none else if 0 < (lg_cmp ((Int32.toInt64 y2) + (Int32.toInt64 y5)) (Int32.toInt64 (z.1 19 (Int32.toNatClampNeg y1)))) then (sX4_finding (-1000001) z).bind fun q9 => some (q9.1, q9.2) else if y3 < 0 ∨ 4 ≤ Int32.toNatClampNeg y3 then none else if (lg_cmp ((Int32.toInt64 y4) + (Int32.toInt64 y5)) (Int32.toInt64 (z.1 19 (Int32.toNatClampNeg y3)))) ≤ 0 then (sX4_copy_126 y1 y2 y3 y4 y5 z) else (sX4_finding (-1000001) z).bind fun q10 => some (q10.1, q10.2)
theorem kX4_copy_70 (y1 : Int32) (y2 : Int32) (y3 : Int32) (y4 : Int32) (y5 : Int32) (z : mm_S) (oo : mm_R) : mm_Xs (sX4_copy_70 y1 y2 y3 y4 y5 z) (fun v => (fun v : Int32 × mm_S => ((some (mm_I v.1), v.2) : mm_R)) v = oo) (fun n => eX4_copy_70 n y1 y2 y3 y4 y5 z) oo :=
  xs_row (fun n => qX4_copy_70 n y1 y2 y3 y4 y5 z) (xs_if (xs_bd fun q6 => (xs_v fun hc => ⟨0, congrArg some hc⟩)) (xs_if (xs_bd fun q7 => (xs_v fun hc => ⟨0, congrArg some hc⟩)) (xs_if (xs_bd fun q8 => (xs_v fun hc => ⟨0, congrArg some hc⟩)) (xs_if xs_n (xs_if (xs_bd fun q9 => (xs_v fun hc => ⟨0, congrArg some hc⟩)) (xs_if xs_n (xs_if (kX4_copy_126 y1 y2 y3 y4 y5 z oo) (xs_bd fun q10 => (xs_v fun hc => ⟨0, congrArg some hc⟩)))))))))
noncomputable def sX4_copy_47 (y1 : Int32) (y2 : Int32) (y3 : Int32) (y4 : Int32) (y5 : Int32) (z : mm_S) : Option (Int32 × mm_S) := if y1 < 0 ∨ 4 ≤ Int32.toNatClampNeg y1 then none else if y3 < 0 ∨ 4 ≤ Int32.toNatClampNeg y3 then none else if (z.1 18 (Int32.toNatClampNeg y1)) = (z.1 18 (Int32.toNatClampNeg y3)) then (sX4_copy_70 y1 y2 y3 y4 y5 z) else (sX4_finding (-1000003) z).bind fun q5 => some (q5.1, q5.2)
theorem kX4_copy_47 (y1 : Int32) (y2 : Int32) (y3 : Int32) (y4 : Int32) (y5 : Int32) (z : mm_S) (oo : mm_R) : mm_Xs (sX4_copy_47 y1 y2 y3 y4 y5 z) (fun v => (fun v : Int32 × mm_S => ((some (mm_I v.1), v.2) : mm_R)) v = oo) (fun n => eX4_copy_47 n y1 y2 y3 y4 y5 z) oo :=
  xs_row (fun n => qX4_copy_47 n y1 y2 y3 y4 y5 z) (xs_if xs_n (xs_if xs_n (xs_if (kX4_copy_70 y1 y2 y3 y4 y5 z oo) (xs_bd fun q5 => (xs_v fun hc => ⟨0, congrArg some hc⟩)))))
noncomputable def sX4_copy_21 (y1 : Int32) (y2 : Int32) (y3 : Int32) (y4 : Int32) (y5 : Int32) (z : mm_S) : Option (Int32 × mm_S) := if y1 < 0 ∨ 4 ≤ Int32.toNatClampNeg y1 then none else if (z.1 18 (Int32.toNatClampNeg y1)) = 0 then (sX4_finding (-1000006) z).bind fun q3 => some (q3.1, q3.2) else if y3 < 0 ∨ 4 ≤ Int32.toNatClampNeg y3 then none else if (z.1 18 (Int32.toNatClampNeg y3)) = 0 then (sX4_finding (-1000006) z).bind fun q4 => some (q4.1, q4.2) else (sX4_copy_47 y1 y2 y3 y4 y5 z)
theorem kX4_copy_21 (y1 : Int32) (y2 : Int32) (y3 : Int32) (y4 : Int32) (y5 : Int32) (z : mm_S) (oo : mm_R) : mm_Xs (sX4_copy_21 y1 y2 y3 y4 y5 z) (fun v => (fun v : Int32 × mm_S => ((some (mm_I v.1), v.2) : mm_R)) v = oo) (fun n => eX4_copy_21 n y1 y2 y3 y4 y5 z) oo :=
  xs_row (fun n => qX4_copy_21 n y1 y2 y3 y4 y5 z) (xs_if xs_n (xs_if (xs_bd fun q3 => (xs_v fun hc => ⟨0, congrArg some hc⟩)) (xs_if xs_n (xs_if (xs_bd fun q4 => (xs_v fun hc => ⟨0, congrArg some hc⟩)) (kX4_copy_47 y1 y2 y3 y4 y5 z oo)))))
noncomputable def sX4_copy_0 (x1 : Int32) (x2 : Int32) (x3 : Int32) (x4 : Int32) (x5 : Int32) (z : mm_S) : Option (Int32 × mm_S) := if (pX4_isSheet x1) = 0 then (sX4_finding (-1000001) z).bind fun q1 => some (q1.1, q1.2) else if (pX4_isSheet x3) = 0 then (sX4_finding (-1000001) z).bind fun q2 => some (q2.1, q2.2) else (sX4_copy_21 x1 x2 x3 x4 x5 z)
theorem kX4_copy_0 (x1 : Int32) (x2 : Int32) (x3 : Int32) (x4 : Int32) (x5 : Int32) (z : mm_S) (oo : mm_R) : mm_Xs (sX4_copy_0 x1 x2 x3 x4 x5 z) (fun v => (fun v : Int32 × mm_S => ((some (mm_I v.1), v.2) : mm_R)) v = oo) (fun n => eX4_copy_0 n x1 x2 x3 x4 x5 z) oo :=
  xs_row (fun n => qX4_copy_0 n x1 x2 x3 x4 x5 z) (xs_if (xs_bd fun q1 => (xs_v fun hc => ⟨0, congrArg some hc⟩)) (xs_if (xs_bd fun q2 => (xs_v fun hc => ⟨0, congrArg some hc⟩)) (kX4_copy_21 x1 x2 x3 x4 x5 z oo)))
noncomputable def sX4_copy (x1 : Int32) (x2 : Int32) (x3 : Int32) (x4 : Int32) (x5 : Int32) (z : mm_S) : Option (Int32 × mm_S) := sX4_copy_0 x1 x2 x3 x4 x5 z
theorem sp_X4_copy (x1 : Int32) (x2 : Int32) (x3 : Int32) (x4 : Int32) (x5 : Int32) (z : mm_S) (hk : ∀ v ∈ [mm_P 4 0, mm_I x1, mm_I x2, mm_I x3, mm_I x4, mm_I x5], mm_ok 22 lyTM 22 17 v) (q : Int32 × mm_S) (hq : sX4_copy x1 x2 x3 x4 x5 z = some q) : f_X4_copy [mm_P 4 0, mm_I x1, mm_I x2, mm_I x3, mm_I x4, mm_I x5] z (some (mm_I q.1), q.2) := ⟨Nat.le_of_ble_eq_true rfl, kX4_copy_0 x1 x2 x3 x4 x5 z _ q hq rfl⟩
noncomputable def clo_X4_copy (as : List mm_V) (z : mm_S) (kk : Option mm_V → mm_S → Option mm_R) : Option mm_R := mm_pr as fun t o0 as => bif Nat.beq t 4 then mm_pi as fun a1 as => mm_pi as fun a2 as => mm_pi as fun a3 as => mm_pi as fun a4 as => mm_pi as fun a5 as => (match as with | [] => (sX4_copy a1 a2 a3 a4 a5 z).bind fun q => kk (some (mm_I q.1)) q.2 | _ => none) else none
theorem cs_X4_copy : mm_cs lyTM 22 22 17 f_X4_copy clo_X4_copy := by
  intro as z K o hk h
  obtain ⟨t0, o0, r0, rfl, g0⟩ := mm_pr_e h
  obtain ⟨b0, k0⟩ := mm_bif_e g0
  obtain rfl := Nat.eq_of_beq_eq_true b0
  obtain ⟨a1, r1, rfl, g1⟩ := mm_pi_e k0
  obtain ⟨a2, r2, rfl, g2⟩ := mm_pi_e g1
  obtain ⟨a3, r3, rfl, g3⟩ := mm_pi_e g2
  obtain ⟨a4, r4, rfl, g4⟩ := mm_pi_e g3
  obtain ⟨a5, r5, rfl, g5⟩ := mm_pi_e g4
  rcases r5 with _ | ⟨u, w⟩
  rotate_left
  · cases g5
  obtain rfl : o0 = 0 := ok4 (hk (mm_P 4 o0) (by simp))
  obtain ⟨q, hq, hq2⟩ := Option.bind_eq_some_iff.mp g5
  exact ⟨_, _, sp_X4_copy a1 a2 a3 a4 a5 z hk q hq, fun v hv => by cases hv; exact Or.inl ⟨_, rfl⟩, hq2⟩
theorem sV_X4_copy {own : String} {R : Room} {ar : Nat → Nat} {k : Nat} (hlink : Cond.methodLink own k yX4_copy ∈ lw_gd ∨ ∃ host, (own, k, yX4_copy, host) ∈ nmA) (har : ar k = 6) (hr : 3 ≤ R.frames ∧ 68 ≤ R.locals) : mm_okV lyTM lyFA lenM snM 22 22 17 roM rsA nfA nmA [] own R ar k clo_X4_copy := by
  refine ⟨yX4_copy, cX4_copy, 7, some .int, rm_X4_copy, f_X4_copy, 4, 5, (RX4, TX4, 36), M_X4_copy, cs_X4_copy, hlink, ⟨wv_X4_copy, wz_X4_copy, wi_X4_copy, wc_X4_copy⟩, ⟨by decide +kernel, by decide +kernel, by decide +kernel⟩, har, ⟨rfl, rfl, by decide⟩, ?_, ⟨rfl, rfl, hr.1, hr.2⟩⟩
  intro as z K o h
  obtain ⟨t0, o0, r0, rfl, g0⟩ := mm_pr_e h
  obtain ⟨b0, k0⟩ := mm_bif_e g0
  obtain rfl := Nat.eq_of_beq_eq_true b0
  exact ⟨_, _, rfl⟩
-- X4_load
noncomputable def lV_X4_load : List (Nat × (List mm_V → mm_S → (Option mm_V → mm_S → Option mm_R) → Option mm_R)) := [(124, clo_X4_finding)]
noncomputable def mV_X4_load (k : Nat) (as : List mm_V) (z : mm_S) (kk : Option mm_V → mm_S → Option mm_R) : Option mm_R := match mm_at lV_X4_load k with
  | some f => f as z kk
  | none => none
noncomputable def arV_X4_load (k : Nat) : Nat := (mm_at [(124, 2)] k).getD 0
noncomputable def lS_X4_load : List (Nat × (List mm_V → mm_S → (Option mm_V → mm_S → Option mm_R) → Option mm_R)) := [(114, clo_X4_isCell), (118, clo_X4_isStuff), (394, clo_X4_isSheet)]
noncomputable def mS_X4_load (k : Nat) (as : List mm_V) (z : mm_S) (kk : Option mm_V → mm_S → Option mm_R) : Option mm_R := match mm_at lS_X4_load k with
  | some f => f as z kk
  | none => none
noncomputable def arS_X4_load (k : Nat) : Nat := (mm_at [(114, 1), (118, 1), (394, 1)] k).getD 0
def ct_X4_load : List (Nat × List Nat) := [(14, [0, 1]), (31, [0, 1]), (33, [0, 1, 2]), (87, [0, 1, 2])]
noncomputable def go_X4_load : Nat → mm_K := mm_go (fun k => mm_at flX4 k) (fun k => mm_at clX4 k) (fun k => mm_at glX4 k) arV_X4_load arS_X4_load mV_X4_load mS_X4_load lenM roM snM 3 0 tbX4_load ct_X4_load
noncomputable def eX4_load_0 (n : Nat)  (x1 : Int32) (z : mm_S) : Option mm_R := go_X4_load n 0 [(0, mm_P 4 0), (1, mm_I x1)] [] z
noncomputable def eX4_load_14 (n : Nat)  (y1 : Int32) (z : mm_S) : Option mm_R := go_X4_load n 14 [(0, mm_P 4 0), (1, mm_I y1)] [] z
noncomputable def eX4_load_31 (n : Nat)  (y1 : Int32) (z : mm_S) : Option mm_R := go_X4_load n 31 [(0, mm_P 4 0), (1, mm_I y1)] [] z
noncomputable def eX4_load_33 (n : Nat)  (y1 : Int32) (y2 : Int32) (z : mm_S) : Option mm_R := go_X4_load n 33 [(0, mm_P 4 0), (1, mm_I y1), (2, mm_I y2)] [] z
noncomputable def eX4_load_87 (n : Nat)  (y1 : Int32) (y2 : Int32) (z : mm_S) : Option mm_R := go_X4_load n 87 [(0, mm_P 4 0), (1, mm_I y1), (2, mm_I y2)] [] z
set_option maxRecDepth 100000 in
theorem qX4_load_0 (n : Nat)  (x1 : Int32) (z : mm_S) : eX4_load_0 (n + 1) x1 z = (if (pX4_isSheet x1) = 0 then (sX4_finding (-1000001) z).bind fun q1 => some (some (mm_I q1.1), q1.2) else eX4_load_14 n x1 z) := rfl
set_option maxRecDepth 100000 in
theorem qX4_load_14 (n : Nat)  (y1 : Int32) (z : mm_S) : eX4_load_14 (n + 1) y1 z = (if y1 < 0 ∨ 4 ≤ Int32.toNatClampNeg y1 then none else if (z.1 18 (Int32.toNatClampNeg y1)) = 0 then (sX4_finding (-1000006) z).bind fun q2 => some (some (mm_I q2.1), q2.2) else eX4_load_31 n y1 z) := rfl
set_option maxRecDepth 100000 in
theorem qX4_load_31 (n : Nat)  (y1 : Int32) (z : mm_S) : eX4_load_31 (n + 1) y1 z = (eX4_load_33 n y1 0 z) := rfl
set_option maxRecDepth 100000 in
theorem qX4_load_33 (n : Nat)  (y1 : Int32) (y2 : Int32) (z : mm_S) : eX4_load_33 (n + 1) y1 y2 z = (if y1 < 0 ∨ 4 ≤ Int32.toNatClampNeg y1 then none else if (z.1 19 (Int32.toNatClampNeg y1)) ≤ y2 then some (some (mm_I y2), z) else if (pX4_isCell y2) = 0 then some (some (mm_I y2), z) else if ((40 * y1) + y2) < 0 ∨ 160 ≤ Int32.toNatClampNeg ((40 * y1) + y2) then none else if (pX4_isStuff (z.1 20 (Int32.toNatClampNeg ((40 * y1) + y2)))) = 0 then some (some (mm_I y2), z) else if ((40 * y1) + y2) < 0 ∨ 160 ≤ Int32.toNatClampNeg ((40 * y1) + y2) then none else if (15 + y2) < 0 ∨ 97 ≤ Int32.toNatClampNeg (15 + y2) then none else let u3 : mm_S := ((mm_ui z.1 1 (Int32.toNatClampNeg (15 + y2)) (z.1 20 (Int32.toNatClampNeg ((40 * y1) + y2)))), z.2); eX4_load_87 n y1 y2 u3) := rfl
set_option maxRecDepth 100000 in
theorem qX4_load_87 (n : Nat)  (y1 : Int32) (y2 : Int32) (z : mm_S) : eX4_load_87 (n + 1) y1 y2 z = (eX4_load_33 n y1 (y2 + 1) z) := rfl
def rm_X4_load : Room := { frames := 2, cells := 0, slots := 0, locals := 42 }
noncomputable def f_X4_load (as : List mm_V) (z : mm_S) (o : mm_R) : Prop := (as.map mm_cat).sum ≤ 3 ∧ ∃ n, go_X4_load n 0 (mm_ar 0 as) [] z = some o
theorem M_X4_load : mm_M lyTM lyFA lenM snM 22 22 17 roM rsA nfA nmA [] yX4_load cX4_load 3 (some .int) rm_X4_load f_X4_load :=
  mm_met (rt := 0) (by decide +kernel) ⟨fun h => rfl, fun h => absurd h (by decide), fun h => absurd h (by decide), fun h => absurd h (by decide)⟩ tbX4_load_ok hsnM okFX4 okLX4 (fun _ h => absurd h List.not_mem_nil) (fun _ _ _ _ => rfl) (fun _ _ _ _ => rfl) (List.forall_mem_cons.mpr ⟨sV_X4_finding (Or.inl lk_X4_124) rfl ⟨by decide, by decide⟩, fun _ h => absurd h List.not_mem_nil⟩) (List.forall_mem_cons.mpr ⟨sS_X4_isCell (Or.inl lk_X4_114) rfl ⟨by decide, by decide⟩, List.forall_mem_cons.mpr ⟨sS_X4_isStuff (Or.inl lk_X4_118) rfl ⟨by decide, by decide⟩, List.forall_mem_cons.mpr ⟨sS_X4_isSheet (Or.inl lk_X4_394) rfl ⟨by decide, by decide⟩, fun _ h => absurd h List.not_mem_nil⟩⟩⟩)
noncomputable def sX4_load_87 (y1 : Int32) (y2 : Int32) (z : mm_S) : Option ((Int32 × Int32 × mm_S) ⊕ (Int32 × mm_S)) := some (.inl (y1, (y2 + 1), z))
theorem kX4_load_87 (y1 : Int32) (y2 : Int32) (z : mm_S) (oo : mm_R) : mm_Xs (sX4_load_87 y1 y2 z) (mm_mt (fun x : Int32 × Int32 × mm_S => ∃ n, eX4_load_33 n x.1 x.2.1 x.2.2 = some oo) (fun v => (fun v : Int32 × mm_S => ((some (mm_I v.1), v.2) : mm_R)) v = oo)) (fun n => eX4_load_87 n y1 y2 z) oo :=
  xs_row (fun n => qX4_load_87 n y1 y2 z) (xs_v fun hc => hc)
noncomputable def lX4_load_33 (s : Int32 × Int32 × mm_S) : Option ((Int32 × Int32 × mm_S) ⊕ (Int32 × mm_S)) := if s.1 < 0 ∨ 4 ≤ Int32.toNatClampNeg s.1 then none else if (s.2.2.1 19 (Int32.toNatClampNeg s.1)) ≤ s.2.1 then some (.inr (s.2.1, s.2.2)) else if (pX4_isCell s.2.1) = 0 then some (.inr (s.2.1, s.2.2)) else if ((40 * s.1) + s.2.1) < 0 ∨ 160 ≤ Int32.toNatClampNeg ((40 * s.1) + s.2.1) then none else if (pX4_isStuff (s.2.2.1 20 (Int32.toNatClampNeg ((40 * s.1) + s.2.1)))) = 0 then some (.inr (s.2.1, s.2.2)) else if ((40 * s.1) + s.2.1) < 0 ∨ 160 ≤ Int32.toNatClampNeg ((40 * s.1) + s.2.1) then none else if (15 + s.2.1) < 0 ∨ 97 ≤ Int32.toNatClampNeg (15 + s.2.1) then none else let u3 : mm_S := ((mm_ui s.2.2.1 1 (Int32.toNatClampNeg (15 + s.2.1)) (s.2.2.1 20 (Int32.toNatClampNeg ((40 * s.1) + s.2.1)))), s.2.2.2); (sX4_load_87 s.1 s.2.1 u3)
noncomputable def sX4_load_33 (y1 : Int32) (y2 : Int32) (z : mm_S) : Option (Int32 × mm_S) := mm_wh (lX4_load_33 ) mm_fu (y1, y2, z)
theorem kX4_load_33 (y1 : Int32) (y2 : Int32) (z : mm_S) (oo : mm_R) : mm_Xs (sX4_load_33 y1 y2 z) (fun v => (fun v : Int32 × mm_S => ((some (mm_I v.1), v.2) : mm_R)) v = oo) (fun n => eX4_load_33 n y1 y2 z) oo :=
  xs_wh (stp := lX4_load_33 ) (o := oo) (E := (fun (s : Int32 × Int32 × mm_S) n => eX4_load_33 n s.1 s.2.1 s.2.2)) (C := (fun v => (fun v : Int32 × mm_S => ((some (mm_I v.1), v.2) : mm_R)) v = oo)) (fun s => xs_row (fun n => qX4_load_33 n s.1 s.2.1 s.2.2) (xs_if xs_n (xs_if (xs_v fun hc => ⟨0, congrArg some hc⟩) (xs_if (xs_v fun hc => ⟨0, congrArg some hc⟩) (xs_if xs_n (xs_if (xs_v fun hc => ⟨0, congrArg some hc⟩) (xs_if xs_n (xs_if xs_n (xs_let (((mm_ui s.2.2.1 1 (Int32.toNatClampNeg (15 + s.2.1)) (s.2.2.1 20 (Int32.toNatClampNeg ((40 * s.1) + s.2.1)))), s.2.2.2)) (S := fun (u3 : mm_S) => ((sX4_load_87 s.1 s.2.1 u3) : Option ((Int32 × Int32 × mm_S) ⊕ (Int32 × mm_S)))) (T := fun (u3 : mm_S) n => eX4_load_87 n s.1 s.2.1 u3) (fun u3 => (kX4_load_87 s.1 s.2.1 u3 oo))))))))))) mm_fu (y1, y2, z)
noncomputable def sX4_load_31 (y1 : Int32) (z : mm_S) : Option (Int32 × mm_S) := (sX4_load_33 y1 0 z)
theorem kX4_load_31 (y1 : Int32) (z : mm_S) (oo : mm_R) : mm_Xs (sX4_load_31 y1 z) (fun v => (fun v : Int32 × mm_S => ((some (mm_I v.1), v.2) : mm_R)) v = oo) (fun n => eX4_load_31 n y1 z) oo :=
  xs_row (fun n => qX4_load_31 n y1 z) (kX4_load_33 y1 0 z oo)
noncomputable def sX4_load_14 (y1 : Int32) (z : mm_S) : Option (Int32 × mm_S) := if y1 < 0 ∨ 4 ≤ Int32.toNatClampNeg y1 then none else if (z.1 18 (Int32.toNatClampNeg y1)) = 0 then (sX4_finding (-1000006) z).bind fun q2 => some (q2.1, q2.2) else (sX4_load_31 y1 z)
theorem kX4_load_14 (y1 : Int32) (z : mm_S) (oo : mm_R) : mm_Xs (sX4_load_14 y1 z) (fun v => (fun v : Int32 × mm_S => ((some (mm_I v.1), v.2) : mm_R)) v = oo) (fun n => eX4_load_14 n y1 z) oo :=
  xs_row (fun n => qX4_load_14 n y1 z) (xs_if xs_n (xs_if (xs_bd fun q2 => (xs_v fun hc => ⟨0, congrArg some hc⟩)) (kX4_load_31 y1 z oo)))
noncomputable def sX4_load_0 (x1 : Int32) (z : mm_S) : Option (Int32 × mm_S) := if (pX4_isSheet x1) = 0 then (sX4_finding (-1000001) z).bind fun q1 => some (q1.1, q1.2) else (sX4_load_14 x1 z)
theorem kX4_load_0 (x1 : Int32) (z : mm_S) (oo : mm_R) : mm_Xs (sX4_load_0 x1 z) (fun v => (fun v : Int32 × mm_S => ((some (mm_I v.1), v.2) : mm_R)) v = oo) (fun n => eX4_load_0 n x1 z) oo :=
  xs_row (fun n => qX4_load_0 n x1 z) (xs_if (xs_bd fun q1 => (xs_v fun hc => ⟨0, congrArg some hc⟩)) (kX4_load_14 x1 z oo))
noncomputable def sX4_load (x1 : Int32) (z : mm_S) : Option (Int32 × mm_S) := sX4_load_0 x1 z
theorem sp_X4_load (x1 : Int32) (z : mm_S) (hk : ∀ v ∈ [mm_P 4 0, mm_I x1], mm_ok 22 lyTM 22 17 v) (q : Int32 × mm_S) (hq : sX4_load x1 z = some q) : f_X4_load [mm_P 4 0, mm_I x1] z (some (mm_I q.1), q.2) := ⟨Nat.le_of_ble_eq_true rfl, kX4_load_0 x1 z _ q hq rfl⟩
noncomputable def clo_X4_load (as : List mm_V) (z : mm_S) (kk : Option mm_V → mm_S → Option mm_R) : Option mm_R := mm_pr as fun t o0 as => bif Nat.beq t 4 then mm_pi as fun a1 as => (match as with | [] => (sX4_load a1 z).bind fun q => kk (some (mm_I q.1)) q.2 | _ => none) else none
theorem cs_X4_load : mm_cs lyTM 22 22 17 f_X4_load clo_X4_load := by
  intro as z K o hk h
  obtain ⟨t0, o0, r0, rfl, g0⟩ := mm_pr_e h
  obtain ⟨b0, k0⟩ := mm_bif_e g0
  obtain rfl := Nat.eq_of_beq_eq_true b0
  obtain ⟨a1, r1, rfl, g1⟩ := mm_pi_e k0
  rcases r1 with _ | ⟨u, w⟩
  rotate_left
  · cases g1
  obtain rfl : o0 = 0 := ok4 (hk (mm_P 4 o0) (by simp))
  obtain ⟨q, hq, hq2⟩ := Option.bind_eq_some_iff.mp g1
  exact ⟨_, _, sp_X4_load a1 z hk q hq, fun v hv => by cases hv; exact Or.inl ⟨_, rfl⟩, hq2⟩
theorem sV_X4_load {own : String} {R : Room} {ar : Nat → Nat} {k : Nat} (hlink : Cond.methodLink own k yX4_load ∈ lw_gd ∨ ∃ host, (own, k, yX4_load, host) ∈ nmA) (har : ar k = 2) (hr : 3 ≤ R.frames ∧ 64 ≤ R.locals) : mm_okV lyTM lyFA lenM snM 22 22 17 roM rsA nfA nmA [] own R ar k clo_X4_load := by
  refine ⟨yX4_load, cX4_load, 3, some .int, rm_X4_load, f_X4_load, 4, 1, (RX4, TX4, 36), M_X4_load, cs_X4_load, hlink, ⟨wv_X4_load, wz_X4_load, wi_X4_load, wc_X4_load⟩, ⟨by decide +kernel, by decide +kernel, by decide +kernel⟩, har, ⟨rfl, rfl, by decide⟩, ?_, ⟨rfl, rfl, hr.1, hr.2⟩⟩
  intro as z K o h
  obtain ⟨t0, o0, r0, rfl, g0⟩ := mm_pr_e h
  obtain ⟨b0, k0⟩ := mm_bif_e g0
  obtain rfl := Nat.eq_of_beq_eq_true b0
  exact ⟨_, _, rfl⟩
-- X4_judge
noncomputable def lV_X4_judge : List (Nat × (List mm_V → mm_S → (Option mm_V → mm_S → Option mm_R) → Option mm_R)) := [(124, clo_X4_finding), (146, clo_X4_isCrew), (192, clo_X4_findHeard)]
noncomputable def mV_X4_judge (k : Nat) (as : List mm_V) (z : mm_S) (kk : Option mm_V → mm_S → Option mm_R) : Option mm_R := match mm_at lV_X4_judge k with
  | some f => f as z kk
  | none => none
noncomputable def arV_X4_judge (k : Nat) : Nat := (mm_at [(124, 2), (146, 2), (192, 3)] k).getD 0
noncomputable def lS_X4_judge : List (Nat × (List mm_V → mm_S → (Option mm_V → mm_S → Option mm_R) → Option mm_R)) := [(202, mm_mn), (394, clo_X4_isSheet)]
noncomputable def mS_X4_judge (k : Nat) (as : List mm_V) (z : mm_S) (kk : Option mm_V → mm_S → Option mm_R) : Option mm_R := match mm_at lS_X4_judge k with
  | some f => f as z kk
  | none => none
noncomputable def arS_X4_judge (k : Nat) : Nat := (mm_at [(202, 2), (394, 1)] k).getD 0
def ct_X4_judge : List (Nat × List Nat) := [(14, [0, 1, 2]), (31, [0, 1, 2]), (46, [0, 1, 2]), (55, [0, 1]), (70, [0, 1, 3, 4])]
noncomputable def go_X4_judge : Nat → mm_K := mm_go (fun k => mm_at flX4 k) (fun k => mm_at clX4 k) (fun k => mm_at glX4 k) arV_X4_judge arS_X4_judge mV_X4_judge mS_X4_judge lenM roM snM 5 0 tbX4_judge ct_X4_judge
noncomputable def eX4_judge_0 (n : Nat)  (x1 : Int32) (x2 : Int32) (z : mm_S) : Option mm_R := go_X4_judge n 0 [(0, mm_P 4 0), (1, mm_I x1), (2, mm_I x2)] [] z
noncomputable def eX4_judge_14 (n : Nat)  (y1 : Int32) (y2 : Int32) (z : mm_S) : Option mm_R := go_X4_judge n 14 [(0, mm_P 4 0), (1, mm_I y1), (2, mm_I y2)] [] z
noncomputable def eX4_judge_31 (n : Nat)  (y1 : Int32) (y2 : Int32) (z : mm_S) : Option mm_R := go_X4_judge n 31 [(0, mm_P 4 0), (1, mm_I y1), (2, mm_I y2)] [] z
noncomputable def eX4_judge_46 (n : Nat)  (y1 : Int32) (y2 : Int32) (z : mm_S) : Option mm_R := go_X4_judge n 46 [(0, mm_P 4 0), (1, mm_I y1), (2, mm_I y2)] [] z
noncomputable def eX4_judge_55 (n : Nat)  (y1 : Int32) (z : mm_S) : Option mm_R := go_X4_judge n 55 [(0, mm_P 4 0), (1, mm_I y1)] [] z
noncomputable def eX4_judge_70 (n : Nat)  (y1 : Int32) (y3 : Int32) (y4 : Int32) (z : mm_S) : Option mm_R := go_X4_judge n 70 [(0, mm_P 4 0), (1, mm_I y1), (3, mm_I y3), (4, mm_I y4)] [] z
set_option maxRecDepth 100000 in
theorem qX4_judge_0 (n : Nat)  (x1 : Int32) (x2 : Int32) (z : mm_S) : eX4_judge_0 (n + 1) x1 x2 z = (if (pX4_isSheet x1) = 0 then (sX4_finding (-1000001) z).bind fun q1 => some (some (mm_I q1.1), q1.2) else eX4_judge_14 n x1 x2 z) := rfl
set_option maxRecDepth 100000 in
theorem qX4_judge_14 (n : Nat)  (y1 : Int32) (y2 : Int32) (z : mm_S) : eX4_judge_14 (n + 1) y1 y2 z = (if y1 < 0 ∨ 4 ≤ Int32.toNatClampNeg y1 then none else if (z.1 18 (Int32.toNatClampNeg y1)) = 0 then (sX4_finding (-1000006) z).bind fun q2 => some (some (mm_I q2.1), q2.2) else eX4_judge_31 n y1 y2 z) := rfl
set_option maxRecDepth 100000 in
theorem qX4_judge_31 (n : Nat)  (y1 : Int32) (y2 : Int32) (z : mm_S) : eX4_judge_31 (n + 1) y1 y2 z = (if (pX4_isCrew y2 z) = 0 then (sX4_finding (-1000001) z).bind fun q3 => some (some (mm_I q3.1), q3.2) else eX4_judge_46 n y1 y2 z) := rfl
set_option maxRecDepth 100000 in
theorem qX4_judge_46 (n : Nat)  (y1 : Int32) (y2 : Int32) (z : mm_S) : eX4_judge_46 (n + 1) y1 y2 z = ((sX4_findHeard y2 7 z).bind fun q4 => eX4_judge_55 n y1 q4) := rfl
set_option maxRecDepth 100000 in
theorem qX4_judge_55 (n : Nat)  (y1 : Int32) (z : mm_S) : eX4_judge_55 (n + 1) y1 z = (if y1 < 0 ∨ 4 ≤ Int32.toNatClampNeg y1 then none else let v5 : Int32 := (mm_min 36 (z.1 19 (Int32.toNatClampNeg y1))); eX4_judge_70 n y1 v5 0 z) := rfl
set_option maxRecDepth 100000 in
theorem qX4_judge_70 (n : Nat)  (y1 : Int32) (y3 : Int32) (y4 : Int32) (z : mm_S) : eX4_judge_70 (n + 1) y1 y3 y4 z = (if y3 ≤ y4 then if y4 = y3 then some (some (mm_I 0), z) else some (some (mm_I (1 + y4)), z) else if ((40 * y1) + y4) < 0 ∨ 160 ≤ Int32.toNatClampNeg ((40 * y1) + y4) then none else if y4 < 0 ∨ 36 ≤ Int32.toNatClampNeg y4 then none else if 10000 ≤ (z.1 7 (Int32.toNatClampNeg y4)) then if (z.1 20 (Int32.toNatClampNeg ((40 * y1) + y4))) = (-1) then eX4_judge_70 n y1 y3 (y4 + 1) z else if y4 = y3 then some (some (mm_I 0), z) else some (some (mm_I (1 + y4)), z) else if y4 < 0 ∨ 36 ≤ Int32.toNatClampNeg y4 then none else if (z.1 20 (Int32.toNatClampNeg ((40 * y1) + y4))) = (z.1 7 (Int32.toNatClampNeg y4)) then eX4_judge_70 n y1 y3 (y4 + 1) z else if y4 = y3 then some (some (mm_I 0), z) else some (some (mm_I (1 + y4)), z)) := rfl
def rm_X4_judge : Room := { frames := 4, cells := 0, slots := 0, locals := 96 }
noncomputable def f_X4_judge (as : List mm_V) (z : mm_S) (o : mm_R) : Prop := (as.map mm_cat).sum ≤ 5 ∧ ∃ n, go_X4_judge n 0 (mm_ar 0 as) [] z = some o
theorem M_X4_judge : mm_M lyTM lyFA lenM snM 22 22 17 roM rsA nfA nmA [] yX4_judge cX4_judge 5 (some .int) rm_X4_judge f_X4_judge :=
  mm_met (rt := 0) (by decide +kernel) ⟨fun h => rfl, fun h => absurd h (by decide), fun h => absurd h (by decide), fun h => absurd h (by decide)⟩ tbX4_judge_ok hsnM okFX4 okLX4 (fun _ h => absurd h List.not_mem_nil) (fun _ _ _ _ => rfl) (fun _ _ _ _ => rfl) (List.forall_mem_cons.mpr ⟨sV_X4_finding (Or.inl lk_X4_124) rfl ⟨by decide, by decide⟩, List.forall_mem_cons.mpr ⟨sV_X4_isCrew (Or.inl lk_X4_146) rfl ⟨by decide, by decide⟩, List.forall_mem_cons.mpr ⟨sV_X4_findHeard (Or.inl lk_X4_192) rfl ⟨by decide, by decide⟩, fun _ h => absurd h List.not_mem_nil⟩⟩⟩) (List.forall_mem_cons.mpr ⟨Or.inr (Or.inr ⟨Or.inr ⟨rfl, lk_X4_202, ws_min, wc_min⟩, wi_math, by decide, by decide, rfl⟩), List.forall_mem_cons.mpr ⟨sS_X4_isSheet (Or.inl lk_X4_394) rfl ⟨by decide, by decide⟩, fun _ h => absurd h List.not_mem_nil⟩⟩)
noncomputable def lX4_judge_70 (s : Int32 × Int32 × Int32 × mm_S) : Option ((Int32 × Int32 × Int32 × mm_S) ⊕ (Int32 × mm_S)) := if s.2.1 ≤ s.2.2.1 then if s.2.2.1 = s.2.1 then some (.inr (0, s.2.2.2)) else some (.inr ((1 + s.2.2.1), s.2.2.2)) else if ((40 * s.1) + s.2.2.1) < 0 ∨ 160 ≤ Int32.toNatClampNeg ((40 * s.1) + s.2.2.1) then none else if s.2.2.1 < 0 ∨ 36 ≤ Int32.toNatClampNeg s.2.2.1 then none else if 10000 ≤ (s.2.2.2.1 7 (Int32.toNatClampNeg s.2.2.1)) then if (s.2.2.2.1 20 (Int32.toNatClampNeg ((40 * s.1) + s.2.2.1))) = (-1) then some (.inl (s.1, s.2.1, (s.2.2.1 + 1), s.2.2.2)) else if s.2.2.1 = s.2.1 then some (.inr (0, s.2.2.2)) else some (.inr ((1 + s.2.2.1), s.2.2.2)) else if s.2.2.1 < 0 ∨ 36 ≤ Int32.toNatClampNeg s.2.2.1 then none else if (s.2.2.2.1 20 (Int32.toNatClampNeg ((40 * s.1) + s.2.2.1))) = (s.2.2.2.1 7 (Int32.toNatClampNeg s.2.2.1)) then some (.inl (s.1, s.2.1, (s.2.2.1 + 1), s.2.2.2)) else if s.2.2.1 = s.2.1 then some (.inr (0, s.2.2.2)) else some (.inr ((1 + s.2.2.1), s.2.2.2))
noncomputable def sX4_judge_70 (y1 : Int32) (y3 : Int32) (y4 : Int32) (z : mm_S) : Option (Int32 × mm_S) := mm_wh (lX4_judge_70 ) mm_fu (y1, y3, y4, z)
theorem kX4_judge_70 (y1 : Int32) (y3 : Int32) (y4 : Int32) (z : mm_S) (oo : mm_R) : mm_Xs (sX4_judge_70 y1 y3 y4 z) (fun v => (fun v : Int32 × mm_S => ((some (mm_I v.1), v.2) : mm_R)) v = oo) (fun n => eX4_judge_70 n y1 y3 y4 z) oo :=
  xs_wh (stp := lX4_judge_70 ) (o := oo) (E := (fun (s : Int32 × Int32 × Int32 × mm_S) n => eX4_judge_70 n s.1 s.2.1 s.2.2.1 s.2.2.2)) (C := (fun v => (fun v : Int32 × mm_S => ((some (mm_I v.1), v.2) : mm_R)) v = oo)) (fun s => xs_row (fun n => qX4_judge_70 n s.1 s.2.1 s.2.2.1 s.2.2.2) (xs_if (xs_if (xs_v fun hc => ⟨0, congrArg some hc⟩) (xs_v fun hc => ⟨0, congrArg some hc⟩)) (xs_if xs_n (xs_if xs_n (xs_if (xs_if (xs_v fun hc => hc) (xs_if (xs_v fun hc => ⟨0, congrArg some hc⟩) (xs_v fun hc => ⟨0, congrArg some hc⟩))) (xs_if xs_n (xs_if (xs_v fun hc => hc) (xs_if (xs_v fun hc => ⟨0, congrArg some hc⟩) (xs_v fun hc => ⟨0, congrArg some hc⟩))))))))) mm_fu (y1, y3, y4, z)
noncomputable def sX4_judge_55 (y1 : Int32) (z : mm_S) : Option (Int32 × mm_S) := if y1 < 0 ∨ 4 ≤ Int32.toNatClampNeg y1 then none else let v5 : Int32 := (mm_min 36 (z.1 19 (Int32.toNatClampNeg y1))); (sX4_judge_70 y1 v5 0 z)
theorem kX4_judge_55 (y1 : Int32) (z : mm_S) (oo : mm_R) : mm_Xs (sX4_judge_55 y1 z) (fun v => (fun v : Int32 × mm_S => ((some (mm_I v.1), v.2) : mm_R)) v = oo) (fun n => eX4_judge_55 n y1 z) oo :=
  xs_row (fun n => qX4_judge_55 n y1 z) (xs_if xs_n (xs_let ((mm_min 36 (z.1 19 (Int32.toNatClampNeg y1)))) (S := fun (v5 : Int32) => ((sX4_judge_70 y1 v5 0 z) : Option (Int32 × mm_S))) (T := fun (v5 : Int32) n => eX4_judge_70 n y1 v5 0 z) (fun v5 => (kX4_judge_70 y1 v5 0 z oo))))
noncomputable def sX4_judge_46 (y1 : Int32) (y2 : Int32) (z : mm_S) : Option (Int32 × mm_S) := (sX4_findHeard y2 7 z).bind fun q4 => (sX4_judge_55 y1 q4)
theorem kX4_judge_46 (y1 : Int32) (y2 : Int32) (z : mm_S) (oo : mm_R) : mm_Xs (sX4_judge_46 y1 y2 z) (fun v => (fun v : Int32 × mm_S => ((some (mm_I v.1), v.2) : mm_R)) v = oo) (fun n => eX4_judge_46 n y1 y2 z) oo :=
  xs_row (fun n => qX4_judge_46 n y1 y2 z) (xs_bd fun q4 => (kX4_judge_55 y1 q4 oo))
noncomputable def sX4_judge_31 (y1 : Int32) (y2 : Int32) (z : mm_S) : Option (Int32 × mm_S) := if (pX4_isCrew y2 z) = 0 then (sX4_finding (-1000001) z).bind fun q3 => some (q3.1, q3.2) else (sX4_judge_46 y1 y2 z)
theorem kX4_judge_31 (y1 : Int32) (y2 : Int32) (z : mm_S) (oo : mm_R) : mm_Xs (sX4_judge_31 y1 y2 z) (fun v => (fun v : Int32 × mm_S => ((some (mm_I v.1), v.2) : mm_R)) v = oo) (fun n => eX4_judge_31 n y1 y2 z) oo :=
  xs_row (fun n => qX4_judge_31 n y1 y2 z) (xs_if (xs_bd fun q3 => (xs_v fun hc => ⟨0, congrArg some hc⟩)) (kX4_judge_46 y1 y2 z oo))
noncomputable def sX4_judge_14 (y1 : Int32) (y2 : Int32) (z : mm_S) : Option (Int32 × mm_S) := if y1 < 0 ∨ 4 ≤ Int32.toNatClampNeg y1 then none else if (z.1 18 (Int32.toNatClampNeg y1)) = 0 then (sX4_finding (-1000006) z).bind fun q2 => some (q2.1, q2.2) else (sX4_judge_31 y1 y2 z)
theorem kX4_judge_14 (y1 : Int32) (y2 : Int32) (z : mm_S) (oo : mm_R) : mm_Xs (sX4_judge_14 y1 y2 z) (fun v => (fun v : Int32 × mm_S => ((some (mm_I v.1), v.2) : mm_R)) v = oo) (fun n => eX4_judge_14 n y1 y2 z) oo :=
  xs_row (fun n => qX4_judge_14 n y1 y2 z) (xs_if xs_n (xs_if (xs_bd fun q2 => (xs_v fun hc => ⟨0, congrArg some hc⟩)) (kX4_judge_31 y1 y2 z oo)))
noncomputable def sX4_judge_0 (x1 : Int32) (x2 : Int32) (z : mm_S) : Option (Int32 × mm_S) := if (pX4_isSheet x1) = 0 then (sX4_finding (-1000001) z).bind fun q1 => some (q1.1, q1.2) else (sX4_judge_14 x1 x2 z)
theorem kX4_judge_0 (x1 : Int32) (x2 : Int32) (z : mm_S) (oo : mm_R) : mm_Xs (sX4_judge_0 x1 x2 z) (fun v => (fun v : Int32 × mm_S => ((some (mm_I v.1), v.2) : mm_R)) v = oo) (fun n => eX4_judge_0 n x1 x2 z) oo :=
  xs_row (fun n => qX4_judge_0 n x1 x2 z) (xs_if (xs_bd fun q1 => (xs_v fun hc => ⟨0, congrArg some hc⟩)) (kX4_judge_14 x1 x2 z oo))
noncomputable def sX4_judge (x1 : Int32) (x2 : Int32) (z : mm_S) : Option (Int32 × mm_S) := sX4_judge_0 x1 x2 z
theorem sp_X4_judge (x1 : Int32) (x2 : Int32) (z : mm_S) (hk : ∀ v ∈ [mm_P 4 0, mm_I x1, mm_I x2], mm_ok 22 lyTM 22 17 v) (q : Int32 × mm_S) (hq : sX4_judge x1 x2 z = some q) : f_X4_judge [mm_P 4 0, mm_I x1, mm_I x2] z (some (mm_I q.1), q.2) := ⟨Nat.le_of_ble_eq_true rfl, kX4_judge_0 x1 x2 z _ q hq rfl⟩
noncomputable def clo_X4_judge (as : List mm_V) (z : mm_S) (kk : Option mm_V → mm_S → Option mm_R) : Option mm_R := mm_pr as fun t o0 as => bif Nat.beq t 4 then mm_pi as fun a1 as => mm_pi as fun a2 as => (match as with | [] => (sX4_judge a1 a2 z).bind fun q => kk (some (mm_I q.1)) q.2 | _ => none) else none
theorem cs_X4_judge : mm_cs lyTM 22 22 17 f_X4_judge clo_X4_judge := by
  intro as z K o hk h
  obtain ⟨t0, o0, r0, rfl, g0⟩ := mm_pr_e h
  obtain ⟨b0, k0⟩ := mm_bif_e g0
  obtain rfl := Nat.eq_of_beq_eq_true b0
  obtain ⟨a1, r1, rfl, g1⟩ := mm_pi_e k0
  obtain ⟨a2, r2, rfl, g2⟩ := mm_pi_e g1
  rcases r2 with _ | ⟨u, w⟩
  rotate_left
  · cases g2
  obtain rfl : o0 = 0 := ok4 (hk (mm_P 4 o0) (by simp))
  obtain ⟨q, hq, hq2⟩ := Option.bind_eq_some_iff.mp g2
  exact ⟨_, _, sp_X4_judge a1 a2 z hk q hq, fun v hv => by cases hv; exact Or.inl ⟨_, rfl⟩, hq2⟩
theorem sV_X4_judge {own : String} {R : Room} {ar : Nat → Nat} {k : Nat} (hlink : Cond.methodLink own k yX4_judge ∈ lw_gd ∨ ∃ host, (own, k, yX4_judge, host) ∈ nmA) (har : ar k = 3) (hr : 5 ≤ R.frames ∧ 120 ≤ R.locals) : mm_okV lyTM lyFA lenM snM 22 22 17 roM rsA nfA nmA [] own R ar k clo_X4_judge := by
  refine ⟨yX4_judge, cX4_judge, 5, some .int, rm_X4_judge, f_X4_judge, 4, 2, (RX4, TX4, 36), M_X4_judge, cs_X4_judge, hlink, ⟨wv_X4_judge, wz_X4_judge, wi_X4_judge, wc_X4_judge⟩, ⟨by decide +kernel, by decide +kernel, by decide +kernel⟩, har, ⟨rfl, rfl, by decide⟩, ?_, ⟨rfl, rfl, hr.1, hr.2⟩⟩
  intro as z K o h
  obtain ⟨t0, o0, r0, rfl, g0⟩ := mm_pr_e h
  obtain ⟨b0, k0⟩ := mm_bif_e g0
  obtain rfl := Nat.eq_of_beq_eq_true b0
  exact ⟨_, _, rfl⟩
