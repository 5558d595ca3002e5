-- X4_image
noncomputable def lV_X4_image : List (Nat × (List mm_V → mm_S → (Option mm_V → mm_S → Option mm_R) → Option mm_R)) := []
noncomputable def mV_X4_image (k : Nat) (as : List mm_V) (z : mm_S) (kk : Option mm_V → mm_S → Option mm_R) : Option mm_R := match mm_at lV_X4_image k with
  | some f => f as z kk
  | none => none
noncomputable def arV_X4_image (k : Nat) : Nat := (mm_at [] k).getD 0
noncomputable def lS_X4_image : List (Nat × (List mm_V → mm_S → (Option mm_V → mm_S → Option mm_R) → Option mm_R)) := [(102, clo_X4_copyRow)]
noncomputable def mS_X4_image (k : Nat) (as : List mm_V) (z : mm_S) (kk : Option mm_V → mm_S → Option mm_R) : Option mm_R := match mm_at lS_X4_image k with
  | some f => f as z kk
  | none => none
noncomputable def arS_X4_image (k : Nat) : Nat := (mm_at [(102, 2)] k).getD 0
def ct_X4_image : List (Nat × List Nat) := [(11, [0]), (16, [])]
noncomputable def go_X4_image : Nat → mm_K := mm_go (fun k => mm_at flX4 k) (fun k => mm_at clX4 k) (fun k => mm_at glX4 k) arV_X4_image arS_X4_image mV_X4_image mS_X4_image lenM roM snM 1 0 tbX4_image ct_X4_image
noncomputable def eX4_image_0 (n : Nat)  (z : mm_S) : Option mm_R := go_X4_image n 0 [(0, mm_P 4 0)] [] z
noncomputable def eX4_image_11 (n : Nat)  (z : mm_S) : Option mm_R := go_X4_image n 11 [(0, mm_P 4 0)] [] z
noncomputable def eX4_image_16 (n : Nat)  (z : mm_S) : Option mm_R := go_X4_image n 16 [] [] z
set_option maxRecDepth 100000 in
theorem qX4_image_0 (n : Nat)  (z : mm_S) : eX4_image_0 (n + 1)  z = ((sX4_copyRow 1 2 z).bind fun q1 => eX4_image_11 n  q1) := rfl
set_option maxRecDepth 100000 in
theorem qX4_image_11 (n : Nat)  (z : mm_S) : eX4_image_11 (n + 1)  z = (eX4_image_16 n  ((mm_ui z.1 0 3 1), z.2)) := rfl
set_option maxRecDepth 100000 in
theorem qX4_image_16 (n : Nat)  (z : mm_S) : eX4_image_16 (n + 1)  z = (some (some (mm_I 1), z)) := rfl
def rm_X4_image : Room := { frames := 1, cells := 0, slots := 0, locals := 22 }
noncomputable def f_X4_image (as : List mm_V) (z : mm_S) (o : mm_R) : Prop := (as.map mm_cat).sum ≤ 1 ∧ ∃ n, go_X4_image n 0 (mm_ar 0 as) [] z = some o
theorem M_X4_image : mm_M lyTM lyFA lenM snM 22 22 17 roM rsA nfA nmA [] yX4_image cX4_image 1 (some .int) rm_X4_image f_X4_image :=
  mm_met (rt := 0) (by decide +kernel) ⟨fun h => rfl, fun h => absurd h (by decide), fun h => absurd h (by decide), fun h => absurd h (by decide)⟩ tbX4_image_ok hsnM okFX4 okLX4 (fun _ h => absurd h List.not_mem_nil) (fun _ _ _ _ => rfl) (fun _ _ _ _ => rfl) (fun _ h => absurd h List.not_mem_nil) (List.forall_mem_cons.mpr ⟨sS_X4_copyRow (Or.inl lk_X4_102) rfl ⟨by decide, by decide⟩, fun _ h => absurd h List.not_mem_nil⟩)
noncomputable def sX4_image_16  (z : mm_S) : Option (Int32 × mm_S) := some (1, z)
theorem kX4_image_16  (z : mm_S) (oo : mm_R) : mm_Xs (sX4_image_16  z) (fun v => (fun v : Int32 × mm_S => ((some (mm_I v.1), v.2) : mm_R)) v = oo) (fun n => eX4_image_16 n  z) oo :=
  xs_row (fun n => qX4_image_16 n z) (xs_v fun hc => ⟨0, congrArg some hc⟩)
noncomputable def sX4_image_11  (z : mm_S) : Option (Int32 × mm_S) := (sX4_image_16 ((mm_ui z.1 0 3 1), z.2))
theorem kX4_image_11  (z : mm_S) (oo : mm_R) : mm_Xs (sX4_image_11  z) (fun v => (fun v : Int32 × mm_S => ((some (mm_I v.1), v.2) : mm_R)) v = oo) (fun n => eX4_image_11 n  z) oo :=
  xs_row (fun n => qX4_image_11 n z) (kX4_image_16 ((mm_ui z.1 0 3 1), z.2) oo)
noncomputable def sX4_image_0  (z : mm_S) : Option (Int32 × mm_S) := (sX4_copyRow 1 2 z).bind fun q1 => (sX4_image_11 q1)
theorem kX4_image_0  (z : mm_S) (oo : mm_R) : mm_Xs (sX4_image_0  z) (fun v => (fun v : Int32 × mm_S => ((some (mm_I v.1), v.2) : mm_R)) v = oo) (fun n => eX4_image_0 n  z) oo :=
  xs_row (fun n => qX4_image_0 n z) (xs_bd fun q1 => (kX4_image_11 q1 oo))
noncomputable def sX4_image  (z : mm_S) : Option (Int32 × mm_S) := sX4_image_0  z
theorem sp_X4_image  (z : mm_S) (hk : ∀ v ∈ [mm_P 4 0], mm_ok 22 lyTM 22 17 v) (q : Int32 × mm_S) (hq : sX4_image  z = some q) : f_X4_image [mm_P 4 0] z (some (mm_I q.1), q.2) := ⟨Nat.le_of_ble_eq_true rfl, kX4_image_0  z _ q hq rfl⟩
noncomputable def clo_X4_image (as : List mm_V) (z : mm_S) (kk : Option mm_V → mm_S → Option mm_R) : Option mm_R := mm_pr as fun t o0 as => bif Nat.beq t 4 then (match as with | [] => (sX4_image z).bind fun q => kk (some (mm_I q.1)) q.2 | _ => none) else none
theorem cs_X4_image : mm_cs lyTM 22 22 17 f_X4_image clo_X4_image := by
  intro as z K o hk h
  obtain ⟨t0, o0, r0, rfl, g0⟩ := mm_pr_e h
  obtain ⟨b0, k0⟩ := mm_bif_e g0
  obtain rfl := Nat.eq_of_beq_eq_true b0
  rcases r0 with _ | ⟨u, w⟩
  rotate_left
  · cases k0
  obtain rfl : o0 = 0 := ok4 (hk (mm_P 4 o0) (by simp))
  obtain ⟨q, hq, hq2⟩ := Option.bind_eq_some_iff.mp k0
  exact ⟨_, _, sp_X4_image  z hk q hq, fun v hv => by cases hv; exact Or.inl ⟨_, rfl⟩, hq2⟩
theorem sV_X4_image {own : String} {R : Room} {ar : Nat → Nat} {k : Nat} (hlink : Cond.methodLink own k yX4_image ∈ lw_gd ∨ ∃ host, (own, k, yX4_image, host) ∈ nmA) (har : ar k = 1) (hr : 2 ≤ R.frames ∧ 42 ≤ R.locals) : mm_okV lyTM lyFA lenM snM 22 22 17 roM rsA nfA nmA [] own R ar k clo_X4_image := by
  refine ⟨yX4_image, cX4_image, 1, some .int, rm_X4_image, f_X4_image, 4, 0, (RX4, TX4, 36), M_X4_image, cs_X4_image, hlink, ⟨wv_X4_image, wz_X4_image, wi_X4_image, wc_X4_image⟩, ⟨by decide +kernel, by decide +kernel, by decide +kernel⟩, har, ⟨rfl, rfl, by decide⟩, ?_, ⟨rfl, rfl, hr.1, hr.2⟩⟩
  intro as z K o h
  obtain ⟨t0, o0, r0, rfl, g0⟩ := mm_pr_e h
  obtain ⟨b0, k0⟩ := mm_bif_e g0
  obtain rfl := Nat.eq_of_beq_eq_true b0
  exact ⟨_, _, rfl⟩
-- X4_undo
noncomputable def lV_X4_undo : List (Nat × (List mm_V → mm_S → (Option mm_V → mm_S → Option mm_R) → Option mm_R)) := [(124, clo_X4_finding)]
noncomputable def mV_X4_undo (k : Nat) (as : List mm_V) (z : mm_S) (kk : Option mm_V → mm_S → Option mm_R) : Option mm_R := match mm_at lV_X4_undo k with
  | some f => f as z kk
  | none => none
noncomputable def arV_X4_undo (k : Nat) : Nat := (mm_at [(124, 2)] k).getD 0
noncomputable def lS_X4_undo : List (Nat × (List mm_V → mm_S → (Option mm_V → mm_S → Option mm_R) → Option mm_R)) := [(102, clo_X4_copyRow)]
noncomputable def mS_X4_undo (k : Nat) (as : List mm_V) (z : mm_S) (kk : Option mm_V → mm_S → Option mm_R) : Option mm_R := match mm_at lS_X4_undo k with
  | some f => f as z kk
  | none => none
noncomputable def arS_X4_undo (k : Nat) : Nat := (mm_at [(102, 2)] k).getD 0
def ct_X4_undo : List (Nat × List Nat) := [(14, [0]), (25, [0])]
noncomputable def go_X4_undo : Nat → mm_K := mm_go (fun k => mm_at flX4 k) (fun k => mm_at clX4 k) (fun k => mm_at glX4 k) arV_X4_undo arS_X4_undo mV_X4_undo mS_X4_undo lenM roM snM 1 0 tbX4_undo ct_X4_undo
noncomputable def eX4_undo_0 (n : Nat)  (z : mm_S) : Option mm_R := go_X4_undo n 0 [(0, mm_P 4 0)] [] z
noncomputable def eX4_undo_14 (n : Nat)  (z : mm_S) : Option mm_R := go_X4_undo n 14 [(0, mm_P 4 0)] [] z
noncomputable def eX4_undo_25 (n : Nat)  (z : mm_S) : Option mm_R := go_X4_undo n 25 [(0, mm_P 4 0)] [] z
set_option maxRecDepth 100000 in
theorem qX4_undo_0 (n : Nat)  (z : mm_S) : eX4_undo_0 (n + 1)  z = (if (z.1 0 3) = 0 then (sX4_finding (-1000004) z).bind fun q1 => some (some (mm_I q1.1), q1.2) else eX4_undo_14 n  z) := rfl
set_option maxRecDepth 100000 in
theorem qX4_undo_14 (n : Nat)  (z : mm_S) : eX4_undo_14 (n + 1)  z = ((sX4_copyRow 2 1 z).bind fun q2 => eX4_undo_25 n  q2) := rfl
set_option maxRecDepth 100000 in
theorem qX4_undo_25 (n : Nat)  (z : mm_S) : eX4_undo_25 (n + 1)  z = (some (some (mm_I (z.1 1 0)), z)) := rfl
def rm_X4_undo : Room := { frames := 1, cells := 0, slots := 0, locals := 22 }
noncomputable def f_X4_undo (as : List mm_V) (z : mm_S) (o : mm_R) : Prop := (as.map mm_cat).sum ≤ 1 ∧ ∃ n, go_X4_undo n 0 (mm_ar 0 as) [] z = some o
theorem M_X4_undo : mm_M lyTM lyFA lenM snM 22 22 17 roM rsA nfA nmA [] yX4_undo cX4_undo 1 (some .int) rm_X4_undo f_X4_undo :=
  mm_met (rt := 0) (by decide +kernel) ⟨fun h => rfl, fun h => absurd h (by decide), fun h => absurd h (by decide), fun h => absurd h (by decide)⟩ tbX4_undo_ok hsnM okFX4 okLX4 (fun _ h => absurd h List.not_mem_nil) (fun _ _ _ _ => rfl) (fun _ _ _ _ => rfl) (List.forall_mem_cons.mpr ⟨sV_X4_finding (Or.inl lk_X4_124) rfl ⟨by decide, by decide⟩, fun _ h => absurd h List.not_mem_nil⟩) (List.forall_mem_cons.mpr ⟨sS_X4_copyRow (Or.inl lk_X4_102) rfl ⟨by decide, by decide⟩, fun _ h => absurd h List.not_mem_nil⟩)
noncomputable def sX4_undo_25  (z : mm_S) : Option (Int32 × mm_S) := some ((z.1 1 0), z)
theorem kX4_undo_25  (z : mm_S) (oo : mm_R) : mm_Xs (sX4_undo_25  z) (fun v => (fun v : Int32 × mm_S => ((some (mm_I v.1), v.2) : mm_R)) v = oo) (fun n => eX4_undo_25 n  z) oo :=
  xs_row (fun n => qX4_undo_25 n z) (xs_v fun hc => ⟨0, congrArg some hc⟩)
noncomputable def sX4_undo_14  (z : mm_S) : Option (Int32 × mm_S) := (sX4_copyRow 2 1 z).bind fun q2 => (sX4_undo_25 q2)
theorem kX4_undo_14  (z : mm_S) (oo : mm_R) : mm_Xs (sX4_undo_14  z) (fun v => (fun v : Int32 × mm_S => ((some (mm_I v.1), v.2) : mm_R)) v = oo) (fun n => eX4_undo_14 n  z) oo :=
  xs_row (fun n => qX4_undo_14 n z) (xs_bd fun q2 => (kX4_undo_25 q2 oo))
noncomputable def sX4_undo_0  (z : mm_S) : Option (Int32 × mm_S) := if (z.1 0 3) = 0 then (sX4_finding (-1000004) z).bind fun q1 => some (q1.1, q1.2) else (sX4_undo_14 z)
theorem kX4_undo_0  (z : mm_S) (oo : mm_R) : mm_Xs (sX4_undo_0  z) (fun v => (fun v : Int32 × mm_S => ((some (mm_I v.1), v.2) : mm_R)) v = oo) (fun n => eX4_undo_0 n  z) oo :=
  xs_row (fun n => qX4_undo_0 n z) (xs_if (xs_bd fun q1 => (xs_v fun hc => ⟨0, congrArg some hc⟩)) (kX4_undo_14 z oo))
noncomputable def sX4_undo  (z : mm_S) : Option (Int32 × mm_S) := sX4_undo_0  z
theorem sp_X4_undo  (z : mm_S) (hk : ∀ v ∈ [mm_P 4 0], mm_ok 22 lyTM 22 17 v) (q : Int32 × mm_S) (hq : sX4_undo  z = some q) : f_X4_undo [mm_P 4 0] z (some (mm_I q.1), q.2) := ⟨Nat.le_of_ble_eq_true rfl, kX4_undo_0  z _ q hq rfl⟩
noncomputable def clo_X4_undo (as : List mm_V) (z : mm_S) (kk : Option mm_V → mm_S → Option mm_R) : Option mm_R := mm_pr as fun t o0 as => bif Nat.beq t 4 then (match as with | [] => (sX4_undo z).bind fun q => kk (some (mm_I q.1)) q.2 | _ => none) else none
theorem cs_X4_undo : mm_cs lyTM 22 22 17 f_X4_undo clo_X4_undo := by
  intro as z K o hk h
  obtain ⟨t0, o0, r0, rfl, g0⟩ := mm_pr_e h
  obtain ⟨b0, k0⟩ := mm_bif_e g0
  obtain rfl := Nat.eq_of_beq_eq_true b0
  rcases r0 with _ | ⟨u, w⟩
  rotate_left
  · cases k0
  obtain rfl : o0 = 0 := ok4 (hk (mm_P 4 o0) (by simp))
  obtain ⟨q, hq, hq2⟩ := Option.bind_eq_some_iff.mp k0
  exact ⟨_, _, sp_X4_undo  z hk q hq, fun v hv => by cases hv; exact Or.inl ⟨_, rfl⟩, hq2⟩
theorem sV_X4_undo {own : String} {R : Room} {ar : Nat → Nat} {k : Nat} (hlink : Cond.methodLink own k yX4_undo ∈ lw_gd ∨ ∃ host, (own, k, yX4_undo, host) ∈ nmA) (har : ar k = 1) (hr : 2 ≤ R.frames ∧ 42 ≤ R.locals) : mm_okV lyTM lyFA lenM snM 22 22 17 roM rsA nfA nmA [] own R ar k clo_X4_undo := by
  refine ⟨yX4_undo, cX4_undo, 1, some .int, rm_X4_undo, f_X4_undo, 4, 0, (RX4, TX4, 36), M_X4_undo, cs_X4_undo, hlink, ⟨wv_X4_undo, wz_X4_undo, wi_X4_undo, wc_X4_undo⟩, ⟨by decide +kernel, by decide +kernel, by decide +kernel⟩, har, ⟨rfl, rfl, by decide⟩, ?_, ⟨rfl, rfl, hr.1, hr.2⟩⟩
  intro as z K o h
  obtain ⟨t0, o0, r0, rfl, g0⟩ := mm_pr_e h
  obtain ⟨b0, k0⟩ := mm_bif_e g0
  obtain rfl := Nat.eq_of_beq_eq_true b0
  exact ⟨_, _, rfl⟩
-- X4_tear
noncomputable def lV_X4_tear : List (Nat × (List mm_V → mm_S → (Option mm_V → mm_S → Option mm_R) → Option mm_R)) := []
noncomputable def mV_X4_tear (k : Nat) (as : List mm_V) (z : mm_S) (kk : Option mm_V → mm_S → Option mm_R) : Option mm_R := match mm_at lV_X4_tear k with
  | some f => f as z kk
  | none => none
noncomputable def arV_X4_tear (k : Nat) : Nat := (mm_at [] k).getD 0
noncomputable def lS_X4_tear : List (Nat × (List mm_V → mm_S → (Option mm_V → mm_S → Option mm_R) → Option mm_R)) := []
noncomputable def mS_X4_tear (k : Nat) (as : List mm_V) (z : mm_S) (kk : Option mm_V → mm_S → Option mm_R) : Option mm_R := match mm_at lS_X4_tear k with
  | some f => f as z kk
  | none => none
noncomputable def arS_X4_tear (k : Nat) : Nat := (mm_at [] k).getD 0
def ct_X4_tear : List (Nat × List Nat) := [(18, [1])]
noncomputable def go_X4_tear : Nat → mm_K := mm_go (fun k => mm_at flX4 k) (fun k => mm_at clX4 k) (fun k => mm_at glX4 k) arV_X4_tear arS_X4_tear mV_X4_tear mS_X4_tear lenM roM snM 2 0 tbX4_tear ct_X4_tear
noncomputable def eX4_tear_0 (n : Nat)  (z : mm_S) : Option mm_R := go_X4_tear n 0 [(0, mm_P 4 0)] [] z
noncomputable def eX4_tear_18 (n : Nat) (y1 : Int32) (z : mm_S) : Option mm_R := go_X4_tear n 18 [(1, mm_I y1)] [] z
set_option maxRecDepth 100000 in
theorem qX4_tear_0 (n : Nat)  (z : mm_S) : eX4_tear_0 (n + 1)  z = (if (z.1 0 3) = 0 then eX4_tear_18 n 0 ((mm_ui z.1 0 3 0), z.2) else eX4_tear_18 n 1 ((mm_ui z.1 0 3 0), z.2)) := rfl
set_option maxRecDepth 100000 in
theorem qX4_tear_18 (n : Nat) (y1 : Int32) (z : mm_S) : eX4_tear_18 (n + 1) y1 z = (some (some (mm_I y1), z)) := rfl
def rm_X4_tear : Room := { frames := 0, cells := 0, slots := 0, locals := 0 }
noncomputable def f_X4_tear (as : List mm_V) (z : mm_S) (o : mm_R) : Prop := (as.map mm_cat).sum ≤ 2 ∧ ∃ n, go_X4_tear n 0 (mm_ar 0 as) [] z = some o
theorem M_X4_tear : mm_M lyTM lyFA lenM snM 22 22 17 roM rsA nfA nmA [] yX4_tear cX4_tear 2 (some .int) rm_X4_tear f_X4_tear :=
  mm_met (rt := 0) (by decide +kernel) ⟨fun h => rfl, fun h => absurd h (by decide), fun h => absurd h (by decide), fun h => absurd h (by decide)⟩ tbX4_tear_ok hsnM okFX4 okLX4 (fun _ h => absurd h List.not_mem_nil) (fun _ _ _ _ => rfl) (fun _ _ _ _ => rfl) (fun _ h => absurd h List.not_mem_nil) (fun _ h => absurd h List.not_mem_nil)
noncomputable def sX4_tear_18 (y1 : Int32) (z : mm_S) : Option (Int32 × mm_S) := some (y1, z)
theorem kX4_tear_18 (y1 : Int32) (z : mm_S) (oo : mm_R) : mm_Xs (sX4_tear_18 y1 z) (fun v => (fun v : Int32 × mm_S => ((some (mm_I v.1), v.2) : mm_R)) v = oo) (fun n => eX4_tear_18 n y1 z) oo :=
  xs_row (fun n => qX4_tear_18 n y1 z) (xs_v fun hc => ⟨0, congrArg some hc⟩)
noncomputable def sX4_tear_0  (z : mm_S) : Option (Int32 × mm_S) := if (z.1 0 3) = 0 then (sX4_tear_18 0 ((mm_ui z.1 0 3 0), z.2)) else (sX4_tear_18 1 ((mm_ui z.1 0 3 0), z.2))
theorem kX4_tear_0  (z : mm_S) (oo : mm_R) : mm_Xs (sX4_tear_0  z) (fun v => (fun v : Int32 × mm_S => ((some (mm_I v.1), v.2) : mm_R)) v = oo) (fun n => eX4_tear_0 n  z) oo :=
  xs_row (fun n => qX4_tear_0 n z) (xs_if (kX4_tear_18 0 ((mm_ui z.1 0 3 0), z.2) oo) (kX4_tear_18 1 ((mm_ui z.1 0 3 0), z.2) oo))
noncomputable def sX4_tear  (z : mm_S) : Option (Int32 × mm_S) := sX4_tear_0  z
theorem sp_X4_tear  (z : mm_S) (hk : ∀ v ∈ [mm_P 4 0], mm_ok 22 lyTM 22 17 v) (q : Int32 × mm_S) (hq : sX4_tear  z = some q) : f_X4_tear [mm_P 4 0] z (some (mm_I q.1), q.2) := ⟨Nat.le_of_ble_eq_true rfl, kX4_tear_0  z _ q hq rfl⟩
noncomputable def clo_X4_tear (as : List mm_V) (z : mm_S) (kk : Option mm_V → mm_S → Option mm_R) : Option mm_R := mm_pr as fun t o0 as => bif Nat.beq t 4 then (match as with | [] => (sX4_tear z).bind fun q => kk (some (mm_I q.1)) q.2 | _ => none) else none
theorem cs_X4_tear : mm_cs lyTM 22 22 17 f_X4_tear clo_X4_tear := by
  intro as z K o hk h
  obtain ⟨t0, o0, r0, rfl, g0⟩ := mm_pr_e h
  obtain ⟨b0, k0⟩ := mm_bif_e g0
  obtain rfl := Nat.eq_of_beq_eq_true b0
  rcases r0 with _ | ⟨u, w⟩
  rotate_left
  · cases k0
  obtain rfl : o0 = 0 := ok4 (hk (mm_P 4 o0) (by simp))
  obtain ⟨q, hq, hq2⟩ := Option.bind_eq_some_iff.mp k0
  exact ⟨_, _, sp_X4_tear  z hk q hq, fun v hv => by cases hv; exact Or.inl ⟨_, rfl⟩, hq2⟩
theorem sV_X4_tear {own : String} {R : Room} {ar : Nat → Nat} {k : Nat} (hlink : Cond.methodLink own k yX4_tear ∈ lw_gd ∨ ∃ host, (own, k, yX4_tear, host) ∈ nmA) (har : ar k = 1) (hr : 1 ≤ R.frames ∧ 21 ≤ R.locals) : mm_okV lyTM lyFA lenM snM 22 22 17 roM rsA nfA nmA [] own R ar k clo_X4_tear := by
  refine ⟨yX4_tear, cX4_tear, 2, some .int, rm_X4_tear, f_X4_tear, 4, 0, (RX4, TX4, 36), M_X4_tear, cs_X4_tear, hlink, ⟨wv_X4_tear, wz_X4_tear, wi_X4_tear, wc_X4_tear⟩, ⟨by decide +kernel, by decide +kernel, by decide +kernel⟩, har, ⟨rfl, rfl, by decide⟩, ?_, ⟨rfl, rfl, hr.1, hr.2⟩⟩
  intro as z K o h
  obtain ⟨t0, o0, r0, rfl, g0⟩ := mm_pr_e h
  obtain ⟨b0, k0⟩ := mm_bif_e g0
  obtain rfl := Nat.eq_of_beq_eq_true b0
  exact ⟨_, _, rfl⟩
-- X4_count
noncomputable def lV_X4_count : List (Nat × (List mm_V → mm_S → (Option mm_V → mm_S → Option mm_R) → Option mm_R)) := [(124, clo_X4_finding), (161, clo_X4_cellsOf)]
noncomputable def mV_X4_count (k : Nat) (as : List mm_V) (z : mm_S) (kk : Option mm_V → mm_S → Option mm_R) : Option mm_R := match mm_at lV_X4_count k with
  | some f => f as z kk
  | none => none
noncomputable def arV_X4_count (k : Nat) : Nat := (mm_at [(124, 2), (161, 2)] k).getD 0
noncomputable def lS_X4_count : List (Nat × (List mm_V → mm_S → (Option mm_V → mm_S → Option mm_R) → Option mm_R)) := [(232, clo_X4_bits)]
noncomputable def mS_X4_count (k : Nat) (as : List mm_V) (z : mm_S) (kk : Option mm_V → mm_S → Option mm_R) : Option mm_R := match mm_at lS_X4_count k with
  | some f => f as z kk
  | none => none
noncomputable def arS_X4_count (k : Nat) : Nat := (mm_at [(232, 1)] k).getD 0
def ct_X4_count : List (Nat × List Nat) := [(99, [0, 2, 3])]
noncomputable def go_X4_count : Nat → mm_K := mm_go (fun k => mm_at flX4 k) (fun k => mm_at clX4 k) (fun k => mm_at glX4 k) arV_X4_count arS_X4_count mV_X4_count mS_X4_count lenM roM snM 4 0 tbX4_count ct_X4_count
noncomputable def eX4_count_0 (n : Nat)  (x1 : Int32) (z : mm_S) : Option mm_R := go_X4_count n 0 [(0, mm_P 4 0), (1, mm_I x1)] [] z
noncomputable def eX4_count_99 (n : Nat)  (y2 : Int32) (y3 : Int32) (z : mm_S) : Option mm_R := go_X4_count n 99 [(0, mm_P 4 0), (2, mm_I y2), (3, mm_I y3)] [] z
set_option maxRecDepth 100000 in
theorem qX4_count_0 (n : Nat)  (x1 : Int32) (z : mm_S) : eX4_count_0 (n + 1) x1 z = (if x1 = 0 then some (some (mm_I (z.1 1 0)), z) else if x1 = 1 then some (some (mm_I (z.1 1 1)), z) else if x1 = 2 then (sX4_cellsOf 2 z).bind fun q2 => (sX4_bits q2.1 q2.2).bind fun q3 => some (some (mm_I q3.1), q3.2) else if x1 = 3 then some (some (mm_I (z.1 1 2)), z) else if x1 = 4 then some (some (mm_I (z.1 1 3)), z) else if x1 = 5 then some (some (mm_I (z.1 0 18)), z) else if x1 = 6 then some (some (mm_I (z.1 1 4)), z) else if x1 = 7 then eX4_count_99 n 0 0 z else (sX4_finding (-1000001) z).bind fun q1 => some (some (mm_I q1.1), q1.2)) := rfl
set_option maxRecDepth 100000 in
theorem qX4_count_99 (n : Nat)  (y2 : Int32) (y3 : Int32) (z : mm_S) : eX4_count_99 (n + 1) y2 y3 z = (if 10 ≤ y3 then some (some (mm_I y2), z) else if (5 + y3) < 0 ∨ 97 ≤ Int32.toNatClampNeg (5 + y3) then none else if 0 ≤ (z.1 1 (Int32.toNatClampNeg (5 + y3))) then eX4_count_99 n (y2 + 1) (y3 + 1) z else eX4_count_99 n (y2 + 0) (y3 + 1) z) := rfl
def rm_X4_count : Room := { frames := 2, cells := 0, slots := 0, locals := 45 }
noncomputable def f_X4_count (as : List mm_V) (z : mm_S) (o : mm_R) : Prop := (as.map mm_cat).sum ≤ 4 ∧ ∃ n, go_X4_count n 0 (mm_ar 0 as) [] z = some o
theorem M_X4_count : mm_M lyTM lyFA lenM snM 22 22 17 roM rsA nfA nmA [] yX4_count cX4_count 4 (some .int) rm_X4_count f_X4_count :=
  mm_met (rt := 0) (by decide +kernel) ⟨fun h => rfl, fun h => absurd h (by decide), fun h => absurd h (by decide), fun h => absurd h (by decide)⟩ tbX4_count_ok hsnM okFX4 okLX4 (fun _ h => absurd h List.not_mem_nil) (fun _ _ _ _ => rfl) (fun _ _ _ _ => rfl) (List.forall_mem_cons.mpr ⟨sV_X4_finding (Or.inl lk_X4_124) rfl ⟨by decide, by decide⟩, List.forall_mem_cons.mpr ⟨sV_X4_cellsOf (Or.inl lk_X4_161) rfl ⟨by decide, by decide⟩, fun _ h => absurd h List.not_mem_nil⟩⟩) (List.forall_mem_cons.mpr ⟨sS_X4_bits (Or.inl lk_X4_232) rfl ⟨by decide, by decide⟩, fun _ h => absurd h List.not_mem_nil⟩)
noncomputable def lX4_count_99 (s : Int32 × Int32 × mm_S) : Option ((Int32 × Int32 × mm_S) ⊕ (Int32 × mm_S)) := if 10 ≤ s.2.1 then some (.inr (s.1, s.2.2)) else if (5 + s.2.1) < 0 ∨ 97 ≤ Int32.toNatClampNeg (5 + s.2.1) then none else if 0 ≤ (s.2.2.1 1 (Int32.toNatClampNeg (5 + s.2.1))) then some (.inl ((s.1 + 1), (s.2.1 + 1), s.2.2)) else some (.inl ((s.1 + 0), (s.2.1 + 1), s.2.2))
noncomputable def sX4_count_99 (y2 : Int32) (y3 : Int32) (z : mm_S) : Option (Int32 × mm_S) := mm_wh (lX4_count_99 ) mm_fu (y2, y3, z)
theorem kX4_count_99 (y2 : Int32) (y3 : Int32) (z : mm_S) (oo : mm_R) : mm_Xs (sX4_count_99 y2 y3 z) (fun v => (fun v : Int32 × mm_S => ((some (mm_I v.1), v.2) : mm_R)) v = oo) (fun n => eX4_count_99 n y2 y3 z) oo :=
  xs_wh (stp := lX4_count_99 ) (o := oo) (E := (fun (s : Int32 × Int32 × mm_S) n => eX4_count_99 n s.1 s.2.1 s.2.2)) (C := (fun v => (fun v : Int32 × mm_S => ((some (mm_I v.1), v.2) : mm_R)) v = oo)) (fun s => xs_row (fun n => qX4_count_99 n s.1 s.2.1 s.2.2) (xs_if (xs_v fun hc => ⟨0, congrArg some hc⟩) (xs_if xs_n (xs_if (xs_v fun hc => hc) (xs_v fun hc => hc))))) mm_fu (y2, y3, z)
noncomputable def sX4_count_0 (x1 : Int32) (z : mm_S) : Option (Int32 × mm_S) := if x1 = 0 then some ((z.1 1 0), z) else if x1 = 1 then some ((z.1 1 1), z) else if x1 = 2 then (sX4_cellsOf 2 z).bind fun q2 => (sX4_bits q2.1 q2.2).bind fun q3 => some (q3.1, q3.2) else if x1 = 3 then some ((z.1 1 2), z) else if x1 = 4 then some ((z.1 1 3), z) else if x1 = 5 then some ((z.1 0 18), z) else if x1 = 6 then some ((z.1 1 4), z) else if x1 = 7 then (sX4_count_99 0 0 z) else (sX4_finding (-1000001) z).bind fun q1 => some (q1.1, q1.2)
theorem kX4_count_0 (x1 : Int32) (z : mm_S) (oo : mm_R) : mm_Xs (sX4_count_0 x1 z) (fun v => (fun v : Int32 × mm_S => ((some (mm_I v.1), v.2) : mm_R)) v = oo) (fun n => eX4_count_0 n x1 z) oo :=
  xs_row (fun n => qX4_count_0 n x1 z) (xs_if (xs_v fun hc => ⟨0, congrArg some hc⟩) (xs_if (xs_v fun hc => ⟨0, congrArg some hc⟩) (xs_if (xs_bd fun q2 => (xs_bd fun q3 => (xs_v fun hc => ⟨0, congrArg some hc⟩))) (xs_if (xs_v fun hc => ⟨0, congrArg some hc⟩) (xs_if (xs_v fun hc => ⟨0, congrArg some hc⟩) (xs_if (xs_v fun hc => ⟨0, congrArg some hc⟩) (xs_if (xs_v fun hc => ⟨0, congrArg some hc⟩) (xs_if (kX4_count_99 0 0 z oo) (xs_bd fun q1 => (xs_v fun hc => ⟨0, congrArg some hc⟩))))))))))
noncomputable def sX4_count (x1 : Int32) (z : mm_S) : Option (Int32 × mm_S) := sX4_count_0 x1 z
theorem sp_X4_count (x1 : Int32) (z : mm_S) (hk : ∀ v ∈ [mm_P 4 0, mm_I x1], mm_ok 22 lyTM 22 17 v) (q : Int32 × mm_S) (hq : sX4_count x1 z = some q) : f_X4_count [mm_P 4 0, mm_I x1] z (some (mm_I q.1), q.2) := ⟨Nat.le_of_ble_eq_true rfl, kX4_count_0 x1 z _ q hq rfl⟩
noncomputable def clo_X4_count (as : List mm_V) (z : mm_S) (kk : Option mm_V → mm_S → Option mm_R) : Option mm_R := mm_pr as fun t o0 as => bif Nat.beq t 4 then mm_pi as fun a1 as => (match as with | [] => (sX4_count a1 z).bind fun q => kk (some (mm_I q.1)) q.2 | _ => none) else none
theorem cs_X4_count : mm_cs lyTM 22 22 17 f_X4_count clo_X4_count := by
  intro as z K o hk h
  obtain ⟨t0, o0, r0, rfl, g0⟩ := mm_pr_e h
  obtain ⟨b0, k0⟩ := mm_bif_e g0
  obtain rfl := Nat.eq_of_beq_eq_true b0
  obtain ⟨a1, r1, rfl, g1⟩ := mm_pi_e k0
  rcases r1 with _ | ⟨u, w⟩
  rotate_left
  · cases g1
  obtain rfl : o0 = 0 := ok4 (hk (mm_P 4 o0) (by simp))
  obtain ⟨q, hq, hq2⟩ := Option.bind_eq_some_iff.mp g1
  exact ⟨_, _, sp_X4_count a1 z hk q hq, fun v hv => by cases hv; exact Or.inl ⟨_, rfl⟩, hq2⟩
theorem sV_X4_count {own : String} {R : Room} {ar : Nat → Nat} {k : Nat} (hlink : Cond.methodLink own k yX4_count ∈ lw_gd ∨ ∃ host, (own, k, yX4_count, host) ∈ nmA) (har : ar k = 2) (hr : 3 ≤ R.frames ∧ 68 ≤ R.locals) : mm_okV lyTM lyFA lenM snM 22 22 17 roM rsA nfA nmA [] own R ar k clo_X4_count := by
  refine ⟨yX4_count, cX4_count, 4, some .int, rm_X4_count, f_X4_count, 4, 1, (RX4, TX4, 36), M_X4_count, cs_X4_count, hlink, ⟨wv_X4_count, wz_X4_count, wi_X4_count, wc_X4_count⟩, ⟨by decide +kernel, by decide +kernel, by decide +kernel⟩, har, ⟨rfl, rfl, by decide⟩, ?_, ⟨rfl, rfl, hr.1, hr.2⟩⟩
  intro as z K o h
  obtain ⟨t0, o0, r0, rfl, g0⟩ := mm_pr_e h
  obtain ⟨b0, k0⟩ := mm_bif_e g0
  obtain rfl := Nat.eq_of_beq_eq_true b0
  exact ⟨_, _, rfl⟩
-- X4_status
noncomputable def lV_X4_status : List (Nat × (List mm_V → mm_S → (Option mm_V → mm_S → Option mm_R) → Option mm_R)) := [(124, clo_X4_finding)]
noncomputable def mV_X4_status (k : Nat) (as : List mm_V) (z : mm_S) (kk : Option mm_V → mm_S → Option mm_R) : Option mm_R := match mm_at lV_X4_status k with
  | some f => f as z kk
  | none => none
noncomputable def arV_X4_status (k : Nat) : Nat := (mm_at [(124, 2)] k).getD 0
noncomputable def lS_X4_status : List (Nat × (List mm_V → mm_S → (Option mm_V → mm_S → Option mm_R) → Option mm_R)) := [(106, clo_X4_within)]
noncomputable def mS_X4_status (k : Nat) (as : List mm_V) (z : mm_S) (kk : Option mm_V → mm_S → Option mm_R) : Option mm_R := match mm_at lS_X4_status k with
  | some f => f as z kk
  | none => none
noncomputable def arS_X4_status (k : Nat) : Nat := (mm_at [(106, 3)] k).getD 0
def ct_X4_status : List (Nat × List Nat) := []
noncomputable def go_X4_status : Nat → mm_K := mm_go (fun k => mm_at flX4 k) (fun k => mm_at clX4 k) (fun k => mm_at glX4 k) arV_X4_status arS_X4_status mV_X4_status mS_X4_status lenM roM snM 2 0 tbX4_status ct_X4_status
noncomputable def eX4_status_0 (n : Nat)  (x1 : Int32) (z : mm_S) : Option mm_R := go_X4_status n 0 [(0, mm_P 4 0), (1, mm_I x1)] [] z
set_option maxRecDepth 100000 in
theorem qX4_status_0 (n : Nat)  (x1 : Int32) (z : mm_S) : eX4_status_0 (n + 1) x1 z = (if (pX4_within x1 (-1) 6) = 0 then (sX4_finding (-1000001) z).bind fun q1 => some (some (mm_I q1.1), q1.2) else if (x1 + 1) < 0 ∨ 8 ≤ Int32.toNatClampNeg (x1 + 1) then none else some (some (mm_I (z.1 4 (Int32.toNatClampNeg (x1 + 1)))), z)) := rfl
def rm_X4_status : Room := { frames := 1, cells := 0, slots := 0, locals := 22 }
noncomputable def f_X4_status (as : List mm_V) (z : mm_S) (o : mm_R) : Prop := (as.map mm_cat).sum ≤ 2 ∧ ∃ n, go_X4_status n 0 (mm_ar 0 as) [] z = some o
theorem M_X4_status : mm_M lyTM lyFA lenM snM 22 22 17 roM rsA nfA nmA [] yX4_status cX4_status 2 (some .int) rm_X4_status f_X4_status :=
  mm_met (rt := 0) (by decide +kernel) ⟨fun h => rfl, fun h => absurd h (by decide), fun h => absurd h (by decide), fun h => absurd h (by decide)⟩ tbX4_status_ok hsnM okFX4 okLX4 (fun _ h => absurd h List.not_mem_nil) (fun _ _ _ _ => rfl) (fun _ _ _ _ => rfl) (List.forall_mem_cons.mpr ⟨sV_X4_finding (Or.inl lk_X4_124) rfl ⟨by decide, by decide⟩, fun _ h => absurd h List.not_mem_nil⟩) (List.forall_mem_cons.mpr ⟨sS_X4_within (Or.inl lk_X4_106) rfl ⟨by decide, by decide⟩, fun _ h => absurd h List.not_mem_nil⟩)
noncomputable def sX4_status_0 (x1 : Int32) (z : mm_S) : Option (Int32 × mm_S) := if (pX4_within x1 (-1) 6) = 0 then (sX4_finding (-1000001) z).bind fun q1 => some (q1.1, q1.2) else if (x1 + 1) < 0 ∨ 8 ≤ Int32.toNatClampNeg (x1 + 1) then none else some ((z.1 4 (Int32.toNatClampNeg (x1 + 1))), z)
theorem kX4_status_0 (x1 : Int32) (z : mm_S) (oo : mm_R) : mm_Xs (sX4_status_0 x1 z) (fun v => (fun v : Int32 × mm_S => ((some (mm_I v.1), v.2) : mm_R)) v = oo) (fun n => eX4_status_0 n x1 z) oo :=
  xs_row (fun n => qX4_status_0 n x1 z) (xs_if (xs_bd fun q1 => (xs_v fun hc => ⟨0, congrArg some hc⟩)) (xs_if xs_n (xs_v fun hc => ⟨0, congrArg some hc⟩)))
noncomputable def sX4_status (x1 : Int32) (z : mm_S) : Option (Int32 × mm_S) := sX4_status_0 x1 z
theorem sp_X4_status (x1 : Int32) (z : mm_S) (hk : ∀ v ∈ [mm_P 4 0, mm_I x1], mm_ok 22 lyTM 22 17 v) (q : Int32 × mm_S) (hq : sX4_status x1 z = some q) : f_X4_status [mm_P 4 0, mm_I x1] z (some (mm_I q.1), q.2) := ⟨Nat.le_of_ble_eq_true rfl, kX4_status_0 x1 z _ q hq rfl⟩
noncomputable def clo_X4_status (as : List mm_V) (z : mm_S) (kk : Option mm_V → mm_S → Option mm_R) : Option mm_R := mm_pr as fun t o0 as => bif Nat.beq t 4 then mm_pi as fun a1 as => (match as with | [] => (sX4_status a1 z).bind fun q => kk (some (mm_I q.1)) q.2 | _ => none) else none
theorem cs_X4_status : mm_cs lyTM 22 22 17 f_X4_status clo_X4_status := by
  intro as z K o hk h
  obtain ⟨t0, o0, r0, rfl, g0⟩ := mm_pr_e h
  obtain ⟨b0, k0⟩ := mm_bif_e g0
  obtain rfl := Nat.eq_of_beq_eq_true b0
  obtain ⟨a1, r1, rfl, g1⟩ := mm_pi_e k0
  rcases r1 with _ | ⟨u, w⟩
  rotate_left
  · cases g1
  obtain rfl : o0 = 0 := ok4 (hk (mm_P 4 o0) (by simp))
  obtain ⟨q, hq, hq2⟩ := Option.bind_eq_some_iff.mp g1
  exact ⟨_, _, sp_X4_status a1 z hk q hq, fun v hv => by cases hv; exact Or.inl ⟨_, rfl⟩, hq2⟩
theorem sV_X4_status {own : String} {R : Room} {ar : Nat → Nat} {k : Nat} (hlink : Cond.methodLink own k yX4_status ∈ lw_gd ∨ ∃ host, (own, k, yX4_status, host) ∈ nmA) (har : ar k = 2) (hr : 2 ≤ R.frames ∧ 43 ≤ R.locals) : mm_okV lyTM lyFA lenM snM 22 22 17 roM rsA nfA nmA [] own R ar k clo_X4_status := by
  refine ⟨yX4_status, cX4_status, 2, some .int, rm_X4_status, f_X4_status, 4, 1, (RX4, TX4, 36), M_X4_status, cs_X4_status, hlink, ⟨wv_X4_status, wz_X4_status, wi_X4_status, wc_X4_status⟩, ⟨by decide +kernel, by decide +kernel, by decide +kernel⟩, har, ⟨rfl, rfl, by decide⟩, ?_, ⟨rfl, rfl, hr.1, hr.2⟩⟩
  intro as z K o h
  obtain ⟨t0, o0, r0, rfl, g0⟩ := mm_pr_e h
  obtain ⟨b0, k0⟩ := mm_bif_e g0
  obtain rfl := Nat.eq_of_beq_eq_true b0
  exact ⟨_, _, rfl⟩
