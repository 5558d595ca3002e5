-- X4_silentNow
noncomputable def lV_X4_silentNow : List (Nat × (List mm_V → mm_S → (Option mm_V → mm_S → Option mm_R) → Option mm_R)) := [(161, clo_X4_cellsOf), (196, clo_X4_reachOf)]
noncomputable def mV_X4_silentNow (k : Nat) (as : List mm_V) (z : mm_S) (kk : Option mm_V → mm_S → Option mm_R) : Option mm_R := match mm_at lV_X4_silentNow k with
  | some f => f as z kk
  | none => none
noncomputable def arV_X4_silentNow (k : Nat) : Nat := (mm_at [(161, 2), (196, 2)] k).getD 0
noncomputable def lS_X4_silentNow : List (Nat × (List mm_V → mm_S → (Option mm_V → mm_S → Option mm_R) → Option mm_R)) := []
noncomputable def mS_X4_silentNow (k : Nat) (as : List mm_V) (z : mm_S) (kk : Option mm_V → mm_S → Option mm_R) : Option mm_R := match mm_at lS_X4_silentNow k with
  | some f => f as z kk
  | none => none
noncomputable def arS_X4_silentNow (k : Nat) : Nat := (mm_at [] k).getD 0
def ct_X4_silentNow : List (Nat × List Nat) := [(14, [0, 1]), (16, [0, 1, 3]), (38, [0, 1, 3])]
noncomputable def go_X4_silentNow : Nat → mm_K := mm_go (fun k => mm_at flX4 k) (fun k => mm_at clX4 k) (fun k => mm_at glX4 k) arV_X4_silentNow arS_X4_silentNow mV_X4_silentNow mS_X4_silentNow lenM roM snM 4 2 tbX4_silentNow ct_X4_silentNow
noncomputable def eX4_silentNow_0 (n : Nat)  (z : mm_S) : Option mm_R := go_X4_silentNow n 0 [(0, mm_P 4 0)] [] z
noncomputable def eX4_silentNow_14 (n : Nat)  (y1 : Int64) (z : mm_S) : Option mm_R := go_X4_silentNow n 14 [(0, mm_P 4 0), (1, mm_J y1)] [] z
noncomputable def eX4_silentNow_16 (n : Nat)  (y1 : Int64) (y3 : Int32) (z : mm_S) : Option mm_R := go_X4_silentNow n 16 [(0, mm_P 4 0), (1, mm_J y1), (3, mm_I y3)] [] z
noncomputable def eX4_silentNow_38 (n : Nat)  (y1 : Int64) (y3 : Int32) (z : mm_S) : Option mm_R := go_X4_silentNow n 38 [(0, mm_P 4 0), (1, mm_J y1), (3, mm_I y3)] [] z
set_option maxRecDepth 100000 in
theorem qX4_silentNow_0 (n : Nat)  (z : mm_S) : eX4_silentNow_0 (n + 1)  z = ((sX4_cellsOf 2 z).bind fun q1 => eX4_silentNow_14 n (68719476735 &&& (q1.1 ^^^ (-1))) q1.2) := rfl
set_option maxRecDepth 100000 in
theorem qX4_silentNow_14 (n : Nat)  (y1 : Int64) (z : mm_S) : eX4_silentNow_14 (n + 1) y1 z = (eX4_silentNow_16 n y1 0 z) := rfl
set_option maxRecDepth 100000 in
theorem qX4_silentNow_16 (n : Nat)  (y1 : Int64) (y3 : Int32) (z : mm_S) : eX4_silentNow_16 (n + 1) y1 y3 z = (if (z.1 1 1) ≤ y3 then some (some (mm_J y1), z) else (sX4_reachOf y3 z).bind fun q2 => eX4_silentNow_38 n (y1 &&& (q2.1 ^^^ (-1))) y3 q2.2) := rfl
set_option maxRecDepth 100000 in
theorem qX4_silentNow_38 (n : Nat)  (y1 : Int64) (y3 : Int32) (z : mm_S) : eX4_silentNow_38 (n + 1) y1 y3 z = (eX4_silentNow_16 n y1 (y3 + 1) z) := rfl
def rm_X4_silentNow : Room := { frames := 5, cells := 0, slots := 0, locals := 120 }
noncomputable def f_X4_silentNow (as : List mm_V) (z : mm_S) (o : mm_R) : Prop := (as.map mm_cat).sum ≤ 4 ∧ ∃ n, go_X4_silentNow n 0 (mm_ar 0 as) [] z = some o
theorem M_X4_silentNow : mm_M lyTM lyFA lenM snM 22 22 17 roM rsA nfA nmA [] yX4_silentNow cX4_silentNow 4 (some .long) rm_X4_silentNow f_X4_silentNow :=
  mm_met (rt := 2) (by decide +kernel) ⟨fun h => absurd h (by decide), fun h => absurd h (by decide), fun h => rfl, fun h => absurd h (by decide)⟩ tbX4_silentNow_ok hsnM okFX4 okLX4 (fun _ h => absurd h List.not_mem_nil) (fun _ _ _ _ => rfl) (fun _ _ _ _ => rfl) (List.forall_mem_cons.mpr ⟨sV_X4_cellsOf (Or.inl lk_X4_161) rfl ⟨by decide, by decide⟩, List.forall_mem_cons.mpr ⟨sV_X4_reachOf (Or.inl lk_X4_196) rfl ⟨by decide, by decide⟩, fun _ h => absurd h List.not_mem_nil⟩⟩) (fun _ h => absurd h List.not_mem_nil)
noncomputable def sX4_silentNow_38 (y1 : Int64) (y3 : Int32) (z : mm_S) : Option ((Int64 × Int32 × mm_S) ⊕ (Int64 × mm_S)) := some (.inl (y1, (y3 + 1), z))
theorem kX4_silentNow_38 (y1 : Int64) (y3 : Int32) (z : mm_S) (oo : mm_R) : mm_Xs (sX4_silentNow_38 y1 y3 z) (mm_mt (fun x : Int64 × Int32 × mm_S => ∃ n, eX4_silentNow_16 n x.1 x.2.1 x.2.2 = some oo) (fun v => (fun v : Int64 × mm_S => ((some (mm_J v.1), v.2) : mm_R)) v = oo)) (fun n => eX4_silentNow_38 n y1 y3 z) oo :=
  xs_row (fun n => qX4_silentNow_38 n y1 y3 z) (xs_v fun hc => hc)
noncomputable def lX4_silentNow_16 (s : Int64 × Int32 × mm_S) : Option ((Int64 × Int32 × mm_S) ⊕ (Int64 × mm_S)) := if (s.2.2.1 1 1) ≤ s.2.1 then some (.inr (s.1, s.2.2)) else (sX4_reachOf s.2.1 s.2.2).bind fun q2 => (sX4_silentNow_38 (s.1 &&& (q2.1 ^^^ (-1))) s.2.1 q2.2)
noncomputable def sX4_silentNow_16 (y1 : Int64) (y3 : Int32) (z : mm_S) : Option (Int64 × mm_S) := mm_wh (lX4_silentNow_16 ) mm_fu (y1, y3, z)
theorem kX4_silentNow_16 (y1 : Int64) (y3 : Int32) (z : mm_S) (oo : mm_R) : mm_Xs (sX4_silentNow_16 y1 y3 z) (fun v => (fun v : Int64 × mm_S => ((some (mm_J v.1), v.2) : mm_R)) v = oo) (fun n => eX4_silentNow_16 n y1 y3 z) oo :=
  xs_wh (stp := lX4_silentNow_16 ) (o := oo) (E := (fun (s : Int64 × Int32 × mm_S) n => eX4_silentNow_16 n s.1 s.2.1 s.2.2)) (C := (fun v => (fun v : Int64 × mm_S => ((some (mm_J v.1), v.2) : mm_R)) v = oo)) (fun s => xs_row (fun n => qX4_silentNow_16 n s.1 s.2.1 s.2.2) (xs_if (xs_v fun hc => ⟨0, congrArg some hc⟩) (xs_bd fun q2 => (kX4_silentNow_38 (s.1 &&& (q2.1 ^^^ (-1))) s.2.1 q2.2 oo)))) mm_fu (y1, y3, z)
noncomputable def sX4_silentNow_14 (y1 : Int64) (z : mm_S) : Option (Int64 × mm_S) := (sX4_silentNow_16 y1 0 z)
theorem kX4_silentNow_14 (y1 : Int64) (z : mm_S) (oo : mm_R) : mm_Xs (sX4_silentNow_14 y1 z) (fun v => (fun v : Int64 × mm_S => ((some (mm_J v.1), v.2) : mm_R)) v = oo) (fun n => eX4_silentNow_14 n y1 z) oo :=
  xs_row (fun n => qX4_silentNow_14 n y1 z) (kX4_silentNow_16 y1 0 z oo)
noncomputable def sX4_silentNow_0  (z : mm_S) : Option (Int64 × mm_S) := (sX4_cellsOf 2 z).bind fun q1 => (sX4_silentNow_14 (68719476735 &&& (q1.1 ^^^ (-1))) q1.2)
theorem kX4_silentNow_0  (z : mm_S) (oo : mm_R) : mm_Xs (sX4_silentNow_0  z) (fun v => (fun v : Int64 × mm_S => ((some (mm_J v.1), v.2) : mm_R)) v = oo) (fun n => eX4_silentNow_0 n  z) oo :=
  xs_row (fun n => qX4_silentNow_0 n z) (xs_bd fun q1 => (kX4_silentNow_14 (68719476735 &&& (q1.1 ^^^ (-1))) q1.2 oo))
noncomputable def sX4_silentNow  (z : mm_S) : Option (Int64 × mm_S) := sX4_silentNow_0  z
theorem sp_X4_silentNow  (z : mm_S) (hk : ∀ v ∈ [mm_P 4 0], mm_ok 22 lyTM 22 17 v) (q : Int64 × mm_S) (hq : sX4_silentNow  z = some q) : f_X4_silentNow [mm_P 4 0] z (some (mm_J q.1), q.2) := ⟨Nat.le_of_ble_eq_true rfl, kX4_silentNow_0  z _ q hq rfl⟩
noncomputable def clo_X4_silentNow (as : List mm_V) (z : mm_S) (kk : Option mm_V → mm_S → Option mm_R) : Option mm_R := mm_pr as fun t o0 as => bif Nat.beq t 4 then (match as with | [] => (sX4_silentNow z).bind fun q => kk (some (mm_J q.1)) q.2 | _ => none) else none
theorem cs_X4_silentNow : mm_cs lyTM 22 22 17 f_X4_silentNow clo_X4_silentNow := by
  intro as z K o hk h
  obtain ⟨t0, o0, r0, rfl, g0⟩ := mm_pr_e h
  obtain ⟨b0, k0⟩ := mm_bif_e g0
  obtain rfl := Nat.eq_of_beq_eq_true b0
  rcases r0 with _ | ⟨u, w⟩
  rotate_left
  · cases k0
  obtain rfl : o0 = 0 := ok4 (hk (mm_P 4 o0) (by simp))
  obtain ⟨q, hq, hq2⟩ := Option.bind_eq_some_iff.mp k0
  exact ⟨_, _, sp_X4_silentNow  z hk q hq, fun v hv => by cases hv; exact Or.inr ⟨_, rfl⟩, hq2⟩
theorem sV_X4_silentNow {own : String} {R : Room} {ar : Nat → Nat} {k : Nat} (hlink : Cond.methodLink own k yX4_silentNow ∈ lw_gd ∨ ∃ host, (own, k, yX4_silentNow, host) ∈ nmA) (har : ar k = 1) (hr : 6 ≤ R.frames ∧ 143 ≤ R.locals) : mm_okV lyTM lyFA lenM snM 22 22 17 roM rsA nfA nmA [] own R ar k clo_X4_silentNow := by
  refine ⟨yX4_silentNow, cX4_silentNow, 4, some .long, rm_X4_silentNow, f_X4_silentNow, 4, 0, (RX4, TX4, 36), M_X4_silentNow, cs_X4_silentNow, hlink, ⟨wv_X4_silentNow, wz_X4_silentNow, wi_X4_silentNow, wc_X4_silentNow⟩, ⟨by decide +kernel, by decide +kernel, by decide +kernel⟩, har, ⟨rfl, rfl, by decide⟩, ?_, ⟨rfl, rfl, hr.1, hr.2⟩⟩
  intro as z K o h
  obtain ⟨t0, o0, r0, rfl, g0⟩ := mm_pr_e h
  obtain ⟨b0, k0⟩ := mm_bif_e g0
  obtain rfl := Nat.eq_of_beq_eq_true b0
  exact ⟨_, _, rfl⟩
-- X4_silent
noncomputable def lV_X4_silent : List (Nat × (List mm_V → mm_S → (Option mm_V → mm_S → Option mm_R) → Option mm_R)) := [(218, clo_X4_silentNow)]
noncomputable def mV_X4_silent (k : Nat) (as : List mm_V) (z : mm_S) (kk : Option mm_V → mm_S → Option mm_R) : Option mm_R := match mm_at lV_X4_silent k with
  | some f => f as z kk
  | none => none
noncomputable def arV_X4_silent (k : Nat) : Nat := (mm_at [(218, 1)] k).getD 0
noncomputable def lS_X4_silent : List (Nat × (List mm_V → mm_S → (Option mm_V → mm_S → Option mm_R) → Option mm_R)) := []
noncomputable def mS_X4_silent (k : Nat) (as : List mm_V) (z : mm_S) (kk : Option mm_V → mm_S → Option mm_R) : Option mm_R := match mm_at lS_X4_silent k with
  | some f => f as z kk
  | none => none
noncomputable def arS_X4_silent (k : Nat) : Nat := (mm_at [] k).getD 0
def ct_X4_silent : List (Nat × List Nat) := []
noncomputable def go_X4_silent : Nat → mm_K := mm_go (fun k => mm_at flX4 k) (fun k => mm_at clX4 k) (fun k => mm_at glX4 k) arV_X4_silent arS_X4_silent mV_X4_silent mS_X4_silent lenM roM snM 1 2 tbX4_silent ct_X4_silent
noncomputable def eX4_silent_0 (n : Nat)  (z : mm_S) : Option mm_R := go_X4_silent n 0 [(0, mm_P 4 0)] [] z
set_option maxRecDepth 100000 in
theorem qX4_silent_0 (n : Nat)  (z : mm_S) : eX4_silent_0 (n + 1)  z = ((sX4_silentNow  z).bind fun q1 => some (some (mm_J q1.1), q1.2)) := rfl
def rm_X4_silent : Room := { frames := 6, cells := 0, slots := 0, locals := 143 }
noncomputable def f_X4_silent (as : List mm_V) (z : mm_S) (o : mm_R) : Prop := (as.map mm_cat).sum ≤ 1 ∧ ∃ n, go_X4_silent n 0 (mm_ar 0 as) [] z = some o
theorem M_X4_silent : mm_M lyTM lyFA lenM snM 22 22 17 roM rsA nfA nmA [] yX4_silent cX4_silent 1 (some .long) rm_X4_silent f_X4_silent :=
  mm_met (rt := 2) (by decide +kernel) ⟨fun h => absurd h (by decide), fun h => absurd h (by decide), fun h => rfl, fun h => absurd h (by decide)⟩ tbX4_silent_ok hsnM okFX4 okLX4 (fun _ h => absurd h List.not_mem_nil) (fun _ _ _ _ => rfl) (fun _ _ _ _ => rfl) (List.forall_mem_cons.mpr ⟨sV_X4_silentNow (Or.inl lk_X4_218) rfl ⟨by decide, by decide⟩, fun _ h => absurd h List.not_mem_nil⟩) (fun _ h => absurd h List.not_mem_nil)
noncomputable def sX4_silent_0  (z : mm_S) : Option (Int64 × mm_S) := (sX4_silentNow  z).bind fun q1 => some (q1.1, q1.2)
theorem kX4_silent_0  (z : mm_S) (oo : mm_R) : mm_Xs (sX4_silent_0  z) (fun v => (fun v : Int64 × mm_S => ((some (mm_J v.1), v.2) : mm_R)) v = oo) (fun n => eX4_silent_0 n  z) oo :=
  xs_row (fun n => qX4_silent_0 n z) (xs_bd fun q1 => (xs_v fun hc => ⟨0, congrArg some hc⟩))
noncomputable def sX4_silent  (z : mm_S) : Option (Int64 × mm_S) := sX4_silent_0  z
theorem sp_X4_silent  (z : mm_S) (hk : ∀ v ∈ [mm_P 4 0], mm_ok 22 lyTM 22 17 v) (q : Int64 × mm_S) (hq : sX4_silent  z = some q) : f_X4_silent [mm_P 4 0] z (some (mm_J q.1), q.2) := ⟨Nat.le_of_ble_eq_true rfl, kX4_silent_0  z _ q hq rfl⟩
noncomputable def clo_X4_silent (as : List mm_V) (z : mm_S) (kk : Option mm_V → mm_S → Option mm_R) : Option mm_R := mm_pr as fun t o0 as => bif Nat.beq t 4 then (match as with | [] => (sX4_silent z).bind fun q => kk (some (mm_J q.1)) q.2 | _ => none) else none
theorem cs_X4_silent : mm_cs lyTM 22 22 17 f_X4_silent clo_X4_silent := by
  intro as z K o hk h
  obtain ⟨t0, o0, r0, rfl, g0⟩ := mm_pr_e h
  obtain ⟨b0, k0⟩ := mm_bif_e g0
  obtain rfl := Nat.eq_of_beq_eq_true b0
  rcases r0 with _ | ⟨u, w⟩
  rotate_left
  · cases k0
  obtain rfl : o0 = 0 := ok4 (hk (mm_P 4 o0) (by simp))
  obtain ⟨q, hq, hq2⟩ := Option.bind_eq_some_iff.mp k0
  exact ⟨_, _, sp_X4_silent  z hk q hq, fun v hv => by cases hv; exact Or.inr ⟨_, rfl⟩, hq2⟩
theorem sV_X4_silent {own : String} {R : Room} {ar : Nat → Nat} {k : Nat} (hlink : Cond.methodLink own k yX4_silent ∈ lw_gd ∨ ∃ host, (own, k, yX4_silent, host) ∈ nmA) (har : ar k = 1) (hr : 7 ≤ R.frames ∧ 163 ≤ R.locals) : mm_okV lyTM lyFA lenM snM 22 22 17 roM rsA nfA nmA [] own R ar k clo_X4_silent := by
  refine ⟨yX4_silent, cX4_silent, 1, some .long, rm_X4_silent, f_X4_silent, 4, 0, (RX4, TX4, 36), M_X4_silent, cs_X4_silent, hlink, ⟨wv_X4_silent, wz_X4_silent, wi_X4_silent, wc_X4_silent⟩, ⟨by decide +kernel, by decide +kernel, by decide +kernel⟩, har, ⟨rfl, rfl, by decide⟩, ?_, ⟨rfl, rfl, hr.1, hr.2⟩⟩
  intro as z K o h
  obtain ⟨t0, o0, r0, rfl, g0⟩ := mm_pr_e h
  obtain ⟨b0, k0⟩ := mm_bif_e g0
  obtain rfl := Nat.eq_of_beq_eq_true b0
  exact ⟨_, _, rfl⟩
-- X4_areTwo
noncomputable def lV_X4_areTwo : List (Nat × (List mm_V → mm_S → (Option mm_V → mm_S → Option mm_R) → Option mm_R)) := [(146, clo_X4_isCrew)]
noncomputable def mV_X4_areTwo (k : Nat) (as : List mm_V) (z : mm_S) (kk : Option mm_V → mm_S → Option mm_R) : Option mm_R := match mm_at lV_X4_areTwo k with
  | some f => f as z kk
  | none => none
noncomputable def arV_X4_areTwo (k : Nat) : Nat := (mm_at [(146, 2)] k).getD 0
noncomputable def lS_X4_areTwo : List (Nat × (List mm_V → mm_S → (Option mm_V → mm_S → Option mm_R) → Option mm_R)) := []
noncomputable def mS_X4_areTwo (k : Nat) (as : List mm_V) (z : mm_S) (kk : Option mm_V → mm_S → Option mm_R) : Option mm_R := match mm_at lS_X4_areTwo k with
  | some f => f as z kk
  | none => none
noncomputable def arS_X4_areTwo (k : Nat) : Nat := (mm_at [] k).getD 0
def ct_X4_areTwo : List (Nat × List Nat) := []
noncomputable def go_X4_areTwo : Nat → mm_K := mm_go (fun k => mm_at flX4 k) (fun k => mm_at clX4 k) (fun k => mm_at glX4 k) arV_X4_areTwo arS_X4_areTwo mV_X4_areTwo mS_X4_areTwo lenM roM snM 3 1 tbX4_areTwo ct_X4_areTwo
noncomputable def eX4_areTwo_0 (n : Nat)  (x1 : Int32) (x2 : Int32) (z : mm_S) : Option mm_R := go_X4_areTwo n 0 [(0, mm_P 4 0), (1, mm_I x1), (2, mm_I x2)] [] z
set_option maxRecDepth 100000 in
theorem qX4_areTwo_0 (n : Nat)  (x1 : Int32) (x2 : Int32) (z : mm_S) : eX4_areTwo_0 (n + 1) x1 x2 z = (if (pX4_isCrew x1 z) = 0 then some (some (mm_I 0), z) else if (pX4_isCrew x2 z) = 0 then some (some (mm_I 0), z) else if x1 = x2 then some (some (mm_I 0), z) else some (some (mm_I 1), z)) := rfl
def rm_X4_areTwo : Room := { frames := 2, cells := 0, slots := 0, locals := 43 }
noncomputable def f_X4_areTwo (as : List mm_V) (z : mm_S) (o : mm_R) : Prop := (as.map mm_cat).sum ≤ 3 ∧ ∃ n, go_X4_areTwo n 0 (mm_ar 0 as) [] z = some o
theorem M_X4_areTwo : mm_M lyTM lyFA lenM snM 22 22 17 roM rsA nfA nmA [] yX4_areTwo cX4_areTwo 3 (some .boolean) rm_X4_areTwo f_X4_areTwo :=
  mm_met (rt := 1) (by decide +kernel) ⟨fun h => absurd h (by decide), fun h => rfl, fun h => absurd h (by decide), fun h => absurd h (by decide)⟩ tbX4_areTwo_ok hsnM okFX4 okLX4 (fun _ h => absurd h List.not_mem_nil) (fun _ _ _ _ => rfl) (fun _ _ _ _ => rfl) (List.forall_mem_cons.mpr ⟨sV_X4_isCrew (Or.inl lk_X4_146) rfl ⟨by decide, by decide⟩, fun _ h => absurd h List.not_mem_nil⟩) (fun _ h => absurd h List.not_mem_nil)
noncomputable def sX4_areTwo_0 (x1 : Int32) (x2 : Int32) (z : mm_S) : Option (Int32 × mm_S) := if (pX4_isCrew x1 z) = 0 then some (0, z) else if (pX4_isCrew x2 z) = 0 then some (0, z) else if x1 = x2 then some (0, z) else some (1, z)
theorem kX4_areTwo_0 (x1 : Int32) (x2 : Int32) (z : mm_S) (oo : mm_R) : mm_Xs (sX4_areTwo_0 x1 x2 z) (fun v => (fun v : Int32 × mm_S => ((some (mm_I v.1), v.2) : mm_R)) v = oo) (fun n => eX4_areTwo_0 n x1 x2 z) oo :=
  xs_row (fun n => qX4_areTwo_0 n x1 x2 z) (xs_if (xs_v fun hc => ⟨0, congrArg some hc⟩) (xs_if (xs_v fun hc => ⟨0, congrArg some hc⟩) (xs_if (xs_v fun hc => ⟨0, congrArg some hc⟩) (xs_v fun hc => ⟨0, congrArg some hc⟩))))
noncomputable def sX4_areTwo (x1 : Int32) (x2 : Int32) (z : mm_S) : Option (Int32 × mm_S) := sX4_areTwo_0 x1 x2 z
theorem sp_X4_areTwo (x1 : Int32) (x2 : Int32) (z : mm_S) (hk : ∀ v ∈ [mm_P 4 0, mm_I x1, mm_I x2], mm_ok 22 lyTM 22 17 v) (q : Int32 × mm_S) (hq : sX4_areTwo x1 x2 z = some q) : f_X4_areTwo [mm_P 4 0, mm_I x1, mm_I x2] z (some (mm_I q.1), q.2) := ⟨Nat.le_of_ble_eq_true rfl, kX4_areTwo_0 x1 x2 z _ q hq rfl⟩
noncomputable def clo_X4_areTwo (as : List mm_V) (z : mm_S) (kk : Option mm_V → mm_S → Option mm_R) : Option mm_R := mm_pr as fun t o0 as => bif Nat.beq t 4 then mm_pi as fun a1 as => mm_pi as fun a2 as => (match as with | [] => (sX4_areTwo a1 a2 z).bind fun q => kk (some (mm_I q.1)) q.2 | _ => none) else none
theorem cs_X4_areTwo : mm_cs lyTM 22 22 17 f_X4_areTwo clo_X4_areTwo := by
  intro as z K o hk h
  obtain ⟨t0, o0, r0, rfl, g0⟩ := mm_pr_e h
  obtain ⟨b0, k0⟩ := mm_bif_e g0
  obtain rfl := Nat.eq_of_beq_eq_true b0
  obtain ⟨a1, r1, rfl, g1⟩ := mm_pi_e k0
  obtain ⟨a2, r2, rfl, g2⟩ := mm_pi_e g1
  rcases r2 with _ | ⟨u, w⟩
  rotate_left
  · cases g2
  obtain rfl : o0 = 0 := ok4 (hk (mm_P 4 o0) (by simp))
  obtain ⟨q, hq, hq2⟩ := Option.bind_eq_some_iff.mp g2
  exact ⟨_, _, sp_X4_areTwo a1 a2 z hk q hq, fun v hv => by cases hv; exact Or.inl ⟨_, rfl⟩, hq2⟩
theorem sV_X4_areTwo {own : String} {R : Room} {ar : Nat → Nat} {k : Nat} (hlink : Cond.methodLink own k yX4_areTwo ∈ lw_gd ∨ ∃ host, (own, k, yX4_areTwo, host) ∈ nmA) (har : ar k = 3) (hr : 3 ≤ R.frames ∧ 65 ≤ R.locals) : mm_okV lyTM lyFA lenM snM 22 22 17 roM rsA nfA nmA [] own R ar k clo_X4_areTwo := by
  refine ⟨yX4_areTwo, cX4_areTwo, 3, some .boolean, rm_X4_areTwo, f_X4_areTwo, 4, 2, (RX4, TX4, 36), M_X4_areTwo, cs_X4_areTwo, hlink, ⟨wv_X4_areTwo, wz_X4_areTwo, wi_X4_areTwo, wc_X4_areTwo⟩, ⟨by decide +kernel, by decide +kernel, by decide +kernel⟩, har, ⟨rfl, rfl, by decide⟩, ?_, ⟨rfl, rfl, hr.1, hr.2⟩⟩
  intro as z K o h
  obtain ⟨t0, o0, r0, rfl, g0⟩ := mm_pr_e h
  obtain ⟨b0, k0⟩ := mm_bif_e g0
  obtain rfl := Nat.eq_of_beq_eq_true b0
  exact ⟨_, _, rfl⟩
-- X4_lag
noncomputable def lV_X4_lag : List (Nat × (List mm_V → mm_S → (Option mm_V → mm_S → Option mm_R) → Option mm_R)) := [(124, clo_X4_finding), (192, clo_X4_findHeard), (222, clo_X4_areTwo)]
noncomputable def mV_X4_lag (k : Nat) (as : List mm_V) (z : mm_S) (kk : Option mm_V → mm_S → Option mm_R) : Option mm_R := match mm_at lV_X4_lag k with
  | some f => f as z kk
  | none => none
noncomputable def arV_X4_lag (k : Nat) : Nat := (mm_at [(124, 2), (192, 3), (222, 3)] k).getD 0
noncomputable def lS_X4_lag : List (Nat × (List mm_V → mm_S → (Option mm_V → mm_S → Option mm_R) → Option mm_R)) := [(114, clo_X4_isCell)]
noncomputable def mS_X4_lag (k : Nat) (as : List mm_V) (z : mm_S) (kk : Option mm_V → mm_S → Option mm_R) : Option mm_R := match mm_at lS_X4_lag k with
  | some f => f as z kk
  | none => none
noncomputable def arS_X4_lag (k : Nat) : Nat := (mm_at [(114, 1)] k).getD 0
def ct_X4_lag : List (Nat × List Nat) := [(9, [0, 1, 2, 3]), (23, [0, 1, 2, 3]), (32, [0, 2, 3]), (41, [0, 3])]
noncomputable def go_X4_lag : Nat → mm_K := mm_go (fun k => mm_at flX4 k) (fun k => mm_at clX4 k) (fun k => mm_at glX4 k) arV_X4_lag arS_X4_lag mV_X4_lag mS_X4_lag lenM roM snM 5 0 tbX4_lag ct_X4_lag
noncomputable def eX4_lag_0 (n : Nat)  (x1 : Int32) (x2 : Int32) (x3 : Int32) (z : mm_S) : Option mm_R := go_X4_lag n 0 [(0, mm_P 4 0), (1, mm_I x1), (2, mm_I x2), (3, mm_I x3)] [] z
noncomputable def eX4_lag_9 (n : Nat)  (y1 : Int32) (y2 : Int32) (y3 : Int32) (z : mm_S) : Option mm_R := go_X4_lag n 9 [(0, mm_P 4 0), (1, mm_I y1), (2, mm_I y2), (3, mm_I y3)] [] z
noncomputable def eX4_lag_23 (n : Nat)  (y1 : Int32) (y2 : Int32) (y3 : Int32) (z : mm_S) : Option mm_R := go_X4_lag n 23 [(0, mm_P 4 0), (1, mm_I y1), (2, mm_I y2), (3, mm_I y3)] [] z
noncomputable def eX4_lag_32 (n : Nat)  (y2 : Int32) (y3 : Int32) (z : mm_S) : Option mm_R := go_X4_lag n 32 [(0, mm_P 4 0), (2, mm_I y2), (3, mm_I y3)] [] z
noncomputable def eX4_lag_41 (n : Nat)  (y3 : Int32) (z : mm_S) : Option mm_R := go_X4_lag n 41 [(0, mm_P 4 0), (3, mm_I y3)] [] z
set_option maxRecDepth 100000 in
theorem qX4_lag_0 (n : Nat)  (x1 : Int32) (x2 : Int32) (x3 : Int32) (z : mm_S) : eX4_lag_0 (n + 1) x1 x2 x3 z = ((sX4_areTwo x1 x2 z).bind fun q1 => if q1.1 = 0 then (sX4_finding (-1000001) q1.2).bind fun q2 => some (some (mm_I q2.1), q2.2) else eX4_lag_9 n x1 x2 x3 q1.2) := rfl
set_option maxRecDepth 100000 in
theorem qX4_lag_9 (n : Nat)  (y1 : Int32) (y2 : Int32) (y3 : Int32) (z : mm_S) : eX4_lag_9 (n + 1) y1 y2 y3 z = (if (pX4_isCell y3) = 0 then (sX4_finding (-1000001) z).bind fun q3 => some (some (mm_I q3.1), q3.2) else eX4_lag_23 n y1 y2 y3 z) := rfl
set_option maxRecDepth 100000 in
theorem qX4_lag_23 (n : Nat)  (y1 : Int32) (y2 : Int32) (y3 : Int32) (z : mm_S) : eX4_lag_23 (n + 1) y1 y2 y3 z = ((sX4_findHeard y1 7 z).bind fun q4 => eX4_lag_32 n y2 y3 q4) := rfl
set_option maxRecDepth 100000 in
theorem qX4_lag_32 (n : Nat)  (y2 : Int32) (y3 : Int32) (z : mm_S) : eX4_lag_32 (n + 1) y2 y3 z = ((sX4_findHeard y2 8 z).bind fun q5 => eX4_lag_41 n y3 q5) := rfl
set_option maxRecDepth 100000 in
theorem qX4_lag_41 (n : Nat)  (y3 : Int32) (z : mm_S) : eX4_lag_41 (n + 1) y3 z = (if y3 < 0 ∨ 36 ≤ Int32.toNatClampNeg y3 then none else if 10000 ≤ (z.1 7 (Int32.toNatClampNeg y3)) then (sX4_finding (-1000004) z).bind fun q6 => some (some (mm_I q6.1), q6.2) else if y3 < 0 ∨ 36 ≤ Int32.toNatClampNeg y3 then none else if 10000 ≤ (z.1 8 (Int32.toNatClampNeg y3)) then (sX4_finding (-1000004) z).bind fun q7 => some (some (mm_I q7.1), q7.2) else if y3 < 0 ∨ 36 ≤ Int32.toNatClampNeg y3 then none else if y3 < 0 ∨ 36 ≤ Int32.toNatClampNeg y3 then none else some (some (mm_I ((z.1 8 (Int32.toNatClampNeg y3)) - (z.1 7 (Int32.toNatClampNeg y3)))), z)) := rfl
def rm_X4_lag : Room := { frames := 4, cells := 0, slots := 0, locals := 96 }
noncomputable def f_X4_lag (as : List mm_V) (z : mm_S) (o : mm_R) : Prop := (as.map mm_cat).sum ≤ 5 ∧ ∃ n, go_X4_lag n 0 (mm_ar 0 as) [] z = some o
theorem M_X4_lag : mm_M lyTM lyFA lenM snM 22 22 17 roM rsA nfA nmA [] yX4_lag cX4_lag 5 (some .int) rm_X4_lag f_X4_lag :=
  mm_met (rt := 0) (by decide +kernel) ⟨fun h => rfl, fun h => absurd h (by decide), fun h => absurd h (by decide), fun h => absurd h (by decide)⟩ tbX4_lag_ok hsnM okFX4 okLX4 (fun _ h => absurd h List.not_mem_nil) (fun _ _ _ _ => rfl) (fun _ _ _ _ => rfl) (List.forall_mem_cons.mpr ⟨sV_X4_finding (Or.inl lk_X4_124) rfl ⟨by decide, by decide⟩, List.forall_mem_cons.mpr ⟨sV_X4_findHeard (Or.inl lk_X4_192) rfl ⟨by decide, by decide⟩, List.forall_mem_cons.mpr ⟨sV_X4_areTwo (Or.inl lk_X4_222) rfl ⟨by decide, by decide⟩, fun _ h => absurd h List.not_mem_nil⟩⟩⟩) (List.forall_mem_cons.mpr ⟨sS_X4_isCell (Or.inl lk_X4_114) rfl ⟨by decide, by decide⟩, fun _ h => absurd h List.not_mem_nil⟩)
noncomputable def sX4_lag_41 (y3 : Int32) (z : mm_S) : Option (Int32 × mm_S) := if y3 < 0 ∨ 36 ≤ Int32.toNatClampNeg y3 then none else if 10000 ≤ (z.1 7 (Int32.toNatClampNeg y3)) then (sX4_finding (-1000004) z).bind fun q6 => some (q6.1, q6.2) else if y3 < 0 ∨ 36 ≤ Int32.toNatClampNeg y3 then none else if 10000 ≤ (z.1 8 (Int32.toNatClampNeg y3)) then (sX4_finding (-1000004) z).bind fun q7 => some (q7.1, q7.2) else if y3 < 0 ∨ 36 ≤ Int32.toNatClampNeg y3 then none else if y3 < 0 ∨ 36 ≤ Int32.toNatClampNeg y3 then none else some (((z.1 8 (Int32.toNatClampNeg y3)) - (z.1 7 (Int32.toNatClampNeg y3))), z)
theorem kX4_lag_41 (y3 : Int32) (z : mm_S) (oo : mm_R) : mm_Xs (sX4_lag_41 y3 z) (fun v => (fun v : Int32 × mm_S => ((some (mm_I v.1), v.2) : mm_R)) v = oo) (fun n => eX4_lag_41 n y3 z) oo :=
  xs_row (fun n => qX4_lag_41 n y3 z) (xs_if xs_n (xs_if (xs_bd fun q6 => (xs_v fun hc => ⟨0, congrArg some hc⟩)) (xs_if xs_n (xs_if (xs_bd fun q7 => (xs_v fun hc => ⟨0, congrArg some hc⟩)) (xs_if xs_n (xs_if xs_n (xs_v fun hc => ⟨0, congrArg some hc⟩)))))))
noncomputable def sX4_lag_32 (y2 : Int32) (y3 : Int32) (z : mm_S) : Option (Int32 × mm_S) := (sX4_findHeard y2 8 z).bind fun q5 => (sX4_lag_41 y3 q5)
theorem kX4_lag_32 (y2 : Int32) (y3 : Int32) (z : mm_S) (oo : mm_R) : mm_Xs (sX4_lag_32 y2 y3 z) (fun v => (fun v : Int32 × mm_S => ((some (mm_I v.1), v.2) : mm_R)) v = oo) (fun n => eX4_lag_32 n y2 y3 z) oo :=
  xs_row (fun n => qX4_lag_32 n y2 y3 z) (xs_bd fun q5 => (kX4_lag_41 y3 q5 oo))
noncomputable def sX4_lag_23 (y1 : Int32) (y2 : Int32) (y3 : Int32) (z : mm_S) : Option (Int32 × mm_S) := (sX4_findHeard y1 7 z).bind fun q4 => (sX4_lag_32 y2 y3 q4)
theorem kX4_lag_23 (y1 : Int32) (y2 : Int32) (y3 : Int32) (z : mm_S) (oo : mm_R) : mm_Xs (sX4_lag_23 y1 y2 y3 z) (fun v => (fun v : Int32 × mm_S => ((some (mm_I v.1), v.2) : mm_R)) v = oo) (fun n => eX4_lag_23 n y1 y2 y3 z) oo :=
  xs_row (fun n => qX4_lag_23 n y1 y2 y3 z) (xs_bd fun q4 => (kX4_lag_32 y2 y3 q4 oo))
noncomputable def sX4_lag_9 (y1 : Int32) (y2 : Int32) (y3 : Int32) (z : mm_S) : Option (Int32 × mm_S) := if (pX4_isCell y3) = 0 then (sX4_finding (-1000001) z).bind fun q3 => some (q3.1, q3.2) else (sX4_lag_23 y1 y2 y3 z)
theorem kX4_lag_9 (y1 : Int32) (y2 : Int32) (y3 : Int32) (z : mm_S) (oo : mm_R) : mm_Xs (sX4_lag_9 y1 y2 y3 z) (fun v => (fun v : Int32 × mm_S => ((some (mm_I v.1), v.2) : mm_R)) v = oo) (fun n => eX4_lag_9 n y1 y2 y3 z) oo :=
  xs_row (fun n => qX4_lag_9 n y1 y2 y3 z) (xs_if (xs_bd fun q3 => (xs_v fun hc => ⟨0, congrArg some hc⟩)) (kX4_lag_23 y1 y2 y3 z oo))
noncomputable def sX4_lag_0 (x1 : Int32) (x2 : Int32) (x3 : Int32) (z : mm_S) : Option (Int32 × mm_S) := (sX4_areTwo x1 x2 z).bind fun q1 => if q1.1 = 0 then (sX4_finding (-1000001) q1.2).bind fun q2 => some (q2.1, q2.2) else (sX4_lag_9 x1 x2 x3 q1.2)
theorem kX4_lag_0 (x1 : Int32) (x2 : Int32) (x3 : Int32) (z : mm_S) (oo : mm_R) : mm_Xs (sX4_lag_0 x1 x2 x3 z) (fun v => (fun v : Int32 × mm_S => ((some (mm_I v.1), v.2) : mm_R)) v = oo) (fun n => eX4_lag_0 n x1 x2 x3 z) oo :=
  xs_row (fun n => qX4_lag_0 n x1 x2 x3 z) (xs_bd fun q1 => (xs_if (xs_bd fun q2 => (xs_v fun hc => ⟨0, congrArg some hc⟩)) (kX4_lag_9 x1 x2 x3 q1.2 oo)))
noncomputable def sX4_lag (x1 : Int32) (x2 : Int32) (x3 : Int32) (z : mm_S) : Option (Int32 × mm_S) := sX4_lag_0 x1 x2 x3 z
theorem sp_X4_lag (x1 : Int32) (x2 : Int32) (x3 : Int32) (z : mm_S) (hk : ∀ v ∈ [mm_P 4 0, mm_I x1, mm_I x2, mm_I x3], mm_ok 22 lyTM 22 17 v) (q : Int32 × mm_S) (hq : sX4_lag x1 x2 x3 z = some q) : f_X4_lag [mm_P 4 0, mm_I x1, mm_I x2, mm_I x3] z (some (mm_I q.1), q.2) := ⟨Nat.le_of_ble_eq_true rfl, kX4_lag_0 x1 x2 x3 z _ q hq rfl⟩
noncomputable def clo_X4_lag (as : List mm_V) (z : mm_S) (kk : Option mm_V → mm_S → Option mm_R) : Option mm_R := mm_pr as fun t o0 as => bif Nat.beq t 4 then mm_pi as fun a1 as => mm_pi as fun a2 as => mm_pi as fun a3 as => (match as with | [] => (sX4_lag a1 a2 a3 z).bind fun q => kk (some (mm_I q.1)) q.2 | _ => none) else none
theorem cs_X4_lag : mm_cs lyTM 22 22 17 f_X4_lag clo_X4_lag := by
  intro as z K o hk h
  obtain ⟨t0, o0, r0, rfl, g0⟩ := mm_pr_e h
  obtain ⟨b0, k0⟩ := mm_bif_e g0
  obtain rfl := Nat.eq_of_beq_eq_true b0
  obtain ⟨a1, r1, rfl, g1⟩ := mm_pi_e k0
  obtain ⟨a2, r2, rfl, g2⟩ := mm_pi_e g1
  obtain ⟨a3, r3, rfl, g3⟩ := mm_pi_e g2
  rcases r3 with _ | ⟨u, w⟩
  rotate_left
  · cases g3
  obtain rfl : o0 = 0 := ok4 (hk (mm_P 4 o0) (by simp))
  obtain ⟨q, hq, hq2⟩ := Option.bind_eq_some_iff.mp g3
  exact ⟨_, _, sp_X4_lag a1 a2 a3 z hk q hq, fun v hv => by cases hv; exact Or.inl ⟨_, rfl⟩, hq2⟩
theorem sV_X4_lag {own : String} {R : Room} {ar : Nat → Nat} {k : Nat} (hlink : Cond.methodLink own k yX4_lag ∈ lw_gd ∨ ∃ host, (own, k, yX4_lag, host) ∈ nmA) (har : ar k = 4) (hr : 5 ≤ R.frames ∧ 120 ≤ R.locals) : mm_okV lyTM lyFA lenM snM 22 22 17 roM rsA nfA nmA [] own R ar k clo_X4_lag := by
  refine ⟨yX4_lag, cX4_lag, 5, some .int, rm_X4_lag, f_X4_lag, 4, 3, (RX4, TX4, 36), M_X4_lag, cs_X4_lag, hlink, ⟨wv_X4_lag, wz_X4_lag, wi_X4_lag, wc_X4_lag⟩, ⟨by decide +kernel, by decide +kernel, by decide +kernel⟩, har, ⟨rfl, rfl, by decide⟩, ?_, ⟨rfl, rfl, hr.1, hr.2⟩⟩
  intro as z K o h
  obtain ⟨t0, o0, r0, rfl, g0⟩ := mm_pr_e h
  obtain ⟨b0, k0⟩ := mm_bif_e g0
  obtain rfl := Nat.eq_of_beq_eq_true b0
  exact ⟨_, _, rfl⟩
-- X4_apart
noncomputable def lV_X4_apart : List (Nat × (List mm_V → mm_S → (Option mm_V → mm_S → Option mm_R) → Option mm_R)) := [(124, clo_X4_finding), (192, clo_X4_findHeard), (222, clo_X4_areTwo)]
noncomputable def mV_X4_apart (k : Nat) (as : List mm_V) (z : mm_S) (kk : Option mm_V → mm_S → Option mm_R) : Option mm_R := match mm_at lV_X4_apart k with
  | some f => f as z kk
  | none => none
noncomputable def arV_X4_apart (k : Nat) : Nat := (mm_at [(124, 2), (192, 3), (222, 3)] k).getD 0
noncomputable def lS_X4_apart : List (Nat × (List mm_V → mm_S → (Option mm_V → mm_S → Option mm_R) → Option mm_R)) := [(106, clo_X4_within)]
noncomputable def mS_X4_apart (k : Nat) (as : List mm_V) (z : mm_S) (kk : Option mm_V → mm_S → Option mm_R) : Option mm_R := match mm_at lS_X4_apart k with
  | some f => f as z kk
  | none => none
noncomputable def arS_X4_apart (k : Nat) : Nat := (mm_at [(106, 3)] k).getD 0
def ct_X4_apart : List (Nat × List Nat) := [(9, [0]), (16, [0, 1, 2]), (25, [0, 2]), (34, [0]), (40, [0, 3, 4])]
noncomputable def go_X4_apart : Nat → mm_K := mm_go (fun k => mm_at flX4 k) (fun k => mm_at clX4 k) (fun k => mm_at glX4 k) arV_X4_apart arS_X4_apart mV_X4_apart mS_X4_apart lenM roM snM 7 0 tbX4_apart ct_X4_apart
noncomputable def eX4_apart_0 (n : Nat)  (x1 : Int32) (x2 : Int32) (z : mm_S) : Option mm_R := go_X4_apart n 0 [(0, mm_P 4 0), (1, mm_I x1), (2, mm_I x2)] [] z
noncomputable def eX4_apart_16 (n : Nat)  (y1 : Int32) (y2 : Int32) (z : mm_S) : Option mm_R := go_X4_apart n 16 [(0, mm_P 4 0), (1, mm_I y1), (2, mm_I y2)] [] z
noncomputable def eX4_apart_9 (n : Nat)  (z : mm_S) : Option mm_R := go_X4_apart n 9 [(0, mm_P 4 0)] [] z
noncomputable def eX4_apart_25 (n : Nat)  (y2 : Int32) (z : mm_S) : Option mm_R := go_X4_apart n 25 [(0, mm_P 4 0), (2, mm_I y2)] [] z
noncomputable def eX4_apart_34 (n : Nat)  (z : mm_S) : Option mm_R := go_X4_apart n 34 [(0, mm_P 4 0)] [] z
noncomputable def eX4_apart_40 (n : Nat)  (y3 : Int32) (y4 : Int32) (z : mm_S) : Option mm_R := go_X4_apart n 40 [(0, mm_P 4 0), (3, mm_I y3), (4, mm_I y4)] [] z
set_option maxRecDepth 100000 in
theorem qX4_apart_0 (n : Nat)  (x1 : Int32) (x2 : Int32) (z : mm_S) : eX4_apart_0 (n + 1) x1 x2 z = ((sX4_areTwo x1 x2 z).bind fun q1 => if q1.1 = 0 then eX4_apart_9 n  q1.2 else eX4_apart_16 n x1 x2 q1.2) := rfl
set_option maxRecDepth 100000 in
theorem qX4_apart_16 (n : Nat)  (y1 : Int32) (y2 : Int32) (z : mm_S) : eX4_apart_16 (n + 1) y1 y2 z = ((sX4_findHeard y1 7 z).bind fun q2 => eX4_apart_25 n y2 q2) := rfl
set_option maxRecDepth 100000 in
theorem qX4_apart_9 (n : Nat)  (z : mm_S) : eX4_apart_9 (n + 1)  z = ((sX4_finding (-1000001) z).bind fun q3 => some (some (mm_I q3.1), q3.2)) := rfl
set_option maxRecDepth 100000 in
theorem qX4_apart_25 (n : Nat)  (y2 : Int32) (z : mm_S) : eX4_apart_25 (n + 1) y2 z = ((sX4_findHeard y2 8 z).bind fun q4 => eX4_apart_34 n  q4) := rfl
set_option maxRecDepth 100000 in
theorem qX4_apart_34 (n : Nat)  (z : mm_S) : eX4_apart_34 (n + 1)  z = (eX4_apart_40 n 2147483647 0 z) := rfl
set_option maxRecDepth 100000 in
theorem qX4_apart_40 (n : Nat)  (y3 : Int32) (y4 : Int32) (z : mm_S) : eX4_apart_40 (n + 1) y3 y4 z = (if 36 ≤ y4 then some (some (mm_I y3), z) else if y4 < 0 ∨ 36 ≤ Int32.toNatClampNeg y4 then none else if y4 < 0 ∨ 36 ≤ Int32.toNatClampNeg y4 then none else let v5 : Int32 := ((z.1 7 (Int32.toNatClampNeg y4)) - (z.1 8 (Int32.toNatClampNeg y4))); if y4 < 0 ∨ 36 ≤ Int32.toNatClampNeg y4 then none else if 10000 ≤ (z.1 7 (Int32.toNatClampNeg y4)) then eX4_apart_40 n (y3 &&& (-1)) (y4 + 1) z else if y4 < 0 ∨ 36 ≤ Int32.toNatClampNeg y4 then none else if 10000 ≤ (z.1 8 (Int32.toNatClampNeg y4)) then eX4_apart_40 n (y3 &&& (-1)) (y4 + 1) z else if (pX4_within v5 0 30) = 0 then eX4_apart_40 n (y3 &&& (-1)) (y4 + 1) z else eX4_apart_40 n (y3 &&& ((1 <<< (v5 &&& 31)) ^^^ (-1))) (y4 + 1) z) := rfl
def rm_X4_apart : Room := { frames := 4, cells := 0, slots := 0, locals := 96 }
noncomputable def f_X4_apart (as : List mm_V) (z : mm_S) (o : mm_R) : Prop := (as.map mm_cat).sum ≤ 7 ∧ ∃ n, go_X4_apart n 0 (mm_ar 0 as) [] z = some o
theorem M_X4_apart : mm_M lyTM lyFA lenM snM 22 22 17 roM rsA nfA nmA [] yX4_apart cX4_apart 7 (some .int) rm_X4_apart f_X4_apart :=
  mm_met (rt := 0) (by decide +kernel) ⟨fun h => rfl, fun h => absurd h (by decide), fun h => absurd h (by decide), fun h => absurd h (by decide)⟩ tbX4_apart_ok hsnM okFX4 okLX4 (fun _ h => absurd h List.not_mem_nil) (fun _ _ _ _ => rfl) (fun _ _ _ _ => rfl) (List.forall_mem_cons.mpr ⟨sV_X4_finding (Or.inl lk_X4_124) rfl ⟨by decide, by decide⟩, List.forall_mem_cons.mpr ⟨sV_X4_findHeard (Or.inl lk_X4_192) rfl ⟨by decide, by decide⟩, List.forall_mem_cons.mpr ⟨sV_X4_areTwo (Or.inl lk_X4_222) rfl ⟨by decide, by decide⟩, fun _ h => absurd h List.not_mem_nil⟩⟩⟩) (List.forall_mem_cons.mpr ⟨sS_X4_within (Or.inl lk_X4_106) rfl ⟨by decide, by decide⟩, fun _ h => absurd h List.not_mem_nil⟩)
noncomputable def sX4_apart_9  (z : mm_S) : Option (Int32 × mm_S) := (sX4_finding (-1000001) z).bind fun q3 => some (q3.1, q3.2)
theorem kX4_apart_9  (z : mm_S) (oo : mm_R) : mm_Xs (sX4_apart_9  z) (fun v => (fun v : Int32 × mm_S => ((some (mm_I v.1), v.2) : mm_R)) v = oo) (fun n => eX4_apart_9 n  z) oo :=
  xs_row (fun n => qX4_apart_9 n z) (xs_bd fun q3 => (xs_v fun hc => ⟨0, congrArg some hc⟩))
noncomputable def lX4_apart_40 (s : Int32 × Int32 × mm_S) : Option ((Int32 × Int32 × mm_S) ⊕ (Int32 × mm_S)) := if 36 ≤ s.2.1 then some (.inr (s.1, s.2.2)) else if s.2.1 < 0 ∨ 36 ≤ Int32.toNatClampNeg s.2.1 then none else if s.2.1 < 0 ∨ 36 ≤ Int32.toNatClampNeg s.2.1 then none else let v5 : Int32 := ((s.2.2.1 7 (Int32.toNatClampNeg s.2.1)) - (s.2.2.1 8 (Int32.toNatClampNeg s.2.1))); if s.2.1 < 0 ∨ 36 ≤ Int32.toNatClampNeg s.2.1 then none else if 10000 ≤ (s.2.2.1 7 (Int32.toNatClampNeg s.2.1)) then some (.inl ((s.1 &&& (-1)), (s.2.1 + 1), s.2.2)) else if s.2.1 < 0 ∨ 36 ≤ Int32.toNatClampNeg s.2.1 then none else if 10000 ≤ (s.2.2.1 8 (Int32.toNatClampNeg s.2.1)) then some (.inl ((s.1 &&& (-1)), (s.2.1 + 1), s.2.2)) else if (pX4_within v5 0 30) = 0 then some (.inl ((s.1 &&& (-1)), (s.2.1 + 1), s.2.2)) else some (.inl ((s.1 &&& ((1 <<< (v5 &&& 31)) ^^^ (-1))), (s.2.1 + 1), s.2.2))
noncomputable def sX4_apart_40 (y3 : Int32) (y4 : Int32) (z : mm_S) : Option (Int32 × mm_S) := mm_wh (lX4_apart_40 ) mm_fu (y3, y4, z)
theorem kX4_apart_40 (y3 : Int32) (y4 : Int32) (z : mm_S) (oo : mm_R) : mm_Xs (sX4_apart_40 y3 y4 z) (fun v => (fun v : Int32 × mm_S => ((some (mm_I v.1), v.2) : mm_R)) v = oo) (fun n => eX4_apart_40 n y3 y4 z) oo :=
  xs_wh (stp := lX4_apart_40 ) (o := oo) (E := (fun (s : Int32 × Int32 × mm_S) n => eX4_apart_40 n s.1 s.2.1 s.2.2)) (C := (fun v => (fun v : Int32 × mm_S => ((some (mm_I v.1), v.2) : mm_R)) v = oo)) (fun s => xs_row (fun n => qX4_apart_40 n s.1 s.2.1 s.2.2) (xs_if (xs_v fun hc => ⟨0, congrArg some hc⟩) (xs_if xs_n (xs_if xs_n (let v5 : Int32 := ((s.2.2.1 7 (Int32.toNatClampNeg s.2.1)) - (s.2.2.1 8 (Int32.toNatClampNeg s.2.1))); (xs_if xs_n (xs_if (xs_v fun hc => hc) (xs_if xs_n (xs_if (xs_v fun hc => hc) (xs_if (xs_v fun hc => hc) (xs_v fun hc => hc))))))))))) mm_fu (y3, y4, z)
noncomputable def sX4_apart_34  (z : mm_S) : Option (Int32 × mm_S) := (sX4_apart_40 2147483647 0 z)
theorem kX4_apart_34  (z : mm_S) (oo : mm_R) : mm_Xs (sX4_apart_34  z) (fun v => (fun v : Int32 × mm_S => ((some (mm_I v.1), v.2) : mm_R)) v = oo) (fun n => eX4_apart_34 n  z) oo :=
  xs_row (fun n => qX4_apart_34 n z) (kX4_apart_40 2147483647 0 z oo)
noncomputable def sX4_apart_25 (y2 : Int32) (z : mm_S) : Option (Int32 × mm_S) := (sX4_findHeard y2 8 z).bind fun q4 => (sX4_apart_34 q4)
theorem kX4_apart_25 (y2 : Int32) (z : mm_S) (oo : mm_R) : mm_Xs (sX4_apart_25 y2 z) (fun v => (fun v : Int32 × mm_S => ((some (mm_I v.1), v.2) : mm_R)) v = oo) (fun n => eX4_apart_25 n y2 z) oo :=
  xs_row (fun n => qX4_apart_25 n y2 z) (xs_bd fun q4 => (kX4_apart_34 q4 oo))
noncomputable def sX4_apart_16 (y1 : Int32) (y2 : Int32) (z : mm_S) : Option (Int32 × mm_S) := (sX4_findHeard y1 7 z).bind fun q2 => (sX4_apart_25 y2 q2)
theorem kX4_apart_16 (y1 : Int32) (y2 : Int32) (z : mm_S) (oo : mm_R) : mm_Xs (sX4_apart_16 y1 y2 z) (fun v => (fun v : Int32 × mm_S => ((some (mm_I v.1), v.2) : mm_R)) v = oo) (fun n => eX4_apart_16 n y1 y2 z) oo :=
  xs_row (fun n => qX4_apart_16 n y1 y2 z) (xs_bd fun q2 => (kX4_apart_25 y2 q2 oo))
noncomputable def sX4_apart_0 (x1 : Int32) (x2 : Int32) (z : mm_S) : Option (Int32 × mm_S) := (sX4_areTwo x1 x2 z).bind fun q1 => if q1.1 = 0 then (sX4_apart_9 q1.2) else (sX4_apart_16 x1 x2 q1.2)
theorem kX4_apart_0 (x1 : Int32) (x2 : Int32) (z : mm_S) (oo : mm_R) : mm_Xs (sX4_apart_0 x1 x2 z) (fun v => (fun v : Int32 × mm_S => ((some (mm_I v.1), v.2) : mm_R)) v = oo) (fun n => eX4_apart_0 n x1 x2 z) oo :=
  xs_row (fun n => qX4_apart_0 n x1 x2 z) (xs_bd fun q1 => (xs_if (kX4_apart_9 q1.2 oo) (kX4_apart_16 x1 x2 q1.2 oo)))
noncomputable def sX4_apart (x1 : Int32) (x2 : Int32) (z : mm_S) : Option (Int32 × mm_S) := sX4_apart_0 x1 x2 z
theorem sp_X4_apart (x1 : Int32) (x2 : Int32) (z : mm_S) (hk : ∀ v ∈ [mm_P 4 0, mm_I x1, mm_I x2], mm_ok 22 lyTM 22 17 v) (q : Int32 × mm_S) (hq : sX4_apart x1 x2 z = some q) : f_X4_apart [mm_P 4 0, mm_I x1, mm_I x2] z (some (mm_I q.1), q.2) := ⟨Nat.le_of_ble_eq_true rfl, kX4_apart_0 x1 x2 z _ q hq rfl⟩
noncomputable def clo_X4_apart (as : List mm_V) (z : mm_S) (kk : Option mm_V → mm_S → Option mm_R) : Option mm_R := mm_pr as fun t o0 as => bif Nat.beq t 4 then mm_pi as fun a1 as => mm_pi as fun a2 as => (match as with | [] => (sX4_apart a1 a2 z).bind fun q => kk (some (mm_I q.1)) q.2 | _ => none) else none
theorem cs_X4_apart : mm_cs lyTM 22 22 17 f_X4_apart clo_X4_apart := by
  intro as z K o hk h
  obtain ⟨t0, o0, r0, rfl, g0⟩ := mm_pr_e h
  obtain ⟨b0, k0⟩ := mm_bif_e g0
  obtain rfl := Nat.eq_of_beq_eq_true b0
  obtain ⟨a1, r1, rfl, g1⟩ := mm_pi_e k0
  obtain ⟨a2, r2, rfl, g2⟩ := mm_pi_e g1
  rcases r2 with _ | ⟨u, w⟩
  rotate_left
  · cases g2
  obtain rfl : o0 = 0 := ok4 (hk (mm_P 4 o0) (by simp))
  obtain ⟨q, hq, hq2⟩ := Option.bind_eq_some_iff.mp g2
  exact ⟨_, _, sp_X4_apart a1 a2 z hk q hq, fun v hv => by cases hv; exact Or.inl ⟨_, rfl⟩, hq2⟩
theorem sV_X4_apart {own : String} {R : Room} {ar : Nat → Nat} {k : Nat} (hlink : Cond.methodLink own k yX4_apart ∈ lw_gd ∨ ∃ host, (own, k, yX4_apart, host) ∈ nmA) (har : ar k = 3) (hr : 5 ≤ R.frames ∧ 122 ≤ R.locals) : mm_okV lyTM lyFA lenM snM 22 22 17 roM rsA nfA nmA [] own R ar k clo_X4_apart := by
  refine ⟨yX4_apart, cX4_apart, 7, some .int, rm_X4_apart, f_X4_apart, 4, 2, (RX4, TX4, 36), M_X4_apart, cs_X4_apart, hlink, ⟨wv_X4_apart, wz_X4_apart, wi_X4_apart, wc_X4_apart⟩, ⟨by decide +kernel, by decide +kernel, by decide +kernel⟩, har, ⟨rfl, rfl, by decide⟩, ?_, ⟨rfl, rfl, hr.1, hr.2⟩⟩
  intro as z K o h
  obtain ⟨t0, o0, r0, rfl, g0⟩ := mm_pr_e h
  obtain ⟨b0, k0⟩ := mm_bif_e g0
  obtain rfl := Nat.eq_of_beq_eq_true b0
  exact ⟨_, _, rfl⟩
-- X4_from
noncomputable def lV_X4_from : List (Nat × (List mm_V → mm_S → (Option mm_V → mm_S → Option mm_R) → Option mm_R)) := [(124, clo_X4_finding), (139, clo_X4_crewIs), (181, clo_X4_findTimes), (222, clo_X4_areTwo)]
noncomputable def mV_X4_from (k : Nat) (as : List mm_V) (z : mm_S) (kk : Option mm_V → mm_S → Option mm_R) : Option mm_R := match mm_at lV_X4_from k with
  | some f => f as z kk
  | none => none
noncomputable def arV_X4_from (k : Nat) : Nat := (mm_at [(124, 2), (139, 3), (181, 4), (222, 3)] k).getD 0
noncomputable def lS_X4_from : List (Nat × (List mm_V → mm_S → (Option mm_V → mm_S → Option mm_R) → Option mm_R)) := [(106, clo_X4_within)]
noncomputable def mS_X4_from (k : Nat) (as : List mm_V) (z : mm_S) (kk : Option mm_V → mm_S → Option mm_R) : Option mm_R := match mm_at lS_X4_from k with
  | some f => f as z kk
  | none => none
noncomputable def arS_X4_from (k : Nat) : Nat := (mm_at [(106, 3)] k).getD 0
def ct_X4_from : List (Nat × List Nat) := [(9, [0, 1, 2, 3]), (28, [0, 1, 2, 3]), (43, [0, 2, 3]), (58, [0, 3]), (64, [0, 3, 4, 6])]
noncomputable def go_X4_from : Nat → mm_K := mm_go (fun k => mm_at flX4 k) (fun k => mm_at clX4 k) (fun k => mm_at glX4 k) arV_X4_from arS_X4_from mV_X4_from mS_X4_from lenM roM snM 8 2 tbX4_from ct_X4_from
noncomputable def eX4_from_0 (n : Nat)  (x1 : Int32) (x2 : Int32) (x3 : Int32) (z : mm_S) : Option mm_R := go_X4_from n 0 [(0, mm_P 4 0), (1, mm_I x1), (2, mm_I x2), (3, mm_I x3)] [] z
noncomputable def eX4_from_9 (n : Nat)  (y1 : Int32) (y2 : Int32) (y3 : Int32) (z : mm_S) : Option mm_R := go_X4_from n 9 [(0, mm_P 4 0), (1, mm_I y1), (2, mm_I y2), (3, mm_I y3)] [] z
noncomputable def eX4_from_28 (n : Nat)  (y1 : Int32) (y2 : Int32) (y3 : Int32) (z : mm_S) : Option mm_R := go_X4_from n 28 [(0, mm_P 4 0), (1, mm_I y1), (2, mm_I y2), (3, mm_I y3)] [] z
noncomputable def eX4_from_43 (n : Nat)  (y2 : Int32) (y3 : Int32) (z : mm_S) : Option mm_R := go_X4_from n 43 [(0, mm_P 4 0), (2, mm_I y2), (3, mm_I y3)] [] z
noncomputable def eX4_from_58 (n : Nat)  (y3 : Int32) (z : mm_S) : Option mm_R := go_X4_from n 58 [(0, mm_P 4 0), (3, mm_I y3)] [] z
noncomputable def eX4_from_64 (n : Nat)  (y3 : Int32) (y4 : Int64) (y6 : Int32) (z : mm_S) : Option mm_R := go_X4_from n 64 [(0, mm_P 4 0), (3, mm_I y3), (4, mm_J y4), (6, mm_I y6)] [] z
set_option maxRecDepth 100000 in
theorem qX4_from_0 (n : Nat)  (x1 : Int32) (x2 : Int32) (x3 : Int32) (z : mm_S) : eX4_from_0 (n + 1) x1 x2 x3 z = ((sX4_areTwo x1 x2 z).bind fun q1 => if q1.1 = 0 then (sX4_finding (-1000001) q1.2).bind fun q2 => some (some (mm_J (Int32.toInt64 q2.1)), q2.2) else eX4_from_9 n x1 x2 x3 q1.2) := rfl
set_option maxRecDepth 100000 in
theorem qX4_from_9 (n : Nat)  (y1 : Int32) (y2 : Int32) (y3 : Int32) (z : mm_S) : eX4_from_9 (n + 1) y1 y2 y3 z = (if (pX4_within y3 (-60) 60) = 0 then (sX4_finding (-1000001) z).bind fun q3 => some (some (mm_J (Int32.toInt64 q3.1)), q3.2) else eX4_from_28 n y1 y2 y3 z) := rfl
set_option maxRecDepth 100000 in
theorem qX4_from_28 (n : Nat)  (y1 : Int32) (y2 : Int32) (y3 : Int32) (z : mm_S) : eX4_from_28 (n + 1) y1 y2 y3 z = ((sX4_crewIs y1 1 z).bind fun q4 => (sX4_findTimes q4.1 0 5 q4.2).bind fun q5 => eX4_from_43 n y2 y3 q5) := rfl
set_option maxRecDepth 100000 in
theorem qX4_from_43 (n : Nat)  (y2 : Int32) (y3 : Int32) (z : mm_S) : eX4_from_43 (n + 1) y2 y3 z = ((sX4_crewIs y2 1 z).bind fun q6 => (sX4_findTimes q6.1 0 6 q6.2).bind fun q7 => eX4_from_58 n y3 q7) := rfl
set_option maxRecDepth 100000 in
theorem qX4_from_58 (n : Nat)  (y3 : Int32) (z : mm_S) : eX4_from_58 (n + 1) y3 z = (eX4_from_64 n y3 0 0 z) := rfl
set_option maxRecDepth 100000 in
theorem qX4_from_64 (n : Nat)  (y3 : Int32) (y4 : Int64) (y6 : Int32) (z : mm_S) : eX4_from_64 (n + 1) y3 y4 y6 z = (if 36 ≤ y6 then some (some (mm_J y4), z) else if y6 < 0 ∨ 36 ≤ Int32.toNatClampNeg y6 then none else if 10000 ≤ (z.1 5 (Int32.toNatClampNeg y6)) then eX4_from_64 n y3 (y4 ||| 0) (y6 + 1) z else if y6 < 0 ∨ 36 ≤ Int32.toNatClampNeg y6 then none else if 10000 ≤ (z.1 6 (Int32.toNatClampNeg y6)) then eX4_from_64 n y3 (y4 ||| 0) (y6 + 1) z else if y6 < 0 ∨ 36 ≤ Int32.toNatClampNeg y6 then none else if y6 < 0 ∨ 36 ≤ Int32.toNatClampNeg y6 then none else if ((z.1 6 (Int32.toNatClampNeg y6)) - (z.1 5 (Int32.toNatClampNeg y6))) = y3 then let v8 : Int64 := (y4 ||| (1 <<< (Int32.toInt64 y6 &&& 63))); eX4_from_64 n y3 v8 (y6 + 1) z else eX4_from_64 n y3 (y4 ||| 0) (y6 + 1) z) := rfl
def rm_X4_from : Room := { frames := 3, cells := 0, slots := 0, locals := 73 }
noncomputable def f_X4_from (as : List mm_V) (z : mm_S) (o : mm_R) : Prop := (as.map mm_cat).sum ≤ 8 ∧ ∃ n, go_X4_from n 0 (mm_ar 0 as) [] z = some o
theorem M_X4_from : mm_M lyTM lyFA lenM snM 22 22 17 roM rsA nfA nmA [] yX4_from cX4_from 8 (some .long) rm_X4_from f_X4_from :=
  mm_met (rt := 2) (by decide +kernel) ⟨fun h => absurd h (by decide), fun h => absurd h (by decide), fun h => rfl, fun h => absurd h (by decide)⟩ tbX4_from_ok hsnM okFX4 okLX4 (fun _ h => absurd h List.not_mem_nil) (fun _ _ _ _ => rfl) (fun _ _ _ _ => rfl) (List.forall_mem_cons.mpr ⟨sV_X4_finding (Or.inl lk_X4_124) rfl ⟨by decide, by decide⟩, List.forall_mem_cons.mpr ⟨sV_X4_crewIs (Or.inl lk_X4_139) rfl ⟨by decide, by decide⟩, List.forall_mem_cons.mpr ⟨sV_X4_findTimes (Or.inl lk_X4_181) rfl ⟨by decide, by decide⟩, List.forall_mem_cons.mpr ⟨sV_X4_areTwo (Or.inl lk_X4_222) rfl ⟨by decide, by decide⟩, fun _ h => absurd h List.not_mem_nil⟩⟩⟩⟩) (List.forall_mem_cons.mpr ⟨sS_X4_within (Or.inl lk_X4_106) rfl ⟨by decide, by decide⟩, fun _ h => absurd h List.not_mem_nil⟩)
noncomputable def lX4_from_64 (s : Int32 × Int64 × Int32 × mm_S) : Option ((Int32 × Int64 × Int32 × mm_S) ⊕ (Int64 × mm_S)) := if 36 ≤ s.2.2.1 then some (.inr (s.2.1, s.2.2.2)) else if s.2.2.1 < 0 ∨ 36 ≤ Int32.toNatClampNeg s.2.2.1 then none else if 10000 ≤ (s.2.2.2.1 5 (Int32.toNatClampNeg s.2.2.1)) then some (.inl (s.1, (s.2.1 ||| 0), (s.2.2.1 + 1), s.2.2.2)) else if s.2.2.1 < 0 ∨ 36 ≤ Int32.toNatClampNeg s.2.2.1 then none else if 10000 ≤ (s.2.2.2.1 6 (Int32.toNatClampNeg s.2.2.1)) then some (.inl (s.1, (s.2.1 ||| 0), (s.2.2.1 + 1), s.2.2.2)) else if s.2.2.1 < 0 ∨ 36 ≤ Int32.toNatClampNeg s.2.2.1 then none else if s.2.2.1 < 0 ∨ 36 ≤ Int32.toNatClampNeg s.2.2.1 then none else if ((s.2.2.2.1 6 (Int32.toNatClampNeg s.2.2.1)) - (s.2.2.2.1 5 (Int32.toNatClampNeg s.2.2.1))) = s.1 then let v8 : Int64 := (s.2.1 ||| (1 <<< (Int32.toInt64 s.2.2.1 &&& 63))); some (.inl (s.1, v8, (s.2.2.1 + 1), s.2.2.2)) else some (.inl (s.1, (s.2.1 ||| 0), (s.2.2.1 + 1), s.2.2.2))
noncomputable def sX4_from_64 (y3 : Int32) (y4 : Int64) (y6 : Int32) (z : mm_S) : Option (Int64 × mm_S) := mm_wh (lX4_from_64 ) mm_fu (y3, y4, y6, z)
theorem kX4_from_64 (y3 : Int32) (y4 : Int64) (y6 : Int32) (z : mm_S) (oo : mm_R) : mm_Xs (sX4_from_64 y3 y4 y6 z) (fun v => (fun v : Int64 × mm_S => ((some (mm_J v.1), v.2) : mm_R)) v = oo) (fun n => eX4_from_64 n y3 y4 y6 z) oo :=
  xs_wh (stp := lX4_from_64 ) (o := oo) (E := (fun (s : Int32 × Int64 × Int32 × mm_S) n => eX4_from_64 n s.1 s.2.1 s.2.2.1 s.2.2.2)) (C := (fun v => (fun v : Int64 × mm_S => ((some (mm_J v.1), v.2) : mm_R)) v = oo)) (fun s => xs_row (fun n => qX4_from_64 n s.1 s.2.1 s.2.2.1 s.2.2.2) (xs_if (xs_v fun hc => ⟨0, congrArg some hc⟩) (xs_if xs_n (xs_if (xs_v fun hc => hc) (xs_if xs_n (xs_if (xs_v fun hc => hc) (xs_if xs_n (xs_if xs_n (xs_if (let v8 : Int64 := (s.2.1 ||| (1 <<< (Int32.toInt64 s.2.2.1 &&& 63))); (xs_v fun hc => hc)) (xs_v fun hc => hc)))))))))) mm_fu (y3, y4, y6, z)
noncomputable def sX4_from_58 (y3 : Int32) (z : mm_S) : Option (Int64 × mm_S) := (sX4_from_64 y3 0 0 z)
theorem kX4_from_58 (y3 : Int32) (z : mm_S) (oo : mm_R) : mm_Xs (sX4_from_58 y3 z) (fun v => (fun v : Int64 × mm_S => ((some (mm_J v.1), v.2) : mm_R)) v = oo) (fun n => eX4_from_58 n y3 z) oo :=
  xs_row (fun n => qX4_from_58 n y3 z) (kX4_from_64 y3 0 0 z oo)
noncomputable def sX4_from_43 (y2 : Int32) (y3 : Int32) (z : mm_S) : Option (Int64 × mm_S) := (sX4_crewIs y2 1 z).bind fun q6 => (sX4_findTimes q6.1 0 6 q6.2).bind fun q7 => (sX4_from_58 y3 q7)
theorem kX4_from_43 (y2 : Int32) (y3 : Int32) (z : mm_S) (oo : mm_R) : mm_Xs (sX4_from_43 y2 y3 z) (fun v => (fun v : Int64 × mm_S => ((some (mm_J v.1), v.2) : mm_R)) v = oo) (fun n => eX4_from_43 n y2 y3 z) oo :=
  xs_row (fun n => qX4_from_43 n y2 y3 z) (xs_bd fun q6 => (xs_bd fun q7 => (kX4_from_58 y3 q7 oo)))
noncomputable def sX4_from_28 (y1 : Int32) (y2 : Int32) (y3 : Int32) (z : mm_S) : Option (Int64 × mm_S) := (sX4_crewIs y1 1 z).bind fun q4 => (sX4_findTimes q4.1 0 5 q4.2).bind fun q5 => (sX4_from_43 y2 y3 q5)
theorem kX4_from_28 (y1 : Int32) (y2 : Int32) (y3 : Int32) (z : mm_S) (oo : mm_R) : mm_Xs (sX4_from_28 y1 y2 y3 z) (fun v => (fun v : Int64 × mm_S => ((some (mm_J v.1), v.2) : mm_R)) v = oo) (fun n => eX4_from_28 n y1 y2 y3 z) oo :=
  xs_row (fun n => qX4_from_28 n y1 y2 y3 z) (xs_bd fun q4 => (xs_bd fun q5 => (kX4_from_43 y2 y3 q5 oo)))
noncomputable def sX4_from_9 (y1 : Int32) (y2 : Int32) (y3 : Int32) (z : mm_S) : Option (Int64 × mm_S) := if (pX4_within y3 (-60) 60) = 0 then (sX4_finding (-1000001) z).bind fun q3 => some ((Int32.toInt64 q3.1), q3.2) else (sX4_from_28 y1 y2 y3 z)
theorem kX4_from_9 (y1 : Int32) (y2 : Int32) (y3 : Int32) (z : mm_S) (oo : mm_R) : mm_Xs (sX4_from_9 y1 y2 y3 z) (fun v => (fun v : Int64 × mm_S => ((some (mm_J v.1), v.2) : mm_R)) v = oo) (fun n => eX4_from_9 n y1 y2 y3 z) oo :=
  xs_row (fun n => qX4_from_9 n y1 y2 y3 z) (xs_if (xs_bd fun q3 => (xs_v fun hc => ⟨0, congrArg some hc⟩)) (kX4_from_28 y1 y2 y3 z oo))
noncomputable def sX4_from_0 (x1 : Int32) (x2 : Int32) (x3 : Int32) (z : mm_S) : Option (Int64 × mm_S) := (sX4_areTwo x1 x2 z).bind fun q1 => if q1.1 = 0 then (sX4_finding (-1000001) q1.2).bind fun q2 => some ((Int32.toInt64 q2.1), q2.2) else (sX4_from_9 x1 x2 x3 q1.2)
theorem kX4_from_0 (x1 : Int32) (x2 : Int32) (x3 : Int32) (z : mm_S) (oo : mm_R) : mm_Xs (sX4_from_0 x1 x2 x3 z) (fun v => (fun v : Int64 × mm_S => ((some (mm_J v.1), v.2) : mm_R)) v = oo) (fun n => eX4_from_0 n x1 x2 x3 z) oo :=
  xs_row (fun n => qX4_from_0 n x1 x2 x3 z) (xs_bd fun q1 => (xs_if (xs_bd fun q2 => (xs_v fun hc => ⟨0, congrArg some hc⟩)) (kX4_from_9 x1 x2 x3 q1.2 oo)))
noncomputable def sX4_from (x1 : Int32) (x2 : Int32) (x3 : Int32) (z : mm_S) : Option (Int64 × mm_S) := sX4_from_0 x1 x2 x3 z
theorem sp_X4_from (x1 : Int32) (x2 : Int32) (x3 : Int32) (z : mm_S) (hk : ∀ v ∈ [mm_P 4 0, mm_I x1, mm_I x2, mm_I x3], mm_ok 22 lyTM 22 17 v) (q : Int64 × mm_S) (hq : sX4_from x1 x2 x3 z = some q) : f_X4_from [mm_P 4 0, mm_I x1, mm_I x2, mm_I x3] z (some (mm_J q.1), q.2) := ⟨Nat.le_of_ble_eq_true rfl, kX4_from_0 x1 x2 x3 z _ q hq rfl⟩
noncomputable def clo_X4_from (as : List mm_V) (z : mm_S) (kk : Option mm_V → mm_S → Option mm_R) : Option mm_R := mm_pr as fun t o0 as => bif Nat.beq t 4 then mm_pi as fun a1 as => mm_pi as fun a2 as => mm_pi as fun a3 as => (match as with | [] => (sX4_from a1 a2 a3 z).bind fun q => kk (some (mm_J q.1)) q.2 | _ => none) else none
theorem cs_X4_from : mm_cs lyTM 22 22 17 f_X4_from clo_X4_from := by
  intro as z K o hk h
  obtain ⟨t0, o0, r0, rfl, g0⟩ := mm_pr_e h
  obtain ⟨b0, k0⟩ := mm_bif_e g0
  obtain rfl := Nat.eq_of_beq_eq_true b0
  obtain ⟨a1, r1, rfl, g1⟩ := mm_pi_e k0
  obtain ⟨a2, r2, rfl, g2⟩ := mm_pi_e g1
  obtain ⟨a3, r3, rfl, g3⟩ := mm_pi_e g2
  rcases r3 with _ | ⟨u, w⟩
  rotate_left
  · cases g3
  obtain rfl : o0 = 0 := ok4 (hk (mm_P 4 o0) (by simp))
  obtain ⟨q, hq, hq2⟩ := Option.bind_eq_some_iff.mp g3
  exact ⟨_, _, sp_X4_from a1 a2 a3 z hk q hq, fun v hv => by cases hv; exact Or.inr ⟨_, rfl⟩, hq2⟩
theorem sV_X4_from {own : String} {R : Room} {ar : Nat → Nat} {k : Nat} (hlink : Cond.methodLink own k yX4_from ∈ lw_gd ∨ ∃ host, (own, k, yX4_from, host) ∈ nmA) (har : ar k = 4) (hr : 4 ≤ R.frames ∧ 100 ≤ R.locals) : mm_okV lyTM lyFA lenM snM 22 22 17 roM rsA nfA nmA [] own R ar k clo_X4_from := by
  refine ⟨yX4_from, cX4_from, 8, some .long, rm_X4_from, f_X4_from, 4, 3, (RX4, TX4, 36), M_X4_from, cs_X4_from, hlink, ⟨wv_X4_from, wz_X4_from, wi_X4_from, wc_X4_from⟩, ⟨by decide +kernel, by decide +kernel, by decide +kernel⟩, har, ⟨rfl, rfl, by decide⟩, ?_, ⟨rfl, rfl, hr.1, hr.2⟩⟩
  intro as z K o h
  obtain ⟨t0, o0, r0, rfl, g0⟩ := mm_pr_e h
  obtain ⟨b0, k0⟩ := mm_bif_e g0
  obtain rfl := Nat.eq_of_beq_eq_true b0
  exact ⟨_, _, rfl⟩
-- X4_middle
noncomputable def lV_X4_middle : List (Nat × (List mm_V → mm_S → (Option mm_V → mm_S → Option mm_R) → Option mm_R)) := [(124, clo_X4_finding), (139, clo_X4_crewIs), (181, clo_X4_findTimes)]
noncomputable def mV_X4_middle (k : Nat) (as : List mm_V) (z : mm_S) (kk : Option mm_V → mm_S → Option mm_R) : Option mm_R := match mm_at lV_X4_middle k with
  | some f => f as z kk
  | none => none
noncomputable def arV_X4_middle (k : Nat) : Nat := (mm_at [(124, 2), (139, 3), (181, 4)] k).getD 0
noncomputable def lS_X4_middle : List (Nat × (List mm_V → mm_S → (Option mm_V → mm_S → Option mm_R) → Option mm_R)) := [(226, mm_mx)]
noncomputable def mS_X4_middle (k : Nat) (as : List mm_V) (z : mm_S) (kk : Option mm_V → mm_S → Option mm_R) : Option mm_R := match mm_at lS_X4_middle k with
  | some f => f as z kk
  | none => none
noncomputable def arS_X4_middle (k : Nat) : Nat := (mm_at [(226, 2)] k).getD 0
def ct_X4_middle : List (Nat × List Nat) := [(16, [0]), (18, [0, 1]), (31, [0, 1]), (39, [0, 1]), (64, [0, 1]), (66, [0, 1, 2]), (93, [0, 1, 2]), (109, [0, 1, 2])]
noncomputable def go_X4_middle : Nat → mm_K := mm_go (fun k => mm_at flX4 k) (fun k => mm_at clX4 k) (fun k => mm_at glX4 k) arV_X4_middle arS_X4_middle mV_X4_middle mS_X4_middle lenM roM snM 3 0 tbX4_middle ct_X4_middle
noncomputable def eX4_middle_0 (n : Nat)  (z : mm_S) : Option mm_R := go_X4_middle n 0 [(0, mm_P 4 0)] [] z
noncomputable def eX4_middle_16 (n : Nat)  (z : mm_S) : Option mm_R := go_X4_middle n 16 [(0, mm_P 4 0)] [] z
noncomputable def eX4_middle_18 (n : Nat)  (y1 : Int32) (z : mm_S) : Option mm_R := go_X4_middle n 18 [(0, mm_P 4 0), (1, mm_I y1)] [] z
noncomputable def eX4_middle_39 (n : Nat)  (y1 : Int32) (z : mm_S) : Option mm_R := go_X4_middle n 39 [(0, mm_P 4 0), (1, mm_I y1)] [] z
noncomputable def eX4_middle_31 (n : Nat)  (y1 : Int32) (z : mm_S) : Option mm_R := go_X4_middle n 31 [(0, mm_P 4 0), (1, mm_I y1)] [] z
noncomputable def eX4_middle_109 (n : Nat)  (y1 : Int32) (y2 : Int32) (z : mm_S) : Option mm_R := go_X4_middle n 109 [(0, mm_P 4 0), (1, mm_I y1), (2, mm_I y2)] [] z
noncomputable def eX4_middle_64 (n : Nat)  (y1 : Int32) (z : mm_S) : Option mm_R := go_X4_middle n 64 [(0, mm_P 4 0), (1, mm_I y1)] [] z
noncomputable def eX4_middle_66 (n : Nat)  (y1 : Int32) (y2 : Int32) (z : mm_S) : Option mm_R := go_X4_middle n 66 [(0, mm_P 4 0), (1, mm_I y1), (2, mm_I y2)] [] z
noncomputable def eX4_middle_93 (n : Nat)  (y1 : Int32) (y2 : Int32) (z : mm_S) : Option mm_R := go_X4_middle n 93 [(0, mm_P 4 0), (1, mm_I y1), (2, mm_I y2)] [] z
set_option maxRecDepth 100000 in
theorem qX4_middle_0 (n : Nat)  (z : mm_S) : eX4_middle_0 (n + 1)  z = (if (z.1 1 1) = 0 then (sX4_finding (-1000001) z).bind fun q1 => some (some (mm_I q1.1), q1.2) else eX4_middle_16 n  z) := rfl
set_option maxRecDepth 100000 in
theorem qX4_middle_16 (n : Nat)  (z : mm_S) : eX4_middle_16 (n + 1)  z = (eX4_middle_18 n 0 z) := rfl
set_option maxRecDepth 100000 in
theorem qX4_middle_18 (n : Nat)  (y1 : Int32) (z : mm_S) : eX4_middle_18 (n + 1) y1 z = (if 36 ≤ y1 then eX4_middle_39 n 0 z else if y1 < 0 ∨ 36 ≤ Int32.toNatClampNeg y1 then none else eX4_middle_31 n y1 ((mm_ui z.1 9 (Int32.toNatClampNeg y1) 0), z.2)) := rfl
set_option maxRecDepth 100000 in
theorem qX4_middle_39 (n : Nat)  (y1 : Int32) (z : mm_S) : eX4_middle_39 (n + 1) y1 z = (if (z.1 1 1) ≤ y1 then eX4_middle_109 n 0 1 z else (sX4_crewIs y1 1 z).bind fun q2 => (sX4_findTimes q2.1 1 5 q2.2).bind fun q3 => eX4_middle_64 n y1 q3) := rfl
set_option maxRecDepth 100000 in
theorem qX4_middle_31 (n : Nat)  (y1 : Int32) (z : mm_S) : eX4_middle_31 (n + 1) y1 z = (eX4_middle_18 n (y1 + 1) z) := rfl
set_option maxRecDepth 100000 in
theorem qX4_middle_109 (n : Nat)  (y1 : Int32) (y2 : Int32) (z : mm_S) : eX4_middle_109 (n + 1) y1 y2 z = (if 36 ≤ y2 then if y1 < 0 ∨ 36 ≤ Int32.toNatClampNeg y1 then none else if 10000 ≤ (z.1 9 (Int32.toNatClampNeg y1)) then (sX4_finding (-1000004) z).bind fun q4 => some (some (mm_I q4.1), q4.2) else some (some (mm_I y1), z) else if y2 < 0 ∨ 36 ≤ Int32.toNatClampNeg y2 then none else if y1 < 0 ∨ 36 ≤ Int32.toNatClampNeg y1 then none else if (z.1 9 (Int32.toNatClampNeg y1)) ≤ (z.1 9 (Int32.toNatClampNeg y2)) then eX4_middle_109 n y1 (y2 + 1) z else eX4_middle_109 n y2 (y2 + 1) z) := rfl
set_option maxRecDepth 100000 in
theorem qX4_middle_64 (n : Nat)  (y1 : Int32) (z : mm_S) : eX4_middle_64 (n + 1) y1 z = (eX4_middle_66 n y1 0 z) := rfl
set_option maxRecDepth 100000 in
theorem qX4_middle_66 (n : Nat)  (y1 : Int32) (y2 : Int32) (z : mm_S) : eX4_middle_66 (n + 1) y1 y2 z = (if 36 ≤ y2 then eX4_middle_39 n (y1 + 1) z else if y2 < 0 ∨ 36 ≤ Int32.toNatClampNeg y2 then none else if y2 < 0 ∨ 36 ≤ Int32.toNatClampNeg y2 then none else if y2 < 0 ∨ 36 ≤ Int32.toNatClampNeg y2 then none else let u5 : mm_S := ((mm_ui z.1 9 (Int32.toNatClampNeg y2) (mm_max (z.1 9 (Int32.toNatClampNeg y2)) (z.1 5 (Int32.toNatClampNeg y2)))), z.2); eX4_middle_93 n y1 y2 u5) := rfl
set_option maxRecDepth 100000 in
theorem qX4_middle_93 (n : Nat)  (y1 : Int32) (y2 : Int32) (z : mm_S) : eX4_middle_93 (n + 1) y1 y2 z = (eX4_middle_66 n y1 (y2 + 1) z) := rfl
def rm_X4_middle : Room := { frames := 3, cells := 0, slots := 0, locals := 73 }
noncomputable def f_X4_middle (as : List mm_V) (z : mm_S) (o : mm_R) : Prop := (as.map mm_cat).sum ≤ 3 ∧ ∃ n, go_X4_middle n 0 (mm_ar 0 as) [] z = some o
theorem M_X4_middle : mm_M lyTM lyFA lenM snM 22 22 17 roM rsA nfA nmA [] yX4_middle cX4_middle 3 (some .int) rm_X4_middle f_X4_middle :=
  mm_met (rt := 0) (by decide +kernel) ⟨fun h => rfl, fun h => absurd h (by decide), fun h => absurd h (by decide), fun h => absurd h (by decide)⟩ tbX4_middle_ok hsnM okFX4 okLX4 (fun _ h => absurd h List.not_mem_nil) (fun _ _ _ _ => rfl) (fun _ _ _ _ => rfl) (List.forall_mem_cons.mpr ⟨sV_X4_finding (Or.inl lk_X4_124) rfl ⟨by decide, by decide⟩, List.forall_mem_cons.mpr ⟨sV_X4_crewIs (Or.inl lk_X4_139) rfl ⟨by decide, by decide⟩, List.forall_mem_cons.mpr ⟨sV_X4_findTimes (Or.inl lk_X4_181) rfl ⟨by decide, by decide⟩, fun _ h => absurd h List.not_mem_nil⟩⟩⟩) (List.forall_mem_cons.mpr ⟨Or.inr (Or.inr ⟨Or.inl ⟨rfl, lk_X4_226, ws_max, wc_max⟩, wi_math, by decide, by decide, rfl⟩), fun _ h => absurd h List.not_mem_nil⟩)
noncomputable def sX4_middle_31 (y1 : Int32) (z : mm_S) : Option ((Int32 × mm_S) ⊕ (Int32 × mm_S)) := some (.inl ((y1 + 1), z))
theorem kX4_middle_31 (y1 : Int32) (z : mm_S) (oo : mm_R) : mm_Xs (sX4_middle_31 y1 z) (mm_mt (fun x : Int32 × mm_S => ∃ n, eX4_middle_18 n x.1 x.2 = some oo) (fun v => (fun v : Int32 × mm_S => ((some (mm_I v.1), v.2) : mm_R)) v = oo)) (fun n => eX4_middle_31 n y1 z) oo :=
  xs_row (fun n => qX4_middle_31 n y1 z) (xs_v fun hc => hc)
noncomputable def sX4_middle_93 (y1 : Int32) (y2 : Int32) (z : mm_S) : Option ((Int32 × Int32 × mm_S) ⊕ ((Int32 × mm_S) ⊕ (Int32 × mm_S))) := some (.inl (y1, (y2 + 1), z))
theorem kX4_middle_93 (y1 : Int32) (y2 : Int32) (z : mm_S) (oo : mm_R) : mm_Xs (sX4_middle_93 y1 y2 z) (mm_mt (fun x : Int32 × Int32 × mm_S => ∃ n, eX4_middle_66 n x.1 x.2.1 x.2.2 = some oo) (mm_mt (fun x : Int32 × mm_S => ∃ n, eX4_middle_39 n x.1 x.2 = some oo) (fun v => (fun v : Int32 × mm_S => ((some (mm_I v.1), v.2) : mm_R)) v = oo))) (fun n => eX4_middle_93 n y1 y2 z) oo :=
  xs_row (fun n => qX4_middle_93 n y1 y2 z) (xs_v fun hc => hc)
noncomputable def lX4_middle_66 (s : Int32 × Int32 × mm_S) : Option ((Int32 × Int32 × mm_S) ⊕ ((Int32 × mm_S) ⊕ (Int32 × mm_S))) := if 36 ≤ s.2.1 then some (.inr (.inl ((s.1 + 1), s.2.2))) else if s.2.1 < 0 ∨ 36 ≤ Int32.toNatClampNeg s.2.1 then none else if s.2.1 < 0 ∨ 36 ≤ Int32.toNatClampNeg s.2.1 then none else if s.2.1 < 0 ∨ 36 ≤ Int32.toNatClampNeg s.2.1 then none else let u5 : mm_S := ((mm_ui s.2.2.1 9 (Int32.toNatClampNeg s.2.1) (mm_max (s.2.2.1 9 (Int32.toNatClampNeg s.2.1)) (s.2.2.1 5 (Int32.toNatClampNeg s.2.1)))), s.2.2.2); (sX4_middle_93 s.1 s.2.1 u5)
noncomputable def sX4_middle_66 (y1 : Int32) (y2 : Int32) (z : mm_S) : Option ((Int32 × mm_S) ⊕ (Int32 × mm_S)) := mm_wh (lX4_middle_66 ) mm_fu (y1, y2, z)
theorem kX4_middle_66 (y1 : Int32) (y2 : Int32) (z : mm_S) (oo : mm_R) : mm_Xs (sX4_middle_66 y1 y2 z) (mm_mt (fun x : Int32 × mm_S => ∃ n, eX4_middle_39 n x.1 x.2 = some oo) (fun v => (fun v : Int32 × mm_S => ((some (mm_I v.1), v.2) : mm_R)) v = oo)) (fun n => eX4_middle_66 n y1 y2 z) oo :=
  xs_wh (stp := lX4_middle_66 ) (o := oo) (E := (fun (s : Int32 × Int32 × mm_S) n => eX4_middle_66 n s.1 s.2.1 s.2.2)) (C := (mm_mt (fun x : Int32 × mm_S => ∃ n, eX4_middle_39 n x.1 x.2 = some oo) (fun v => (fun v : Int32 × mm_S => ((some (mm_I v.1), v.2) : mm_R)) v = oo))) (fun s => xs_row (fun n => qX4_middle_66 n s.1 s.2.1 s.2.2) (xs_if (xs_v fun hc => hc) (xs_if xs_n (xs_if xs_n (xs_if xs_n (let u5 : mm_S := ((mm_ui s.2.2.1 9 (Int32.toNatClampNeg s.2.1) (mm_max (s.2.2.1 9 (Int32.toNatClampNeg s.2.1)) (s.2.2.1 5 (Int32.toNatClampNeg s.2.1)))), s.2.2.2); (kX4_middle_93 s.1 s.2.1 u5 oo))))))) mm_fu (y1, y2, z)
noncomputable def sX4_middle_64 (y1 : Int32) (z : mm_S) : Option ((Int32 × mm_S) ⊕ (Int32 × mm_S)) := (sX4_middle_66 y1 0 z)
theorem kX4_middle_64 (y1 : Int32) (z : mm_S) (oo : mm_R) : mm_Xs (sX4_middle_64 y1 z) (mm_mt (fun x : Int32 × mm_S => ∃ n, eX4_middle_39 n x.1 x.2 = some oo) (fun v => (fun v : Int32 × mm_S => ((some (mm_I v.1), v.2) : mm_R)) v = oo)) (fun n => eX4_middle_64 n y1 z) oo :=
  xs_row (fun n => qX4_middle_64 n y1 z) (kX4_middle_66 y1 0 z oo)
noncomputable def lX4_middle_109 (s : Int32 × Int32 × mm_S) : Option ((Int32 × Int32 × mm_S) ⊕ (Int32 × mm_S)) := if 36 ≤ s.2.1 then if s.1 < 0 ∨ 36 ≤ Int32.toNatClampNeg s.1 then none else if 10000 ≤ (s.2.2.1 9 (Int32.toNatClampNeg s.1)) then (sX4_finding (-1000004) s.2.2).bind fun q4 => some (.inr (q4.1, q4.2)) else some (.inr (s.1, s.2.2)) else if s.2.1 < 0 ∨ 36 ≤ Int32.toNatClampNeg s.2.1 then none else if s.1 < 0 ∨ 36 ≤ Int32.toNatClampNeg s.1 then none else if (s.2.2.1 9 (Int32.toNatClampNeg s.1)) ≤ (s.2.2.1 9 (Int32.toNatClampNeg s.2.1)) then some (.inl (s.1, (s.2.1 + 1), s.2.2)) else some (.inl (s.2.1, (s.2.1 + 1), s.2.2))
noncomputable def sX4_middle_109 (y1 : Int32) (y2 : Int32) (z : mm_S) : Option (Int32 × mm_S) := mm_wh (lX4_middle_109 ) mm_fu (y1, y2, z)
theorem kX4_middle_109 (y1 : Int32) (y2 : Int32) (z : mm_S) (oo : mm_R) : mm_Xs (sX4_middle_109 y1 y2 z) (fun v => (fun v : Int32 × mm_S => ((some (mm_I v.1), v.2) : mm_R)) v = oo) (fun n => eX4_middle_109 n y1 y2 z) oo :=
  xs_wh (stp := lX4_middle_109 ) (o := oo) (E := (fun (s : Int32 × Int32 × mm_S) n => eX4_middle_109 n s.1 s.2.1 s.2.2)) (C := (fun v => (fun v : Int32 × mm_S => ((some (mm_I v.1), v.2) : mm_R)) v = oo)) (fun s => xs_row (fun n => qX4_middle_109 n s.1 s.2.1 s.2.2) (xs_if (xs_if xs_n (xs_if (xs_bd fun q4 => (xs_v fun hc => ⟨0, congrArg some hc⟩)) (xs_v fun hc => ⟨0, congrArg some hc⟩))) (xs_if xs_n (xs_if xs_n (xs_if (xs_v fun hc => hc) (xs_v fun hc => hc)))))) mm_fu (y1, y2, z)
noncomputable def lX4_middle_39 (s : Int32 × mm_S) : Option ((Int32 × mm_S) ⊕ (Int32 × mm_S)) := if (s.2.1 1 1) ≤ s.1 then ((sX4_middle_109 0 1 s.2).map fun w => (Sum.inr w)) else (sX4_crewIs s.1 1 s.2).bind fun q2 => (sX4_findTimes q2.1 1 5 q2.2).bind fun q3 => (sX4_middle_64 s.1 q3)
noncomputable def sX4_middle_39 (y1 : Int32) (z : mm_S) : Option (Int32 × mm_S) := mm_wh (lX4_middle_39 ) mm_fu (y1, z)
theorem kX4_middle_39 (y1 : Int32) (z : mm_S) (oo : mm_R) : mm_Xs (sX4_middle_39 y1 z) (fun v => (fun v : Int32 × mm_S => ((some (mm_I v.1), v.2) : mm_R)) v = oo) (fun n => eX4_middle_39 n y1 z) oo :=
  xs_wh (stp := lX4_middle_39 ) (o := oo) (E := (fun (s : Int32 × mm_S) n => eX4_middle_39 n s.1 s.2)) (C := (fun v => (fun v : Int32 × mm_S => ((some (mm_I v.1), v.2) : mm_R)) v = oo)) (fun s => xs_row (fun n => qX4_middle_39 n s.1 s.2) (xs_if (xs_map (f := fun w => (Sum.inr w)) (kX4_middle_109 0 1 s.2 oo) (fun _ h => h)) (xs_bd fun q2 => (xs_bd fun q3 => (kX4_middle_64 s.1 q3 oo))))) mm_fu (y1, z)
noncomputable def lX4_middle_18 (s : Int32 × mm_S) : Option ((Int32 × mm_S) ⊕ (Int32 × mm_S)) := if 36 ≤ s.1 then ((sX4_middle_39 0 s.2).map fun w => (Sum.inr w)) else if s.1 < 0 ∨ 36 ≤ Int32.toNatClampNeg s.1 then none else (sX4_middle_31 s.1 ((mm_ui s.2.1 9 (Int32.toNatClampNeg s.1) 0), s.2.2))
noncomputable def sX4_middle_18 (y1 : Int32) (z : mm_S) : Option (Int32 × mm_S) := mm_wh (lX4_middle_18 ) mm_fu (y1, z)
theorem kX4_middle_18 (y1 : Int32) (z : mm_S) (oo : mm_R) : mm_Xs (sX4_middle_18 y1 z) (fun v => (fun v : Int32 × mm_S => ((some (mm_I v.1), v.2) : mm_R)) v = oo) (fun n => eX4_middle_18 n y1 z) oo :=
  xs_wh (stp := lX4_middle_18 ) (o := oo) (E := (fun (s : Int32 × mm_S) n => eX4_middle_18 n s.1 s.2)) (C := (fun v => (fun v : Int32 × mm_S => ((some (mm_I v.1), v.2) : mm_R)) v = oo)) (fun s => xs_row (fun n => qX4_middle_18 n s.1 s.2) (xs_if (xs_map (f := fun w => (Sum.inr w)) (kX4_middle_39 0 s.2 oo) (fun _ h => h)) (xs_if xs_n (kX4_middle_31 s.1 ((mm_ui s.2.1 9 (Int32.toNatClampNeg s.1) 0), s.2.2) oo)))) mm_fu (y1, z)
noncomputable def sX4_middle_16  (z : mm_S) : Option (Int32 × mm_S) := (sX4_middle_18 0 z)
theorem kX4_middle_16  (z : mm_S) (oo : mm_R) : mm_Xs (sX4_middle_16  z) (fun v => (fun v : Int32 × mm_S => ((some (mm_I v.1), v.2) : mm_R)) v = oo) (fun n => eX4_middle_16 n  z) oo :=
  xs_row (fun n => qX4_middle_16 n z) (kX4_middle_18 0 z oo)
noncomputable def sX4_middle_0  (z : mm_S) : Option (Int32 × mm_S) := if (z.1 1 1) = 0 then (sX4_finding (-1000001) z).bind fun q1 => some (q1.1, q1.2) else (sX4_middle_16 z)
theorem kX4_middle_0  (z : mm_S) (oo : mm_R) : mm_Xs (sX4_middle_0  z) (fun v => (fun v : Int32 × mm_S => ((some (mm_I v.1), v.2) : mm_R)) v = oo) (fun n => eX4_middle_0 n  z) oo :=
  xs_row (fun n => qX4_middle_0 n z) (xs_if (xs_bd fun q1 => (xs_v fun hc => ⟨0, congrArg some hc⟩)) (kX4_middle_16 z oo))
noncomputable def sX4_middle  (z : mm_S) : Option (Int32 × mm_S) := sX4_middle_0  z
theorem sp_X4_middle  (z : mm_S) (hk : ∀ v ∈ [mm_P 4 0], mm_ok 22 lyTM 22 17 v) (q : Int32 × mm_S) (hq : sX4_middle  z = some q) : f_X4_middle [mm_P 4 0] z (some (mm_I q.1), q.2) := ⟨Nat.le_of_ble_eq_true rfl, kX4_middle_0  z _ q hq rfl⟩
noncomputable def clo_X4_middle (as : List mm_V) (z : mm_S) (kk : Option mm_V → mm_S → Option mm_R) : Option mm_R := mm_pr as fun t o0 as => bif Nat.beq t 4 then (match as with | [] => (sX4_middle z).bind fun q => kk (some (mm_I q.1)) q.2 | _ => none) else none
theorem cs_X4_middle : mm_cs lyTM 22 22 17 f_X4_middle clo_X4_middle := by
  intro as z K o hk h
  obtain ⟨t0, o0, r0, rfl, g0⟩ := mm_pr_e h
  obtain ⟨b0, k0⟩ := mm_bif_e g0
  obtain rfl := Nat.eq_of_beq_eq_true b0
  rcases r0 with _ | ⟨u, w⟩
  rotate_left
  · cases k0
  obtain rfl : o0 = 0 := ok4 (hk (mm_P 4 o0) (by simp))
  obtain ⟨q, hq, hq2⟩ := Option.bind_eq_some_iff.mp k0
  exact ⟨_, _, sp_X4_middle  z hk q hq, fun v hv => by cases hv; exact Or.inl ⟨_, rfl⟩, hq2⟩
theorem sV_X4_middle {own : String} {R : Room} {ar : Nat → Nat} {k : Nat} (hlink : Cond.methodLink own k yX4_middle ∈ lw_gd ∨ ∃ host, (own, k, yX4_middle, host) ∈ nmA) (har : ar k = 1) (hr : 4 ≤ R.frames ∧ 95 ≤ R.locals) : mm_okV lyTM lyFA lenM snM 22 22 17 roM rsA nfA nmA [] own R ar k clo_X4_middle := by
  refine ⟨yX4_middle, cX4_middle, 3, some .int, rm_X4_middle, f_X4_middle, 4, 0, (RX4, TX4, 36), M_X4_middle, cs_X4_middle, hlink, ⟨wv_X4_middle, wz_X4_middle, wi_X4_middle, wc_X4_middle⟩, ⟨by decide +kernel, by decide +kernel, by decide +kernel⟩, har, ⟨rfl, rfl, by decide⟩, ?_, ⟨rfl, rfl, hr.1, hr.2⟩⟩
  intro as z K o h
  obtain ⟨t0, o0, r0, rfl, g0⟩ := mm_pr_e h
  obtain ⟨b0, k0⟩ := mm_bif_e g0
  obtain rfl := Nat.eq_of_beq_eq_true b0
  exact ⟨_, _, rfl⟩
-- X4_heardBy
noncomputable def lV_X4_heardBy : List (Nat × (List mm_V → mm_S → (Option mm_V → mm_S → Option mm_R) → Option mm_R)) := [(199, clo_X4_doesHear)]
noncomputable def mV_X4_heardBy (k : Nat) (as : List mm_V) (z : mm_S) (kk : Option mm_V → mm_S → Option mm_R) : Option mm_R := match mm_at lV_X4_heardBy k with
  | some f => f as z kk
  | none => none
noncomputable def arV_X4_heardBy (k : Nat) : Nat := (mm_at [(199, 3)] k).getD 0
noncomputable def lS_X4_heardBy : List (Nat × (List mm_V → mm_S → (Option mm_V → mm_S → Option mm_R) → Option mm_R)) := []
noncomputable def mS_X4_heardBy (k : Nat) (as : List mm_V) (z : mm_S) (kk : Option mm_V → mm_S → Option mm_R) : Option mm_R := match mm_at lS_X4_heardBy k with
  | some f => f as z kk
  | none => none
noncomputable def arS_X4_heardBy (k : Nat) : Nat := (mm_at [] k).getD 0
def ct_X4_heardBy : List (Nat × List Nat) := [(4, [0, 1, 2, 3]), (36, [0, 1, 2, 3])]
noncomputable def go_X4_heardBy : Nat → mm_K := mm_go (fun k => mm_at flX4 k) (fun k => mm_at clX4 k) (fun k => mm_at glX4 k) arV_X4_heardBy arS_X4_heardBy mV_X4_heardBy mS_X4_heardBy lenM roM snM 4 0 tbX4_heardBy ct_X4_heardBy
noncomputable def eX4_heardBy_0 (n : Nat)  (x1 : Int32) (z : mm_S) : Option mm_R := go_X4_heardBy n 0 [(0, mm_P 4 0), (1, mm_I x1)] [] z
noncomputable def eX4_heardBy_4 (n : Nat)  (y1 : Int32) (y2 : Int32) (y3 : Int32) (z : mm_S) : Option mm_R := go_X4_heardBy n 4 [(0, mm_P 4 0), (1, mm_I y1), (2, mm_I y2), (3, mm_I y3)] [] z
noncomputable def eX4_heardBy_36 (n : Nat)  (y1 : Int32) (y2 : Int32) (y3 : Int32) (z : mm_S) : Option mm_R := go_X4_heardBy n 36 [(0, mm_P 4 0), (1, mm_I y1), (2, mm_I y2), (3, mm_I y3)] [] z
set_option maxRecDepth 100000 in
theorem qX4_heardBy_0 (n : Nat)  (x1 : Int32) (z : mm_S) : eX4_heardBy_0 (n + 1) x1 z = (eX4_heardBy_4 n x1 0 0 z) := rfl
set_option maxRecDepth 100000 in
theorem qX4_heardBy_4 (n : Nat)  (y1 : Int32) (y2 : Int32) (y3 : Int32) (z : mm_S) : eX4_heardBy_4 (n + 1) y1 y2 y3 z = (if (z.1 1 1) ≤ y3 then some (some (mm_I y2), z) else if y3 = y1 then eX4_heardBy_36 n y1 (y2 + 0) y3 z else (sX4_doesHear y3 y1 z).bind fun q1 => if q1.1 = 0 then eX4_heardBy_36 n y1 (y2 + 0) y3 q1.2 else eX4_heardBy_36 n y1 (y2 + 1) y3 q1.2) := rfl
set_option maxRecDepth 100000 in
theorem qX4_heardBy_36 (n : Nat)  (y1 : Int32) (y2 : Int32) (y3 : Int32) (z : mm_S) : eX4_heardBy_36 (n + 1) y1 y2 y3 z = (eX4_heardBy_4 n y1 y2 (y3 + 1) z) := rfl
def rm_X4_heardBy : Room := { frames := 5, cells := 0, slots := 0, locals := 118 }
noncomputable def f_X4_heardBy (as : List mm_V) (z : mm_S) (o : mm_R) : Prop := (as.map mm_cat).sum ≤ 4 ∧ ∃ n, go_X4_heardBy n 0 (mm_ar 0 as) [] z = some o
theorem M_X4_heardBy : mm_M lyTM lyFA lenM snM 22 22 17 roM rsA nfA nmA [] yX4_heardBy cX4_heardBy 4 (some .int) rm_X4_heardBy f_X4_heardBy :=
  mm_met (rt := 0) (by decide +kernel) ⟨fun h => rfl, fun h => absurd h (by decide), fun h => absurd h (by decide), fun h => absurd h (by decide)⟩ tbX4_heardBy_ok hsnM okFX4 okLX4 (fun _ h => absurd h List.not_mem_nil) (fun _ _ _ _ => rfl) (fun _ _ _ _ => rfl) (List.forall_mem_cons.mpr ⟨sV_X4_doesHear (Or.inl lk_X4_199) rfl ⟨by decide, by decide⟩, fun _ h => absurd h List.not_mem_nil⟩) (fun _ h => absurd h List.not_mem_nil)
noncomputable def sX4_heardBy_36 (y1 : Int32) (y2 : Int32) (y3 : Int32) (z : mm_S) : Option ((Int32 × Int32 × Int32 × mm_S) ⊕ (Int32 × mm_S)) := some (.inl (y1, y2, (y3 + 1), z))
theorem kX4_heardBy_36 (y1 : Int32) (y2 : Int32) (y3 : Int32) (z : mm_S) (oo : mm_R) : mm_Xs (sX4_heardBy_36 y1 y2 y3 z) (mm_mt (fun x : Int32 × Int32 × Int32 × mm_S => ∃ n, eX4_heardBy_4 n x.1 x.2.1 x.2.2.1 x.2.2.2 = some oo) (fun v => (fun v : Int32 × mm_S => ((some (mm_I v.1), v.2) : mm_R)) v = oo)) (fun n => eX4_heardBy_36 n y1 y2 y3 z) oo :=
  xs_row (fun n => qX4_heardBy_36 n y1 y2 y3 z) (xs_v fun hc => hc)
noncomputable def lX4_heardBy_4 (s : Int32 × Int32 × Int32 × mm_S) : Option ((Int32 × Int32 × Int32 × mm_S) ⊕ (Int32 × mm_S)) := if (s.2.2.2.1 1 1) ≤ s.2.2.1 then some (.inr (s.2.1, s.2.2.2)) else if s.2.2.1 = s.1 then (sX4_heardBy_36 s.1 (s.2.1 + 0) s.2.2.1 s.2.2.2) else (sX4_doesHear s.2.2.1 s.1 s.2.2.2).bind fun q1 => if q1.1 = 0 then (sX4_heardBy_36 s.1 (s.2.1 + 0) s.2.2.1 q1.2) else (sX4_heardBy_36 s.1 (s.2.1 + 1) s.2.2.1 q1.2)
noncomputable def sX4_heardBy_4 (y1 : Int32) (y2 : Int32) (y3 : Int32) (z : mm_S) : Option (Int32 × mm_S) := mm_wh (lX4_heardBy_4 ) mm_fu (y1, y2, y3, z)
theorem kX4_heardBy_4 (y1 : Int32) (y2 : Int32) (y3 : Int32) (z : mm_S) (oo : mm_R) : mm_Xs (sX4_heardBy_4 y1 y2 y3 z) (fun v => (fun v : Int32 × mm_S => ((some (mm_I v.1), v.2) : mm_R)) v = oo) (fun n => eX4_heardBy_4 n y1 y2 y3 z) oo :=
  xs_wh (stp := lX4_heardBy_4 ) (o := oo) (E := (fun (s : Int32 × Int32 × Int32 × mm_S) n => eX4_heardBy_4 n s.1 s.2.1 s.2.2.1 s.2.2.2)) (C := (fun v => (fun v : Int32 × mm_S => ((some (mm_I v.1), v.2) : mm_R)) v = oo)) (fun s => xs_row (fun n => qX4_heardBy_4 n s.1 s.2.1 s.2.2.1 s.2.2.2) (xs_if (xs_v fun hc => ⟨0, congrArg some hc⟩) (xs_if (kX4_heardBy_36 s.1 (s.2.1 + 0) s.2.2.1 s.2.2.2 oo) (xs_bd fun q1 => (xs_if (kX4_heardBy_36 s.1 (s.2.1 + 0) s.2.2.1 q1.2 oo) (kX4_heardBy_36 s.1 (s.2.1 + 1) s.2.2.1 q1.2 oo)))))) mm_fu (y1, y2, y3, z)
noncomputable def sX4_heardBy_0 (x1 : Int32) (z : mm_S) : Option (Int32 × mm_S) := (sX4_heardBy_4 x1 0 0 z)
theorem kX4_heardBy_0 (x1 : Int32) (z : mm_S) (oo : mm_R) : mm_Xs (sX4_heardBy_0 x1 z) (fun v => (fun v : Int32 × mm_S => ((some (mm_I v.1), v.2) : mm_R)) v = oo) (fun n => eX4_heardBy_0 n x1 z) oo :=
  xs_row (fun n => qX4_heardBy_0 n x1 z) (kX4_heardBy_4 x1 0 0 z oo)
noncomputable def sX4_heardBy (x1 : Int32) (z : mm_S) : Option (Int32 × mm_S) := sX4_heardBy_0 x1 z
theorem sp_X4_heardBy (x1 : Int32) (z : mm_S) (hk : ∀ v ∈ [mm_P 4 0, mm_I x1], mm_ok 22 lyTM 22 17 v) (q : Int32 × mm_S) (hq : sX4_heardBy x1 z = some q) : f_X4_heardBy [mm_P 4 0, mm_I x1] z (some (mm_I q.1), q.2) := ⟨Nat.le_of_ble_eq_true rfl, kX4_heardBy_0 x1 z _ q hq rfl⟩
noncomputable def clo_X4_heardBy (as : List mm_V) (z : mm_S) (kk : Option mm_V → mm_S → Option mm_R) : Option mm_R := mm_pr as fun t o0 as => bif Nat.beq t 4 then mm_pi as fun a1 as => (match as with | [] => (sX4_heardBy a1 z).bind fun q => kk (some (mm_I q.1)) q.2 | _ => none) else none
theorem cs_X4_heardBy : mm_cs lyTM 22 22 17 f_X4_heardBy clo_X4_heardBy := by
  intro as z K o hk h
  obtain ⟨t0, o0, r0, rfl, g0⟩ := mm_pr_e h
  obtain ⟨b0, k0⟩ := mm_bif_e g0
  obtain rfl := Nat.eq_of_beq_eq_true b0
  obtain ⟨a1, r1, rfl, g1⟩ := mm_pi_e k0
  rcases r1 with _ | ⟨u, w⟩
  rotate_left
  · cases g1
  obtain rfl : o0 = 0 := ok4 (hk (mm_P 4 o0) (by simp))
  obtain ⟨q, hq, hq2⟩ := Option.bind_eq_some_iff.mp g1
  exact ⟨_, _, sp_X4_heardBy a1 z hk q hq, fun v hv => by cases hv; exact Or.inl ⟨_, rfl⟩, hq2⟩
theorem sV_X4_heardBy {own : String} {R : Room} {ar : Nat → Nat} {k : Nat} (hlink : Cond.methodLink own k yX4_heardBy ∈ lw_gd ∨ ∃ host, (own, k, yX4_heardBy, host) ∈ nmA) (har : ar k = 2) (hr : 6 ≤ R.frames ∧ 141 ≤ R.locals) : mm_okV lyTM lyFA lenM snM 22 22 17 roM rsA nfA nmA [] own R ar k clo_X4_heardBy := by
  refine ⟨yX4_heardBy, cX4_heardBy, 4, some .int, rm_X4_heardBy, f_X4_heardBy, 4, 1, (RX4, TX4, 36), M_X4_heardBy, cs_X4_heardBy, hlink, ⟨wv_X4_heardBy, wz_X4_heardBy, wi_X4_heardBy, wc_X4_heardBy⟩, ⟨by decide +kernel, by decide +kernel, by decide +kernel⟩, har, ⟨rfl, rfl, by decide⟩, ?_, ⟨rfl, rfl, hr.1, hr.2⟩⟩
  intro as z K o h
  obtain ⟨t0, o0, r0, rfl, g0⟩ := mm_pr_e h
  obtain ⟨b0, k0⟩ := mm_bif_e g0
  obtain rfl := Nat.eq_of_beq_eq_true b0
  exact ⟨_, _, rfl⟩
-- X4_kindFor
noncomputable def lV_X4_kindFor : List (Nat × (List mm_V → mm_S → (Option mm_V → mm_S → Option mm_R) → Option mm_R)) := [(124, clo_X4_finding), (139, clo_X4_crewIs), (146, clo_X4_isCrew), (229, clo_X4_heardBy)]
noncomputable def mV_X4_kindFor (k : Nat) (as : List mm_V) (z : mm_S) (kk : Option mm_V → mm_S → Option mm_R) : Option mm_R := match mm_at lV_X4_kindFor k with
  | some f => f as z kk
  | none => none
noncomputable def arV_X4_kindFor (k : Nat) : Nat := (mm_at [(124, 2), (139, 3), (146, 2), (229, 2)] k).getD 0
noncomputable def lS_X4_kindFor : List (Nat × (List mm_V → mm_S → (Option mm_V → mm_S → Option mm_R) → Option mm_R)) := [(110, clo_X4_at), (226, mm_mx)]
noncomputable def mS_X4_kindFor (k : Nat) (as : List mm_V) (z : mm_S) (kk : Option mm_V → mm_S → Option mm_R) : Option mm_R := match mm_at lS_X4_kindFor k with
  | some f => f as z kk
  | none => none
noncomputable def arS_X4_kindFor (k : Nat) : Nat := (mm_at [(110, 2), (226, 2)] k).getD 0
def ct_X4_kindFor : List (Nat × List Nat) := [(15, [0, 1]), (22, [0, 1, 2]), (30, [0, 1, 2, 3, 4, 5]), (49, [0, 1, 2, 3, 4, 5]), (56, [0, 1, 2, 3, 4, 5, 6]), (96, [3])]
noncomputable def go_X4_kindFor : Nat → mm_K := mm_go (fun k => mm_at flX4 k) (fun k => mm_at clX4 k) (fun k => mm_at glX4 k) arV_X4_kindFor arS_X4_kindFor mV_X4_kindFor mS_X4_kindFor lenM roM snM 7 0 tbX4_kindFor ct_X4_kindFor
noncomputable def eX4_kindFor_0 (n : Nat)  (x1 : Int32) (z : mm_S) : Option mm_R := go_X4_kindFor n 0 [(0, mm_P 4 0), (1, mm_I x1)] [] z
noncomputable def eX4_kindFor_15 (n : Nat)  (y1 : Int32) (z : mm_S) : Option mm_R := go_X4_kindFor n 15 [(0, mm_P 4 0), (1, mm_I y1)] [] z
noncomputable def eX4_kindFor_22 (n : Nat)  (y1 : Int32) (y2 : Int32) (z : mm_S) : Option mm_R := go_X4_kindFor n 22 [(0, mm_P 4 0), (1, mm_I y1), (2, mm_I y2)] [] z
noncomputable def eX4_kindFor_30 (n : Nat)  (y1 : Int32) (y2 : Int32) (y3 : Int32) (y4 : Int32) (y5 : Int32) (z : mm_S) : Option mm_R := go_X4_kindFor n 30 [(0, mm_P 4 0), (1, mm_I y1), (2, mm_I y2), (3, mm_I y3), (4, mm_I y4), (5, mm_I y5)] [] z
noncomputable def eX4_kindFor_96 (n : Nat) (y3 : Int32) (z : mm_S) : Option mm_R := go_X4_kindFor n 96 [(3, mm_I y3)] [] z
noncomputable def eX4_kindFor_49 (n : Nat)  (y1 : Int32) (y2 : Int32) (y3 : Int32) (y4 : Int32) (y5 : Int32) (z : mm_S) : Option mm_R := go_X4_kindFor n 49 [(0, mm_P 4 0), (1, mm_I y1), (2, mm_I y2), (3, mm_I y3), (4, mm_I y4), (5, mm_I y5)] [] z
noncomputable def eX4_kindFor_56 (n : Nat)  (y1 : Int32) (y2 : Int32) (y3 : Int32) (y4 : Int32) (y5 : Int32) (y6 : Int32) (z : mm_S) : Option mm_R := go_X4_kindFor n 56 [(0, mm_P 4 0), (1, mm_I y1), (2, mm_I y2), (3, mm_I y3), (4, mm_I y4), (5, mm_I y5), (6, mm_I y6)] [] z
set_option maxRecDepth 100000 in
theorem qX4_kindFor_0 (n : Nat)  (x1 : Int32) (z : mm_S) : eX4_kindFor_0 (n + 1) x1 z = (if (pX4_isCrew x1 z) = 0 then (sX4_finding (-1000001) z).bind fun q1 => some (some (mm_I q1.1), q1.2) else eX4_kindFor_15 n x1 z) := rfl
set_option maxRecDepth 100000 in
theorem qX4_kindFor_15 (n : Nat)  (y1 : Int32) (z : mm_S) : eX4_kindFor_15 (n + 1) y1 z = ((sX4_crewIs y1 0 z).bind fun q2 => eX4_kindFor_22 n y1 q2.1 q2.2) := rfl
set_option maxRecDepth 100000 in
theorem qX4_kindFor_22 (n : Nat)  (y1 : Int32) (y2 : Int32) (z : mm_S) : eX4_kindFor_22 (n + 1) y1 y2 z = (eX4_kindFor_30 n y1 y2 (-1) (-1) 0 z) := rfl
set_option maxRecDepth 100000 in
theorem qX4_kindFor_30 (n : Nat)  (y1 : Int32) (y2 : Int32) (y3 : Int32) (y4 : Int32) (y5 : Int32) (z : mm_S) : eX4_kindFor_30 (n + 1) y1 y2 y3 y4 y5 z = (if 6 < y5 then if (pX4_at y1 0) < 0 ∨ 97 ≤ Int32.toNatClampNeg (pX4_at y1 0) then none else eX4_kindFor_96 n y3 ((mm_ui z.1 1 (Int32.toNatClampNeg (pX4_at y1 0)) y2), z.2) else if (pX4_at y1 0) < 0 ∨ 97 ≤ Int32.toNatClampNeg (pX4_at y1 0) then none else eX4_kindFor_49 n y1 y2 y3 y4 y5 ((mm_ui z.1 1 (Int32.toNatClampNeg (pX4_at y1 0)) y5), z.2)) := rfl
set_option maxRecDepth 100000 in
theorem qX4_kindFor_96 (n : Nat) (y3 : Int32) (z : mm_S) : eX4_kindFor_96 (n + 1) y3 z = (some (some (mm_I y3), z)) := rfl
set_option maxRecDepth 100000 in
theorem qX4_kindFor_49 (n : Nat)  (y1 : Int32) (y2 : Int32) (y3 : Int32) (y4 : Int32) (y5 : Int32) (z : mm_S) : eX4_kindFor_49 (n + 1) y1 y2 y3 y4 y5 z = ((sX4_heardBy y1 z).bind fun q3 => eX4_kindFor_56 n y1 y2 y3 y4 y5 q3.1 q3.2) := rfl
set_option maxRecDepth 100000 in
theorem qX4_kindFor_56 (n : Nat)  (y1 : Int32) (y2 : Int32) (y3 : Int32) (y4 : Int32) (y5 : Int32) (y6 : Int32) (z : mm_S) : eX4_kindFor_56 (n + 1) y1 y2 y3 y4 y5 y6 z = (if y6 ≤ y4 then eX4_kindFor_30 n y1 y2 y3 (mm_max y4 y6) (y5 + 1) z else eX4_kindFor_30 n y1 y2 y5 (mm_max y4 y6) (y5 + 1) z) := rfl
def rm_X4_kindFor : Room := { frames := 6, cells := 0, slots := 0, locals := 141 }
noncomputable def f_X4_kindFor (as : List mm_V) (z : mm_S) (o : mm_R) : Prop := (as.map mm_cat).sum ≤ 7 ∧ ∃ n, go_X4_kindFor n 0 (mm_ar 0 as) [] z = some o
theorem M_X4_kindFor : mm_M lyTM lyFA lenM snM 22 22 17 roM rsA nfA nmA [] yX4_kindFor cX4_kindFor 7 (some .int) rm_X4_kindFor f_X4_kindFor :=
  mm_met (rt := 0) (by decide +kernel) ⟨fun h => rfl, fun h => absurd h (by decide), fun h => absurd h (by decide), fun h => absurd h (by decide)⟩ tbX4_kindFor_ok hsnM okFX4 okLX4 (fun _ h => absurd h List.not_mem_nil) (fun _ _ _ _ => rfl) (fun _ _ _ _ => rfl) (List.forall_mem_cons.mpr ⟨sV_X4_finding (Or.inl lk_X4_124) rfl ⟨by decide, by decide⟩, List.forall_mem_cons.mpr ⟨sV_X4_crewIs (Or.inl lk_X4_139) rfl ⟨by decide, by decide⟩, List.forall_mem_cons.mpr ⟨sV_X4_isCrew (Or.inl lk_X4_146) rfl ⟨by decide, by decide⟩, List.forall_mem_cons.mpr ⟨sV_X4_heardBy (Or.inl lk_X4_229) rfl ⟨by decide, by decide⟩, fun _ h => absurd h List.not_mem_nil⟩⟩⟩⟩) (List.forall_mem_cons.mpr ⟨sS_X4_at (Or.inl lk_X4_110) rfl ⟨by decide, by decide⟩, List.forall_mem_cons.mpr ⟨Or.inr (Or.inr ⟨Or.inl ⟨rfl, lk_X4_226, ws_max, wc_max⟩, wi_math, by decide, by decide, rfl⟩), fun _ h => absurd h List.not_mem_nil⟩⟩)
noncomputable def sX4_kindFor_56 (y1 : Int32) (y2 : Int32) (y3 : Int32) (y4 : Int32) (y5 : Int32) (y6 : Int32) (z : mm_S) : Option ((Int32 × Int32 × Int32 × Int32 × Int32 × mm_S) ⊕ (Int32 × mm_S)) := if y6 ≤ y4 then some (.inl (y1, y2, y3, (mm_max y4 y6), (y5 + 1), z)) else some (.inl (y1, y2, y5, (mm_max y4 y6), (y5 + 1), z))
theorem kX4_kindFor_56 (y1 : Int32) (y2 : Int32) (y3 : Int32) (y4 : Int32) (y5 : Int32) (y6 : Int32) (z : mm_S) (oo : mm_R) : mm_Xs (sX4_kindFor_56 y1 y2 y3 y4 y5 y6 z) (mm_mt (fun x : Int32 × Int32 × Int32 × Int32 × Int32 × mm_S => ∃ n, eX4_kindFor_30 n x.1 x.2.1 x.2.2.1 x.2.2.2.1 x.2.2.2.2.1 x.2.2.2.2.2 = some oo) (fun v => (fun v : Int32 × mm_S => ((some (mm_I v.1), v.2) : mm_R)) v = oo)) (fun n => eX4_kindFor_56 n y1 y2 y3 y4 y5 y6 z) oo :=
  xs_row (fun n => qX4_kindFor_56 n y1 y2 y3 y4 y5 y6 z) (xs_if (xs_v fun hc => hc) (xs_v fun hc => hc))
noncomputable def sX4_kindFor_49 (y1 : Int32) (y2 : Int32) (y3 : Int32) (y4 : Int32) (y5 : Int32) (z : mm_S) : Option ((Int32 × Int32 × Int32 × Int32 × Int32 × mm_S) ⊕ (Int32 × mm_S)) := (sX4_heardBy y1 z).bind fun q3 => (sX4_kindFor_56 y1 y2 y3 y4 y5 q3.1 q3.2)
theorem kX4_kindFor_49 (y1 : Int32) (y2 : Int32) (y3 : Int32) (y4 : Int32) (y5 : Int32) (z : mm_S) (oo : mm_R) : mm_Xs (sX4_kindFor_49 y1 y2 y3 y4 y5 z) (mm_mt (fun x : Int32 × Int32 × Int32 × Int32 × Int32 × mm_S => ∃ n, eX4_kindFor_30 n x.1 x.2.1 x.2.2.1 x.2.2.2.1 x.2.2.2.2.1 x.2.2.2.2.2 = some oo) (fun v => (fun v : Int32 × mm_S => ((some (mm_I v.1), v.2) : mm_R)) v = oo)) (fun n => eX4_kindFor_49 n y1 y2 y3 y4 y5 z) oo :=
  xs_row (fun n => qX4_kindFor_49 n y1 y2 y3 y4 y5 z) (xs_bd fun q3 => (kX4_kindFor_56 y1 y2 y3 y4 y5 q3.1 q3.2 oo))
noncomputable def sX4_kindFor_96 (y3 : Int32) (z : mm_S) : Option (Int32 × mm_S) := some (y3, z)
theorem kX4_kindFor_96 (y3 : Int32) (z : mm_S) (oo : mm_R) : mm_Xs (sX4_kindFor_96 y3 z) (fun v => (fun v : Int32 × mm_S => ((some (mm_I v.1), v.2) : mm_R)) v = oo) (fun n => eX4_kindFor_96 n y3 z) oo :=
  xs_row (fun n => qX4_kindFor_96 n y3 z) (xs_v fun hc => ⟨0, congrArg some hc⟩)
noncomputable def lX4_kindFor_30 (s : Int32 × Int32 × Int32 × Int32 × Int32 × mm_S) : Option ((Int32 × Int32 × Int32 × Int32 × Int32 × mm_S) ⊕ (Int32 × mm_S)) := if 6 < s.2.2.2.2.1 then if (pX4_at s.1 0) < 0 ∨ 97 ≤ Int32.toNatClampNeg (pX4_at s.1 0) then none else ((sX4_kindFor_96 s.2.2.1 ((mm_ui s.2.2.2.2.2.1 1 (Int32.toNatClampNeg (pX4_at s.1 0)) s.2.1), s.2.2.2.2.2.2)).map fun w => (Sum.inr w)) else if (pX4_at s.1 0) < 0 ∨ 97 ≤ Int32.toNatClampNeg (pX4_at s.1 0) then none else (sX4_kindFor_49 s.1 s.2.1 s.2.2.1 s.2.2.2.1 s.2.2.2.2.1 ((mm_ui s.2.2.2.2.2.1 1 (Int32.toNatClampNeg (pX4_at s.1 0)) s.2.2.2.2.1), s.2.2.2.2.2.2))
noncomputable def sX4_kindFor_30 (y1 : Int32) (y2 : Int32) (y3 : Int32) (y4 : Int32) (y5 : Int32) (z : mm_S) : Option (Int32 × mm_S) := mm_wh (lX4_kindFor_30 ) mm_fu (y1, y2, y3, y4, y5, z)
theorem kX4_kindFor_30 (y1 : Int32) (y2 : Int32) (y3 : Int32) (y4 : Int32) (y5 : Int32) (z : mm_S) (oo : mm_R) : mm_Xs (sX4_kindFor_30 y1 y2 y3 y4 y5 z) (fun v => (fun v : Int32 × mm_S => ((some (mm_I v.1), v.2) : mm_R)) v = oo) (fun n => eX4_kindFor_30 n y1 y2 y3 y4 y5 z) oo :=
  xs_wh (stp := lX4_kindFor_30 ) (o := oo) (E := (fun (s : Int32 × Int32 × Int32 × Int32 × Int32 × mm_S) n => eX4_kindFor_30 n s.1 s.2.1 s.2.2.1 s.2.2.2.1 s.2.2.2.2.1 s.2.2.2.2.2)) (C := (fun v => (fun v : Int32 × mm_S => ((some (mm_I v.1), v.2) : mm_R)) v = oo)) (fun s => xs_row (fun n => qX4_kindFor_30 n s.1 s.2.1 s.2.2.1 s.2.2.2.1 s.2.2.2.2.1 s.2.2.2.2.2) (xs_if (xs_if xs_n (xs_map (f := fun w => (Sum.inr w)) (kX4_kindFor_96 s.2.2.1 ((mm_ui s.2.2.2.2.2.1 1 (Int32.toNatClampNeg (pX4_at s.1 0)) s.2.1), s.2.2.2.2.2.2) oo) (fun _ h => h))) (xs_if xs_n (kX4_kindFor_49 s.1 s.2.1 s.2.2.1 s.2.2.2.1 s.2.2.2.2.1 ((mm_ui s.2.2.2.2.2.1 1 (Int32.toNatClampNeg (pX4_at s.1 0)) s.2.2.2.2.1), s.2.2.2.2.2.2) oo)))) mm_fu (y1, y2, y3, y4, y5, z)
noncomputable def sX4_kindFor_22 (y1 : Int32) (y2 : Int32) (z : mm_S) : Option (Int32 × mm_S) := (sX4_kindFor_30 y1 y2 (-1) (-1) 0 z)
theorem kX4_kindFor_22 (y1 : Int32) (y2 : Int32) (z : mm_S) (oo : mm_R) : mm_Xs (sX4_kindFor_22 y1 y2 z) (fun v => (fun v : Int32 × mm_S => ((some (mm_I v.1), v.2) : mm_R)) v = oo) (fun n => eX4_kindFor_22 n y1 y2 z) oo :=
  xs_row (fun n => qX4_kindFor_22 n y1 y2 z) (kX4_kindFor_30 y1 y2 (-1) (-1) 0 z oo)
noncomputable def sX4_kindFor_15 (y1 : Int32) (z : mm_S) : Option (Int32 × mm_S) := (sX4_crewIs y1 0 z).bind fun q2 => (sX4_kindFor_22 y1 q2.1 q2.2)
theorem kX4_kindFor_15 (y1 : Int32) (z : mm_S) (oo : mm_R) : mm_Xs (sX4_kindFor_15 y1 z) (fun v => (fun v : Int32 × mm_S => ((some (mm_I v.1), v.2) : mm_R)) v = oo) (fun n => eX4_kindFor_15 n y1 z) oo :=
  xs_row (fun n => qX4_kindFor_15 n y1 z) (xs_bd fun q2 => (kX4_kindFor_22 y1 q2.1 q2.2 oo))
noncomputable def sX4_kindFor_0 (x1 : Int32) (z : mm_S) : Option (Int32 × mm_S) := if (pX4_isCrew x1 z) = 0 then (sX4_finding (-1000001) z).bind fun q1 => some (q1.1, q1.2) else (sX4_kindFor_15 x1 z)
theorem kX4_kindFor_0 (x1 : Int32) (z : mm_S) (oo : mm_R) : mm_Xs (sX4_kindFor_0 x1 z) (fun v => (fun v : Int32 × mm_S => ((some (mm_I v.1), v.2) : mm_R)) v = oo) (fun n => eX4_kindFor_0 n x1 z) oo :=
  xs_row (fun n => qX4_kindFor_0 n x1 z) (xs_if (xs_bd fun q1 => (xs_v fun hc => ⟨0, congrArg some hc⟩)) (kX4_kindFor_15 x1 z oo))
noncomputable def sX4_kindFor (x1 : Int32) (z : mm_S) : Option (Int32 × mm_S) := sX4_kindFor_0 x1 z
theorem sp_X4_kindFor (x1 : Int32) (z : mm_S) (hk : ∀ v ∈ [mm_P 4 0, mm_I x1], mm_ok 22 lyTM 22 17 v) (q : Int32 × mm_S) (hq : sX4_kindFor x1 z = some q) : f_X4_kindFor [mm_P 4 0, mm_I x1] z (some (mm_I q.1), q.2) := ⟨Nat.le_of_ble_eq_true rfl, kX4_kindFor_0 x1 z _ q hq rfl⟩
noncomputable def clo_X4_kindFor (as : List mm_V) (z : mm_S) (kk : Option mm_V → mm_S → Option mm_R) : Option mm_R := mm_pr as fun t o0 as => bif Nat.beq t 4 then mm_pi as fun a1 as => (match as with | [] => (sX4_kindFor a1 z).bind fun q => kk (some (mm_I q.1)) q.2 | _ => none) else none
theorem cs_X4_kindFor : mm_cs lyTM 22 22 17 f_X4_kindFor clo_X4_kindFor := by
  intro as z K o hk h
  obtain ⟨t0, o0, r0, rfl, g0⟩ := mm_pr_e h
  obtain ⟨b0, k0⟩ := mm_bif_e g0
  obtain rfl := Nat.eq_of_beq_eq_true b0
  obtain ⟨a1, r1, rfl, g1⟩ := mm_pi_e k0
  rcases r1 with _ | ⟨u, w⟩
  rotate_left
  · cases g1
  obtain rfl : o0 = 0 := ok4 (hk (mm_P 4 o0) (by simp))
  obtain ⟨q, hq, hq2⟩ := Option.bind_eq_some_iff.mp g1
  exact ⟨_, _, sp_X4_kindFor a1 z hk q hq, fun v hv => by cases hv; exact Or.inl ⟨_, rfl⟩, hq2⟩
theorem sV_X4_kindFor {own : String} {R : Room} {ar : Nat → Nat} {k : Nat} (hlink : Cond.methodLink own k yX4_kindFor ∈ lw_gd ∨ ∃ host, (own, k, yX4_kindFor, host) ∈ nmA) (har : ar k = 2) (hr : 7 ≤ R.frames ∧ 167 ≤ R.locals) : mm_okV lyTM lyFA lenM snM 22 22 17 roM rsA nfA nmA [] own R ar k clo_X4_kindFor := by
  refine ⟨yX4_kindFor, cX4_kindFor, 7, some .int, rm_X4_kindFor, f_X4_kindFor, 4, 1, (RX4, TX4, 36), M_X4_kindFor, cs_X4_kindFor, hlink, ⟨wv_X4_kindFor, wz_X4_kindFor, wi_X4_kindFor, wc_X4_kindFor⟩, ⟨by decide +kernel, by decide +kernel, by decide +kernel⟩, har, ⟨rfl, rfl, by decide⟩, ?_, ⟨rfl, rfl, hr.1, hr.2⟩⟩
  intro as z K o h
  obtain ⟨t0, o0, r0, rfl, g0⟩ := mm_pr_e h
  obtain ⟨b0, k0⟩ := mm_bif_e g0
  obtain rfl := Nat.eq_of_beq_eq_true b0
  exact ⟨_, _, rfl⟩
-- X4_place
noncomputable def lV_X4_place : List (Nat × (List mm_V → mm_S → (Option mm_V → mm_S → Option mm_R) → Option mm_R)) := [(124, clo_X4_finding), (139, clo_X4_crewIs), (146, clo_X4_isCrew), (196, clo_X4_reachOf)]
noncomputable def mV_X4_place (k : Nat) (as : List mm_V) (z : mm_S) (kk : Option mm_V → mm_S → Option mm_R) : Option mm_R := match mm_at lV_X4_place k with
  | some f => f as z kk
  | none => none
noncomputable def arV_X4_place (k : Nat) : Nat := (mm_at [(124, 2), (139, 3), (146, 2), (196, 2)] k).getD 0
noncomputable def lS_X4_place : List (Nat × (List mm_V → mm_S → (Option mm_V → mm_S → Option mm_R) → Option mm_R)) := [(110, clo_X4_at), (226, mm_mx), (232, clo_X4_bits)]
noncomputable def mS_X4_place (k : Nat) (as : List mm_V) (z : mm_S) (kk : Option mm_V → mm_S → Option mm_R) : Option mm_R := match mm_at lS_X4_place k with
  | some f => f as z kk
  | none => none
noncomputable def arS_X4_place (k : Nat) : Nat := (mm_at [(110, 2), (226, 2), (232, 1)] k).getD 0
def ct_X4_place : List (Nat × List Nat) := [(15, [0, 1]), (22, [0, 1, 2]), (30, [0, 1, 2, 3, 4, 5]), (49, [0, 1, 2, 3, 4, 5]), (59, [0, 1, 2, 3, 4, 5, 6]), (99, [3])]
noncomputable def go_X4_place : Nat → mm_K := mm_go (fun k => mm_at flX4 k) (fun k => mm_at clX4 k) (fun k => mm_at glX4 k) arV_X4_place arS_X4_place mV_X4_place mS_X4_place lenM roM snM 7 0 tbX4_place ct_X4_place
noncomputable def eX4_place_0 (n : Nat)  (x1 : Int32) (z : mm_S) : Option mm_R := go_X4_place n 0 [(0, mm_P 4 0), (1, mm_I x1)] [] z
noncomputable def eX4_place_15 (n : Nat)  (y1 : Int32) (z : mm_S) : Option mm_R := go_X4_place n 15 [(0, mm_P 4 0), (1, mm_I y1)] [] z
noncomputable def eX4_place_22 (n : Nat)  (y1 : Int32) (y2 : Int32) (z : mm_S) : Option mm_R := go_X4_place n 22 [(0, mm_P 4 0), (1, mm_I y1), (2, mm_I y2)] [] z
noncomputable def eX4_place_30 (n : Nat)  (y1 : Int32) (y2 : Int32) (y3 : Int32) (y4 : Int32) (y5 : Int32) (z : mm_S) : Option mm_R := go_X4_place n 30 [(0, mm_P 4 0), (1, mm_I y1), (2, mm_I y2), (3, mm_I y3), (4, mm_I y4), (5, mm_I y5)] [] z
noncomputable def eX4_place_99 (n : Nat) (y3 : Int32) (z : mm_S) : Option mm_R := go_X4_place n 99 [(3, mm_I y3)] [] z
noncomputable def eX4_place_49 (n : Nat)  (y1 : Int32) (y2 : Int32) (y3 : Int32) (y4 : Int32) (y5 : Int32) (z : mm_S) : Option mm_R := go_X4_place n 49 [(0, mm_P 4 0), (1, mm_I y1), (2, mm_I y2), (3, mm_I y3), (4, mm_I y4), (5, mm_I y5)] [] z
noncomputable def eX4_place_59 (n : Nat)  (y1 : Int32) (y2 : Int32) (y3 : Int32) (y4 : Int32) (y5 : Int32) (y6 : Int32) (z : mm_S) : Option mm_R := go_X4_place n 59 [(0, mm_P 4 0), (1, mm_I y1), (2, mm_I y2), (3, mm_I y3), (4, mm_I y4), (5, mm_I y5), (6, mm_I y6)] [] z
set_option maxRecDepth 100000 in
theorem qX4_place_0 (n : Nat)  (x1 : Int32) (z : mm_S) : eX4_place_0 (n + 1) x1 z = (if (pX4_isCrew x1 z) = 0 then (sX4_finding (-1000001) z).bind fun q1 => some (some (mm_I q1.1), q1.2) else eX4_place_15 n x1 z) := rfl
set_option maxRecDepth 100000 in
theorem qX4_place_15 (n : Nat)  (y1 : Int32) (z : mm_S) : eX4_place_15 (n + 1) y1 z = ((sX4_crewIs y1 1 z).bind fun q2 => eX4_place_22 n y1 q2.1 q2.2) := rfl
set_option maxRecDepth 100000 in
theorem qX4_place_22 (n : Nat)  (y1 : Int32) (y2 : Int32) (z : mm_S) : eX4_place_22 (n + 1) y1 y2 z = (eX4_place_30 n y1 y2 (-1) (-1) 0 z) := rfl
set_option maxRecDepth 100000 in
theorem qX4_place_30 (n : Nat)  (y1 : Int32) (y2 : Int32) (y3 : Int32) (y4 : Int32) (y5 : Int32) (z : mm_S) : eX4_place_30 (n + 1) y1 y2 y3 y4 y5 z = (if 36 ≤ y5 then if (pX4_at y1 1) < 0 ∨ 97 ≤ Int32.toNatClampNeg (pX4_at y1 1) then none else eX4_place_99 n y3 ((mm_ui z.1 1 (Int32.toNatClampNeg (pX4_at y1 1)) y2), z.2) else if (pX4_at y1 1) < 0 ∨ 97 ≤ Int32.toNatClampNeg (pX4_at y1 1) then none else eX4_place_49 n y1 y2 y3 y4 y5 ((mm_ui z.1 1 (Int32.toNatClampNeg (pX4_at y1 1)) y5), z.2)) := rfl
set_option maxRecDepth 100000 in
theorem qX4_place_99 (n : Nat) (y3 : Int32) (z : mm_S) : eX4_place_99 (n + 1) y3 z = (some (some (mm_I y3), z)) := rfl
set_option maxRecDepth 100000 in
theorem qX4_place_49 (n : Nat)  (y1 : Int32) (y2 : Int32) (y3 : Int32) (y4 : Int32) (y5 : Int32) (z : mm_S) : eX4_place_49 (n + 1) y1 y2 y3 y4 y5 z = ((sX4_reachOf y1 z).bind fun q3 => (sX4_bits q3.1 q3.2).bind fun q4 => eX4_place_59 n y1 y2 y3 y4 y5 q4.1 q4.2) := rfl
set_option maxRecDepth 100000 in
theorem qX4_place_59 (n : Nat)  (y1 : Int32) (y2 : Int32) (y3 : Int32) (y4 : Int32) (y5 : Int32) (y6 : Int32) (z : mm_S) : eX4_place_59 (n + 1) y1 y2 y3 y4 y5 y6 z = (if y6 ≤ y4 then eX4_place_30 n y1 y2 y3 (mm_max y4 y6) (y5 + 1) z else eX4_place_30 n y1 y2 y5 (mm_max y4 y6) (y5 + 1) z) := rfl
def rm_X4_place : Room := { frames := 5, cells := 0, slots := 0, locals := 120 }
noncomputable def f_X4_place (as : List mm_V) (z : mm_S) (o : mm_R) : Prop := (as.map mm_cat).sum ≤ 7 ∧ ∃ n, go_X4_place n 0 (mm_ar 0 as) [] z = some o
theorem M_X4_place : mm_M lyTM lyFA lenM snM 22 22 17 roM rsA nfA nmA [] yX4_place cX4_place 7 (some .int) rm_X4_place f_X4_place :=
  mm_met (rt := 0) (by decide +kernel) ⟨fun h => rfl, fun h => absurd h (by decide), fun h => absurd h (by decide), fun h => absurd h (by decide)⟩ tbX4_place_ok hsnM okFX4 okLX4 (fun _ h => absurd h List.not_mem_nil) (fun _ _ _ _ => rfl) (fun _ _ _ _ => rfl) (List.forall_mem_cons.mpr ⟨sV_X4_finding (Or.inl lk_X4_124) rfl ⟨by decide, by decide⟩, List.forall_mem_cons.mpr ⟨sV_X4_crewIs (Or.inl lk_X4_139) rfl ⟨by decide, by decide⟩, List.forall_mem_cons.mpr ⟨sV_X4_isCrew (Or.inl lk_X4_146) rfl ⟨by decide, by decide⟩, List.forall_mem_cons.mpr ⟨sV_X4_reachOf (Or.inl lk_X4_196) rfl ⟨by decide, by decide⟩, fun _ h => absurd h List.not_mem_nil⟩⟩⟩⟩) (List.forall_mem_cons.mpr ⟨sS_X4_at (Or.inl lk_X4_110) rfl ⟨by decide, by decide⟩, List.forall_mem_cons.mpr ⟨Or.inr (Or.inr ⟨Or.inl ⟨rfl, lk_X4_226, ws_max, wc_max⟩, wi_math, by decide, by decide, rfl⟩), List.forall_mem_cons.mpr ⟨sS_X4_bits (Or.inl lk_X4_232) rfl ⟨by decide, by decide⟩, fun _ h => absurd h List.not_mem_nil⟩⟩⟩)
noncomputable def sX4_place_59 (y1 : Int32) (y2 : Int32) (y3 : Int32) (y4 : Int32) (y5 : Int32) (y6 : Int32) (z : mm_S) : Option ((Int32 × Int32 × Int32 × Int32 × Int32 × mm_S) ⊕ (Int32 × mm_S)) := if y6 ≤ y4 then some (.inl (y1, y2, y3, (mm_max y4 y6), (y5 + 1), z)) else some (.inl (y1, y2, y5, (mm_max y4 y6), (y5 + 1), z))
theorem kX4_place_59 (y1 : Int32) (y2 : Int32) (y3 : Int32) (y4 : Int32) (y5 : Int32) (y6 : Int32) (z : mm_S) (oo : mm_R) : mm_Xs (sX4_place_59 y1 y2 y3 y4 y5 y6 z) (mm_mt (fun x : Int32 × Int32 × Int32 × Int32 × Int32 × mm_S => ∃ n, eX4_place_30 n x.1 x.2.1 x.2.2.1 x.2.2.2.1 x.2.2.2.2.1 x.2.2.2.2.2 = some oo) (fun v => (fun v : Int32 × mm_S => ((some (mm_I v.1), v.2) : mm_R)) v = oo)) (fun n => eX4_place_59 n y1 y2 y3 y4 y5 y6 z) oo :=
  xs_row (fun n => qX4_place_59 n y1 y2 y3 y4 y5 y6 z) (xs_if (xs_v fun hc => hc) (xs_v fun hc => hc))
noncomputable def sX4_place_49 (y1 : Int32) (y2 : Int32) (y3 : Int32) (y4 : Int32) (y5 : Int32) (z : mm_S) : Option ((Int32 × Int32 × Int32 × Int32 × Int32 × mm_S) ⊕ (Int32 × mm_S)) := (sX4_reachOf y1 z).bind fun q3 => (sX4_bits q3.1 q3.2).bind fun q4 => (sX4_place_59 y1 y2 y3 y4 y5 q4.1 q4.2)
theorem kX4_place_49 (y1 : Int32) (y2 : Int32) (y3 : Int32) (y4 : Int32) (y5 : Int32) (z : mm_S) (oo : mm_R) : mm_Xs (sX4_place_49 y1 y2 y3 y4 y5 z) (mm_mt (fun x : Int32 × Int32 × Int32 × Int32 × Int32 × mm_S => ∃ n, eX4_place_30 n x.1 x.2.1 x.2.2.1 x.2.2.2.1 x.2.2.2.2.1 x.2.2.2.2.2 = some oo) (fun v => (fun v : Int32 × mm_S => ((some (mm_I v.1), v.2) : mm_R)) v = oo)) (fun n => eX4_place_49 n y1 y2 y3 y4 y5 z) oo :=
  xs_row (fun n => qX4_place_49 n y1 y2 y3 y4 y5 z) (xs_bd fun q3 => (xs_bd fun q4 => (kX4_place_59 y1 y2 y3 y4 y5 q4.1 q4.2 oo)))
noncomputable def sX4_place_99 (y3 : Int32) (z : mm_S) : Option (Int32 × mm_S) := some (y3, z)
theorem kX4_place_99 (y3 : Int32) (z : mm_S) (oo : mm_R) : mm_Xs (sX4_place_99 y3 z) (fun v => (fun v : Int32 × mm_S => ((some (mm_I v.1), v.2) : mm_R)) v = oo) (fun n => eX4_place_99 n y3 z) oo :=
  xs_row (fun n => qX4_place_99 n y3 z) (xs_v fun hc => ⟨0, congrArg some hc⟩)
noncomputable def lX4_place_30 (s : Int32 × Int32 × Int32 × Int32 × Int32 × mm_S) : Option ((Int32 × Int32 × Int32 × Int32 × Int32 × mm_S) ⊕ (Int32 × mm_S)) := if 36 ≤ s.2.2.2.2.1 then if (pX4_at s.1 1) < 0 ∨ 97 ≤ Int32.toNatClampNeg (pX4_at s.1 1) then none else ((sX4_place_99 s.2.2.1 ((mm_ui s.2.2.2.2.2.1 1 (Int32.toNatClampNeg (pX4_at s.1 1)) s.2.1), s.2.2.2.2.2.2)).map fun w => (Sum.inr w)) else if (pX4_at s.1 1) < 0 ∨ 97 ≤ Int32.toNatClampNeg (pX4_at s.1 1) then none else (sX4_place_49 s.1 s.2.1 s.2.2.1 s.2.2.2.1 s.2.2.2.2.1 ((mm_ui s.2.2.2.2.2.1 1 (Int32.toNatClampNeg (pX4_at s.1 1)) s.2.2.2.2.1), s.2.2.2.2.2.2))
noncomputable def sX4_place_30 (y1 : Int32) (y2 : Int32) (y3 : Int32) (y4 : Int32) (y5 : Int32) (z : mm_S) : Option (Int32 × mm_S) := mm_wh (lX4_place_30 ) mm_fu (y1, y2, y3, y4, y5, z)
theorem kX4_place_30 (y1 : Int32) (y2 : Int32) (y3 : Int32) (y4 : Int32) (y5 : Int32) (z : mm_S) (oo : mm_R) : mm_Xs (sX4_place_30 y1 y2 y3 y4 y5 z) (fun v => (fun v : Int32 × mm_S => ((some (mm_I v.1), v.2) : mm_R)) v = oo) (fun n => eX4_place_30 n y1 y2 y3 y4 y5 z) oo :=
  xs_wh (stp := lX4_place_30 ) (o := oo) (E := (fun (s : Int32 × Int32 × Int32 × Int32 × Int32 × mm_S) n => eX4_place_30 n s.1 s.2.1 s.2.2.1 s.2.2.2.1 s.2.2.2.2.1 s.2.2.2.2.2)) (C := (fun v => (fun v : Int32 × mm_S => ((some (mm_I v.1), v.2) : mm_R)) v = oo)) (fun s => xs_row (fun n => qX4_place_30 n s.1 s.2.1 s.2.2.1 s.2.2.2.1 s.2.2.2.2.1 s.2.2.2.2.2) (xs_if (xs_if xs_n (xs_map (f := fun w => (Sum.inr w)) (kX4_place_99 s.2.2.1 ((mm_ui s.2.2.2.2.2.1 1 (Int32.toNatClampNeg (pX4_at s.1 1)) s.2.1), s.2.2.2.2.2.2) oo) (fun _ h => h))) (xs_if xs_n (kX4_place_49 s.1 s.2.1 s.2.2.1 s.2.2.2.1 s.2.2.2.2.1 ((mm_ui s.2.2.2.2.2.1 1 (Int32.toNatClampNeg (pX4_at s.1 1)) s.2.2.2.2.1), s.2.2.2.2.2.2) oo)))) mm_fu (y1, y2, y3, y4, y5, z)
noncomputable def sX4_place_22 (y1 : Int32) (y2 : Int32) (z : mm_S) : Option (Int32 × mm_S) := (sX4_place_30 y1 y2 (-1) (-1) 0 z)
theorem kX4_place_22 (y1 : Int32) (y2 : Int32) (z : mm_S) (oo : mm_R) : mm_Xs (sX4_place_22 y1 y2 z) (fun v => (fun v : Int32 × mm_S => ((some (mm_I v.1), v.2) : mm_R)) v = oo) (fun n => eX4_place_22 n y1 y2 z) oo :=
  xs_row (fun n => qX4_place_22 n y1 y2 z) (kX4_place_30 y1 y2 (-1) (-1) 0 z oo)
noncomputable def sX4_place_15 (y1 : Int32) (z : mm_S) : Option (Int32 × mm_S) := (sX4_crewIs y1 1 z).bind fun q2 => (sX4_place_22 y1 q2.1 q2.2)
theorem kX4_place_15 (y1 : Int32) (z : mm_S) (oo : mm_R) : mm_Xs (sX4_place_15 y1 z) (fun v => (fun v : Int32 × mm_S => ((some (mm_I v.1), v.2) : mm_R)) v = oo) (fun n => eX4_place_15 n y1 z) oo :=
  xs_row (fun n => qX4_place_15 n y1 z) (xs_bd fun q2 => (kX4_place_22 y1 q2.1 q2.2 oo))
noncomputable def sX4_place_0 (x1 : Int32) (z : mm_S) : Option (Int32 × mm_S) := if (pX4_isCrew x1 z) = 0 then (sX4_finding (-1000001) z).bind fun q1 => some (q1.1, q1.2) else (sX4_place_15 x1 z)
theorem kX4_place_0 (x1 : Int32) (z : mm_S) (oo : mm_R) : mm_Xs (sX4_place_0 x1 z) (fun v => (fun v : Int32 × mm_S => ((some (mm_I v.1), v.2) : mm_R)) v = oo) (fun n => eX4_place_0 n x1 z) oo :=
  xs_row (fun n => qX4_place_0 n x1 z) (xs_if (xs_bd fun q1 => (xs_v fun hc => ⟨0, congrArg some hc⟩)) (kX4_place_15 x1 z oo))
noncomputable def sX4_place (x1 : Int32) (z : mm_S) : Option (Int32 × mm_S) := sX4_place_0 x1 z
theorem sp_X4_place (x1 : Int32) (z : mm_S) (hk : ∀ v ∈ [mm_P 4 0, mm_I x1], mm_ok 22 lyTM 22 17 v) (q : Int32 × mm_S) (hq : sX4_place x1 z = some q) : f_X4_place [mm_P 4 0, mm_I x1] z (some (mm_I q.1), q.2) := ⟨Nat.le_of_ble_eq_true rfl, kX4_place_0 x1 z _ q hq rfl⟩
noncomputable def clo_X4_place (as : List mm_V) (z : mm_S) (kk : Option mm_V → mm_S → Option mm_R) : Option mm_R := mm_pr as fun t o0 as => bif Nat.beq t 4 then mm_pi as fun a1 as => (match as with | [] => (sX4_place a1 z).bind fun q => kk (some (mm_I q.1)) q.2 | _ => none) else none
theorem cs_X4_place : mm_cs lyTM 22 22 17 f_X4_place clo_X4_place := by
  intro as z K o hk h
  obtain ⟨t0, o0, r0, rfl, g0⟩ := mm_pr_e h
  obtain ⟨b0, k0⟩ := mm_bif_e g0
  obtain rfl := Nat.eq_of_beq_eq_true b0
  obtain ⟨a1, r1, rfl, g1⟩ := mm_pi_e k0
  rcases r1 with _ | ⟨u, w⟩
  rotate_left
  · cases g1
  obtain rfl : o0 = 0 := ok4 (hk (mm_P 4 o0) (by simp))
  obtain ⟨q, hq, hq2⟩ := Option.bind_eq_some_iff.mp g1
  exact ⟨_, _, sp_X4_place a1 z hk q hq, fun v hv => by cases hv; exact Or.inl ⟨_, rfl⟩, hq2⟩
theorem sV_X4_place {own : String} {R : Room} {ar : Nat → Nat} {k : Nat} (hlink : Cond.methodLink own k yX4_place ∈ lw_gd ∨ ∃ host, (own, k, yX4_place, host) ∈ nmA) (har : ar k = 2) (hr : 6 ≤ R.frames ∧ 146 ≤ R.locals) : mm_okV lyTM lyFA lenM snM 22 22 17 roM rsA nfA nmA [] own R ar k clo_X4_place := by
  refine ⟨yX4_place, cX4_place, 7, some .int, rm_X4_place, f_X4_place, 4, 1, (RX4, TX4, 36), M_X4_place, cs_X4_place, hlink, ⟨wv_X4_place, wz_X4_place, wi_X4_place, wc_X4_place⟩, ⟨by decide +kernel, by decide +kernel, by decide +kernel⟩, har, ⟨rfl, rfl, by decide⟩, ?_, ⟨rfl, rfl, hr.1, hr.2⟩⟩
  intro as z K o h
  obtain ⟨t0, o0, r0, rfl, g0⟩ := mm_pr_e h
  obtain ⟨b0, k0⟩ := mm_bif_e g0
  obtain rfl := Nat.eq_of_beq_eq_true b0
  exact ⟨_, _, rfl⟩
-- X4_enters
noncomputable def lV_X4_enters : List (Nat × (List mm_V → mm_S → (Option mm_V → mm_S → Option mm_R) → Option mm_R)) := []
noncomputable def mV_X4_enters (k : Nat) (as : List mm_V) (z : mm_S) (kk : Option mm_V → mm_S → Option mm_R) : Option mm_R := match mm_at lV_X4_enters k with
  | some f => f as z kk
  | none => none
noncomputable def arV_X4_enters (k : Nat) : Nat := (mm_at [] k).getD 0
noncomputable def lS_X4_enters : List (Nat × (List mm_V → mm_S → (Option mm_V → mm_S → Option mm_R) → Option mm_R)) := []
noncomputable def mS_X4_enters (k : Nat) (as : List mm_V) (z : mm_S) (kk : Option mm_V → mm_S → Option mm_R) : Option mm_R := match mm_at lS_X4_enters k with
  | some f => f as z kk
  | none => none
noncomputable def arS_X4_enters (k : Nat) : Nat := (mm_at [] k).getD 0
def ct_X4_enters : List (Nat × List Nat) := [(21, [0, 2, 3, 4]), (31, [0, 3, 4]), (41, [0]), (51, [0])]
noncomputable def go_X4_enters : Nat → mm_K := mm_go (fun k => mm_at flX4 k) (fun k => mm_at clX4 k) (fun k => mm_at glX4 k) arV_X4_enters arS_X4_enters mV_X4_enters mS_X4_enters lenM roM snM 5 0 tbX4_enters ct_X4_enters
noncomputable def eX4_enters_0 (n : Nat)  (x1 : Int32) (x2 : Int32) (x3 : Int32) (z : mm_S) : Option mm_R := go_X4_enters n 0 [(0, mm_P 4 0), (1, mm_I x1), (2, mm_I x2), (3, mm_I x3)] [] z
noncomputable def eX4_enters_21 (n : Nat)  (y2 : Int32) (y3 : Int32) (y4 : Int32) (z : mm_S) : Option mm_R := go_X4_enters n 21 [(0, mm_P 4 0), (2, mm_I y2), (3, mm_I y3), (4, mm_I y4)] [] z
noncomputable def eX4_enters_31 (n : Nat)  (y3 : Int32) (y4 : Int32) (z : mm_S) : Option mm_R := go_X4_enters n 31 [(0, mm_P 4 0), (3, mm_I y3), (4, mm_I y4)] [] z
noncomputable def eX4_enters_41 (n : Nat)  (z : mm_S) : Option mm_R := go_X4_enters n 41 [(0, mm_P 4 0)] [] z
noncomputable def eX4_enters_51 (n : Nat)  (z : mm_S) : Option mm_R := go_X4_enters n 51 [(0, mm_P 4 0)] [] z
set_option maxRecDepth 100000 in
theorem qX4_enters_0 (n : Nat)  (x1 : Int32) (x2 : Int32) (x3 : Int32) (z : mm_S) : eX4_enters_0 (n + 1) x1 x2 x3 z = (if (73 + (3 * (z.1 1 2))) < 0 ∨ 97 ≤ Int32.toNatClampNeg (73 + (3 * (z.1 1 2))) then none else eX4_enters_21 n x2 x3 (73 + (3 * (z.1 1 2))) ((mm_ui z.1 1 (Int32.toNatClampNeg (73 + (3 * (z.1 1 2)))) x1), z.2)) := rfl
set_option maxRecDepth 100000 in
theorem qX4_enters_21 (n : Nat)  (y2 : Int32) (y3 : Int32) (y4 : Int32) (z : mm_S) : eX4_enters_21 (n + 1) y2 y3 y4 z = (if (y4 + 1) < 0 ∨ 97 ≤ Int32.toNatClampNeg (y4 + 1) then none else eX4_enters_31 n y3 y4 ((mm_ui z.1 1 (Int32.toNatClampNeg (y4 + 1)) y2), z.2)) := rfl
set_option maxRecDepth 100000 in
theorem qX4_enters_31 (n : Nat)  (y3 : Int32) (y4 : Int32) (z : mm_S) : eX4_enters_31 (n + 1) y3 y4 z = (if (y4 + 2) < 0 ∨ 97 ≤ Int32.toNatClampNeg (y4 + 2) then none else eX4_enters_41 n  ((mm_ui z.1 1 (Int32.toNatClampNeg (y4 + 2)) y3), z.2)) := rfl
set_option maxRecDepth 100000 in
theorem qX4_enters_41 (n : Nat)  (z : mm_S) : eX4_enters_41 (n + 1)  z = (eX4_enters_51 n  ((mm_ui z.1 1 2 ((z.1 1 2) + 1)), z.2)) := rfl
set_option maxRecDepth 100000 in
theorem qX4_enters_51 (n : Nat)  (z : mm_S) : eX4_enters_51 (n + 1)  z = (some (some (mm_I (z.1 1 2)), z)) := rfl
def rm_X4_enters : Room := { frames := 0, cells := 0, slots := 0, locals := 0 }
noncomputable def f_X4_enters (as : List mm_V) (z : mm_S) (o : mm_R) : Prop := (as.map mm_cat).sum ≤ 5 ∧ ∃ n, go_X4_enters n 0 (mm_ar 0 as) [] z = some o
theorem M_X4_enters : mm_M lyTM lyFA lenM snM 22 22 17 roM rsA nfA nmA [] yX4_enters cX4_enters 5 (some .int) rm_X4_enters f_X4_enters :=
  mm_met (rt := 0) (by decide +kernel) ⟨fun h => rfl, fun h => absurd h (by decide), fun h => absurd h (by decide), fun h => absurd h (by decide)⟩ tbX4_enters_ok hsnM okFX4 okLX4 (fun _ h => absurd h List.not_mem_nil) (fun _ _ _ _ => rfl) (fun _ _ _ _ => rfl) (fun _ h => absurd h List.not_mem_nil) (fun _ h => absurd h List.not_mem_nil)
noncomputable def sX4_enters_51  (z : mm_S) : Option (Int32 × mm_S) := some ((z.1 1 2), z)
theorem kX4_enters_51  (z : mm_S) (oo : mm_R) : mm_Xs (sX4_enters_51  z) (fun v => (fun v : Int32 × mm_S => ((some (mm_I v.1), v.2) : mm_R)) v = oo) (fun n => eX4_enters_51 n  z) oo :=
  xs_row (fun n => qX4_enters_51 n z) (xs_v fun hc => ⟨0, congrArg some hc⟩)
noncomputable def sX4_enters_41  (z : mm_S) : Option (Int32 × mm_S) := (sX4_enters_51 ((mm_ui z.1 1 2 ((z.1 1 2) + 1)), z.2))
theorem kX4_enters_41  (z : mm_S) (oo : mm_R) : mm_Xs (sX4_enters_41  z) (fun v => (fun v : Int32 × mm_S => ((some (mm_I v.1), v.2) : mm_R)) v = oo) (fun n => eX4_enters_41 n  z) oo :=
  xs_row (fun n => qX4_enters_41 n z) (kX4_enters_51 ((mm_ui z.1 1 2 ((z.1 1 2) + 1)), z.2) oo)
noncomputable def sX4_enters_31 (y3 : Int32) (y4 : Int32) (z : mm_S) : Option (Int32 × mm_S) := if (y4 + 2) < 0 ∨ 97 ≤ Int32.toNatClampNeg (y4 + 2) then none else (sX4_enters_41 ((mm_ui z.1 1 (Int32.toNatClampNeg (y4 + 2)) y3), z.2))
theorem kX4_enters_31 (y3 : Int32) (y4 : Int32) (z : mm_S) (oo : mm_R) : mm_Xs (sX4_enters_31 y3 y4 z) (fun v => (fun v : Int32 × mm_S => ((some (mm_I v.1), v.2) : mm_R)) v = oo) (fun n => eX4_enters_31 n y3 y4 z) oo :=
  xs_row (fun n => qX4_enters_31 n y3 y4 z) (xs_if xs_n (kX4_enters_41 ((mm_ui z.1 1 (Int32.toNatClampNeg (y4 + 2)) y3), z.2) oo))
noncomputable def sX4_enters_21 (y2 : Int32) (y3 : Int32) (y4 : Int32) (z : mm_S) : Option (Int32 × mm_S) := if (y4 + 1) < 0 ∨ 97 ≤ Int32.toNatClampNeg (y4 + 1) then none else (sX4_enters_31 y3 y4 ((mm_ui z.1 1 (Int32.toNatClampNeg (y4 + 1)) y2), z.2))
theorem kX4_enters_21 (y2 : Int32) (y3 : Int32) (y4 : Int32) (z : mm_S) (oo : mm_R) : mm_Xs (sX4_enters_21 y2 y3 y4 z) (fun v => (fun v : Int32 × mm_S => ((some (mm_I v.1), v.2) : mm_R)) v = oo) (fun n => eX4_enters_21 n y2 y3 y4 z) oo :=
  xs_row (fun n => qX4_enters_21 n y2 y3 y4 z) (xs_if xs_n (kX4_enters_31 y3 y4 ((mm_ui z.1 1 (Int32.toNatClampNeg (y4 + 1)) y2), z.2) oo))
noncomputable def sX4_enters_0 (x1 : Int32) (x2 : Int32) (x3 : Int32) (z : mm_S) : Option (Int32 × mm_S) := if (73 + (3 * (z.1 1 2))) < 0 ∨ 97 ≤ Int32.toNatClampNeg (73 + (3 * (z.1 1 2))) then none else (sX4_enters_21 x2 x3 (73 + (3 * (z.1 1 2))) ((mm_ui z.1 1 (Int32.toNatClampNeg (73 + (3 * (z.1 1 2)))) x1), z.2))
theorem kX4_enters_0 (x1 : Int32) (x2 : Int32) (x3 : Int32) (z : mm_S) (oo : mm_R) : mm_Xs (sX4_enters_0 x1 x2 x3 z) (fun v => (fun v : Int32 × mm_S => ((some (mm_I v.1), v.2) : mm_R)) v = oo) (fun n => eX4_enters_0 n x1 x2 x3 z) oo :=
  xs_row (fun n => qX4_enters_0 n x1 x2 x3 z) (xs_if xs_n (kX4_enters_21 x2 x3 (73 + (3 * (z.1 1 2))) ((mm_ui z.1 1 (Int32.toNatClampNeg (73 + (3 * (z.1 1 2)))) x1), z.2) oo))
noncomputable def sX4_enters (x1 : Int32) (x2 : Int32) (x3 : Int32) (z : mm_S) : Option (Int32 × mm_S) := sX4_enters_0 x1 x2 x3 z
theorem sp_X4_enters (x1 : Int32) (x2 : Int32) (x3 : Int32) (z : mm_S) (hk : ∀ v ∈ [mm_P 4 0, mm_I x1, mm_I x2, mm_I x3], mm_ok 22 lyTM 22 17 v) (q : Int32 × mm_S) (hq : sX4_enters x1 x2 x3 z = some q) : f_X4_enters [mm_P 4 0, mm_I x1, mm_I x2, mm_I x3] z (some (mm_I q.1), q.2) := ⟨Nat.le_of_ble_eq_true rfl, kX4_enters_0 x1 x2 x3 z _ q hq rfl⟩
noncomputable def clo_X4_enters (as : List mm_V) (z : mm_S) (kk : Option mm_V → mm_S → Option mm_R) : Option mm_R := mm_pr as fun t o0 as => bif Nat.beq t 4 then mm_pi as fun a1 as => mm_pi as fun a2 as => mm_pi as fun a3 as => (match as with | [] => (sX4_enters a1 a2 a3 z).bind fun q => kk (some (mm_I q.1)) q.2 | _ => none) else none
theorem cs_X4_enters : mm_cs lyTM 22 22 17 f_X4_enters clo_X4_enters := by
  intro as z K o hk h
  obtain ⟨t0, o0, r0, rfl, g0⟩ := mm_pr_e h
  obtain ⟨b0, k0⟩ := mm_bif_e g0
  obtain rfl := Nat.eq_of_beq_eq_true b0
  obtain ⟨a1, r1, rfl, g1⟩ := mm_pi_e k0
  obtain ⟨a2, r2, rfl, g2⟩ := mm_pi_e g1
  obtain ⟨a3, r3, rfl, g3⟩ := mm_pi_e g2
  rcases r3 with _ | ⟨u, w⟩
  rotate_left
  · cases g3
  obtain rfl : o0 = 0 := ok4 (hk (mm_P 4 o0) (by simp))
  obtain ⟨q, hq, hq2⟩ := Option.bind_eq_some_iff.mp g3
  exact ⟨_, _, sp_X4_enters a1 a2 a3 z hk q hq, fun v hv => by cases hv; exact Or.inl ⟨_, rfl⟩, hq2⟩
theorem sV_X4_enters {own : String} {R : Room} {ar : Nat → Nat} {k : Nat} (hlink : Cond.methodLink own k yX4_enters ∈ lw_gd ∨ ∃ host, (own, k, yX4_enters, host) ∈ nmA) (har : ar k = 4) (hr : 1 ≤ R.frames ∧ 24 ≤ R.locals) : mm_okV lyTM lyFA lenM snM 22 22 17 roM rsA nfA nmA [] own R ar k clo_X4_enters := by
  refine ⟨yX4_enters, cX4_enters, 5, some .int, rm_X4_enters, f_X4_enters, 4, 3, (RX4, TX4, 36), M_X4_enters, cs_X4_enters, hlink, ⟨wv_X4_enters, wz_X4_enters, wi_X4_enters, wc_X4_enters⟩, ⟨by decide +kernel, by decide +kernel, by decide +kernel⟩, har, ⟨rfl, rfl, by decide⟩, ?_, ⟨rfl, rfl, hr.1, hr.2⟩⟩
  intro as z K o h
  obtain ⟨t0, o0, r0, rfl, g0⟩ := mm_pr_e h
  obtain ⟨b0, k0⟩ := mm_bif_e g0
  obtain rfl := Nat.eq_of_beq_eq_true b0
  exact ⟨_, _, rfl⟩
-- X4_book
noncomputable def lV_X4_book : List (Nat × (List mm_V → mm_S → (Option mm_V → mm_S → Option mm_R) → Option mm_R)) := [(124, clo_X4_finding), (236, clo_X4_enters)]
noncomputable def mV_X4_book (k : Nat) (as : List mm_V) (z : mm_S) (kk : Option mm_V → mm_S → Option mm_R) : Option mm_R := match mm_at lV_X4_book k with
  | some f => f as z kk
  | none => none
noncomputable def arV_X4_book (k : Nat) : Nat := (mm_at [(124, 2), (236, 4)] k).getD 0
noncomputable def lS_X4_book : List (Nat × (List mm_V → mm_S → (Option mm_V → mm_S → Option mm_R) → Option mm_R)) := [(106, clo_X4_within), (114, clo_X4_isCell)]
noncomputable def mS_X4_book (k : Nat) (as : List mm_V) (z : mm_S) (kk : Option mm_V → mm_S → Option mm_R) : Option mm_R := match mm_at lS_X4_book k with
  | some f => f as z kk
  | none => none
noncomputable def arS_X4_book (k : Nat) : Nat := (mm_at [(106, 3), (114, 1)] k).getD 0
def ct_X4_book : List (Nat × List Nat) := [(31, [0, 1, 2, 3]), (51, [0, 1, 2, 3])]
noncomputable def go_X4_book : Nat → mm_K := mm_go (fun k => mm_at flX4 k) (fun k => mm_at clX4 k) (fun k => mm_at glX4 k) arV_X4_book arS_X4_book mV_X4_book mS_X4_book lenM roM snM 4 0 tbX4_book ct_X4_book
noncomputable def eX4_book_0 (n : Nat)  (x1 : Int32) (x2 : Int32) (x3 : Int32) (z : mm_S) : Option mm_R := go_X4_book n 0 [(0, mm_P 4 0), (1, mm_I x1), (2, mm_I x2), (3, mm_I x3)] [] z
noncomputable def eX4_book_31 (n : Nat)  (y1 : Int32) (y2 : Int32) (y3 : Int32) (z : mm_S) : Option mm_R := go_X4_book n 31 [(0, mm_P 4 0), (1, mm_I y1), (2, mm_I y2), (3, mm_I y3)] [] z
noncomputable def eX4_book_51 (n : Nat)  (y1 : Int32) (y2 : Int32) (y3 : Int32) (z : mm_S) : Option mm_R := go_X4_book n 51 [(0, mm_P 4 0), (1, mm_I y1), (2, mm_I y2), (3, mm_I y3)] [] z
set_option maxRecDepth 100000 in
theorem qX4_book_0 (n : Nat)  (x1 : Int32) (x2 : Int32) (x3 : Int32) (z : mm_S) : eX4_book_0 (n + 1) x1 x2 x3 z = (if (pX4_isCell x1) = 0 then (sX4_finding (-1000001) z).bind fun q1 => some (some (mm_I q1.1), q1.2) else if (pX4_isCell x2) = 0 then (sX4_finding (-1000001) z).bind fun q2 => some (some (mm_I q2.1), q2.2) else if (pX4_within x3 0 99) = 0 then (sX4_finding (-1000001) z).bind fun q3 => some (some (mm_I q3.1), q3.2) else eX4_book_31 n x1 x2 x3 z) := rfl
set_option maxRecDepth 100000 in
theorem qX4_book_31 (n : Nat)  (y1 : Int32) (y2 : Int32) (y3 : Int32) (z : mm_S) : eX4_book_31 (n + 1) y1 y2 y3 z = (if (z.1 1 2) = 8 then (sX4_finding (-1000002) z).bind fun q4 => some (some (mm_I q4.1), q4.2) else eX4_book_51 n y1 y2 y3 z) := rfl
set_option maxRecDepth 100000 in
theorem qX4_book_51 (n : Nat)  (y1 : Int32) (y2 : Int32) (y3 : Int32) (z : mm_S) : eX4_book_51 (n + 1) y1 y2 y3 z = ((sX4_enters y1 y2 y3 z).bind fun q5 => some (some (mm_I q5.1), q5.2)) := rfl
def rm_X4_book : Room := { frames := 2, cells := 0, slots := 0, locals := 42 }
noncomputable def f_X4_book (as : List mm_V) (z : mm_S) (o : mm_R) : Prop := (as.map mm_cat).sum ≤ 4 ∧ ∃ n, go_X4_book n 0 (mm_ar 0 as) [] z = some o
theorem M_X4_book : mm_M lyTM lyFA lenM snM 22 22 17 roM rsA nfA nmA [] yX4_book cX4_book 4 (some .int) rm_X4_book f_X4_book :=
  mm_met (rt := 0) (by decide +kernel) ⟨fun h => rfl, fun h => absurd h (by decide), fun h => absurd h (by decide), fun h => absurd h (by decide)⟩ tbX4_book_ok hsnM okFX4 okLX4 (fun _ h => absurd h List.not_mem_nil) (fun _ _ _ _ => rfl) (fun _ _ _ _ => rfl) (List.forall_mem_cons.mpr ⟨sV_X4_finding (Or.inl lk_X4_124) rfl ⟨by decide, by decide⟩, List.forall_mem_cons.mpr ⟨sV_X4_enters (Or.inl lk_X4_236) rfl ⟨by decide, by decide⟩, fun _ h => absurd h List.not_mem_nil⟩⟩) (List.forall_mem_cons.mpr ⟨sS_X4_within (Or.inl lk_X4_106) rfl ⟨by decide, by decide⟩, List.forall_mem_cons.mpr ⟨sS_X4_isCell (Or.inl lk_X4_114) rfl ⟨by decide, by decide⟩, fun _ h => absurd h List.not_mem_nil⟩⟩)
noncomputable def sX4_book_51 (y1 : Int32) (y2 : Int32) (y3 : Int32) (z : mm_S) : Option (Int32 × mm_S) := (sX4_enters y1 y2 y3 z).bind fun q5 => some (q5.1, q5.2)
theorem kX4_book_51 (y1 : Int32) (y2 : Int32) (y3 : Int32) (z : mm_S) (oo : mm_R) : mm_Xs (sX4_book_51 y1 y2 y3 z) (fun v => (fun v : Int32 × mm_S => ((some (mm_I v.1), v.2) : mm_R)) v = oo) (fun n => eX4_book_51 n y1 y2 y3 z) oo :=
  xs_row (fun n => qX4_book_51 n y1 y2 y3 z) (xs_bd fun q5 => (xs_v fun hc => ⟨0, congrArg some hc⟩))
noncomputable def sX4_book_31 (y1 : Int32) (y2 : Int32) (y3 : Int32) (z : mm_S) : Option (Int32 × mm_S) := if (z.1 1 2) = 8 then (sX4_finding (-1000002) z).bind fun q4 => some (q4.1, q4.2) else (sX4_book_51 y1 y2 y3 z)
theorem kX4_book_31 (y1 : Int32) (y2 : Int32) (y3 : Int32) (z : mm_S) (oo : mm_R) : mm_Xs (sX4_book_31 y1 y2 y3 z) (fun v => (fun v : Int32 × mm_S => ((some (mm_I v.1), v.2) : mm_R)) v = oo) (fun n => eX4_book_31 n y1 y2 y3 z) oo :=
  xs_row (fun n => qX4_book_31 n y1 y2 y3 z) (xs_if (xs_bd fun q4 => (xs_v fun hc => ⟨0, congrArg some hc⟩)) (kX4_book_51 y1 y2 y3 z oo))
noncomputable def sX4_book_0 (x1 : Int32) (x2 : Int32) (x3 : Int32) (z : mm_S) : Option (Int32 × mm_S) := if (pX4_isCell x1) = 0 then (sX4_finding (-1000001) z).bind fun q1 => some (q1.1, q1.2) else if (pX4_isCell x2) = 0 then (sX4_finding (-1000001) z).bind fun q2 => some (q2.1, q2.2) else if (pX4_within x3 0 99) = 0 then (sX4_finding (-1000001) z).bind fun q3 => some (q3.1, q3.2) else (sX4_book_31 x1 x2 x3 z)
theorem kX4_book_0 (x1 : Int32) (x2 : Int32) (x3 : Int32) (z : mm_S) (oo : mm_R) : mm_Xs (sX4_book_0 x1 x2 x3 z) (fun v => (fun v : Int32 × mm_S => ((some (mm_I v.1), v.2) : mm_R)) v = oo) (fun n => eX4_book_0 n x1 x2 x3 z) oo :=
  xs_row (fun n => qX4_book_0 n x1 x2 x3 z) (xs_if (xs_bd fun q1 => (xs_v fun hc => ⟨0, congrArg some hc⟩)) (xs_if (xs_bd fun q2 => (xs_v fun hc => ⟨0, congrArg some hc⟩)) (xs_if (xs_bd fun q3 => (xs_v fun hc => ⟨0, congrArg some hc⟩)) (kX4_book_31 x1 x2 x3 z oo))))
noncomputable def sX4_book (x1 : Int32) (x2 : Int32) (x3 : Int32) (z : mm_S) : Option (Int32 × mm_S) := sX4_book_0 x1 x2 x3 z
theorem sp_X4_book (x1 : Int32) (x2 : Int32) (x3 : Int32) (z : mm_S) (hk : ∀ v ∈ [mm_P 4 0, mm_I x1, mm_I x2, mm_I x3], mm_ok 22 lyTM 22 17 v) (q : Int32 × mm_S) (hq : sX4_book x1 x2 x3 z = some q) : f_X4_book [mm_P 4 0, mm_I x1, mm_I x2, mm_I x3] z (some (mm_I q.1), q.2) := ⟨Nat.le_of_ble_eq_true rfl, kX4_book_0 x1 x2 x3 z _ q hq rfl⟩
noncomputable def clo_X4_book (as : List mm_V) (z : mm_S) (kk : Option mm_V → mm_S → Option mm_R) : Option mm_R := mm_pr as fun t o0 as => bif Nat.beq t 4 then mm_pi as fun a1 as => mm_pi as fun a2 as => mm_pi as fun a3 as => (match as with | [] => (sX4_book a1 a2 a3 z).bind fun q => kk (some (mm_I q.1)) q.2 | _ => none) else none
theorem cs_X4_book : mm_cs lyTM 22 22 17 f_X4_book clo_X4_book := by
  intro as z K o hk h
  obtain ⟨t0, o0, r0, rfl, g0⟩ := mm_pr_e h
  obtain ⟨b0, k0⟩ := mm_bif_e g0
  obtain rfl := Nat.eq_of_beq_eq_true b0
  obtain ⟨a1, r1, rfl, g1⟩ := mm_pi_e k0
  obtain ⟨a2, r2, rfl, g2⟩ := mm_pi_e g1
  obtain ⟨a3, r3, rfl, g3⟩ := mm_pi_e g2
  rcases r3 with _ | ⟨u, w⟩
  rotate_left
  · cases g3
  obtain rfl : o0 = 0 := ok4 (hk (mm_P 4 o0) (by simp))
  obtain ⟨q, hq, hq2⟩ := Option.bind_eq_some_iff.mp g3
  exact ⟨_, _, sp_X4_book a1 a2 a3 z hk q hq, fun v hv => by cases hv; exact Or.inl ⟨_, rfl⟩, hq2⟩
theorem sV_X4_book {own : String} {R : Room} {ar : Nat → Nat} {k : Nat} (hlink : Cond.methodLink own k yX4_book ∈ lw_gd ∨ ∃ host, (own, k, yX4_book, host) ∈ nmA) (har : ar k = 4) (hr : 3 ≤ R.frames ∧ 65 ≤ R.locals) : mm_okV lyTM lyFA lenM snM 22 22 17 roM rsA nfA nmA [] own R ar k clo_X4_book := by
  refine ⟨yX4_book, cX4_book, 4, some .int, rm_X4_book, f_X4_book, 4, 3, (RX4, TX4, 36), M_X4_book, cs_X4_book, hlink, ⟨wv_X4_book, wz_X4_book, wi_X4_book, wc_X4_book⟩, ⟨by decide +kernel, by decide +kernel, by decide +kernel⟩, har, ⟨rfl, rfl, by decide⟩, ?_, ⟨rfl, rfl, hr.1, hr.2⟩⟩
  intro as z K o h
  obtain ⟨t0, o0, r0, rfl, g0⟩ := mm_pr_e h
  obtain ⟨b0, k0⟩ := mm_bif_e g0
  obtain rfl := Nat.eq_of_beq_eq_true b0
  exact ⟨_, _, rfl⟩
