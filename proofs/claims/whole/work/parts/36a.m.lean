-- X4_burn
noncomputable def lV_X4_burn : List (Nat × (List mm_V → mm_S → (Option mm_V → mm_S → Option mm_R) → Option mm_R)) := [(121, clo_X4_become)]
noncomputable def mV_X4_burn (k : Nat) (as : List mm_V) (z : mm_S) (kk : Option mm_V → mm_S → Option mm_R) : Option mm_R := match mm_at lV_X4_burn k with
  | some f => f as z kk
  | none => none
noncomputable def arV_X4_burn (k : Nat) : Nat := (mm_at [(121, 3)] k).getD 0
noncomputable def lS_X4_burn : List (Nat × (List mm_V → mm_S → (Option mm_V → mm_S → Option mm_R) → Option mm_R)) := []
noncomputable def mS_X4_burn (k : Nat) (as : List mm_V) (z : mm_S) (kk : Option mm_V → mm_S → Option mm_R) : Option mm_R := match mm_at lS_X4_burn k with
  | some f => f as z kk
  | none => none
noncomputable def arS_X4_burn (k : Nat) : Nat := (mm_at [] k).getD 0
def ct_X4_burn : List (Nat × List Nat) := []
noncomputable def go_X4_burn : Nat → mm_K := mm_go (fun k => mm_at flX4 k) (fun k => mm_at clX4 k) (fun k => mm_at glX4 k) arV_X4_burn arS_X4_burn mV_X4_burn mS_X4_burn lenM roM snM 1 0 tbX4_burn ct_X4_burn
noncomputable def eX4_burn_0 (n : Nat)  (z : mm_S) : Option mm_R := go_X4_burn n 0 [(0, mm_P 4 0)] [] z
set_option maxRecDepth 100000 in
theorem qX4_burn_0 (n : Nat)  (z : mm_S) : eX4_burn_0 (n + 1)  z = ((sX4_become 2 0 z).bind fun q1 => some (some (mm_I q1.1), q1.2)) := rfl
def rm_X4_burn : Room := { frames := 1, cells := 0, slots := 0, locals := 23 }
noncomputable def f_X4_burn (as : List mm_V) (z : mm_S) (o : mm_R) : Prop := (as.map mm_cat).sum ≤ 1 ∧ ∃ n, go_X4_burn n 0 (mm_ar 0 as) [] z = some o
theorem M_X4_burn : mm_M lyTM lyFA lenM snM 22 22 17 roM rsA nfA nmA [] yX4_burn cX4_burn 1 (some .int) rm_X4_burn f_X4_burn :=
  mm_met (rt := 0) (by decide +kernel) ⟨fun h => rfl, fun h => absurd h (by decide), fun h => absurd h (by decide), fun h => absurd h (by decide)⟩ tbX4_burn_ok hsnM okFX4 okLX4 (fun _ h => absurd h List.not_mem_nil) (fun _ _ _ _ => rfl) (fun _ _ _ _ => rfl) (List.forall_mem_cons.mpr ⟨sV_X4_become (Or.inl lk_X4_121) rfl ⟨by decide, by decide⟩, fun _ h => absurd h List.not_mem_nil⟩) (fun _ h => absurd h List.not_mem_nil)
noncomputable def sX4_burn_0  (z : mm_S) : Option (Int32 × mm_S) := (sX4_become 2 0 z).bind fun q1 => some (q1.1, q1.2)
theorem kX4_burn_0  (z : mm_S) (oo : mm_R) : mm_Xs (sX4_burn_0  z) (fun v => (fun v : Int32 × mm_S => ((some (mm_I v.1), v.2) : mm_R)) v = oo) (fun n => eX4_burn_0 n  z) oo :=
  xs_row (fun n => qX4_burn_0 n z) (xs_bd fun q1 => (xs_v fun hc => ⟨0, congrArg some hc⟩))
noncomputable def sX4_burn  (z : mm_S) : Option (Int32 × mm_S) := sX4_burn_0  z
theorem sp_X4_burn  (z : mm_S) (hk : ∀ v ∈ [mm_P 4 0], mm_ok 22 lyTM 22 17 v) (q : Int32 × mm_S) (hq : sX4_burn  z = some q) : f_X4_burn [mm_P 4 0] z (some (mm_I q.1), q.2) := ⟨Nat.le_of_ble_eq_true rfl, kX4_burn_0  z _ q hq rfl⟩
noncomputable def clo_X4_burn (as : List mm_V) (z : mm_S) (kk : Option mm_V → mm_S → Option mm_R) : Option mm_R := mm_pr as fun t o0 as => bif Nat.beq t 4 then (match as with | [] => (sX4_burn z).bind fun q => kk (some (mm_I q.1)) q.2 | _ => none) else none
theorem cs_X4_burn : mm_cs lyTM 22 22 17 f_X4_burn clo_X4_burn := by
  intro as z K o hk h
  obtain ⟨t0, o0, r0, rfl, g0⟩ := mm_pr_e h
  obtain ⟨b0, k0⟩ := mm_bif_e g0
  obtain rfl := Nat.eq_of_beq_eq_true b0
  rcases r0 with _ | ⟨u, w⟩
  rotate_left
  · cases k0
  obtain rfl : o0 = 0 := ok4 (hk (mm_P 4 o0) (by simp))
  obtain ⟨q, hq, hq2⟩ := Option.bind_eq_some_iff.mp k0
  exact ⟨_, _, sp_X4_burn  z hk q hq, fun v hv => by cases hv; exact Or.inl ⟨_, rfl⟩, hq2⟩
theorem sV_X4_burn {own : String} {R : Room} {ar : Nat → Nat} {k : Nat} (hlink : Cond.methodLink own k yX4_burn ∈ lw_gd ∨ ∃ host, (own, k, yX4_burn, host) ∈ nmA) (har : ar k = 1) (hr : 2 ≤ R.frames ∧ 43 ≤ R.locals) : mm_okV lyTM lyFA lenM snM 22 22 17 roM rsA nfA nmA [] own R ar k clo_X4_burn := by
  refine ⟨yX4_burn, cX4_burn, 1, some .int, rm_X4_burn, f_X4_burn, 4, 0, (RX4, TX4, 36), M_X4_burn, cs_X4_burn, hlink, ⟨wv_X4_burn, wz_X4_burn, wi_X4_burn, wc_X4_burn⟩, ⟨by decide +kernel, by decide +kernel, by decide +kernel⟩, har, ⟨rfl, rfl, by decide⟩, ?_, ⟨rfl, rfl, hr.1, hr.2⟩⟩
  intro as z K o h
  obtain ⟨t0, o0, r0, rfl, g0⟩ := mm_pr_e h
  obtain ⟨b0, k0⟩ := mm_bif_e g0
  obtain rfl := Nat.eq_of_beq_eq_true b0
  exact ⟨_, _, rfl⟩
-- X4_firstWrong
noncomputable def lV_X4_firstWrong : List (Nat × (List mm_V → mm_S → (Option mm_V → mm_S → Option mm_R) → Option mm_R)) := [(186, clo_X4_timeOf)]
noncomputable def mV_X4_firstWrong (k : Nat) (as : List mm_V) (z : mm_S) (kk : Option mm_V → mm_S → Option mm_R) : Option mm_R := match mm_at lV_X4_firstWrong k with
  | some f => f as z kk
  | none => none
noncomputable def arV_X4_firstWrong (k : Nat) : Nat := (mm_at [(186, 3)] k).getD 0
noncomputable def lS_X4_firstWrong : List (Nat × (List mm_V → mm_S → (Option mm_V → mm_S → Option mm_R) → Option mm_R)) := [(202, mm_mn)]
noncomputable def mS_X4_firstWrong (k : Nat) (as : List mm_V) (z : mm_S) (kk : Option mm_V → mm_S → Option mm_R) : Option mm_R := match mm_at lS_X4_firstWrong k with
  | some f => f as z kk
  | none => none
noncomputable def arS_X4_firstWrong (k : Nat) : Nat := (mm_at [(202, 2)] k).getD 0
def ct_X4_firstWrong : List (Nat × List Nat) := [(2, [0, 1]), (61, [0, 1])]
noncomputable def go_X4_firstWrong : Nat → mm_K := mm_go (fun k => mm_at flX4 k) (fun k => mm_at clX4 k) (fun k => mm_at glX4 k) arV_X4_firstWrong arS_X4_firstWrong mV_X4_firstWrong mS_X4_firstWrong lenM roM snM 2 0 tbX4_firstWrong ct_X4_firstWrong
noncomputable def eX4_firstWrong_0 (n : Nat)  (z : mm_S) : Option mm_R := go_X4_firstWrong n 0 [(0, mm_P 4 0)] [] z
noncomputable def eX4_firstWrong_2 (n : Nat)  (y1 : Int32) (z : mm_S) : Option mm_R := go_X4_firstWrong n 2 [(0, mm_P 4 0), (1, mm_I y1)] [] z
noncomputable def eX4_firstWrong_61 (n : Nat)  (y1 : Int32) (z : mm_S) : Option mm_R := go_X4_firstWrong n 61 [(0, mm_P 4 0), (1, mm_I y1)] [] z
set_option maxRecDepth 100000 in
theorem qX4_firstWrong_0 (n : Nat)  (z : mm_S) : eX4_firstWrong_0 (n + 1)  z = (eX4_firstWrong_2 n 0 z) := rfl
set_option maxRecDepth 100000 in
theorem qX4_firstWrong_2 (n : Nat)  (y1 : Int32) (z : mm_S) : eX4_firstWrong_2 (n + 1) y1 z = (if (z.1 1 2) ≤ y1 then some (some (mm_I y1), z) else if (73 + (3 * y1)) < 0 ∨ 97 ≤ Int32.toNatClampNeg (73 + (3 * y1)) then none else if ((73 + (3 * y1)) + 1) < 0 ∨ 97 ≤ Int32.toNatClampNeg ((73 + (3 * y1)) + 1) then none else (sX4_timeOf (z.1 1 (Int32.toNatClampNeg (73 + (3 * y1)))) (z.1 1 (Int32.toNatClampNeg ((73 + (3 * y1)) + 1))) z).bind fun q1 => if ((73 + (3 * y1)) + 2) < 0 ∨ 97 ≤ Int32.toNatClampNeg ((73 + (3 * y1)) + 2) then none else if (mm_min 99 q1.1) = (q1.2.1 1 (Int32.toNatClampNeg ((73 + (3 * y1)) + 2))) then eX4_firstWrong_61 n y1 q1.2 else some (some (mm_I y1), q1.2)) := rfl
set_option maxRecDepth 100000 in
theorem qX4_firstWrong_61 (n : Nat)  (y1 : Int32) (z : mm_S) : eX4_firstWrong_61 (n + 1) y1 z = (eX4_firstWrong_2 n (y1 + 1) z) := rfl
def rm_X4_firstWrong : Room := { frames := 4, cells := 0, slots := 0, locals := 95 }
noncomputable def f_X4_firstWrong (as : List mm_V) (z : mm_S) (o : mm_R) : Prop := (as.map mm_cat).sum ≤ 2 ∧ ∃ n, go_X4_firstWrong n 0 (mm_ar 0 as) [] z = some o
theorem M_X4_firstWrong : mm_M lyTM lyFA lenM snM 22 22 17 roM rsA nfA nmA [] yX4_firstWrong cX4_firstWrong 2 (some .int) rm_X4_firstWrong f_X4_firstWrong :=
  mm_met (rt := 0) (by decide +kernel) ⟨fun h => rfl, fun h => absurd h (by decide), fun h => absurd h (by decide), fun h => absurd h (by decide)⟩ tbX4_firstWrong_ok hsnM okFX4 okLX4 (fun _ h => absurd h List.not_mem_nil) (fun _ _ _ _ => rfl) (fun _ _ _ _ => rfl) (List.forall_mem_cons.mpr ⟨sV_X4_timeOf (Or.inl lk_X4_186) rfl ⟨by decide, by decide⟩, fun _ h => absurd h List.not_mem_nil⟩) (List.forall_mem_cons.mpr ⟨Or.inr (Or.inr ⟨Or.inr ⟨rfl, lk_X4_202, ws_min, wc_min⟩, wi_math, by decide, by decide, rfl⟩), fun _ h => absurd h List.not_mem_nil⟩)
noncomputable def sX4_firstWrong_61 (y1 : Int32) (z : mm_S) : Option ((Int32 × mm_S) ⊕ (Int32 × mm_S)) := some (.inl ((y1 + 1), z))
theorem kX4_firstWrong_61 (y1 : Int32) (z : mm_S) (oo : mm_R) : mm_Xs (sX4_firstWrong_61 y1 z) (mm_mt (fun x : Int32 × mm_S => ∃ n, eX4_firstWrong_2 n x.1 x.2 = some oo) (fun v => (fun v : Int32 × mm_S => ((some (mm_I v.1), v.2) : mm_R)) v = oo)) (fun n => eX4_firstWrong_61 n y1 z) oo :=
  xs_row (fun n => qX4_firstWrong_61 n y1 z) (xs_v fun hc => hc)
noncomputable def lX4_firstWrong_2 (s : Int32 × mm_S) : Option ((Int32 × mm_S) ⊕ (Int32 × mm_S)) := if (s.2.1 1 2) ≤ s.1 then some (.inr (s.1, s.2)) else if (73 + (3 * s.1)) < 0 ∨ 97 ≤ Int32.toNatClampNeg (73 + (3 * s.1)) then none else if ((73 + (3 * s.1)) + 1) < 0 ∨ 97 ≤ Int32.toNatClampNeg ((73 + (3 * s.1)) + 1) then none else (sX4_timeOf (s.2.1 1 (Int32.toNatClampNeg (73 + (3 * s.1)))) (s.2.1 1 (Int32.toNatClampNeg ((73 + (3 * s.1)) + 1))) s.2).bind fun q1 => if ((73 + (3 * s.1)) + 2) < 0 ∨ 97 ≤ Int32.toNatClampNeg ((73 + (3 * s.1)) + 2) then none else if (mm_min 99 q1.1) = (q1.2.1 1 (Int32.toNatClampNeg ((73 + (3 * s.1)) + 2))) then (sX4_firstWrong_61 s.1 q1.2) else some (.inr (s.1, q1.2))
noncomputable def sX4_firstWrong_2 (y1 : Int32) (z : mm_S) : Option (Int32 × mm_S) := mm_wh (lX4_firstWrong_2 ) mm_fu (y1, z)
theorem kX4_firstWrong_2 (y1 : Int32) (z : mm_S) (oo : mm_R) : mm_Xs (sX4_firstWrong_2 y1 z) (fun v => (fun v : Int32 × mm_S => ((some (mm_I v.1), v.2) : mm_R)) v = oo) (fun n => eX4_firstWrong_2 n y1 z) oo :=
  xs_wh (stp := lX4_firstWrong_2 ) (o := oo) (E := (fun (s : Int32 × mm_S) n => eX4_firstWrong_2 n s.1 s.2)) (C := (fun v => (fun v : Int32 × mm_S => ((some (mm_I v.1), v.2) : mm_R)) v = oo)) (fun s => xs_row (fun n => qX4_firstWrong_2 n s.1 s.2) (xs_if (xs_v fun hc => ⟨0, congrArg some hc⟩) (xs_if xs_n (xs_if xs_n (xs_bd fun q1 => (xs_if xs_n (xs_if (kX4_firstWrong_61 s.1 q1.2 oo) (xs_v fun hc => ⟨0, congrArg some hc⟩)))))))) mm_fu (y1, z)
noncomputable def sX4_firstWrong_0  (z : mm_S) : Option (Int32 × mm_S) := (sX4_firstWrong_2 0 z)
theorem kX4_firstWrong_0  (z : mm_S) (oo : mm_R) : mm_Xs (sX4_firstWrong_0  z) (fun v => (fun v : Int32 × mm_S => ((some (mm_I v.1), v.2) : mm_R)) v = oo) (fun n => eX4_firstWrong_0 n  z) oo :=
  xs_row (fun n => qX4_firstWrong_0 n z) (kX4_firstWrong_2 0 z oo)
noncomputable def sX4_firstWrong  (z : mm_S) : Option (Int32 × mm_S) := sX4_firstWrong_0  z
theorem sp_X4_firstWrong  (z : mm_S) (hk : ∀ v ∈ [mm_P 4 0], mm_ok 22 lyTM 22 17 v) (q : Int32 × mm_S) (hq : sX4_firstWrong  z = some q) : f_X4_firstWrong [mm_P 4 0] z (some (mm_I q.1), q.2) := ⟨Nat.le_of_ble_eq_true rfl, kX4_firstWrong_0  z _ q hq rfl⟩
noncomputable def clo_X4_firstWrong (as : List mm_V) (z : mm_S) (kk : Option mm_V → mm_S → Option mm_R) : Option mm_R := mm_pr as fun t o0 as => bif Nat.beq t 4 then (match as with | [] => (sX4_firstWrong z).bind fun q => kk (some (mm_I q.1)) q.2 | _ => none) else none
theorem cs_X4_firstWrong : mm_cs lyTM 22 22 17 f_X4_firstWrong clo_X4_firstWrong := by
  intro as z K o hk h
  obtain ⟨t0, o0, r0, rfl, g0⟩ := mm_pr_e h
  obtain ⟨b0, k0⟩ := mm_bif_e g0
  obtain rfl := Nat.eq_of_beq_eq_true b0
  rcases r0 with _ | ⟨u, w⟩
  rotate_left
  · cases k0
  obtain rfl : o0 = 0 := ok4 (hk (mm_P 4 o0) (by simp))
  obtain ⟨q, hq, hq2⟩ := Option.bind_eq_some_iff.mp k0
  exact ⟨_, _, sp_X4_firstWrong  z hk q hq, fun v hv => by cases hv; exact Or.inl ⟨_, rfl⟩, hq2⟩
theorem sV_X4_firstWrong {own : String} {R : Room} {ar : Nat → Nat} {k : Nat} (hlink : Cond.methodLink own k yX4_firstWrong ∈ lw_gd ∨ ∃ host, (own, k, yX4_firstWrong, host) ∈ nmA) (har : ar k = 1) (hr : 5 ≤ R.frames ∧ 116 ≤ R.locals) : mm_okV lyTM lyFA lenM snM 22 22 17 roM rsA nfA nmA [] own R ar k clo_X4_firstWrong := by
  refine ⟨yX4_firstWrong, cX4_firstWrong, 2, some .int, rm_X4_firstWrong, f_X4_firstWrong, 4, 0, (RX4, TX4, 36), M_X4_firstWrong, cs_X4_firstWrong, hlink, ⟨wv_X4_firstWrong, wz_X4_firstWrong, wi_X4_firstWrong, wc_X4_firstWrong⟩, ⟨by decide +kernel, by decide +kernel, by decide +kernel⟩, har, ⟨rfl, rfl, by decide⟩, ?_, ⟨rfl, rfl, hr.1, hr.2⟩⟩
  intro as z K o h
  obtain ⟨t0, o0, r0, rfl, g0⟩ := mm_pr_e h
  obtain ⟨b0, k0⟩ := mm_bif_e g0
  obtain rfl := Nat.eq_of_beq_eq_true b0
  exact ⟨_, _, rfl⟩
-- X4_doesFit
noncomputable def lV_X4_doesFit : List (Nat × (List mm_V → mm_S → (Option mm_V → mm_S → Option mm_R) → Option mm_R)) := [(239, clo_X4_firstWrong)]
noncomputable def mV_X4_doesFit (k : Nat) (as : List mm_V) (z : mm_S) (kk : Option mm_V → mm_S → Option mm_R) : Option mm_R := match mm_at lV_X4_doesFit k with
  | some f => f as z kk
  | none => none
noncomputable def arV_X4_doesFit (k : Nat) : Nat := (mm_at [(239, 1)] k).getD 0
noncomputable def lS_X4_doesFit : List (Nat × (List mm_V → mm_S → (Option mm_V → mm_S → Option mm_R) → Option mm_R)) := []
noncomputable def mS_X4_doesFit (k : Nat) (as : List mm_V) (z : mm_S) (kk : Option mm_V → mm_S → Option mm_R) : Option mm_R := match mm_at lS_X4_doesFit k with
  | some f => f as z kk
  | none => none
noncomputable def arS_X4_doesFit (k : Nat) : Nat := (mm_at [] k).getD 0
def ct_X4_doesFit : List (Nat × List Nat) := [(13, [])]
noncomputable def go_X4_doesFit : Nat → mm_K := mm_go (fun k => mm_at flX4 k) (fun k => mm_at clX4 k) (fun k => mm_at glX4 k) arV_X4_doesFit arS_X4_doesFit mV_X4_doesFit mS_X4_doesFit lenM roM snM 1 1 tbX4_doesFit ct_X4_doesFit
noncomputable def eX4_doesFit_0 (n : Nat)  (z : mm_S) : Option mm_R := go_X4_doesFit n 0 [(0, mm_P 4 0)] [] z
noncomputable def eX4_doesFit_13 (n : Nat)  (z : mm_S) : Option mm_R := go_X4_doesFit n 13 [] [] z
set_option maxRecDepth 100000 in
theorem qX4_doesFit_0 (n : Nat)  (z : mm_S) : eX4_doesFit_0 (n + 1)  z = ((sX4_firstWrong  z).bind fun q1 => if q1.1 = (q1.2.1 1 2) then eX4_doesFit_13 n  q1.2 else some (some (mm_I 0), q1.2)) := rfl
set_option maxRecDepth 100000 in
theorem qX4_doesFit_13 (n : Nat)  (z : mm_S) : eX4_doesFit_13 (n + 1)  z = (some (some (mm_I 1), z)) := rfl
def rm_X4_doesFit : Room := { frames := 5, cells := 0, slots := 0, locals := 116 }
noncomputable def f_X4_doesFit (as : List mm_V) (z : mm_S) (o : mm_R) : Prop := (as.map mm_cat).sum ≤ 1 ∧ ∃ n, go_X4_doesFit n 0 (mm_ar 0 as) [] z = some o
theorem M_X4_doesFit : mm_M lyTM lyFA lenM snM 22 22 17 roM rsA nfA nmA [] yX4_doesFit cX4_doesFit 1 (some .boolean) rm_X4_doesFit f_X4_doesFit :=
  mm_met (rt := 1) (by decide +kernel) ⟨fun h => absurd h (by decide), fun h => rfl, fun h => absurd h (by decide), fun h => absurd h (by decide)⟩ tbX4_doesFit_ok hsnM okFX4 okLX4 (fun _ h => absurd h List.not_mem_nil) (fun _ _ _ _ => rfl) (fun _ _ _ _ => rfl) (List.forall_mem_cons.mpr ⟨sV_X4_firstWrong (Or.inl lk_X4_239) rfl ⟨by decide, by decide⟩, fun _ h => absurd h List.not_mem_nil⟩) (fun _ h => absurd h List.not_mem_nil)
noncomputable def sX4_doesFit_13  (z : mm_S) : Option (Int32 × mm_S) := some (1, z)
theorem kX4_doesFit_13  (z : mm_S) (oo : mm_R) : mm_Xs (sX4_doesFit_13  z) (fun v => (fun v : Int32 × mm_S => ((some (mm_I v.1), v.2) : mm_R)) v = oo) (fun n => eX4_doesFit_13 n  z) oo :=
  xs_row (fun n => qX4_doesFit_13 n z) (xs_v fun hc => ⟨0, congrArg some hc⟩)
noncomputable def sX4_doesFit_0  (z : mm_S) : Option (Int32 × mm_S) := (sX4_firstWrong  z).bind fun q1 => if q1.1 = (q1.2.1 1 2) then (sX4_doesFit_13 q1.2) else some (0, q1.2)
theorem kX4_doesFit_0  (z : mm_S) (oo : mm_R) : mm_Xs (sX4_doesFit_0  z) (fun v => (fun v : Int32 × mm_S => ((some (mm_I v.1), v.2) : mm_R)) v = oo) (fun n => eX4_doesFit_0 n  z) oo :=
  xs_row (fun n => qX4_doesFit_0 n z) (xs_bd fun q1 => (xs_if (kX4_doesFit_13 q1.2 oo) (xs_v fun hc => ⟨0, congrArg some hc⟩)))
noncomputable def sX4_doesFit  (z : mm_S) : Option (Int32 × mm_S) := sX4_doesFit_0  z
theorem sp_X4_doesFit  (z : mm_S) (hk : ∀ v ∈ [mm_P 4 0], mm_ok 22 lyTM 22 17 v) (q : Int32 × mm_S) (hq : sX4_doesFit  z = some q) : f_X4_doesFit [mm_P 4 0] z (some (mm_I q.1), q.2) := ⟨Nat.le_of_ble_eq_true rfl, kX4_doesFit_0  z _ q hq rfl⟩
noncomputable def clo_X4_doesFit (as : List mm_V) (z : mm_S) (kk : Option mm_V → mm_S → Option mm_R) : Option mm_R := mm_pr as fun t o0 as => bif Nat.beq t 4 then (match as with | [] => (sX4_doesFit z).bind fun q => kk (some (mm_I q.1)) q.2 | _ => none) else none
theorem cs_X4_doesFit : mm_cs lyTM 22 22 17 f_X4_doesFit clo_X4_doesFit := by
  intro as z K o hk h
  obtain ⟨t0, o0, r0, rfl, g0⟩ := mm_pr_e h
  obtain ⟨b0, k0⟩ := mm_bif_e g0
  obtain rfl := Nat.eq_of_beq_eq_true b0
  rcases r0 with _ | ⟨u, w⟩
  rotate_left
  · cases k0
  obtain rfl : o0 = 0 := ok4 (hk (mm_P 4 o0) (by simp))
  obtain ⟨q, hq, hq2⟩ := Option.bind_eq_some_iff.mp k0
  exact ⟨_, _, sp_X4_doesFit  z hk q hq, fun v hv => by cases hv; exact Or.inl ⟨_, rfl⟩, hq2⟩
theorem sV_X4_doesFit {own : String} {R : Room} {ar : Nat → Nat} {k : Nat} (hlink : Cond.methodLink own k yX4_doesFit ∈ lw_gd ∨ ∃ host, (own, k, yX4_doesFit, host) ∈ nmA) (har : ar k = 1) (hr : 6 ≤ R.frames ∧ 136 ≤ R.locals) : mm_okV lyTM lyFA lenM snM 22 22 17 roM rsA nfA nmA [] own R ar k clo_X4_doesFit := by
  refine ⟨yX4_doesFit, cX4_doesFit, 1, some .boolean, rm_X4_doesFit, f_X4_doesFit, 4, 0, (RX4, TX4, 36), M_X4_doesFit, cs_X4_doesFit, hlink, ⟨wv_X4_doesFit, wz_X4_doesFit, wi_X4_doesFit, wc_X4_doesFit⟩, ⟨by decide +kernel, by decide +kernel, by decide +kernel⟩, har, ⟨rfl, rfl, by decide⟩, ?_, ⟨rfl, rfl, hr.1, hr.2⟩⟩
  intro as z K o h
  obtain ⟨t0, o0, r0, rfl, g0⟩ := mm_pr_e h
  obtain ⟨b0, k0⟩ := mm_bif_e g0
  obtain rfl := Nat.eq_of_beq_eq_true b0
  exact ⟨_, _, rfl⟩
-- X4_wrong
noncomputable def lV_X4_wrong : List (Nat × (List mm_V → mm_S → (Option mm_V → mm_S → Option mm_R) → Option mm_R)) := [(124, clo_X4_finding), (239, clo_X4_firstWrong), (243, clo_X4_doesFit)]
noncomputable def mV_X4_wrong (k : Nat) (as : List mm_V) (z : mm_S) (kk : Option mm_V → mm_S → Option mm_R) : Option mm_R := match mm_at lV_X4_wrong k with
  | some f => f as z kk
  | none => none
noncomputable def arV_X4_wrong (k : Nat) : Nat := (mm_at [(124, 2), (239, 1), (243, 1)] k).getD 0
noncomputable def lS_X4_wrong : List (Nat × (List mm_V → mm_S → (Option mm_V → mm_S → Option mm_R) → Option mm_R)) := []
noncomputable def mS_X4_wrong (k : Nat) (as : List mm_V) (z : mm_S) (kk : Option mm_V → mm_S → Option mm_R) : Option mm_R := match mm_at lS_X4_wrong k with
  | some f => f as z kk
  | none => none
noncomputable def arS_X4_wrong (k : Nat) : Nat := (mm_at [] k).getD 0
def ct_X4_wrong : List (Nat × List Nat) := [(7, [0]), (16, [0])]
noncomputable def go_X4_wrong : Nat → mm_K := mm_go (fun k => mm_at flX4 k) (fun k => mm_at clX4 k) (fun k => mm_at glX4 k) arV_X4_wrong arS_X4_wrong mV_X4_wrong mS_X4_wrong lenM roM snM 1 0 tbX4_wrong ct_X4_wrong
noncomputable def eX4_wrong_0 (n : Nat)  (z : mm_S) : Option mm_R := go_X4_wrong n 0 [(0, mm_P 4 0)] [] z
noncomputable def eX4_wrong_16 (n : Nat)  (z : mm_S) : Option mm_R := go_X4_wrong n 16 [(0, mm_P 4 0)] [] z
noncomputable def eX4_wrong_7 (n : Nat)  (z : mm_S) : Option mm_R := go_X4_wrong n 7 [(0, mm_P 4 0)] [] z
set_option maxRecDepth 100000 in
theorem qX4_wrong_0 (n : Nat)  (z : mm_S) : eX4_wrong_0 (n + 1)  z = ((sX4_doesFit  z).bind fun q1 => if q1.1 = 0 then eX4_wrong_16 n  q1.2 else eX4_wrong_7 n  q1.2) := rfl
set_option maxRecDepth 100000 in
theorem qX4_wrong_16 (n : Nat)  (z : mm_S) : eX4_wrong_16 (n + 1)  z = ((sX4_firstWrong  z).bind fun q2 => some (some (mm_I q2.1), q2.2)) := rfl
set_option maxRecDepth 100000 in
theorem qX4_wrong_7 (n : Nat)  (z : mm_S) : eX4_wrong_7 (n + 1)  z = ((sX4_finding (-1000004) z).bind fun q3 => some (some (mm_I q3.1), q3.2)) := rfl
def rm_X4_wrong : Room := { frames := 6, cells := 0, slots := 0, locals := 136 }
noncomputable def f_X4_wrong (as : List mm_V) (z : mm_S) (o : mm_R) : Prop := (as.map mm_cat).sum ≤ 1 ∧ ∃ n, go_X4_wrong n 0 (mm_ar 0 as) [] z = some o
theorem M_X4_wrong : mm_M lyTM lyFA lenM snM 22 22 17 roM rsA nfA nmA [] yX4_wrong cX4_wrong 1 (some .int) rm_X4_wrong f_X4_wrong :=
  mm_met (rt := 0) (by decide +kernel) ⟨fun h => rfl, fun h => absurd h (by decide), fun h => absurd h (by decide), fun h => absurd h (by decide)⟩ tbX4_wrong_ok hsnM okFX4 okLX4 (fun _ h => absurd h List.not_mem_nil) (fun _ _ _ _ => rfl) (fun _ _ _ _ => rfl) (List.forall_mem_cons.mpr ⟨sV_X4_finding (Or.inl lk_X4_124) rfl ⟨by decide, by decide⟩, List.forall_mem_cons.mpr ⟨sV_X4_firstWrong (Or.inl lk_X4_239) rfl ⟨by decide, by decide⟩, List.forall_mem_cons.mpr ⟨sV_X4_doesFit (Or.inl lk_X4_243) rfl ⟨by decide, by decide⟩, fun _ h => absurd h List.not_mem_nil⟩⟩⟩) (fun _ h => absurd h List.not_mem_nil)
noncomputable def sX4_wrong_7  (z : mm_S) : Option (Int32 × mm_S) := (sX4_finding (-1000004) z).bind fun q3 => some (q3.1, q3.2)
theorem kX4_wrong_7  (z : mm_S) (oo : mm_R) : mm_Xs (sX4_wrong_7  z) (fun v => (fun v : Int32 × mm_S => ((some (mm_I v.1), v.2) : mm_R)) v = oo) (fun n => eX4_wrong_7 n  z) oo :=
  xs_row (fun n => qX4_wrong_7 n z) (xs_bd fun q3 => (xs_v fun hc => ⟨0, congrArg some hc⟩))
noncomputable def sX4_wrong_16  (z : mm_S) : Option (Int32 × mm_S) := (sX4_firstWrong  z).bind fun q2 => some (q2.1, q2.2)
theorem kX4_wrong_16  (z : mm_S) (oo : mm_R) : mm_Xs (sX4_wrong_16  z) (fun v => (fun v : Int32 × mm_S => ((some (mm_I v.1), v.2) : mm_R)) v = oo) (fun n => eX4_wrong_16 n  z) oo :=
  xs_row (fun n => qX4_wrong_16 n z) (xs_bd fun q2 => (xs_v fun hc => ⟨0, congrArg some hc⟩))
noncomputable def sX4_wrong_0  (z : mm_S) : Option (Int32 × mm_S) := (sX4_doesFit  z).bind fun q1 => if q1.1 = 0 then (sX4_wrong_16 q1.2) else (sX4_wrong_7 q1.2)
theorem kX4_wrong_0  (z : mm_S) (oo : mm_R) : mm_Xs (sX4_wrong_0  z) (fun v => (fun v : Int32 × mm_S => ((some (mm_I v.1), v.2) : mm_R)) v = oo) (fun n => eX4_wrong_0 n  z) oo :=
  xs_row (fun n => qX4_wrong_0 n z) (xs_bd fun q1 => (xs_if (kX4_wrong_16 q1.2 oo) (kX4_wrong_7 q1.2 oo)))
noncomputable def sX4_wrong  (z : mm_S) : Option (Int32 × mm_S) := sX4_wrong_0  z
theorem sp_X4_wrong  (z : mm_S) (hk : ∀ v ∈ [mm_P 4 0], mm_ok 22 lyTM 22 17 v) (q : Int32 × mm_S) (hq : sX4_wrong  z = some q) : f_X4_wrong [mm_P 4 0] z (some (mm_I q.1), q.2) := ⟨Nat.le_of_ble_eq_true rfl, kX4_wrong_0  z _ q hq rfl⟩
noncomputable def clo_X4_wrong (as : List mm_V) (z : mm_S) (kk : Option mm_V → mm_S → Option mm_R) : Option mm_R := mm_pr as fun t o0 as => bif Nat.beq t 4 then (match as with | [] => (sX4_wrong z).bind fun q => kk (some (mm_I q.1)) q.2 | _ => none) else none
theorem cs_X4_wrong : mm_cs lyTM 22 22 17 f_X4_wrong clo_X4_wrong := by
  intro as z K o hk h
  obtain ⟨t0, o0, r0, rfl, g0⟩ := mm_pr_e h
  obtain ⟨b0, k0⟩ := mm_bif_e g0
  obtain rfl := Nat.eq_of_beq_eq_true b0
  rcases r0 with _ | ⟨u, w⟩
  rotate_left
  · cases k0
  obtain rfl : o0 = 0 := ok4 (hk (mm_P 4 o0) (by simp))
  obtain ⟨q, hq, hq2⟩ := Option.bind_eq_some_iff.mp k0
  exact ⟨_, _, sp_X4_wrong  z hk q hq, fun v hv => by cases hv; exact Or.inl ⟨_, rfl⟩, hq2⟩
theorem sV_X4_wrong {own : String} {R : Room} {ar : Nat → Nat} {k : Nat} (hlink : Cond.methodLink own k yX4_wrong ∈ lw_gd ∨ ∃ host, (own, k, yX4_wrong, host) ∈ nmA) (har : ar k = 1) (hr : 7 ≤ R.frames ∧ 156 ≤ R.locals) : mm_okV lyTM lyFA lenM snM 22 22 17 roM rsA nfA nmA [] own R ar k clo_X4_wrong := by
  refine ⟨yX4_wrong, cX4_wrong, 1, some .int, rm_X4_wrong, f_X4_wrong, 4, 0, (RX4, TX4, 36), M_X4_wrong, cs_X4_wrong, hlink, ⟨wv_X4_wrong, wz_X4_wrong, wi_X4_wrong, wc_X4_wrong⟩, ⟨by decide +kernel, by decide +kernel, by decide +kernel⟩, har, ⟨rfl, rfl, by decide⟩, ?_, ⟨rfl, rfl, hr.1, hr.2⟩⟩
  intro as z K o h
  obtain ⟨t0, o0, r0, rfl, g0⟩ := mm_pr_e h
  obtain ⟨b0, k0⟩ := mm_bif_e g0
  obtain rfl := Nat.eq_of_beq_eq_true b0
  exact ⟨_, _, rfl⟩
-- X4_maps
noncomputable def lV_X4_maps : List (Nat × (List mm_V → mm_S → (Option mm_V → mm_S → Option mm_R) → Option mm_R)) := []
noncomputable def mV_X4_maps (k : Nat) (as : List mm_V) (z : mm_S) (kk : Option mm_V → mm_S → Option mm_R) : Option mm_R := match mm_at lV_X4_maps k with
  | some f => f as z kk
  | none => none
noncomputable def arV_X4_maps (k : Nat) : Nat := (mm_at [] k).getD 0
noncomputable def lS_X4_maps : List (Nat × (List mm_V → mm_S → (Option mm_V → mm_S → Option mm_R) → Option mm_R)) := []
noncomputable def mS_X4_maps (k : Nat) (as : List mm_V) (z : mm_S) (kk : Option mm_V → mm_S → Option mm_R) : Option mm_R := match mm_at lS_X4_maps k with
  | some f => f as z kk
  | none => none
noncomputable def arS_X4_maps (k : Nat) : Nat := (mm_at [] k).getD 0
def ct_X4_maps : List (Nat × List Nat) := [(4, [0, 1, 2])]
noncomputable def go_X4_maps : Nat → mm_K := mm_go (fun k => mm_at flX4 k) (fun k => mm_at clX4 k) (fun k => mm_at glX4 k) arV_X4_maps arS_X4_maps mV_X4_maps mS_X4_maps lenM roM snM 3 0 tbX4_maps ct_X4_maps
noncomputable def eX4_maps_0 (n : Nat)  (z : mm_S) : Option mm_R := go_X4_maps n 0 [(0, mm_P 4 0)] [] z
noncomputable def eX4_maps_4 (n : Nat)  (y1 : Int32) (y2 : Int32) (z : mm_S) : Option mm_R := go_X4_maps n 4 [(0, mm_P 4 0), (1, mm_I y1), (2, mm_I y2)] [] z
set_option maxRecDepth 100000 in
theorem qX4_maps_0 (n : Nat)  (z : mm_S) : eX4_maps_0 (n + 1)  z = (eX4_maps_4 n 1 0 z) := rfl
set_option maxRecDepth 100000 in
theorem qX4_maps_4 (n : Nat)  (y1 : Int32) (y2 : Int32) (z : mm_S) : eX4_maps_4 (n + 1) y1 y2 z = (if (z.1 1 3) ≤ y2 then some (some (mm_I y1), z) else eX4_maps_4 n (y1 * 5) (y2 + 1) z) := rfl
def rm_X4_maps : Room := { frames := 0, cells := 0, slots := 0, locals := 0 }
noncomputable def f_X4_maps (as : List mm_V) (z : mm_S) (o : mm_R) : Prop := (as.map mm_cat).sum ≤ 3 ∧ ∃ n, go_X4_maps n 0 (mm_ar 0 as) [] z = some o
theorem M_X4_maps : mm_M lyTM lyFA lenM snM 22 22 17 roM rsA nfA nmA [] yX4_maps cX4_maps 3 (some .int) rm_X4_maps f_X4_maps :=
  mm_met (rt := 0) (by decide +kernel) ⟨fun h => rfl, fun h => absurd h (by decide), fun h => absurd h (by decide), fun h => absurd h (by decide)⟩ tbX4_maps_ok hsnM okFX4 okLX4 (fun _ h => absurd h List.not_mem_nil) (fun _ _ _ _ => rfl) (fun _ _ _ _ => rfl) (fun _ h => absurd h List.not_mem_nil) (fun _ h => absurd h List.not_mem_nil)
noncomputable def lX4_maps_4 (s : Int32 × Int32 × mm_S) : Option ((Int32 × Int32 × mm_S) ⊕ (Int32 × mm_S)) := if (s.2.2.1 1 3) ≤ s.2.1 then some (.inr (s.1, s.2.2)) else some (.inl ((s.1 * 5), (s.2.1 + 1), s.2.2))
noncomputable def sX4_maps_4 (y1 : Int32) (y2 : Int32) (z : mm_S) : Option (Int32 × mm_S) := mm_wh (lX4_maps_4 ) mm_fu (y1, y2, z)
theorem kX4_maps_4 (y1 : Int32) (y2 : Int32) (z : mm_S) (oo : mm_R) : mm_Xs (sX4_maps_4 y1 y2 z) (fun v => (fun v : Int32 × mm_S => ((some (mm_I v.1), v.2) : mm_R)) v = oo) (fun n => eX4_maps_4 n y1 y2 z) oo :=
  xs_wh (stp := lX4_maps_4 ) (o := oo) (E := (fun (s : Int32 × Int32 × mm_S) n => eX4_maps_4 n s.1 s.2.1 s.2.2)) (C := (fun v => (fun v : Int32 × mm_S => ((some (mm_I v.1), v.2) : mm_R)) v = oo)) (fun s => xs_row (fun n => qX4_maps_4 n s.1 s.2.1 s.2.2) (xs_if (xs_v fun hc => ⟨0, congrArg some hc⟩) (xs_v fun hc => hc))) mm_fu (y1, y2, z)
noncomputable def sX4_maps_0  (z : mm_S) : Option (Int32 × mm_S) := (sX4_maps_4 1 0 z)
theorem kX4_maps_0  (z : mm_S) (oo : mm_R) : mm_Xs (sX4_maps_0  z) (fun v => (fun v : Int32 × mm_S => ((some (mm_I v.1), v.2) : mm_R)) v = oo) (fun n => eX4_maps_0 n  z) oo :=
  xs_row (fun n => qX4_maps_0 n z) (kX4_maps_4 1 0 z oo)
noncomputable def sX4_maps  (z : mm_S) : Option (Int32 × mm_S) := sX4_maps_0  z
theorem sp_X4_maps  (z : mm_S) (hk : ∀ v ∈ [mm_P 4 0], mm_ok 22 lyTM 22 17 v) (q : Int32 × mm_S) (hq : sX4_maps  z = some q) : f_X4_maps [mm_P 4 0] z (some (mm_I q.1), q.2) := ⟨Nat.le_of_ble_eq_true rfl, kX4_maps_0  z _ q hq rfl⟩
noncomputable def clo_X4_maps (as : List mm_V) (z : mm_S) (kk : Option mm_V → mm_S → Option mm_R) : Option mm_R := mm_pr as fun t o0 as => bif Nat.beq t 4 then (match as with | [] => (sX4_maps z).bind fun q => kk (some (mm_I q.1)) q.2 | _ => none) else none
theorem cs_X4_maps : mm_cs lyTM 22 22 17 f_X4_maps clo_X4_maps := by
  intro as z K o hk h
  obtain ⟨t0, o0, r0, rfl, g0⟩ := mm_pr_e h
  obtain ⟨b0, k0⟩ := mm_bif_e g0
  obtain rfl := Nat.eq_of_beq_eq_true b0
  rcases r0 with _ | ⟨u, w⟩
  rotate_left
  · cases k0
  obtain rfl : o0 = 0 := ok4 (hk (mm_P 4 o0) (by simp))
  obtain ⟨q, hq, hq2⟩ := Option.bind_eq_some_iff.mp k0
  exact ⟨_, _, sp_X4_maps  z hk q hq, fun v hv => by cases hv; exact Or.inl ⟨_, rfl⟩, hq2⟩
theorem sV_X4_maps {own : String} {R : Room} {ar : Nat → Nat} {k : Nat} (hlink : Cond.methodLink own k yX4_maps ∈ lw_gd ∨ ∃ host, (own, k, yX4_maps, host) ∈ nmA) (har : ar k = 1) (hr : 1 ≤ R.frames ∧ 22 ≤ R.locals) : mm_okV lyTM lyFA lenM snM 22 22 17 roM rsA nfA nmA [] own R ar k clo_X4_maps := by
  refine ⟨yX4_maps, cX4_maps, 3, some .int, rm_X4_maps, f_X4_maps, 4, 0, (RX4, TX4, 36), M_X4_maps, cs_X4_maps, hlink, ⟨wv_X4_maps, wz_X4_maps, wi_X4_maps, wc_X4_maps⟩, ⟨by decide +kernel, by decide +kernel, by decide +kernel⟩, har, ⟨rfl, rfl, by decide⟩, ?_, ⟨rfl, rfl, hr.1, hr.2⟩⟩
  intro as z K o h
  obtain ⟨t0, o0, r0, rfl, g0⟩ := mm_pr_e h
  obtain ⟨b0, k0⟩ := mm_bif_e g0
  obtain rfl := Nat.eq_of_beq_eq_true b0
  exact ⟨_, _, rfl⟩
-- X4_mapNow
noncomputable def lV_X4_mapNow : List (Nat × (List mm_V → mm_S → (Option mm_V → mm_S → Option mm_R) → Option mm_R)) := [(158, clo_X4_stuffIs)]
noncomputable def mV_X4_mapNow (k : Nat) (as : List mm_V) (z : mm_S) (kk : Option mm_V → mm_S → Option mm_R) : Option mm_R := match mm_at lV_X4_mapNow k with
  | some f => f as z kk
  | none => none
noncomputable def arV_X4_mapNow (k : Nat) : Nat := (mm_at [(158, 2)] k).getD 0
noncomputable def lS_X4_mapNow : List (Nat × (List mm_V → mm_S → (Option mm_V → mm_S → Option mm_R) → Option mm_R)) := []
noncomputable def mS_X4_mapNow (k : Nat) (as : List mm_V) (z : mm_S) (kk : Option mm_V → mm_S → Option mm_R) : Option mm_R := match mm_at lS_X4_mapNow k with
  | some f => f as z kk
  | none => none
noncomputable def arS_X4_mapNow (k : Nat) : Nat := (mm_at [] k).getD 0
def ct_X4_mapNow : List (Nat × List Nat) := [(11, [0, 1, 2])]
noncomputable def go_X4_mapNow : Nat → mm_K := mm_go (fun k => mm_at flX4 k) (fun k => mm_at clX4 k) (fun k => mm_at glX4 k) arV_X4_mapNow arS_X4_mapNow mV_X4_mapNow mS_X4_mapNow lenM roM snM 3 0 tbX4_mapNow ct_X4_mapNow
noncomputable def eX4_mapNow_0 (n : Nat)  (z : mm_S) : Option mm_R := go_X4_mapNow n 0 [(0, mm_P 4 0)] [] z
noncomputable def eX4_mapNow_11 (n : Nat)  (y1 : Int32) (y2 : Int32) (z : mm_S) : Option mm_R := go_X4_mapNow n 11 [(0, mm_P 4 0), (1, mm_I y1), (2, mm_I y2)] [] z
set_option maxRecDepth 100000 in
theorem qX4_mapNow_0 (n : Nat)  (z : mm_S) : eX4_mapNow_0 (n + 1)  z = (eX4_mapNow_11 n 0 ((z.1 1 3) - 1) z) := rfl
set_option maxRecDepth 100000 in
theorem qX4_mapNow_11 (n : Nat)  (y1 : Int32) (y2 : Int32) (z : mm_S) : eX4_mapNow_11 (n + 1) y1 y2 z = (if y2 < 0 then some (some (mm_I y1), z) else if (69 + y2) < 0 ∨ 97 ≤ Int32.toNatClampNeg (69 + y2) then none else (sX4_stuffIs (z.1 1 (Int32.toNatClampNeg (69 + y2))) z).bind fun q1 => let v2 : Int32 := (y2 + (-1)); eX4_mapNow_11 n ((5 * y1) + q1.1) v2 q1.2) := rfl
def rm_X4_mapNow : Room := { frames := 1, cells := 0, slots := 0, locals := 21 }
noncomputable def f_X4_mapNow (as : List mm_V) (z : mm_S) (o : mm_R) : Prop := (as.map mm_cat).sum ≤ 3 ∧ ∃ n, go_X4_mapNow n 0 (mm_ar 0 as) [] z = some o
theorem M_X4_mapNow : mm_M lyTM lyFA lenM snM 22 22 17 roM rsA nfA nmA [] yX4_mapNow cX4_mapNow 3 (some .int) rm_X4_mapNow f_X4_mapNow :=
  mm_met (rt := 0) (by decide +kernel) ⟨fun h => rfl, fun h => absurd h (by decide), fun h => absurd h (by decide), fun h => absurd h (by decide)⟩ tbX4_mapNow_ok hsnM okFX4 okLX4 (fun _ h => absurd h List.not_mem_nil) (fun _ _ _ _ => rfl) (fun _ _ _ _ => rfl) (List.forall_mem_cons.mpr ⟨sV_X4_stuffIs (Or.inl lk_X4_158) rfl ⟨by decide, by decide⟩, fun _ h => absurd h List.not_mem_nil⟩) (fun _ h => absurd h List.not_mem_nil)
noncomputable def lX4_mapNow_11 (s : Int32 × Int32 × mm_S) : Option ((Int32 × Int32 × mm_S) ⊕ (Int32 × mm_S)) := if s.2.1 < 0 then some (.inr (s.1, s.2.2)) else if (69 + s.2.1) < 0 ∨ 97 ≤ Int32.toNatClampNeg (69 + s.2.1) then none else (sX4_stuffIs (s.2.2.1 1 (Int32.toNatClampNeg (69 + s.2.1))) s.2.2).bind fun q1 => let v2 : Int32 := (s.2.1 + (-1)); some (.inl (((5 * s.1) + q1.1), v2, q1.2))
noncomputable def sX4_mapNow_11 (y1 : Int32) (y2 : Int32) (z : mm_S) : Option (Int32 × mm_S) := mm_wh (lX4_mapNow_11 ) mm_fu (y1, y2, z)
theorem kX4_mapNow_11 (y1 : Int32) (y2 : Int32) (z : mm_S) (oo : mm_R) : mm_Xs (sX4_mapNow_11 y1 y2 z) (fun v => (fun v : Int32 × mm_S => ((some (mm_I v.1), v.2) : mm_R)) v = oo) (fun n => eX4_mapNow_11 n y1 y2 z) oo :=
  xs_wh (stp := lX4_mapNow_11 ) (o := oo) (E := (fun (s : Int32 × Int32 × mm_S) n => eX4_mapNow_11 n s.1 s.2.1 s.2.2)) (C := (fun v => (fun v : Int32 × mm_S => ((some (mm_I v.1), v.2) : mm_R)) v = oo)) (fun s => xs_row (fun n => qX4_mapNow_11 n s.1 s.2.1 s.2.2) (xs_if (xs_v fun hc => ⟨0, congrArg some hc⟩) (xs_if xs_n (xs_bd fun q1 => (xs_let ((s.2.1 + (-1))) (S := fun (v2 : Int32) => (some (.inl (((5 * s.1) + q1.1), v2, q1.2)) : Option ((Int32 × Int32 × mm_S) ⊕ (Int32 × mm_S)))) (T := fun (v2 : Int32) n => eX4_mapNow_11 n ((5 * s.1) + q1.1) v2 q1.2) (fun v2 => (xs_v fun hc => hc))))))) mm_fu (y1, y2, z)
noncomputable def sX4_mapNow_0  (z : mm_S) : Option (Int32 × mm_S) := (sX4_mapNow_11 0 ((z.1 1 3) - 1) z)
theorem kX4_mapNow_0  (z : mm_S) (oo : mm_R) : mm_Xs (sX4_mapNow_0  z) (fun v => (fun v : Int32 × mm_S => ((some (mm_I v.1), v.2) : mm_R)) v = oo) (fun n => eX4_mapNow_0 n  z) oo :=
  xs_row (fun n => qX4_mapNow_0 n z) (kX4_mapNow_11 0 ((z.1 1 3) - 1) z oo)
noncomputable def sX4_mapNow  (z : mm_S) : Option (Int32 × mm_S) := sX4_mapNow_0  z
theorem sp_X4_mapNow  (z : mm_S) (hk : ∀ v ∈ [mm_P 4 0], mm_ok 22 lyTM 22 17 v) (q : Int32 × mm_S) (hq : sX4_mapNow  z = some q) : f_X4_mapNow [mm_P 4 0] z (some (mm_I q.1), q.2) := ⟨Nat.le_of_ble_eq_true rfl, kX4_mapNow_0  z _ q hq rfl⟩
noncomputable def clo_X4_mapNow (as : List mm_V) (z : mm_S) (kk : Option mm_V → mm_S → Option mm_R) : Option mm_R := mm_pr as fun t o0 as => bif Nat.beq t 4 then (match as with | [] => (sX4_mapNow z).bind fun q => kk (some (mm_I q.1)) q.2 | _ => none) else none
theorem cs_X4_mapNow : mm_cs lyTM 22 22 17 f_X4_mapNow clo_X4_mapNow := by
  intro as z K o hk h
  obtain ⟨t0, o0, r0, rfl, g0⟩ := mm_pr_e h
  obtain ⟨b0, k0⟩ := mm_bif_e g0
  obtain rfl := Nat.eq_of_beq_eq_true b0
  rcases r0 with _ | ⟨u, w⟩
  rotate_left
  · cases k0
  obtain rfl : o0 = 0 := ok4 (hk (mm_P 4 o0) (by simp))
  obtain ⟨q, hq, hq2⟩ := Option.bind_eq_some_iff.mp k0
  exact ⟨_, _, sp_X4_mapNow  z hk q hq, fun v hv => by cases hv; exact Or.inl ⟨_, rfl⟩, hq2⟩
theorem sV_X4_mapNow {own : String} {R : Room} {ar : Nat → Nat} {k : Nat} (hlink : Cond.methodLink own k yX4_mapNow ∈ lw_gd ∨ ∃ host, (own, k, yX4_mapNow, host) ∈ nmA) (har : ar k = 1) (hr : 2 ≤ R.frames ∧ 43 ≤ R.locals) : mm_okV lyTM lyFA lenM snM 22 22 17 roM rsA nfA nmA [] own R ar k clo_X4_mapNow := by
  refine ⟨yX4_mapNow, cX4_mapNow, 3, some .int, rm_X4_mapNow, f_X4_mapNow, 4, 0, (RX4, TX4, 36), M_X4_mapNow, cs_X4_mapNow, hlink, ⟨wv_X4_mapNow, wz_X4_mapNow, wi_X4_mapNow, wc_X4_mapNow⟩, ⟨by decide +kernel, by decide +kernel, by decide +kernel⟩, har, ⟨rfl, rfl, by decide⟩, ?_, ⟨rfl, rfl, hr.1, hr.2⟩⟩
  intro as z K o h
  obtain ⟨t0, o0, r0, rfl, g0⟩ := mm_pr_e h
  obtain ⟨b0, k0⟩ := mm_bif_e g0
  obtain rfl := Nat.eq_of_beq_eq_true b0
  exact ⟨_, _, rfl⟩
-- X4_lay
noncomputable def lV_X4_lay : List (Nat × (List mm_V → mm_S → (Option mm_V → mm_S → Option mm_R) → Option mm_R)) := []
noncomputable def mV_X4_lay (k : Nat) (as : List mm_V) (z : mm_S) (kk : Option mm_V → mm_S → Option mm_R) : Option mm_R := match mm_at lV_X4_lay k with
  | some f => f as z kk
  | none => none
noncomputable def arV_X4_lay (k : Nat) : Nat := (mm_at [] k).getD 0
noncomputable def lS_X4_lay : List (Nat × (List mm_V → mm_S → (Option mm_V → mm_S → Option mm_R) → Option mm_R)) := []
noncomputable def mS_X4_lay (k : Nat) (as : List mm_V) (z : mm_S) (kk : Option mm_V → mm_S → Option mm_R) : Option mm_R := match mm_at lS_X4_lay k with
  | some f => f as z kk
  | none => none
noncomputable def arS_X4_lay (k : Nat) : Nat := (mm_at [] k).getD 0
def ct_X4_lay : List (Nat × List Nat) := [(4, [0, 2, 3]), (34, [0, 2, 3])]
noncomputable def go_X4_lay : Nat → mm_K := mm_go (fun k => mm_at flX4 k) (fun k => mm_at clX4 k) (fun k => mm_at glX4 k) arV_X4_lay arS_X4_lay mV_X4_lay mS_X4_lay lenM roM snM 4 3 tbX4_lay ct_X4_lay
noncomputable def eX4_lay_0 (n : Nat)  (x1 : Int32) (z : mm_S) : Option mm_R := go_X4_lay n 0 [(0, mm_P 4 0), (1, mm_I x1)] [] z
noncomputable def eX4_lay_4 (n : Nat)  (y2 : Int32) (y3 : Int32) (z : mm_S) : Option mm_R := go_X4_lay n 4 [(0, mm_P 4 0), (2, mm_I y2), (3, mm_I y3)] [] z
noncomputable def eX4_lay_34 (n : Nat)  (y2 : Int32) (y3 : Int32) (z : mm_S) : Option mm_R := go_X4_lay n 34 [(0, mm_P 4 0), (2, mm_I y2), (3, mm_I y3)] [] z
set_option maxRecDepth 100000 in
theorem qX4_lay_0 (n : Nat)  (x1 : Int32) (z : mm_S) : eX4_lay_0 (n + 1) x1 z = (eX4_lay_4 n x1 0 z) := rfl
set_option maxRecDepth 100000 in
theorem qX4_lay_4 (n : Nat)  (y2 : Int32) (y3 : Int32) (z : mm_S) : eX4_lay_4 (n + 1) y2 y3 z = (if (z.1 1 3) ≤ y3 then some (none, z) else if (69 + y3) < 0 ∨ 97 ≤ Int32.toNatClampNeg (69 + y3) then none else if (15 + (z.1 1 (Int32.toNatClampNeg (69 + y3)))) < 0 ∨ 97 ≤ Int32.toNatClampNeg (15 + (z.1 1 (Int32.toNatClampNeg (69 + y3)))) then none else let u1 : mm_S := ((mm_ui z.1 1 (Int32.toNatClampNeg (15 + (z.1 1 (Int32.toNatClampNeg (69 + y3))))) (y2 - y2 / 5 * 5)), z.2); eX4_lay_34 n y2 y3 u1) := rfl
set_option maxRecDepth 100000 in
theorem qX4_lay_34 (n : Nat)  (y2 : Int32) (y3 : Int32) (z : mm_S) : eX4_lay_34 (n + 1) y2 y3 z = (eX4_lay_4 n (y2 / 5) (y3 + 1) z) := rfl
def rm_X4_lay : Room := { frames := 0, cells := 0, slots := 0, locals := 0 }
noncomputable def f_X4_lay (as : List mm_V) (z : mm_S) (o : mm_R) : Prop := (as.map mm_cat).sum ≤ 4 ∧ ∃ n, go_X4_lay n 0 (mm_ar 0 as) [] z = some o
theorem M_X4_lay : mm_M lyTM lyFA lenM snM 22 22 17 roM rsA nfA nmA [] yX4_lay cX4_lay 4 (none) rm_X4_lay f_X4_lay :=
  mm_met (rt := 3) (by decide +kernel) ⟨fun h => absurd h (by decide), fun h => absurd h (by decide), fun h => absurd h (by decide), fun h => rfl⟩ tbX4_lay_ok hsnM okFX4 okLX4 (fun _ h => absurd h List.not_mem_nil) (fun _ _ _ _ => rfl) (fun _ _ _ _ => rfl) (fun _ h => absurd h List.not_mem_nil) (fun _ h => absurd h List.not_mem_nil)
noncomputable def sX4_lay_34 (y2 : Int32) (y3 : Int32) (z : mm_S) : Option ((Int32 × Int32 × mm_S) ⊕ (mm_S)) := some (.inl ((y2 / 5), (y3 + 1), z))
theorem kX4_lay_34 (y2 : Int32) (y3 : Int32) (z : mm_S) (oo : mm_R) : mm_Xs (sX4_lay_34 y2 y3 z) (mm_mt (fun x : Int32 × Int32 × mm_S => ∃ n, eX4_lay_4 n x.1 x.2.1 x.2.2 = some oo) (fun v => (fun v : mm_S => ((none, v) : mm_R)) v = oo)) (fun n => eX4_lay_34 n y2 y3 z) oo :=
  xs_row (fun n => qX4_lay_34 n y2 y3 z) (xs_v fun hc => hc)
noncomputable def lX4_lay_4 (s : Int32 × Int32 × mm_S) : Option ((Int32 × Int32 × mm_S) ⊕ (mm_S)) := if (s.2.2.1 1 3) ≤ s.2.1 then some (.inr (s.2.2)) else if (69 + s.2.1) < 0 ∨ 97 ≤ Int32.toNatClampNeg (69 + s.2.1) then none else if (15 + (s.2.2.1 1 (Int32.toNatClampNeg (69 + s.2.1)))) < 0 ∨ 97 ≤ Int32.toNatClampNeg (15 + (s.2.2.1 1 (Int32.toNatClampNeg (69 + s.2.1)))) then none else let u1 : mm_S := ((mm_ui s.2.2.1 1 (Int32.toNatClampNeg (15 + (s.2.2.1 1 (Int32.toNatClampNeg (69 + s.2.1))))) (s.1 - s.1 / 5 * 5)), s.2.2.2); (sX4_lay_34 s.1 s.2.1 u1)
noncomputable def sX4_lay_4 (y2 : Int32) (y3 : Int32) (z : mm_S) : Option (mm_S) := mm_wh (lX4_lay_4 ) mm_fu (y2, y3, z)
theorem kX4_lay_4 (y2 : Int32) (y3 : Int32) (z : mm_S) (oo : mm_R) : mm_Xs (sX4_lay_4 y2 y3 z) (fun v => (fun v : mm_S => ((none, v) : mm_R)) v = oo) (fun n => eX4_lay_4 n y2 y3 z) oo :=
  xs_wh (stp := lX4_lay_4 ) (o := oo) (E := (fun (s : Int32 × Int32 × mm_S) n => eX4_lay_4 n s.1 s.2.1 s.2.2)) (C := (fun v => (fun v : mm_S => ((none, v) : mm_R)) v = oo)) (fun s => xs_row (fun n => qX4_lay_4 n s.1 s.2.1 s.2.2) (xs_if (xs_v fun hc => ⟨0, congrArg some hc⟩) (xs_if xs_n (xs_if xs_n (xs_let (((mm_ui s.2.2.1 1 (Int32.toNatClampNeg (15 + (s.2.2.1 1 (Int32.toNatClampNeg (69 + s.2.1))))) (s.1 - s.1 / 5 * 5)), s.2.2.2)) (S := fun (u1 : mm_S) => ((sX4_lay_34 s.1 s.2.1 u1) : Option ((Int32 × Int32 × mm_S) ⊕ (mm_S)))) (T := fun (u1 : mm_S) n => eX4_lay_34 n s.1 s.2.1 u1) (fun u1 => (kX4_lay_34 s.1 s.2.1 u1 oo))))))) mm_fu (y2, y3, z)
noncomputable def sX4_lay_0 (x1 : Int32) (z : mm_S) : Option (mm_S) := (sX4_lay_4 x1 0 z)
theorem kX4_lay_0 (x1 : Int32) (z : mm_S) (oo : mm_R) : mm_Xs (sX4_lay_0 x1 z) (fun v => (fun v : mm_S => ((none, v) : mm_R)) v = oo) (fun n => eX4_lay_0 n x1 z) oo :=
  xs_row (fun n => qX4_lay_0 n x1 z) (kX4_lay_4 x1 0 z oo)
noncomputable def sX4_lay (x1 : Int32) (z : mm_S) : Option (mm_S) := sX4_lay_0 x1 z
theorem sp_X4_lay (x1 : Int32) (z : mm_S) (hk : ∀ v ∈ [mm_P 4 0, mm_I x1], mm_ok 22 lyTM 22 17 v) (q : mm_S) (hq : sX4_lay x1 z = some q) : f_X4_lay [mm_P 4 0, mm_I x1] z (none, q) := ⟨Nat.le_of_ble_eq_true rfl, kX4_lay_0 x1 z _ q hq rfl⟩
noncomputable def clo_X4_lay (as : List mm_V) (z : mm_S) (kk : Option mm_V → mm_S → Option mm_R) : Option mm_R := mm_pr as fun t o0 as => bif Nat.beq t 4 then mm_pi as fun a1 as => (match as with | [] => (sX4_lay a1 z).bind fun q => kk none q | _ => none) else none
theorem cs_X4_lay : mm_cs lyTM 22 22 17 f_X4_lay clo_X4_lay := by
  intro as z K o hk h
  obtain ⟨t0, o0, r0, rfl, g0⟩ := mm_pr_e h
  obtain ⟨b0, k0⟩ := mm_bif_e g0
  obtain rfl := Nat.eq_of_beq_eq_true b0
  obtain ⟨a1, r1, rfl, g1⟩ := mm_pi_e k0
  rcases r1 with _ | ⟨u, w⟩
  rotate_left
  · cases g1
  obtain rfl : o0 = 0 := ok4 (hk (mm_P 4 o0) (by simp))
  obtain ⟨q, hq, hq2⟩ := Option.bind_eq_some_iff.mp g1
  exact ⟨_, _, sp_X4_lay a1 z hk q hq, (fun v hv => by cases hv), hq2⟩
theorem sV_X4_lay {own : String} {R : Room} {ar : Nat → Nat} {k : Nat} (hlink : Cond.methodLink own k yX4_lay ∈ lw_gd ∨ ∃ host, (own, k, yX4_lay, host) ∈ nmA) (har : ar k = 2) (hr : 1 ≤ R.frames ∧ 23 ≤ R.locals) : mm_okV lyTM lyFA lenM snM 22 22 17 roM rsA nfA nmA [] own R ar k clo_X4_lay := by
  refine ⟨yX4_lay, cX4_lay, 4, none, rm_X4_lay, f_X4_lay, 4, 1, (RX4, TX4, 36), M_X4_lay, cs_X4_lay, hlink, ⟨wv_X4_lay, wz_X4_lay, wi_X4_lay, wc_X4_lay⟩, ⟨by decide +kernel, by decide +kernel, by decide +kernel⟩, har, ⟨rfl, rfl, by decide⟩, ?_, ⟨rfl, rfl, hr.1, hr.2⟩⟩
  intro as z K o h
  obtain ⟨t0, o0, r0, rfl, g0⟩ := mm_pr_e h
  obtain ⟨b0, k0⟩ := mm_bif_e g0
  obtain rfl := Nat.eq_of_beq_eq_true b0
  exact ⟨_, _, rfl⟩
-- X4_nextFit
noncomputable def lV_X4_nextFit : List (Nat × (List mm_V → mm_S → (Option mm_V → mm_S → Option mm_R) → Option mm_R)) := [(243, clo_X4_doesFit), (247, clo_X4_maps), (250, clo_X4_lay)]
noncomputable def mV_X4_nextFit (k : Nat) (as : List mm_V) (z : mm_S) (kk : Option mm_V → mm_S → Option mm_R) : Option mm_R := match mm_at lV_X4_nextFit k with
  | some f => f as z kk
  | none => none
noncomputable def arV_X4_nextFit (k : Nat) : Nat := (mm_at [(243, 1), (247, 1), (250, 2)] k).getD 0
noncomputable def lS_X4_nextFit : List (Nat × (List mm_V → mm_S → (Option mm_V → mm_S → Option mm_R) → Option mm_R)) := []
noncomputable def mS_X4_nextFit (k : Nat) (as : List mm_V) (z : mm_S) (kk : Option mm_V → mm_S → Option mm_R) : Option mm_R := match mm_at lS_X4_nextFit k with
  | some f => f as z kk
  | none => none
noncomputable def arS_X4_nextFit (k : Nat) : Nat := (mm_at [] k).getD 0
def ct_X4_nextFit : List (Nat × List Nat) := [(4, [0, 2, 3]), (12, [0, 2, 3]), (21, [0, 2]), (26, [0, 2, 3])]
noncomputable def go_X4_nextFit : Nat → mm_K := mm_go (fun k => mm_at flX4 k) (fun k => mm_at clX4 k) (fun k => mm_at glX4 k) arV_X4_nextFit arS_X4_nextFit mV_X4_nextFit mS_X4_nextFit lenM roM snM 4 0 tbX4_nextFit ct_X4_nextFit
noncomputable def eX4_nextFit_0 (n : Nat)  (x1 : Int32) (z : mm_S) : Option mm_R := go_X4_nextFit n 0 [(0, mm_P 4 0), (1, mm_I x1)] [] z
noncomputable def eX4_nextFit_4 (n : Nat)  (y2 : Int32) (y3 : Int32) (z : mm_S) : Option mm_R := go_X4_nextFit n 4 [(0, mm_P 4 0), (2, mm_I y2), (3, mm_I y3)] [] z
noncomputable def eX4_nextFit_12 (n : Nat)  (y2 : Int32) (y3 : Int32) (z : mm_S) : Option mm_R := go_X4_nextFit n 12 [(0, mm_P 4 0), (2, mm_I y2), (3, mm_I y3)] [] z
noncomputable def eX4_nextFit_21 (n : Nat)  (y2 : Int32) (z : mm_S) : Option mm_R := go_X4_nextFit n 21 [(0, mm_P 4 0), (2, mm_I y2)] [] z
noncomputable def eX4_nextFit_26 (n : Nat)  (y2 : Int32) (y3 : Int32) (z : mm_S) : Option mm_R := go_X4_nextFit n 26 [(0, mm_P 4 0), (2, mm_I y2), (3, mm_I y3)] [] z
set_option maxRecDepth 100000 in
theorem qX4_nextFit_0 (n : Nat)  (x1 : Int32) (z : mm_S) : eX4_nextFit_0 (n + 1) x1 z = (eX4_nextFit_4 n x1 0 z) := rfl
set_option maxRecDepth 100000 in
theorem qX4_nextFit_4 (n : Nat)  (y2 : Int32) (y3 : Int32) (z : mm_S) : eX4_nextFit_4 (n + 1) y2 y3 z = ((sX4_maps  z).bind fun q1 => if q1.1 ≤ y2 then some (some (mm_I y2), q1.2) else eX4_nextFit_12 n y2 y3 q1.2) := rfl
set_option maxRecDepth 100000 in
theorem qX4_nextFit_12 (n : Nat)  (y2 : Int32) (y3 : Int32) (z : mm_S) : eX4_nextFit_12 (n + 1) y2 y3 z = (if y3 = 0 then (sX4_lay y2 z).bind fun q2 => eX4_nextFit_21 n y2 q2 else some (some (mm_I y2), z)) := rfl
set_option maxRecDepth 100000 in
theorem qX4_nextFit_21 (n : Nat)  (y2 : Int32) (z : mm_S) : eX4_nextFit_21 (n + 1) y2 z = ((sX4_doesFit  z).bind fun q3 => eX4_nextFit_26 n y2 q3.1 q3.2) := rfl
set_option maxRecDepth 100000 in
theorem qX4_nextFit_26 (n : Nat)  (y2 : Int32) (y3 : Int32) (z : mm_S) : eX4_nextFit_26 (n + 1) y2 y3 z = (if y3 = 0 then eX4_nextFit_4 n (y2 + 1) y3 z else eX4_nextFit_4 n (y2 + 0) y3 z) := rfl
def rm_X4_nextFit : Room := { frames := 6, cells := 0, slots := 0, locals := 136 }
noncomputable def f_X4_nextFit (as : List mm_V) (z : mm_S) (o : mm_R) : Prop := (as.map mm_cat).sum ≤ 4 ∧ ∃ n, go_X4_nextFit n 0 (mm_ar 0 as) [] z = some o
theorem M_X4_nextFit : mm_M lyTM lyFA lenM snM 22 22 17 roM rsA nfA nmA [] yX4_nextFit cX4_nextFit 4 (some .int) rm_X4_nextFit f_X4_nextFit :=
  mm_met (rt := 0) (by decide +kernel) ⟨fun h => rfl, fun h => absurd h (by decide), fun h => absurd h (by decide), fun h => absurd h (by decide)⟩ tbX4_nextFit_ok hsnM okFX4 okLX4 (fun _ h => absurd h List.not_mem_nil) (fun _ _ _ _ => rfl) (fun _ _ _ _ => rfl) (List.forall_mem_cons.mpr ⟨sV_X4_doesFit (Or.inl lk_X4_243) rfl ⟨by decide, by decide⟩, List.forall_mem_cons.mpr ⟨sV_X4_maps (Or.inl lk_X4_247) rfl ⟨by decide, by decide⟩, List.forall_mem_cons.mpr ⟨sV_X4_lay (Or.inl lk_X4_250) rfl ⟨by decide, by decide⟩, fun _ h => absurd h List.not_mem_nil⟩⟩⟩) (fun _ h => absurd h List.not_mem_nil)
noncomputable def sX4_nextFit_26 (y2 : Int32) (y3 : Int32) (z : mm_S) : Option ((Int32 × Int32 × mm_S) ⊕ (Int32 × mm_S)) := if y3 = 0 then some (.inl ((y2 + 1), y3, z)) else some (.inl ((y2 + 0), y3, z))
theorem kX4_nextFit_26 (y2 : Int32) (y3 : Int32) (z : mm_S) (oo : mm_R) : mm_Xs (sX4_nextFit_26 y2 y3 z) (mm_mt (fun x : Int32 × Int32 × mm_S => ∃ n, eX4_nextFit_4 n x.1 x.2.1 x.2.2 = some oo) (fun v => (fun v : Int32 × mm_S => ((some (mm_I v.1), v.2) : mm_R)) v = oo)) (fun n => eX4_nextFit_26 n y2 y3 z) oo :=
  xs_row (fun n => qX4_nextFit_26 n y2 y3 z) (xs_if (xs_v fun hc => hc) (xs_v fun hc => hc))
noncomputable def sX4_nextFit_21 (y2 : Int32) (z : mm_S) : Option ((Int32 × Int32 × mm_S) ⊕ (Int32 × mm_S)) := (sX4_doesFit  z).bind fun q3 => (sX4_nextFit_26 y2 q3.1 q3.2)
theorem kX4_nextFit_21 (y2 : Int32) (z : mm_S) (oo : mm_R) : mm_Xs (sX4_nextFit_21 y2 z) (mm_mt (fun x : Int32 × Int32 × mm_S => ∃ n, eX4_nextFit_4 n x.1 x.2.1 x.2.2 = some oo) (fun v => (fun v : Int32 × mm_S => ((some (mm_I v.1), v.2) : mm_R)) v = oo)) (fun n => eX4_nextFit_21 n y2 z) oo :=
  xs_row (fun n => qX4_nextFit_21 n y2 z) (xs_bd fun q3 => (kX4_nextFit_26 y2 q3.1 q3.2 oo))
noncomputable def sX4_nextFit_12 (y2 : Int32) (y3 : Int32) (z : mm_S) : Option ((Int32 × Int32 × mm_S) ⊕ (Int32 × mm_S)) := if y3 = 0 then (sX4_lay y2 z).bind fun q2 => (sX4_nextFit_21 y2 q2) else some (.inr (y2, z))
theorem kX4_nextFit_12 (y2 : Int32) (y3 : Int32) (z : mm_S) (oo : mm_R) : mm_Xs (sX4_nextFit_12 y2 y3 z) (mm_mt (fun x : Int32 × Int32 × mm_S => ∃ n, eX4_nextFit_4 n x.1 x.2.1 x.2.2 = some oo) (fun v => (fun v : Int32 × mm_S => ((some (mm_I v.1), v.2) : mm_R)) v = oo)) (fun n => eX4_nextFit_12 n y2 y3 z) oo :=
  xs_row (fun n => qX4_nextFit_12 n y2 y3 z) (xs_if (xs_bd fun q2 => (kX4_nextFit_21 y2 q2 oo)) (xs_v fun hc => ⟨0, congrArg some hc⟩))
noncomputable def lX4_nextFit_4 (s : Int32 × Int32 × mm_S) : Option ((Int32 × Int32 × mm_S) ⊕ (Int32 × mm_S)) := (sX4_maps  s.2.2).bind fun q1 => if q1.1 ≤ s.1 then some (.inr (s.1, q1.2)) else (sX4_nextFit_12 s.1 s.2.1 q1.2)
noncomputable def sX4_nextFit_4 (y2 : Int32) (y3 : Int32) (z : mm_S) : Option (Int32 × mm_S) := mm_wh (lX4_nextFit_4 ) mm_fu (y2, y3, z)
theorem kX4_nextFit_4 (y2 : Int32) (y3 : Int32) (z : mm_S) (oo : mm_R) : mm_Xs (sX4_nextFit_4 y2 y3 z) (fun v => (fun v : Int32 × mm_S => ((some (mm_I v.1), v.2) : mm_R)) v = oo) (fun n => eX4_nextFit_4 n y2 y3 z) oo :=
  xs_wh (stp := lX4_nextFit_4 ) (o := oo) (E := (fun (s : Int32 × Int32 × mm_S) n => eX4_nextFit_4 n s.1 s.2.1 s.2.2)) (C := (fun v => (fun v : Int32 × mm_S => ((some (mm_I v.1), v.2) : mm_R)) v = oo)) (fun s => xs_row (fun n => qX4_nextFit_4 n s.1 s.2.1 s.2.2) (xs_bd fun q1 => (xs_if (xs_v fun hc => ⟨0, congrArg some hc⟩) (kX4_nextFit_12 s.1 s.2.1 q1.2 oo)))) mm_fu (y2, y3, z)
noncomputable def sX4_nextFit_0 (x1 : Int32) (z : mm_S) : Option (Int32 × mm_S) := (sX4_nextFit_4 x1 0 z)
theorem kX4_nextFit_0 (x1 : Int32) (z : mm_S) (oo : mm_R) : mm_Xs (sX4_nextFit_0 x1 z) (fun v => (fun v : Int32 × mm_S => ((some (mm_I v.1), v.2) : mm_R)) v = oo) (fun n => eX4_nextFit_0 n x1 z) oo :=
  xs_row (fun n => qX4_nextFit_0 n x1 z) (kX4_nextFit_4 x1 0 z oo)
noncomputable def sX4_nextFit (x1 : Int32) (z : mm_S) : Option (Int32 × mm_S) := sX4_nextFit_0 x1 z
theorem sp_X4_nextFit (x1 : Int32) (z : mm_S) (hk : ∀ v ∈ [mm_P 4 0, mm_I x1], mm_ok 22 lyTM 22 17 v) (q : Int32 × mm_S) (hq : sX4_nextFit x1 z = some q) : f_X4_nextFit [mm_P 4 0, mm_I x1] z (some (mm_I q.1), q.2) := ⟨Nat.le_of_ble_eq_true rfl, kX4_nextFit_0 x1 z _ q hq rfl⟩
noncomputable def clo_X4_nextFit (as : List mm_V) (z : mm_S) (kk : Option mm_V → mm_S → Option mm_R) : Option mm_R := mm_pr as fun t o0 as => bif Nat.beq t 4 then mm_pi as fun a1 as => (match as with | [] => (sX4_nextFit a1 z).bind fun q => kk (some (mm_I q.1)) q.2 | _ => none) else none
theorem cs_X4_nextFit : mm_cs lyTM 22 22 17 f_X4_nextFit clo_X4_nextFit := by
  intro as z K o hk h
  obtain ⟨t0, o0, r0, rfl, g0⟩ := mm_pr_e h
  obtain ⟨b0, k0⟩ := mm_bif_e g0
  obtain rfl := Nat.eq_of_beq_eq_true b0
  obtain ⟨a1, r1, rfl, g1⟩ := mm_pi_e k0
  rcases r1 with _ | ⟨u, w⟩
  rotate_left
  · cases g1
  obtain rfl : o0 = 0 := ok4 (hk (mm_P 4 o0) (by simp))
  obtain ⟨q, hq, hq2⟩ := Option.bind_eq_some_iff.mp g1
  exact ⟨_, _, sp_X4_nextFit a1 z hk q hq, fun v hv => by cases hv; exact Or.inl ⟨_, rfl⟩, hq2⟩
theorem sV_X4_nextFit {own : String} {R : Room} {ar : Nat → Nat} {k : Nat} (hlink : Cond.methodLink own k yX4_nextFit ∈ lw_gd ∨ ∃ host, (own, k, yX4_nextFit, host) ∈ nmA) (har : ar k = 2) (hr : 7 ≤ R.frames ∧ 159 ≤ R.locals) : mm_okV lyTM lyFA lenM snM 22 22 17 roM rsA nfA nmA [] own R ar k clo_X4_nextFit := by
  refine ⟨yX4_nextFit, cX4_nextFit, 4, some .int, rm_X4_nextFit, f_X4_nextFit, 4, 1, (RX4, TX4, 36), M_X4_nextFit, cs_X4_nextFit, hlink, ⟨wv_X4_nextFit, wz_X4_nextFit, wi_X4_nextFit, wc_X4_nextFit⟩, ⟨by decide +kernel, by decide +kernel, by decide +kernel⟩, har, ⟨rfl, rfl, by decide⟩, ?_, ⟨rfl, rfl, hr.1, hr.2⟩⟩
  intro as z K o h
  obtain ⟨t0, o0, r0, rfl, g0⟩ := mm_pr_e h
  obtain ⟨b0, k0⟩ := mm_bif_e g0
  obtain rfl := Nat.eq_of_beq_eq_true b0
  exact ⟨_, _, rfl⟩
-- X4_goThrough
noncomputable def lV_X4_goThrough : List (Nat × (List mm_V → mm_S → (Option mm_V → mm_S → Option mm_R) → Option mm_R)) := [(158, clo_X4_stuffIs), (247, clo_X4_maps), (250, clo_X4_lay), (254, clo_X4_mapNow), (270, clo_X4_nextFit)]
noncomputable def mV_X4_goThrough (k : Nat) (as : List mm_V) (z : mm_S) (kk : Option mm_V → mm_S → Option mm_R) : Option mm_R := match mm_at lV_X4_goThrough k with
  | some f => f as z kk
  | none => none
noncomputable def arV_X4_goThrough (k : Nat) : Nat := (mm_at [(158, 2), (247, 1), (250, 2), (254, 1), (270, 2)] k).getD 0
noncomputable def lS_X4_goThrough : List (Nat × (List mm_V → mm_S → (Option mm_V → mm_S → Option mm_R) → Option mm_R)) := []
noncomputable def mS_X4_goThrough (k : Nat) (as : List mm_V) (z : mm_S) (kk : Option mm_V → mm_S → Option mm_R) : Option mm_R := match mm_at lS_X4_goThrough k with
  | some f => f as z kk
  | none => none
noncomputable def arS_X4_goThrough (k : Nat) : Nat := (mm_at [] k).getD 0
def ct_X4_goThrough : List (Nat × List Nat) := [(5, [0, 1]), (10, [0, 1]), (15, [0, 1]), (20, [0, 1]), (25, [0, 1]), (29, [0, 1, 2, 3]), (41, [0, 1, 2, 3]), (53, [0, 1, 2, 3]), (61, [0, 1, 2, 3]), (71, [0, 1, 2, 3]), (90, [0, 1, 2, 3]), (95, [0, 1, 2, 3]), (104, [0, 1, 2, 3, 4, 5, 6]), (131, [0, 1, 2, 3, 4, 5, 6, 7]), (164, [0, 1, 2, 3, 4, 5, 6]), (194, [0, 1, 3, 4]), (205, [0, 1, 2, 3]), (213, [])]
noncomputable def go_X4_goThrough : Nat → mm_K := mm_go (fun k => mm_at flX4 k) (fun k => mm_at clX4 k) (fun k => mm_at glX4 k) arV_X4_goThrough arS_X4_goThrough mV_X4_goThrough mS_X4_goThrough lenM roM snM 8 3 tbX4_goThrough ct_X4_goThrough
noncomputable def eX4_goThrough_0 (n : Nat)  (z : mm_S) : Option mm_R := go_X4_goThrough n 0 [(0, mm_P 4 0)] [] z
noncomputable def eX4_goThrough_5 (n : Nat)  (y1 : Int32) (z : mm_S) : Option mm_R := go_X4_goThrough n 5 [(0, mm_P 4 0), (1, mm_I y1)] [] z
noncomputable def eX4_goThrough_10 (n : Nat)  (y1 : Int32) (z : mm_S) : Option mm_R := go_X4_goThrough n 10 [(0, mm_P 4 0), (1, mm_I y1)] [] z
noncomputable def eX4_goThrough_15 (n : Nat)  (y1 : Int32) (z : mm_S) : Option mm_R := go_X4_goThrough n 15 [(0, mm_P 4 0), (1, mm_I y1)] [] z
noncomputable def eX4_goThrough_20 (n : Nat)  (y1 : Int32) (z : mm_S) : Option mm_R := go_X4_goThrough n 20 [(0, mm_P 4 0), (1, mm_I y1)] [] z
noncomputable def eX4_goThrough_25 (n : Nat)  (y1 : Int32) (z : mm_S) : Option mm_R := go_X4_goThrough n 25 [(0, mm_P 4 0), (1, mm_I y1)] [] z
noncomputable def eX4_goThrough_29 (n : Nat)  (y1 : Int32) (y2 : Int32) (y3 : Int32) (z : mm_S) : Option mm_R := go_X4_goThrough n 29 [(0, mm_P 4 0), (1, mm_I y1), (2, mm_I y2), (3, mm_I y3)] [] z
noncomputable def eX4_goThrough_53 (n : Nat)  (y1 : Int32) (y2 : Int32) (y3 : Int32) (z : mm_S) : Option mm_R := go_X4_goThrough n 53 [(0, mm_P 4 0), (1, mm_I y1), (2, mm_I y2), (3, mm_I y3)] [] z
noncomputable def eX4_goThrough_41 (n : Nat)  (y1 : Int32) (y2 : Int32) (y3 : Int32) (z : mm_S) : Option mm_R := go_X4_goThrough n 41 [(0, mm_P 4 0), (1, mm_I y1), (2, mm_I y2), (3, mm_I y3)] [] z
noncomputable def eX4_goThrough_213 (n : Nat)  (z : mm_S) : Option mm_R := go_X4_goThrough n 213 [] [] z
noncomputable def eX4_goThrough_61 (n : Nat)  (y1 : Int32) (y2 : Int32) (y3 : Int32) (z : mm_S) : Option mm_R := go_X4_goThrough n 61 [(0, mm_P 4 0), (1, mm_I y1), (2, mm_I y2), (3, mm_I y3)] [] z
noncomputable def eX4_goThrough_71 (n : Nat)  (y1 : Int32) (y2 : Int32) (y3 : Int32) (z : mm_S) : Option mm_R := go_X4_goThrough n 71 [(0, mm_P 4 0), (1, mm_I y1), (2, mm_I y2), (3, mm_I y3)] [] z
noncomputable def eX4_goThrough_90 (n : Nat)  (y1 : Int32) (y2 : Int32) (y3 : Int32) (z : mm_S) : Option mm_R := go_X4_goThrough n 90 [(0, mm_P 4 0), (1, mm_I y1), (2, mm_I y2), (3, mm_I y3)] [] z
noncomputable def eX4_goThrough_95 (n : Nat)  (y1 : Int32) (y2 : Int32) (y3 : Int32) (z : mm_S) : Option mm_R := go_X4_goThrough n 95 [(0, mm_P 4 0), (1, mm_I y1), (2, mm_I y2), (3, mm_I y3)] [] z
noncomputable def eX4_goThrough_104 (n : Nat)  (y1 : Int32) (y2 : Int32) (y3 : Int32) (y4 : Int32) (y5 : Int32) (y6 : Int32) (z : mm_S) : Option mm_R := go_X4_goThrough n 104 [(0, mm_P 4 0), (1, mm_I y1), (2, mm_I y2), (3, mm_I y3), (4, mm_I y4), (5, mm_I y5), (6, mm_I y6)] [] z
noncomputable def eX4_goThrough_194 (n : Nat)  (y1 : Int32) (y3 : Int32) (y4 : Int32) (z : mm_S) : Option mm_R := go_X4_goThrough n 194 [(0, mm_P 4 0), (1, mm_I y1), (3, mm_I y3), (4, mm_I y4)] [] z
noncomputable def eX4_goThrough_205 (n : Nat)  (y1 : Int32) (y2 : Int32) (y3 : Int32) (z : mm_S) : Option mm_R := go_X4_goThrough n 205 [(0, mm_P 4 0), (1, mm_I y1), (2, mm_I y2), (3, mm_I y3)] [] z
noncomputable def eX4_goThrough_131 (n : Nat)  (y1 : Int32) (y2 : Int32) (y3 : Int32) (y4 : Int32) (y5 : Int32) (y6 : Int32) (y7 : Int32) (z : mm_S) : Option mm_R := go_X4_goThrough n 131 [(0, mm_P 4 0), (1, mm_I y1), (2, mm_I y2), (3, mm_I y3), (4, mm_I y4), (5, mm_I y5), (6, mm_I y6), (7, mm_I y7)] [] z
noncomputable def eX4_goThrough_164 (n : Nat)  (y1 : Int32) (y2 : Int32) (y3 : Int32) (y4 : Int32) (y5 : Int32) (y6 : Int32) (z : mm_S) : Option mm_R := go_X4_goThrough n 164 [(0, mm_P 4 0), (1, mm_I y1), (2, mm_I y2), (3, mm_I y3), (4, mm_I y4), (5, mm_I y5), (6, mm_I y6)] [] z
set_option maxRecDepth 100000 in
theorem qX4_goThrough_0 (n : Nat)  (z : mm_S) : eX4_goThrough_0 (n + 1)  z = ((sX4_mapNow  z).bind fun q1 => eX4_goThrough_5 n q1.1 q1.2) := rfl
set_option maxRecDepth 100000 in
theorem qX4_goThrough_5 (n : Nat)  (y1 : Int32) (z : mm_S) : eX4_goThrough_5 (n + 1) y1 z = (eX4_goThrough_10 n y1 ((mm_ui z.1 0 10 0), z.2)) := rfl
set_option maxRecDepth 100000 in
theorem qX4_goThrough_10 (n : Nat)  (y1 : Int32) (z : mm_S) : eX4_goThrough_10 (n + 1) y1 z = (eX4_goThrough_15 n y1 ((mm_ui z.1 0 11 (-1)), z.2)) := rfl
set_option maxRecDepth 100000 in
theorem qX4_goThrough_15 (n : Nat)  (y1 : Int32) (z : mm_S) : eX4_goThrough_15 (n + 1) y1 z = (eX4_goThrough_20 n y1 ((mm_ui z.1 0 12 (-1)), z.2)) := rfl
set_option maxRecDepth 100000 in
theorem qX4_goThrough_20 (n : Nat)  (y1 : Int32) (z : mm_S) : eX4_goThrough_20 (n + 1) y1 z = (eX4_goThrough_25 n y1 ((mm_ui z.1 0 13 (-1)), z.2)) := rfl
set_option maxRecDepth 100000 in
theorem qX4_goThrough_25 (n : Nat)  (y1 : Int32) (z : mm_S) : eX4_goThrough_25 (n + 1) y1 z = (eX4_goThrough_29 n y1 0 0 z) := rfl
set_option maxRecDepth 100000 in
theorem qX4_goThrough_29 (n : Nat)  (y1 : Int32) (y2 : Int32) (y3 : Int32) (z : mm_S) : eX4_goThrough_29 (n + 1) y1 y2 y3 z = (if 4 ≤ y3 then (sX4_nextFit 0 z).bind fun q2 => eX4_goThrough_53 n y1 y2 q2.1 q2.2 else if y3 < 0 ∨ 4 ≤ Int32.toNatClampNeg y3 then none else eX4_goThrough_41 n y1 y2 y3 ((mm_ui z.1 10 (Int32.toNatClampNeg y3) 0), z.2)) := rfl
set_option maxRecDepth 100000 in
theorem qX4_goThrough_53 (n : Nat)  (y1 : Int32) (y2 : Int32) (y3 : Int32) (z : mm_S) : eX4_goThrough_53 (n + 1) y1 y2 y3 z = ((sX4_maps  z).bind fun q3 => if q3.1 ≤ y3 then (sX4_lay y1 q3.2).bind fun q4 => eX4_goThrough_213 n  q4 else eX4_goThrough_61 n y1 y2 y3 q3.2) := rfl
set_option maxRecDepth 100000 in
theorem qX4_goThrough_41 (n : Nat)  (y1 : Int32) (y2 : Int32) (y3 : Int32) (z : mm_S) : eX4_goThrough_41 (n + 1) y1 y2 y3 z = (eX4_goThrough_29 n y1 y2 (y3 + 1) z) := rfl
set_option maxRecDepth 100000 in
theorem qX4_goThrough_213 (n : Nat)  (z : mm_S) : eX4_goThrough_213 (n + 1)  z = (some (none, z)) := rfl
set_option maxRecDepth 100000 in
theorem qX4_goThrough_61 (n : Nat)  (y1 : Int32) (y2 : Int32) (y3 : Int32) (z : mm_S) : eX4_goThrough_61 (n + 1) y1 y2 y3 z = (eX4_goThrough_71 n y1 y2 y3 ((mm_ui z.1 0 10 ((z.1 0 10) + 1)), z.2)) := rfl
set_option maxRecDepth 100000 in
theorem qX4_goThrough_71 (n : Nat)  (y1 : Int32) (y2 : Int32) (y3 : Int32) (z : mm_S) : eX4_goThrough_71 (n + 1) y1 y2 y3 z = (if 0 ≤ (z.1 0 11) then eX4_goThrough_90 n y1 y2 y3 ((mm_ui z.1 0 11 (z.1 0 11)), z.2) else eX4_goThrough_90 n y1 y2 y3 ((mm_ui z.1 0 11 y3), z.2)) := rfl
set_option maxRecDepth 100000 in
theorem qX4_goThrough_90 (n : Nat)  (y1 : Int32) (y2 : Int32) (y3 : Int32) (z : mm_S) : eX4_goThrough_90 (n + 1) y1 y2 y3 z = (eX4_goThrough_95 n y1 y2 y3 ((mm_ui z.1 0 13 y3), z.2)) := rfl
set_option maxRecDepth 100000 in
theorem qX4_goThrough_95 (n : Nat)  (y1 : Int32) (y2 : Int32) (y3 : Int32) (z : mm_S) : eX4_goThrough_95 (n + 1) y1 y2 y3 z = (eX4_goThrough_104 n y1 y2 y3 0 y1 0 z) := rfl
set_option maxRecDepth 100000 in
theorem qX4_goThrough_104 (n : Nat)  (y1 : Int32) (y2 : Int32) (y3 : Int32) (y4 : Int32) (y5 : Int32) (y6 : Int32) (z : mm_S) : eX4_goThrough_104 (n + 1) y1 y2 y3 y4 y5 y6 z = (if (z.1 1 3) ≤ y6 then if (z.1 0 12) < 0 then eX4_goThrough_194 n y1 y3 y4 ((mm_ui z.1 0 12 y3), z.2) else if y2 ≤ y4 then (sX4_nextFit (y3 + 1) z).bind fun q5 => eX4_goThrough_205 n y1 y2 q5.1 q5.2 else eX4_goThrough_194 n y1 y3 y4 ((mm_ui z.1 0 12 y3), z.2) else if (69 + y6) < 0 ∨ 97 ≤ Int32.toNatClampNeg (69 + y6) then none else (sX4_stuffIs (z.1 1 (Int32.toNatClampNeg (69 + y6))) z).bind fun q6 => eX4_goThrough_131 n y1 y2 y3 y4 y5 y6 q6.1 q6.2) := rfl
set_option maxRecDepth 100000 in
theorem qX4_goThrough_194 (n : Nat)  (y1 : Int32) (y3 : Int32) (y4 : Int32) (z : mm_S) : eX4_goThrough_194 (n + 1) y1 y3 y4 z = ((sX4_nextFit (y3 + 1) z).bind fun q7 => eX4_goThrough_205 n y1 y4 q7.1 q7.2) := rfl
set_option maxRecDepth 100000 in
theorem qX4_goThrough_205 (n : Nat)  (y1 : Int32) (y2 : Int32) (y3 : Int32) (z : mm_S) : eX4_goThrough_205 (n + 1) y1 y2 y3 z = (eX4_goThrough_53 n y1 y2 y3 z) := rfl
set_option maxRecDepth 100000 in
theorem qX4_goThrough_131 (n : Nat)  (y1 : Int32) (y2 : Int32) (y3 : Int32) (y4 : Int32) (y5 : Int32) (y6 : Int32) (y7 : Int32) (z : mm_S) : eX4_goThrough_131 (n + 1) y1 y2 y3 y4 y5 y6 y7 z = (if y7 = (y5 - y5 / 5 * 5) then if y6 < 0 ∨ 4 ≤ Int32.toNatClampNeg y6 then none else if y6 < 0 ∨ 4 ≤ Int32.toNatClampNeg y6 then none else let u9 : mm_S := ((mm_ui z.1 10 (Int32.toNatClampNeg y6) ((z.1 10 (Int32.toNatClampNeg y6)) ||| (1 <<< (y7 &&& 31)))), z.2); eX4_goThrough_164 n y1 y2 y3 (y4 + 0) y5 y6 u9 else if y6 < 0 ∨ 4 ≤ Int32.toNatClampNeg y6 then none else if y6 < 0 ∨ 4 ≤ Int32.toNatClampNeg y6 then none else let u8 : mm_S := ((mm_ui z.1 10 (Int32.toNatClampNeg y6) ((z.1 10 (Int32.toNatClampNeg y6)) ||| (1 <<< (y7 &&& 31)))), z.2); eX4_goThrough_164 n y1 y2 y3 (y4 + 1) y5 y6 u8) := rfl
set_option maxRecDepth 100000 in
theorem qX4_goThrough_164 (n : Nat)  (y1 : Int32) (y2 : Int32) (y3 : Int32) (y4 : Int32) (y5 : Int32) (y6 : Int32) (z : mm_S) : eX4_goThrough_164 (n + 1) y1 y2 y3 y4 y5 y6 z = (eX4_goThrough_104 n y1 y2 y3 y4 (y5 / 5) (y6 + 1) z) := rfl
def rm_X4_goThrough : Room := { frames := 7, cells := 0, slots := 0, locals := 159 }
noncomputable def f_X4_goThrough (as : List mm_V) (z : mm_S) (o : mm_R) : Prop := (as.map mm_cat).sum ≤ 8 ∧ ∃ n, go_X4_goThrough n 0 (mm_ar 0 as) [] z = some o
theorem M_X4_goThrough : mm_M lyTM lyFA lenM snM 22 22 17 roM rsA nfA nmA [] yX4_goThrough cX4_goThrough 8 (none) rm_X4_goThrough f_X4_goThrough :=
  mm_met (rt := 3) (by decide +kernel) ⟨fun h => absurd h (by decide), fun h => absurd h (by decide), fun h => absurd h (by decide), fun h => rfl⟩ tbX4_goThrough_ok hsnM okFX4 okLX4 (fun _ h => absurd h List.not_mem_nil) (fun _ _ _ _ => rfl) (fun _ _ _ _ => rfl) (List.forall_mem_cons.mpr ⟨sV_X4_stuffIs (Or.inl lk_X4_158) rfl ⟨by decide, by decide⟩, List.forall_mem_cons.mpr ⟨sV_X4_maps (Or.inl lk_X4_247) rfl ⟨by decide, by decide⟩, List.forall_mem_cons.mpr ⟨sV_X4_lay (Or.inl lk_X4_250) rfl ⟨by decide, by decide⟩, List.forall_mem_cons.mpr ⟨sV_X4_mapNow (Or.inl lk_X4_254) rfl ⟨by decide, by decide⟩, List.forall_mem_cons.mpr ⟨sV_X4_nextFit (Or.inl lk_X4_270) rfl ⟨by decide, by decide⟩, fun _ h => absurd h List.not_mem_nil⟩⟩⟩⟩⟩) (fun _ h => absurd h List.not_mem_nil)
noncomputable def sX4_goThrough_41 (y1 : Int32) (y2 : Int32) (y3 : Int32) (z : mm_S) : Option ((Int32 × Int32 × Int32 × mm_S) ⊕ (mm_S)) := some (.inl (y1, y2, (y3 + 1), z))
theorem kX4_goThrough_41 (y1 : Int32) (y2 : Int32) (y3 : Int32) (z : mm_S) (oo : mm_R) : mm_Xs (sX4_goThrough_41 y1 y2 y3 z) (mm_mt (fun x : Int32 × Int32 × Int32 × mm_S => ∃ n, eX4_goThrough_29 n x.1 x.2.1 x.2.2.1 x.2.2.2 = some oo) (fun v => (fun v : mm_S => ((none, v) : mm_R)) v = oo)) (fun n => eX4_goThrough_41 n y1 y2 y3 z) oo :=
  xs_row (fun n => qX4_goThrough_41 n y1 y2 y3 z) (xs_v fun hc => hc)
noncomputable def sX4_goThrough_164 (y1 : Int32) (y2 : Int32) (y3 : Int32) (y4 : Int32) (y5 : Int32) (y6 : Int32) (z : mm_S) : Option ((Int32 × Int32 × Int32 × Int32 × Int32 × Int32 × mm_S) ⊕ ((Int32 × Int32 × Int32 × mm_S) ⊕ (mm_S))) := some (.inl (y1, y2, y3, y4, (y5 / 5), (y6 + 1), z))
theorem kX4_goThrough_164 (y1 : Int32) (y2 : Int32) (y3 : Int32) (y4 : Int32) (y5 : Int32) (y6 : Int32) (z : mm_S) (oo : mm_R) : mm_Xs (sX4_goThrough_164 y1 y2 y3 y4 y5 y6 z) (mm_mt (fun x : Int32 × Int32 × Int32 × Int32 × Int32 × Int32 × mm_S => ∃ n, eX4_goThrough_104 n x.1 x.2.1 x.2.2.1 x.2.2.2.1 x.2.2.2.2.1 x.2.2.2.2.2.1 x.2.2.2.2.2.2 = some oo) (mm_mt (fun x : Int32 × Int32 × Int32 × mm_S => ∃ n, eX4_goThrough_53 n x.1 x.2.1 x.2.2.1 x.2.2.2 = some oo) (fun v => (fun v : mm_S => ((none, v) : mm_R)) v = oo))) (fun n => eX4_goThrough_164 n y1 y2 y3 y4 y5 y6 z) oo :=
  xs_row (fun n => qX4_goThrough_164 n y1 y2 y3 y4 y5 y6 z) (xs_v fun hc => hc)
noncomputable def sX4_goThrough_131 (y1 : Int32) (y2 : Int32) (y3 : Int32) (y4 : Int32) (y5 : Int32) (y6 : Int32) (y7 : Int32) (z : mm_S) : Option ((Int32 × Int32 × Int32 × Int32 × Int32 × Int32 × mm_S) ⊕ ((Int32 × Int32 × Int32 × mm_S) ⊕ (mm_S))) := if y7 = (y5 - y5 / 5 * 5) then if y6 < 0 ∨ 4 ≤ Int32.toNatClampNeg y6 then none else if y6 < 0 ∨ 4 ≤ Int32.toNatClampNeg y6 then none else let u9 : mm_S := ((mm_ui z.1 10 (Int32.toNatClampNeg y6) ((z.1 10 (Int32.toNatClampNeg y6)) ||| (1 <<< (y7 &&& 31)))), z.2); (sX4_goThrough_164 y1 y2 y3 (y4 + 0) y5 y6 u9) else if y6 < 0 ∨ 4 ≤ Int32.toNatClampNeg y6 then none else if y6 < 0 ∨ 4 ≤ Int32.toNatClampNeg y6 then none else let u8 : mm_S := ((mm_ui z.1 10 (Int32.toNatClampNeg y6) ((z.1 10 (Int32.toNatClampNeg y6)) ||| (1 <<< (y7 &&& 31)))), z.2); (sX4_goThrough_164 y1 y2 y3 (y4 + 1) y5 y6 u8)
theorem kX4_goThrough_131 (y1 : Int32) (y2 : Int32) (y3 : Int32) (y4 : Int32) (y5 : Int32) (y6 : Int32) (y7 : Int32) (z : mm_S) (oo : mm_R) : mm_Xs (sX4_goThrough_131 y1 y2 y3 y4 y5 y6 y7 z) (mm_mt (fun x : Int32 × Int32 × Int32 × Int32 × Int32 × Int32 × mm_S => ∃ n, eX4_goThrough_104 n x.1 x.2.1 x.2.2.1 x.2.2.2.1 x.2.2.2.2.1 x.2.2.2.2.2.1 x.2.2.2.2.2.2 = some oo) (mm_mt (fun x : Int32 × Int32 × Int32 × mm_S => ∃ n, eX4_goThrough_53 n x.1 x.2.1 x.2.2.1 x.2.2.2 = some oo) (fun v => (fun v : mm_S => ((none, v) : mm_R)) v = oo))) (fun n => eX4_goThrough_131 n y1 y2 y3 y4 y5 y6 y7 z) oo :=
  xs_row (fun n => qX4_goThrough_131 n y1 y2 y3 y4 y5 y6 y7 z) (xs_if (xs_if xs_n (xs_if xs_n (xs_let (((mm_ui z.1 10 (Int32.toNatClampNeg y6) ((z.1 10 (Int32.toNatClampNeg y6)) ||| (1 <<< (y7 &&& 31)))), z.2)) (S := fun (u9 : mm_S) => ((sX4_goThrough_164 y1 y2 y3 (y4 + 0) y5 y6 u9) : Option ((Int32 × Int32 × Int32 × Int32 × Int32 × Int32 × mm_S) ⊕ ((Int32 × Int32 × Int32 × mm_S) ⊕ (mm_S))))) (T := fun (u9 : mm_S) n => eX4_goThrough_164 n y1 y2 y3 (y4 + 0) y5 y6 u9) (fun u9 => (kX4_goThrough_164 y1 y2 y3 (y4 + 0) y5 y6 u9 oo))))) (xs_if xs_n (xs_if xs_n (xs_let (((mm_ui z.1 10 (Int32.toNatClampNeg y6) ((z.1 10 (Int32.toNatClampNeg y6)) ||| (1 <<< (y7 &&& 31)))), z.2)) (S := fun (u8 : mm_S) => ((sX4_goThrough_164 y1 y2 y3 (y4 + 1) y5 y6 u8) : Option ((Int32 × Int32 × Int32 × Int32 × Int32 × Int32 × mm_S) ⊕ ((Int32 × Int32 × Int32 × mm_S) ⊕ (mm_S))))) (T := fun (u8 : mm_S) n => eX4_goThrough_164 n y1 y2 y3 (y4 + 1) y5 y6 u8) (fun u8 => (kX4_goThrough_164 y1 y2 y3 (y4 + 1) y5 y6 u8 oo))))))
noncomputable def sX4_goThrough_205 (y1 : Int32) (y2 : Int32) (y3 : Int32) (z : mm_S) : Option ((Int32 × Int32 × Int32 × mm_S) ⊕ (mm_S)) := some (.inl (y1, y2, y3, z))
theorem kX4_goThrough_205 (y1 : Int32) (y2 : Int32) (y3 : Int32) (z : mm_S) (oo : mm_R) : mm_Xs (sX4_goThrough_205 y1 y2 y3 z) (mm_mt (fun x : Int32 × Int32 × Int32 × mm_S => ∃ n, eX4_goThrough_53 n x.1 x.2.1 x.2.2.1 x.2.2.2 = some oo) (fun v => (fun v : mm_S => ((none, v) : mm_R)) v = oo)) (fun n => eX4_goThrough_205 n y1 y2 y3 z) oo :=
  xs_row (fun n => qX4_goThrough_205 n y1 y2 y3 z) (xs_v fun hc => hc)
noncomputable def sX4_goThrough_194 (y1 : Int32) (y3 : Int32) (y4 : Int32) (z : mm_S) : Option ((Int32 × Int32 × Int32 × mm_S) ⊕ (mm_S)) := (sX4_nextFit (y3 + 1) z).bind fun q7 => (sX4_goThrough_205 y1 y4 q7.1 q7.2)
theorem kX4_goThrough_194 (y1 : Int32) (y3 : Int32) (y4 : Int32) (z : mm_S) (oo : mm_R) : mm_Xs (sX4_goThrough_194 y1 y3 y4 z) (mm_mt (fun x : Int32 × Int32 × Int32 × mm_S => ∃ n, eX4_goThrough_53 n x.1 x.2.1 x.2.2.1 x.2.2.2 = some oo) (fun v => (fun v : mm_S => ((none, v) : mm_R)) v = oo)) (fun n => eX4_goThrough_194 n y1 y3 y4 z) oo :=
  xs_row (fun n => qX4_goThrough_194 n y1 y3 y4 z) (xs_bd fun q7 => (kX4_goThrough_205 y1 y4 q7.1 q7.2 oo))
noncomputable def lX4_goThrough_104 (s : Int32 × Int32 × Int32 × Int32 × Int32 × Int32 × mm_S) : Option ((Int32 × Int32 × Int32 × Int32 × Int32 × Int32 × mm_S) ⊕ ((Int32 × Int32 × Int32 × mm_S) ⊕ (mm_S))) := if (s.2.2.2.2.2.2.1 1 3) ≤ s.2.2.2.2.2.1 then if (s.2.2.2.2.2.2.1 0 12) < 0 then ((sX4_goThrough_194 s.1 s.2.2.1 s.2.2.2.1 ((mm_ui s.2.2.2.2.2.2.1 0 12 s.2.2.1), s.2.2.2.2.2.2.2)).map fun w => (Sum.inr w)) else if s.2.1 ≤ s.2.2.2.1 then (sX4_nextFit (s.2.2.1 + 1) s.2.2.2.2.2.2).bind fun q5 => ((sX4_goThrough_205 s.1 s.2.1 q5.1 q5.2).map fun w => (Sum.inr w)) else ((sX4_goThrough_194 s.1 s.2.2.1 s.2.2.2.1 ((mm_ui s.2.2.2.2.2.2.1 0 12 s.2.2.1), s.2.2.2.2.2.2.2)).map fun w => (Sum.inr w)) else if (69 + s.2.2.2.2.2.1) < 0 ∨ 97 ≤ Int32.toNatClampNeg (69 + s.2.2.2.2.2.1) then none else (sX4_stuffIs (s.2.2.2.2.2.2.1 1 (Int32.toNatClampNeg (69 + s.2.2.2.2.2.1))) s.2.2.2.2.2.2).bind fun q6 => (sX4_goThrough_131 s.1 s.2.1 s.2.2.1 s.2.2.2.1 s.2.2.2.2.1 s.2.2.2.2.2.1 q6.1 q6.2)
noncomputable def sX4_goThrough_104 (y1 : Int32) (y2 : Int32) (y3 : Int32) (y4 : Int32) (y5 : Int32) (y6 : Int32) (z : mm_S) : Option ((Int32 × Int32 × Int32 × mm_S) ⊕ (mm_S)) := mm_wh (lX4_goThrough_104 ) mm_fu (y1, y2, y3, y4, y5, y6, z)
theorem kX4_goThrough_104 (y1 : Int32) (y2 : Int32) (y3 : Int32) (y4 : Int32) (y5 : Int32) (y6 : Int32) (z : mm_S) (oo : mm_R) : mm_Xs (sX4_goThrough_104 y1 y2 y3 y4 y5 y6 z) (mm_mt (fun x : Int32 × Int32 × Int32 × mm_S => ∃ n, eX4_goThrough_53 n x.1 x.2.1 x.2.2.1 x.2.2.2 = some oo) (fun v => (fun v : mm_S => ((none, v) : mm_R)) v = oo)) (fun n => eX4_goThrough_104 n y1 y2 y3 y4 y5 y6 z) oo :=
  xs_wh (stp := lX4_goThrough_104 ) (o := oo) (E := (fun (s : Int32 × Int32 × Int32 × Int32 × Int32 × Int32 × mm_S) n => eX4_goThrough_104 n s.1 s.2.1 s.2.2.1 s.2.2.2.1 s.2.2.2.2.1 s.2.2.2.2.2.1 s.2.2.2.2.2.2)) (C := (mm_mt (fun x : Int32 × Int32 × Int32 × mm_S => ∃ n, eX4_goThrough_53 n x.1 x.2.1 x.2.2.1 x.2.2.2 = some oo) (fun v => (fun v : mm_S => ((none, v) : mm_R)) v = oo))) (fun s => xs_row (fun n => qX4_goThrough_104 n s.1 s.2.1 s.2.2.1 s.2.2.2.1 s.2.2.2.2.1 s.2.2.2.2.2.1 s.2.2.2.2.2.2) (xs_if (xs_if (xs_map (f := fun w => (Sum.inr w)) (kX4_goThrough_194 s.1 s.2.2.1 s.2.2.2.1 ((mm_ui s.2.2.2.2.2.2.1 0 12 s.2.2.1), s.2.2.2.2.2.2.2) oo) (fun _ h => h)) (xs_if (xs_bd fun q5 => (xs_map (f := fun w => (Sum.inr w)) (kX4_goThrough_205 s.1 s.2.1 q5.1 q5.2 oo) (fun _ h => h))) (xs_map (f := fun w => (Sum.inr w)) (kX4_goThrough_194 s.1 s.2.2.1 s.2.2.2.1 ((mm_ui s.2.2.2.2.2.2.1 0 12 s.2.2.1), s.2.2.2.2.2.2.2) oo) (fun _ h => h)))) (xs_if xs_n (xs_bd fun q6 => (kX4_goThrough_131 s.1 s.2.1 s.2.2.1 s.2.2.2.1 s.2.2.2.2.1 s.2.2.2.2.2.1 q6.1 q6.2 oo))))) mm_fu (y1, y2, y3, y4, y5, y6, z)
noncomputable def sX4_goThrough_95 (y1 : Int32) (y2 : Int32) (y3 : Int32) (z : mm_S) : Option ((Int32 × Int32 × Int32 × mm_S) ⊕ (mm_S)) := (sX4_goThrough_104 y1 y2 y3 0 y1 0 z)
theorem kX4_goThrough_95 (y1 : Int32) (y2 : Int32) (y3 : Int32) (z : mm_S) (oo : mm_R) : mm_Xs (sX4_goThrough_95 y1 y2 y3 z) (mm_mt (fun x : Int32 × Int32 × Int32 × mm_S => ∃ n, eX4_goThrough_53 n x.1 x.2.1 x.2.2.1 x.2.2.2 = some oo) (fun v => (fun v : mm_S => ((none, v) : mm_R)) v = oo)) (fun n => eX4_goThrough_95 n y1 y2 y3 z) oo :=
  xs_row (fun n => qX4_goThrough_95 n y1 y2 y3 z) (kX4_goThrough_104 y1 y2 y3 0 y1 0 z oo)
noncomputable def sX4_goThrough_90 (y1 : Int32) (y2 : Int32) (y3 : Int32) (z : mm_S) : Option ((Int32 × Int32 × Int32 × mm_S) ⊕ (mm_S)) := (sX4_goThrough_95 y1 y2 y3 ((mm_ui z.1 0 13 y3), z.2))
theorem kX4_goThrough_90 (y1 : Int32) (y2 : Int32) (y3 : Int32) (z : mm_S) (oo : mm_R) : mm_Xs (sX4_goThrough_90 y1 y2 y3 z) (mm_mt (fun x : Int32 × Int32 × Int32 × mm_S => ∃ n, eX4_goThrough_53 n x.1 x.2.1 x.2.2.1 x.2.2.2 = some oo) (fun v => (fun v : mm_S => ((none, v) : mm_R)) v = oo)) (fun n => eX4_goThrough_90 n y1 y2 y3 z) oo :=
  xs_row (fun n => qX4_goThrough_90 n y1 y2 y3 z) (kX4_goThrough_95 y1 y2 y3 ((mm_ui z.1 0 13 y3), z.2) oo)
noncomputable def sX4_goThrough_71 (y1 : Int32) (y2 : Int32) (y3 : Int32) (z : mm_S) : Option ((Int32 × Int32 × Int32 × mm_S) ⊕ (mm_S)) := if 0 ≤ (z.1 0 11) then (sX4_goThrough_90 y1 y2 y3 ((mm_ui z.1 0 11 (z.1 0 11)), z.2)) else (sX4_goThrough_90 y1 y2 y3 ((mm_ui z.1 0 11 y3), z.2))
theorem kX4_goThrough_71 (y1 : Int32) (y2 : Int32) (y3 : Int32) (z : mm_S) (oo : mm_R) : mm_Xs (sX4_goThrough_71 y1 y2 y3 z) (mm_mt (fun x : Int32 × Int32 × Int32 × mm_S => ∃ n, eX4_goThrough_53 n x.1 x.2.1 x.2.2.1 x.2.2.2 = some oo) (fun v => (fun v : mm_S => ((none, v) : mm_R)) v = oo)) (fun n => eX4_goThrough_71 n y1 y2 y3 z) oo :=
  xs_row (fun n => qX4_goThrough_71 n y1 y2 y3 z) (xs_if (kX4_goThrough_90 y1 y2 y3 ((mm_ui z.1 0 11 (z.1 0 11)), z.2) oo) (kX4_goThrough_90 y1 y2 y3 ((mm_ui z.1 0 11 y3), z.2) oo))
noncomputable def sX4_goThrough_61 (y1 : Int32) (y2 : Int32) (y3 : Int32) (z : mm_S) : Option ((Int32 × Int32 × Int32 × mm_S) ⊕ (mm_S)) := (sX4_goThrough_71 y1 y2 y3 ((mm_ui z.1 0 10 ((z.1 0 10) + 1)), z.2))
theorem kX4_goThrough_61 (y1 : Int32) (y2 : Int32) (y3 : Int32) (z : mm_S) (oo : mm_R) : mm_Xs (sX4_goThrough_61 y1 y2 y3 z) (mm_mt (fun x : Int32 × Int32 × Int32 × mm_S => ∃ n, eX4_goThrough_53 n x.1 x.2.1 x.2.2.1 x.2.2.2 = some oo) (fun v => (fun v : mm_S => ((none, v) : mm_R)) v = oo)) (fun n => eX4_goThrough_61 n y1 y2 y3 z) oo :=
  xs_row (fun n => qX4_goThrough_61 n y1 y2 y3 z) (kX4_goThrough_71 y1 y2 y3 ((mm_ui z.1 0 10 ((z.1 0 10) + 1)), z.2) oo)
noncomputable def sX4_goThrough_213  (z : mm_S) : Option (mm_S) := some (z)
theorem kX4_goThrough_213  (z : mm_S) (oo : mm_R) : mm_Xs (sX4_goThrough_213  z) (fun v => (fun v : mm_S => ((none, v) : mm_R)) v = oo) (fun n => eX4_goThrough_213 n  z) oo :=
  xs_row (fun n => qX4_goThrough_213 n z) (xs_v fun hc => ⟨0, congrArg some hc⟩)
noncomputable def lX4_goThrough_53 (s : Int32 × Int32 × Int32 × mm_S) : Option ((Int32 × Int32 × Int32 × mm_S) ⊕ (mm_S)) := (sX4_maps  s.2.2.2).bind fun q3 => if q3.1 ≤ s.2.2.1 then (sX4_lay s.1 q3.2).bind fun q4 => ((sX4_goThrough_213 q4).map fun w => (Sum.inr w)) else (sX4_goThrough_61 s.1 s.2.1 s.2.2.1 q3.2)
noncomputable def sX4_goThrough_53 (y1 : Int32) (y2 : Int32) (y3 : Int32) (z : mm_S) : Option (mm_S) := mm_wh (lX4_goThrough_53 ) mm_fu (y1, y2, y3, z)
theorem kX4_goThrough_53 (y1 : Int32) (y2 : Int32) (y3 : Int32) (z : mm_S) (oo : mm_R) : mm_Xs (sX4_goThrough_53 y1 y2 y3 z) (fun v => (fun v : mm_S => ((none, v) : mm_R)) v = oo) (fun n => eX4_goThrough_53 n y1 y2 y3 z) oo :=
  xs_wh (stp := lX4_goThrough_53 ) (o := oo) (E := (fun (s : Int32 × Int32 × Int32 × mm_S) n => eX4_goThrough_53 n s.1 s.2.1 s.2.2.1 s.2.2.2)) (C := (fun v => (fun v : mm_S => ((none, v) : mm_R)) v = oo)) (fun s => xs_row (fun n => qX4_goThrough_53 n s.1 s.2.1 s.2.2.1 s.2.2.2) (xs_bd fun q3 => (xs_if (xs_bd fun q4 => (xs_map (f := fun w => (Sum.inr w)) (kX4_goThrough_213 q4 oo) (fun _ h => h))) (kX4_goThrough_61 s.1 s.2.1 s.2.2.1 q3.2 oo)))) mm_fu (y1, y2, y3, z)
noncomputable def lX4_goThrough_29 (s : Int32 × Int32 × Int32 × mm_S) : Option ((Int32 × Int32 × Int32 × mm_S) ⊕ (mm_S)) := if 4 ≤ s.2.2.1 then (sX4_nextFit 0 s.2.2.2).bind fun q2 => ((sX4_goThrough_53 s.1 s.2.1 q2.1 q2.2).map fun w => (Sum.inr w)) else if s.2.2.1 < 0 ∨ 4 ≤ Int32.toNatClampNeg s.2.2.1 then none else (sX4_goThrough_41 s.1 s.2.1 s.2.2.1 ((mm_ui s.2.2.2.1 10 (Int32.toNatClampNeg s.2.2.1) 0), s.2.2.2.2))
noncomputable def sX4_goThrough_29 (y1 : Int32) (y2 : Int32) (y3 : Int32) (z : mm_S) : Option (mm_S) := mm_wh (lX4_goThrough_29 ) mm_fu (y1, y2, y3, z)
theorem kX4_goThrough_29 (y1 : Int32) (y2 : Int32) (y3 : Int32) (z : mm_S) (oo : mm_R) : mm_Xs (sX4_goThrough_29 y1 y2 y3 z) (fun v => (fun v : mm_S => ((none, v) : mm_R)) v = oo) (fun n => eX4_goThrough_29 n y1 y2 y3 z) oo :=
  xs_wh (stp := lX4_goThrough_29 ) (o := oo) (E := (fun (s : Int32 × Int32 × Int32 × mm_S) n => eX4_goThrough_29 n s.1 s.2.1 s.2.2.1 s.2.2.2)) (C := (fun v => (fun v : mm_S => ((none, v) : mm_R)) v = oo)) (fun s => xs_row (fun n => qX4_goThrough_29 n s.1 s.2.1 s.2.2.1 s.2.2.2) (xs_if (xs_bd fun q2 => (xs_map (f := fun w => (Sum.inr w)) (kX4_goThrough_53 s.1 s.2.1 q2.1 q2.2 oo) (fun _ h => h))) (xs_if xs_n (kX4_goThrough_41 s.1 s.2.1 s.2.2.1 ((mm_ui s.2.2.2.1 10 (Int32.toNatClampNeg s.2.2.1) 0), s.2.2.2.2) oo)))) mm_fu (y1, y2, y3, z)
noncomputable def sX4_goThrough_25 (y1 : Int32) (z : mm_S) : Option (mm_S) := (sX4_goThrough_29 y1 0 0 z)
theorem kX4_goThrough_25 (y1 : Int32) (z : mm_S) (oo : mm_R) : mm_Xs (sX4_goThrough_25 y1 z) (fun v => (fun v : mm_S => ((none, v) : mm_R)) v = oo) (fun n => eX4_goThrough_25 n y1 z) oo :=
  xs_row (fun n => qX4_goThrough_25 n y1 z) (kX4_goThrough_29 y1 0 0 z oo)
noncomputable def sX4_goThrough_20 (y1 : Int32) (z : mm_S) : Option (mm_S) := (sX4_goThrough_25 y1 ((mm_ui z.1 0 13 (-1)), z.2))
theorem kX4_goThrough_20 (y1 : Int32) (z : mm_S) (oo : mm_R) : mm_Xs (sX4_goThrough_20 y1 z) (fun v => (fun v : mm_S => ((none, v) : mm_R)) v = oo) (fun n => eX4_goThrough_20 n y1 z) oo :=
  xs_row (fun n => qX4_goThrough_20 n y1 z) (kX4_goThrough_25 y1 ((mm_ui z.1 0 13 (-1)), z.2) oo)
noncomputable def sX4_goThrough_15 (y1 : Int32) (z : mm_S) : Option (mm_S) := (sX4_goThrough_20 y1 ((mm_ui z.1 0 12 (-1)), z.2))
theorem kX4_goThrough_15 (y1 : Int32) (z : mm_S) (oo : mm_R) : mm_Xs (sX4_goThrough_15 y1 z) (fun v => (fun v : mm_S => ((none, v) : mm_R)) v = oo) (fun n => eX4_goThrough_15 n y1 z) oo :=
  xs_row (fun n => qX4_goThrough_15 n y1 z) (kX4_goThrough_20 y1 ((mm_ui z.1 0 12 (-1)), z.2) oo)
noncomputable def sX4_goThrough_10 (y1 : Int32) (z : mm_S) : Option (mm_S) := (sX4_goThrough_15 y1 ((mm_ui z.1 0 11 (-1)), z.2))
theorem kX4_goThrough_10 (y1 : Int32) (z : mm_S) (oo : mm_R) : mm_Xs (sX4_goThrough_10 y1 z) (fun v => (fun v : mm_S => ((none, v) : mm_R)) v = oo) (fun n => eX4_goThrough_10 n y1 z) oo :=
  xs_row (fun n => qX4_goThrough_10 n y1 z) (kX4_goThrough_15 y1 ((mm_ui z.1 0 11 (-1)), z.2) oo)
noncomputable def sX4_goThrough_5 (y1 : Int32) (z : mm_S) : Option (mm_S) := (sX4_goThrough_10 y1 ((mm_ui z.1 0 10 0), z.2))
theorem kX4_goThrough_5 (y1 : Int32) (z : mm_S) (oo : mm_R) : mm_Xs (sX4_goThrough_5 y1 z) (fun v => (fun v : mm_S => ((none, v) : mm_R)) v = oo) (fun n => eX4_goThrough_5 n y1 z) oo :=
  xs_row (fun n => qX4_goThrough_5 n y1 z) (kX4_goThrough_10 y1 ((mm_ui z.1 0 10 0), z.2) oo)
noncomputable def sX4_goThrough_0  (z : mm_S) : Option (mm_S) := (sX4_mapNow  z).bind fun q1 => (sX4_goThrough_5 q1.1 q1.2)
theorem kX4_goThrough_0  (z : mm_S) (oo : mm_R) : mm_Xs (sX4_goThrough_0  z) (fun v => (fun v : mm_S => ((none, v) : mm_R)) v = oo) (fun n => eX4_goThrough_0 n  z) oo :=
  xs_row (fun n => qX4_goThrough_0 n z) (xs_bd fun q1 => (kX4_goThrough_5 q1.1 q1.2 oo))
noncomputable def sX4_goThrough  (z : mm_S) : Option (mm_S) := sX4_goThrough_0  z
theorem sp_X4_goThrough  (z : mm_S) (hk : ∀ v ∈ [mm_P 4 0], mm_ok 22 lyTM 22 17 v) (q : mm_S) (hq : sX4_goThrough  z = some q) : f_X4_goThrough [mm_P 4 0] z (none, q) := ⟨Nat.le_of_ble_eq_true rfl, kX4_goThrough_0  z _ q hq rfl⟩
noncomputable def clo_X4_goThrough (as : List mm_V) (z : mm_S) (kk : Option mm_V → mm_S → Option mm_R) : Option mm_R := mm_pr as fun t o0 as => bif Nat.beq t 4 then (match as with | [] => (sX4_goThrough z).bind fun q => kk none q | _ => none) else none
theorem cs_X4_goThrough : mm_cs lyTM 22 22 17 f_X4_goThrough clo_X4_goThrough := by
  intro as z K o hk h
  obtain ⟨t0, o0, r0, rfl, g0⟩ := mm_pr_e h
  obtain ⟨b0, k0⟩ := mm_bif_e g0
  obtain rfl := Nat.eq_of_beq_eq_true b0
  rcases r0 with _ | ⟨u, w⟩
  rotate_left
  · cases k0
  obtain rfl : o0 = 0 := ok4 (hk (mm_P 4 o0) (by simp))
  obtain ⟨q, hq, hq2⟩ := Option.bind_eq_some_iff.mp k0
  exact ⟨_, _, sp_X4_goThrough  z hk q hq, (fun v hv => by cases hv), hq2⟩
theorem sV_X4_goThrough {own : String} {R : Room} {ar : Nat → Nat} {k : Nat} (hlink : Cond.methodLink own k yX4_goThrough ∈ lw_gd ∨ ∃ host, (own, k, yX4_goThrough, host) ∈ nmA) (har : ar k = 1) (hr : 8 ≤ R.frames ∧ 186 ≤ R.locals) : mm_okV lyTM lyFA lenM snM 22 22 17 roM rsA nfA nmA [] own R ar k clo_X4_goThrough := by
  refine ⟨yX4_goThrough, cX4_goThrough, 8, none, rm_X4_goThrough, f_X4_goThrough, 4, 0, (RX4, TX4, 36), M_X4_goThrough, cs_X4_goThrough, hlink, ⟨wv_X4_goThrough, wz_X4_goThrough, wi_X4_goThrough, wc_X4_goThrough⟩, ⟨by decide +kernel, by decide +kernel, by decide +kernel⟩, har, ⟨rfl, rfl, by decide⟩, ?_, ⟨rfl, rfl, hr.1, hr.2⟩⟩
  intro as z K o h
  obtain ⟨t0, o0, r0, rfl, g0⟩ := mm_pr_e h
  obtain ⟨b0, k0⟩ := mm_bif_e g0
  obtain rfl := Nat.eq_of_beq_eq_true b0
  exact ⟨_, _, rfl⟩
-- X4_fits
noncomputable def lV_X4_fits : List (Nat × (List mm_V → mm_S → (Option mm_V → mm_S → Option mm_R) → Option mm_R)) := [(273, clo_X4_goThrough)]
noncomputable def mV_X4_fits (k : Nat) (as : List mm_V) (z : mm_S) (kk : Option mm_V → mm_S → Option mm_R) : Option mm_R := match mm_at lV_X4_fits k with
  | some f => f as z kk
  | none => none
noncomputable def arV_X4_fits (k : Nat) : Nat := (mm_at [(273, 1)] k).getD 0
noncomputable def lS_X4_fits : List (Nat × (List mm_V → mm_S → (Option mm_V → mm_S → Option mm_R) → Option mm_R)) := []
noncomputable def mS_X4_fits (k : Nat) (as : List mm_V) (z : mm_S) (kk : Option mm_V → mm_S → Option mm_R) : Option mm_R := match mm_at lS_X4_fits k with
  | some f => f as z kk
  | none => none
noncomputable def arS_X4_fits (k : Nat) : Nat := (mm_at [] k).getD 0
def ct_X4_fits : List (Nat × List Nat) := [(4, [0])]
noncomputable def go_X4_fits : Nat → mm_K := mm_go (fun k => mm_at flX4 k) (fun k => mm_at clX4 k) (fun k => mm_at glX4 k) arV_X4_fits arS_X4_fits mV_X4_fits mS_X4_fits lenM roM snM 1 0 tbX4_fits ct_X4_fits
noncomputable def eX4_fits_0 (n : Nat)  (z : mm_S) : Option mm_R := go_X4_fits n 0 [(0, mm_P 4 0)] [] z
noncomputable def eX4_fits_4 (n : Nat)  (z : mm_S) : Option mm_R := go_X4_fits n 4 [(0, mm_P 4 0)] [] z
set_option maxRecDepth 100000 in
theorem qX4_fits_0 (n : Nat)  (z : mm_S) : eX4_fits_0 (n + 1)  z = ((sX4_goThrough  z).bind fun q1 => eX4_fits_4 n  q1) := rfl
set_option maxRecDepth 100000 in
theorem qX4_fits_4 (n : Nat)  (z : mm_S) : eX4_fits_4 (n + 1)  z = (some (some (mm_I (z.1 0 10)), z)) := rfl
def rm_X4_fits : Room := { frames := 8, cells := 0, slots := 0, locals := 186 }
noncomputable def f_X4_fits (as : List mm_V) (z : mm_S) (o : mm_R) : Prop := (as.map mm_cat).sum ≤ 1 ∧ ∃ n, go_X4_fits n 0 (mm_ar 0 as) [] z = some o
theorem M_X4_fits : mm_M lyTM lyFA lenM snM 22 22 17 roM rsA nfA nmA [] yX4_fits cX4_fits 1 (some .int) rm_X4_fits f_X4_fits :=
  mm_met (rt := 0) (by decide +kernel) ⟨fun h => rfl, fun h => absurd h (by decide), fun h => absurd h (by decide), fun h => absurd h (by decide)⟩ tbX4_fits_ok hsnM okFX4 okLX4 (fun _ h => absurd h List.not_mem_nil) (fun _ _ _ _ => rfl) (fun _ _ _ _ => rfl) (List.forall_mem_cons.mpr ⟨sV_X4_goThrough (Or.inl lk_X4_273) rfl ⟨by decide, by decide⟩, fun _ h => absurd h List.not_mem_nil⟩) (fun _ h => absurd h List.not_mem_nil)
noncomputable def sX4_fits_4  (z : mm_S) : Option (Int32 × mm_S) := some ((z.1 0 10), z)
theorem kX4_fits_4  (z : mm_S) (oo : mm_R) : mm_Xs (sX4_fits_4  z) (fun v => (fun v : Int32 × mm_S => ((some (mm_I v.1), v.2) : mm_R)) v = oo) (fun n => eX4_fits_4 n  z) oo :=
  xs_row (fun n => qX4_fits_4 n z) (xs_v fun hc => ⟨0, congrArg some hc⟩)
noncomputable def sX4_fits_0  (z : mm_S) : Option (Int32 × mm_S) := (sX4_goThrough  z).bind fun q1 => (sX4_fits_4 q1)
theorem kX4_fits_0  (z : mm_S) (oo : mm_R) : mm_Xs (sX4_fits_0  z) (fun v => (fun v : Int32 × mm_S => ((some (mm_I v.1), v.2) : mm_R)) v = oo) (fun n => eX4_fits_0 n  z) oo :=
  xs_row (fun n => qX4_fits_0 n z) (xs_bd fun q1 => (kX4_fits_4 q1 oo))
noncomputable def sX4_fits  (z : mm_S) : Option (Int32 × mm_S) := sX4_fits_0  z
theorem sp_X4_fits  (z : mm_S) (hk : ∀ v ∈ [mm_P 4 0], mm_ok 22 lyTM 22 17 v) (q : Int32 × mm_S) (hq : sX4_fits  z = some q) : f_X4_fits [mm_P 4 0] z (some (mm_I q.1), q.2) := ⟨Nat.le_of_ble_eq_true rfl, kX4_fits_0  z _ q hq rfl⟩
noncomputable def clo_X4_fits (as : List mm_V) (z : mm_S) (kk : Option mm_V → mm_S → Option mm_R) : Option mm_R := mm_pr as fun t o0 as => bif Nat.beq t 4 then (match as with | [] => (sX4_fits z).bind fun q => kk (some (mm_I q.1)) q.2 | _ => none) else none
theorem cs_X4_fits : mm_cs lyTM 22 22 17 f_X4_fits clo_X4_fits := by
  intro as z K o hk h
  obtain ⟨t0, o0, r0, rfl, g0⟩ := mm_pr_e h
  obtain ⟨b0, k0⟩ := mm_bif_e g0
  obtain rfl := Nat.eq_of_beq_eq_true b0
  rcases r0 with _ | ⟨u, w⟩
  rotate_left
  · cases k0
  obtain rfl : o0 = 0 := ok4 (hk (mm_P 4 o0) (by simp))
  obtain ⟨q, hq, hq2⟩ := Option.bind_eq_some_iff.mp k0
  exact ⟨_, _, sp_X4_fits  z hk q hq, fun v hv => by cases hv; exact Or.inl ⟨_, rfl⟩, hq2⟩
theorem sV_X4_fits {own : String} {R : Room} {ar : Nat → Nat} {k : Nat} (hlink : Cond.methodLink own k yX4_fits ∈ lw_gd ∨ ∃ host, (own, k, yX4_fits, host) ∈ nmA) (har : ar k = 1) (hr : 9 ≤ R.frames ∧ 206 ≤ R.locals) : mm_okV lyTM lyFA lenM snM 22 22 17 roM rsA nfA nmA [] own R ar k clo_X4_fits := by
  refine ⟨yX4_fits, cX4_fits, 1, some .int, rm_X4_fits, f_X4_fits, 4, 0, (RX4, TX4, 36), M_X4_fits, cs_X4_fits, hlink, ⟨wv_X4_fits, wz_X4_fits, wi_X4_fits, wc_X4_fits⟩, ⟨by decide +kernel, by decide +kernel, by decide +kernel⟩, har, ⟨rfl, rfl, by decide⟩, ?_, ⟨rfl, rfl, hr.1, hr.2⟩⟩
  intro as z K o h
  obtain ⟨t0, o0, r0, rfl, g0⟩ := mm_pr_e h
  obtain ⟨b0, k0⟩ := mm_bif_e g0
  obtain rfl := Nat.eq_of_beq_eq_true b0
  exact ⟨_, _, rfl⟩
-- X4_map
noncomputable def lV_X4_map : List (Nat × (List mm_V → mm_S → (Option mm_V → mm_S → Option mm_R) → Option mm_R)) := [(124, clo_X4_finding), (189, clo_X4_told), (273, clo_X4_goThrough)]
noncomputable def mV_X4_map (k : Nat) (as : List mm_V) (z : mm_S) (kk : Option mm_V → mm_S → Option mm_R) : Option mm_R := match mm_at lV_X4_map k with
  | some f => f as z kk
  | none => none
noncomputable def arV_X4_map (k : Nat) : Nat := (mm_at [(124, 2), (189, 2), (273, 1)] k).getD 0
noncomputable def lS_X4_map : List (Nat × (List mm_V → mm_S → (Option mm_V → mm_S → Option mm_R) → Option mm_R)) := [(106, clo_X4_within)]
noncomputable def mS_X4_map (k : Nat) (as : List mm_V) (z : mm_S) (kk : Option mm_V → mm_S → Option mm_R) : Option mm_R := match mm_at lS_X4_map k with
  | some f => f as z kk
  | none => none
noncomputable def arS_X4_map (k : Nat) : Nat := (mm_at [(106, 3)] k).getD 0
def ct_X4_map : List (Nat × List Nat) := [(16, [0, 1]), (20, [0, 1])]
noncomputable def go_X4_map : Nat → mm_K := mm_go (fun k => mm_at flX4 k) (fun k => mm_at clX4 k) (fun k => mm_at glX4 k) arV_X4_map arS_X4_map mV_X4_map mS_X4_map lenM roM snM 2 0 tbX4_map ct_X4_map
noncomputable def eX4_map_0 (n : Nat)  (x1 : Int32) (z : mm_S) : Option mm_R := go_X4_map n 0 [(0, mm_P 4 0), (1, mm_I x1)] [] z
noncomputable def eX4_map_16 (n : Nat)  (y1 : Int32) (z : mm_S) : Option mm_R := go_X4_map n 16 [(0, mm_P 4 0), (1, mm_I y1)] [] z
noncomputable def eX4_map_20 (n : Nat)  (y1 : Int32) (z : mm_S) : Option mm_R := go_X4_map n 20 [(0, mm_P 4 0), (1, mm_I y1)] [] z
set_option maxRecDepth 100000 in
theorem qX4_map_0 (n : Nat)  (x1 : Int32) (z : mm_S) : eX4_map_0 (n + 1) x1 z = (if (pX4_within x1 0 2) = 0 then (sX4_finding (-1000001) z).bind fun q1 => some (some (mm_I q1.1), q1.2) else eX4_map_16 n x1 z) := rfl
set_option maxRecDepth 100000 in
theorem qX4_map_16 (n : Nat)  (y1 : Int32) (z : mm_S) : eX4_map_16 (n + 1) y1 z = ((sX4_goThrough  z).bind fun q2 => eX4_map_20 n y1 q2) := rfl
set_option maxRecDepth 100000 in
theorem qX4_map_20 (n : Nat)  (y1 : Int32) (z : mm_S) : eX4_map_20 (n + 1) y1 z = (if y1 = 0 then (sX4_told (z.1 0 11) z).bind fun q5 => some (some (mm_I q5.1), q5.2) else if y1 = 1 then (sX4_told (z.1 0 12) z).bind fun q4 => some (some (mm_I q4.1), q4.2) else (sX4_told (z.1 0 13) z).bind fun q3 => some (some (mm_I q3.1), q3.2)) := rfl
def rm_X4_map : Room := { frames := 8, cells := 0, slots := 0, locals := 186 }
noncomputable def f_X4_map (as : List mm_V) (z : mm_S) (o : mm_R) : Prop := (as.map mm_cat).sum ≤ 2 ∧ ∃ n, go_X4_map n 0 (mm_ar 0 as) [] z = some o
theorem M_X4_map : mm_M lyTM lyFA lenM snM 22 22 17 roM rsA nfA nmA [] yX4_map cX4_map 2 (some .int) rm_X4_map f_X4_map :=
  mm_met (rt := 0) (by decide +kernel) ⟨fun h => rfl, fun h => absurd h (by decide), fun h => absurd h (by decide), fun h => absurd h (by decide)⟩ tbX4_map_ok hsnM okFX4 okLX4 (fun _ h => absurd h List.not_mem_nil) (fun _ _ _ _ => rfl) (fun _ _ _ _ => rfl) (List.forall_mem_cons.mpr ⟨sV_X4_finding (Or.inl lk_X4_124) rfl ⟨by decide, by decide⟩, List.forall_mem_cons.mpr ⟨sV_X4_told (Or.inl lk_X4_189) rfl ⟨by decide, by decide⟩, List.forall_mem_cons.mpr ⟨sV_X4_goThrough (Or.inl lk_X4_273) rfl ⟨by decide, by decide⟩, fun _ h => absurd h List.not_mem_nil⟩⟩⟩) (List.forall_mem_cons.mpr ⟨sS_X4_within (Or.inl lk_X4_106) rfl ⟨by decide, by decide⟩, fun _ h => absurd h List.not_mem_nil⟩)
noncomputable def sX4_map_20 (y1 : Int32) (z : mm_S) : Option (Int32 × mm_S) := if y1 = 0 then (sX4_told (z.1 0 11) z).bind fun q5 => some (q5.1, q5.2) else if y1 = 1 then (sX4_told (z.1 0 12) z).bind fun q4 => some (q4.1, q4.2) else (sX4_told (z.1 0 13) z).bind fun q3 => some (q3.1, q3.2)
theorem kX4_map_20 (y1 : Int32) (z : mm_S) (oo : mm_R) : mm_Xs (sX4_map_20 y1 z) (fun v => (fun v : Int32 × mm_S => ((some (mm_I v.1), v.2) : mm_R)) v = oo) (fun n => eX4_map_20 n y1 z) oo :=
  xs_row (fun n => qX4_map_20 n y1 z) (xs_if (xs_bd fun q5 => (xs_v fun hc => ⟨0, congrArg some hc⟩)) (xs_if (xs_bd fun q4 => (xs_v fun hc => ⟨0, congrArg some hc⟩)) (xs_bd fun q3 => (xs_v fun hc => ⟨0, congrArg some hc⟩))))
noncomputable def sX4_map_16 (y1 : Int32) (z : mm_S) : Option (Int32 × mm_S) := (sX4_goThrough  z).bind fun q2 => (sX4_map_20 y1 q2)
theorem kX4_map_16 (y1 : Int32) (z : mm_S) (oo : mm_R) : mm_Xs (sX4_map_16 y1 z) (fun v => (fun v : Int32 × mm_S => ((some (mm_I v.1), v.2) : mm_R)) v = oo) (fun n => eX4_map_16 n y1 z) oo :=
  xs_row (fun n => qX4_map_16 n y1 z) (xs_bd fun q2 => (kX4_map_20 y1 q2 oo))
noncomputable def sX4_map_0 (x1 : Int32) (z : mm_S) : Option (Int32 × mm_S) := if (pX4_within x1 0 2) = 0 then (sX4_finding (-1000001) z).bind fun q1 => some (q1.1, q1.2) else (sX4_map_16 x1 z)
theorem kX4_map_0 (x1 : Int32) (z : mm_S) (oo : mm_R) : mm_Xs (sX4_map_0 x1 z) (fun v => (fun v : Int32 × mm_S => ((some (mm_I v.1), v.2) : mm_R)) v = oo) (fun n => eX4_map_0 n x1 z) oo :=
  xs_row (fun n => qX4_map_0 n x1 z) (xs_if (xs_bd fun q1 => (xs_v fun hc => ⟨0, congrArg some hc⟩)) (kX4_map_16 x1 z oo))
noncomputable def sX4_map (x1 : Int32) (z : mm_S) : Option (Int32 × mm_S) := sX4_map_0 x1 z
theorem sp_X4_map (x1 : Int32) (z : mm_S) (hk : ∀ v ∈ [mm_P 4 0, mm_I x1], mm_ok 22 lyTM 22 17 v) (q : Int32 × mm_S) (hq : sX4_map x1 z = some q) : f_X4_map [mm_P 4 0, mm_I x1] z (some (mm_I q.1), q.2) := ⟨Nat.le_of_ble_eq_true rfl, kX4_map_0 x1 z _ q hq rfl⟩
noncomputable def clo_X4_map (as : List mm_V) (z : mm_S) (kk : Option mm_V → mm_S → Option mm_R) : Option mm_R := mm_pr as fun t o0 as => bif Nat.beq t 4 then mm_pi as fun a1 as => (match as with | [] => (sX4_map a1 z).bind fun q => kk (some (mm_I q.1)) q.2 | _ => none) else none
theorem cs_X4_map : mm_cs lyTM 22 22 17 f_X4_map clo_X4_map := by
  intro as z K o hk h
  obtain ⟨t0, o0, r0, rfl, g0⟩ := mm_pr_e h
  obtain ⟨b0, k0⟩ := mm_bif_e g0
  obtain rfl := Nat.eq_of_beq_eq_true b0
  obtain ⟨a1, r1, rfl, g1⟩ := mm_pi_e k0
  rcases r1 with _ | ⟨u, w⟩
  rotate_left
  · cases g1
  obtain rfl : o0 = 0 := ok4 (hk (mm_P 4 o0) (by simp))
  obtain ⟨q, hq, hq2⟩ := Option.bind_eq_some_iff.mp g1
  exact ⟨_, _, sp_X4_map a1 z hk q hq, fun v hv => by cases hv; exact Or.inl ⟨_, rfl⟩, hq2⟩
theorem sV_X4_map {own : String} {R : Room} {ar : Nat → Nat} {k : Nat} (hlink : Cond.methodLink own k yX4_map ∈ lw_gd ∨ ∃ host, (own, k, yX4_map, host) ∈ nmA) (har : ar k = 2) (hr : 9 ≤ R.frames ∧ 207 ≤ R.locals) : mm_okV lyTM lyFA lenM snM 22 22 17 roM rsA nfA nmA [] own R ar k clo_X4_map := by
  refine ⟨yX4_map, cX4_map, 2, some .int, rm_X4_map, f_X4_map, 4, 1, (RX4, TX4, 36), M_X4_map, cs_X4_map, hlink, ⟨wv_X4_map, wz_X4_map, wi_X4_map, wc_X4_map⟩, ⟨by decide +kernel, by decide +kernel, by decide +kernel⟩, har, ⟨rfl, rfl, by decide⟩, ?_, ⟨rfl, rfl, hr.1, hr.2⟩⟩
  intro as z K o h
  obtain ⟨t0, o0, r0, rfl, g0⟩ := mm_pr_e h
  obtain ⟨b0, k0⟩ := mm_bif_e g0
  obtain rfl := Nat.eq_of_beq_eq_true b0
  exact ⟨_, _, rfl⟩
-- X4_may
noncomputable def lV_X4_may : List (Nat × (List mm_V → mm_S → (Option mm_V → mm_S → Option mm_R) → Option mm_R)) := [(124, clo_X4_finding), (273, clo_X4_goThrough)]
noncomputable def mV_X4_may (k : Nat) (as : List mm_V) (z : mm_S) (kk : Option mm_V → mm_S → Option mm_R) : Option mm_R := match mm_at lV_X4_may k with
  | some f => f as z kk
  | none => none
noncomputable def arV_X4_may (k : Nat) : Nat := (mm_at [(124, 2), (273, 1)] k).getD 0
noncomputable def lS_X4_may : List (Nat × (List mm_V → mm_S → (Option mm_V → mm_S → Option mm_R) → Option mm_R)) := [(106, clo_X4_within)]
noncomputable def mS_X4_may (k : Nat) (as : List mm_V) (z : mm_S) (kk : Option mm_V → mm_S → Option mm_R) : Option mm_R := match mm_at lS_X4_may k with
  | some f => f as z kk
  | none => none
noncomputable def arS_X4_may (k : Nat) : Nat := (mm_at [(106, 3)] k).getD 0
def ct_X4_may : List (Nat × List Nat) := [(23, [0, 1]), (27, [0, 1])]
noncomputable def go_X4_may : Nat → mm_K := mm_go (fun k => mm_at flX4 k) (fun k => mm_at clX4 k) (fun k => mm_at glX4 k) arV_X4_may arS_X4_may mV_X4_may mS_X4_may lenM roM snM 2 0 tbX4_may ct_X4_may
noncomputable def eX4_may_0 (n : Nat)  (x1 : Int32) (z : mm_S) : Option mm_R := go_X4_may n 0 [(0, mm_P 4 0), (1, mm_I x1)] [] z
noncomputable def eX4_may_23 (n : Nat)  (y1 : Int32) (z : mm_S) : Option mm_R := go_X4_may n 23 [(0, mm_P 4 0), (1, mm_I y1)] [] z
noncomputable def eX4_may_27 (n : Nat)  (y1 : Int32) (z : mm_S) : Option mm_R := go_X4_may n 27 [(0, mm_P 4 0), (1, mm_I y1)] [] z
set_option maxRecDepth 100000 in
theorem qX4_may_0 (n : Nat)  (x1 : Int32) (z : mm_S) : eX4_may_0 (n + 1) x1 z = (if (pX4_within x1 0 ((z.1 1 3) - 1)) = 0 then (sX4_finding (-1000001) z).bind fun q1 => some (some (mm_I q1.1), q1.2) else eX4_may_23 n x1 z) := rfl
set_option maxRecDepth 100000 in
theorem qX4_may_23 (n : Nat)  (y1 : Int32) (z : mm_S) : eX4_may_23 (n + 1) y1 z = ((sX4_goThrough  z).bind fun q2 => eX4_may_27 n y1 q2) := rfl
set_option maxRecDepth 100000 in
theorem qX4_may_27 (n : Nat)  (y1 : Int32) (z : mm_S) : eX4_may_27 (n + 1) y1 z = (if y1 < 0 ∨ 4 ≤ Int32.toNatClampNeg y1 then none else some (some (mm_I (z.1 10 (Int32.toNatClampNeg y1))), z)) := rfl
def rm_X4_may : Room := { frames := 8, cells := 0, slots := 0, locals := 186 }
noncomputable def f_X4_may (as : List mm_V) (z : mm_S) (o : mm_R) : Prop := (as.map mm_cat).sum ≤ 2 ∧ ∃ n, go_X4_may n 0 (mm_ar 0 as) [] z = some o
theorem M_X4_may : mm_M lyTM lyFA lenM snM 22 22 17 roM rsA nfA nmA [] yX4_may cX4_may 2 (some .int) rm_X4_may f_X4_may :=
  mm_met (rt := 0) (by decide +kernel) ⟨fun h => rfl, fun h => absurd h (by decide), fun h => absurd h (by decide), fun h => absurd h (by decide)⟩ tbX4_may_ok hsnM okFX4 okLX4 (fun _ h => absurd h List.not_mem_nil) (fun _ _ _ _ => rfl) (fun _ _ _ _ => rfl) (List.forall_mem_cons.mpr ⟨sV_X4_finding (Or.inl lk_X4_124) rfl ⟨by decide, by decide⟩, List.forall_mem_cons.mpr ⟨sV_X4_goThrough (Or.inl lk_X4_273) rfl ⟨by decide, by decide⟩, fun _ h => absurd h List.not_mem_nil⟩⟩) (List.forall_mem_cons.mpr ⟨sS_X4_within (Or.inl lk_X4_106) rfl ⟨by decide, by decide⟩, fun _ h => absurd h List.not_mem_nil⟩)
noncomputable def sX4_may_27 (y1 : Int32) (z : mm_S) : Option (Int32 × mm_S) := if y1 < 0 ∨ 4 ≤ Int32.toNatClampNeg y1 then none else some ((z.1 10 (Int32.toNatClampNeg y1)), z)
theorem kX4_may_27 (y1 : Int32) (z : mm_S) (oo : mm_R) : mm_Xs (sX4_may_27 y1 z) (fun v => (fun v : Int32 × mm_S => ((some (mm_I v.1), v.2) : mm_R)) v = oo) (fun n => eX4_may_27 n y1 z) oo :=
  xs_row (fun n => qX4_may_27 n y1 z) (xs_if xs_n (xs_v fun hc => ⟨0, congrArg some hc⟩))
noncomputable def sX4_may_23 (y1 : Int32) (z : mm_S) : Option (Int32 × mm_S) := (sX4_goThrough  z).bind fun q2 => (sX4_may_27 y1 q2)
theorem kX4_may_23 (y1 : Int32) (z : mm_S) (oo : mm_R) : mm_Xs (sX4_may_23 y1 z) (fun v => (fun v : Int32 × mm_S => ((some (mm_I v.1), v.2) : mm_R)) v = oo) (fun n => eX4_may_23 n y1 z) oo :=
  xs_row (fun n => qX4_may_23 n y1 z) (xs_bd fun q2 => (kX4_may_27 y1 q2 oo))
noncomputable def sX4_may_0 (x1 : Int32) (z : mm_S) : Option (Int32 × mm_S) := if (pX4_within x1 0 ((z.1 1 3) - 1)) = 0 then (sX4_finding (-1000001) z).bind fun q1 => some (q1.1, q1.2) else (sX4_may_23 x1 z)
theorem kX4_may_0 (x1 : Int32) (z : mm_S) (oo : mm_R) : mm_Xs (sX4_may_0 x1 z) (fun v => (fun v : Int32 × mm_S => ((some (mm_I v.1), v.2) : mm_R)) v = oo) (fun n => eX4_may_0 n x1 z) oo :=
  xs_row (fun n => qX4_may_0 n x1 z) (xs_if (xs_bd fun q1 => (xs_v fun hc => ⟨0, congrArg some hc⟩)) (kX4_may_23 x1 z oo))
noncomputable def sX4_may (x1 : Int32) (z : mm_S) : Option (Int32 × mm_S) := sX4_may_0 x1 z
theorem sp_X4_may (x1 : Int32) (z : mm_S) (hk : ∀ v ∈ [mm_P 4 0, mm_I x1], mm_ok 22 lyTM 22 17 v) (q : Int32 × mm_S) (hq : sX4_may x1 z = some q) : f_X4_may [mm_P 4 0, mm_I x1] z (some (mm_I q.1), q.2) := ⟨Nat.le_of_ble_eq_true rfl, kX4_may_0 x1 z _ q hq rfl⟩
noncomputable def clo_X4_may (as : List mm_V) (z : mm_S) (kk : Option mm_V → mm_S → Option mm_R) : Option mm_R := mm_pr as fun t o0 as => bif Nat.beq t 4 then mm_pi as fun a1 as => (match as with | [] => (sX4_may a1 z).bind fun q => kk (some (mm_I q.1)) q.2 | _ => none) else none
theorem cs_X4_may : mm_cs lyTM 22 22 17 f_X4_may clo_X4_may := by
  intro as z K o hk h
  obtain ⟨t0, o0, r0, rfl, g0⟩ := mm_pr_e h
  obtain ⟨b0, k0⟩ := mm_bif_e g0
  obtain rfl := Nat.eq_of_beq_eq_true b0
  obtain ⟨a1, r1, rfl, g1⟩ := mm_pi_e k0
  rcases r1 with _ | ⟨u, w⟩
  rotate_left
  · cases g1
  obtain rfl : o0 = 0 := ok4 (hk (mm_P 4 o0) (by simp))
  obtain ⟨q, hq, hq2⟩ := Option.bind_eq_some_iff.mp g1
  exact ⟨_, _, sp_X4_may a1 z hk q hq, fun v hv => by cases hv; exact Or.inl ⟨_, rfl⟩, hq2⟩
theorem sV_X4_may {own : String} {R : Room} {ar : Nat → Nat} {k : Nat} (hlink : Cond.methodLink own k yX4_may ∈ lw_gd ∨ ∃ host, (own, k, yX4_may, host) ∈ nmA) (har : ar k = 2) (hr : 9 ≤ R.frames ∧ 207 ≤ R.locals) : mm_okV lyTM lyFA lenM snM 22 22 17 roM rsA nfA nmA [] own R ar k clo_X4_may := by
  refine ⟨yX4_may, cX4_may, 2, some .int, rm_X4_may, f_X4_may, 4, 1, (RX4, TX4, 36), M_X4_may, cs_X4_may, hlink, ⟨wv_X4_may, wz_X4_may, wi_X4_may, wc_X4_may⟩, ⟨by decide +kernel, by decide +kernel, by decide +kernel⟩, har, ⟨rfl, rfl, by decide⟩, ?_, ⟨rfl, rfl, hr.1, hr.2⟩⟩
  intro as z K o h
  obtain ⟨t0, o0, r0, rfl, g0⟩ := mm_pr_e h
  obtain ⟨b0, k0⟩ := mm_bif_e g0
  obtain rfl := Nat.eq_of_beq_eq_true b0
  exact ⟨_, _, rfl⟩
-- X4_lays
noncomputable def lV_X4_lays : List (Nat × (List mm_V → mm_S → (Option mm_V → mm_S → Option mm_R) → Option mm_R)) := [(124, clo_X4_finding), (247, clo_X4_maps), (250, clo_X4_lay), (254, clo_X4_mapNow)]
noncomputable def mV_X4_lays (k : Nat) (as : List mm_V) (z : mm_S) (kk : Option mm_V → mm_S → Option mm_R) : Option mm_R := match mm_at lV_X4_lays k with
  | some f => f as z kk
  | none => none
noncomputable def arV_X4_lays (k : Nat) : Nat := (mm_at [(124, 2), (247, 1), (250, 2), (254, 1)] k).getD 0
noncomputable def lS_X4_lays : List (Nat × (List mm_V → mm_S → (Option mm_V → mm_S → Option mm_R) → Option mm_R)) := [(106, clo_X4_within)]
noncomputable def mS_X4_lays (k : Nat) (as : List mm_V) (z : mm_S) (kk : Option mm_V → mm_S → Option mm_R) : Option mm_R := match mm_at lS_X4_lays k with
  | some f => f as z kk
  | none => none
noncomputable def arS_X4_lays (k : Nat) : Nat := (mm_at [(106, 3)] k).getD 0
def ct_X4_lays : List (Nat × List Nat) := [(14, [0]), (21, [0, 1]), (37, [0, 1]), (42, [0, 1, 2]), (47, [2])]
noncomputable def go_X4_lays : Nat → mm_K := mm_go (fun k => mm_at flX4 k) (fun k => mm_at clX4 k) (fun k => mm_at glX4 k) arV_X4_lays arS_X4_lays mV_X4_lays mS_X4_lays lenM roM snM 3 0 tbX4_lays ct_X4_lays
noncomputable def eX4_lays_0 (n : Nat)  (x1 : Int32) (z : mm_S) : Option mm_R := go_X4_lays n 0 [(0, mm_P 4 0), (1, mm_I x1)] [] z
noncomputable def eX4_lays_21 (n : Nat)  (y1 : Int32) (z : mm_S) : Option mm_R := go_X4_lays n 21 [(0, mm_P 4 0), (1, mm_I y1)] [] z
noncomputable def eX4_lays_14 (n : Nat)  (z : mm_S) : Option mm_R := go_X4_lays n 14 [(0, mm_P 4 0)] [] z
noncomputable def eX4_lays_37 (n : Nat)  (y1 : Int32) (z : mm_S) : Option mm_R := go_X4_lays n 37 [(0, mm_P 4 0), (1, mm_I y1)] [] z
noncomputable def eX4_lays_42 (n : Nat)  (y1 : Int32) (y2 : Int32) (z : mm_S) : Option mm_R := go_X4_lays n 42 [(0, mm_P 4 0), (1, mm_I y1), (2, mm_I y2)] [] z
noncomputable def eX4_lays_47 (n : Nat) (y2 : Int32) (z : mm_S) : Option mm_R := go_X4_lays n 47 [(2, mm_I y2)] [] z
set_option maxRecDepth 100000 in
theorem qX4_lays_0 (n : Nat)  (x1 : Int32) (z : mm_S) : eX4_lays_0 (n + 1) x1 z = ((sX4_maps  z).bind fun q1 => if (pX4_within x1 0 (q1.1 - 1)) = 0 then eX4_lays_14 n  q1.2 else eX4_lays_21 n x1 q1.2) := rfl
set_option maxRecDepth 100000 in
theorem qX4_lays_21 (n : Nat)  (y1 : Int32) (z : mm_S) : eX4_lays_21 (n + 1) y1 z = (if (z.1 1 3) = 0 then (sX4_finding (-1000005) z).bind fun q2 => some (some (mm_I q2.1), q2.2) else eX4_lays_37 n y1 z) := rfl
set_option maxRecDepth 100000 in
theorem qX4_lays_14 (n : Nat)  (z : mm_S) : eX4_lays_14 (n + 1)  z = ((sX4_finding (-1000001) z).bind fun q3 => some (some (mm_I q3.1), q3.2)) := rfl
set_option maxRecDepth 100000 in
theorem qX4_lays_37 (n : Nat)  (y1 : Int32) (z : mm_S) : eX4_lays_37 (n + 1) y1 z = ((sX4_mapNow  z).bind fun q4 => eX4_lays_42 n y1 q4.1 q4.2) := rfl
set_option maxRecDepth 100000 in
theorem qX4_lays_42 (n : Nat)  (y1 : Int32) (y2 : Int32) (z : mm_S) : eX4_lays_42 (n + 1) y1 y2 z = ((sX4_lay y1 z).bind fun q5 => eX4_lays_47 n y2 q5) := rfl
set_option maxRecDepth 100000 in
theorem qX4_lays_47 (n : Nat) (y2 : Int32) (z : mm_S) : eX4_lays_47 (n + 1) y2 z = (some (some (mm_I y2), z)) := rfl
def rm_X4_lays : Room := { frames := 2, cells := 0, slots := 0, locals := 43 }
noncomputable def f_X4_lays (as : List mm_V) (z : mm_S) (o : mm_R) : Prop := (as.map mm_cat).sum ≤ 3 ∧ ∃ n, go_X4_lays n 0 (mm_ar 0 as) [] z = some o
theorem M_X4_lays : mm_M lyTM lyFA lenM snM 22 22 17 roM rsA nfA nmA [] yX4_lays cX4_lays 3 (some .int) rm_X4_lays f_X4_lays :=
  mm_met (rt := 0) (by decide +kernel) ⟨fun h => rfl, fun h => absurd h (by decide), fun h => absurd h (by decide), fun h => absurd h (by decide)⟩ tbX4_lays_ok hsnM okFX4 okLX4 (fun _ h => absurd h List.not_mem_nil) (fun _ _ _ _ => rfl) (fun _ _ _ _ => rfl) (List.forall_mem_cons.mpr ⟨sV_X4_finding (Or.inl lk_X4_124) rfl ⟨by decide, by decide⟩, List.forall_mem_cons.mpr ⟨sV_X4_maps (Or.inl lk_X4_247) rfl ⟨by decide, by decide⟩, List.forall_mem_cons.mpr ⟨sV_X4_lay (Or.inl lk_X4_250) rfl ⟨by decide, by decide⟩, List.forall_mem_cons.mpr ⟨sV_X4_mapNow (Or.inl lk_X4_254) rfl ⟨by decide, by decide⟩, fun _ h => absurd h List.not_mem_nil⟩⟩⟩⟩) (List.forall_mem_cons.mpr ⟨sS_X4_within (Or.inl lk_X4_106) rfl ⟨by decide, by decide⟩, fun _ h => absurd h List.not_mem_nil⟩)
noncomputable def sX4_lays_14  (z : mm_S) : Option (Int32 × mm_S) := (sX4_finding (-1000001) z).bind fun q3 => some (q3.1, q3.2)
theorem kX4_lays_14  (z : mm_S) (oo : mm_R) : mm_Xs (sX4_lays_14  z) (fun v => (fun v : Int32 × mm_S => ((some (mm_I v.1), v.2) : mm_R)) v = oo) (fun n => eX4_lays_14 n  z) oo :=
  xs_row (fun n => qX4_lays_14 n z) (xs_bd fun q3 => (xs_v fun hc => ⟨0, congrArg some hc⟩))
noncomputable def sX4_lays_47 (y2 : Int32) (z : mm_S) : Option (Int32 × mm_S) := some (y2, z)
theorem kX4_lays_47 (y2 : Int32) (z : mm_S) (oo : mm_R) : mm_Xs (sX4_lays_47 y2 z) (fun v => (fun v : Int32 × mm_S => ((some (mm_I v.1), v.2) : mm_R)) v = oo) (fun n => eX4_lays_47 n y2 z) oo :=
  xs_row (fun n => qX4_lays_47 n y2 z) (xs_v fun hc => ⟨0, congrArg some hc⟩)
noncomputable def sX4_lays_42 (y1 : Int32) (y2 : Int32) (z : mm_S) : Option (Int32 × mm_S) := (sX4_lay y1 z).bind fun q5 => (sX4_lays_47 y2 q5)
theorem kX4_lays_42 (y1 : Int32) (y2 : Int32) (z : mm_S) (oo : mm_R) : mm_Xs (sX4_lays_42 y1 y2 z) (fun v => (fun v : Int32 × mm_S => ((some (mm_I v.1), v.2) : mm_R)) v = oo) (fun n => eX4_lays_42 n y1 y2 z) oo :=
  xs_row (fun n => qX4_lays_42 n y1 y2 z) (xs_bd fun q5 => (kX4_lays_47 y2 q5 oo))
noncomputable def sX4_lays_37 (y1 : Int32) (z : mm_S) : Option (Int32 × mm_S) := (sX4_mapNow  z).bind fun q4 => (sX4_lays_42 y1 q4.1 q4.2)
theorem kX4_lays_37 (y1 : Int32) (z : mm_S) (oo : mm_R) : mm_Xs (sX4_lays_37 y1 z) (fun v => (fun v : Int32 × mm_S => ((some (mm_I v.1), v.2) : mm_R)) v = oo) (fun n => eX4_lays_37 n y1 z) oo :=
  xs_row (fun n => qX4_lays_37 n y1 z) (xs_bd fun q4 => (kX4_lays_42 y1 q4.1 q4.2 oo))
noncomputable def sX4_lays_21 (y1 : Int32) (z : mm_S) : Option (Int32 × mm_S) := if (z.1 1 3) = 0 then (sX4_finding (-1000005) z).bind fun q2 => some (q2.1, q2.2) else (sX4_lays_37 y1 z)
theorem kX4_lays_21 (y1 : Int32) (z : mm_S) (oo : mm_R) : mm_Xs (sX4_lays_21 y1 z) (fun v => (fun v : Int32 × mm_S => ((some (mm_I v.1), v.2) : mm_R)) v = oo) (fun n => eX4_lays_21 n y1 z) oo :=
  xs_row (fun n => qX4_lays_21 n y1 z) (xs_if (xs_bd fun q2 => (xs_v fun hc => ⟨0, congrArg some hc⟩)) (kX4_lays_37 y1 z oo))
noncomputable def sX4_lays_0 (x1 : Int32) (z : mm_S) : Option (Int32 × mm_S) := (sX4_maps  z).bind fun q1 => if (pX4_within x1 0 (q1.1 - 1)) = 0 then (sX4_lays_14 q1.2) else (sX4_lays_21 x1 q1.2)
theorem kX4_lays_0 (x1 : Int32) (z : mm_S) (oo : mm_R) : mm_Xs (sX4_lays_0 x1 z) (fun v => (fun v : Int32 × mm_S => ((some (mm_I v.1), v.2) : mm_R)) v = oo) (fun n => eX4_lays_0 n x1 z) oo :=
  xs_row (fun n => qX4_lays_0 n x1 z) (xs_bd fun q1 => (xs_if (kX4_lays_14 q1.2 oo) (kX4_lays_21 x1 q1.2 oo)))
noncomputable def sX4_lays (x1 : Int32) (z : mm_S) : Option (Int32 × mm_S) := sX4_lays_0 x1 z
theorem sp_X4_lays (x1 : Int32) (z : mm_S) (hk : ∀ v ∈ [mm_P 4 0, mm_I x1], mm_ok 22 lyTM 22 17 v) (q : Int32 × mm_S) (hq : sX4_lays x1 z = some q) : f_X4_lays [mm_P 4 0, mm_I x1] z (some (mm_I q.1), q.2) := ⟨Nat.le_of_ble_eq_true rfl, kX4_lays_0 x1 z _ q hq rfl⟩
noncomputable def clo_X4_lays (as : List mm_V) (z : mm_S) (kk : Option mm_V → mm_S → Option mm_R) : Option mm_R := mm_pr as fun t o0 as => bif Nat.beq t 4 then mm_pi as fun a1 as => (match as with | [] => (sX4_lays a1 z).bind fun q => kk (some (mm_I q.1)) q.2 | _ => none) else none
theorem cs_X4_lays : mm_cs lyTM 22 22 17 f_X4_lays clo_X4_lays := by
  intro as z K o hk h
  obtain ⟨t0, o0, r0, rfl, g0⟩ := mm_pr_e h
  obtain ⟨b0, k0⟩ := mm_bif_e g0
  obtain rfl := Nat.eq_of_beq_eq_true b0
  obtain ⟨a1, r1, rfl, g1⟩ := mm_pi_e k0
  rcases r1 with _ | ⟨u, w⟩
  rotate_left
  · cases g1
  obtain rfl : o0 = 0 := ok4 (hk (mm_P 4 o0) (by simp))
  obtain ⟨q, hq, hq2⟩ := Option.bind_eq_some_iff.mp g1
  exact ⟨_, _, sp_X4_lays a1 z hk q hq, fun v hv => by cases hv; exact Or.inl ⟨_, rfl⟩, hq2⟩
theorem sV_X4_lays {own : String} {R : Room} {ar : Nat → Nat} {k : Nat} (hlink : Cond.methodLink own k yX4_lays ∈ lw_gd ∨ ∃ host, (own, k, yX4_lays, host) ∈ nmA) (har : ar k = 2) (hr : 3 ≤ R.frames ∧ 65 ≤ R.locals) : mm_okV lyTM lyFA lenM snM 22 22 17 roM rsA nfA nmA [] own R ar k clo_X4_lays := by
  refine ⟨yX4_lays, cX4_lays, 3, some .int, rm_X4_lays, f_X4_lays, 4, 1, (RX4, TX4, 36), M_X4_lays, cs_X4_lays, hlink, ⟨wv_X4_lays, wz_X4_lays, wi_X4_lays, wc_X4_lays⟩, ⟨by decide +kernel, by decide +kernel, by decide +kernel⟩, har, ⟨rfl, rfl, by decide⟩, ?_, ⟨rfl, rfl, hr.1, hr.2⟩⟩
  intro as z K o h
  obtain ⟨t0, o0, r0, rfl, g0⟩ := mm_pr_e h
  obtain ⟨b0, k0⟩ := mm_bif_e g0
  obtain rfl := Nat.eq_of_beq_eq_true b0
  exact ⟨_, _, rfl⟩
-- X4_unlike
noncomputable def lV_X4_unlike : List (Nat × (List mm_V → mm_S → (Option mm_V → mm_S → Option mm_R) → Option mm_R)) := [(139, clo_X4_crewIs), (186, clo_X4_timeOf), (247, clo_X4_maps), (250, clo_X4_lay), (254, clo_X4_mapNow), (270, clo_X4_nextFit)]
noncomputable def mV_X4_unlike (k : Nat) (as : List mm_V) (z : mm_S) (kk : Option mm_V → mm_S → Option mm_R) : Option mm_R := match mm_at lV_X4_unlike k with
  | some f => f as z kk
  | none => none
noncomputable def arV_X4_unlike (k : Nat) : Nat := (mm_at [(139, 3), (186, 3), (247, 1), (250, 2), (254, 1), (270, 2)] k).getD 0
noncomputable def lS_X4_unlike : List (Nat × (List mm_V → mm_S → (Option mm_V → mm_S → Option mm_R) → Option mm_R)) := [(202, mm_mn)]
noncomputable def mS_X4_unlike (k : Nat) (as : List mm_V) (z : mm_S) (kk : Option mm_V → mm_S → Option mm_R) : Option mm_R := match mm_at lS_X4_unlike k with
  | some f => f as z kk
  | none => none
noncomputable def arS_X4_unlike (k : Nat) : Nat := (mm_at [(202, 2)] k).getD 0
def ct_X4_unlike : List (Nat × List Nat) := [(5, [0, 1, 2, 3]), (11, [0, 1, 2, 3, 4, 5]), (27, [0, 1, 2, 3, 4, 5]), (40, [0, 1, 2, 3, 4, 5]), (49, [0, 1, 2, 3, 4, 5]), (68, [0, 1, 2, 3, 4, 5, 6]), (96, [0, 1, 2, 3, 4, 5]), (106, [0, 1, 2, 3, 4, 5]), (114, [4])]
noncomputable def go_X4_unlike : Nat → mm_K := mm_go (fun k => mm_at flX4 k) (fun k => mm_at clX4 k) (fun k => mm_at glX4 k) arV_X4_unlike arS_X4_unlike mV_X4_unlike mS_X4_unlike lenM roM snM 7 0 tbX4_unlike ct_X4_unlike
noncomputable def eX4_unlike_0 (n : Nat)  (x1 : Int32) (x2 : Int32) (z : mm_S) : Option mm_R := go_X4_unlike n 0 [(0, mm_P 4 0), (1, mm_I x1), (2, mm_I x2)] [] z
noncomputable def eX4_unlike_5 (n : Nat)  (y1 : Int32) (y2 : Int32) (y3 : Int32) (z : mm_S) : Option mm_R := go_X4_unlike n 5 [(0, mm_P 4 0), (1, mm_I y1), (2, mm_I y2), (3, mm_I y3)] [] z
noncomputable def eX4_unlike_11 (n : Nat)  (y1 : Int32) (y2 : Int32) (y3 : Int32) (y4 : Int32) (y5 : Int32) (z : mm_S) : Option mm_R := go_X4_unlike n 11 [(0, mm_P 4 0), (1, mm_I y1), (2, mm_I y2), (3, mm_I y3), (4, mm_I y4), (5, mm_I y5)] [] z
noncomputable def eX4_unlike_40 (n : Nat)  (y1 : Int32) (y2 : Int32) (y3 : Int32) (y4 : Int32) (y5 : Int32) (z : mm_S) : Option mm_R := go_X4_unlike n 40 [(0, mm_P 4 0), (1, mm_I y1), (2, mm_I y2), (3, mm_I y3), (4, mm_I y4), (5, mm_I y5)] [] z
noncomputable def eX4_unlike_27 (n : Nat)  (y1 : Int32) (y2 : Int32) (y3 : Int32) (y4 : Int32) (y5 : Int32) (z : mm_S) : Option mm_R := go_X4_unlike n 27 [(0, mm_P 4 0), (1, mm_I y1), (2, mm_I y2), (3, mm_I y3), (4, mm_I y4), (5, mm_I y5)] [] z
noncomputable def eX4_unlike_114 (n : Nat) (y4 : Int32) (z : mm_S) : Option mm_R := go_X4_unlike n 114 [(4, mm_I y4)] [] z
noncomputable def eX4_unlike_49 (n : Nat)  (y1 : Int32) (y2 : Int32) (y3 : Int32) (y4 : Int32) (y5 : Int32) (z : mm_S) : Option mm_R := go_X4_unlike n 49 [(0, mm_P 4 0), (1, mm_I y1), (2, mm_I y2), (3, mm_I y3), (4, mm_I y4), (5, mm_I y5)] [] z
noncomputable def eX4_unlike_68 (n : Nat)  (y1 : Int32) (y2 : Int32) (y3 : Int32) (y4 : Int32) (y5 : Int32) (y6 : Int32) (z : mm_S) : Option mm_R := go_X4_unlike n 68 [(0, mm_P 4 0), (1, mm_I y1), (2, mm_I y2), (3, mm_I y3), (4, mm_I y4), (5, mm_I y5), (6, mm_I y6)] [] z
noncomputable def eX4_unlike_96 (n : Nat)  (y1 : Int32) (y2 : Int32) (y3 : Int32) (y4 : Int32) (y5 : Int32) (z : mm_S) : Option mm_R := go_X4_unlike n 96 [(0, mm_P 4 0), (1, mm_I y1), (2, mm_I y2), (3, mm_I y3), (4, mm_I y4), (5, mm_I y5)] [] z
noncomputable def eX4_unlike_106 (n : Nat)  (y1 : Int32) (y2 : Int32) (y3 : Int32) (y4 : Int32) (y5 : Int32) (z : mm_S) : Option mm_R := go_X4_unlike n 106 [(0, mm_P 4 0), (1, mm_I y1), (2, mm_I y2), (3, mm_I y3), (4, mm_I y4), (5, mm_I y5)] [] z
set_option maxRecDepth 100000 in
theorem qX4_unlike_0 (n : Nat)  (x1 : Int32) (x2 : Int32) (z : mm_S) : eX4_unlike_0 (n + 1) x1 x2 z = ((sX4_mapNow  z).bind fun q1 => eX4_unlike_5 n x1 x2 q1.1 q1.2) := rfl
set_option maxRecDepth 100000 in
theorem qX4_unlike_5 (n : Nat)  (y1 : Int32) (y2 : Int32) (y3 : Int32) (z : mm_S) : eX4_unlike_5 (n + 1) y1 y2 y3 z = (eX4_unlike_11 n y1 y2 y3 0 0 z) := rfl
set_option maxRecDepth 100000 in
theorem qX4_unlike_11 (n : Nat)  (y1 : Int32) (y2 : Int32) (y3 : Int32) (y4 : Int32) (y5 : Int32) (z : mm_S) : eX4_unlike_11 (n + 1) y1 y2 y3 y4 y5 z = (if 300 ≤ y5 then (sX4_nextFit 0 z).bind fun q2 => eX4_unlike_40 n y1 y2 y3 y4 q2.1 q2.2 else if y5 < 0 ∨ 300 ≤ Int32.toNatClampNeg y5 then none else eX4_unlike_27 n y1 y2 y3 y4 y5 ((mm_ui z.1 11 (Int32.toNatClampNeg y5) 0), z.2)) := rfl
set_option maxRecDepth 100000 in
theorem qX4_unlike_40 (n : Nat)  (y1 : Int32) (y2 : Int32) (y3 : Int32) (y4 : Int32) (y5 : Int32) (z : mm_S) : eX4_unlike_40 (n + 1) y1 y2 y3 y4 y5 z = ((sX4_maps  z).bind fun q3 => if q3.1 ≤ y5 then (sX4_lay y3 q3.2).bind fun q4 => eX4_unlike_114 n y4 q4 else eX4_unlike_49 n y1 y2 y3 y4 y5 q3.2) := rfl
set_option maxRecDepth 100000 in
theorem qX4_unlike_27 (n : Nat)  (y1 : Int32) (y2 : Int32) (y3 : Int32) (y4 : Int32) (y5 : Int32) (z : mm_S) : eX4_unlike_27 (n + 1) y1 y2 y3 y4 y5 z = (eX4_unlike_11 n y1 y2 y3 y4 (y5 + 1) z) := rfl
set_option maxRecDepth 100000 in
theorem qX4_unlike_114 (n : Nat) (y4 : Int32) (z : mm_S) : eX4_unlike_114 (n + 1) y4 z = (some (some (mm_I y4), z)) := rfl
set_option maxRecDepth 100000 in
theorem qX4_unlike_49 (n : Nat)  (y1 : Int32) (y2 : Int32) (y3 : Int32) (y4 : Int32) (y5 : Int32) (z : mm_S) : eX4_unlike_49 (n + 1) y1 y2 y3 y4 y5 z = ((sX4_crewIs y1 1 z).bind fun q5 => (sX4_timeOf q5.1 y2 q5.2).bind fun q6 => eX4_unlike_68 n y1 y2 y3 y4 y5 (mm_min 299 q6.1) q6.2) := rfl
set_option maxRecDepth 100000 in
theorem qX4_unlike_68 (n : Nat)  (y1 : Int32) (y2 : Int32) (y3 : Int32) (y4 : Int32) (y5 : Int32) (y6 : Int32) (z : mm_S) : eX4_unlike_68 (n + 1) y1 y2 y3 y4 y5 y6 z = (if y6 < 0 ∨ 300 ≤ Int32.toNatClampNeg y6 then none else if (z.1 11 (Int32.toNatClampNeg y6)) = 0 then if y6 < 0 ∨ 300 ≤ Int32.toNatClampNeg y6 then none else eX4_unlike_96 n y1 y2 y3 (y4 + 1) y5 ((mm_ui z.1 11 (Int32.toNatClampNeg y6) 1), z.2) else if y6 < 0 ∨ 300 ≤ Int32.toNatClampNeg y6 then none else eX4_unlike_96 n y1 y2 y3 (y4 + 0) y5 ((mm_ui z.1 11 (Int32.toNatClampNeg y6) 1), z.2)) := rfl
set_option maxRecDepth 100000 in
theorem qX4_unlike_96 (n : Nat)  (y1 : Int32) (y2 : Int32) (y3 : Int32) (y4 : Int32) (y5 : Int32) (z : mm_S) : eX4_unlike_96 (n + 1) y1 y2 y3 y4 y5 z = ((sX4_nextFit (y5 + 1) z).bind fun q7 => eX4_unlike_106 n y1 y2 y3 y4 q7.1 q7.2) := rfl
set_option maxRecDepth 100000 in
theorem qX4_unlike_106 (n : Nat)  (y1 : Int32) (y2 : Int32) (y3 : Int32) (y4 : Int32) (y5 : Int32) (z : mm_S) : eX4_unlike_106 (n + 1) y1 y2 y3 y4 y5 z = (eX4_unlike_40 n y1 y2 y3 y4 y5 z) := rfl
def rm_X4_unlike : Room := { frames := 7, cells := 0, slots := 0, locals := 159 }
noncomputable def f_X4_unlike (as : List mm_V) (z : mm_S) (o : mm_R) : Prop := (as.map mm_cat).sum ≤ 7 ∧ ∃ n, go_X4_unlike n 0 (mm_ar 0 as) [] z = some o
theorem M_X4_unlike : mm_M lyTM lyFA lenM snM 22 22 17 roM rsA nfA nmA [] yX4_unlike cX4_unlike 7 (some .int) rm_X4_unlike f_X4_unlike :=
  mm_met (rt := 0) (by decide +kernel) ⟨fun h => rfl, fun h => absurd h (by decide), fun h => absurd h (by decide), fun h => absurd h (by decide)⟩ tbX4_unlike_ok hsnM okFX4 okLX4 (fun _ h => absurd h List.not_mem_nil) (fun _ _ _ _ => rfl) (fun _ _ _ _ => rfl) (List.forall_mem_cons.mpr ⟨sV_X4_crewIs (Or.inl lk_X4_139) rfl ⟨by decide, by decide⟩, List.forall_mem_cons.mpr ⟨sV_X4_timeOf (Or.inl lk_X4_186) rfl ⟨by decide, by decide⟩, List.forall_mem_cons.mpr ⟨sV_X4_maps (Or.inl lk_X4_247) rfl ⟨by decide, by decide⟩, List.forall_mem_cons.mpr ⟨sV_X4_lay (Or.inl lk_X4_250) rfl ⟨by decide, by decide⟩, List.forall_mem_cons.mpr ⟨sV_X4_mapNow (Or.inl lk_X4_254) rfl ⟨by decide, by decide⟩, List.forall_mem_cons.mpr ⟨sV_X4_nextFit (Or.inl lk_X4_270) rfl ⟨by decide, by decide⟩, fun _ h => absurd h List.not_mem_nil⟩⟩⟩⟩⟩⟩) (List.forall_mem_cons.mpr ⟨Or.inr (Or.inr ⟨Or.inr ⟨rfl, lk_X4_202, ws_min, wc_min⟩, wi_math, by decide, by decide, rfl⟩), fun _ h => absurd h List.not_mem_nil⟩)
noncomputable def sX4_unlike_27 (y1 : Int32) (y2 : Int32) (y3 : Int32) (y4 : Int32) (y5 : Int32) (z : mm_S) : Option ((Int32 × Int32 × Int32 × Int32 × Int32 × mm_S) ⊕ (Int32 × mm_S)) := some (.inl (y1, y2, y3, y4, (y5 + 1), z))
theorem kX4_unlike_27 (y1 : Int32) (y2 : Int32) (y3 : Int32) (y4 : Int32) (y5 : Int32) (z : mm_S) (oo : mm_R) : mm_Xs (sX4_unlike_27 y1 y2 y3 y4 y5 z) (mm_mt (fun x : Int32 × Int32 × Int32 × Int32 × Int32 × mm_S => ∃ n, eX4_unlike_11 n x.1 x.2.1 x.2.2.1 x.2.2.2.1 x.2.2.2.2.1 x.2.2.2.2.2 = some oo) (fun v => (fun v : Int32 × mm_S => ((some (mm_I v.1), v.2) : mm_R)) v = oo)) (fun n => eX4_unlike_27 n y1 y2 y3 y4 y5 z) oo :=
  xs_row (fun n => qX4_unlike_27 n y1 y2 y3 y4 y5 z) (xs_v fun hc => hc)
noncomputable def sX4_unlike_106 (y1 : Int32) (y2 : Int32) (y3 : Int32) (y4 : Int32) (y5 : Int32) (z : mm_S) : Option ((Int32 × Int32 × Int32 × Int32 × Int32 × mm_S) ⊕ (Int32 × mm_S)) := some (.inl (y1, y2, y3, y4, y5, z))
theorem kX4_unlike_106 (y1 : Int32) (y2 : Int32) (y3 : Int32) (y4 : Int32) (y5 : Int32) (z : mm_S) (oo : mm_R) : mm_Xs (sX4_unlike_106 y1 y2 y3 y4 y5 z) (mm_mt (fun x : Int32 × Int32 × Int32 × Int32 × Int32 × mm_S => ∃ n, eX4_unlike_40 n x.1 x.2.1 x.2.2.1 x.2.2.2.1 x.2.2.2.2.1 x.2.2.2.2.2 = some oo) (fun v => (fun v : Int32 × mm_S => ((some (mm_I v.1), v.2) : mm_R)) v = oo)) (fun n => eX4_unlike_106 n y1 y2 y3 y4 y5 z) oo :=
  xs_row (fun n => qX4_unlike_106 n y1 y2 y3 y4 y5 z) (xs_v fun hc => hc)
noncomputable def sX4_unlike_96 (y1 : Int32) (y2 : Int32) (y3 : Int32) (y4 : Int32) (y5 : Int32) (z : mm_S) : Option ((Int32 × Int32 × Int32 × Int32 × Int32 × mm_S) ⊕ (Int32 × mm_S)) := (sX4_nextFit (y5 + 1) z).bind fun q7 => (sX4_unlike_106 y1 y2 y3 y4 q7.1 q7.2)
theorem kX4_unlike_96 (y1 : Int32) (y2 : Int32) (y3 : Int32) (y4 : Int32) (y5 : Int32) (z : mm_S) (oo : mm_R) : mm_Xs (sX4_unlike_96 y1 y2 y3 y4 y5 z) (mm_mt (fun x : Int32 × Int32 × Int32 × Int32 × Int32 × mm_S => ∃ n, eX4_unlike_40 n x.1 x.2.1 x.2.2.1 x.2.2.2.1 x.2.2.2.2.1 x.2.2.2.2.2 = some oo) (fun v => (fun v : Int32 × mm_S => ((some (mm_I v.1), v.2) : mm_R)) v = oo)) (fun n => eX4_unlike_96 n y1 y2 y3 y4 y5 z) oo :=
  xs_row (fun n => qX4_unlike_96 n y1 y2 y3 y4 y5 z) (xs_bd fun q7 => (kX4_unlike_106 y1 y2 y3 y4 q7.1 q7.2 oo))
noncomputable def sX4_unlike_68 (y1 : Int32) (y2 : Int32) (y3 : Int32) (y4 : Int32) (y5 : Int32) (y6 : Int32) (z : mm_S) : Option ((Int32 × Int32 × Int32 × Int32 × Int32 × mm_S) ⊕ (Int32 × mm_S)) := if y6 < 0 ∨ 300 ≤ Int32.toNatClampNeg y6 then none else if (z.1 11 (Int32.toNatClampNeg y6)) = 0 then if y6 < 0 ∨ 300 ≤ Int32.toNatClampNeg y6 then none else (sX4_unlike_96 y1 y2 y3 (y4 + 1) y5 ((mm_ui z.1 11 (Int32.toNatClampNeg y6) 1), z.2)) else if y6 < 0 ∨ 300 ≤ Int32.toNatClampNeg y6 then none else (sX4_unlike_96 y1 y2 y3 (y4 + 0) y5 ((mm_ui z.1 11 (Int32.toNatClampNeg y6) 1), z.2))
theorem kX4_unlike_68 (y1 : Int32) (y2 : Int32) (y3 : Int32) (y4 : Int32) (y5 : Int32) (y6 : Int32) (z : mm_S) (oo : mm_R) : mm_Xs (sX4_unlike_68 y1 y2 y3 y4 y5 y6 z) (mm_mt (fun x : Int32 × Int32 × Int32 × Int32 × Int32 × mm_S => ∃ n, eX4_unlike_40 n x.1 x.2.1 x.2.2.1 x.2.2.2.1 x.2.2.2.2.1 x.2.2.2.2.2 = some oo) (fun v => (fun v : Int32 × mm_S => ((some (mm_I v.1), v.2) : mm_R)) v = oo)) (fun n => eX4_unlike_68 n y1 y2 y3 y4 y5 y6 z) oo :=
  xs_row (fun n => qX4_unlike_68 n y1 y2 y3 y4 y5 y6 z) (xs_if xs_n (xs_if (xs_if xs_n (kX4_unlike_96 y1 y2 y3 (y4 + 1) y5 ((mm_ui z.1 11 (Int32.toNatClampNeg y6) 1), z.2) oo)) (xs_if xs_n (kX4_unlike_96 y1 y2 y3 (y4 + 0) y5 ((mm_ui z.1 11 (Int32.toNatClampNeg y6) 1), z.2) oo))))
noncomputable def sX4_unlike_49 (y1 : Int32) (y2 : Int32) (y3 : Int32) (y4 : Int32) (y5 : Int32) (z : mm_S) : Option ((Int32 × Int32 × Int32 × Int32 × Int32 × mm_S) ⊕ (Int32 × mm_S)) := (sX4_crewIs y1 1 z).bind fun q5 => (sX4_timeOf q5.1 y2 q5.2).bind fun q6 => (sX4_unlike_68 y1 y2 y3 y4 y5 (mm_min 299 q6.1) q6.2)
theorem kX4_unlike_49 (y1 : Int32) (y2 : Int32) (y3 : Int32) (y4 : Int32) (y5 : Int32) (z : mm_S) (oo : mm_R) : mm_Xs (sX4_unlike_49 y1 y2 y3 y4 y5 z) (mm_mt (fun x : Int32 × Int32 × Int32 × Int32 × Int32 × mm_S => ∃ n, eX4_unlike_40 n x.1 x.2.1 x.2.2.1 x.2.2.2.1 x.2.2.2.2.1 x.2.2.2.2.2 = some oo) (fun v => (fun v : Int32 × mm_S => ((some (mm_I v.1), v.2) : mm_R)) v = oo)) (fun n => eX4_unlike_49 n y1 y2 y3 y4 y5 z) oo :=
  xs_row (fun n => qX4_unlike_49 n y1 y2 y3 y4 y5 z) (xs_bd fun q5 => (xs_bd fun q6 => (kX4_unlike_68 y1 y2 y3 y4 y5 (mm_min 299 q6.1) q6.2 oo)))
noncomputable def sX4_unlike_114 (y4 : Int32) (z : mm_S) : Option (Int32 × mm_S) := some (y4, z)
theorem kX4_unlike_114 (y4 : Int32) (z : mm_S) (oo : mm_R) : mm_Xs (sX4_unlike_114 y4 z) (fun v => (fun v : Int32 × mm_S => ((some (mm_I v.1), v.2) : mm_R)) v = oo) (fun n => eX4_unlike_114 n y4 z) oo :=
  xs_row (fun n => qX4_unlike_114 n y4 z) (xs_v fun hc => ⟨0, congrArg some hc⟩)
noncomputable def lX4_unlike_40 (s : Int32 × Int32 × Int32 × Int32 × Int32 × mm_S) : Option ((Int32 × Int32 × Int32 × Int32 × Int32 × mm_S) ⊕ (Int32 × mm_S)) := (sX4_maps  s.2.2.2.2.2).bind fun q3 => if q3.1 ≤ s.2.2.2.2.1 then (sX4_lay s.2.2.1 q3.2).bind fun q4 => ((sX4_unlike_114 s.2.2.2.1 q4).map fun w => (Sum.inr w)) else (sX4_unlike_49 s.1 s.2.1 s.2.2.1 s.2.2.2.1 s.2.2.2.2.1 q3.2)
noncomputable def sX4_unlike_40 (y1 : Int32) (y2 : Int32) (y3 : Int32) (y4 : Int32) (y5 : Int32) (z : mm_S) : Option (Int32 × mm_S) := mm_wh (lX4_unlike_40 ) mm_fu (y1, y2, y3, y4, y5, z)
theorem kX4_unlike_40 (y1 : Int32) (y2 : Int32) (y3 : Int32) (y4 : Int32) (y5 : Int32) (z : mm_S) (oo : mm_R) : mm_Xs (sX4_unlike_40 y1 y2 y3 y4 y5 z) (fun v => (fun v : Int32 × mm_S => ((some (mm_I v.1), v.2) : mm_R)) v = oo) (fun n => eX4_unlike_40 n y1 y2 y3 y4 y5 z) oo :=
  xs_wh (stp := lX4_unlike_40 ) (o := oo) (E := (fun (s : Int32 × Int32 × Int32 × Int32 × Int32 × mm_S) n => eX4_unlike_40 n s.1 s.2.1 s.2.2.1 s.2.2.2.1 s.2.2.2.2.1 s.2.2.2.2.2)) (C := (fun v => (fun v : Int32 × mm_S => ((some (mm_I v.1), v.2) : mm_R)) v = oo)) (fun s => xs_row (fun n => qX4_unlike_40 n s.1 s.2.1 s.2.2.1 s.2.2.2.1 s.2.2.2.2.1 s.2.2.2.2.2) (xs_bd fun q3 => (xs_if (xs_bd fun q4 => (xs_map (f := fun w => (Sum.inr w)) (kX4_unlike_114 s.2.2.2.1 q4 oo) (fun _ h => h))) (kX4_unlike_49 s.1 s.2.1 s.2.2.1 s.2.2.2.1 s.2.2.2.2.1 q3.2 oo)))) mm_fu (y1, y2, y3, y4, y5, z)
noncomputable def lX4_unlike_11 (s : Int32 × Int32 × Int32 × Int32 × Int32 × mm_S) : Option ((Int32 × Int32 × Int32 × Int32 × Int32 × mm_S) ⊕ (Int32 × mm_S)) := if 300 ≤ s.2.2.2.2.1 then (sX4_nextFit 0 s.2.2.2.2.2).bind fun q2 => ((sX4_unlike_40 s.1 s.2.1 s.2.2.1 s.2.2.2.1 q2.1 q2.2).map fun w => (Sum.inr w)) else if s.2.2.2.2.1 < 0 ∨ 300 ≤ Int32.toNatClampNeg s.2.2.2.2.1 then none else (sX4_unlike_27 s.1 s.2.1 s.2.2.1 s.2.2.2.1 s.2.2.2.2.1 ((mm_ui s.2.2.2.2.2.1 11 (Int32.toNatClampNeg s.2.2.2.2.1) 0), s.2.2.2.2.2.2))
noncomputable def sX4_unlike_11 (y1 : Int32) (y2 : Int32) (y3 : Int32) (y4 : Int32) (y5 : Int32) (z : mm_S) : Option (Int32 × mm_S) := mm_wh (lX4_unlike_11 ) mm_fu (y1, y2, y3, y4, y5, z)
theorem kX4_unlike_11 (y1 : Int32) (y2 : Int32) (y3 : Int32) (y4 : Int32) (y5 : Int32) (z : mm_S) (oo : mm_R) : mm_Xs (sX4_unlike_11 y1 y2 y3 y4 y5 z) (fun v => (fun v : Int32 × mm_S => ((some (mm_I v.1), v.2) : mm_R)) v = oo) (fun n => eX4_unlike_11 n y1 y2 y3 y4 y5 z) oo :=
  xs_wh (stp := lX4_unlike_11 ) (o := oo) (E := (fun (s : Int32 × Int32 × Int32 × Int32 × Int32 × mm_S) n => eX4_unlike_11 n s.1 s.2.1 s.2.2.1 s.2.2.2.1 s.2.2.2.2.1 s.2.2.2.2.2)) (C := (fun v => (fun v : Int32 × mm_S => ((some (mm_I v.1), v.2) : mm_R)) v = oo)) (fun s => xs_row (fun n => qX4_unlike_11 n s.1 s.2.1 s.2.2.1 s.2.2.2.1 s.2.2.2.2.1 s.2.2.2.2.2) (xs_if (xs_bd fun q2 => (xs_map (f := fun w => (Sum.inr w)) (kX4_unlike_40 s.1 s.2.1 s.2.2.1 s.2.2.2.1 q2.1 q2.2 oo) (fun _ h => h))) (xs_if xs_n (kX4_unlike_27 s.1 s.2.1 s.2.2.1 s.2.2.2.1 s.2.2.2.2.1 ((mm_ui s.2.2.2.2.2.1 11 (Int32.toNatClampNeg s.2.2.2.2.1) 0), s.2.2.2.2.2.2) oo)))) mm_fu (y1, y2, y3, y4, y5, z)
noncomputable def sX4_unlike_5 (y1 : Int32) (y2 : Int32) (y3 : Int32) (z : mm_S) : Option (Int32 × mm_S) := (sX4_unlike_11 y1 y2 y3 0 0 z)
theorem kX4_unlike_5 (y1 : Int32) (y2 : Int32) (y3 : Int32) (z : mm_S) (oo : mm_R) : mm_Xs (sX4_unlike_5 y1 y2 y3 z) (fun v => (fun v : Int32 × mm_S => ((some (mm_I v.1), v.2) : mm_R)) v = oo) (fun n => eX4_unlike_5 n y1 y2 y3 z) oo :=
  xs_row (fun n => qX4_unlike_5 n y1 y2 y3 z) (kX4_unlike_11 y1 y2 y3 0 0 z oo)
noncomputable def sX4_unlike_0 (x1 : Int32) (x2 : Int32) (z : mm_S) : Option (Int32 × mm_S) := (sX4_mapNow  z).bind fun q1 => (sX4_unlike_5 x1 x2 q1.1 q1.2)
theorem kX4_unlike_0 (x1 : Int32) (x2 : Int32) (z : mm_S) (oo : mm_R) : mm_Xs (sX4_unlike_0 x1 x2 z) (fun v => (fun v : Int32 × mm_S => ((some (mm_I v.1), v.2) : mm_R)) v = oo) (fun n => eX4_unlike_0 n x1 x2 z) oo :=
  xs_row (fun n => qX4_unlike_0 n x1 x2 z) (xs_bd fun q1 => (kX4_unlike_5 x1 x2 q1.1 q1.2 oo))
noncomputable def sX4_unlike (x1 : Int32) (x2 : Int32) (z : mm_S) : Option (Int32 × mm_S) := sX4_unlike_0 x1 x2 z
theorem sp_X4_unlike (x1 : Int32) (x2 : Int32) (z : mm_S) (hk : ∀ v ∈ [mm_P 4 0, mm_I x1, mm_I x2], mm_ok 22 lyTM 22 17 v) (q : Int32 × mm_S) (hq : sX4_unlike x1 x2 z = some q) : f_X4_unlike [mm_P 4 0, mm_I x1, mm_I x2] z (some (mm_I q.1), q.2) := ⟨Nat.le_of_ble_eq_true rfl, kX4_unlike_0 x1 x2 z _ q hq rfl⟩
noncomputable def clo_X4_unlike (as : List mm_V) (z : mm_S) (kk : Option mm_V → mm_S → Option mm_R) : Option mm_R := mm_pr as fun t o0 as => bif Nat.beq t 4 then mm_pi as fun a1 as => mm_pi as fun a2 as => (match as with | [] => (sX4_unlike a1 a2 z).bind fun q => kk (some (mm_I q.1)) q.2 | _ => none) else none
theorem cs_X4_unlike : mm_cs lyTM 22 22 17 f_X4_unlike clo_X4_unlike := by
  intro as z K o hk h
  obtain ⟨t0, o0, r0, rfl, g0⟩ := mm_pr_e h
  obtain ⟨b0, k0⟩ := mm_bif_e g0
  obtain rfl := Nat.eq_of_beq_eq_true b0
  obtain ⟨a1, r1, rfl, g1⟩ := mm_pi_e k0
  obtain ⟨a2, r2, rfl, g2⟩ := mm_pi_e g1
  rcases r2 with _ | ⟨u, w⟩
  rotate_left
  · cases g2
  obtain rfl : o0 = 0 := ok4 (hk (mm_P 4 o0) (by simp))
  obtain ⟨q, hq, hq2⟩ := Option.bind_eq_some_iff.mp g2
  exact ⟨_, _, sp_X4_unlike a1 a2 z hk q hq, fun v hv => by cases hv; exact Or.inl ⟨_, rfl⟩, hq2⟩
theorem sV_X4_unlike {own : String} {R : Room} {ar : Nat → Nat} {k : Nat} (hlink : Cond.methodLink own k yX4_unlike ∈ lw_gd ∨ ∃ host, (own, k, yX4_unlike, host) ∈ nmA) (har : ar k = 3) (hr : 8 ≤ R.frames ∧ 185 ≤ R.locals) : mm_okV lyTM lyFA lenM snM 22 22 17 roM rsA nfA nmA [] own R ar k clo_X4_unlike := by
  refine ⟨yX4_unlike, cX4_unlike, 7, some .int, rm_X4_unlike, f_X4_unlike, 4, 2, (RX4, TX4, 36), M_X4_unlike, cs_X4_unlike, hlink, ⟨wv_X4_unlike, wz_X4_unlike, wi_X4_unlike, wc_X4_unlike⟩, ⟨by decide +kernel, by decide +kernel, by decide +kernel⟩, har, ⟨rfl, rfl, by decide⟩, ?_, ⟨rfl, rfl, hr.1, hr.2⟩⟩
  intro as z K o h
  obtain ⟨t0, o0, r0, rfl, g0⟩ := mm_pr_e h
  obtain ⟨b0, k0⟩ := mm_bif_e g0
  obtain rfl := Nat.eq_of_beq_eq_true b0
  exact ⟨_, _, rfl⟩
-- X4_asks
noncomputable def lV_X4_asks : List (Nat × (List mm_V → mm_S → (Option mm_V → mm_S → Option mm_R) → Option mm_R)) := [(124, clo_X4_finding), (189, clo_X4_told), (276, clo_X4_unlike)]
noncomputable def mV_X4_asks (k : Nat) (as : List mm_V) (z : mm_S) (kk : Option mm_V → mm_S → Option mm_R) : Option mm_R := match mm_at lV_X4_asks k with
  | some f => f as z kk
  | none => none
noncomputable def arV_X4_asks (k : Nat) : Nat := (mm_at [(124, 2), (189, 2), (276, 3)] k).getD 0
noncomputable def lS_X4_asks : List (Nat × (List mm_V → mm_S → (Option mm_V → mm_S → Option mm_R) → Option mm_R)) := [(114, clo_X4_isCell), (226, mm_mx)]
noncomputable def mS_X4_asks (k : Nat) (as : List mm_V) (z : mm_S) (kk : Option mm_V → mm_S → Option mm_R) : Option mm_R := match mm_at lS_X4_asks k with
  | some f => f as z kk
  | none => none
noncomputable def arS_X4_asks (k : Nat) : Nat := (mm_at [(114, 1), (226, 2)] k).getD 0
def ct_X4_asks : List (Nat × List Nat) := [(14, [0, 1]), (21, [0, 1, 2, 3, 4]), (41, [0, 1, 2, 3, 4, 5])]
noncomputable def go_X4_asks : Nat → mm_K := mm_go (fun k => mm_at flX4 k) (fun k => mm_at clX4 k) (fun k => mm_at glX4 k) arV_X4_asks arS_X4_asks mV_X4_asks mS_X4_asks lenM roM snM 6 0 tbX4_asks ct_X4_asks
noncomputable def eX4_asks_0 (n : Nat)  (x1 : Int32) (z : mm_S) : Option mm_R := go_X4_asks n 0 [(0, mm_P 4 0), (1, mm_I x1)] [] z
noncomputable def eX4_asks_14 (n : Nat)  (y1 : Int32) (z : mm_S) : Option mm_R := go_X4_asks n 14 [(0, mm_P 4 0), (1, mm_I y1)] [] z
noncomputable def eX4_asks_21 (n : Nat)  (y1 : Int32) (y2 : Int32) (y3 : Int32) (y4 : Int32) (z : mm_S) : Option mm_R := go_X4_asks n 21 [(0, mm_P 4 0), (1, mm_I y1), (2, mm_I y2), (3, mm_I y3), (4, mm_I y4)] [] z
noncomputable def eX4_asks_41 (n : Nat)  (y1 : Int32) (y2 : Int32) (y3 : Int32) (y4 : Int32) (y5 : Int32) (z : mm_S) : Option mm_R := go_X4_asks n 41 [(0, mm_P 4 0), (1, mm_I y1), (2, mm_I y2), (3, mm_I y3), (4, mm_I y4), (5, mm_I y5)] [] z
set_option maxRecDepth 100000 in
theorem qX4_asks_0 (n : Nat)  (x1 : Int32) (z : mm_S) : eX4_asks_0 (n + 1) x1 z = (if (pX4_isCell x1) = 0 then (sX4_finding (-1000001) z).bind fun q1 => some (some (mm_I q1.1), q1.2) else eX4_asks_14 n x1 z) := rfl
set_option maxRecDepth 100000 in
theorem qX4_asks_14 (n : Nat)  (y1 : Int32) (z : mm_S) : eX4_asks_14 (n + 1) y1 z = (eX4_asks_21 n y1 (-1) 0 0 z) := rfl
set_option maxRecDepth 100000 in
theorem qX4_asks_21 (n : Nat)  (y1 : Int32) (y2 : Int32) (y3 : Int32) (y4 : Int32) (z : mm_S) : eX4_asks_21 (n + 1) y1 y2 y3 y4 z = (if (z.1 1 1) ≤ y4 then (sX4_told y2 z).bind fun q2 => some (some (mm_I q2.1), q2.2) else (sX4_unlike y4 y1 z).bind fun q3 => eX4_asks_41 n y1 y2 y3 y4 q3.1 q3.2) := rfl
set_option maxRecDepth 100000 in
theorem qX4_asks_41 (n : Nat)  (y1 : Int32) (y2 : Int32) (y3 : Int32) (y4 : Int32) (y5 : Int32) (z : mm_S) : eX4_asks_41 (n + 1) y1 y2 y3 y4 y5 z = (if y5 ≤ y3 then eX4_asks_21 n y1 y2 (mm_max y3 y5) (y4 + 1) z else eX4_asks_21 n y1 y4 (mm_max y3 y5) (y4 + 1) z) := rfl
def rm_X4_asks : Room := { frames := 8, cells := 0, slots := 0, locals := 185 }
noncomputable def f_X4_asks (as : List mm_V) (z : mm_S) (o : mm_R) : Prop := (as.map mm_cat).sum ≤ 6 ∧ ∃ n, go_X4_asks n 0 (mm_ar 0 as) [] z = some o
theorem M_X4_asks : mm_M lyTM lyFA lenM snM 22 22 17 roM rsA nfA nmA [] yX4_asks cX4_asks 6 (some .int) rm_X4_asks f_X4_asks :=
  mm_met (rt := 0) (by decide +kernel) ⟨fun h => rfl, fun h => absurd h (by decide), fun h => absurd h (by decide), fun h => absurd h (by decide)⟩ tbX4_asks_ok hsnM okFX4 okLX4 (fun _ h => absurd h List.not_mem_nil) (fun _ _ _ _ => rfl) (fun _ _ _ _ => rfl) (List.forall_mem_cons.mpr ⟨sV_X4_finding (Or.inl lk_X4_124) rfl ⟨by decide, by decide⟩, List.forall_mem_cons.mpr ⟨sV_X4_told (Or.inl lk_X4_189) rfl ⟨by decide, by decide⟩, List.forall_mem_cons.mpr ⟨sV_X4_unlike (Or.inl lk_X4_276) rfl ⟨by decide, by decide⟩, fun _ h => absurd h List.not_mem_nil⟩⟩⟩) (List.forall_mem_cons.mpr ⟨sS_X4_isCell (Or.inl lk_X4_114) rfl ⟨by decide, by decide⟩, List.forall_mem_cons.mpr ⟨Or.inr (Or.inr ⟨Or.inl ⟨rfl, lk_X4_226, ws_max, wc_max⟩, wi_math, by decide, by decide, rfl⟩), fun _ h => absurd h List.not_mem_nil⟩⟩)
noncomputable def sX4_asks_41 (y1 : Int32) (y2 : Int32) (y3 : Int32) (y4 : Int32) (y5 : Int32) (z : mm_S) : Option ((Int32 × Int32 × Int32 × Int32 × mm_S) ⊕ (Int32 × mm_S)) := if y5 ≤ y3 then some (.inl (y1, y2, (mm_max y3 y5), (y4 + 1), z)) else some (.inl (y1, y4, (mm_max y3 y5), (y4 + 1), z))
theorem kX4_asks_41 (y1 : Int32) (y2 : Int32) (y3 : Int32) (y4 : Int32) (y5 : Int32) (z : mm_S) (oo : mm_R) : mm_Xs (sX4_asks_41 y1 y2 y3 y4 y5 z) (mm_mt (fun x : Int32 × Int32 × Int32 × Int32 × mm_S => ∃ n, eX4_asks_21 n x.1 x.2.1 x.2.2.1 x.2.2.2.1 x.2.2.2.2 = some oo) (fun v => (fun v : Int32 × mm_S => ((some (mm_I v.1), v.2) : mm_R)) v = oo)) (fun n => eX4_asks_41 n y1 y2 y3 y4 y5 z) oo :=
  xs_row (fun n => qX4_asks_41 n y1 y2 y3 y4 y5 z) (xs_if (xs_v fun hc => hc) (xs_v fun hc => hc))
noncomputable def lX4_asks_21 (s : Int32 × Int32 × Int32 × Int32 × mm_S) : Option ((Int32 × Int32 × Int32 × Int32 × mm_S) ⊕ (Int32 × mm_S)) := if (s.2.2.2.2.1 1 1) ≤ s.2.2.2.1 then (sX4_told s.2.1 s.2.2.2.2).bind fun q2 => some (.inr (q2.1, q2.2)) else (sX4_unlike s.2.2.2.1 s.1 s.2.2.2.2).bind fun q3 => (sX4_asks_41 s.1 s.2.1 s.2.2.1 s.2.2.2.1 q3.1 q3.2)
noncomputable def sX4_asks_21 (y1 : Int32) (y2 : Int32) (y3 : Int32) (y4 : Int32) (z : mm_S) : Option (Int32 × mm_S) := mm_wh (lX4_asks_21 ) mm_fu (y1, y2, y3, y4, z)
theorem kX4_asks_21 (y1 : Int32) (y2 : Int32) (y3 : Int32) (y4 : Int32) (z : mm_S) (oo : mm_R) : mm_Xs (sX4_asks_21 y1 y2 y3 y4 z) (fun v => (fun v : Int32 × mm_S => ((some (mm_I v.1), v.2) : mm_R)) v = oo) (fun n => eX4_asks_21 n y1 y2 y3 y4 z) oo :=
  xs_wh (stp := lX4_asks_21 ) (o := oo) (E := (fun (s : Int32 × Int32 × Int32 × Int32 × mm_S) n => eX4_asks_21 n s.1 s.2.1 s.2.2.1 s.2.2.2.1 s.2.2.2.2)) (C := (fun v => (fun v : Int32 × mm_S => ((some (mm_I v.1), v.2) : mm_R)) v = oo)) (fun s => xs_row (fun n => qX4_asks_21 n s.1 s.2.1 s.2.2.1 s.2.2.2.1 s.2.2.2.2) (xs_if (xs_bd fun q2 => (xs_v fun hc => ⟨0, congrArg some hc⟩)) (xs_bd fun q3 => (kX4_asks_41 s.1 s.2.1 s.2.2.1 s.2.2.2.1 q3.1 q3.2 oo)))) mm_fu (y1, y2, y3, y4, z)
noncomputable def sX4_asks_14 (y1 : Int32) (z : mm_S) : Option (Int32 × mm_S) := (sX4_asks_21 y1 (-1) 0 0 z)
theorem kX4_asks_14 (y1 : Int32) (z : mm_S) (oo : mm_R) : mm_Xs (sX4_asks_14 y1 z) (fun v => (fun v : Int32 × mm_S => ((some (mm_I v.1), v.2) : mm_R)) v = oo) (fun n => eX4_asks_14 n y1 z) oo :=
  xs_row (fun n => qX4_asks_14 n y1 z) (kX4_asks_21 y1 (-1) 0 0 z oo)
noncomputable def sX4_asks_0 (x1 : Int32) (z : mm_S) : Option (Int32 × mm_S) := if (pX4_isCell x1) = 0 then (sX4_finding (-1000001) z).bind fun q1 => some (q1.1, q1.2) else (sX4_asks_14 x1 z)
theorem kX4_asks_0 (x1 : Int32) (z : mm_S) (oo : mm_R) : mm_Xs (sX4_asks_0 x1 z) (fun v => (fun v : Int32 × mm_S => ((some (mm_I v.1), v.2) : mm_R)) v = oo) (fun n => eX4_asks_0 n x1 z) oo :=
  xs_row (fun n => qX4_asks_0 n x1 z) (xs_if (xs_bd fun q1 => (xs_v fun hc => ⟨0, congrArg some hc⟩)) (kX4_asks_14 x1 z oo))
noncomputable def sX4_asks (x1 : Int32) (z : mm_S) : Option (Int32 × mm_S) := sX4_asks_0 x1 z
theorem sp_X4_asks (x1 : Int32) (z : mm_S) (hk : ∀ v ∈ [mm_P 4 0, mm_I x1], mm_ok 22 lyTM 22 17 v) (q : Int32 × mm_S) (hq : sX4_asks x1 z = some q) : f_X4_asks [mm_P 4 0, mm_I x1] z (some (mm_I q.1), q.2) := ⟨Nat.le_of_ble_eq_true rfl, kX4_asks_0 x1 z _ q hq rfl⟩
noncomputable def clo_X4_asks (as : List mm_V) (z : mm_S) (kk : Option mm_V → mm_S → Option mm_R) : Option mm_R := mm_pr as fun t o0 as => bif Nat.beq t 4 then mm_pi as fun a1 as => (match as with | [] => (sX4_asks a1 z).bind fun q => kk (some (mm_I q.1)) q.2 | _ => none) else none
theorem cs_X4_asks : mm_cs lyTM 22 22 17 f_X4_asks clo_X4_asks := by
  intro as z K o hk h
  obtain ⟨t0, o0, r0, rfl, g0⟩ := mm_pr_e h
  obtain ⟨b0, k0⟩ := mm_bif_e g0
  obtain rfl := Nat.eq_of_beq_eq_true b0
  obtain ⟨a1, r1, rfl, g1⟩ := mm_pi_e k0
  rcases r1 with _ | ⟨u, w⟩
  rotate_left
  · cases g1
  obtain rfl : o0 = 0 := ok4 (hk (mm_P 4 o0) (by simp))
  obtain ⟨q, hq, hq2⟩ := Option.bind_eq_some_iff.mp g1
  exact ⟨_, _, sp_X4_asks a1 z hk q hq, fun v hv => by cases hv; exact Or.inl ⟨_, rfl⟩, hq2⟩
theorem sV_X4_asks {own : String} {R : Room} {ar : Nat → Nat} {k : Nat} (hlink : Cond.methodLink own k yX4_asks ∈ lw_gd ∨ ∃ host, (own, k, yX4_asks, host) ∈ nmA) (har : ar k = 2) (hr : 9 ≤ R.frames ∧ 210 ≤ R.locals) : mm_okV lyTM lyFA lenM snM 22 22 17 roM rsA nfA nmA [] own R ar k clo_X4_asks := by
  refine ⟨yX4_asks, cX4_asks, 6, some .int, rm_X4_asks, f_X4_asks, 4, 1, (RX4, TX4, 36), M_X4_asks, cs_X4_asks, hlink, ⟨wv_X4_asks, wz_X4_asks, wi_X4_asks, wc_X4_asks⟩, ⟨by decide +kernel, by decide +kernel, by decide +kernel⟩, har, ⟨rfl, rfl, by decide⟩, ?_, ⟨rfl, rfl, hr.1, hr.2⟩⟩
  intro as z K o h
  obtain ⟨t0, o0, r0, rfl, g0⟩ := mm_pr_e h
  obtain ⟨b0, k0⟩ := mm_bif_e g0
  obtain rfl := Nat.eq_of_beq_eq_true b0
  exact ⟨_, _, rfl⟩
-- X4_dryNow
noncomputable def lV_X4_dryNow : List (Nat × (List mm_V → mm_S → (Option mm_V → mm_S → Option mm_R) → Option mm_R)) := [(158, clo_X4_stuffIs)]
noncomputable def mV_X4_dryNow (k : Nat) (as : List mm_V) (z : mm_S) (kk : Option mm_V → mm_S → Option mm_R) : Option mm_R := match mm_at lV_X4_dryNow k with
  | some f => f as z kk
  | none => none
noncomputable def arV_X4_dryNow (k : Nat) : Nat := (mm_at [(158, 2)] k).getD 0
noncomputable def lS_X4_dryNow : List (Nat × (List mm_V → mm_S → (Option mm_V → mm_S → Option mm_R) → Option mm_R)) := [(175, clo_X4_beside)]
noncomputable def mS_X4_dryNow (k : Nat) (as : List mm_V) (z : mm_S) (kk : Option mm_V → mm_S → Option mm_R) : Option mm_R := match mm_at lS_X4_dryNow k with
  | some f => f as z kk
  | none => none
noncomputable def arS_X4_dryNow (k : Nat) : Nat := (mm_at [(175, 2)] k).getD 0
def ct_X4_dryNow : List (Nat × List Nat) := [(4, [0, 1, 3]), (19, [0, 1, 3]), (29, [0, 1, 3, 4, 5]), (63, [0, 1, 3, 5])]
noncomputable def go_X4_dryNow : Nat → mm_K := mm_go (fun k => mm_at flX4 k) (fun k => mm_at clX4 k) (fun k => mm_at glX4 k) arV_X4_dryNow arS_X4_dryNow mV_X4_dryNow mS_X4_dryNow lenM roM snM 7 2 tbX4_dryNow ct_X4_dryNow
noncomputable def eX4_dryNow_0 (n : Nat)  (z : mm_S) : Option mm_R := go_X4_dryNow n 0 [(0, mm_P 4 0)] [] z
noncomputable def eX4_dryNow_4 (n : Nat)  (y1 : Int64) (y3 : Int32) (z : mm_S) : Option mm_R := go_X4_dryNow n 4 [(0, mm_P 4 0), (1, mm_J y1), (3, mm_I y3)] [] z
noncomputable def eX4_dryNow_29 (n : Nat)  (y1 : Int64) (y3 : Int32) (y4 : Int32) (y5 : Int32) (z : mm_S) : Option mm_R := go_X4_dryNow n 29 [(0, mm_P 4 0), (1, mm_J y1), (3, mm_I y3), (4, mm_I y4), (5, mm_I y5)] [] z
noncomputable def eX4_dryNow_19 (n : Nat)  (y1 : Int64) (y3 : Int32) (z : mm_S) : Option mm_R := go_X4_dryNow n 19 [(0, mm_P 4 0), (1, mm_J y1), (3, mm_I y3)] [] z
noncomputable def eX4_dryNow_63 (n : Nat)  (y1 : Int64) (y3 : Int32) (y5 : Int32) (z : mm_S) : Option mm_R := go_X4_dryNow n 63 [(0, mm_P 4 0), (1, mm_J y1), (3, mm_I y3), (5, mm_I y5)] [] z
set_option maxRecDepth 100000 in
theorem qX4_dryNow_0 (n : Nat)  (z : mm_S) : eX4_dryNow_0 (n + 1)  z = (eX4_dryNow_4 n 0 0 z) := rfl
set_option maxRecDepth 100000 in
theorem qX4_dryNow_4 (n : Nat)  (y1 : Int64) (y3 : Int32) (z : mm_S) : eX4_dryNow_4 (n + 1) y1 y3 z = (if 36 ≤ y3 then some (some (mm_J y1), z) else (sX4_stuffIs y3 z).bind fun q1 => if q1.1 = 3 then eX4_dryNow_29 n y1 y3 0 0 q1.2 else eX4_dryNow_19 n y1 y3 q1.2) := rfl
set_option maxRecDepth 100000 in
theorem qX4_dryNow_29 (n : Nat)  (y1 : Int64) (y3 : Int32) (y4 : Int32) (y5 : Int32) (z : mm_S) : eX4_dryNow_29 (n + 1) y1 y3 y4 y5 z = (if 4 ≤ y5 then if y4 = 0 then eX4_dryNow_4 n (y1 ||| 0) (y3 + 1) z else let v2 : Int64 := (y1 ||| (1 <<< (Int32.toInt64 y3 &&& 63))); eX4_dryNow_4 n v2 (y3 + 1) z else if y4 = 0 then eX4_dryNow_29 n y1 y3 0 (y5 + 1) z else if (pX4_beside y3 y5 z) < 0 then eX4_dryNow_63 n y1 y3 y5 z else (sX4_stuffIs (pX4_beside y3 y5 z) z).bind fun q3 => if q3.1 = 3 then eX4_dryNow_29 n y1 y3 0 (y5 + 1) q3.2 else eX4_dryNow_63 n y1 y3 y5 q3.2) := rfl
set_option maxRecDepth 100000 in
theorem qX4_dryNow_19 (n : Nat)  (y1 : Int64) (y3 : Int32) (z : mm_S) : eX4_dryNow_19 (n + 1) y1 y3 z = (eX4_dryNow_29 n y1 y3 1 0 z) := rfl
set_option maxRecDepth 100000 in
theorem qX4_dryNow_63 (n : Nat)  (y1 : Int64) (y3 : Int32) (y5 : Int32) (z : mm_S) : eX4_dryNow_63 (n + 1) y1 y3 y5 z = (eX4_dryNow_29 n y1 y3 1 (y5 + 1) z) := rfl
def rm_X4_dryNow : Room := { frames := 2, cells := 0, slots := 0, locals := 45 }
noncomputable def f_X4_dryNow (as : List mm_V) (z : mm_S) (o : mm_R) : Prop := (as.map mm_cat).sum ≤ 7 ∧ ∃ n, go_X4_dryNow n 0 (mm_ar 0 as) [] z = some o
theorem M_X4_dryNow : mm_M lyTM lyFA lenM snM 22 22 17 roM rsA nfA nmA [] yX4_dryNow cX4_dryNow 7 (some .long) rm_X4_dryNow f_X4_dryNow :=
  mm_met (rt := 2) (by decide +kernel) ⟨fun h => absurd h (by decide), fun h => absurd h (by decide), fun h => rfl, fun h => absurd h (by decide)⟩ tbX4_dryNow_ok hsnM okFX4 okLX4 (fun _ h => absurd h List.not_mem_nil) (fun _ _ _ _ => rfl) (fun _ _ _ _ => rfl) (List.forall_mem_cons.mpr ⟨sV_X4_stuffIs (Or.inl lk_X4_158) rfl ⟨by decide, by decide⟩, fun _ h => absurd h List.not_mem_nil⟩) (List.forall_mem_cons.mpr ⟨sS_X4_beside (Or.inl lk_X4_175) rfl ⟨by decide, by decide⟩, fun _ h => absurd h List.not_mem_nil⟩)
noncomputable def sX4_dryNow_63 (y1 : Int64) (y3 : Int32) (y5 : Int32) (z : mm_S) : Option ((Int64 × Int32 × Int32 × Int32 × mm_S) ⊕ ((Int64 × Int32 × mm_S) ⊕ (Int64 × mm_S))) := some (.inl (y1, y3, 1, (y5 + 1), z))
theorem kX4_dryNow_63 (y1 : Int64) (y3 : Int32) (y5 : Int32) (z : mm_S) (oo : mm_R) : mm_Xs (sX4_dryNow_63 y1 y3 y5 z) (mm_mt (fun x : Int64 × Int32 × Int32 × Int32 × mm_S => ∃ n, eX4_dryNow_29 n x.1 x.2.1 x.2.2.1 x.2.2.2.1 x.2.2.2.2 = some oo) (mm_mt (fun x : Int64 × Int32 × mm_S => ∃ n, eX4_dryNow_4 n x.1 x.2.1 x.2.2 = some oo) (fun v => (fun v : Int64 × mm_S => ((some (mm_J v.1), v.2) : mm_R)) v = oo))) (fun n => eX4_dryNow_63 n y1 y3 y5 z) oo :=
  xs_row (fun n => qX4_dryNow_63 n y1 y3 y5 z) (xs_v fun hc => hc)
noncomputable def lX4_dryNow_29 (s : Int64 × Int32 × Int32 × Int32 × mm_S) : Option ((Int64 × Int32 × Int32 × Int32 × mm_S) ⊕ ((Int64 × Int32 × mm_S) ⊕ (Int64 × mm_S))) := if 4 ≤ s.2.2.2.1 then if s.2.2.1 = 0 then some (.inr (.inl ((s.1 ||| 0), (s.2.1 + 1), s.2.2.2.2))) else let v2 : Int64 := (s.1 ||| (1 <<< (Int32.toInt64 s.2.1 &&& 63))); some (.inr (.inl (v2, (s.2.1 + 1), s.2.2.2.2))) else if s.2.2.1 = 0 then some (.inl (s.1, s.2.1, 0, (s.2.2.2.1 + 1), s.2.2.2.2)) else if (pX4_beside s.2.1 s.2.2.2.1 s.2.2.2.2) < 0 then (sX4_dryNow_63 s.1 s.2.1 s.2.2.2.1 s.2.2.2.2) else (sX4_stuffIs (pX4_beside s.2.1 s.2.2.2.1 s.2.2.2.2) s.2.2.2.2).bind fun q3 => if q3.1 = 3 then some (.inl (s.1, s.2.1, 0, (s.2.2.2.1 + 1), q3.2)) else (sX4_dryNow_63 s.1 s.2.1 s.2.2.2.1 q3.2)
noncomputable def sX4_dryNow_29 (y1 : Int64) (y3 : Int32) (y4 : Int32) (y5 : Int32) (z : mm_S) : Option ((Int64 × Int32 × mm_S) ⊕ (Int64 × mm_S)) := mm_wh (lX4_dryNow_29 ) mm_fu (y1, y3, y4, y5, z)
theorem kX4_dryNow_29 (y1 : Int64) (y3 : Int32) (y4 : Int32) (y5 : Int32) (z : mm_S) (oo : mm_R) : mm_Xs (sX4_dryNow_29 y1 y3 y4 y5 z) (mm_mt (fun x : Int64 × Int32 × mm_S => ∃ n, eX4_dryNow_4 n x.1 x.2.1 x.2.2 = some oo) (fun v => (fun v : Int64 × mm_S => ((some (mm_J v.1), v.2) : mm_R)) v = oo)) (fun n => eX4_dryNow_29 n y1 y3 y4 y5 z) oo :=
  xs_wh (stp := lX4_dryNow_29 ) (o := oo) (E := (fun (s : Int64 × Int32 × Int32 × Int32 × mm_S) n => eX4_dryNow_29 n s.1 s.2.1 s.2.2.1 s.2.2.2.1 s.2.2.2.2)) (C := (mm_mt (fun x : Int64 × Int32 × mm_S => ∃ n, eX4_dryNow_4 n x.1 x.2.1 x.2.2 = some oo) (fun v => (fun v : Int64 × mm_S => ((some (mm_J v.1), v.2) : mm_R)) v = oo))) (fun s => xs_row (fun n => qX4_dryNow_29 n s.1 s.2.1 s.2.2.1 s.2.2.2.1 s.2.2.2.2) (xs_if (xs_if (xs_v fun hc => hc) (xs_let ((s.1 ||| (1 <<< (Int32.toInt64 s.2.1 &&& 63)))) (S := fun (v2 : Int64) => (some (.inr (.inl (v2, (s.2.1 + 1), s.2.2.2.2))) : Option ((Int64 × Int32 × Int32 × Int32 × mm_S) ⊕ ((Int64 × Int32 × mm_S) ⊕ (Int64 × mm_S))))) (T := fun (v2 : Int64) n => eX4_dryNow_4 n v2 (s.2.1 + 1) s.2.2.2.2) (fun v2 => (xs_v fun hc => hc)))) (xs_if (xs_v fun hc => hc) (xs_if (kX4_dryNow_63 s.1 s.2.1 s.2.2.2.1 s.2.2.2.2 oo) (xs_bd fun q3 => (xs_if (xs_v fun hc => hc) (kX4_dryNow_63 s.1 s.2.1 s.2.2.2.1 q3.2 oo))))))) mm_fu (y1, y3, y4, y5, z)
noncomputable def sX4_dryNow_19 (y1 : Int64) (y3 : Int32) (z : mm_S) : Option ((Int64 × Int32 × mm_S) ⊕ (Int64 × mm_S)) := (sX4_dryNow_29 y1 y3 1 0 z)
theorem kX4_dryNow_19 (y1 : Int64) (y3 : Int32) (z : mm_S) (oo : mm_R) : mm_Xs (sX4_dryNow_19 y1 y3 z) (mm_mt (fun x : Int64 × Int32 × mm_S => ∃ n, eX4_dryNow_4 n x.1 x.2.1 x.2.2 = some oo) (fun v => (fun v : Int64 × mm_S => ((some (mm_J v.1), v.2) : mm_R)) v = oo)) (fun n => eX4_dryNow_19 n y1 y3 z) oo :=
  xs_row (fun n => qX4_dryNow_19 n y1 y3 z) (kX4_dryNow_29 y1 y3 1 0 z oo)
noncomputable def lX4_dryNow_4 (s : Int64 × Int32 × mm_S) : Option ((Int64 × Int32 × mm_S) ⊕ (Int64 × mm_S)) := if 36 ≤ s.2.1 then some (.inr (s.1, s.2.2)) else (sX4_stuffIs s.2.1 s.2.2).bind fun q1 => if q1.1 = 3 then (sX4_dryNow_29 s.1 s.2.1 0 0 q1.2) else (sX4_dryNow_19 s.1 s.2.1 q1.2)
noncomputable def sX4_dryNow_4 (y1 : Int64) (y3 : Int32) (z : mm_S) : Option (Int64 × mm_S) := mm_wh (lX4_dryNow_4 ) mm_fu (y1, y3, z)
theorem kX4_dryNow_4 (y1 : Int64) (y3 : Int32) (z : mm_S) (oo : mm_R) : mm_Xs (sX4_dryNow_4 y1 y3 z) (fun v => (fun v : Int64 × mm_S => ((some (mm_J v.1), v.2) : mm_R)) v = oo) (fun n => eX4_dryNow_4 n y1 y3 z) oo :=
  xs_wh (stp := lX4_dryNow_4 ) (o := oo) (E := (fun (s : Int64 × Int32 × mm_S) n => eX4_dryNow_4 n s.1 s.2.1 s.2.2)) (C := (fun v => (fun v : Int64 × mm_S => ((some (mm_J v.1), v.2) : mm_R)) v = oo)) (fun s => xs_row (fun n => qX4_dryNow_4 n s.1 s.2.1 s.2.2) (xs_if (xs_v fun hc => ⟨0, congrArg some hc⟩) (xs_bd fun q1 => (xs_if (kX4_dryNow_29 s.1 s.2.1 0 0 q1.2 oo) (kX4_dryNow_19 s.1 s.2.1 q1.2 oo))))) mm_fu (y1, y3, z)
noncomputable def sX4_dryNow_0  (z : mm_S) : Option (Int64 × mm_S) := (sX4_dryNow_4 0 0 z)
theorem kX4_dryNow_0  (z : mm_S) (oo : mm_R) : mm_Xs (sX4_dryNow_0  z) (fun v => (fun v : Int64 × mm_S => ((some (mm_J v.1), v.2) : mm_R)) v = oo) (fun n => eX4_dryNow_0 n  z) oo :=
  xs_row (fun n => qX4_dryNow_0 n z) (kX4_dryNow_4 0 0 z oo)
noncomputable def sX4_dryNow  (z : mm_S) : Option (Int64 × mm_S) := sX4_dryNow_0  z
theorem sp_X4_dryNow  (z : mm_S) (hk : ∀ v ∈ [mm_P 4 0], mm_ok 22 lyTM 22 17 v) (q : Int64 × mm_S) (hq : sX4_dryNow  z = some q) : f_X4_dryNow [mm_P 4 0] z (some (mm_J q.1), q.2) := ⟨Nat.le_of_ble_eq_true rfl, kX4_dryNow_0  z _ q hq rfl⟩
noncomputable def clo_X4_dryNow (as : List mm_V) (z : mm_S) (kk : Option mm_V → mm_S → Option mm_R) : Option mm_R := mm_pr as fun t o0 as => bif Nat.beq t 4 then (match as with | [] => (sX4_dryNow z).bind fun q => kk (some (mm_J q.1)) q.2 | _ => none) else none
theorem cs_X4_dryNow : mm_cs lyTM 22 22 17 f_X4_dryNow clo_X4_dryNow := by
  intro as z K o hk h
  obtain ⟨t0, o0, r0, rfl, g0⟩ := mm_pr_e h
  obtain ⟨b0, k0⟩ := mm_bif_e g0
  obtain rfl := Nat.eq_of_beq_eq_true b0
  rcases r0 with _ | ⟨u, w⟩
  rotate_left
  · cases k0
  obtain rfl : o0 = 0 := ok4 (hk (mm_P 4 o0) (by simp))
  obtain ⟨q, hq, hq2⟩ := Option.bind_eq_some_iff.mp k0
  exact ⟨_, _, sp_X4_dryNow  z hk q hq, fun v hv => by cases hv; exact Or.inr ⟨_, rfl⟩, hq2⟩
theorem sV_X4_dryNow {own : String} {R : Room} {ar : Nat → Nat} {k : Nat} (hlink : Cond.methodLink own k yX4_dryNow ∈ lw_gd ∨ ∃ host, (own, k, yX4_dryNow, host) ∈ nmA) (har : ar k = 1) (hr : 3 ≤ R.frames ∧ 71 ≤ R.locals) : mm_okV lyTM lyFA lenM snM 22 22 17 roM rsA nfA nmA [] own R ar k clo_X4_dryNow := by
  refine ⟨yX4_dryNow, cX4_dryNow, 7, some .long, rm_X4_dryNow, f_X4_dryNow, 4, 0, (RX4, TX4, 36), M_X4_dryNow, cs_X4_dryNow, hlink, ⟨wv_X4_dryNow, wz_X4_dryNow, wi_X4_dryNow, wc_X4_dryNow⟩, ⟨by decide +kernel, by decide +kernel, by decide +kernel⟩, har, ⟨rfl, rfl, by decide⟩, ?_, ⟨rfl, rfl, hr.1, hr.2⟩⟩
  intro as z K o h
  obtain ⟨t0, o0, r0, rfl, g0⟩ := mm_pr_e h
  obtain ⟨b0, k0⟩ := mm_bif_e g0
  obtain rfl := Nat.eq_of_beq_eq_true b0
  exact ⟨_, _, rfl⟩
-- X4_dryInAll
noncomputable def lV_X4_dryInAll : List (Nat × (List mm_V → mm_S → (Option mm_V → mm_S → Option mm_R) → Option mm_R)) := [(247, clo_X4_maps), (250, clo_X4_lay), (254, clo_X4_mapNow), (270, clo_X4_nextFit), (279, clo_X4_dryNow)]
noncomputable def mV_X4_dryInAll (k : Nat) (as : List mm_V) (z : mm_S) (kk : Option mm_V → mm_S → Option mm_R) : Option mm_R := match mm_at lV_X4_dryInAll k with
  | some f => f as z kk
  | none => none
noncomputable def arV_X4_dryInAll (k : Nat) : Nat := (mm_at [(247, 1), (250, 2), (254, 1), (270, 2), (279, 1)] k).getD 0
noncomputable def lS_X4_dryInAll : List (Nat × (List mm_V → mm_S → (Option mm_V → mm_S → Option mm_R) → Option mm_R)) := []
noncomputable def mS_X4_dryInAll (k : Nat) (as : List mm_V) (z : mm_S) (kk : Option mm_V → mm_S → Option mm_R) : Option mm_R := match mm_at lS_X4_dryInAll k with
  | some f => f as z kk
  | none => none
noncomputable def arS_X4_dryInAll (k : Nat) : Nat := (mm_at [] k).getD 0
def ct_X4_dryInAll : List (Nat × List Nat) := [(5, [0, 1]), (10, [0, 1, 2]), (20, [0, 1, 2, 4, 5]), (29, [0, 1, 2, 5]), (36, [0, 1, 2, 5]), (49, [0, 1, 2, 4, 5]), (57, [2, 4])]
noncomputable def go_X4_dryInAll : Nat → mm_K := mm_go (fun k => mm_at flX4 k) (fun k => mm_at clX4 k) (fun k => mm_at glX4 k) arV_X4_dryInAll arS_X4_dryInAll mV_X4_dryInAll mS_X4_dryInAll lenM roM snM 6 2 tbX4_dryInAll ct_X4_dryInAll
noncomputable def eX4_dryInAll_0 (n : Nat)  (z : mm_S) : Option mm_R := go_X4_dryInAll n 0 [(0, mm_P 4 0)] [] z
noncomputable def eX4_dryInAll_5 (n : Nat)  (y1 : Int32) (z : mm_S) : Option mm_R := go_X4_dryInAll n 5 [(0, mm_P 4 0), (1, mm_I y1)] [] z
noncomputable def eX4_dryInAll_10 (n : Nat)  (y1 : Int32) (y2 : Int64) (z : mm_S) : Option mm_R := go_X4_dryInAll n 10 [(0, mm_P 4 0), (1, mm_I y1), (2, mm_J y2)] [] z
noncomputable def eX4_dryInAll_20 (n : Nat)  (y1 : Int32) (y2 : Int64) (y4 : Int32) (y5 : Int32) (z : mm_S) : Option mm_R := go_X4_dryInAll n 20 [(0, mm_P 4 0), (1, mm_I y1), (2, mm_J y2), (4, mm_I y4), (5, mm_I y5)] [] z
noncomputable def eX4_dryInAll_57 (n : Nat) (y2 : Int64) (y4 : Int32) (z : mm_S) : Option mm_R := go_X4_dryInAll n 57 [(2, mm_J y2), (4, mm_I y4)] [] z
noncomputable def eX4_dryInAll_29 (n : Nat)  (y1 : Int32) (y2 : Int64) (y5 : Int32) (z : mm_S) : Option mm_R := go_X4_dryInAll n 29 [(0, mm_P 4 0), (1, mm_I y1), (2, mm_J y2), (5, mm_I y5)] [] z
noncomputable def eX4_dryInAll_36 (n : Nat)  (y1 : Int32) (y2 : Int64) (y5 : Int32) (z : mm_S) : Option mm_R := go_X4_dryInAll n 36 [(0, mm_P 4 0), (1, mm_I y1), (2, mm_J y2), (5, mm_I y5)] [] z
noncomputable def eX4_dryInAll_49 (n : Nat)  (y1 : Int32) (y2 : Int64) (y4 : Int32) (y5 : Int32) (z : mm_S) : Option mm_R := go_X4_dryInAll n 49 [(0, mm_P 4 0), (1, mm_I y1), (2, mm_J y2), (4, mm_I y4), (5, mm_I y5)] [] z
set_option maxRecDepth 100000 in
theorem qX4_dryInAll_0 (n : Nat)  (z : mm_S) : eX4_dryInAll_0 (n + 1)  z = ((sX4_mapNow  z).bind fun q1 => eX4_dryInAll_5 n q1.1 q1.2) := rfl
set_option maxRecDepth 100000 in
theorem qX4_dryInAll_5 (n : Nat)  (y1 : Int32) (z : mm_S) : eX4_dryInAll_5 (n + 1) y1 z = ((sX4_dryNow  z).bind fun q2 => eX4_dryInAll_10 n y1 q2.1 q2.2) := rfl
set_option maxRecDepth 100000 in
theorem qX4_dryInAll_10 (n : Nat)  (y1 : Int32) (y2 : Int64) (z : mm_S) : eX4_dryInAll_10 (n + 1) y1 y2 z = ((sX4_nextFit 0 z).bind fun q3 => eX4_dryInAll_20 n y1 y2 0 q3.1 q3.2) := rfl
set_option maxRecDepth 100000 in
theorem qX4_dryInAll_20 (n : Nat)  (y1 : Int32) (y2 : Int64) (y4 : Int32) (y5 : Int32) (z : mm_S) : eX4_dryInAll_20 (n + 1) y1 y2 y4 y5 z = ((sX4_maps  z).bind fun q4 => if q4.1 ≤ y5 then (sX4_lay y1 q4.2).bind fun q5 => eX4_dryInAll_57 n y2 y4 q5 else eX4_dryInAll_29 n y1 y2 y5 q4.2) := rfl
set_option maxRecDepth 100000 in
theorem qX4_dryInAll_57 (n : Nat) (y2 : Int64) (y4 : Int32) (z : mm_S) : eX4_dryInAll_57 (n + 1) y2 y4 z = (if y4 = 0 then some (some (mm_J 0), z) else some (some (mm_J y2), z)) := rfl
set_option maxRecDepth 100000 in
theorem qX4_dryInAll_29 (n : Nat)  (y1 : Int32) (y2 : Int64) (y5 : Int32) (z : mm_S) : eX4_dryInAll_29 (n + 1) y1 y2 y5 z = ((sX4_dryNow  z).bind fun q6 => eX4_dryInAll_36 n y1 (y2 &&& q6.1) y5 q6.2) := rfl
set_option maxRecDepth 100000 in
theorem qX4_dryInAll_36 (n : Nat)  (y1 : Int32) (y2 : Int64) (y5 : Int32) (z : mm_S) : eX4_dryInAll_36 (n + 1) y1 y2 y5 z = ((sX4_nextFit (y5 + 1) z).bind fun q7 => eX4_dryInAll_49 n y1 y2 1 q7.1 q7.2) := rfl
set_option maxRecDepth 100000 in
theorem qX4_dryInAll_49 (n : Nat)  (y1 : Int32) (y2 : Int64) (y4 : Int32) (y5 : Int32) (z : mm_S) : eX4_dryInAll_49 (n + 1) y1 y2 y4 y5 z = (eX4_dryInAll_20 n y1 y2 y4 y5 z) := rfl
def rm_X4_dryInAll : Room := { frames := 7, cells := 0, slots := 0, locals := 159 }
noncomputable def f_X4_dryInAll (as : List mm_V) (z : mm_S) (o : mm_R) : Prop := (as.map mm_cat).sum ≤ 6 ∧ ∃ n, go_X4_dryInAll n 0 (mm_ar 0 as) [] z = some o
theorem M_X4_dryInAll : mm_M lyTM lyFA lenM snM 22 22 17 roM rsA nfA nmA [] yX4_dryInAll cX4_dryInAll 6 (some .long) rm_X4_dryInAll f_X4_dryInAll :=
  mm_met (rt := 2) (by decide +kernel) ⟨fun h => absurd h (by decide), fun h => absurd h (by decide), fun h => rfl, fun h => absurd h (by decide)⟩ tbX4_dryInAll_ok hsnM okFX4 okLX4 (fun _ h => absurd h List.not_mem_nil) (fun _ _ _ _ => rfl) (fun _ _ _ _ => rfl) (List.forall_mem_cons.mpr ⟨sV_X4_maps (Or.inl lk_X4_247) rfl ⟨by decide, by decide⟩, List.forall_mem_cons.mpr ⟨sV_X4_lay (Or.inl lk_X4_250) rfl ⟨by decide, by decide⟩, List.forall_mem_cons.mpr ⟨sV_X4_mapNow (Or.inl lk_X4_254) rfl ⟨by decide, by decide⟩, List.forall_mem_cons.mpr ⟨sV_X4_nextFit (Or.inl lk_X4_270) rfl ⟨by decide, by decide⟩, List.forall_mem_cons.mpr ⟨sV_X4_dryNow (Or.inl lk_X4_279) rfl ⟨by decide, by decide⟩, fun _ h => absurd h List.not_mem_nil⟩⟩⟩⟩⟩) (fun _ h => absurd h List.not_mem_nil)
noncomputable def sX4_dryInAll_49 (y1 : Int32) (y2 : Int64) (y4 : Int32) (y5 : Int32) (z : mm_S) : Option ((Int32 × Int64 × Int32 × Int32 × mm_S) ⊕ (Int64 × mm_S)) := some (.inl (y1, y2, y4, y5, z))
theorem kX4_dryInAll_49 (y1 : Int32) (y2 : Int64) (y4 : Int32) (y5 : Int32) (z : mm_S) (oo : mm_R) : mm_Xs (sX4_dryInAll_49 y1 y2 y4 y5 z) (mm_mt (fun x : Int32 × Int64 × Int32 × Int32 × mm_S => ∃ n, eX4_dryInAll_20 n x.1 x.2.1 x.2.2.1 x.2.2.2.1 x.2.2.2.2 = some oo) (fun v => (fun v : Int64 × mm_S => ((some (mm_J v.1), v.2) : mm_R)) v = oo)) (fun n => eX4_dryInAll_49 n y1 y2 y4 y5 z) oo :=
  xs_row (fun n => qX4_dryInAll_49 n y1 y2 y4 y5 z) (xs_v fun hc => hc)
noncomputable def sX4_dryInAll_36 (y1 : Int32) (y2 : Int64) (y5 : Int32) (z : mm_S) : Option ((Int32 × Int64 × Int32 × Int32 × mm_S) ⊕ (Int64 × mm_S)) := (sX4_nextFit (y5 + 1) z).bind fun q7 => (sX4_dryInAll_49 y1 y2 1 q7.1 q7.2)
theorem kX4_dryInAll_36 (y1 : Int32) (y2 : Int64) (y5 : Int32) (z : mm_S) (oo : mm_R) : mm_Xs (sX4_dryInAll_36 y1 y2 y5 z) (mm_mt (fun x : Int32 × Int64 × Int32 × Int32 × mm_S => ∃ n, eX4_dryInAll_20 n x.1 x.2.1 x.2.2.1 x.2.2.2.1 x.2.2.2.2 = some oo) (fun v => (fun v : Int64 × mm_S => ((some (mm_J v.1), v.2) : mm_R)) v = oo)) (fun n => eX4_dryInAll_36 n y1 y2 y5 z) oo :=
  xs_row (fun n => qX4_dryInAll_36 n y1 y2 y5 z) (xs_bd fun q7 => (kX4_dryInAll_49 y1 y2 1 q7.1 q7.2 oo))
noncomputable def sX4_dryInAll_29 (y1 : Int32) (y2 : Int64) (y5 : Int32) (z : mm_S) : Option ((Int32 × Int64 × Int32 × Int32 × mm_S) ⊕ (Int64 × mm_S)) := (sX4_dryNow  z).bind fun q6 => (sX4_dryInAll_36 y1 (y2 &&& q6.1) y5 q6.2)
theorem kX4_dryInAll_29 (y1 : Int32) (y2 : Int64) (y5 : Int32) (z : mm_S) (oo : mm_R) : mm_Xs (sX4_dryInAll_29 y1 y2 y5 z) (mm_mt (fun x : Int32 × Int64 × Int32 × Int32 × mm_S => ∃ n, eX4_dryInAll_20 n x.1 x.2.1 x.2.2.1 x.2.2.2.1 x.2.2.2.2 = some oo) (fun v => (fun v : Int64 × mm_S => ((some (mm_J v.1), v.2) : mm_R)) v = oo)) (fun n => eX4_dryInAll_29 n y1 y2 y5 z) oo :=
  xs_row (fun n => qX4_dryInAll_29 n y1 y2 y5 z) (xs_bd fun q6 => (kX4_dryInAll_36 y1 (y2 &&& q6.1) y5 q6.2 oo))
noncomputable def sX4_dryInAll_57 (y2 : Int64) (y4 : Int32) (z : mm_S) : Option (Int64 × mm_S) := if y4 = 0 then some (0, z) else some (y2, z)
theorem kX4_dryInAll_57 (y2 : Int64) (y4 : Int32) (z : mm_S) (oo : mm_R) : mm_Xs (sX4_dryInAll_57 y2 y4 z) (fun v => (fun v : Int64 × mm_S => ((some (mm_J v.1), v.2) : mm_R)) v = oo) (fun n => eX4_dryInAll_57 n y2 y4 z) oo :=
  xs_row (fun n => qX4_dryInAll_57 n y2 y4 z) (xs_if (xs_v fun hc => ⟨0, congrArg some hc⟩) (xs_v fun hc => ⟨0, congrArg some hc⟩))
noncomputable def lX4_dryInAll_20 (s : Int32 × Int64 × Int32 × Int32 × mm_S) : Option ((Int32 × Int64 × Int32 × Int32 × mm_S) ⊕ (Int64 × mm_S)) := (sX4_maps  s.2.2.2.2).bind fun q4 => if q4.1 ≤ s.2.2.2.1 then (sX4_lay s.1 q4.2).bind fun q5 => ((sX4_dryInAll_57 s.2.1 s.2.2.1 q5).map fun w => (Sum.inr w)) else (sX4_dryInAll_29 s.1 s.2.1 s.2.2.2.1 q4.2)
noncomputable def sX4_dryInAll_20 (y1 : Int32) (y2 : Int64) (y4 : Int32) (y5 : Int32) (z : mm_S) : Option (Int64 × mm_S) := mm_wh (lX4_dryInAll_20 ) mm_fu (y1, y2, y4, y5, z)
theorem kX4_dryInAll_20 (y1 : Int32) (y2 : Int64) (y4 : Int32) (y5 : Int32) (z : mm_S) (oo : mm_R) : mm_Xs (sX4_dryInAll_20 y1 y2 y4 y5 z) (fun v => (fun v : Int64 × mm_S => ((some (mm_J v.1), v.2) : mm_R)) v = oo) (fun n => eX4_dryInAll_20 n y1 y2 y4 y5 z) oo :=
  xs_wh (stp := lX4_dryInAll_20 ) (o := oo) (E := (fun (s : Int32 × Int64 × Int32 × Int32 × mm_S) n => eX4_dryInAll_20 n s.1 s.2.1 s.2.2.1 s.2.2.2.1 s.2.2.2.2)) (C := (fun v => (fun v : Int64 × mm_S => ((some (mm_J v.1), v.2) : mm_R)) v = oo)) (fun s => xs_row (fun n => qX4_dryInAll_20 n s.1 s.2.1 s.2.2.1 s.2.2.2.1 s.2.2.2.2) (xs_bd fun q4 => (xs_if (xs_bd fun q5 => (xs_map (f := fun w => (Sum.inr w)) (kX4_dryInAll_57 s.2.1 s.2.2.1 q5 oo) (fun _ h => h))) (kX4_dryInAll_29 s.1 s.2.1 s.2.2.2.1 q4.2 oo)))) mm_fu (y1, y2, y4, y5, z)
noncomputable def sX4_dryInAll_10 (y1 : Int32) (y2 : Int64) (z : mm_S) : Option (Int64 × mm_S) := (sX4_nextFit 0 z).bind fun q3 => (sX4_dryInAll_20 y1 y2 0 q3.1 q3.2)
theorem kX4_dryInAll_10 (y1 : Int32) (y2 : Int64) (z : mm_S) (oo : mm_R) : mm_Xs (sX4_dryInAll_10 y1 y2 z) (fun v => (fun v : Int64 × mm_S => ((some (mm_J v.1), v.2) : mm_R)) v = oo) (fun n => eX4_dryInAll_10 n y1 y2 z) oo :=
  xs_row (fun n => qX4_dryInAll_10 n y1 y2 z) (xs_bd fun q3 => (kX4_dryInAll_20 y1 y2 0 q3.1 q3.2 oo))
noncomputable def sX4_dryInAll_5 (y1 : Int32) (z : mm_S) : Option (Int64 × mm_S) := (sX4_dryNow  z).bind fun q2 => (sX4_dryInAll_10 y1 q2.1 q2.2)
theorem kX4_dryInAll_5 (y1 : Int32) (z : mm_S) (oo : mm_R) : mm_Xs (sX4_dryInAll_5 y1 z) (fun v => (fun v : Int64 × mm_S => ((some (mm_J v.1), v.2) : mm_R)) v = oo) (fun n => eX4_dryInAll_5 n y1 z) oo :=
  xs_row (fun n => qX4_dryInAll_5 n y1 z) (xs_bd fun q2 => (kX4_dryInAll_10 y1 q2.1 q2.2 oo))
noncomputable def sX4_dryInAll_0  (z : mm_S) : Option (Int64 × mm_S) := (sX4_mapNow  z).bind fun q1 => (sX4_dryInAll_5 q1.1 q1.2)
theorem kX4_dryInAll_0  (z : mm_S) (oo : mm_R) : mm_Xs (sX4_dryInAll_0  z) (fun v => (fun v : Int64 × mm_S => ((some (mm_J v.1), v.2) : mm_R)) v = oo) (fun n => eX4_dryInAll_0 n  z) oo :=
  xs_row (fun n => qX4_dryInAll_0 n z) (xs_bd fun q1 => (kX4_dryInAll_5 q1.1 q1.2 oo))
noncomputable def sX4_dryInAll  (z : mm_S) : Option (Int64 × mm_S) := sX4_dryInAll_0  z
theorem sp_X4_dryInAll  (z : mm_S) (hk : ∀ v ∈ [mm_P 4 0], mm_ok 22 lyTM 22 17 v) (q : Int64 × mm_S) (hq : sX4_dryInAll  z = some q) : f_X4_dryInAll [mm_P 4 0] z (some (mm_J q.1), q.2) := ⟨Nat.le_of_ble_eq_true rfl, kX4_dryInAll_0  z _ q hq rfl⟩
noncomputable def clo_X4_dryInAll (as : List mm_V) (z : mm_S) (kk : Option mm_V → mm_S → Option mm_R) : Option mm_R := mm_pr as fun t o0 as => bif Nat.beq t 4 then (match as with | [] => (sX4_dryInAll z).bind fun q => kk (some (mm_J q.1)) q.2 | _ => none) else none
theorem cs_X4_dryInAll : mm_cs lyTM 22 22 17 f_X4_dryInAll clo_X4_dryInAll := by
  intro as z K o hk h
  obtain ⟨t0, o0, r0, rfl, g0⟩ := mm_pr_e h
  obtain ⟨b0, k0⟩ := mm_bif_e g0
  obtain rfl := Nat.eq_of_beq_eq_true b0
  rcases r0 with _ | ⟨u, w⟩
  rotate_left
  · cases k0
  obtain rfl : o0 = 0 := ok4 (hk (mm_P 4 o0) (by simp))
  obtain ⟨q, hq, hq2⟩ := Option.bind_eq_some_iff.mp k0
  exact ⟨_, _, sp_X4_dryInAll  z hk q hq, fun v hv => by cases hv; exact Or.inr ⟨_, rfl⟩, hq2⟩
theorem sV_X4_dryInAll {own : String} {R : Room} {ar : Nat → Nat} {k : Nat} (hlink : Cond.methodLink own k yX4_dryInAll ∈ lw_gd ∨ ∃ host, (own, k, yX4_dryInAll, host) ∈ nmA) (har : ar k = 1) (hr : 8 ≤ R.frames ∧ 184 ≤ R.locals) : mm_okV lyTM lyFA lenM snM 22 22 17 roM rsA nfA nmA [] own R ar k clo_X4_dryInAll := by
  refine ⟨yX4_dryInAll, cX4_dryInAll, 6, some .long, rm_X4_dryInAll, f_X4_dryInAll, 4, 0, (RX4, TX4, 36), M_X4_dryInAll, cs_X4_dryInAll, hlink, ⟨wv_X4_dryInAll, wz_X4_dryInAll, wi_X4_dryInAll, wc_X4_dryInAll⟩, ⟨by decide +kernel, by decide +kernel, by decide +kernel⟩, har, ⟨rfl, rfl, by decide⟩, ?_, ⟨rfl, rfl, hr.1, hr.2⟩⟩
  intro as z K o h
  obtain ⟨t0, o0, r0, rfl, g0⟩ := mm_pr_e h
  obtain ⟨b0, k0⟩ := mm_bif_e g0
  obtain rfl := Nat.eq_of_beq_eq_true b0
  exact ⟨_, _, rfl⟩
