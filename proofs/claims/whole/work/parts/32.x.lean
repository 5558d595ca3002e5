-- X1_timesTo
noncomputable def lV_X1_timesTo : List (Nat × (List mm_V → mm_S → (Option mm_V → mm_S → Option mm_R) → Option mm_R)) := [(101, clo_X1_timesFrom), (105, clo_X1_paceOf)]
noncomputable def mV_X1_timesTo (k : Nat) (as : List mm_V) (z : mm_S) (kk : Option mm_V → mm_S → Option mm_R) : Option mm_R := match mm_at lV_X1_timesTo k with
  | some f => f as z kk
  | none => none
noncomputable def arV_X1_timesTo (k : Nat) : Nat := (mm_at [(101, 3), (105, 2)] k).getD 0
noncomputable def lS_X1_timesTo : List (Nat × (List mm_V → mm_S → (Option mm_V → mm_S → Option mm_R) → Option mm_R)) := [(52, clo_X3_at), (97, clo_X3_exchange)]
noncomputable def mS_X1_timesTo (k : Nat) (as : List mm_V) (z : mm_S) (kk : Option mm_V → mm_S → Option mm_R) : Option mm_R := match mm_at lS_X1_timesTo k with
  | some f => f as z kk
  | none => none
noncomputable def arS_X1_timesTo (k : Nat) : Nat := (mm_at [(52, 2), (97, 3)] k).getD 0
def ct_X1_timesTo : List (Nat × List Nat) := [(6, [0, 1, 2]), (15, [0, 2, 3, 4]), (54, [0, 2, 3, 4])]
noncomputable def go_X1_timesTo : Nat → mm_K := mm_go (fun k => mm_at flX1 k) (fun k => mm_at clX1 k) (fun k => mm_at glX1 k) arV_X1_timesTo arS_X1_timesTo mV_X1_timesTo mS_X1_timesTo lenX roX snX 5 3 tbX1_timesTo ct_X1_timesTo
noncomputable def eX1_timesTo_0 (n : Nat) (o : Nat) (x1 : Int32) (x2 : Nat) (z : mm_S) : Option mm_R := go_X1_timesTo n 0 [(0, mm_P 1 o), (1, mm_I x1), (2, mm_P 10 x2)] [] z
noncomputable def eX1_timesTo_6 (n : Nat) (o : Nat) (y1 : Int32) (y2 : Nat) (z : mm_S) : Option mm_R := go_X1_timesTo n 6 [(0, mm_P 1 o), (1, mm_I y1), (2, mm_P 10 y2)] [] z
noncomputable def eX1_timesTo_15 (n : Nat) (o : Nat) (y2 : Nat) (y3 : Int32) (y4 : Int32) (z : mm_S) : Option mm_R := go_X1_timesTo n 15 [(0, mm_P 1 o), (2, mm_P 10 y2), (3, mm_I y3), (4, mm_I y4)] [] z
noncomputable def eX1_timesTo_54 (n : Nat) (o : Nat) (y2 : Nat) (y3 : Int32) (y4 : Int32) (z : mm_S) : Option mm_R := go_X1_timesTo n 54 [(0, mm_P 1 o), (2, mm_P 10 y2), (3, mm_I y3), (4, mm_I y4)] [] z
set_option maxRecDepth 100000 in
theorem qX1_timesTo_0_2 (n : Nat)  (x1 : Int32) (x2 : Nat) (z : mm_S) : eX1_timesTo_0 (n + 1) 2 x1 x2 z = ((sX1_timesFrom 2 x1 x2 z).bind fun q1 => eX1_timesTo_6 n 2 x1 x2 q1) := rfl
set_option maxRecDepth 100000 in
theorem qX1_timesTo_6_2 (n : Nat)  (y1 : Int32) (y2 : Nat) (z : mm_S) : eX1_timesTo_6 (n + 1) 2 y1 y2 z = (eX1_timesTo_15 n 2 y2 (pX1_paceOf 2 y1 z) 0 z) := rfl
set_option maxRecDepth 100000 in
theorem qX1_timesTo_15_2 (n : Nat)  (y2 : Nat) (y3 : Int32) (y4 : Int32) (z : mm_S) : eX1_timesTo_15 (n + 1) 2 y2 y3 y4 z = (if 36 ≤ y4 then some (none, z) else if (pX3_at y2 y4 z) = (-1) then eX1_timesTo_54 n 2 y2 y3 y4 z else let u2 := (tX3_exchange y2 y4 (((pX3_at y2 y4 z) + y3) - (pX1_paceOf 2 y4 z)) z); eX1_timesTo_54 n 2 y2 y3 y4 u2.2) := rfl
set_option maxRecDepth 100000 in
theorem qX1_timesTo_54_2 (n : Nat)  (y2 : Nat) (y3 : Int32) (y4 : Int32) (z : mm_S) : eX1_timesTo_54 (n + 1) 2 y2 y3 y4 z = (eX1_timesTo_15 n 2 y2 y3 (y4 + 1) z) := rfl
set_option maxRecDepth 100000 in
theorem qX1_timesTo_0_14 (n : Nat)  (x1 : Int32) (x2 : Nat) (z : mm_S) : eX1_timesTo_0 (n + 1) 14 x1 x2 z = ((sX1_timesFrom 14 x1 x2 z).bind fun q1 => eX1_timesTo_6 n 14 x1 x2 q1) := rfl
set_option maxRecDepth 100000 in
theorem qX1_timesTo_6_14 (n : Nat)  (y1 : Int32) (y2 : Nat) (z : mm_S) : eX1_timesTo_6 (n + 1) 14 y1 y2 z = (eX1_timesTo_15 n 14 y2 (pX1_paceOf 14 y1 z) 0 z) := rfl
set_option maxRecDepth 100000 in
theorem qX1_timesTo_15_14 (n : Nat)  (y2 : Nat) (y3 : Int32) (y4 : Int32) (z : mm_S) : eX1_timesTo_15 (n + 1) 14 y2 y3 y4 z = (if 36 ≤ y4 then some (none, z) else if (pX3_at y2 y4 z) = (-1) then eX1_timesTo_54 n 14 y2 y3 y4 z else let u2 := (tX3_exchange y2 y4 (((pX3_at y2 y4 z) + y3) - (pX1_paceOf 14 y4 z)) z); eX1_timesTo_54 n 14 y2 y3 y4 u2.2) := rfl
set_option maxRecDepth 100000 in
theorem qX1_timesTo_54_14 (n : Nat)  (y2 : Nat) (y3 : Int32) (y4 : Int32) (z : mm_S) : eX1_timesTo_54 (n + 1) 14 y2 y3 y4 z = (eX1_timesTo_15 n 14 y2 y3 (y4 + 1) z) := rfl
set_option maxRecDepth 100000 in
theorem qX1_timesTo_0_26 (n : Nat)  (x1 : Int32) (x2 : Nat) (z : mm_S) : eX1_timesTo_0 (n + 1) 26 x1 x2 z = ((sX1_timesFrom 26 x1 x2 z).bind fun q1 => eX1_timesTo_6 n 26 x1 x2 q1) := rfl
set_option maxRecDepth 100000 in
theorem qX1_timesTo_6_26 (n : Nat)  (y1 : Int32) (y2 : Nat) (z : mm_S) : eX1_timesTo_6 (n + 1) 26 y1 y2 z = (eX1_timesTo_15 n 26 y2 (pX1_paceOf 26 y1 z) 0 z) := rfl
set_option maxRecDepth 100000 in
theorem qX1_timesTo_15_26 (n : Nat)  (y2 : Nat) (y3 : Int32) (y4 : Int32) (z : mm_S) : eX1_timesTo_15 (n + 1) 26 y2 y3 y4 z = (if 36 ≤ y4 then some (none, z) else if (pX3_at y2 y4 z) = (-1) then eX1_timesTo_54 n 26 y2 y3 y4 z else let u2 := (tX3_exchange y2 y4 (((pX3_at y2 y4 z) + y3) - (pX1_paceOf 26 y4 z)) z); eX1_timesTo_54 n 26 y2 y3 y4 u2.2) := rfl
set_option maxRecDepth 100000 in
theorem qX1_timesTo_54_26 (n : Nat)  (y2 : Nat) (y3 : Int32) (y4 : Int32) (z : mm_S) : eX1_timesTo_54 (n + 1) 26 y2 y3 y4 z = (eX1_timesTo_15 n 26 y2 y3 (y4 + 1) z) := rfl
def rm_X1_timesTo : Room := { frames := 3, cells := 0, slots := 0, locals := 83 }
noncomputable def f_X1_timesTo (as : List mm_V) (z : mm_S) (o : mm_R) : Prop := (as.map mm_cat).sum ≤ 5 ∧ ∃ n, go_X1_timesTo n 0 (mm_ar 0 as) [] z = some o
theorem M_X1_timesTo : mm_M lyTX lyFA lenX snX 46 48 17 roX rsA nfA nmA ssX yX1_timesTo cX1_timesTo 5 (none) rm_X1_timesTo f_X1_timesTo :=
  mm_met (rt := 3) (by decide +kernel) ⟨fun h => absurd h (by decide), fun h => absurd h (by decide), fun h => absurd h (by decide), fun h => rfl⟩ tbX1_timesTo_ok hsnX okFX1 okLX1 okGX1 (fun _ _ _ _ => rfl) (fun _ _ _ _ => rfl) (List.forall_mem_cons.mpr ⟨sV_X1_timesFrom (Or.inl lk_X1_101) rfl ⟨by decide, by decide⟩, List.forall_mem_cons.mpr ⟨sV_X1_paceOf (Or.inl lk_X1_105) rfl ⟨by decide, by decide⟩, fun _ h => absurd h List.not_mem_nil⟩⟩) (List.forall_mem_cons.mpr ⟨sS_X3_at (Or.inr ⟨_, ln_X1_52⟩) rfl ⟨by decide, by decide⟩, List.forall_mem_cons.mpr ⟨sS_X3_exchange (Or.inr ⟨_, ln_X1_97⟩) rfl ⟨by decide, by decide⟩, fun _ h => absurd h List.not_mem_nil⟩⟩)
noncomputable def sX1_timesTo_54 (o : Nat) (y2 : Nat) (y3 : Int32) (y4 : Int32) (z : mm_S) : Option ((Nat × Int32 × Int32 × mm_S) ⊕ (mm_S)) := some (.inl (y2, y3, (y4 + 1), z))
theorem kX1_timesTo_54 (o : Nat) (hk : mm_ok 46 lyTX 48 17 (mm_P 1 o)) (y2 : Nat) (y3 : Int32) (y4 : Int32) (z : mm_S) (oo : mm_R) : mm_Xs (sX1_timesTo_54 o y2 y3 y4 z) (mm_mt (fun x : Nat × Int32 × Int32 × mm_S => ∃ n, eX1_timesTo_15 n o x.1 x.2.1 x.2.2.1 x.2.2.2 = some oo) (fun v => (fun v : mm_S => ((none, v) : mm_R)) v = oo)) (fun n => eX1_timesTo_54 n o y2 y3 y4 z) oo :=
  xs_row (T := fun n => eX1_timesTo_15 n o y2 y3 (y4 + 1) z) (by rcases ok1 hk with rfl | rfl | rfl; exact fun n => qX1_timesTo_54_2 n y2 y3 y4 z; exact fun n => qX1_timesTo_54_14 n y2 y3 y4 z; exact fun n => qX1_timesTo_54_26 n y2 y3 y4 z) (xs_v fun hc => hc)
noncomputable def lX1_timesTo_15 (o : Nat) (s : Nat × Int32 × Int32 × mm_S) : Option ((Nat × Int32 × Int32 × mm_S) ⊕ (mm_S)) := if 36 ≤ s.2.2.1 then some (.inr (s.2.2.2)) else if (pX3_at s.1 s.2.2.1 s.2.2.2) = (-1) then (sX1_timesTo_54 o s.1 s.2.1 s.2.2.1 s.2.2.2) else let u2 := (tX3_exchange s.1 s.2.2.1 (((pX3_at s.1 s.2.2.1 s.2.2.2) + s.2.1) - (pX1_paceOf o s.2.2.1 s.2.2.2)) s.2.2.2); (sX1_timesTo_54 o s.1 s.2.1 s.2.2.1 u2.2)
noncomputable def sX1_timesTo_15 (o : Nat) (y2 : Nat) (y3 : Int32) (y4 : Int32) (z : mm_S) : Option (mm_S) := mm_wh (lX1_timesTo_15 o ) mm_fu (y2, y3, y4, z)
theorem kX1_timesTo_15 (o : Nat) (hk : mm_ok 46 lyTX 48 17 (mm_P 1 o)) (y2 : Nat) (y3 : Int32) (y4 : Int32) (z : mm_S) (oo : mm_R) : mm_Xs (sX1_timesTo_15 o y2 y3 y4 z) (fun v => (fun v : mm_S => ((none, v) : mm_R)) v = oo) (fun n => eX1_timesTo_15 n o y2 y3 y4 z) oo :=
  xs_wh (stp := lX1_timesTo_15 o ) (o := oo) (E := (fun (s : Nat × Int32 × Int32 × mm_S) n => eX1_timesTo_15 n o s.1 s.2.1 s.2.2.1 s.2.2.2)) (C := (fun v => (fun v : mm_S => ((none, v) : mm_R)) v = oo)) (fun s => xs_row (T := fun n => if 36 ≤ s.2.2.1 then some (none, s.2.2.2) else if (pX3_at s.1 s.2.2.1 s.2.2.2) = (-1) then eX1_timesTo_54 n o s.1 s.2.1 s.2.2.1 s.2.2.2 else let u2 := (tX3_exchange s.1 s.2.2.1 (((pX3_at s.1 s.2.2.1 s.2.2.2) + s.2.1) - (pX1_paceOf o s.2.2.1 s.2.2.2)) s.2.2.2); eX1_timesTo_54 n o s.1 s.2.1 s.2.2.1 u2.2) (by rcases ok1 hk with rfl | rfl | rfl; exact fun n => qX1_timesTo_15_2 n s.1 s.2.1 s.2.2.1 s.2.2.2; exact fun n => qX1_timesTo_15_14 n s.1 s.2.1 s.2.2.1 s.2.2.2; exact fun n => qX1_timesTo_15_26 n s.1 s.2.1 s.2.2.1 s.2.2.2) (xs_if (xs_v fun hc => ⟨0, congrArg some hc⟩) (xs_if (kX1_timesTo_54 o hk s.1 s.2.1 s.2.2.1 s.2.2.2 oo) (xs_let ((tX3_exchange s.1 s.2.2.1 (((pX3_at s.1 s.2.2.1 s.2.2.2) + s.2.1) - (pX1_paceOf o s.2.2.1 s.2.2.2)) s.2.2.2)) (S := fun (u2 : _) => ((sX1_timesTo_54 o s.1 s.2.1 s.2.2.1 u2.2) : Option ((Nat × Int32 × Int32 × mm_S) ⊕ (mm_S)))) (T := fun (u2 : _) n => eX1_timesTo_54 n o s.1 s.2.1 s.2.2.1 u2.2) (fun u2 => (kX1_timesTo_54 o hk s.1 s.2.1 s.2.2.1 u2.2 oo)))))) mm_fu (y2, y3, y4, z)
noncomputable def sX1_timesTo_6 (o : Nat) (y1 : Int32) (y2 : Nat) (z : mm_S) : Option (mm_S) := (sX1_timesTo_15 o y2 (pX1_paceOf o y1 z) 0 z)
theorem kX1_timesTo_6 (o : Nat) (hk : mm_ok 46 lyTX 48 17 (mm_P 1 o)) (y1 : Int32) (y2 : Nat) (z : mm_S) (oo : mm_R) : mm_Xs (sX1_timesTo_6 o y1 y2 z) (fun v => (fun v : mm_S => ((none, v) : mm_R)) v = oo) (fun n => eX1_timesTo_6 n o y1 y2 z) oo :=
  xs_row (T := fun n => eX1_timesTo_15 n o y2 (pX1_paceOf o y1 z) 0 z) (by rcases ok1 hk with rfl | rfl | rfl; exact fun n => qX1_timesTo_6_2 n y1 y2 z; exact fun n => qX1_timesTo_6_14 n y1 y2 z; exact fun n => qX1_timesTo_6_26 n y1 y2 z) (kX1_timesTo_15 o hk y2 (pX1_paceOf o y1 z) 0 z oo)
noncomputable def sX1_timesTo_0 (o : Nat) (x1 : Int32) (x2 : Nat) (z : mm_S) : Option (mm_S) := (sX1_timesFrom o x1 x2 z).bind fun q1 => (sX1_timesTo_6 o x1 x2 q1)
theorem kX1_timesTo_0 (o : Nat) (hk : mm_ok 46 lyTX 48 17 (mm_P 1 o)) (x1 : Int32) (x2 : Nat) (z : mm_S) (oo : mm_R) : mm_Xs (sX1_timesTo_0 o x1 x2 z) (fun v => (fun v : mm_S => ((none, v) : mm_R)) v = oo) (fun n => eX1_timesTo_0 n o x1 x2 z) oo :=
  xs_row (T := fun n => (sX1_timesFrom o x1 x2 z).bind fun q1 => eX1_timesTo_6 n o x1 x2 q1) (by rcases ok1 hk with rfl | rfl | rfl; exact fun n => qX1_timesTo_0_2 n x1 x2 z; exact fun n => qX1_timesTo_0_14 n x1 x2 z; exact fun n => qX1_timesTo_0_26 n x1 x2 z) (xs_bd fun q1 => (kX1_timesTo_6 o hk x1 x2 q1 oo))
noncomputable def sX1_timesTo (o : Nat) (x1 : Int32) (x2 : Nat) (z : mm_S) : Option (mm_S) := sX1_timesTo_0 o x1 x2 z
theorem sp_X1_timesTo (o : Nat) (x1 : Int32) (x2 : Nat) (z : mm_S) (hk : ∀ v ∈ [mm_P 1 o, mm_I x1, mm_P 10 x2], mm_ok 46 lyTX 48 17 v) (q : mm_S) (hq : sX1_timesTo o x1 x2 z = some q) : f_X1_timesTo [mm_P 1 o, mm_I x1, mm_P 10 x2] z (none, q) := ⟨Nat.le_of_ble_eq_true rfl, kX1_timesTo_0 o (hk (mm_P 1 o) (by simp)) x1 x2 z _ q hq rfl⟩
noncomputable def clo_X1_timesTo (as : List mm_V) (z : mm_S) (kk : Option mm_V → mm_S → Option mm_R) : Option mm_R := mm_pr as fun t o0 as => bif Nat.beq t 1 then mm_pi as fun a1 as => mm_pr as fun t o2 as => bif Nat.beq t 10 then (match as with | [] => (sX1_timesTo o0 a1 o2 z).bind fun q => kk none q | _ => none) else none else none
theorem cs_X1_timesTo : mm_cs lyTX 46 48 17 f_X1_timesTo clo_X1_timesTo := by
  intro as z K o hk h
  obtain ⟨t0, o0, r0, rfl, g0⟩ := mm_pr_e h
  obtain ⟨b0, k0⟩ := mm_bif_e g0
  obtain rfl := Nat.eq_of_beq_eq_true b0
  obtain ⟨a1, r1, rfl, g1⟩ := mm_pi_e k0
  obtain ⟨t2, o2, r2, rfl, g2⟩ := mm_pr_e g1
  obtain ⟨b2, k2⟩ := mm_bif_e g2
  obtain rfl := Nat.eq_of_beq_eq_true b2
  rcases r2 with _ | ⟨u, w⟩
  rotate_left
  · cases k2
  obtain ⟨q, hq, hq2⟩ := Option.bind_eq_some_iff.mp k2
  exact ⟨_, _, sp_X1_timesTo o0 a1 o2 z hk q hq, (fun v hv => by cases hv), hq2⟩
theorem sV_X1_timesTo {own : String} {R : Room} {ar : Nat → Nat} {k : Nat} (hlink : Cond.methodLink own k yX1_timesTo ∈ lw_gd ∨ ∃ host, (own, k, yX1_timesTo, host) ∈ nmA) (har : ar k = 3) (hr : 4 ≤ R.frames ∧ 107 ≤ R.locals) : mm_okV lyTX lyFA lenX snX 46 48 17 roX rsA nfA nmA ssX own R ar k clo_X1_timesTo := by
  refine ⟨yX1_timesTo, cX1_timesTo, 5, none, rm_X1_timesTo, f_X1_timesTo, 1, 2, (RX1, TX1, 4), M_X1_timesTo, cs_X1_timesTo, hlink, ⟨wv_X1_timesTo, wz_X1_timesTo, wi_X1_timesTo, wc_X1_timesTo⟩, ⟨by decide +kernel, by decide +kernel, by decide +kernel⟩, har, ⟨rfl, rfl, by decide⟩, ?_, ⟨rfl, rfl, hr.1, hr.2⟩⟩
  intro as z K o h
  obtain ⟨t0, o0, r0, rfl, g0⟩ := mm_pr_e h
  obtain ⟨b0, k0⟩ := mm_bif_e g0
  obtain rfl := Nat.eq_of_beq_eq_true b0
  exact ⟨_, _, rfl⟩
-- X2_add
noncomputable def lV_X2_add : List (Nat × (List mm_V → mm_S → (Option mm_V → mm_S → Option mm_R) → Option mm_R)) := []
noncomputable def mV_X2_add (k : Nat) (as : List mm_V) (z : mm_S) (kk : Option mm_V → mm_S → Option mm_R) : Option mm_R := match mm_at lV_X2_add k with
  | some f => f as z kk
  | none => none
noncomputable def arV_X2_add (k : Nat) : Nat := (mm_at [] k).getD 0
noncomputable def lS_X2_add : List (Nat × (List mm_V → mm_S → (Option mm_V → mm_S → Option mm_R) → Option mm_R)) := [(19, clo_X3_exchange)]
noncomputable def mS_X2_add (k : Nat) (as : List mm_V) (z : mm_S) (kk : Option mm_V → mm_S → Option mm_R) : Option mm_R := match mm_at lS_X2_add k with
  | some f => f as z kk
  | none => none
noncomputable def arS_X2_add (k : Nat) : Nat := (mm_at [(19, 3)] k).getD 0
def ct_X2_add : List (Nat × List Nat) := [(13, [0]), (23, [])]
noncomputable def go_X2_add : Nat → mm_K := mm_go (fun k => mm_at flX2 k) (fun k => mm_at clX2 k) (fun k => mm_at glX2 k) arV_X2_add arS_X2_add mV_X2_add mS_X2_add lenX roX snX 2 3 tbX2_add ct_X2_add
noncomputable def eX2_add_0 (n : Nat)  (x1 : Int32) (z : mm_S) : Option mm_R := go_X2_add n 0 [(0, mm_P 2 37), (1, mm_I x1)] [] z
noncomputable def eX2_add_13 (n : Nat)  (z : mm_S) : Option mm_R := go_X2_add n 13 [(0, mm_P 2 37)] [] z
noncomputable def eX2_add_23 (n : Nat)  (z : mm_S) : Option mm_R := go_X2_add n 23 [] [] z
set_option maxRecDepth 100000 in
theorem qX2_add_0 (n : Nat)  (x1 : Int32) (z : mm_S) : eX2_add_0 (n + 1) x1 z = (let u1 := (tX3_exchange 38 (z.1 37 1) x1 z); eX2_add_13 n  u1.2) := rfl
set_option maxRecDepth 100000 in
theorem qX2_add_13 (n : Nat)  (z : mm_S) : eX2_add_13 (n + 1)  z = (eX2_add_23 n  ((mm_ui z.1 37 1 ((z.1 37 1) + 1)), z.2)) := rfl
set_option maxRecDepth 100000 in
theorem qX2_add_23 (n : Nat)  (z : mm_S) : eX2_add_23 (n + 1)  z = (some (none, z)) := rfl
def rm_X2_add : Room := { frames := 1, cells := 0, slots := 0, locals := 23 }
noncomputable def f_X2_add (as : List mm_V) (z : mm_S) (o : mm_R) : Prop := (as.map mm_cat).sum ≤ 2 ∧ ∃ n, go_X2_add n 0 (mm_ar 0 as) [] z = some o
theorem M_X2_add : mm_M lyTX lyFA lenX snX 46 48 17 roX rsA nfA nmA ssX yX2_add cX2_add 2 (none) rm_X2_add f_X2_add :=
  mm_met (rt := 3) (by decide +kernel) ⟨fun h => absurd h (by decide), fun h => absurd h (by decide), fun h => absurd h (by decide), fun h => rfl⟩ tbX2_add_ok hsnX okFX2 okLX2 okGX2 (fun _ _ _ _ => rfl) (fun _ _ _ _ => rfl) (fun _ h => absurd h List.not_mem_nil) (List.forall_mem_cons.mpr ⟨sS_X3_exchange (Or.inr ⟨_, ln_X2_19⟩) rfl ⟨by decide, by decide⟩, fun _ h => absurd h List.not_mem_nil⟩)
noncomputable def sX2_add_23  (z : mm_S) : Option (mm_S) := some (z)
theorem kX2_add_23  (z : mm_S) (oo : mm_R) : mm_Xs (sX2_add_23  z) (fun v => (fun v : mm_S => ((none, v) : mm_R)) v = oo) (fun n => eX2_add_23 n  z) oo :=
  xs_row (fun n => qX2_add_23 n z) (xs_v fun hc => ⟨0, congrArg some hc⟩)
noncomputable def sX2_add_13  (z : mm_S) : Option (mm_S) := (sX2_add_23 ((mm_ui z.1 37 1 ((z.1 37 1) + 1)), z.2))
theorem kX2_add_13  (z : mm_S) (oo : mm_R) : mm_Xs (sX2_add_13  z) (fun v => (fun v : mm_S => ((none, v) : mm_R)) v = oo) (fun n => eX2_add_13 n  z) oo :=
  xs_row (fun n => qX2_add_13 n z) (kX2_add_23 ((mm_ui z.1 37 1 ((z.1 37 1) + 1)), z.2) oo)
noncomputable def sX2_add_0 (x1 : Int32) (z : mm_S) : Option (mm_S) := let u1 := (tX3_exchange 38 (z.1 37 1) x1 z); (sX2_add_13 u1.2)
theorem kX2_add_0 (x1 : Int32) (z : mm_S) (oo : mm_R) : mm_Xs (sX2_add_0 x1 z) (fun v => (fun v : mm_S => ((none, v) : mm_R)) v = oo) (fun n => eX2_add_0 n x1 z) oo :=
  xs_row (fun n => qX2_add_0 n x1 z) (xs_let ((tX3_exchange 38 (z.1 37 1) x1 z)) (S := fun (u1 : _) => ((sX2_add_13 u1.2) : Option (mm_S))) (T := fun (u1 : _) n => eX2_add_13 n  u1.2) (fun u1 => (kX2_add_13 u1.2 oo)))
noncomputable def sX2_add (x1 : Int32) (z : mm_S) : Option (mm_S) := sX2_add_0 x1 z
theorem sp_X2_add (x1 : Int32) (z : mm_S) (hk : ∀ v ∈ [mm_P 2 37, mm_I x1], mm_ok 46 lyTX 48 17 v) (q : mm_S) (hq : sX2_add x1 z = some q) : f_X2_add [mm_P 2 37, mm_I x1] z (none, q) := ⟨Nat.le_of_ble_eq_true rfl, kX2_add_0 x1 z _ q hq rfl⟩
noncomputable def clo_X2_add (as : List mm_V) (z : mm_S) (kk : Option mm_V → mm_S → Option mm_R) : Option mm_R := mm_pr as fun t o0 as => bif Nat.beq t 2 then mm_pi as fun a1 as => (match as with | [] => (sX2_add a1 z).bind fun q => kk none q | _ => none) else none
theorem cs_X2_add : mm_cs lyTX 46 48 17 f_X2_add clo_X2_add := by
  intro as z K o hk h
  obtain ⟨t0, o0, r0, rfl, g0⟩ := mm_pr_e h
  obtain ⟨b0, k0⟩ := mm_bif_e g0
  obtain rfl := Nat.eq_of_beq_eq_true b0
  obtain ⟨a1, r1, rfl, g1⟩ := mm_pi_e k0
  rcases r1 with _ | ⟨u, w⟩
  rotate_left
  · cases g1
  obtain rfl : o0 = 37 := ok2 (hk (mm_P 2 o0) (by simp))
  obtain ⟨q, hq, hq2⟩ := Option.bind_eq_some_iff.mp g1
  exact ⟨_, _, sp_X2_add a1 z hk q hq, (fun v hv => by cases hv), hq2⟩
theorem sV_X2_add {own : String} {R : Room} {ar : Nat → Nat} {k : Nat} (hlink : Cond.methodLink own k yX2_add ∈ lw_gd ∨ ∃ host, (own, k, yX2_add, host) ∈ nmA) (har : ar k = 2) (hr : 2 ≤ R.frames ∧ 44 ≤ R.locals) : mm_okV lyTX lyFA lenX snX 46 48 17 roX rsA nfA nmA ssX own R ar k clo_X2_add := by
  refine ⟨yX2_add, cX2_add, 2, none, rm_X2_add, f_X2_add, 2, 1, (RX2, TX2, 6), M_X2_add, cs_X2_add, hlink, ⟨wv_X2_add, wz_X2_add, wi_X2_add, wc_X2_add⟩, ⟨by decide +kernel, by decide +kernel, by decide +kernel⟩, har, ⟨rfl, rfl, by decide⟩, ?_, ⟨rfl, rfl, hr.1, hr.2⟩⟩
  intro as z K o h
  obtain ⟨t0, o0, r0, rfl, g0⟩ := mm_pr_e h
  obtain ⟨b0, k0⟩ := mm_bif_e g0
  obtain rfl := Nat.eq_of_beq_eq_true b0
  exact ⟨_, _, rfl⟩
-- X2_isLetter
noncomputable def lV_X2_isLetter : List (Nat × (List mm_V → mm_S → (Option mm_V → mm_S → Option mm_R) → Option mm_R)) := []
noncomputable def mV_X2_isLetter (k : Nat) (as : List mm_V) (z : mm_S) (kk : Option mm_V → mm_S → Option mm_R) : Option mm_R := match mm_at lV_X2_isLetter k with
  | some f => f as z kk
  | none => none
noncomputable def arV_X2_isLetter (k : Nat) : Nat := (mm_at [] k).getD 0
noncomputable def lS_X2_isLetter : List (Nat × (List mm_V → mm_S → (Option mm_V → mm_S → Option mm_R) → Option mm_R)) := []
noncomputable def mS_X2_isLetter (k : Nat) (as : List mm_V) (z : mm_S) (kk : Option mm_V → mm_S → Option mm_R) : Option mm_R := match mm_at lS_X2_isLetter k with
  | some f => f as z kk
  | none => none
noncomputable def arS_X2_isLetter (k : Nat) : Nat := (mm_at [] k).getD 0
def ct_X2_isLetter : List (Nat × List Nat) := []
noncomputable def go_X2_isLetter : Nat → mm_K := mm_go (fun k => mm_at flX2 k) (fun k => mm_at clX2 k) (fun k => mm_at glX2 k) arV_X2_isLetter arS_X2_isLetter mV_X2_isLetter mS_X2_isLetter lenX roX snX 1 1 tbX2_isLetter ct_X2_isLetter
noncomputable def eX2_isLetter_0 (n : Nat) (x1 : Int32) (z : mm_S) : Option mm_R := go_X2_isLetter n 0 [(0, mm_I x1)] [] z
set_option maxRecDepth 100000 in
theorem qX2_isLetter_0 (n : Nat) (x1 : Int32) (z : mm_S) : eX2_isLetter_0 (n + 1) x1 z = (if x1 < 97 then some (some (mm_I 0), z) else if 122 < x1 then some (some (mm_I 0), z) else some (some (mm_I 1), z)) := rfl
def rm_X2_isLetter : Room := { frames := 0, cells := 0, slots := 0, locals := 0 }
noncomputable def f_X2_isLetter (as : List mm_V) (z : mm_S) (o : mm_R) : Prop := (as.map mm_cat).sum ≤ 1 ∧ ∃ n, go_X2_isLetter n 0 (mm_ar 0 as) [] z = some o
theorem M_X2_isLetter : mm_M lyTX lyFA lenX snX 46 48 17 roX rsA nfA nmA ssX yX2_isLetter cX2_isLetter 1 (some .boolean) rm_X2_isLetter f_X2_isLetter :=
  mm_met (rt := 1) (by decide +kernel) ⟨fun h => absurd h (by decide), fun h => rfl, fun h => absurd h (by decide), fun h => absurd h (by decide)⟩ tbX2_isLetter_ok hsnX okFX2 okLX2 okGX2 (fun _ _ _ _ => rfl) (fun _ _ _ _ => rfl) (fun _ h => absurd h List.not_mem_nil) (fun _ h => absurd h List.not_mem_nil)
noncomputable def pX2_isLetter (x1 : Int32) (z : mm_S) : Int32 := if x1 < 97 then 0 else if 122 < x1 then 0 else 1
theorem z1_X2_isLetter (x1 : Int32) (z : mm_S) : pX2_isLetter x1 z = 0 ∨ pX2_isLetter x1 z = 1 := (mm_i01 (Or.inl rfl) (mm_i01 (Or.inl rfl) (Or.inr rfl)))
theorem sp_X2_isLetter (x1 : Int32) (z : mm_S) (_ : ∀ v ∈ [mm_I x1], mm_ok 46 lyTX 48 17 v) : f_X2_isLetter [mm_I x1] z (some (mm_I (pX2_isLetter x1 z)), z) := ⟨Nat.le_of_ble_eq_true rfl, 1, (qX2_isLetter_0 0 x1 z).trans (mm_if (fun v => some (some (mm_I v), z)) rfl (mm_if (fun v => some (some (mm_I v), z)) rfl rfl))⟩
noncomputable def clo_X2_isLetter (as : List mm_V) (z : mm_S) (kk : Option mm_V → mm_S → Option mm_R) : Option mm_R := mm_pi as fun a0 as => (match as with | [] => kk (some (mm_I (pX2_isLetter a0 z))) z | _ => none)
theorem cs_X2_isLetter : mm_cs lyTX 46 48 17 f_X2_isLetter clo_X2_isLetter := by
  intro as z K o hk h
  obtain ⟨a0, r0, rfl, g0⟩ := mm_pi_e h
  rcases r0 with _ | ⟨u, w⟩
  rotate_left
  · cases g0
  exact ⟨_, _, sp_X2_isLetter a0 z hk, fun v hv => by cases hv; exact Or.inl ⟨_, rfl⟩, g0⟩
theorem sS_X2_isLetter {own : String} {R : Room} {ar : Nat → Nat} {k : Nat} (hlink : Cond.methodLink own k yX2_isLetter ∈ lw_gd ∨ ∃ host, (own, k, yX2_isLetter, host) ∈ nmA) (har : ar k = 1) (hr : 1 ≤ R.frames ∧ 20 ≤ R.locals) : mm_okS lyTX lyFA lenX snX 46 48 17 roX rsA nfA nmA ssX own R ar k clo_X2_isLetter :=
  Or.inl ⟨yX2_isLetter, cX2_isLetter, 1, some .boolean, rm_X2_isLetter, f_X2_isLetter, M_X2_isLetter, cs_X2_isLetter, hlink, ⟨ws_X2_isLetter, wi_X2_isLetter, wc_X2_isLetter⟩, ⟨by decide +kernel, by decide +kernel, by rw [har]; decide +kernel⟩, ⟨rfl, rfl, hr.1, hr.2⟩⟩
