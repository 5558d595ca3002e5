-- X0_heardAt
noncomputable def lV_X0_heardAt : List (Nat × (List mm_V → mm_S → (Option mm_V → mm_S → Option mm_R) → Option mm_R)) := [(102, clo_X0_placeOf), (105, clo_X1_timeBetween), (108, clo_X0_heardBy)]
noncomputable def mV_X0_heardAt (k : Nat) (as : List mm_V) (z : mm_S) (kk : Option mm_V → mm_S → Option mm_R) : Option mm_R := match mm_at lV_X0_heardAt k with
  | some f => f as z kk
  | none => none
noncomputable def arV_X0_heardAt (k : Nat) : Nat := (mm_at [(102, 2), (105, 3), (108, 3)] k).getD 0
noncomputable def lS_X0_heardAt : List (Nat × (List mm_V → mm_S → (Option mm_V → mm_S → Option mm_R) → Option mm_R)) := []
noncomputable def mS_X0_heardAt (k : Nat) (as : List mm_V) (z : mm_S) (kk : Option mm_V → mm_S → Option mm_R) : Option mm_R := match mm_at lS_X0_heardAt k with
  | some f => f as z kk
  | none => none
noncomputable def arS_X0_heardAt (k : Nat) : Nat := (mm_at [] k).getD 0
def ct_X0_heardAt : List (Nat × List Nat) := []
noncomputable def go_X0_heardAt : Nat → mm_K := mm_go (fun k => mm_at flX0 k) (fun k => mm_at clX0 k) (fun k => mm_at glX0 k) arV_X0_heardAt arS_X0_heardAt mV_X0_heardAt mS_X0_heardAt lenX roX snX 3 0 tbX0_heardAt ct_X0_heardAt
noncomputable def eX0_heardAt_0 (n : Nat) (o : Nat) (x1 : Int32) (x2 : Int32) (z : mm_S) : Option mm_R := go_X0_heardAt n 0 [(0, mm_P 0 o), (1, mm_I x1), (2, mm_I x2)] [] z
set_option maxRecDepth 100000 in
theorem qX0_heardAt_0_1 (n : Nat)  (x1 : Int32) (x2 : Int32) (z : mm_S) : eX0_heardAt_0 (n + 1) 1 x1 x2 z = ((sX1_timeBetween 2 (pX0_placeOf 1 x1 z) x2 z).bind fun q1 => some (some (mm_I (pX0_heardBy 1 x1 q1.1 q1.2)), q1.2)) := rfl
set_option maxRecDepth 100000 in
theorem qX0_heardAt_0_13 (n : Nat)  (x1 : Int32) (x2 : Int32) (z : mm_S) : eX0_heardAt_0 (n + 1) 13 x1 x2 z = ((sX1_timeBetween 14 (pX0_placeOf 13 x1 z) x2 z).bind fun q1 => some (some (mm_I (pX0_heardBy 13 x1 q1.1 q1.2)), q1.2)) := rfl
set_option maxRecDepth 100000 in
theorem qX0_heardAt_0_25 (n : Nat)  (x1 : Int32) (x2 : Int32) (z : mm_S) : eX0_heardAt_0 (n + 1) 25 x1 x2 z = ((sX1_timeBetween 26 (pX0_placeOf 25 x1 z) x2 z).bind fun q1 => some (some (mm_I (pX0_heardBy 25 x1 q1.1 q1.2)), q1.2)) := rfl
def rm_X0_heardAt : Room := { frames := 4, cells := 0, slots := 0, locals := 85 }
noncomputable def f_X0_heardAt (as : List mm_V) (z : mm_S) (o : mm_R) : Prop := (as.map mm_cat).sum ≤ 3 ∧ ∃ n, go_X0_heardAt n 0 (mm_ar 0 as) [] z = some o
theorem M_X0_heardAt : mm_M lyTX lyFA lenX snX 46 48 17 roX rsA nfA nmA ssX yX0_heardAt cX0_heardAt 3 (some .int) rm_X0_heardAt f_X0_heardAt :=
  mm_met (rt := 0) (by decide +kernel) ⟨fun h => rfl, fun h => absurd h (by decide), fun h => absurd h (by decide), fun h => absurd h (by decide)⟩ tbX0_heardAt_ok hsnX okFX0 okLX0 okGX0 (fun _ _ _ _ => rfl) (fun _ _ _ _ => rfl) (List.forall_mem_cons.mpr ⟨sV_X0_placeOf (Or.inl lk_X0_102) rfl ⟨by decide, by decide⟩, List.forall_mem_cons.mpr ⟨sV_X1_timeBetween (Or.inl lk_X0_105) rfl ⟨by decide, by decide⟩, List.forall_mem_cons.mpr ⟨sV_X0_heardBy (Or.inl lk_X0_108) rfl ⟨by decide, by decide⟩, fun _ h => absurd h List.not_mem_nil⟩⟩⟩) (fun _ h => absurd h List.not_mem_nil)
noncomputable def sX0_heardAt_0 (o : Nat) (x1 : Int32) (x2 : Int32) (z : mm_S) : Option (Int32 × mm_S) := (sX1_timeBetween (o + 1) (pX0_placeOf o x1 z) x2 z).bind fun q1 => some ((pX0_heardBy o x1 q1.1 q1.2), q1.2)
theorem kX0_heardAt_0 (o : Nat) (hk : mm_ok 46 lyTX 48 17 (mm_P 0 o)) (x1 : Int32) (x2 : Int32) (z : mm_S) (oo : mm_R) : mm_Xs (sX0_heardAt_0 o x1 x2 z) (fun v => (fun v : Int32 × mm_S => ((some (mm_I v.1), v.2) : mm_R)) v = oo) (fun n => eX0_heardAt_0 n o x1 x2 z) oo :=
  xs_row (T := fun n => (sX1_timeBetween (o + 1) (pX0_placeOf o x1 z) x2 z).bind fun q1 => some (some (mm_I (pX0_heardBy o x1 q1.1 q1.2)), q1.2)) (by rcases ok0 hk with rfl | rfl | rfl; exact fun n => qX0_heardAt_0_1 n x1 x2 z; exact fun n => qX0_heardAt_0_13 n x1 x2 z; exact fun n => qX0_heardAt_0_25 n x1 x2 z) (xs_bd fun q1 => (xs_v fun hc => ⟨0, congrArg some hc⟩))
noncomputable def sX0_heardAt (o : Nat) (x1 : Int32) (x2 : Int32) (z : mm_S) : Option (Int32 × mm_S) := sX0_heardAt_0 o x1 x2 z
theorem sp_X0_heardAt (o : Nat) (x1 : Int32) (x2 : Int32) (z : mm_S) (hk : ∀ v ∈ [mm_P 0 o, mm_I x1, mm_I x2], mm_ok 46 lyTX 48 17 v) (q : Int32 × mm_S) (hq : sX0_heardAt o x1 x2 z = some q) : f_X0_heardAt [mm_P 0 o, mm_I x1, mm_I x2] z (some (mm_I q.1), q.2) := ⟨Nat.le_of_ble_eq_true rfl, kX0_heardAt_0 o (hk (mm_P 0 o) (by simp)) x1 x2 z _ q hq rfl⟩
noncomputable def clo_X0_heardAt (as : List mm_V) (z : mm_S) (kk : Option mm_V → mm_S → Option mm_R) : Option mm_R := mm_pr as fun t o0 as => bif Nat.beq t 0 then mm_pi as fun a1 as => mm_pi as fun a2 as => (match as with | [] => (sX0_heardAt o0 a1 a2 z).bind fun q => kk (some (mm_I q.1)) q.2 | _ => none) else none
theorem cs_X0_heardAt : mm_cs lyTX 46 48 17 f_X0_heardAt clo_X0_heardAt := by
  intro as z K o hk h
  obtain ⟨t0, o0, r0, rfl, g0⟩ := mm_pr_e h
  obtain ⟨b0, k0⟩ := mm_bif_e g0
  obtain rfl := Nat.eq_of_beq_eq_true b0
  obtain ⟨a1, r1, rfl, g1⟩ := mm_pi_e k0
  obtain ⟨a2, r2, rfl, g2⟩ := mm_pi_e g1
  rcases r2 with _ | ⟨u, w⟩
  rotate_left
  · cases g2
  obtain ⟨q, hq, hq2⟩ := Option.bind_eq_some_iff.mp g2
  exact ⟨_, _, sp_X0_heardAt o0 a1 a2 z hk q hq, fun v hv => by cases hv; exact Or.inl ⟨_, rfl⟩, hq2⟩
theorem sV_X0_heardAt {own : String} {R : Room} {ar : Nat → Nat} {k : Nat} (hlink : Cond.methodLink own k yX0_heardAt ∈ lw_gd ∨ ∃ host, (own, k, yX0_heardAt, host) ∈ nmA) (har : ar k = 3) (hr : 5 ≤ R.frames ∧ 107 ≤ R.locals) : mm_okV lyTX lyFA lenX snX 46 48 17 roX rsA nfA nmA ssX own R ar k clo_X0_heardAt := by
  refine ⟨yX0_heardAt, cX0_heardAt, 3, some .int, rm_X0_heardAt, f_X0_heardAt, 0, 2, (RX0, TX0, 14), M_X0_heardAt, cs_X0_heardAt, hlink, ⟨wv_X0_heardAt, wz_X0_heardAt, wi_X0_heardAt, wc_X0_heardAt⟩, ⟨by decide +kernel, by decide +kernel, by decide +kernel⟩, har, ⟨rfl, rfl, by decide⟩, ?_, ⟨rfl, rfl, hr.1, hr.2⟩⟩
  intro as z K o h
  obtain ⟨t0, o0, r0, rfl, g0⟩ := mm_pr_e h
  obtain ⟨b0, k0⟩ := mm_bif_e g0
  obtain rfl := Nat.eq_of_beq_eq_true b0
  exact ⟨_, _, rfl⟩
-- X1_timesFrom
noncomputable def lV_X1_timesFrom : List (Nat × (List mm_V → mm_S → (Option mm_V → mm_S → Option mm_R) → Option mm_R)) := [(76, clo_X1_knock), (84, clo_X1_cellsComeIntoAt)]
noncomputable def mV_X1_timesFrom (k : Nat) (as : List mm_V) (z : mm_S) (kk : Option mm_V → mm_S → Option mm_R) : Option mm_R := match mm_at lV_X1_timesFrom k with
  | some f => f as z kk
  | none => none
noncomputable def arV_X1_timesFrom (k : Nat) : Nat := (mm_at [(76, 2), (84, 2)] k).getD 0
noncomputable def lS_X1_timesFrom : List (Nat × (List mm_V → mm_S → (Option mm_V → mm_S → Option mm_R) → Option mm_R)) := [(40, clo_X3_has), (91, clo_J7_fill_53178), (97, clo_X3_exchange)]
noncomputable def mS_X1_timesFrom (k : Nat) (as : List mm_V) (z : mm_S) (kk : Option mm_V → mm_S → Option mm_R) : Option mm_R := match mm_at lS_X1_timesFrom k with
  | some f => f as z kk
  | none => none
noncomputable def arS_X1_timesFrom (k : Nat) : Nat := (mm_at [(40, 2), (91, 2), (97, 3)] k).getD 0
def ct_X1_timesFrom : List (Nat × List Nat) := [(5, [0, 1, 2]), (10, [0, 2]), (12, [0, 2, 3]), (34, [0, 2, 3, 4]), (37, [0, 2, 3, 4, 6]), (72, [0, 2, 3, 4, 6])]
noncomputable def go_X1_timesFrom : Nat → mm_K := mm_go (fun k => mm_at flX1 k) (fun k => mm_at clX1 k) (fun k => mm_at glX1 k) arV_X1_timesFrom arS_X1_timesFrom mV_X1_timesFrom mS_X1_timesFrom lenX roX snX 7 3 tbX1_timesFrom ct_X1_timesFrom
noncomputable def eX1_timesFrom_0 (n : Nat) (o : Nat) (x1 : Int32) (x2 : Nat) (z : mm_S) : Option mm_R := go_X1_timesFrom n 0 [(0, mm_P 1 o), (1, mm_I x1), (2, mm_P 10 x2)] [] z
noncomputable def eX1_timesFrom_5 (n : Nat) (o : Nat) (y1 : Int32) (y2 : Nat) (z : mm_S) : Option mm_R := go_X1_timesFrom n 5 [(0, mm_P 1 o), (1, mm_I y1), (2, mm_P 10 y2)] [] z
noncomputable def eX1_timesFrom_10 (n : Nat) (o : Nat) (y2 : Nat) (z : mm_S) : Option mm_R := go_X1_timesFrom n 10 [(0, mm_P 1 o), (2, mm_P 10 y2)] [] z
noncomputable def eX1_timesFrom_12 (n : Nat) (o : Nat) (y2 : Nat) (y3 : Int32) (z : mm_S) : Option mm_R := go_X1_timesFrom n 12 [(0, mm_P 1 o), (2, mm_P 10 y2), (3, mm_I y3)] [] z
noncomputable def eX1_timesFrom_34 (n : Nat) (o : Nat) (y2 : Nat) (y3 : Int32) (y4 : Int64) (z : mm_S) : Option mm_R := go_X1_timesFrom n 34 [(0, mm_P 1 o), (2, mm_P 10 y2), (3, mm_I y3), (4, mm_J y4)] [] z
noncomputable def eX1_timesFrom_37 (n : Nat) (o : Nat) (y2 : Nat) (y3 : Int32) (y4 : Int64) (y6 : Int32) (z : mm_S) : Option mm_R := go_X1_timesFrom n 37 [(0, mm_P 1 o), (2, mm_P 10 y2), (3, mm_I y3), (4, mm_J y4), (6, mm_I y6)] [] z
noncomputable def eX1_timesFrom_72 (n : Nat) (o : Nat) (y2 : Nat) (y3 : Int32) (y4 : Int64) (y6 : Int32) (z : mm_S) : Option mm_R := go_X1_timesFrom n 72 [(0, mm_P 1 o), (2, mm_P 10 y2), (3, mm_I y3), (4, mm_J y4), (6, mm_I y6)] [] z
set_option maxRecDepth 100000 in
theorem qX1_timesFrom_0_2 (n : Nat)  (x1 : Int32) (x2 : Nat) (z : mm_S) : eX1_timesFrom_0 (n + 1) 2 x1 x2 z = (let u1 := (tJ7_fill_53178 x2 (-1) z); eX1_timesFrom_5 n 2 x1 x2 u1) := rfl
set_option maxRecDepth 100000 in
theorem qX1_timesFrom_5_2 (n : Nat)  (y1 : Int32) (y2 : Nat) (z : mm_S) : eX1_timesFrom_5 (n + 1) 2 y1 y2 z = (let u2 := (tX1_knock 2 y1 z); eX1_timesFrom_10 n 2 y2 u2) := rfl
set_option maxRecDepth 100000 in
theorem qX1_timesFrom_10_2 (n : Nat)  (y2 : Nat) (z : mm_S) : eX1_timesFrom_10 (n + 1) 2 y2 z = (eX1_timesFrom_12 n 2 y2 0 z) := rfl
set_option maxRecDepth 100000 in
theorem qX1_timesFrom_12_2 (n : Nat)  (y2 : Nat) (y3 : Int32) (z : mm_S) : eX1_timesFrom_12 (n + 1) 2 y2 y3 z = (if 216 < y3 then some (none, z) else if (z.1 2 3) < y3 then some (none, z) else let u3 := (tX1_cellsComeIntoAt 2 y3 z); eX1_timesFrom_34 n 2 y2 y3 u3.1 u3.2) := rfl
set_option maxRecDepth 100000 in
theorem qX1_timesFrom_34_2 (n : Nat)  (y2 : Nat) (y3 : Int32) (y4 : Int64) (z : mm_S) : eX1_timesFrom_34 (n + 1) 2 y2 y3 y4 z = (eX1_timesFrom_37 n 2 y2 y3 y4 0 z) := rfl
set_option maxRecDepth 100000 in
theorem qX1_timesFrom_37_2 (n : Nat)  (y2 : Nat) (y3 : Int32) (y4 : Int64) (y6 : Int32) (z : mm_S) : eX1_timesFrom_37 (n + 1) 2 y2 y3 y4 y6 z = (if 36 ≤ y6 then eX1_timesFrom_12 n 2 y2 (y3 + 1) z else if (lg_cmp (Int64.toUInt64 y4 >>> (Int64.toUInt64 (Int32.toInt64 y6) &&& Int64.toUInt64 63)).toInt64 0) = 0 then eX1_timesFrom_12 n 2 y2 (y3 + 1) z else if (pX3_has y4 y6) = 0 then eX1_timesFrom_72 n 2 y2 y3 y4 y6 z else let u4 := (tX3_exchange y2 y6 y3 z); eX1_timesFrom_72 n 2 y2 y3 y4 y6 u4.2) := rfl
set_option maxRecDepth 100000 in
theorem qX1_timesFrom_72_2 (n : Nat)  (y2 : Nat) (y3 : Int32) (y4 : Int64) (y6 : Int32) (z : mm_S) : eX1_timesFrom_72 (n + 1) 2 y2 y3 y4 y6 z = (eX1_timesFrom_37 n 2 y2 y3 y4 (y6 + 1) z) := rfl
set_option maxRecDepth 100000 in
theorem qX1_timesFrom_0_14 (n : Nat)  (x1 : Int32) (x2 : Nat) (z : mm_S) : eX1_timesFrom_0 (n + 1) 14 x1 x2 z = (let u1 := (tJ7_fill_53178 x2 (-1) z); eX1_timesFrom_5 n 14 x1 x2 u1) := rfl
set_option maxRecDepth 100000 in
theorem qX1_timesFrom_5_14 (n : Nat)  (y1 : Int32) (y2 : Nat) (z : mm_S) : eX1_timesFrom_5 (n + 1) 14 y1 y2 z = (let u2 := (tX1_knock 14 y1 z); eX1_timesFrom_10 n 14 y2 u2) := rfl
set_option maxRecDepth 100000 in
theorem qX1_timesFrom_10_14 (n : Nat)  (y2 : Nat) (z : mm_S) : eX1_timesFrom_10 (n + 1) 14 y2 z = (eX1_timesFrom_12 n 14 y2 0 z) := rfl
set_option maxRecDepth 100000 in
theorem qX1_timesFrom_12_14 (n : Nat)  (y2 : Nat) (y3 : Int32) (z : mm_S) : eX1_timesFrom_12 (n + 1) 14 y2 y3 z = (if 216 < y3 then some (none, z) else if (z.1 14 3) < y3 then some (none, z) else let u3 := (tX1_cellsComeIntoAt 14 y3 z); eX1_timesFrom_34 n 14 y2 y3 u3.1 u3.2) := rfl
set_option maxRecDepth 100000 in
theorem qX1_timesFrom_34_14 (n : Nat)  (y2 : Nat) (y3 : Int32) (y4 : Int64) (z : mm_S) : eX1_timesFrom_34 (n + 1) 14 y2 y3 y4 z = (eX1_timesFrom_37 n 14 y2 y3 y4 0 z) := rfl
set_option maxRecDepth 100000 in
theorem qX1_timesFrom_37_14 (n : Nat)  (y2 : Nat) (y3 : Int32) (y4 : Int64) (y6 : Int32) (z : mm_S) : eX1_timesFrom_37 (n + 1) 14 y2 y3 y4 y6 z = (if 36 ≤ y6 then eX1_timesFrom_12 n 14 y2 (y3 + 1) z else if (lg_cmp (Int64.toUInt64 y4 >>> (Int64.toUInt64 (Int32.toInt64 y6) &&& Int64.toUInt64 63)).toInt64 0) = 0 then eX1_timesFrom_12 n 14 y2 (y3 + 1) z else if (pX3_has y4 y6) = 0 then eX1_timesFrom_72 n 14 y2 y3 y4 y6 z else let u4 := (tX3_exchange y2 y6 y3 z); eX1_timesFrom_72 n 14 y2 y3 y4 y6 u4.2) := rfl
set_option maxRecDepth 100000 in
theorem qX1_timesFrom_72_14 (n : Nat)  (y2 : Nat) (y3 : Int32) (y4 : Int64) (y6 : Int32) (z : mm_S) : eX1_timesFrom_72 (n + 1) 14 y2 y3 y4 y6 z = (eX1_timesFrom_37 n 14 y2 y3 y4 (y6 + 1) z) := rfl
set_option maxRecDepth 100000 in
theorem qX1_timesFrom_0_26 (n : Nat)  (x1 : Int32) (x2 : Nat) (z : mm_S) : eX1_timesFrom_0 (n + 1) 26 x1 x2 z = (let u1 := (tJ7_fill_53178 x2 (-1) z); eX1_timesFrom_5 n 26 x1 x2 u1) := rfl
set_option maxRecDepth 100000 in
theorem qX1_timesFrom_5_26 (n : Nat)  (y1 : Int32) (y2 : Nat) (z : mm_S) : eX1_timesFrom_5 (n + 1) 26 y1 y2 z = (let u2 := (tX1_knock 26 y1 z); eX1_timesFrom_10 n 26 y2 u2) := rfl
set_option maxRecDepth 100000 in
theorem qX1_timesFrom_10_26 (n : Nat)  (y2 : Nat) (z : mm_S) : eX1_timesFrom_10 (n + 1) 26 y2 z = (eX1_timesFrom_12 n 26 y2 0 z) := rfl
set_option maxRecDepth 100000 in
theorem qX1_timesFrom_12_26 (n : Nat)  (y2 : Nat) (y3 : Int32) (z : mm_S) : eX1_timesFrom_12 (n + 1) 26 y2 y3 z = (if 216 < y3 then some (none, z) else if (z.1 26 3) < y3 then some (none, z) else let u3 := (tX1_cellsComeIntoAt 26 y3 z); eX1_timesFrom_34 n 26 y2 y3 u3.1 u3.2) := rfl
set_option maxRecDepth 100000 in
theorem qX1_timesFrom_34_26 (n : Nat)  (y2 : Nat) (y3 : Int32) (y4 : Int64) (z : mm_S) : eX1_timesFrom_34 (n + 1) 26 y2 y3 y4 z = (eX1_timesFrom_37 n 26 y2 y3 y4 0 z) := rfl
set_option maxRecDepth 100000 in
theorem qX1_timesFrom_37_26 (n : Nat)  (y2 : Nat) (y3 : Int32) (y4 : Int64) (y6 : Int32) (z : mm_S) : eX1_timesFrom_37 (n + 1) 26 y2 y3 y4 y6 z = (if 36 ≤ y6 then eX1_timesFrom_12 n 26 y2 (y3 + 1) z else if (lg_cmp (Int64.toUInt64 y4 >>> (Int64.toUInt64 (Int32.toInt64 y6) &&& Int64.toUInt64 63)).toInt64 0) = 0 then eX1_timesFrom_12 n 26 y2 (y3 + 1) z else if (pX3_has y4 y6) = 0 then eX1_timesFrom_72 n 26 y2 y3 y4 y6 z else let u4 := (tX3_exchange y2 y6 y3 z); eX1_timesFrom_72 n 26 y2 y3 y4 y6 u4.2) := rfl
set_option maxRecDepth 100000 in
theorem qX1_timesFrom_72_26 (n : Nat)  (y2 : Nat) (y3 : Int32) (y4 : Int64) (y6 : Int32) (z : mm_S) : eX1_timesFrom_72 (n + 1) 26 y2 y3 y4 y6 z = (eX1_timesFrom_37 n 26 y2 y3 y4 (y6 + 1) z) := rfl
def rm_X1_timesFrom : Room := { frames := 2, cells := 0, slots := 0, locals := 57 }
noncomputable def f_X1_timesFrom (as : List mm_V) (z : mm_S) (o : mm_R) : Prop := (as.map mm_cat).sum ≤ 7 ∧ ∃ n, go_X1_timesFrom n 0 (mm_ar 0 as) [] z = some o
theorem M_X1_timesFrom : mm_M lyTX lyFA lenX snX 46 48 17 roX rsA nfA nmA ssX yX1_timesFrom cX1_timesFrom 7 (none) rm_X1_timesFrom f_X1_timesFrom :=
  mm_met (rt := 3) (by decide +kernel) ⟨fun h => absurd h (by decide), fun h => absurd h (by decide), fun h => absurd h (by decide), fun h => rfl⟩ tbX1_timesFrom_ok hsnX okFX1 okLX1 okGX1 (fun _ _ _ _ => rfl) (fun _ _ _ _ => rfl) (List.forall_mem_cons.mpr ⟨sV_X1_knock (Or.inl lk_X1_76) rfl ⟨by decide, by decide⟩, List.forall_mem_cons.mpr ⟨sV_X1_cellsComeIntoAt (Or.inl lk_X1_84) rfl ⟨by decide, by decide⟩, fun _ h => absurd h List.not_mem_nil⟩⟩) (List.forall_mem_cons.mpr ⟨sS_X3_has (Or.inr ⟨_, ln_X1_40⟩) rfl ⟨by decide, by decide⟩, List.forall_mem_cons.mpr ⟨sS_J7_fill_53178 (Or.inl lk_X1_91) rfl ⟨by decide, by decide⟩, List.forall_mem_cons.mpr ⟨sS_X3_exchange (Or.inr ⟨_, ln_X1_97⟩) rfl ⟨by decide, by decide⟩, fun _ h => absurd h List.not_mem_nil⟩⟩⟩)
noncomputable def sX1_timesFrom_72 (o : Nat) (y2 : Nat) (y3 : Int32) (y4 : Int64) (y6 : Int32) (z : mm_S) : Option ((Nat × Int32 × Int64 × Int32 × mm_S) ⊕ ((Nat × Int32 × mm_S) ⊕ (mm_S))) := some (.inl (y2, y3, y4, (y6 + 1), z))
theorem kX1_timesFrom_72 (o : Nat) (hk : mm_ok 46 lyTX 48 17 (mm_P 1 o)) (y2 : Nat) (y3 : Int32) (y4 : Int64) (y6 : Int32) (z : mm_S) (oo : mm_R) : mm_Xs (sX1_timesFrom_72 o y2 y3 y4 y6 z) (mm_mt (fun x : Nat × Int32 × Int64 × Int32 × mm_S => ∃ n, eX1_timesFrom_37 n o x.1 x.2.1 x.2.2.1 x.2.2.2.1 x.2.2.2.2 = some oo) (mm_mt (fun x : Nat × Int32 × mm_S => ∃ n, eX1_timesFrom_12 n o x.1 x.2.1 x.2.2 = some oo) (fun v => (fun v : mm_S => ((none, v) : mm_R)) v = oo))) (fun n => eX1_timesFrom_72 n o y2 y3 y4 y6 z) oo :=
  xs_row (T := fun n => eX1_timesFrom_37 n o y2 y3 y4 (y6 + 1) z) (by rcases ok1 hk with rfl | rfl | rfl; exact fun n => qX1_timesFrom_72_2 n y2 y3 y4 y6 z; exact fun n => qX1_timesFrom_72_14 n y2 y3 y4 y6 z; exact fun n => qX1_timesFrom_72_26 n y2 y3 y4 y6 z) (xs_v fun hc => hc)
noncomputable def lX1_timesFrom_37 (o : Nat) (s : Nat × Int32 × Int64 × Int32 × mm_S) : Option ((Nat × Int32 × Int64 × Int32 × mm_S) ⊕ ((Nat × Int32 × mm_S) ⊕ (mm_S))) := if 36 ≤ s.2.2.2.1 then some (.inr (.inl (s.1, (s.2.1 + 1), s.2.2.2.2))) else if (lg_cmp (Int64.toUInt64 s.2.2.1 >>> (Int64.toUInt64 (Int32.toInt64 s.2.2.2.1) &&& Int64.toUInt64 63)).toInt64 0) = 0 then some (.inr (.inl (s.1, (s.2.1 + 1), s.2.2.2.2))) else if (pX3_has s.2.2.1 s.2.2.2.1) = 0 then (sX1_timesFrom_72 o s.1 s.2.1 s.2.2.1 s.2.2.2.1 s.2.2.2.2) else let u4 := (tX3_exchange s.1 s.2.2.2.1 s.2.1 s.2.2.2.2); (sX1_timesFrom_72 o s.1 s.2.1 s.2.2.1 s.2.2.2.1 u4.2)
noncomputable def sX1_timesFrom_37 (o : Nat) (y2 : Nat) (y3 : Int32) (y4 : Int64) (y6 : Int32) (z : mm_S) : Option ((Nat × Int32 × mm_S) ⊕ (mm_S)) := mm_wh (lX1_timesFrom_37 o ) mm_fu (y2, y3, y4, y6, z)
theorem kX1_timesFrom_37 (o : Nat) (hk : mm_ok 46 lyTX 48 17 (mm_P 1 o)) (y2 : Nat) (y3 : Int32) (y4 : Int64) (y6 : Int32) (z : mm_S) (oo : mm_R) : mm_Xs (sX1_timesFrom_37 o y2 y3 y4 y6 z) (mm_mt (fun x : Nat × Int32 × mm_S => ∃ n, eX1_timesFrom_12 n o x.1 x.2.1 x.2.2 = some oo) (fun v => (fun v : mm_S => ((none, v) : mm_R)) v = oo)) (fun n => eX1_timesFrom_37 n o y2 y3 y4 y6 z) oo :=
  xs_wh (stp := lX1_timesFrom_37 o ) (o := oo) (E := (fun (s : Nat × Int32 × Int64 × Int32 × mm_S) n => eX1_timesFrom_37 n o s.1 s.2.1 s.2.2.1 s.2.2.2.1 s.2.2.2.2)) (C := (mm_mt (fun x : Nat × Int32 × mm_S => ∃ n, eX1_timesFrom_12 n o x.1 x.2.1 x.2.2 = some oo) (fun v => (fun v : mm_S => ((none, v) : mm_R)) v = oo))) (fun s => xs_row (T := fun n => if 36 ≤ s.2.2.2.1 then eX1_timesFrom_12 n o s.1 (s.2.1 + 1) s.2.2.2.2 else if (lg_cmp (Int64.toUInt64 s.2.2.1 >>> (Int64.toUInt64 (Int32.toInt64 s.2.2.2.1) &&& Int64.toUInt64 63)).toInt64 0) = 0 then eX1_timesFrom_12 n o s.1 (s.2.1 + 1) s.2.2.2.2 else if (pX3_has s.2.2.1 s.2.2.2.1) = 0 then eX1_timesFrom_72 n o s.1 s.2.1 s.2.2.1 s.2.2.2.1 s.2.2.2.2 else let u4 := (tX3_exchange s.1 s.2.2.2.1 s.2.1 s.2.2.2.2); eX1_timesFrom_72 n o s.1 s.2.1 s.2.2.1 s.2.2.2.1 u4.2) (by rcases ok1 hk with rfl | rfl | rfl; exact fun n => qX1_timesFrom_37_2 n s.1 s.2.1 s.2.2.1 s.2.2.2.1 s.2.2.2.2; exact fun n => qX1_timesFrom_37_14 n s.1 s.2.1 s.2.2.1 s.2.2.2.1 s.2.2.2.2; exact fun n => qX1_timesFrom_37_26 n s.1 s.2.1 s.2.2.1 s.2.2.2.1 s.2.2.2.2) (xs_if (xs_v fun hc => hc) (xs_if (xs_v fun hc => hc) (xs_if (kX1_timesFrom_72 o hk s.1 s.2.1 s.2.2.1 s.2.2.2.1 s.2.2.2.2 oo) (xs_let ((tX3_exchange s.1 s.2.2.2.1 s.2.1 s.2.2.2.2)) (S := fun (u4 : _) => ((sX1_timesFrom_72 o s.1 s.2.1 s.2.2.1 s.2.2.2.1 u4.2) : Option ((Nat × Int32 × Int64 × Int32 × mm_S) ⊕ ((Nat × Int32 × mm_S) ⊕ (mm_S))))) (T := fun (u4 : _) n => eX1_timesFrom_72 n o s.1 s.2.1 s.2.2.1 s.2.2.2.1 u4.2) (fun u4 => (kX1_timesFrom_72 o hk s.1 s.2.1 s.2.2.1 s.2.2.2.1 u4.2 oo))))))) mm_fu (y2, y3, y4, y6, z)
noncomputable def sX1_timesFrom_34 (o : Nat) (y2 : Nat) (y3 : Int32) (y4 : Int64) (z : mm_S) : Option ((Nat × Int32 × mm_S) ⊕ (mm_S)) := (sX1_timesFrom_37 o y2 y3 y4 0 z)
theorem kX1_timesFrom_34 (o : Nat) (hk : mm_ok 46 lyTX 48 17 (mm_P 1 o)) (y2 : Nat) (y3 : Int32) (y4 : Int64) (z : mm_S) (oo : mm_R) : mm_Xs (sX1_timesFrom_34 o y2 y3 y4 z) (mm_mt (fun x : Nat × Int32 × mm_S => ∃ n, eX1_timesFrom_12 n o x.1 x.2.1 x.2.2 = some oo) (fun v => (fun v : mm_S => ((none, v) : mm_R)) v = oo)) (fun n => eX1_timesFrom_34 n o y2 y3 y4 z) oo :=
  xs_row (T := fun n => eX1_timesFrom_37 n o y2 y3 y4 0 z) (by rcases ok1 hk with rfl | rfl | rfl; exact fun n => qX1_timesFrom_34_2 n y2 y3 y4 z; exact fun n => qX1_timesFrom_34_14 n y2 y3 y4 z; exact fun n => qX1_timesFrom_34_26 n y2 y3 y4 z) (kX1_timesFrom_37 o hk y2 y3 y4 0 z oo)
noncomputable def lX1_timesFrom_12 (o : Nat) (s : Nat × Int32 × mm_S) : Option ((Nat × Int32 × mm_S) ⊕ (mm_S)) := if 216 < s.2.1 then some (.inr (s.2.2)) else if (s.2.2.1 o 3) < s.2.1 then some (.inr (s.2.2)) else let u3 := (tX1_cellsComeIntoAt o s.2.1 s.2.2); (sX1_timesFrom_34 o s.1 s.2.1 u3.1 u3.2)
noncomputable def sX1_timesFrom_12 (o : Nat) (y2 : Nat) (y3 : Int32) (z : mm_S) : Option (mm_S) := mm_wh (lX1_timesFrom_12 o ) mm_fu (y2, y3, z)
theorem kX1_timesFrom_12 (o : Nat) (hk : mm_ok 46 lyTX 48 17 (mm_P 1 o)) (y2 : Nat) (y3 : Int32) (z : mm_S) (oo : mm_R) : mm_Xs (sX1_timesFrom_12 o y2 y3 z) (fun v => (fun v : mm_S => ((none, v) : mm_R)) v = oo) (fun n => eX1_timesFrom_12 n o y2 y3 z) oo :=
  xs_wh (stp := lX1_timesFrom_12 o ) (o := oo) (E := (fun (s : Nat × Int32 × mm_S) n => eX1_timesFrom_12 n o s.1 s.2.1 s.2.2)) (C := (fun v => (fun v : mm_S => ((none, v) : mm_R)) v = oo)) (fun s => xs_row (T := fun n => if 216 < s.2.1 then some (none, s.2.2) else if (s.2.2.1 o 3) < s.2.1 then some (none, s.2.2) else let u3 := (tX1_cellsComeIntoAt o s.2.1 s.2.2); eX1_timesFrom_34 n o s.1 s.2.1 u3.1 u3.2) (by rcases ok1 hk with rfl | rfl | rfl; exact fun n => qX1_timesFrom_12_2 n s.1 s.2.1 s.2.2; exact fun n => qX1_timesFrom_12_14 n s.1 s.2.1 s.2.2; exact fun n => qX1_timesFrom_12_26 n s.1 s.2.1 s.2.2) (xs_if (xs_v fun hc => ⟨0, congrArg some hc⟩) (xs_if (xs_v fun hc => ⟨0, congrArg some hc⟩) (xs_let ((tX1_cellsComeIntoAt o s.2.1 s.2.2)) (S := fun (u3 : _) => ((sX1_timesFrom_34 o s.1 s.2.1 u3.1 u3.2) : Option ((Nat × Int32 × mm_S) ⊕ (mm_S)))) (T := fun (u3 : _) n => eX1_timesFrom_34 n o s.1 s.2.1 u3.1 u3.2) (fun u3 => (kX1_timesFrom_34 o hk s.1 s.2.1 u3.1 u3.2 oo)))))) mm_fu (y2, y3, z)
noncomputable def sX1_timesFrom_10 (o : Nat) (y2 : Nat) (z : mm_S) : Option (mm_S) := (sX1_timesFrom_12 o y2 0 z)
theorem kX1_timesFrom_10 (o : Nat) (hk : mm_ok 46 lyTX 48 17 (mm_P 1 o)) (y2 : Nat) (z : mm_S) (oo : mm_R) : mm_Xs (sX1_timesFrom_10 o y2 z) (fun v => (fun v : mm_S => ((none, v) : mm_R)) v = oo) (fun n => eX1_timesFrom_10 n o y2 z) oo :=
  xs_row (T := fun n => eX1_timesFrom_12 n o y2 0 z) (by rcases ok1 hk with rfl | rfl | rfl; exact fun n => qX1_timesFrom_10_2 n y2 z; exact fun n => qX1_timesFrom_10_14 n y2 z; exact fun n => qX1_timesFrom_10_26 n y2 z) (kX1_timesFrom_12 o hk y2 0 z oo)
noncomputable def sX1_timesFrom_5 (o : Nat) (y1 : Int32) (y2 : Nat) (z : mm_S) : Option (mm_S) := let u2 := (tX1_knock o y1 z); (sX1_timesFrom_10 o y2 u2)
theorem kX1_timesFrom_5 (o : Nat) (hk : mm_ok 46 lyTX 48 17 (mm_P 1 o)) (y1 : Int32) (y2 : Nat) (z : mm_S) (oo : mm_R) : mm_Xs (sX1_timesFrom_5 o y1 y2 z) (fun v => (fun v : mm_S => ((none, v) : mm_R)) v = oo) (fun n => eX1_timesFrom_5 n o y1 y2 z) oo :=
  xs_row (T := fun n => let u2 := (tX1_knock o y1 z); eX1_timesFrom_10 n o y2 u2) (by rcases ok1 hk with rfl | rfl | rfl; exact fun n => qX1_timesFrom_5_2 n y1 y2 z; exact fun n => qX1_timesFrom_5_14 n y1 y2 z; exact fun n => qX1_timesFrom_5_26 n y1 y2 z) (xs_let ((tX1_knock o y1 z)) (S := fun (u2 : _) => ((sX1_timesFrom_10 o y2 u2) : Option (mm_S))) (T := fun (u2 : _) n => eX1_timesFrom_10 n o y2 u2) (fun u2 => (kX1_timesFrom_10 o hk y2 u2 oo)))
noncomputable def sX1_timesFrom_0 (o : Nat) (x1 : Int32) (x2 : Nat) (z : mm_S) : Option (mm_S) := let u1 := (tJ7_fill_53178 x2 (-1) z); (sX1_timesFrom_5 o x1 x2 u1)
theorem kX1_timesFrom_0 (o : Nat) (hk : mm_ok 46 lyTX 48 17 (mm_P 1 o)) (x1 : Int32) (x2 : Nat) (z : mm_S) (oo : mm_R) : mm_Xs (sX1_timesFrom_0 o x1 x2 z) (fun v => (fun v : mm_S => ((none, v) : mm_R)) v = oo) (fun n => eX1_timesFrom_0 n o x1 x2 z) oo :=
  xs_row (T := fun n => let u1 := (tJ7_fill_53178 x2 (-1) z); eX1_timesFrom_5 n o x1 x2 u1) (by rcases ok1 hk with rfl | rfl | rfl; exact fun n => qX1_timesFrom_0_2 n x1 x2 z; exact fun n => qX1_timesFrom_0_14 n x1 x2 z; exact fun n => qX1_timesFrom_0_26 n x1 x2 z) (xs_let ((tJ7_fill_53178 x2 (-1) z)) (S := fun (u1 : _) => ((sX1_timesFrom_5 o x1 x2 u1) : Option (mm_S))) (T := fun (u1 : _) n => eX1_timesFrom_5 n o x1 x2 u1) (fun u1 => (kX1_timesFrom_5 o hk x1 x2 u1 oo)))
noncomputable def sX1_timesFrom (o : Nat) (x1 : Int32) (x2 : Nat) (z : mm_S) : Option (mm_S) := sX1_timesFrom_0 o x1 x2 z
theorem sp_X1_timesFrom (o : Nat) (x1 : Int32) (x2 : Nat) (z : mm_S) (hk : ∀ v ∈ [mm_P 1 o, mm_I x1, mm_P 10 x2], mm_ok 46 lyTX 48 17 v) (q : mm_S) (hq : sX1_timesFrom o x1 x2 z = some q) : f_X1_timesFrom [mm_P 1 o, mm_I x1, mm_P 10 x2] z (none, q) := ⟨Nat.le_of_ble_eq_true rfl, kX1_timesFrom_0 o (hk (mm_P 1 o) (by simp)) x1 x2 z _ q hq rfl⟩
noncomputable def clo_X1_timesFrom (as : List mm_V) (z : mm_S) (kk : Option mm_V → mm_S → Option mm_R) : Option mm_R := mm_pr as fun t o0 as => bif Nat.beq t 1 then mm_pi as fun a1 as => mm_pr as fun t o2 as => bif Nat.beq t 10 then (match as with | [] => (sX1_timesFrom o0 a1 o2 z).bind fun q => kk none q | _ => none) else none else none
theorem cs_X1_timesFrom : mm_cs lyTX 46 48 17 f_X1_timesFrom clo_X1_timesFrom := by
  intro as z K o hk h
  obtain ⟨t0, o0, r0, rfl, g0⟩ := mm_pr_e h
  obtain ⟨b0, k0⟩ := mm_bif_e g0
  obtain rfl := Nat.eq_of_beq_eq_true b0
  obtain ⟨a1, r1, rfl, g1⟩ := mm_pi_e k0
  obtain ⟨t2, o2, r2, rfl, g2⟩ := mm_pr_e g1
  obtain ⟨b2, k2⟩ := mm_bif_e g2
  obtain rfl := Nat.eq_of_beq_eq_true b2
  rcases r2 with _ | ⟨u, w⟩
  rotate_left
  · cases k2
  obtain ⟨q, hq, hq2⟩ := Option.bind_eq_some_iff.mp k2
  exact ⟨_, _, sp_X1_timesFrom o0 a1 o2 z hk q hq, (fun v hv => by cases hv), hq2⟩
theorem sV_X1_timesFrom {own : String} {R : Room} {ar : Nat → Nat} {k : Nat} (hlink : Cond.methodLink own k yX1_timesFrom ∈ lw_gd ∨ ∃ host, (own, k, yX1_timesFrom, host) ∈ nmA) (har : ar k = 3) (hr : 3 ≤ R.frames ∧ 83 ≤ R.locals) : mm_okV lyTX lyFA lenX snX 46 48 17 roX rsA nfA nmA ssX own R ar k clo_X1_timesFrom := by
  refine ⟨yX1_timesFrom, cX1_timesFrom, 7, none, rm_X1_timesFrom, f_X1_timesFrom, 1, 2, (RX1, TX1, 4), M_X1_timesFrom, cs_X1_timesFrom, hlink, ⟨wv_X1_timesFrom, wz_X1_timesFrom, wi_X1_timesFrom, wc_X1_timesFrom⟩, ⟨by decide +kernel, by decide +kernel, by decide +kernel⟩, har, ⟨rfl, rfl, by decide⟩, ?_, ⟨rfl, rfl, hr.1, hr.2⟩⟩
  intro as z K o h
  obtain ⟨t0, o0, r0, rfl, g0⟩ := mm_pr_e h
  obtain ⟨b0, k0⟩ := mm_bif_e g0
  obtain rfl := Nat.eq_of_beq_eq_true b0
  exact ⟨_, _, rfl⟩
-- X0_fillHeard
noncomputable def lV_X0_fillHeard : List (Nat × (List mm_V → mm_S → (Option mm_V → mm_S → Option mm_R) → Option mm_R)) := [(102, clo_X0_placeOf), (108, clo_X0_heardBy), (111, clo_X1_timesFrom)]
noncomputable def mV_X0_fillHeard (k : Nat) (as : List mm_V) (z : mm_S) (kk : Option mm_V → mm_S → Option mm_R) : Option mm_R := match mm_at lV_X0_fillHeard k with
  | some f => f as z kk
  | none => none
noncomputable def arV_X0_fillHeard (k : Nat) : Nat := (mm_at [(102, 2), (108, 3), (111, 3)] k).getD 0
noncomputable def lS_X0_fillHeard : List (Nat × (List mm_V → mm_S → (Option mm_V → mm_S → Option mm_R) → Option mm_R)) := [(73, clo_X3_exchange), (77, clo_X3_at)]
noncomputable def mS_X0_fillHeard (k : Nat) (as : List mm_V) (z : mm_S) (kk : Option mm_V → mm_S → Option mm_R) : Option mm_R := match mm_at lS_X0_fillHeard k with
  | some f => f as z kk
  | none => none
noncomputable def arS_X0_fillHeard (k : Nat) : Nat := (mm_at [(73, 3), (77, 2)] k).getD 0
def ct_X0_fillHeard : List (Nat × List Nat) := [(13, [0, 1, 2]), (15, [0, 1, 2, 3]), (37, [0, 1, 2, 3])]
noncomputable def go_X0_fillHeard : Nat → mm_K := mm_go (fun k => mm_at flX0 k) (fun k => mm_at clX0 k) (fun k => mm_at glX0 k) arV_X0_fillHeard arS_X0_fillHeard mV_X0_fillHeard mS_X0_fillHeard lenX roX snX 4 3 tbX0_fillHeard ct_X0_fillHeard
noncomputable def eX0_fillHeard_0 (n : Nat) (o : Nat) (x1 : Int32) (x2 : Nat) (z : mm_S) : Option mm_R := go_X0_fillHeard n 0 [(0, mm_P 0 o), (1, mm_I x1), (2, mm_P 10 x2)] [] z
noncomputable def eX0_fillHeard_13 (n : Nat) (o : Nat) (y1 : Int32) (y2 : Nat) (z : mm_S) : Option mm_R := go_X0_fillHeard n 13 [(0, mm_P 0 o), (1, mm_I y1), (2, mm_P 10 y2)] [] z
noncomputable def eX0_fillHeard_15 (n : Nat) (o : Nat) (y1 : Int32) (y2 : Nat) (y3 : Int32) (z : mm_S) : Option mm_R := go_X0_fillHeard n 15 [(0, mm_P 0 o), (1, mm_I y1), (2, mm_P 10 y2), (3, mm_I y3)] [] z
noncomputable def eX0_fillHeard_37 (n : Nat) (o : Nat) (y1 : Int32) (y2 : Nat) (y3 : Int32) (z : mm_S) : Option mm_R := go_X0_fillHeard n 37 [(0, mm_P 0 o), (1, mm_I y1), (2, mm_P 10 y2), (3, mm_I y3)] [] z
set_option maxRecDepth 100000 in
theorem qX0_fillHeard_0_1 (n : Nat)  (x1 : Int32) (x2 : Nat) (z : mm_S) : eX0_fillHeard_0 (n + 1) 1 x1 x2 z = ((sX1_timesFrom 2 (pX0_placeOf 1 x1 z) x2 z).bind fun q1 => eX0_fillHeard_13 n 1 x1 x2 q1) := rfl
set_option maxRecDepth 100000 in
theorem qX0_fillHeard_13_1 (n : Nat)  (y1 : Int32) (y2 : Nat) (z : mm_S) : eX0_fillHeard_13 (n + 1) 1 y1 y2 z = (eX0_fillHeard_15 n 1 y1 y2 0 z) := rfl
set_option maxRecDepth 100000 in
theorem qX0_fillHeard_15_1 (n : Nat)  (y1 : Int32) (y2 : Nat) (y3 : Int32) (z : mm_S) : eX0_fillHeard_15 (n + 1) 1 y1 y2 y3 z = (if 36 ≤ y3 then some (none, z) else let u2 := (tX3_exchange y2 y3 (pX0_heardBy 1 y1 (pX3_at y2 y3 z) z) z); eX0_fillHeard_37 n 1 y1 y2 y3 u2.2) := rfl
set_option maxRecDepth 100000 in
theorem qX0_fillHeard_37_1 (n : Nat)  (y1 : Int32) (y2 : Nat) (y3 : Int32) (z : mm_S) : eX0_fillHeard_37 (n + 1) 1 y1 y2 y3 z = (eX0_fillHeard_15 n 1 y1 y2 (y3 + 1) z) := rfl
set_option maxRecDepth 100000 in
theorem qX0_fillHeard_0_13 (n : Nat)  (x1 : Int32) (x2 : Nat) (z : mm_S) : eX0_fillHeard_0 (n + 1) 13 x1 x2 z = ((sX1_timesFrom 14 (pX0_placeOf 13 x1 z) x2 z).bind fun q1 => eX0_fillHeard_13 n 13 x1 x2 q1) := rfl
set_option maxRecDepth 100000 in
theorem qX0_fillHeard_13_13 (n : Nat)  (y1 : Int32) (y2 : Nat) (z : mm_S) : eX0_fillHeard_13 (n + 1) 13 y1 y2 z = (eX0_fillHeard_15 n 13 y1 y2 0 z) := rfl
set_option maxRecDepth 100000 in
theorem qX0_fillHeard_15_13 (n : Nat)  (y1 : Int32) (y2 : Nat) (y3 : Int32) (z : mm_S) : eX0_fillHeard_15 (n + 1) 13 y1 y2 y3 z = (if 36 ≤ y3 then some (none, z) else let u2 := (tX3_exchange y2 y3 (pX0_heardBy 13 y1 (pX3_at y2 y3 z) z) z); eX0_fillHeard_37 n 13 y1 y2 y3 u2.2) := rfl
set_option maxRecDepth 100000 in
theorem qX0_fillHeard_37_13 (n : Nat)  (y1 : Int32) (y2 : Nat) (y3 : Int32) (z : mm_S) : eX0_fillHeard_37 (n + 1) 13 y1 y2 y3 z = (eX0_fillHeard_15 n 13 y1 y2 (y3 + 1) z) := rfl
set_option maxRecDepth 100000 in
theorem qX0_fillHeard_0_25 (n : Nat)  (x1 : Int32) (x2 : Nat) (z : mm_S) : eX0_fillHeard_0 (n + 1) 25 x1 x2 z = ((sX1_timesFrom 26 (pX0_placeOf 25 x1 z) x2 z).bind fun q1 => eX0_fillHeard_13 n 25 x1 x2 q1) := rfl
set_option maxRecDepth 100000 in
theorem qX0_fillHeard_13_25 (n : Nat)  (y1 : Int32) (y2 : Nat) (z : mm_S) : eX0_fillHeard_13 (n + 1) 25 y1 y2 z = (eX0_fillHeard_15 n 25 y1 y2 0 z) := rfl
set_option maxRecDepth 100000 in
theorem qX0_fillHeard_15_25 (n : Nat)  (y1 : Int32) (y2 : Nat) (y3 : Int32) (z : mm_S) : eX0_fillHeard_15 (n + 1) 25 y1 y2 y3 z = (if 36 ≤ y3 then some (none, z) else let u2 := (tX3_exchange y2 y3 (pX0_heardBy 25 y1 (pX3_at y2 y3 z) z) z); eX0_fillHeard_37 n 25 y1 y2 y3 u2.2) := rfl
set_option maxRecDepth 100000 in
theorem qX0_fillHeard_37_25 (n : Nat)  (y1 : Int32) (y2 : Nat) (y3 : Int32) (z : mm_S) : eX0_fillHeard_37 (n + 1) 25 y1 y2 y3 z = (eX0_fillHeard_15 n 25 y1 y2 (y3 + 1) z) := rfl
def rm_X0_fillHeard : Room := { frames := 4, cells := 0, slots := 0, locals := 85 }
noncomputable def f_X0_fillHeard (as : List mm_V) (z : mm_S) (o : mm_R) : Prop := (as.map mm_cat).sum ≤ 4 ∧ ∃ n, go_X0_fillHeard n 0 (mm_ar 0 as) [] z = some o
theorem M_X0_fillHeard : mm_M lyTX lyFA lenX snX 46 48 17 roX rsA nfA nmA ssX yX0_fillHeard cX0_fillHeard 4 (none) rm_X0_fillHeard f_X0_fillHeard :=
  mm_met (rt := 3) (by decide +kernel) ⟨fun h => absurd h (by decide), fun h => absurd h (by decide), fun h => absurd h (by decide), fun h => rfl⟩ tbX0_fillHeard_ok hsnX okFX0 okLX0 okGX0 (fun _ _ _ _ => rfl) (fun _ _ _ _ => rfl) (List.forall_mem_cons.mpr ⟨sV_X0_placeOf (Or.inl lk_X0_102) rfl ⟨by decide, by decide⟩, List.forall_mem_cons.mpr ⟨sV_X0_heardBy (Or.inl lk_X0_108) rfl ⟨by decide, by decide⟩, List.forall_mem_cons.mpr ⟨sV_X1_timesFrom (Or.inl lk_X0_111) rfl ⟨by decide, by decide⟩, fun _ h => absurd h List.not_mem_nil⟩⟩⟩) (List.forall_mem_cons.mpr ⟨sS_X3_exchange (Or.inr ⟨_, ln_X0_73⟩) rfl ⟨by decide, by decide⟩, List.forall_mem_cons.mpr ⟨sS_X3_at (Or.inr ⟨_, ln_X0_77⟩) rfl ⟨by decide, by decide⟩, fun _ h => absurd h List.not_mem_nil⟩⟩)
noncomputable def sX0_fillHeard_37 (o : Nat) (y1 : Int32) (y2 : Nat) (y3 : Int32) (z : mm_S) : Option ((Int32 × Nat × Int32 × mm_S) ⊕ (mm_S)) := some (.inl (y1, y2, (y3 + 1), z))
theorem kX0_fillHeard_37 (o : Nat) (hk : mm_ok 46 lyTX 48 17 (mm_P 0 o)) (y1 : Int32) (y2 : Nat) (y3 : Int32) (z : mm_S) (oo : mm_R) : mm_Xs (sX0_fillHeard_37 o y1 y2 y3 z) (mm_mt (fun x : Int32 × Nat × Int32 × mm_S => ∃ n, eX0_fillHeard_15 n o x.1 x.2.1 x.2.2.1 x.2.2.2 = some oo) (fun v => (fun v : mm_S => ((none, v) : mm_R)) v = oo)) (fun n => eX0_fillHeard_37 n o y1 y2 y3 z) oo :=
  xs_row (T := fun n => eX0_fillHeard_15 n o y1 y2 (y3 + 1) z) (by rcases ok0 hk with rfl | rfl | rfl; exact fun n => qX0_fillHeard_37_1 n y1 y2 y3 z; exact fun n => qX0_fillHeard_37_13 n y1 y2 y3 z; exact fun n => qX0_fillHeard_37_25 n y1 y2 y3 z) (xs_v fun hc => hc)
noncomputable def lX0_fillHeard_15 (o : Nat) (s : Int32 × Nat × Int32 × mm_S) : Option ((Int32 × Nat × Int32 × mm_S) ⊕ (mm_S)) := if 36 ≤ s.2.2.1 then some (.inr (s.2.2.2)) else let u2 := (tX3_exchange s.2.1 s.2.2.1 (pX0_heardBy o s.1 (pX3_at s.2.1 s.2.2.1 s.2.2.2) s.2.2.2) s.2.2.2); (sX0_fillHeard_37 o s.1 s.2.1 s.2.2.1 u2.2)
noncomputable def sX0_fillHeard_15 (o : Nat) (y1 : Int32) (y2 : Nat) (y3 : Int32) (z : mm_S) : Option (mm_S) := mm_wh (lX0_fillHeard_15 o ) mm_fu (y1, y2, y3, z)
theorem kX0_fillHeard_15 (o : Nat) (hk : mm_ok 46 lyTX 48 17 (mm_P 0 o)) (y1 : Int32) (y2 : Nat) (y3 : Int32) (z : mm_S) (oo : mm_R) : mm_Xs (sX0_fillHeard_15 o y1 y2 y3 z) (fun v => (fun v : mm_S => ((none, v) : mm_R)) v = oo) (fun n => eX0_fillHeard_15 n o y1 y2 y3 z) oo :=
  xs_wh (stp := lX0_fillHeard_15 o ) (o := oo) (E := (fun (s : Int32 × Nat × Int32 × mm_S) n => eX0_fillHeard_15 n o s.1 s.2.1 s.2.2.1 s.2.2.2)) (C := (fun v => (fun v : mm_S => ((none, v) : mm_R)) v = oo)) (fun s => xs_row (T := fun n => if 36 ≤ s.2.2.1 then some (none, s.2.2.2) else let u2 := (tX3_exchange s.2.1 s.2.2.1 (pX0_heardBy o s.1 (pX3_at s.2.1 s.2.2.1 s.2.2.2) s.2.2.2) s.2.2.2); eX0_fillHeard_37 n o s.1 s.2.1 s.2.2.1 u2.2) (by rcases ok0 hk with rfl | rfl | rfl; exact fun n => qX0_fillHeard_15_1 n s.1 s.2.1 s.2.2.1 s.2.2.2; exact fun n => qX0_fillHeard_15_13 n s.1 s.2.1 s.2.2.1 s.2.2.2; exact fun n => qX0_fillHeard_15_25 n s.1 s.2.1 s.2.2.1 s.2.2.2) (xs_if (xs_v fun hc => ⟨0, congrArg some hc⟩) (xs_let ((tX3_exchange s.2.1 s.2.2.1 (pX0_heardBy o s.1 (pX3_at s.2.1 s.2.2.1 s.2.2.2) s.2.2.2) s.2.2.2)) (S := fun (u2 : _) => ((sX0_fillHeard_37 o s.1 s.2.1 s.2.2.1 u2.2) : Option ((Int32 × Nat × Int32 × mm_S) ⊕ (mm_S)))) (T := fun (u2 : _) n => eX0_fillHeard_37 n o s.1 s.2.1 s.2.2.1 u2.2) (fun u2 => (kX0_fillHeard_37 o hk s.1 s.2.1 s.2.2.1 u2.2 oo))))) mm_fu (y1, y2, y3, z)
noncomputable def sX0_fillHeard_13 (o : Nat) (y1 : Int32) (y2 : Nat) (z : mm_S) : Option (mm_S) := (sX0_fillHeard_15 o y1 y2 0 z)
theorem kX0_fillHeard_13 (o : Nat) (hk : mm_ok 46 lyTX 48 17 (mm_P 0 o)) (y1 : Int32) (y2 : Nat) (z : mm_S) (oo : mm_R) : mm_Xs (sX0_fillHeard_13 o y1 y2 z) (fun v => (fun v : mm_S => ((none, v) : mm_R)) v = oo) (fun n => eX0_fillHeard_13 n o y1 y2 z) oo :=
  xs_row (T := fun n => eX0_fillHeard_15 n o y1 y2 0 z) (by rcases ok0 hk with rfl | rfl | rfl; exact fun n => qX0_fillHeard_13_1 n y1 y2 z; exact fun n => qX0_fillHeard_13_13 n y1 y2 z; exact fun n => qX0_fillHeard_13_25 n y1 y2 z) (kX0_fillHeard_15 o hk y1 y2 0 z oo)
noncomputable def sX0_fillHeard_0 (o : Nat) (x1 : Int32) (x2 : Nat) (z : mm_S) : Option (mm_S) := (sX1_timesFrom (o + 1) (pX0_placeOf o x1 z) x2 z).bind fun q1 => (sX0_fillHeard_13 o x1 x2 q1)
theorem kX0_fillHeard_0 (o : Nat) (hk : mm_ok 46 lyTX 48 17 (mm_P 0 o)) (x1 : Int32) (x2 : Nat) (z : mm_S) (oo : mm_R) : mm_Xs (sX0_fillHeard_0 o x1 x2 z) (fun v => (fun v : mm_S => ((none, v) : mm_R)) v = oo) (fun n => eX0_fillHeard_0 n o x1 x2 z) oo :=
  xs_row (T := fun n => (sX1_timesFrom (o + 1) (pX0_placeOf o x1 z) x2 z).bind fun q1 => eX0_fillHeard_13 n o x1 x2 q1) (by rcases ok0 hk with rfl | rfl | rfl; exact fun n => qX0_fillHeard_0_1 n x1 x2 z; exact fun n => qX0_fillHeard_0_13 n x1 x2 z; exact fun n => qX0_fillHeard_0_25 n x1 x2 z) (xs_bd fun q1 => (kX0_fillHeard_13 o hk x1 x2 q1 oo))
noncomputable def sX0_fillHeard (o : Nat) (x1 : Int32) (x2 : Nat) (z : mm_S) : Option (mm_S) := sX0_fillHeard_0 o x1 x2 z
theorem sp_X0_fillHeard (o : Nat) (x1 : Int32) (x2 : Nat) (z : mm_S) (hk : ∀ v ∈ [mm_P 0 o, mm_I x1, mm_P 10 x2], mm_ok 46 lyTX 48 17 v) (q : mm_S) (hq : sX0_fillHeard o x1 x2 z = some q) : f_X0_fillHeard [mm_P 0 o, mm_I x1, mm_P 10 x2] z (none, q) := ⟨Nat.le_of_ble_eq_true rfl, kX0_fillHeard_0 o (hk (mm_P 0 o) (by simp)) x1 x2 z _ q hq rfl⟩
noncomputable def clo_X0_fillHeard (as : List mm_V) (z : mm_S) (kk : Option mm_V → mm_S → Option mm_R) : Option mm_R := mm_pr as fun t o0 as => bif Nat.beq t 0 then mm_pi as fun a1 as => mm_pr as fun t o2 as => bif Nat.beq t 10 then (match as with | [] => (sX0_fillHeard o0 a1 o2 z).bind fun q => kk none q | _ => none) else none else none
theorem cs_X0_fillHeard : mm_cs lyTX 46 48 17 f_X0_fillHeard clo_X0_fillHeard := by
  intro as z K o hk h
  obtain ⟨t0, o0, r0, rfl, g0⟩ := mm_pr_e h
  obtain ⟨b0, k0⟩ := mm_bif_e g0
  obtain rfl := Nat.eq_of_beq_eq_true b0
  obtain ⟨a1, r1, rfl, g1⟩ := mm_pi_e k0
  obtain ⟨t2, o2, r2, rfl, g2⟩ := mm_pr_e g1
  obtain ⟨b2, k2⟩ := mm_bif_e g2
  obtain rfl := Nat.eq_of_beq_eq_true b2
  rcases r2 with _ | ⟨u, w⟩
  rotate_left
  · cases k2
  obtain ⟨q, hq, hq2⟩ := Option.bind_eq_some_iff.mp k2
  exact ⟨_, _, sp_X0_fillHeard o0 a1 o2 z hk q hq, (fun v hv => by cases hv), hq2⟩
theorem sV_X0_fillHeard {own : String} {R : Room} {ar : Nat → Nat} {k : Nat} (hlink : Cond.methodLink own k yX0_fillHeard ∈ lw_gd ∨ ∃ host, (own, k, yX0_fillHeard, host) ∈ nmA) (har : ar k = 3) (hr : 5 ≤ R.frames ∧ 108 ≤ R.locals) : mm_okV lyTX lyFA lenX snX 46 48 17 roX rsA nfA nmA ssX own R ar k clo_X0_fillHeard := by
  refine ⟨yX0_fillHeard, cX0_fillHeard, 4, none, rm_X0_fillHeard, f_X0_fillHeard, 0, 2, (RX0, TX0, 14), M_X0_fillHeard, cs_X0_fillHeard, hlink, ⟨wv_X0_fillHeard, wz_X0_fillHeard, wi_X0_fillHeard, wc_X0_fillHeard⟩, ⟨by decide +kernel, by decide +kernel, by decide +kernel⟩, har, ⟨rfl, rfl, by decide⟩, ?_, ⟨rfl, rfl, hr.1, hr.2⟩⟩
  intro as z K o h
  obtain ⟨t0, o0, r0, rfl, g0⟩ := mm_pr_e h
  obtain ⟨b0, k0⟩ := mm_bif_e g0
  obtain rfl := Nat.eq_of_beq_eq_true b0
  exact ⟨_, _, rfl⟩
-- X0_reachOf
noncomputable def lV_X0_reachOf : List (Nat × (List mm_V → mm_S → (Option mm_V → mm_S → Option mm_R) → Option mm_R)) := [(102, clo_X0_placeOf), (115, clo_X0_carriesOf), (121, clo_X1_cellsWithin)]
noncomputable def mV_X0_reachOf (k : Nat) (as : List mm_V) (z : mm_S) (kk : Option mm_V → mm_S → Option mm_R) : Option mm_R := match mm_at lV_X0_reachOf k with
  | some f => f as z kk
  | none => none
noncomputable def arV_X0_reachOf (k : Nat) : Nat := (mm_at [(102, 2), (115, 2), (121, 3)] k).getD 0
noncomputable def lS_X0_reachOf : List (Nat × (List mm_V → mm_S → (Option mm_V → mm_S → Option mm_R) → Option mm_R)) := []
noncomputable def mS_X0_reachOf (k : Nat) (as : List mm_V) (z : mm_S) (kk : Option mm_V → mm_S → Option mm_R) : Option mm_R := match mm_at lS_X0_reachOf k with
  | some f => f as z kk
  | none => none
noncomputable def arS_X0_reachOf (k : Nat) : Nat := (mm_at [] k).getD 0
def ct_X0_reachOf : List (Nat × List Nat) := []
noncomputable def go_X0_reachOf : Nat → mm_K := mm_go (fun k => mm_at flX0 k) (fun k => mm_at clX0 k) (fun k => mm_at glX0 k) arV_X0_reachOf arS_X0_reachOf mV_X0_reachOf mS_X0_reachOf lenX roX snX 2 2 tbX0_reachOf ct_X0_reachOf
noncomputable def eX0_reachOf_0 (n : Nat) (o : Nat) (x1 : Int32) (z : mm_S) : Option mm_R := go_X0_reachOf n 0 [(0, mm_P 0 o), (1, mm_I x1)] [] z
set_option maxRecDepth 100000 in
theorem qX0_reachOf_0_1 (n : Nat)  (x1 : Int32) (z : mm_S) : eX0_reachOf_0 (n + 1) 1 x1 z = ((sX1_cellsWithin 2 (pX0_placeOf 1 x1 z) (pX0_carriesOf 1 x1 z) z).bind fun q1 => some (some (mm_J q1.1), q1.2)) := rfl
set_option maxRecDepth 100000 in
theorem qX0_reachOf_0_13 (n : Nat)  (x1 : Int32) (z : mm_S) : eX0_reachOf_0 (n + 1) 13 x1 z = ((sX1_cellsWithin 14 (pX0_placeOf 13 x1 z) (pX0_carriesOf 13 x1 z) z).bind fun q1 => some (some (mm_J q1.1), q1.2)) := rfl
set_option maxRecDepth 100000 in
theorem qX0_reachOf_0_25 (n : Nat)  (x1 : Int32) (z : mm_S) : eX0_reachOf_0 (n + 1) 25 x1 z = ((sX1_cellsWithin 26 (pX0_placeOf 25 x1 z) (pX0_carriesOf 25 x1 z) z).bind fun q1 => some (some (mm_J q1.1), q1.2)) := rfl
def rm_X0_reachOf : Room := { frames := 3, cells := 0, slots := 0, locals := 80 }
noncomputable def f_X0_reachOf (as : List mm_V) (z : mm_S) (o : mm_R) : Prop := (as.map mm_cat).sum ≤ 2 ∧ ∃ n, go_X0_reachOf n 0 (mm_ar 0 as) [] z = some o
theorem M_X0_reachOf : mm_M lyTX lyFA lenX snX 46 48 17 roX rsA nfA nmA ssX yX0_reachOf cX0_reachOf 2 (some .long) rm_X0_reachOf f_X0_reachOf :=
  mm_met (rt := 2) (by decide +kernel) ⟨fun h => absurd h (by decide), fun h => absurd h (by decide), fun h => rfl, fun h => absurd h (by decide)⟩ tbX0_reachOf_ok hsnX okFX0 okLX0 okGX0 (fun _ _ _ _ => rfl) (fun _ _ _ _ => rfl) (List.forall_mem_cons.mpr ⟨sV_X0_placeOf (Or.inl lk_X0_102) rfl ⟨by decide, by decide⟩, List.forall_mem_cons.mpr ⟨sV_X0_carriesOf (Or.inl lk_X0_115) rfl ⟨by decide, by decide⟩, List.forall_mem_cons.mpr ⟨sV_X1_cellsWithin (Or.inl lk_X0_121) rfl ⟨by decide, by decide⟩, fun _ h => absurd h List.not_mem_nil⟩⟩⟩) (fun _ h => absurd h List.not_mem_nil)
noncomputable def sX0_reachOf_0 (o : Nat) (x1 : Int32) (z : mm_S) : Option (Int64 × mm_S) := (sX1_cellsWithin (o + 1) (pX0_placeOf o x1 z) (pX0_carriesOf o x1 z) z).bind fun q1 => some (q1.1, q1.2)
theorem kX0_reachOf_0 (o : Nat) (hk : mm_ok 46 lyTX 48 17 (mm_P 0 o)) (x1 : Int32) (z : mm_S) (oo : mm_R) : mm_Xs (sX0_reachOf_0 o x1 z) (fun v => (fun v : Int64 × mm_S => ((some (mm_J v.1), v.2) : mm_R)) v = oo) (fun n => eX0_reachOf_0 n o x1 z) oo :=
  xs_row (T := fun n => (sX1_cellsWithin (o + 1) (pX0_placeOf o x1 z) (pX0_carriesOf o x1 z) z).bind fun q1 => some (some (mm_J q1.1), q1.2)) (by rcases ok0 hk with rfl | rfl | rfl; exact fun n => qX0_reachOf_0_1 n x1 z; exact fun n => qX0_reachOf_0_13 n x1 z; exact fun n => qX0_reachOf_0_25 n x1 z) (xs_bd fun q1 => (xs_v fun hc => ⟨0, congrArg some hc⟩))
noncomputable def sX0_reachOf (o : Nat) (x1 : Int32) (z : mm_S) : Option (Int64 × mm_S) := sX0_reachOf_0 o x1 z
theorem sp_X0_reachOf (o : Nat) (x1 : Int32) (z : mm_S) (hk : ∀ v ∈ [mm_P 0 o, mm_I x1], mm_ok 46 lyTX 48 17 v) (q : Int64 × mm_S) (hq : sX0_reachOf o x1 z = some q) : f_X0_reachOf [mm_P 0 o, mm_I x1] z (some (mm_J q.1), q.2) := ⟨Nat.le_of_ble_eq_true rfl, kX0_reachOf_0 o (hk (mm_P 0 o) (by simp)) x1 z _ q hq rfl⟩
noncomputable def clo_X0_reachOf (as : List mm_V) (z : mm_S) (kk : Option mm_V → mm_S → Option mm_R) : Option mm_R := mm_pr as fun t o0 as => bif Nat.beq t 0 then mm_pi as fun a1 as => (match as with | [] => (sX0_reachOf o0 a1 z).bind fun q => kk (some (mm_J q.1)) q.2 | _ => none) else none
theorem cs_X0_reachOf : mm_cs lyTX 46 48 17 f_X0_reachOf clo_X0_reachOf := by
  intro as z K o hk h
  obtain ⟨t0, o0, r0, rfl, g0⟩ := mm_pr_e h
  obtain ⟨b0, k0⟩ := mm_bif_e g0
  obtain rfl := Nat.eq_of_beq_eq_true b0
  obtain ⟨a1, r1, rfl, g1⟩ := mm_pi_e k0
  rcases r1 with _ | ⟨u, w⟩
  rotate_left
  · cases g1
  obtain ⟨q, hq, hq2⟩ := Option.bind_eq_some_iff.mp g1
  exact ⟨_, _, sp_X0_reachOf o0 a1 z hk q hq, fun v hv => by cases hv; exact Or.inr ⟨_, rfl⟩, hq2⟩
theorem sV_X0_reachOf {own : String} {R : Room} {ar : Nat → Nat} {k : Nat} (hlink : Cond.methodLink own k yX0_reachOf ∈ lw_gd ∨ ∃ host, (own, k, yX0_reachOf, host) ∈ nmA) (har : ar k = 2) (hr : 4 ≤ R.frames ∧ 101 ≤ R.locals) : mm_okV lyTX lyFA lenX snX 46 48 17 roX rsA nfA nmA ssX own R ar k clo_X0_reachOf := by
  refine ⟨yX0_reachOf, cX0_reachOf, 2, some .long, rm_X0_reachOf, f_X0_reachOf, 0, 1, (RX0, TX0, 14), M_X0_reachOf, cs_X0_reachOf, hlink, ⟨wv_X0_reachOf, wz_X0_reachOf, wi_X0_reachOf, wc_X0_reachOf⟩, ⟨by decide +kernel, by decide +kernel, by decide +kernel⟩, har, ⟨rfl, rfl, by decide⟩, ?_, ⟨rfl, rfl, hr.1, hr.2⟩⟩
  intro as z K o h
  obtain ⟨t0, o0, r0, rfl, g0⟩ := mm_pr_e h
  obtain ⟨b0, k0⟩ := mm_bif_e g0
  obtain rfl := Nat.eq_of_beq_eq_true b0
  exact ⟨_, _, rfl⟩
-- X0_silentCells
noncomputable def lV_X0_silentCells : List (Nat × (List mm_V → mm_S → (Option mm_V → mm_S → Option mm_R) → Option mm_R)) := [(92, clo_X1_cellsOf), (125, clo_X0_reachOf)]
noncomputable def mV_X0_silentCells (k : Nat) (as : List mm_V) (z : mm_S) (kk : Option mm_V → mm_S → Option mm_R) : Option mm_R := match mm_at lV_X0_silentCells k with
  | some f => f as z kk
  | none => none
noncomputable def arV_X0_silentCells (k : Nat) : Nat := (mm_at [(92, 2), (125, 2)] k).getD 0
noncomputable def lS_X0_silentCells : List (Nat × (List mm_V → mm_S → (Option mm_V → mm_S → Option mm_R) → Option mm_R)) := []
noncomputable def mS_X0_silentCells (k : Nat) (as : List mm_V) (z : mm_S) (kk : Option mm_V → mm_S → Option mm_R) : Option mm_R := match mm_at lS_X0_silentCells k with
  | some f => f as z kk
  | none => none
noncomputable def arS_X0_silentCells (k : Nat) : Nat := (mm_at [] k).getD 0
def ct_X0_silentCells : List (Nat × List Nat) := [(11, [0, 1, 3]), (27, [0, 1, 3])]
noncomputable def go_X0_silentCells : Nat → mm_K := mm_go (fun k => mm_at flX0 k) (fun k => mm_at clX0 k) (fun k => mm_at glX0 k) arV_X0_silentCells arS_X0_silentCells mV_X0_silentCells mS_X0_silentCells lenX roX snX 4 2 tbX0_silentCells ct_X0_silentCells
noncomputable def eX0_silentCells_0 (n : Nat) (o : Nat) (z : mm_S) : Option mm_R := go_X0_silentCells n 0 [(0, mm_P 0 o)] [] z
noncomputable def eX0_silentCells_11 (n : Nat) (o : Nat) (y1 : Int64) (y3 : Int32) (z : mm_S) : Option mm_R := go_X0_silentCells n 11 [(0, mm_P 0 o), (1, mm_J y1), (3, mm_I y3)] [] z
noncomputable def eX0_silentCells_27 (n : Nat) (o : Nat) (y1 : Int64) (y3 : Int32) (z : mm_S) : Option mm_R := go_X0_silentCells n 27 [(0, mm_P 0 o), (1, mm_J y1), (3, mm_I y3)] [] z
set_option maxRecDepth 100000 in
theorem qX0_silentCells_0_1 (n : Nat)  (z : mm_S) : eX0_silentCells_0 (n + 1) 1 z = (eX0_silentCells_11 n 1 (pX1_cellsOf 2 2 z) 0 z) := rfl
set_option maxRecDepth 100000 in
theorem qX0_silentCells_11_1 (n : Nat)  (y1 : Int64) (y3 : Int32) (z : mm_S) : eX0_silentCells_11 (n + 1) 1 y1 y3 z = (if (z.1 1 4) ≤ y3 then some (some (mm_J (68719476735 &&& (y1 ^^^ (-1)))), z) else (sX0_reachOf 1 y3 z).bind fun q1 => eX0_silentCells_27 n 1 (y1 ||| q1.1) y3 q1.2) := rfl
set_option maxRecDepth 100000 in
theorem qX0_silentCells_27_1 (n : Nat)  (y1 : Int64) (y3 : Int32) (z : mm_S) : eX0_silentCells_27 (n + 1) 1 y1 y3 z = (eX0_silentCells_11 n 1 y1 (y3 + 1) z) := rfl
set_option maxRecDepth 100000 in
theorem qX0_silentCells_0_13 (n : Nat)  (z : mm_S) : eX0_silentCells_0 (n + 1) 13 z = (eX0_silentCells_11 n 13 (pX1_cellsOf 14 2 z) 0 z) := rfl
set_option maxRecDepth 100000 in
theorem qX0_silentCells_11_13 (n : Nat)  (y1 : Int64) (y3 : Int32) (z : mm_S) : eX0_silentCells_11 (n + 1) 13 y1 y3 z = (if (z.1 13 4) ≤ y3 then some (some (mm_J (68719476735 &&& (y1 ^^^ (-1)))), z) else (sX0_reachOf 13 y3 z).bind fun q1 => eX0_silentCells_27 n 13 (y1 ||| q1.1) y3 q1.2) := rfl
set_option maxRecDepth 100000 in
theorem qX0_silentCells_27_13 (n : Nat)  (y1 : Int64) (y3 : Int32) (z : mm_S) : eX0_silentCells_27 (n + 1) 13 y1 y3 z = (eX0_silentCells_11 n 13 y1 (y3 + 1) z) := rfl
set_option maxRecDepth 100000 in
theorem qX0_silentCells_0_25 (n : Nat)  (z : mm_S) : eX0_silentCells_0 (n + 1) 25 z = (eX0_silentCells_11 n 25 (pX1_cellsOf 26 2 z) 0 z) := rfl
set_option maxRecDepth 100000 in
theorem qX0_silentCells_11_25 (n : Nat)  (y1 : Int64) (y3 : Int32) (z : mm_S) : eX0_silentCells_11 (n + 1) 25 y1 y3 z = (if (z.1 25 4) ≤ y3 then some (some (mm_J (68719476735 &&& (y1 ^^^ (-1)))), z) else (sX0_reachOf 25 y3 z).bind fun q1 => eX0_silentCells_27 n 25 (y1 ||| q1.1) y3 q1.2) := rfl
set_option maxRecDepth 100000 in
theorem qX0_silentCells_27_25 (n : Nat)  (y1 : Int64) (y3 : Int32) (z : mm_S) : eX0_silentCells_27 (n + 1) 25 y1 y3 z = (eX0_silentCells_11 n 25 y1 (y3 + 1) z) := rfl
def rm_X0_silentCells : Room := { frames := 4, cells := 0, slots := 0, locals := 101 }
noncomputable def f_X0_silentCells (as : List mm_V) (z : mm_S) (o : mm_R) : Prop := (as.map mm_cat).sum ≤ 4 ∧ ∃ n, go_X0_silentCells n 0 (mm_ar 0 as) [] z = some o
theorem M_X0_silentCells : mm_M lyTX lyFA lenX snX 46 48 17 roX rsA nfA nmA ssX yX0_silentCells cX0_silentCells 4 (some .long) rm_X0_silentCells f_X0_silentCells :=
  mm_met (rt := 2) (by decide +kernel) ⟨fun h => absurd h (by decide), fun h => absurd h (by decide), fun h => rfl, fun h => absurd h (by decide)⟩ tbX0_silentCells_ok hsnX okFX0 okLX0 okGX0 (fun _ _ _ _ => rfl) (fun _ _ _ _ => rfl) (List.forall_mem_cons.mpr ⟨sV_X1_cellsOf (Or.inl lk_X0_92) rfl ⟨by decide, by decide⟩, List.forall_mem_cons.mpr ⟨sV_X0_reachOf (Or.inl lk_X0_125) rfl ⟨by decide, by decide⟩, fun _ h => absurd h List.not_mem_nil⟩⟩) (fun _ h => absurd h List.not_mem_nil)
noncomputable def sX0_silentCells_27 (o : Nat) (y1 : Int64) (y3 : Int32) (z : mm_S) : Option ((Int64 × Int32 × mm_S) ⊕ (Int64 × mm_S)) := some (.inl (y1, (y3 + 1), z))
theorem kX0_silentCells_27 (o : Nat) (hk : mm_ok 46 lyTX 48 17 (mm_P 0 o)) (y1 : Int64) (y3 : Int32) (z : mm_S) (oo : mm_R) : mm_Xs (sX0_silentCells_27 o y1 y3 z) (mm_mt (fun x : Int64 × Int32 × mm_S => ∃ n, eX0_silentCells_11 n o x.1 x.2.1 x.2.2 = some oo) (fun v => (fun v : Int64 × mm_S => ((some (mm_J v.1), v.2) : mm_R)) v = oo)) (fun n => eX0_silentCells_27 n o y1 y3 z) oo :=
  xs_row (T := fun n => eX0_silentCells_11 n o y1 (y3 + 1) z) (by rcases ok0 hk with rfl | rfl | rfl; exact fun n => qX0_silentCells_27_1 n y1 y3 z; exact fun n => qX0_silentCells_27_13 n y1 y3 z; exact fun n => qX0_silentCells_27_25 n y1 y3 z) (xs_v fun hc => hc)
noncomputable def lX0_silentCells_11 (o : Nat) (s : Int64 × Int32 × mm_S) : Option ((Int64 × Int32 × mm_S) ⊕ (Int64 × mm_S)) := if (s.2.2.1 o 4) ≤ s.2.1 then some (.inr ((68719476735 &&& (s.1 ^^^ (-1))), s.2.2)) else (sX0_reachOf o s.2.1 s.2.2).bind fun q1 => (sX0_silentCells_27 o (s.1 ||| q1.1) s.2.1 q1.2)
noncomputable def sX0_silentCells_11 (o : Nat) (y1 : Int64) (y3 : Int32) (z : mm_S) : Option (Int64 × mm_S) := mm_wh (lX0_silentCells_11 o ) mm_fu (y1, y3, z)
theorem kX0_silentCells_11 (o : Nat) (hk : mm_ok 46 lyTX 48 17 (mm_P 0 o)) (y1 : Int64) (y3 : Int32) (z : mm_S) (oo : mm_R) : mm_Xs (sX0_silentCells_11 o y1 y3 z) (fun v => (fun v : Int64 × mm_S => ((some (mm_J v.1), v.2) : mm_R)) v = oo) (fun n => eX0_silentCells_11 n o y1 y3 z) oo :=
  xs_wh (stp := lX0_silentCells_11 o ) (o := oo) (E := (fun (s : Int64 × Int32 × mm_S) n => eX0_silentCells_11 n o s.1 s.2.1 s.2.2)) (C := (fun v => (fun v : Int64 × mm_S => ((some (mm_J v.1), v.2) : mm_R)) v = oo)) (fun s => xs_row (T := fun n => if (s.2.2.1 o 4) ≤ s.2.1 then some (some (mm_J (68719476735 &&& (s.1 ^^^ (-1)))), s.2.2) else (sX0_reachOf o s.2.1 s.2.2).bind fun q1 => eX0_silentCells_27 n o (s.1 ||| q1.1) s.2.1 q1.2) (by rcases ok0 hk with rfl | rfl | rfl; exact fun n => qX0_silentCells_11_1 n s.1 s.2.1 s.2.2; exact fun n => qX0_silentCells_11_13 n s.1 s.2.1 s.2.2; exact fun n => qX0_silentCells_11_25 n s.1 s.2.1 s.2.2) (xs_if (xs_v fun hc => ⟨0, congrArg some hc⟩) (xs_bd fun q1 => (kX0_silentCells_27 o hk (s.1 ||| q1.1) s.2.1 q1.2 oo)))) mm_fu (y1, y3, z)
noncomputable def sX0_silentCells_0 (o : Nat)  (z : mm_S) : Option (Int64 × mm_S) := (sX0_silentCells_11 o (pX1_cellsOf (o + 1) 2 z) 0 z)
theorem kX0_silentCells_0 (o : Nat) (hk : mm_ok 46 lyTX 48 17 (mm_P 0 o))  (z : mm_S) (oo : mm_R) : mm_Xs (sX0_silentCells_0 o  z) (fun v => (fun v : Int64 × mm_S => ((some (mm_J v.1), v.2) : mm_R)) v = oo) (fun n => eX0_silentCells_0 n o z) oo :=
  xs_row (T := fun n => eX0_silentCells_11 n o (pX1_cellsOf (o + 1) 2 z) 0 z) (by rcases ok0 hk with rfl | rfl | rfl; exact fun n => qX0_silentCells_0_1 n z; exact fun n => qX0_silentCells_0_13 n z; exact fun n => qX0_silentCells_0_25 n z) (kX0_silentCells_11 o hk (pX1_cellsOf (o + 1) 2 z) 0 z oo)
noncomputable def sX0_silentCells (o : Nat)  (z : mm_S) : Option (Int64 × mm_S) := sX0_silentCells_0 o  z
theorem sp_X0_silentCells (o : Nat)  (z : mm_S) (hk : ∀ v ∈ [mm_P 0 o], mm_ok 46 lyTX 48 17 v) (q : Int64 × mm_S) (hq : sX0_silentCells o  z = some q) : f_X0_silentCells [mm_P 0 o] z (some (mm_J q.1), q.2) := ⟨Nat.le_of_ble_eq_true rfl, kX0_silentCells_0 o (hk (mm_P 0 o) (by simp))  z _ q hq rfl⟩
noncomputable def clo_X0_silentCells (as : List mm_V) (z : mm_S) (kk : Option mm_V → mm_S → Option mm_R) : Option mm_R := mm_pr as fun t o0 as => bif Nat.beq t 0 then (match as with | [] => (sX0_silentCells o0 z).bind fun q => kk (some (mm_J q.1)) q.2 | _ => none) else none
theorem cs_X0_silentCells : mm_cs lyTX 46 48 17 f_X0_silentCells clo_X0_silentCells := by
  intro as z K o hk h
  obtain ⟨t0, o0, r0, rfl, g0⟩ := mm_pr_e h
  obtain ⟨b0, k0⟩ := mm_bif_e g0
  obtain rfl := Nat.eq_of_beq_eq_true b0
  rcases r0 with _ | ⟨u, w⟩
  rotate_left
  · cases k0
  obtain ⟨q, hq, hq2⟩ := Option.bind_eq_some_iff.mp k0
  exact ⟨_, _, sp_X0_silentCells o0 z hk q hq, fun v hv => by cases hv; exact Or.inr ⟨_, rfl⟩, hq2⟩
theorem sV_X0_silentCells {own : String} {R : Room} {ar : Nat → Nat} {k : Nat} (hlink : Cond.methodLink own k yX0_silentCells ∈ lw_gd ∨ ∃ host, (own, k, yX0_silentCells, host) ∈ nmA) (har : ar k = 1) (hr : 5 ≤ R.frames ∧ 124 ≤ R.locals) : mm_okV lyTX lyFA lenX snX 46 48 17 roX rsA nfA nmA ssX own R ar k clo_X0_silentCells := by
  refine ⟨yX0_silentCells, cX0_silentCells, 4, some .long, rm_X0_silentCells, f_X0_silentCells, 0, 0, (RX0, TX0, 14), M_X0_silentCells, cs_X0_silentCells, hlink, ⟨wv_X0_silentCells, wz_X0_silentCells, wi_X0_silentCells, wc_X0_silentCells⟩, ⟨by decide +kernel, by decide +kernel, by decide +kernel⟩, har, ⟨rfl, rfl, by decide⟩, ?_, ⟨rfl, rfl, hr.1, hr.2⟩⟩
  intro as z K o h
  obtain ⟨t0, o0, r0, rfl, g0⟩ := mm_pr_e h
  obtain ⟨b0, k0⟩ := mm_bif_e g0
  obtain rfl := Nat.eq_of_beq_eq_true b0
  exact ⟨_, _, rfl⟩
-- X0_mapNow
noncomputable def lV_X0_mapNow : List (Nat × (List mm_V → mm_S → (Option mm_V → mm_S → Option mm_R) → Option mm_R)) := [(132, clo_X1_stuffAt)]
noncomputable def mV_X0_mapNow (k : Nat) (as : List mm_V) (z : mm_S) (kk : Option mm_V → mm_S → Option mm_R) : Option mm_R := match mm_at lV_X0_mapNow k with
  | some f => f as z kk
  | none => none
noncomputable def arV_X0_mapNow (k : Nat) : Nat := (mm_at [(132, 2)] k).getD 0
noncomputable def lS_X0_mapNow : List (Nat × (List mm_V → mm_S → (Option mm_V → mm_S → Option mm_R) → Option mm_R)) := [(77, clo_X3_at)]
noncomputable def mS_X0_mapNow (k : Nat) (as : List mm_V) (z : mm_S) (kk : Option mm_V → mm_S → Option mm_R) : Option mm_R := match mm_at lS_X0_mapNow k with
  | some f => f as z kk
  | none => none
noncomputable def arS_X0_mapNow (k : Nat) : Nat := (mm_at [(77, 2)] k).getD 0
def ct_X0_mapNow : List (Nat × List Nat) := [(9, [0, 1, 2])]
noncomputable def go_X0_mapNow : Nat → mm_K := mm_go (fun k => mm_at flX0 k) (fun k => mm_at clX0 k) (fun k => mm_at glX0 k) arV_X0_mapNow arS_X0_mapNow mV_X0_mapNow mS_X0_mapNow lenX roX snX 3 0 tbX0_mapNow ct_X0_mapNow
noncomputable def eX0_mapNow_0 (n : Nat) (o : Nat) (z : mm_S) : Option mm_R := go_X0_mapNow n 0 [(0, mm_P 0 o)] [] z
noncomputable def eX0_mapNow_9 (n : Nat) (o : Nat) (y1 : Int32) (y2 : Int32) (z : mm_S) : Option mm_R := go_X0_mapNow n 9 [(0, mm_P 0 o), (1, mm_I y1), (2, mm_I y2)] [] z
set_option maxRecDepth 100000 in
theorem qX0_mapNow_0_1 (n : Nat)  (z : mm_S) : eX0_mapNow_0 (n + 1) 1 z = (eX0_mapNow_9 n 1 0 ((z.1 1 6) - 1) z) := rfl
set_option maxRecDepth 100000 in
theorem qX0_mapNow_9_1 (n : Nat)  (y1 : Int32) (y2 : Int32) (z : mm_S) : eX0_mapNow_9 (n + 1) 1 y1 y2 z = (if y2 < 0 then some (some (mm_I y1), z) else let v1 : Int32 := ((y1 * 5) + (pX1_stuffAt 2 (pX3_at 8 y2 z) z)); let v2 : Int32 := (y2 + (-1)); eX0_mapNow_9 n 1 v1 v2 z) := rfl
set_option maxRecDepth 100000 in
theorem qX0_mapNow_0_13 (n : Nat)  (z : mm_S) : eX0_mapNow_0 (n + 1) 13 z = (eX0_mapNow_9 n 13 0 ((z.1 13 6) - 1) z) := rfl
set_option maxRecDepth 100000 in
theorem qX0_mapNow_9_13 (n : Nat)  (y1 : Int32) (y2 : Int32) (z : mm_S) : eX0_mapNow_9 (n + 1) 13 y1 y2 z = (if y2 < 0 then some (some (mm_I y1), z) else let v1 : Int32 := ((y1 * 5) + (pX1_stuffAt 14 (pX3_at 20 y2 z) z)); let v2 : Int32 := (y2 + (-1)); eX0_mapNow_9 n 13 v1 v2 z) := rfl
set_option maxRecDepth 100000 in
theorem qX0_mapNow_0_25 (n : Nat)  (z : mm_S) : eX0_mapNow_0 (n + 1) 25 z = (eX0_mapNow_9 n 25 0 ((z.1 25 6) - 1) z) := rfl
set_option maxRecDepth 100000 in
theorem qX0_mapNow_9_25 (n : Nat)  (y1 : Int32) (y2 : Int32) (z : mm_S) : eX0_mapNow_9 (n + 1) 25 y1 y2 z = (if y2 < 0 then some (some (mm_I y1), z) else let v1 : Int32 := ((y1 * 5) + (pX1_stuffAt 26 (pX3_at 32 y2 z) z)); let v2 : Int32 := (y2 + (-1)); eX0_mapNow_9 n 25 v1 v2 z) := rfl
def rm_X0_mapNow : Room := { frames := 2, cells := 0, slots := 0, locals := 44 }
noncomputable def f_X0_mapNow (as : List mm_V) (z : mm_S) (o : mm_R) : Prop := (as.map mm_cat).sum ≤ 3 ∧ ∃ n, go_X0_mapNow n 0 (mm_ar 0 as) [] z = some o
theorem M_X0_mapNow : mm_M lyTX lyFA lenX snX 46 48 17 roX rsA nfA nmA ssX yX0_mapNow cX0_mapNow 3 (some .int) rm_X0_mapNow f_X0_mapNow :=
  mm_met (rt := 0) (by decide +kernel) ⟨fun h => rfl, fun h => absurd h (by decide), fun h => absurd h (by decide), fun h => absurd h (by decide)⟩ tbX0_mapNow_ok hsnX okFX0 okLX0 okGX0 (fun _ _ _ _ => rfl) (fun _ _ _ _ => rfl) (List.forall_mem_cons.mpr ⟨sV_X1_stuffAt (Or.inl lk_X0_132) rfl ⟨by decide, by decide⟩, fun _ h => absurd h List.not_mem_nil⟩) (List.forall_mem_cons.mpr ⟨sS_X3_at (Or.inr ⟨_, ln_X0_77⟩) rfl ⟨by decide, by decide⟩, fun _ h => absurd h List.not_mem_nil⟩)
noncomputable def lX0_mapNow_9 (o : Nat) (s : Int32 × Int32 × mm_S) : Option ((Int32 × Int32 × mm_S) ⊕ (Int32 × mm_S)) := if s.2.1 < 0 then some (.inr (s.1, s.2.2)) else let v1 : Int32 := ((s.1 * 5) + (pX1_stuffAt (o + 1) (pX3_at (o + 7) s.2.1 s.2.2) s.2.2)); let v2 : Int32 := (s.2.1 + (-1)); some (.inl (v1, v2, s.2.2))
noncomputable def sX0_mapNow_9 (o : Nat) (y1 : Int32) (y2 : Int32) (z : mm_S) : Option (Int32 × mm_S) := mm_wh (lX0_mapNow_9 o ) mm_fu (y1, y2, z)
theorem kX0_mapNow_9 (o : Nat) (hk : mm_ok 46 lyTX 48 17 (mm_P 0 o)) (y1 : Int32) (y2 : Int32) (z : mm_S) (oo : mm_R) : mm_Xs (sX0_mapNow_9 o y1 y2 z) (fun v => (fun v : Int32 × mm_S => ((some (mm_I v.1), v.2) : mm_R)) v = oo) (fun n => eX0_mapNow_9 n o y1 y2 z) oo :=
  xs_wh (stp := lX0_mapNow_9 o ) (o := oo) (E := (fun (s : Int32 × Int32 × mm_S) n => eX0_mapNow_9 n o s.1 s.2.1 s.2.2)) (C := (fun v => (fun v : Int32 × mm_S => ((some (mm_I v.1), v.2) : mm_R)) v = oo)) (fun s => xs_row (T := fun n => if s.2.1 < 0 then some (some (mm_I s.1), s.2.2) else let v1 : Int32 := ((s.1 * 5) + (pX1_stuffAt (o + 1) (pX3_at (o + 7) s.2.1 s.2.2) s.2.2)); let v2 : Int32 := (s.2.1 + (-1)); eX0_mapNow_9 n o v1 v2 s.2.2) (by rcases ok0 hk with rfl | rfl | rfl; exact fun n => qX0_mapNow_9_1 n s.1 s.2.1 s.2.2; exact fun n => qX0_mapNow_9_13 n s.1 s.2.1 s.2.2; exact fun n => qX0_mapNow_9_25 n s.1 s.2.1 s.2.2) (xs_if (xs_v fun hc => ⟨0, congrArg some hc⟩) (xs_let (((s.1 * 5) + (pX1_stuffAt (o + 1) (pX3_at (o + 7) s.2.1 s.2.2) s.2.2))) (S := fun (v1 : Int32) => (let v2 : Int32 := (s.2.1 + (-1)); some (.inl (v1, v2, s.2.2)) : Option ((Int32 × Int32 × mm_S) ⊕ (Int32 × mm_S)))) (T := fun (v1 : Int32) n => let v2 : Int32 := (s.2.1 + (-1)); eX0_mapNow_9 n o v1 v2 s.2.2) (fun v1 => (xs_let ((s.2.1 + (-1))) (S := fun (v2 : Int32) => (some (.inl (v1, v2, s.2.2)) : Option ((Int32 × Int32 × mm_S) ⊕ (Int32 × mm_S)))) (T := fun (v2 : Int32) n => eX0_mapNow_9 n o v1 v2 s.2.2) (fun v2 => (xs_v fun hc => hc))))))) mm_fu (y1, y2, z)
noncomputable def sX0_mapNow_0 (o : Nat)  (z : mm_S) : Option (Int32 × mm_S) := (sX0_mapNow_9 o 0 ((z.1 o 6) - 1) z)
theorem kX0_mapNow_0 (o : Nat) (hk : mm_ok 46 lyTX 48 17 (mm_P 0 o))  (z : mm_S) (oo : mm_R) : mm_Xs (sX0_mapNow_0 o  z) (fun v => (fun v : Int32 × mm_S => ((some (mm_I v.1), v.2) : mm_R)) v = oo) (fun n => eX0_mapNow_0 n o z) oo :=
  xs_row (T := fun n => eX0_mapNow_9 n o 0 ((z.1 o 6) - 1) z) (by rcases ok0 hk with rfl | rfl | rfl; exact fun n => qX0_mapNow_0_1 n z; exact fun n => qX0_mapNow_0_13 n z; exact fun n => qX0_mapNow_0_25 n z) (kX0_mapNow_9 o hk 0 ((z.1 o 6) - 1) z oo)
noncomputable def sX0_mapNow (o : Nat)  (z : mm_S) : Option (Int32 × mm_S) := sX0_mapNow_0 o  z
theorem sp_X0_mapNow (o : Nat)  (z : mm_S) (hk : ∀ v ∈ [mm_P 0 o], mm_ok 46 lyTX 48 17 v) (q : Int32 × mm_S) (hq : sX0_mapNow o  z = some q) : f_X0_mapNow [mm_P 0 o] z (some (mm_I q.1), q.2) := ⟨Nat.le_of_ble_eq_true rfl, kX0_mapNow_0 o (hk (mm_P 0 o) (by simp))  z _ q hq rfl⟩
noncomputable def clo_X0_mapNow (as : List mm_V) (z : mm_S) (kk : Option mm_V → mm_S → Option mm_R) : Option mm_R := mm_pr as fun t o0 as => bif Nat.beq t 0 then (match as with | [] => (sX0_mapNow o0 z).bind fun q => kk (some (mm_I q.1)) q.2 | _ => none) else none
theorem cs_X0_mapNow : mm_cs lyTX 46 48 17 f_X0_mapNow clo_X0_mapNow := by
  intro as z K o hk h
  obtain ⟨t0, o0, r0, rfl, g0⟩ := mm_pr_e h
  obtain ⟨b0, k0⟩ := mm_bif_e g0
  obtain rfl := Nat.eq_of_beq_eq_true b0
  rcases r0 with _ | ⟨u, w⟩
  rotate_left
  · cases k0
  obtain ⟨q, hq, hq2⟩ := Option.bind_eq_some_iff.mp k0
  exact ⟨_, _, sp_X0_mapNow o0 z hk q hq, fun v hv => by cases hv; exact Or.inl ⟨_, rfl⟩, hq2⟩
theorem sV_X0_mapNow {own : String} {R : Room} {ar : Nat → Nat} {k : Nat} (hlink : Cond.methodLink own k yX0_mapNow ∈ lw_gd ∨ ∃ host, (own, k, yX0_mapNow, host) ∈ nmA) (har : ar k = 1) (hr : 3 ≤ R.frames ∧ 66 ≤ R.locals) : mm_okV lyTX lyFA lenX snX 46 48 17 roX rsA nfA nmA ssX own R ar k clo_X0_mapNow := by
  refine ⟨yX0_mapNow, cX0_mapNow, 3, some .int, rm_X0_mapNow, f_X0_mapNow, 0, 0, (RX0, TX0, 14), M_X0_mapNow, cs_X0_mapNow, hlink, ⟨wv_X0_mapNow, wz_X0_mapNow, wi_X0_mapNow, wc_X0_mapNow⟩, ⟨by decide +kernel, by decide +kernel, by decide +kernel⟩, har, ⟨rfl, rfl, by decide⟩, ?_, ⟨rfl, rfl, hr.1, hr.2⟩⟩
  intro as z K o h
  obtain ⟨t0, o0, r0, rfl, g0⟩ := mm_pr_e h
  obtain ⟨b0, k0⟩ := mm_bif_e g0
  obtain rfl := Nat.eq_of_beq_eq_true b0
  exact ⟨_, _, rfl⟩
-- X0_layMap
noncomputable def lV_X0_layMap : List (Nat × (List mm_V → mm_S → (Option mm_V → mm_S → Option mm_R) → Option mm_R)) := [(135, clo_X1_put)]
noncomputable def mV_X0_layMap (k : Nat) (as : List mm_V) (z : mm_S) (kk : Option mm_V → mm_S → Option mm_R) : Option mm_R := match mm_at lV_X0_layMap k with
  | some f => f as z kk
  | none => none
noncomputable def arV_X0_layMap (k : Nat) : Nat := (mm_at [(135, 3)] k).getD 0
noncomputable def lS_X0_layMap : List (Nat × (List mm_V → mm_S → (Option mm_V → mm_S → Option mm_R) → Option mm_R)) := [(77, clo_X3_at)]
noncomputable def mS_X0_layMap (k : Nat) (as : List mm_V) (z : mm_S) (kk : Option mm_V → mm_S → Option mm_R) : Option mm_R := match mm_at lS_X0_layMap k with
  | some f => f as z kk
  | none => none
noncomputable def arS_X0_layMap (k : Nat) : Nat := (mm_at [(77, 2)] k).getD 0
def ct_X0_layMap : List (Nat × List Nat) := [(4, [0, 2, 3]), (30, [0, 2, 3])]
noncomputable def go_X0_layMap : Nat → mm_K := mm_go (fun k => mm_at flX0 k) (fun k => mm_at clX0 k) (fun k => mm_at glX0 k) arV_X0_layMap arS_X0_layMap mV_X0_layMap mS_X0_layMap lenX roX snX 4 3 tbX0_layMap ct_X0_layMap
noncomputable def eX0_layMap_0 (n : Nat) (o : Nat) (x1 : Int32) (z : mm_S) : Option mm_R := go_X0_layMap n 0 [(0, mm_P 0 o), (1, mm_I x1)] [] z
noncomputable def eX0_layMap_4 (n : Nat) (o : Nat) (y2 : Int32) (y3 : Int32) (z : mm_S) : Option mm_R := go_X0_layMap n 4 [(0, mm_P 0 o), (2, mm_I y2), (3, mm_I y3)] [] z
noncomputable def eX0_layMap_30 (n : Nat) (o : Nat) (y2 : Int32) (y3 : Int32) (z : mm_S) : Option mm_R := go_X0_layMap n 30 [(0, mm_P 0 o), (2, mm_I y2), (3, mm_I y3)] [] z
set_option maxRecDepth 100000 in
theorem qX0_layMap_0_1 (n : Nat)  (x1 : Int32) (z : mm_S) : eX0_layMap_0 (n + 1) 1 x1 z = (eX0_layMap_4 n 1 x1 0 z) := rfl
set_option maxRecDepth 100000 in
theorem qX0_layMap_4_1 (n : Nat)  (y2 : Int32) (y3 : Int32) (z : mm_S) : eX0_layMap_4 (n + 1) 1 y2 y3 z = (if (z.1 1 6) ≤ y3 then some (none, z) else let u1 := (tX1_put 2 (pX3_at 8 y3 z) (y2 - y2 / 5 * 5) z); eX0_layMap_30 n 1 y2 y3 u1) := rfl
set_option maxRecDepth 100000 in
theorem qX0_layMap_30_1 (n : Nat)  (y2 : Int32) (y3 : Int32) (z : mm_S) : eX0_layMap_30 (n + 1) 1 y2 y3 z = (eX0_layMap_4 n 1 (y2 / 5) (y3 + 1) z) := rfl
set_option maxRecDepth 100000 in
theorem qX0_layMap_0_13 (n : Nat)  (x1 : Int32) (z : mm_S) : eX0_layMap_0 (n + 1) 13 x1 z = (eX0_layMap_4 n 13 x1 0 z) := rfl
set_option maxRecDepth 100000 in
theorem qX0_layMap_4_13 (n : Nat)  (y2 : Int32) (y3 : Int32) (z : mm_S) : eX0_layMap_4 (n + 1) 13 y2 y3 z = (if (z.1 13 6) ≤ y3 then some (none, z) else let u1 := (tX1_put 14 (pX3_at 20 y3 z) (y2 - y2 / 5 * 5) z); eX0_layMap_30 n 13 y2 y3 u1) := rfl
set_option maxRecDepth 100000 in
theorem qX0_layMap_30_13 (n : Nat)  (y2 : Int32) (y3 : Int32) (z : mm_S) : eX0_layMap_30 (n + 1) 13 y2 y3 z = (eX0_layMap_4 n 13 (y2 / 5) (y3 + 1) z) := rfl
set_option maxRecDepth 100000 in
theorem qX0_layMap_0_25 (n : Nat)  (x1 : Int32) (z : mm_S) : eX0_layMap_0 (n + 1) 25 x1 z = (eX0_layMap_4 n 25 x1 0 z) := rfl
set_option maxRecDepth 100000 in
theorem qX0_layMap_4_25 (n : Nat)  (y2 : Int32) (y3 : Int32) (z : mm_S) : eX0_layMap_4 (n + 1) 25 y2 y3 z = (if (z.1 25 6) ≤ y3 then some (none, z) else let u1 := (tX1_put 26 (pX3_at 32 y3 z) (y2 - y2 / 5 * 5) z); eX0_layMap_30 n 25 y2 y3 u1) := rfl
set_option maxRecDepth 100000 in
theorem qX0_layMap_30_25 (n : Nat)  (y2 : Int32) (y3 : Int32) (z : mm_S) : eX0_layMap_30 (n + 1) 25 y2 y3 z = (eX0_layMap_4 n 25 (y2 / 5) (y3 + 1) z) := rfl
def rm_X0_layMap : Room := { frames := 3, cells := 0, slots := 0, locals := 65 }
noncomputable def f_X0_layMap (as : List mm_V) (z : mm_S) (o : mm_R) : Prop := (as.map mm_cat).sum ≤ 4 ∧ ∃ n, go_X0_layMap n 0 (mm_ar 0 as) [] z = some o
theorem M_X0_layMap : mm_M lyTX lyFA lenX snX 46 48 17 roX rsA nfA nmA ssX yX0_layMap cX0_layMap 4 (none) rm_X0_layMap f_X0_layMap :=
  mm_met (rt := 3) (by decide +kernel) ⟨fun h => absurd h (by decide), fun h => absurd h (by decide), fun h => absurd h (by decide), fun h => rfl⟩ tbX0_layMap_ok hsnX okFX0 okLX0 okGX0 (fun _ _ _ _ => rfl) (fun _ _ _ _ => rfl) (List.forall_mem_cons.mpr ⟨sV_X1_put (Or.inl lk_X0_135) rfl ⟨by decide, by decide⟩, fun _ h => absurd h List.not_mem_nil⟩) (List.forall_mem_cons.mpr ⟨sS_X3_at (Or.inr ⟨_, ln_X0_77⟩) rfl ⟨by decide, by decide⟩, fun _ h => absurd h List.not_mem_nil⟩)
noncomputable def sX0_layMap_30 (o : Nat) (y2 : Int32) (y3 : Int32) (z : mm_S) : Option ((Int32 × Int32 × mm_S) ⊕ (mm_S)) := some (.inl ((y2 / 5), (y3 + 1), z))
theorem kX0_layMap_30 (o : Nat) (hk : mm_ok 46 lyTX 48 17 (mm_P 0 o)) (y2 : Int32) (y3 : Int32) (z : mm_S) (oo : mm_R) : mm_Xs (sX0_layMap_30 o y2 y3 z) (mm_mt (fun x : Int32 × Int32 × mm_S => ∃ n, eX0_layMap_4 n o x.1 x.2.1 x.2.2 = some oo) (fun v => (fun v : mm_S => ((none, v) : mm_R)) v = oo)) (fun n => eX0_layMap_30 n o y2 y3 z) oo :=
  xs_row (T := fun n => eX0_layMap_4 n o (y2 / 5) (y3 + 1) z) (by rcases ok0 hk with rfl | rfl | rfl; exact fun n => qX0_layMap_30_1 n y2 y3 z; exact fun n => qX0_layMap_30_13 n y2 y3 z; exact fun n => qX0_layMap_30_25 n y2 y3 z) (xs_v fun hc => hc)
noncomputable def lX0_layMap_4 (o : Nat) (s : Int32 × Int32 × mm_S) : Option ((Int32 × Int32 × mm_S) ⊕ (mm_S)) := if (s.2.2.1 o 6) ≤ s.2.1 then some (.inr (s.2.2)) else let u1 := (tX1_put (o + 1) (pX3_at (o + 7) s.2.1 s.2.2) (s.1 - s.1 / 5 * 5) s.2.2); (sX0_layMap_30 o s.1 s.2.1 u1)
noncomputable def sX0_layMap_4 (o : Nat) (y2 : Int32) (y3 : Int32) (z : mm_S) : Option (mm_S) := mm_wh (lX0_layMap_4 o ) mm_fu (y2, y3, z)
theorem kX0_layMap_4 (o : Nat) (hk : mm_ok 46 lyTX 48 17 (mm_P 0 o)) (y2 : Int32) (y3 : Int32) (z : mm_S) (oo : mm_R) : mm_Xs (sX0_layMap_4 o y2 y3 z) (fun v => (fun v : mm_S => ((none, v) : mm_R)) v = oo) (fun n => eX0_layMap_4 n o y2 y3 z) oo :=
  xs_wh (stp := lX0_layMap_4 o ) (o := oo) (E := (fun (s : Int32 × Int32 × mm_S) n => eX0_layMap_4 n o s.1 s.2.1 s.2.2)) (C := (fun v => (fun v : mm_S => ((none, v) : mm_R)) v = oo)) (fun s => xs_row (T := fun n => if (s.2.2.1 o 6) ≤ s.2.1 then some (none, s.2.2) else let u1 := (tX1_put (o + 1) (pX3_at (o + 7) s.2.1 s.2.2) (s.1 - s.1 / 5 * 5) s.2.2); eX0_layMap_30 n o s.1 s.2.1 u1) (by rcases ok0 hk with rfl | rfl | rfl; exact fun n => qX0_layMap_4_1 n s.1 s.2.1 s.2.2; exact fun n => qX0_layMap_4_13 n s.1 s.2.1 s.2.2; exact fun n => qX0_layMap_4_25 n s.1 s.2.1 s.2.2) (xs_if (xs_v fun hc => ⟨0, congrArg some hc⟩) (xs_let ((tX1_put (o + 1) (pX3_at (o + 7) s.2.1 s.2.2) (s.1 - s.1 / 5 * 5) s.2.2)) (S := fun (u1 : _) => ((sX0_layMap_30 o s.1 s.2.1 u1) : Option ((Int32 × Int32 × mm_S) ⊕ (mm_S)))) (T := fun (u1 : _) n => eX0_layMap_30 n o s.1 s.2.1 u1) (fun u1 => (kX0_layMap_30 o hk s.1 s.2.1 u1 oo))))) mm_fu (y2, y3, z)
noncomputable def sX0_layMap_0 (o : Nat) (x1 : Int32) (z : mm_S) : Option (mm_S) := (sX0_layMap_4 o x1 0 z)
theorem kX0_layMap_0 (o : Nat) (hk : mm_ok 46 lyTX 48 17 (mm_P 0 o)) (x1 : Int32) (z : mm_S) (oo : mm_R) : mm_Xs (sX0_layMap_0 o x1 z) (fun v => (fun v : mm_S => ((none, v) : mm_R)) v = oo) (fun n => eX0_layMap_0 n o x1 z) oo :=
  xs_row (T := fun n => eX0_layMap_4 n o x1 0 z) (by rcases ok0 hk with rfl | rfl | rfl; exact fun n => qX0_layMap_0_1 n x1 z; exact fun n => qX0_layMap_0_13 n x1 z; exact fun n => qX0_layMap_0_25 n x1 z) (kX0_layMap_4 o hk x1 0 z oo)
noncomputable def sX0_layMap (o : Nat) (x1 : Int32) (z : mm_S) : Option (mm_S) := sX0_layMap_0 o x1 z
theorem sp_X0_layMap (o : Nat) (x1 : Int32) (z : mm_S) (hk : ∀ v ∈ [mm_P 0 o, mm_I x1], mm_ok 46 lyTX 48 17 v) (q : mm_S) (hq : sX0_layMap o x1 z = some q) : f_X0_layMap [mm_P 0 o, mm_I x1] z (none, q) := ⟨Nat.le_of_ble_eq_true rfl, kX0_layMap_0 o (hk (mm_P 0 o) (by simp)) x1 z _ q hq rfl⟩
noncomputable def clo_X0_layMap (as : List mm_V) (z : mm_S) (kk : Option mm_V → mm_S → Option mm_R) : Option mm_R := mm_pr as fun t o0 as => bif Nat.beq t 0 then mm_pi as fun a1 as => (match as with | [] => (sX0_layMap o0 a1 z).bind fun q => kk none q | _ => none) else none
theorem cs_X0_layMap : mm_cs lyTX 46 48 17 f_X0_layMap clo_X0_layMap := by
  intro as z K o hk h
  obtain ⟨t0, o0, r0, rfl, g0⟩ := mm_pr_e h
  obtain ⟨b0, k0⟩ := mm_bif_e g0
  obtain rfl := Nat.eq_of_beq_eq_true b0
  obtain ⟨a1, r1, rfl, g1⟩ := mm_pi_e k0
  rcases r1 with _ | ⟨u, w⟩
  rotate_left
  · cases g1
  obtain ⟨q, hq, hq2⟩ := Option.bind_eq_some_iff.mp g1
  exact ⟨_, _, sp_X0_layMap o0 a1 z hk q hq, (fun v hv => by cases hv), hq2⟩
theorem sV_X0_layMap {own : String} {R : Room} {ar : Nat → Nat} {k : Nat} (hlink : Cond.methodLink own k yX0_layMap ∈ lw_gd ∨ ∃ host, (own, k, yX0_layMap, host) ∈ nmA) (har : ar k = 2) (hr : 4 ≤ R.frames ∧ 88 ≤ R.locals) : mm_okV lyTX lyFA lenX snX 46 48 17 roX rsA nfA nmA ssX own R ar k clo_X0_layMap := by
  refine ⟨yX0_layMap, cX0_layMap, 4, none, rm_X0_layMap, f_X0_layMap, 0, 1, (RX0, TX0, 14), M_X0_layMap, cs_X0_layMap, hlink, ⟨wv_X0_layMap, wz_X0_layMap, wi_X0_layMap, wc_X0_layMap⟩, ⟨by decide +kernel, by decide +kernel, by decide +kernel⟩, har, ⟨rfl, rfl, by decide⟩, ?_, ⟨rfl, rfl, hr.1, hr.2⟩⟩
  intro as z K o h
  obtain ⟨t0, o0, r0, rfl, g0⟩ := mm_pr_e h
  obtain ⟨b0, k0⟩ := mm_bif_e g0
  obtain rfl := Nat.eq_of_beq_eq_true b0
  exact ⟨_, _, rfl⟩
-- X0_firstWrong
noncomputable def lV_X0_firstWrong : List (Nat × (List mm_V → mm_S → (Option mm_V → mm_S → Option mm_R) → Option mm_R)) := [(105, clo_X1_timeBetween)]
noncomputable def mV_X0_firstWrong (k : Nat) (as : List mm_V) (z : mm_S) (kk : Option mm_V → mm_S → Option mm_R) : Option mm_R := match mm_at lV_X0_firstWrong k with
  | some f => f as z kk
  | none => none
noncomputable def arV_X0_firstWrong (k : Nat) : Nat := (mm_at [(105, 3)] k).getD 0
noncomputable def lS_X0_firstWrong : List (Nat × (List mm_V → mm_S → (Option mm_V → mm_S → Option mm_R) → Option mm_R)) := [(77, clo_X3_at), (139, mm_mn)]
noncomputable def mS_X0_firstWrong (k : Nat) (as : List mm_V) (z : mm_S) (kk : Option mm_V → mm_S → Option mm_R) : Option mm_R := match mm_at lS_X0_firstWrong k with
  | some f => f as z kk
  | none => none
noncomputable def arS_X0_firstWrong (k : Nat) : Nat := (mm_at [(77, 2), (139, 2)] k).getD 0
def ct_X0_firstWrong : List (Nat × List Nat) := [(2, [0, 1]), (34, [0, 1, 2])]
noncomputable def go_X0_firstWrong : Nat → mm_K := mm_go (fun k => mm_at flX0 k) (fun k => mm_at clX0 k) (fun k => mm_at glX0 k) arV_X0_firstWrong arS_X0_firstWrong mV_X0_firstWrong mS_X0_firstWrong lenX roX snX 4 0 tbX0_firstWrong ct_X0_firstWrong
noncomputable def eX0_firstWrong_0 (n : Nat) (o : Nat) (z : mm_S) : Option mm_R := go_X0_firstWrong n 0 [(0, mm_P 0 o)] [] z
noncomputable def eX0_firstWrong_2 (n : Nat) (o : Nat) (y1 : Int32) (z : mm_S) : Option mm_R := go_X0_firstWrong n 2 [(0, mm_P 0 o), (1, mm_I y1)] [] z
noncomputable def eX0_firstWrong_34 (n : Nat) (o : Nat) (y1 : Int32) (y2 : Int32) (z : mm_S) : Option mm_R := go_X0_firstWrong n 34 [(0, mm_P 0 o), (1, mm_I y1), (2, mm_I y2)] [] z
set_option maxRecDepth 100000 in
theorem qX0_firstWrong_0_1 (n : Nat)  (z : mm_S) : eX0_firstWrong_0 (n + 1) 1 z = (eX0_firstWrong_2 n 1 0 z) := rfl
set_option maxRecDepth 100000 in
theorem qX0_firstWrong_2_1 (n : Nat)  (y1 : Int32) (z : mm_S) : eX0_firstWrong_2 (n + 1) 1 y1 z = (if (z.1 1 10) ≤ y1 then some (some (mm_I (-1)), z) else (sX1_timeBetween 2 (pX3_at 9 y1 z) (pX3_at 10 y1 z) z).bind fun q1 => eX0_firstWrong_34 n 1 y1 q1.1 q1.2) := rfl
set_option maxRecDepth 100000 in
theorem qX0_firstWrong_34_1 (n : Nat)  (y1 : Int32) (y2 : Int32) (z : mm_S) : eX0_firstWrong_34 (n + 1) 1 y1 y2 z = (if y2 = (-1) then if 99 = (pX3_at 11 y1 z) then eX0_firstWrong_2 n 1 (y1 + 1) z else some (some (mm_I y1), z) else if (mm_min y2 99) = (pX3_at 11 y1 z) then eX0_firstWrong_2 n 1 (y1 + 1) z else some (some (mm_I y1), z)) := rfl
set_option maxRecDepth 100000 in
theorem qX0_firstWrong_0_13 (n : Nat)  (z : mm_S) : eX0_firstWrong_0 (n + 1) 13 z = (eX0_firstWrong_2 n 13 0 z) := rfl
set_option maxRecDepth 100000 in
theorem qX0_firstWrong_2_13 (n : Nat)  (y1 : Int32) (z : mm_S) : eX0_firstWrong_2 (n + 1) 13 y1 z = (if (z.1 13 10) ≤ y1 then some (some (mm_I (-1)), z) else (sX1_timeBetween 14 (pX3_at 21 y1 z) (pX3_at 22 y1 z) z).bind fun q1 => eX0_firstWrong_34 n 13 y1 q1.1 q1.2) := rfl
set_option maxRecDepth 100000 in
theorem qX0_firstWrong_34_13 (n : Nat)  (y1 : Int32) (y2 : Int32) (z : mm_S) : eX0_firstWrong_34 (n + 1) 13 y1 y2 z = (if y2 = (-1) then if 99 = (pX3_at 23 y1 z) then eX0_firstWrong_2 n 13 (y1 + 1) z else some (some (mm_I y1), z) else if (mm_min y2 99) = (pX3_at 23 y1 z) then eX0_firstWrong_2 n 13 (y1 + 1) z else some (some (mm_I y1), z)) := rfl
set_option maxRecDepth 100000 in
theorem qX0_firstWrong_0_25 (n : Nat)  (z : mm_S) : eX0_firstWrong_0 (n + 1) 25 z = (eX0_firstWrong_2 n 25 0 z) := rfl
set_option maxRecDepth 100000 in
theorem qX0_firstWrong_2_25 (n : Nat)  (y1 : Int32) (z : mm_S) : eX0_firstWrong_2 (n + 1) 25 y1 z = (if (z.1 25 10) ≤ y1 then some (some (mm_I (-1)), z) else (sX1_timeBetween 26 (pX3_at 33 y1 z) (pX3_at 34 y1 z) z).bind fun q1 => eX0_firstWrong_34 n 25 y1 q1.1 q1.2) := rfl
set_option maxRecDepth 100000 in
theorem qX0_firstWrong_34_25 (n : Nat)  (y1 : Int32) (y2 : Int32) (z : mm_S) : eX0_firstWrong_34 (n + 1) 25 y1 y2 z = (if y2 = (-1) then if 99 = (pX3_at 35 y1 z) then eX0_firstWrong_2 n 25 (y1 + 1) z else some (some (mm_I y1), z) else if (mm_min y2 99) = (pX3_at 35 y1 z) then eX0_firstWrong_2 n 25 (y1 + 1) z else some (some (mm_I y1), z)) := rfl
def rm_X0_firstWrong : Room := { frames := 3, cells := 0, slots := 0, locals := 80 }
noncomputable def f_X0_firstWrong (as : List mm_V) (z : mm_S) (o : mm_R) : Prop := (as.map mm_cat).sum ≤ 4 ∧ ∃ n, go_X0_firstWrong n 0 (mm_ar 0 as) [] z = some o
theorem M_X0_firstWrong : mm_M lyTX lyFA lenX snX 46 48 17 roX rsA nfA nmA ssX yX0_firstWrong cX0_firstWrong 4 (some .int) rm_X0_firstWrong f_X0_firstWrong :=
  mm_met (rt := 0) (by decide +kernel) ⟨fun h => rfl, fun h => absurd h (by decide), fun h => absurd h (by decide), fun h => absurd h (by decide)⟩ tbX0_firstWrong_ok hsnX okFX0 okLX0 okGX0 (fun _ _ _ _ => rfl) (fun _ _ _ _ => rfl) (List.forall_mem_cons.mpr ⟨sV_X1_timeBetween (Or.inl lk_X0_105) rfl ⟨by decide, by decide⟩, fun _ h => absurd h List.not_mem_nil⟩) (List.forall_mem_cons.mpr ⟨sS_X3_at (Or.inr ⟨_, ln_X0_77⟩) rfl ⟨by decide, by decide⟩, List.forall_mem_cons.mpr ⟨Or.inr (Or.inr ⟨Or.inr ⟨rfl, lk_X0_139, ws_min, wc_min⟩, wi_math, by decide, by decide, rfl⟩), fun _ h => absurd h List.not_mem_nil⟩⟩)
noncomputable def sX0_firstWrong_34 (o : Nat) (y1 : Int32) (y2 : Int32) (z : mm_S) : Option ((Int32 × mm_S) ⊕ (Int32 × mm_S)) := if y2 = (-1) then if 99 = (pX3_at (o + 10) y1 z) then some (.inl ((y1 + 1), z)) else some (.inr (y1, z)) else if (mm_min y2 99) = (pX3_at (o + 10) y1 z) then some (.inl ((y1 + 1), z)) else some (.inr (y1, z))
theorem kX0_firstWrong_34 (o : Nat) (hk : mm_ok 46 lyTX 48 17 (mm_P 0 o)) (y1 : Int32) (y2 : Int32) (z : mm_S) (oo : mm_R) : mm_Xs (sX0_firstWrong_34 o y1 y2 z) (mm_mt (fun x : Int32 × mm_S => ∃ n, eX0_firstWrong_2 n o x.1 x.2 = some oo) (fun v => (fun v : Int32 × mm_S => ((some (mm_I v.1), v.2) : mm_R)) v = oo)) (fun n => eX0_firstWrong_34 n o y1 y2 z) oo :=
  xs_row (T := fun n => if y2 = (-1) then if 99 = (pX3_at (o + 10) y1 z) then eX0_firstWrong_2 n o (y1 + 1) z else some (some (mm_I y1), z) else if (mm_min y2 99) = (pX3_at (o + 10) y1 z) then eX0_firstWrong_2 n o (y1 + 1) z else some (some (mm_I y1), z)) (by rcases ok0 hk with rfl | rfl | rfl; exact fun n => qX0_firstWrong_34_1 n y1 y2 z; exact fun n => qX0_firstWrong_34_13 n y1 y2 z; exact fun n => qX0_firstWrong_34_25 n y1 y2 z) (xs_if (xs_if (xs_v fun hc => hc) (xs_v fun hc => ⟨0, congrArg some hc⟩)) (xs_if (xs_v fun hc => hc) (xs_v fun hc => ⟨0, congrArg some hc⟩)))
noncomputable def lX0_firstWrong_2 (o : Nat) (s : Int32 × mm_S) : Option ((Int32 × mm_S) ⊕ (Int32 × mm_S)) := if (s.2.1 o 10) ≤ s.1 then some (.inr ((-1), s.2)) else (sX1_timeBetween (o + 1) (pX3_at (o + 8) s.1 s.2) (pX3_at (o + 9) s.1 s.2) s.2).bind fun q1 => (sX0_firstWrong_34 o s.1 q1.1 q1.2)
noncomputable def sX0_firstWrong_2 (o : Nat) (y1 : Int32) (z : mm_S) : Option (Int32 × mm_S) := mm_wh (lX0_firstWrong_2 o ) mm_fu (y1, z)
theorem kX0_firstWrong_2 (o : Nat) (hk : mm_ok 46 lyTX 48 17 (mm_P 0 o)) (y1 : Int32) (z : mm_S) (oo : mm_R) : mm_Xs (sX0_firstWrong_2 o y1 z) (fun v => (fun v : Int32 × mm_S => ((some (mm_I v.1), v.2) : mm_R)) v = oo) (fun n => eX0_firstWrong_2 n o y1 z) oo :=
  xs_wh (stp := lX0_firstWrong_2 o ) (o := oo) (E := (fun (s : Int32 × mm_S) n => eX0_firstWrong_2 n o s.1 s.2)) (C := (fun v => (fun v : Int32 × mm_S => ((some (mm_I v.1), v.2) : mm_R)) v = oo)) (fun s => xs_row (T := fun n => if (s.2.1 o 10) ≤ s.1 then some (some (mm_I (-1)), s.2) else (sX1_timeBetween (o + 1) (pX3_at (o + 8) s.1 s.2) (pX3_at (o + 9) s.1 s.2) s.2).bind fun q1 => eX0_firstWrong_34 n o s.1 q1.1 q1.2) (by rcases ok0 hk with rfl | rfl | rfl; exact fun n => qX0_firstWrong_2_1 n s.1 s.2; exact fun n => qX0_firstWrong_2_13 n s.1 s.2; exact fun n => qX0_firstWrong_2_25 n s.1 s.2) (xs_if (xs_v fun hc => ⟨0, congrArg some hc⟩) (xs_bd fun q1 => (kX0_firstWrong_34 o hk s.1 q1.1 q1.2 oo)))) mm_fu (y1, z)
noncomputable def sX0_firstWrong_0 (o : Nat)  (z : mm_S) : Option (Int32 × mm_S) := (sX0_firstWrong_2 o 0 z)
theorem kX0_firstWrong_0 (o : Nat) (hk : mm_ok 46 lyTX 48 17 (mm_P 0 o))  (z : mm_S) (oo : mm_R) : mm_Xs (sX0_firstWrong_0 o  z) (fun v => (fun v : Int32 × mm_S => ((some (mm_I v.1), v.2) : mm_R)) v = oo) (fun n => eX0_firstWrong_0 n o z) oo :=
  xs_row (T := fun n => eX0_firstWrong_2 n o 0 z) (by rcases ok0 hk with rfl | rfl | rfl; exact fun n => qX0_firstWrong_0_1 n z; exact fun n => qX0_firstWrong_0_13 n z; exact fun n => qX0_firstWrong_0_25 n z) (kX0_firstWrong_2 o hk 0 z oo)
noncomputable def sX0_firstWrong (o : Nat)  (z : mm_S) : Option (Int32 × mm_S) := sX0_firstWrong_0 o  z
theorem sp_X0_firstWrong (o : Nat)  (z : mm_S) (hk : ∀ v ∈ [mm_P 0 o], mm_ok 46 lyTX 48 17 v) (q : Int32 × mm_S) (hq : sX0_firstWrong o  z = some q) : f_X0_firstWrong [mm_P 0 o] z (some (mm_I q.1), q.2) := ⟨Nat.le_of_ble_eq_true rfl, kX0_firstWrong_0 o (hk (mm_P 0 o) (by simp))  z _ q hq rfl⟩
noncomputable def clo_X0_firstWrong (as : List mm_V) (z : mm_S) (kk : Option mm_V → mm_S → Option mm_R) : Option mm_R := mm_pr as fun t o0 as => bif Nat.beq t 0 then (match as with | [] => (sX0_firstWrong o0 z).bind fun q => kk (some (mm_I q.1)) q.2 | _ => none) else none
theorem cs_X0_firstWrong : mm_cs lyTX 46 48 17 f_X0_firstWrong clo_X0_firstWrong := by
  intro as z K o hk h
  obtain ⟨t0, o0, r0, rfl, g0⟩ := mm_pr_e h
  obtain ⟨b0, k0⟩ := mm_bif_e g0
  obtain rfl := Nat.eq_of_beq_eq_true b0
  rcases r0 with _ | ⟨u, w⟩
  rotate_left
  · cases k0
  obtain ⟨q, hq, hq2⟩ := Option.bind_eq_some_iff.mp k0
  exact ⟨_, _, sp_X0_firstWrong o0 z hk q hq, fun v hv => by cases hv; exact Or.inl ⟨_, rfl⟩, hq2⟩
theorem sV_X0_firstWrong {own : String} {R : Room} {ar : Nat → Nat} {k : Nat} (hlink : Cond.methodLink own k yX0_firstWrong ∈ lw_gd ∨ ∃ host, (own, k, yX0_firstWrong, host) ∈ nmA) (har : ar k = 1) (hr : 4 ≤ R.frames ∧ 103 ≤ R.locals) : mm_okV lyTX lyFA lenX snX 46 48 17 roX rsA nfA nmA ssX own R ar k clo_X0_firstWrong := by
  refine ⟨yX0_firstWrong, cX0_firstWrong, 4, some .int, rm_X0_firstWrong, f_X0_firstWrong, 0, 0, (RX0, TX0, 14), M_X0_firstWrong, cs_X0_firstWrong, hlink, ⟨wv_X0_firstWrong, wz_X0_firstWrong, wi_X0_firstWrong, wc_X0_firstWrong⟩, ⟨by decide +kernel, by decide +kernel, by decide +kernel⟩, har, ⟨rfl, rfl, by decide⟩, ?_, ⟨rfl, rfl, hr.1, hr.2⟩⟩
  intro as z K o h
  obtain ⟨t0, o0, r0, rfl, g0⟩ := mm_pr_e h
  obtain ⟨b0, k0⟩ := mm_bif_e g0
  obtain rfl := Nat.eq_of_beq_eq_true b0
  exact ⟨_, _, rfl⟩
