-- X4_isUnder
def lV_X4_isUnder : List (Nat × (List mm_V → mm_S → (Option mm_V → mm_S → Option mm_R) → Option mm_R)) := []
def mV_X4_isUnder (k : Nat) (as : List mm_V) (z : mm_S) (kk : Option mm_V → mm_S → Option mm_R) : Option mm_R := match mm_at lV_X4_isUnder k with
  | some f => f as z kk
  | none => none
def arV_X4_isUnder (k : Nat) : Nat := (mm_at [] k).getD 0
def lS_X4_isUnder : List (Nat × (List mm_V → mm_S → (Option mm_V → mm_S → Option mm_R) → Option mm_R)) := [(136, clo_X4_above)]
def mS_X4_isUnder (k : Nat) (as : List mm_V) (z : mm_S) (kk : Option mm_V → mm_S → Option mm_R) : Option mm_R := match mm_at lS_X4_isUnder k with
  | some f => f as z kk
  | none => none
def arS_X4_isUnder (k : Nat) : Nat := (mm_at [(136, 1)] k).getD 0
def ct_X4_isUnder : List (Nat × List Nat) := [(2, [1, 2])]
def go_X4_isUnder : Nat → mm_K := mm_go (fun k => mm_at flX4 k) (fun k => mm_at clX4 k) (fun k => mm_at glX4 k) arV_X4_isUnder arS_X4_isUnder mV_X4_isUnder mS_X4_isUnder lenM roM snM 3 1 tbX4_isUnder ct_X4_isUnder
def eX4_isUnder_0 (n : Nat) (x1 : Int32) (x2 : Int32) (z : mm_S) : Option mm_R := go_X4_isUnder n 0 [(0, mm_I x1), (1, mm_I x2)] [] z
def eX4_isUnder_2 (n : Nat) (y1 : Int32) (y2 : Int32) (z : mm_S) : Option mm_R := go_X4_isUnder n 2 [(1, mm_I y1), (2, mm_I y2)] [] z
set_option maxRecDepth 100000 in
theorem qX4_isUnder_0 (n : Nat) (x1 : Int32) (x2 : Int32) (z : mm_S) : eX4_isUnder_0 (n + 1) x1 x2 z = (eX4_isUnder_2 n x2 x1 z) := rfl
set_option maxRecDepth 100000 in
theorem qX4_isUnder_2 (n : Nat) (y1 : Int32) (y2 : Int32) (z : mm_S) : eX4_isUnder_2 (n + 1) y1 y2 z = (if y2 < 0 then if y2 < 0 then some (some (mm_I 0), z) else some (some (mm_I 1), z) else if y2 = y1 then if y2 < 0 then some (some (mm_I 0), z) else some (some (mm_I 1), z) else eX4_isUnder_2 n y1 (pX4_above y2) z) := rfl
def rm_X4_isUnder : Room := { frames := 1, cells := 0, slots := 0, locals := 20 }
def f_X4_isUnder (as : List mm_V) (z : mm_S) (o : mm_R) : Prop := (as.map mm_cat).sum ≤ 3 ∧ ∃ n, go_X4_isUnder n 0 (mm_ar 0 as) [] z = some o
theorem M_X4_isUnder : mm_M lyTM lyFA lenM snM 22 22 17 roM rsA nfA nmA [] yX4_isUnder cX4_isUnder 3 (some .boolean) rm_X4_isUnder f_X4_isUnder :=
  mm_met (rt := 1) (by decide +kernel) ⟨fun h => absurd h (by decide), fun h => rfl, fun h => absurd h (by decide), fun h => absurd h (by decide)⟩ tbX4_isUnder_ok hsnM okFX4 okLX4 (fun _ h => absurd h List.not_mem_nil) (fun _ _ _ _ => rfl) (fun _ _ _ _ => rfl) (fun _ h => absurd h List.not_mem_nil) (List.forall_mem_cons.mpr ⟨sS_X4_above (Or.inl lk_X4_136) rfl ⟨by decide, by decide⟩, fun _ h => absurd h List.not_mem_nil⟩)
def lX4_isUnder_2 (s : Int32 × Int32 × mm_S) : Option ((Int32 × Int32 × mm_S) ⊕ (Int32 × mm_S)) := if s.2.1 < 0 then if s.2.1 < 0 then some (.inr (0, s.2.2)) else some (.inr (1, s.2.2)) else if s.2.1 = s.1 then if s.2.1 < 0 then some (.inr (0, s.2.2)) else some (.inr (1, s.2.2)) else some (.inl (s.1, (pX4_above s.2.1), s.2.2))
def sX4_isUnder_2 (y1 : Int32) (y2 : Int32) (z : mm_S) : Option (Int32 × mm_S) := mm_wh (lX4_isUnder_2 ) 100000 (y1, y2, z)
theorem kX4_isUnder_2 (y1 : Int32) (y2 : Int32) (z : mm_S) (oo : mm_R) : mm_Xs (sX4_isUnder_2 y1 y2 z) (fun v => (fun v : Int32 × mm_S => ((some (mm_I v.1), v.2) : mm_R)) v = oo) (fun n => eX4_isUnder_2 n y1 y2 z) oo :=
  xs_wh (E := (fun (s : Int32 × Int32 × mm_S) n => eX4_isUnder_2 n s.1 s.2.1 s.2.2)) (C := (fun v => (fun v : Int32 × mm_S => ((some (mm_I v.1), v.2) : mm_R)) v = oo)) (fun s => xs_row (fun n => qX4_isUnder_2 n s.1 s.2.1 s.2.2) (xs_if (xs_if (xs_v fun hc => ⟨0, congrArg some hc⟩) (xs_v fun hc => ⟨0, congrArg some hc⟩)) (xs_if (xs_if (xs_v fun hc => ⟨0, congrArg some hc⟩) (xs_v fun hc => ⟨0, congrArg some hc⟩)) (xs_v fun hc => hc)))) 100000 (y1, y2, z)
def sX4_isUnder_0 (x1 : Int32) (x2 : Int32) (z : mm_S) : Option (Int32 × mm_S) := (sX4_isUnder_2 x2 x1 z)
theorem kX4_isUnder_0 (x1 : Int32) (x2 : Int32) (z : mm_S) (oo : mm_R) : mm_Xs (sX4_isUnder_0 x1 x2 z) (fun v => (fun v : Int32 × mm_S => ((some (mm_I v.1), v.2) : mm_R)) v = oo) (fun n => eX4_isUnder_0 n x1 x2 z) oo :=
  xs_row (fun n => qX4_isUnder_0 n x1 x2 z) (kX4_isUnder_2 x2 x1 z oo)
def sX4_isUnder (x1 : Int32) (x2 : Int32) (z : mm_S) : Option (Int32 × mm_S) := sX4_isUnder_0 x1 x2 z
theorem sp_X4_isUnder (x1 : Int32) (x2 : Int32) (z : mm_S) (hk : ∀ v ∈ [mm_I x1, mm_I x2], mm_ok 22 lyTM 22 17 v) (q : Int32 × mm_S) (hq : sX4_isUnder x1 x2 z = some q) : f_X4_isUnder [mm_I x1, mm_I x2] z (some (mm_I q.1), q.2) := ⟨Nat.le_of_ble_eq_true rfl, kX4_isUnder_0 x1 x2 z _ q hq rfl⟩
def clo_X4_isUnder (as : List mm_V) (z : mm_S) (kk : Option mm_V → mm_S → Option mm_R) : Option mm_R := mm_pi as fun a0 as => mm_pi as fun a1 as => (match as with | [] => (sX4_isUnder a0 a1 z).bind fun q => kk (some (mm_I q.1)) q.2 | _ => none)
theorem cs_X4_isUnder : mm_cs lyTM 22 22 17 f_X4_isUnder clo_X4_isUnder := by
  intro as z K o hk h
  obtain ⟨a0, r0, rfl, g0⟩ := mm_pi_e h
  obtain ⟨a1, r1, rfl, g1⟩ := mm_pi_e g0
  rcases r1 with _ | ⟨u, w⟩
  rotate_left
  · cases g1
  obtain ⟨q, hq, hq2⟩ := Option.bind_eq_some_iff.mp g1
  exact ⟨_, _, sp_X4_isUnder a0 a1 z hk q hq, fun v hv => by cases hv; exact Or.inl ⟨_, rfl⟩, hq2⟩
theorem sS_X4_isUnder {own : String} {R : Room} {ar : Nat → Nat} {k : Nat} (hlink : Cond.methodLink own k yX4_isUnder ∈ lw_gd ∨ ∃ host, (own, k, yX4_isUnder, host) ∈ nmA) (har : ar k = 2) (hr : 2 ≤ R.frames ∧ 42 ≤ R.locals) : mm_okS lyTM lyFA lenM snM 22 22 17 roM rsA nfA nmA [] own R ar k clo_X4_isUnder :=
  Or.inl ⟨yX4_isUnder, cX4_isUnder, 3, some .boolean, rm_X4_isUnder, f_X4_isUnder, M_X4_isUnder, cs_X4_isUnder, hlink, ⟨ws_X4_isUnder, wi_X4_isUnder, wc_X4_isUnder⟩, ⟨by decide +kernel, by decide +kernel, by rw [har]; decide +kernel⟩, ⟨rfl, rfl, hr.1, hr.2⟩⟩
-- X4_isUnsure
def lV_X4_isUnsure : List (Nat × (List mm_V → mm_S → (Option mm_V → mm_S → Option mm_R) → Option mm_R)) := []
def mV_X4_isUnsure (k : Nat) (as : List mm_V) (z : mm_S) (kk : Option mm_V → mm_S → Option mm_R) : Option mm_R := match mm_at lV_X4_isUnsure k with
  | some f => f as z kk
  | none => none
def arV_X4_isUnsure (k : Nat) : Nat := (mm_at [] k).getD 0
def lS_X4_isUnsure : List (Nat × (List mm_V → mm_S → (Option mm_V → mm_S → Option mm_R) → Option mm_R)) := []
def mS_X4_isUnsure (k : Nat) (as : List mm_V) (z : mm_S) (kk : Option mm_V → mm_S → Option mm_R) : Option mm_R := match mm_at lS_X4_isUnsure k with
  | some f => f as z kk
  | none => none
def arS_X4_isUnsure (k : Nat) : Nat := (mm_at [] k).getD 0
def ct_X4_isUnsure : List (Nat × List Nat) := [(4, [0, 1, 2, 3])]
def go_X4_isUnsure : Nat → mm_K := mm_go (fun k => mm_at flX4 k) (fun k => mm_at clX4 k) (fun k => mm_at glX4 k) arV_X4_isUnsure arS_X4_isUnsure mV_X4_isUnsure mS_X4_isUnsure lenM roM snM 4 1 tbX4_isUnsure ct_X4_isUnsure
def eX4_isUnsure_0 (n : Nat)  (x1 : Int32) (z : mm_S) : Option mm_R := go_X4_isUnsure n 0 [(0, mm_P 4 0), (1, mm_I x1)] [] z
def eX4_isUnsure_4 (n : Nat)  (y1 : Int32) (y2 : Int32) (y3 : Int32) (z : mm_S) : Option mm_R := go_X4_isUnsure n 4 [(0, mm_P 4 0), (1, mm_I y1), (2, mm_I y2), (3, mm_I y3)] [] z
set_option maxRecDepth 100000 in
theorem qX4_isUnsure_0 (n : Nat)  (x1 : Int32) (z : mm_S) : eX4_isUnsure_0 (n + 1) x1 z = (eX4_isUnsure_4 n x1 0 0 z) := rfl
set_option maxRecDepth 100000 in
theorem qX4_isUnsure_4 (n : Nat)  (y1 : Int32) (y2 : Int32) (y3 : Int32) (z : mm_S) : eX4_isUnsure_4 (n + 1) y1 y2 y3 z = (if (z.1 1 3) ≤ y3 then mm_rt 1 y2 z else if y2 = 0 then if (69 + y3) < 0 ∨ 97 ≤ Int32.toNatClampNeg (69 + y3) then none else if (z.1 1 (Int32.toNatClampNeg (69 + y3))) = y1 then eX4_isUnsure_4 n y1 1 (y3 + 1) z else eX4_isUnsure_4 n y1 0 (y3 + 1) z else eX4_isUnsure_4 n y1 1 (y3 + 1) z) := rfl
def rm_X4_isUnsure : Room := { frames := 0, cells := 0, slots := 0, locals := 0 }
def f_X4_isUnsure (as : List mm_V) (z : mm_S) (o : mm_R) : Prop := (as.map mm_cat).sum ≤ 4 ∧ ∃ n, go_X4_isUnsure n 0 (mm_ar 0 as) [] z = some o
theorem M_X4_isUnsure : mm_M lyTM lyFA lenM snM 22 22 17 roM rsA nfA nmA [] yX4_isUnsure cX4_isUnsure 4 (some .boolean) rm_X4_isUnsure f_X4_isUnsure :=
  mm_met (rt := 1) (by decide +kernel) ⟨fun h => absurd h (by decide), fun h => rfl, fun h => absurd h (by decide), fun h => absurd h (by decide)⟩ tbX4_isUnsure_ok hsnM okFX4 okLX4 (fun _ h => absurd h List.not_mem_nil) (fun _ _ _ _ => rfl) (fun _ _ _ _ => rfl) (fun _ h => absurd h List.not_mem_nil) (fun _ h => absurd h List.not_mem_nil)
def lX4_isUnsure_4 (s : Int32 × Int32 × Int32 × mm_S) : Option ((Int32 × Int32 × Int32 × mm_S) ⊕ (Int32 × mm_S)) := if (s.2.2.2.1 1 3) ≤ s.2.2.1 then if s.2.1 = 0 then some (.inr (0, s.2.2.2)) else if s.2.1 = 1 then some (.inr (1, s.2.2.2)) else none else if s.2.1 = 0 then if (69 + s.2.2.1) < 0 ∨ 97 ≤ Int32.toNatClampNeg (69 + s.2.2.1) then none else if (s.2.2.2.1 1 (Int32.toNatClampNeg (69 + s.2.2.1))) = s.1 then some (.inl (s.1, 1, (s.2.2.1 + 1), s.2.2.2)) else some (.inl (s.1, 0, (s.2.2.1 + 1), s.2.2.2)) else some (.inl (s.1, 1, (s.2.2.1 + 1), s.2.2.2))
def sX4_isUnsure_4 (y1 : Int32) (y2 : Int32) (y3 : Int32) (z : mm_S) : Option (Int32 × mm_S) := mm_wh (lX4_isUnsure_4 ) 100000 (y1, y2, y3, z)
theorem kX4_isUnsure_4 (y1 : Int32) (y2 : Int32) (y3 : Int32) (z : mm_S) (oo : mm_R) : mm_Xs (sX4_isUnsure_4 y1 y2 y3 z) (fun v => (fun v : Int32 × mm_S => ((some (mm_I v.1), v.2) : mm_R)) v = oo) (fun n => eX4_isUnsure_4 n y1 y2 y3 z) oo :=
  xs_wh (E := (fun (s : Int32 × Int32 × Int32 × mm_S) n => eX4_isUnsure_4 n s.1 s.2.1 s.2.2.1 s.2.2.2)) (C := (fun v => (fun v : Int32 × mm_S => ((some (mm_I v.1), v.2) : mm_R)) v = oo)) (fun s => xs_row (fun n => qX4_isUnsure_4 n s.1 s.2.1 s.2.2.1 s.2.2.2) (xs_if (xs_if (X := fun _ => some (some (mm_I 0), s.2.2.2)) (Y := fun _ => if s.2.1 = 1 then some (some (mm_I 1), s.2.2.2) else none) (xs_v fun hc => ⟨0, congrArg some hc⟩) (xs_if (X := fun _ => some (some (mm_I 1), s.2.2.2)) (Y := fun _ => none) (xs_v fun hc => ⟨0, congrArg some hc⟩) xs_n)) (xs_if (xs_if xs_n (xs_if (xs_v fun hc => hc) (xs_v fun hc => hc))) (xs_v fun hc => hc)))) 100000 (y1, y2, y3, z)
def sX4_isUnsure_0 (x1 : Int32) (z : mm_S) : Option (Int32 × mm_S) := (sX4_isUnsure_4 x1 0 0 z)
theorem kX4_isUnsure_0 (x1 : Int32) (z : mm_S) (oo : mm_R) : mm_Xs (sX4_isUnsure_0 x1 z) (fun v => (fun v : Int32 × mm_S => ((some (mm_I v.1), v.2) : mm_R)) v = oo) (fun n => eX4_isUnsure_0 n x1 z) oo :=
  xs_row (fun n => qX4_isUnsure_0 n x1 z) (kX4_isUnsure_4 x1 0 0 z oo)
def sX4_isUnsure (x1 : Int32) (z : mm_S) : Option (Int32 × mm_S) := sX4_isUnsure_0 x1 z
theorem sp_X4_isUnsure (x1 : Int32) (z : mm_S) (hk : ∀ v ∈ [mm_P 4 0, mm_I x1], mm_ok 22 lyTM 22 17 v) (q : Int32 × mm_S) (hq : sX4_isUnsure x1 z = some q) : f_X4_isUnsure [mm_P 4 0, mm_I x1] z (some (mm_I q.1), q.2) := ⟨Nat.le_of_ble_eq_true rfl, kX4_isUnsure_0 x1 z _ q hq rfl⟩
def clo_X4_isUnsure (as : List mm_V) (z : mm_S) (kk : Option mm_V → mm_S → Option mm_R) : Option mm_R := mm_pr as fun t o0 as => bif Nat.beq t 4 then mm_pi as fun a1 as => (match as with | [] => (sX4_isUnsure a1 z).bind fun q => kk (some (mm_I q.1)) q.2 | _ => none) else none
theorem cs_X4_isUnsure : mm_cs lyTM 22 22 17 f_X4_isUnsure clo_X4_isUnsure := by
  intro as z K o hk h
  obtain ⟨t0, o0, r0, rfl, g0⟩ := mm_pr_e h
  obtain ⟨b0, k0⟩ := mm_bif_e g0
  obtain rfl := Nat.eq_of_beq_eq_true b0
  obtain ⟨a1, r1, rfl, g1⟩ := mm_pi_e k0
  rcases r1 with _ | ⟨u, w⟩
  rotate_left
  · cases g1
  obtain rfl : o0 = 0 := ok4 (hk (mm_P 4 o0) (by simp))
  obtain ⟨q, hq, hq2⟩ := Option.bind_eq_some_iff.mp g1
  exact ⟨_, _, sp_X4_isUnsure a1 z hk q hq, fun v hv => by cases hv; exact Or.inl ⟨_, rfl⟩, hq2⟩
theorem sV_X4_isUnsure {own : String} {R : Room} {ar : Nat → Nat} {k : Nat} (hlink : Cond.methodLink own k yX4_isUnsure ∈ lw_gd ∨ ∃ host, (own, k, yX4_isUnsure, host) ∈ nmA) (har : ar k = 2) (hr : 1 ≤ R.frames ∧ 23 ≤ R.locals) : mm_okV lyTM lyFA lenM snM 22 22 17 roM rsA nfA nmA [] own R ar k clo_X4_isUnsure := by
  refine ⟨yX4_isUnsure, cX4_isUnsure, 4, some .boolean, rm_X4_isUnsure, f_X4_isUnsure, 4, 1, (RX4, TX4, 36), M_X4_isUnsure, cs_X4_isUnsure, hlink, ⟨wv_X4_isUnsure, wz_X4_isUnsure, wi_X4_isUnsure, wc_X4_isUnsure⟩, ⟨by decide +kernel, by decide +kernel, by decide +kernel⟩, har, ⟨rfl, rfl, by decide⟩, ?_, ⟨rfl, rfl, hr.1, hr.2⟩⟩
  intro as z K o h
  obtain ⟨t0, o0, r0, rfl, g0⟩ := mm_pr_e h
  obtain ⟨b0, k0⟩ := mm_bif_e g0
  obtain rfl := Nat.eq_of_beq_eq_true b0
  exact ⟨_, _, rfl⟩
-- X4_cellsOf
def lV_X4_cellsOf : List (Nat × (List mm_V → mm_S → (Option mm_V → mm_S → Option mm_R) → Option mm_R)) := [(158, clo_X4_stuffIs)]
def mV_X4_cellsOf (k : Nat) (as : List mm_V) (z : mm_S) (kk : Option mm_V → mm_S → Option mm_R) : Option mm_R := match mm_at lV_X4_cellsOf k with
  | some f => f as z kk
  | none => none
def arV_X4_cellsOf (k : Nat) : Nat := (mm_at [(158, 2)] k).getD 0
def lS_X4_cellsOf : List (Nat × (List mm_V → mm_S → (Option mm_V → mm_S → Option mm_R) → Option mm_R)) := []
def mS_X4_cellsOf (k : Nat) (as : List mm_V) (z : mm_S) (kk : Option mm_V → mm_S → Option mm_R) : Option mm_R := match mm_at lS_X4_cellsOf k with
  | some f => f as z kk
  | none => none
def arS_X4_cellsOf (k : Nat) : Nat := (mm_at [] k).getD 0
def ct_X4_cellsOf : List (Nat × List Nat) := [(5, [0, 1, 2, 4]), (33, [0, 1, 2, 4])]
def go_X4_cellsOf : Nat → mm_K := mm_go (fun k => mm_at flX4 k) (fun k => mm_at clX4 k) (fun k => mm_at glX4 k) arV_X4_cellsOf arS_X4_cellsOf mV_X4_cellsOf mS_X4_cellsOf lenM roM snM 5 2 tbX4_cellsOf ct_X4_cellsOf
def eX4_cellsOf_0 (n : Nat)  (x1 : Int32) (z : mm_S) : Option mm_R := go_X4_cellsOf n 0 [(0, mm_P 4 0), (1, mm_I x1)] [] z
def eX4_cellsOf_5 (n : Nat)  (y1 : Int32) (y2 : Int64) (y4 : Int32) (z : mm_S) : Option mm_R := go_X4_cellsOf n 5 [(0, mm_P 4 0), (1, mm_I y1), (2, mm_J y2), (4, mm_I y4)] [] z
def eX4_cellsOf_33 (n : Nat)  (y1 : Int32) (y2 : Int64) (y4 : Int32) (z : mm_S) : Option mm_R := go_X4_cellsOf n 33 [(0, mm_P 4 0), (1, mm_I y1), (2, mm_J y2), (4, mm_I y4)] [] z
set_option maxRecDepth 100000 in
theorem qX4_cellsOf_0 (n : Nat)  (x1 : Int32) (z : mm_S) : eX4_cellsOf_0 (n + 1) x1 z = (eX4_cellsOf_5 n x1 0 0 z) := rfl
set_option maxRecDepth 100000 in
theorem qX4_cellsOf_5 (n : Nat)  (y1 : Int32) (y2 : Int64) (y4 : Int32) (z : mm_S) : eX4_cellsOf_5 (n + 1) y1 y2 y4 z = (if 36 ≤ y4 then some (some (mm_J y2), z) else (sX4_stuffIs y4 z).bind fun q1 => if q1.1 = y1 then let v2 : Int64 := (y2 ||| (1 <<< (Int32.toInt64 y4 &&& 63))); eX4_cellsOf_33 n y1 v2 y4 q1.2 else eX4_cellsOf_33 n y1 (y2 ||| 0) y4 q1.2) := rfl
set_option maxRecDepth 100000 in
theorem qX4_cellsOf_33 (n : Nat)  (y1 : Int32) (y2 : Int64) (y4 : Int32) (z : mm_S) : eX4_cellsOf_33 (n + 1) y1 y2 y4 z = (eX4_cellsOf_5 n y1 y2 (y4 + 1) z) := rfl
def rm_X4_cellsOf : Room := { frames := 1, cells := 0, slots := 0, locals := 21 }
def f_X4_cellsOf (as : List mm_V) (z : mm_S) (o : mm_R) : Prop := (as.map mm_cat).sum ≤ 5 ∧ ∃ n, go_X4_cellsOf n 0 (mm_ar 0 as) [] z = some o
theorem M_X4_cellsOf : mm_M lyTM lyFA lenM snM 22 22 17 roM rsA nfA nmA [] yX4_cellsOf cX4_cellsOf 5 (some .long) rm_X4_cellsOf f_X4_cellsOf :=
  mm_met (rt := 2) (by decide +kernel) ⟨fun h => absurd h (by decide), fun h => absurd h (by decide), fun h => rfl, fun h => absurd h (by decide)⟩ tbX4_cellsOf_ok hsnM okFX4 okLX4 (fun _ h => absurd h List.not_mem_nil) (fun _ _ _ _ => rfl) (fun _ _ _ _ => rfl) (List.forall_mem_cons.mpr ⟨sV_X4_stuffIs (Or.inl lk_X4_158) rfl ⟨by decide, by decide⟩, fun _ h => absurd h List.not_mem_nil⟩) (fun _ h => absurd h List.not_mem_nil)
def sX4_cellsOf_33 (y1 : Int32) (y2 : Int64) (y4 : Int32) (z : mm_S) : Option ((Int32 × Int64 × Int32 × mm_S) ⊕ (Int64 × mm_S)) := some (.inl (y1, y2, (y4 + 1), z))
theorem kX4_cellsOf_33 (y1 : Int32) (y2 : Int64) (y4 : Int32) (z : mm_S) (oo : mm_R) : mm_Xs (sX4_cellsOf_33 y1 y2 y4 z) (mm_mt (fun x : Int32 × Int64 × Int32 × mm_S => ∃ n, eX4_cellsOf_5 n x.1 x.2.1 x.2.2.1 x.2.2.2 = some oo) (fun v => (fun v : Int64 × mm_S => ((some (mm_J v.1), v.2) : mm_R)) v = oo)) (fun n => eX4_cellsOf_33 n y1 y2 y4 z) oo :=
  xs_row (fun n => qX4_cellsOf_33 n y1 y2 y4 z) (xs_v fun hc => hc)
def lX4_cellsOf_5 (s : Int32 × Int64 × Int32 × mm_S) : Option ((Int32 × Int64 × Int32 × mm_S) ⊕ (Int64 × mm_S)) := if 36 ≤ s.2.2.1 then some (.inr (s.2.1, s.2.2.2)) else (sX4_stuffIs s.2.2.1 s.2.2.2).bind fun q1 => if q1.1 = s.1 then let v2 : Int64 := (s.2.1 ||| (1 <<< (Int32.toInt64 s.2.2.1 &&& 63))); (sX4_cellsOf_33 s.1 v2 s.2.2.1 q1.2) else (sX4_cellsOf_33 s.1 (s.2.1 ||| 0) s.2.2.1 q1.2)
def sX4_cellsOf_5 (y1 : Int32) (y2 : Int64) (y4 : Int32) (z : mm_S) : Option (Int64 × mm_S) := mm_wh (lX4_cellsOf_5 ) 100000 (y1, y2, y4, z)
theorem kX4_cellsOf_5 (y1 : Int32) (y2 : Int64) (y4 : Int32) (z : mm_S) (oo : mm_R) : mm_Xs (sX4_cellsOf_5 y1 y2 y4 z) (fun v => (fun v : Int64 × mm_S => ((some (mm_J v.1), v.2) : mm_R)) v = oo) (fun n => eX4_cellsOf_5 n y1 y2 y4 z) oo :=
  xs_wh (E := (fun (s : Int32 × Int64 × Int32 × mm_S) n => eX4_cellsOf_5 n s.1 s.2.1 s.2.2.1 s.2.2.2)) (C := (fun v => (fun v : Int64 × mm_S => ((some (mm_J v.1), v.2) : mm_R)) v = oo)) (fun s => xs_row (fun n => qX4_cellsOf_5 n s.1 s.2.1 s.2.2.1 s.2.2.2) (xs_if (xs_v fun hc => ⟨0, congrArg some hc⟩) (xs_bd fun q1 => (xs_if (let v2 : Int64 := (s.2.1 ||| (1 <<< (Int32.toInt64 s.2.2.1 &&& 63))); (kX4_cellsOf_33 s.1 v2 s.2.2.1 q1.2 oo)) (kX4_cellsOf_33 s.1 (s.2.1 ||| 0) s.2.2.1 q1.2 oo))))) 100000 (y1, y2, y4, z)
def sX4_cellsOf_0 (x1 : Int32) (z : mm_S) : Option (Int64 × mm_S) := (sX4_cellsOf_5 x1 0 0 z)
theorem kX4_cellsOf_0 (x1 : Int32) (z : mm_S) (oo : mm_R) : mm_Xs (sX4_cellsOf_0 x1 z) (fun v => (fun v : Int64 × mm_S => ((some (mm_J v.1), v.2) : mm_R)) v = oo) (fun n => eX4_cellsOf_0 n x1 z) oo :=
  xs_row (fun n => qX4_cellsOf_0 n x1 z) (kX4_cellsOf_5 x1 0 0 z oo)
def sX4_cellsOf (x1 : Int32) (z : mm_S) : Option (Int64 × mm_S) := sX4_cellsOf_0 x1 z
theorem sp_X4_cellsOf (x1 : Int32) (z : mm_S) (hk : ∀ v ∈ [mm_P 4 0, mm_I x1], mm_ok 22 lyTM 22 17 v) (q : Int64 × mm_S) (hq : sX4_cellsOf x1 z = some q) : f_X4_cellsOf [mm_P 4 0, mm_I x1] z (some (mm_J q.1), q.2) := ⟨Nat.le_of_ble_eq_true rfl, kX4_cellsOf_0 x1 z _ q hq rfl⟩
def clo_X4_cellsOf (as : List mm_V) (z : mm_S) (kk : Option mm_V → mm_S → Option mm_R) : Option mm_R := mm_pr as fun t o0 as => bif Nat.beq t 4 then mm_pi as fun a1 as => (match as with | [] => (sX4_cellsOf a1 z).bind fun q => kk (some (mm_J q.1)) q.2 | _ => none) else none
theorem cs_X4_cellsOf : mm_cs lyTM 22 22 17 f_X4_cellsOf clo_X4_cellsOf := by
  intro as z K o hk h
  obtain ⟨t0, o0, r0, rfl, g0⟩ := mm_pr_e h
  obtain ⟨b0, k0⟩ := mm_bif_e g0
  obtain rfl := Nat.eq_of_beq_eq_true b0
  obtain ⟨a1, r1, rfl, g1⟩ := mm_pi_e k0
  rcases r1 with _ | ⟨u, w⟩
  rotate_left
  · cases g1
  obtain rfl : o0 = 0 := ok4 (hk (mm_P 4 o0) (by simp))
  obtain ⟨q, hq, hq2⟩ := Option.bind_eq_some_iff.mp g1
  exact ⟨_, _, sp_X4_cellsOf a1 z hk q hq, fun v hv => by cases hv; exact Or.inr ⟨_, rfl⟩, hq2⟩
theorem sV_X4_cellsOf {own : String} {R : Room} {ar : Nat → Nat} {k : Nat} (hlink : Cond.methodLink own k yX4_cellsOf ∈ lw_gd ∨ ∃ host, (own, k, yX4_cellsOf, host) ∈ nmA) (har : ar k = 2) (hr : 2 ≤ R.frames ∧ 45 ≤ R.locals) : mm_okV lyTM lyFA lenM snM 22 22 17 roM rsA nfA nmA [] own R ar k clo_X4_cellsOf := by
  refine ⟨yX4_cellsOf, cX4_cellsOf, 5, some .long, rm_X4_cellsOf, f_X4_cellsOf, 4, 1, (RX4, TX4, 36), M_X4_cellsOf, cs_X4_cellsOf, hlink, ⟨wv_X4_cellsOf, wz_X4_cellsOf, wi_X4_cellsOf, wc_X4_cellsOf⟩, ⟨by decide +kernel, by decide +kernel, by decide +kernel⟩, har, ⟨rfl, rfl, by decide⟩, ?_, ⟨rfl, rfl, hr.1, hr.2⟩⟩
  intro as z K o h
  obtain ⟨t0, o0, r0, rfl, g0⟩ := mm_pr_e h
  obtain ⟨b0, k0⟩ := mm_bif_e g0
  obtain rfl := Nat.eq_of_beq_eq_true b0
  exact ⟨_, _, rfl⟩
-- X4_bits
def lV_X4_bits : List (Nat × (List mm_V → mm_S → (Option mm_V → mm_S → Option mm_R) → Option mm_R)) := []
def mV_X4_bits (k : Nat) (as : List mm_V) (z : mm_S) (kk : Option mm_V → mm_S → Option mm_R) : Option mm_R := match mm_at lV_X4_bits k with
  | some f => f as z kk
  | none => none
def arV_X4_bits (k : Nat) : Nat := (mm_at [] k).getD 0
def lS_X4_bits : List (Nat × (List mm_V → mm_S → (Option mm_V → mm_S → Option mm_R) → Option mm_R)) := []
def mS_X4_bits (k : Nat) (as : List mm_V) (z : mm_S) (kk : Option mm_V → mm_S → Option mm_R) : Option mm_R := match mm_at lS_X4_bits k with
  | some f => f as z kk
  | none => none
def arS_X4_bits (k : Nat) : Nat := (mm_at [] k).getD 0
def ct_X4_bits : List (Nat × List Nat) := [(4, [2, 3])]
def go_X4_bits : Nat → mm_K := mm_go (fun k => mm_at flX4 k) (fun k => mm_at clX4 k) (fun k => mm_at glX4 k) arV_X4_bits arS_X4_bits mV_X4_bits mS_X4_bits lenM roM snM 5 0 tbX4_bits ct_X4_bits
def eX4_bits_0 (n : Nat) (x1 : Int64) (z : mm_S) : Option mm_R := go_X4_bits n 0 [(0, mm_J x1)] [] z
def eX4_bits_4 (n : Nat) (y2 : Int32) (y3 : Int64) (z : mm_S) : Option mm_R := go_X4_bits n 4 [(2, mm_I y2), (3, mm_J y3)] [] z
set_option maxRecDepth 100000 in
theorem qX4_bits_0 (n : Nat) (x1 : Int64) (z : mm_S) : eX4_bits_0 (n + 1) x1 z = (eX4_bits_4 n 0 x1 z) := rfl
set_option maxRecDepth 100000 in
theorem qX4_bits_4 (n : Nat) (y2 : Int32) (y3 : Int64) (z : mm_S) : eX4_bits_4 (n + 1) y2 y3 z = (if (lg_cmp y3 0) = 0 then some (some (mm_I y2), z) else eX4_bits_4 n (y2 + 1) (y3 &&& (y3 - 1)) z) := rfl
def rm_X4_bits : Room := { frames := 0, cells := 0, slots := 0, locals := 0 }
def f_X4_bits (as : List mm_V) (z : mm_S) (o : mm_R) : Prop := (as.map mm_cat).sum ≤ 5 ∧ ∃ n, go_X4_bits n 0 (mm_ar 0 as) [] z = some o
theorem M_X4_bits : mm_M lyTM lyFA lenM snM 22 22 17 roM rsA nfA nmA [] yX4_bits cX4_bits 5 (some .int) rm_X4_bits f_X4_bits :=
  mm_met (rt := 0) (by decide +kernel) ⟨fun h => rfl, fun h => absurd h (by decide), fun h => absurd h (by decide), fun h => absurd h (by decide)⟩ tbX4_bits_ok hsnM okFX4 okLX4 (fun _ h => absurd h List.not_mem_nil) (fun _ _ _ _ => rfl) (fun _ _ _ _ => rfl) (fun _ h => absurd h List.not_mem_nil) (fun _ h => absurd h List.not_mem_nil)
def lX4_bits_4 (s : Int32 × Int64 × mm_S) : Option ((Int32 × Int64 × mm_S) ⊕ (Int32 × mm_S)) := if (lg_cmp s.2.1 0) = 0 then some (.inr (s.1, s.2.2)) else some (.inl ((s.1 + 1), (s.2.1 &&& (s.2.1 - 1)), s.2.2))
def sX4_bits_4 (y2 : Int32) (y3 : Int64) (z : mm_S) : Option (Int32 × mm_S) := mm_wh (lX4_bits_4 ) 100000 (y2, y3, z)
theorem kX4_bits_4 (y2 : Int32) (y3 : Int64) (z : mm_S) (oo : mm_R) : mm_Xs (sX4_bits_4 y2 y3 z) (fun v => (fun v : Int32 × mm_S => ((some (mm_I v.1), v.2) : mm_R)) v = oo) (fun n => eX4_bits_4 n y2 y3 z) oo :=
  xs_wh (E := (fun (s : Int32 × Int64 × mm_S) n => eX4_bits_4 n s.1 s.2.1 s.2.2)) (C := (fun v => (fun v : Int32 × mm_S => ((some (mm_I v.1), v.2) : mm_R)) v = oo)) (fun s => xs_row (fun n => qX4_bits_4 n s.1 s.2.1 s.2.2) (xs_if (xs_v fun hc => ⟨0, congrArg some hc⟩) (xs_v fun hc => hc))) 100000 (y2, y3, z)
def sX4_bits_0 (x1 : Int64) (z : mm_S) : Option (Int32 × mm_S) := (sX4_bits_4 0 x1 z)
theorem kX4_bits_0 (x1 : Int64) (z : mm_S) (oo : mm_R) : mm_Xs (sX4_bits_0 x1 z) (fun v => (fun v : Int32 × mm_S => ((some (mm_I v.1), v.2) : mm_R)) v = oo) (fun n => eX4_bits_0 n x1 z) oo :=
  xs_row (fun n => qX4_bits_0 n x1 z) (kX4_bits_4 0 x1 z oo)
def sX4_bits (x1 : Int64) (z : mm_S) : Option (Int32 × mm_S) := sX4_bits_0 x1 z
theorem sp_X4_bits (x1 : Int64) (z : mm_S) (hk : ∀ v ∈ [mm_J x1], mm_ok 22 lyTM 22 17 v) (q : Int32 × mm_S) (hq : sX4_bits x1 z = some q) : f_X4_bits [mm_J x1] z (some (mm_I q.1), q.2) := ⟨Nat.le_of_ble_eq_true rfl, kX4_bits_0 x1 z _ q hq rfl⟩
def clo_X4_bits (as : List mm_V) (z : mm_S) (kk : Option mm_V → mm_S → Option mm_R) : Option mm_R := mm_pj as fun a0 as => (match as with | [] => (sX4_bits a0 z).bind fun q => kk (some (mm_I q.1)) q.2 | _ => none)
theorem cs_X4_bits : mm_cs lyTM 22 22 17 f_X4_bits clo_X4_bits := by
  intro as z K o hk h
  obtain ⟨a0, r0, rfl, g0⟩ := mm_pj_e h
  rcases r0 with _ | ⟨u, w⟩
  rotate_left
  · cases g0
  obtain ⟨q, hq, hq2⟩ := Option.bind_eq_some_iff.mp g0
  exact ⟨_, _, sp_X4_bits a0 z hk q hq, fun v hv => by cases hv; exact Or.inl ⟨_, rfl⟩, hq2⟩
theorem sS_X4_bits {own : String} {R : Room} {ar : Nat → Nat} {k : Nat} (hlink : Cond.methodLink own k yX4_bits ∈ lw_gd ∨ ∃ host, (own, k, yX4_bits, host) ∈ nmA) (har : ar k = 1) (hr : 1 ≤ R.frames ∧ 24 ≤ R.locals) : mm_okS lyTM lyFA lenM snM 22 22 17 roM rsA nfA nmA [] own R ar k clo_X4_bits :=
  Or.inl ⟨yX4_bits, cX4_bits, 5, some .int, rm_X4_bits, f_X4_bits, M_X4_bits, cs_X4_bits, hlink, ⟨ws_X4_bits, wi_X4_bits, wc_X4_bits⟩, ⟨by decide +kernel, by decide +kernel, by rw [har]; decide +kernel⟩, ⟨rfl, rfl, hr.1, hr.2⟩⟩
-- X4_findTimes
def lV_X4_findTimes : List (Nat × (List mm_V → mm_S → (Option mm_V → mm_S → Option mm_R) → Option mm_R)) := [(158, clo_X4_stuffIs), (172, clo_X4_isHole)]
def mV_X4_findTimes (k : Nat) (as : List mm_V) (z : mm_S) (kk : Option mm_V → mm_S → Option mm_R) : Option mm_R := match mm_at lV_X4_findTimes k with
  | some f => f as z kk
  | none => none
def arV_X4_findTimes (k : Nat) : Nat := (mm_at [(158, 2), (172, 2)] k).getD 0
def lS_X4_findTimes : List (Nat × (List mm_V → mm_S → (Option mm_V → mm_S → Option mm_R) → Option mm_R)) := [(175, clo_X4_beside), (178, clo_X4_pace)]
def mS_X4_findTimes (k : Nat) (as : List mm_V) (z : mm_S) (kk : Option mm_V → mm_S → Option mm_R) : Option mm_R := match mm_at lS_X4_findTimes k with
  | some f => f as z kk
  | none => none
def arS_X4_findTimes (k : Nat) : Nat := (mm_at [(175, 2), (178, 1)] k).getD 0
def ct_X4_findTimes : List (Nat × List Nat) := [(3, [0, 1, 2, 3, 4]), (17, [0, 1, 2, 3, 4]), (41, [0, 2, 3]), (44, [0, 2, 3, 4]), (55, [0, 2, 3, 4, 5]), (65, [0, 2, 3, 4, 5, 6]), (104, [0, 2, 3, 4, 5, 6, 7]), (135, [0, 2, 3, 4, 5, 6, 7, 8]), (158, [0, 2, 3, 5, 6])]
def go_X4_findTimes : Nat → mm_K := mm_go (fun k => mm_at flX4 k) (fun k => mm_at clX4 k) (fun k => mm_at glX4 k) arV_X4_findTimes arS_X4_findTimes mV_X4_findTimes mS_X4_findTimes lenM roM snM 9 3 tbX4_findTimes ct_X4_findTimes
def eX4_findTimes_0 (n : Nat)  (x1 : Int32) (x2 : Int32) (x3 : Nat) (z : mm_S) : Option mm_R := go_X4_findTimes n 0 [(0, mm_P 4 0), (1, mm_I x1), (2, mm_I x2), (3, mm_P 10 x3)] [] z
def eX4_findTimes_3 (n : Nat)  (y1 : Int32) (y2 : Int32) (y3 : Nat) (y4 : Int32) (z : mm_S) : Option mm_R := go_X4_findTimes n 3 [(0, mm_P 4 0), (1, mm_I y1), (2, mm_I y2), (3, mm_P 10 y3), (4, mm_I y4)] [] z
def eX4_findTimes_41 (n : Nat)  (y2 : Int32) (y3 : Nat) (z : mm_S) : Option mm_R := go_X4_findTimes n 41 [(0, mm_P 4 0), (2, mm_I y2), (3, mm_P 10 y3)] [] z
def eX4_findTimes_17 (n : Nat)  (y1 : Int32) (y2 : Int32) (y3 : Nat) (y4 : Int32) (z : mm_S) : Option mm_R := go_X4_findTimes n 17 [(0, mm_P 4 0), (1, mm_I y1), (2, mm_I y2), (3, mm_P 10 y3), (4, mm_I y4)] [] z
def eX4_findTimes_44 (n : Nat)  (y2 : Int32) (y3 : Nat) (y4 : Int32) (z : mm_S) : Option mm_R := go_X4_findTimes n 44 [(0, mm_P 4 0), (2, mm_I y2), (3, mm_P 10 y3), (4, mm_I y4)] [] z
def eX4_findTimes_55 (n : Nat)  (y2 : Int32) (y3 : Nat) (y4 : Int32) (y5 : Int32) (z : mm_S) : Option mm_R := go_X4_findTimes n 55 [(0, mm_P 4 0), (2, mm_I y2), (3, mm_P 10 y3), (4, mm_I y4), (5, mm_I y5)] [] z
def eX4_findTimes_65 (n : Nat)  (y2 : Int32) (y3 : Nat) (y4 : Int32) (y5 : Int32) (y6 : Int32) (z : mm_S) : Option mm_R := go_X4_findTimes n 65 [(0, mm_P 4 0), (2, mm_I y2), (3, mm_P 10 y3), (4, mm_I y4), (5, mm_I y5), (6, mm_I y6)] [] z
def eX4_findTimes_104 (n : Nat)  (y2 : Int32) (y3 : Nat) (y4 : Int32) (y5 : Int32) (y6 : Int32) (y7 : Int32) (z : mm_S) : Option mm_R := go_X4_findTimes n 104 [(0, mm_P 4 0), (2, mm_I y2), (3, mm_P 10 y3), (4, mm_I y4), (5, mm_I y5), (6, mm_I y6), (7, mm_I y7)] [] z
def eX4_findTimes_135 (n : Nat)  (y2 : Int32) (y3 : Nat) (y4 : Int32) (y5 : Int32) (y6 : Int32) (y7 : Int32) (y8 : Int32) (z : mm_S) : Option mm_R := go_X4_findTimes n 135 [(0, mm_P 4 0), (2, mm_I y2), (3, mm_P 10 y3), (4, mm_I y4), (5, mm_I y5), (6, mm_I y6), (7, mm_I y7), (8, mm_I y8)] [] z
def eX4_findTimes_158 (n : Nat)  (y2 : Int32) (y3 : Nat) (y5 : Int32) (y6 : Int32) (z : mm_S) : Option mm_R := go_X4_findTimes n 158 [(0, mm_P 4 0), (2, mm_I y2), (3, mm_P 10 y3), (5, mm_I y5), (6, mm_I y6)] [] z
set_option maxRecDepth 100000 in
theorem qX4_findTimes_0 (n : Nat)  (x1 : Int32) (x2 : Int32) (x3 : Nat) (z : mm_S) : eX4_findTimes_0 (n + 1) x1 x2 x3 z = (eX4_findTimes_3 n x1 x2 x3 0 z) := rfl
set_option maxRecDepth 100000 in
theorem qX4_findTimes_3 (n : Nat)  (y1 : Int32) (y2 : Int32) (y3 : Nat) (y4 : Int32) (z : mm_S) : eX4_findTimes_3 (n + 1) y1 y2 y3 y4 z = (if 36 ≤ y4 then (sX4_isHole y1 z).bind fun q1 => if q1.1 = 0 then if y1 < 0 ∨ lenM y3 ≤ Int32.toNatClampNeg y1 then none else eX4_findTimes_41 n y2 y3 ((mm_ui q1.2.1 y3 (Int32.toNatClampNeg y1) 0), q1.2.2) else if y1 < 0 ∨ lenM y3 ≤ Int32.toNatClampNeg y1 then none else eX4_findTimes_41 n y2 y3 ((mm_ui q1.2.1 y3 (Int32.toNatClampNeg y1) 10000), q1.2.2) else if y4 < 0 ∨ lenM y3 ≤ Int32.toNatClampNeg y4 then none else eX4_findTimes_17 n y1 y2 y3 y4 ((mm_ui z.1 y3 (Int32.toNatClampNeg y4) 10000), z.2)) := rfl
set_option maxRecDepth 100000 in
theorem qX4_findTimes_41 (n : Nat)  (y2 : Int32) (y3 : Nat) (z : mm_S) : eX4_findTimes_41 (n + 1) y2 y3 z = (eX4_findTimes_44 n y2 y3 1 z) := rfl
set_option maxRecDepth 100000 in
theorem qX4_findTimes_17 (n : Nat)  (y1 : Int32) (y2 : Int32) (y3 : Nat) (y4 : Int32) (z : mm_S) : eX4_findTimes_17 (n + 1) y1 y2 y3 y4 z = (eX4_findTimes_3 n y1 y2 y3 (y4 + 1) z) := rfl
set_option maxRecDepth 100000 in
theorem qX4_findTimes_44 (n : Nat)  (y2 : Int32) (y3 : Nat) (y4 : Int32) (z : mm_S) : eX4_findTimes_44 (n + 1) y2 y3 y4 z = (if y4 = 0 then some (none, z) else eX4_findTimes_55 n y2 y3 0 0 z) := rfl
set_option maxRecDepth 100000 in
theorem qX4_findTimes_55 (n : Nat)  (y2 : Int32) (y3 : Nat) (y4 : Int32) (y5 : Int32) (z : mm_S) : eX4_findTimes_55 (n + 1) y2 y3 y4 y5 z = (if 36 ≤ y5 then eX4_findTimes_44 n y2 y3 y4 z else eX4_findTimes_65 n y2 y3 y4 y5 0 z) := rfl
set_option maxRecDepth 100000 in
theorem qX4_findTimes_65 (n : Nat)  (y2 : Int32) (y3 : Nat) (y4 : Int32) (y5 : Int32) (y6 : Int32) (z : mm_S) : eX4_findTimes_65 (n + 1) y2 y3 y4 y5 y6 z = (if 4 ≤ y6 then eX4_findTimes_55 n y2 y3 y4 (y5 + 1) z else if y5 < 0 ∨ lenM y3 ≤ Int32.toNatClampNeg y5 then none else if 10000 ≤ (z.1 y3 (Int32.toNatClampNeg y5)) then eX4_findTimes_55 n y2 y3 y4 (y5 + 1) z else if (pX4_beside y5 y6) < 0 then eX4_findTimes_104 n y2 y3 y4 y5 y6 (pX4_beside y5 y6) z else (sX4_isHole (pX4_beside y5 y6) z).bind fun q2 => if q2.1 = 0 then if y5 < 0 ∨ lenM y3 ≤ Int32.toNatClampNeg y5 then none else if y2 = 0 then (sX4_stuffIs y5 q2.2).bind fun q3 => let v4 : Int32 := ((q2.2.1 y3 (Int32.toNatClampNeg y5)) + (pX4_pace q3.1)); eX4_findTimes_135 n y2 y3 y4 y5 y6 (pX4_beside y5 y6) v4 q3.2 else (sX4_stuffIs (pX4_beside y5 y6) q2.2).bind fun q5 => let v6 : Int32 := ((q2.2.1 y3 (Int32.toNatClampNeg y5)) + (pX4_pace q5.1)); eX4_findTimes_135 n y2 y3 y4 y5 y6 (pX4_beside y5 y6) v6 q5.2 else eX4_findTimes_104 n y2 y3 y4 y5 y6 (pX4_beside y5 y6) q2.2) := rfl
set_option maxRecDepth 100000 in
theorem qX4_findTimes_104 (n : Nat)  (y2 : Int32) (y3 : Nat) (y4 : Int32) (y5 : Int32) (y6 : Int32) (y7 : Int32) (z : mm_S) : eX4_findTimes_104 (n + 1) y2 y3 y4 y5 y6 y7 z = (eX4_findTimes_135 n y2 y3 y4 y5 y6 y7 10000 z) := rfl
set_option maxRecDepth 100000 in
theorem qX4_findTimes_135 (n : Nat)  (y2 : Int32) (y3 : Nat) (y4 : Int32) (y5 : Int32) (y6 : Int32) (y7 : Int32) (y8 : Int32) (z : mm_S) : eX4_findTimes_135 (n + 1) y2 y3 y4 y5 y6 y7 y8 z = (if 10000 ≤ y8 then eX4_findTimes_65 n y2 y3 y4 y5 (y6 + 1) z else if y7 < 0 ∨ lenM y3 ≤ Int32.toNatClampNeg y7 then none else if (z.1 y3 (Int32.toNatClampNeg y7)) ≤ y8 then eX4_findTimes_65 n y2 y3 y4 y5 (y6 + 1) z else if y7 < 0 ∨ lenM y3 ≤ Int32.toNatClampNeg y7 then none else eX4_findTimes_158 n y2 y3 y5 y6 ((mm_ui z.1 y3 (Int32.toNatClampNeg y7) y8), z.2)) := rfl
set_option maxRecDepth 100000 in
theorem qX4_findTimes_158 (n : Nat)  (y2 : Int32) (y3 : Nat) (y5 : Int32) (y6 : Int32) (z : mm_S) : eX4_findTimes_158 (n + 1) y2 y3 y5 y6 z = (eX4_findTimes_65 n y2 y3 1 y5 (y6 + 1) z) := rfl
def rm_X4_findTimes : Room := { frames := 2, cells := 0, slots := 0, locals := 45 }
def f_X4_findTimes (as : List mm_V) (z : mm_S) (o : mm_R) : Prop := (as.map mm_cat).sum ≤ 9 ∧ ∃ n, go_X4_findTimes n 0 (mm_ar 0 as) [] z = some o
theorem M_X4_findTimes : mm_M lyTM lyFA lenM snM 22 22 17 roM rsA nfA nmA [] yX4_findTimes cX4_findTimes 9 (none) rm_X4_findTimes f_X4_findTimes :=
  mm_met (rt := 3) (by decide +kernel) ⟨fun h => absurd h (by decide), fun h => absurd h (by decide), fun h => absurd h (by decide), fun h => rfl⟩ tbX4_findTimes_ok hsnM okFX4 okLX4 (fun _ h => absurd h List.not_mem_nil) (fun _ _ _ _ => rfl) (fun _ _ _ _ => rfl) (List.forall_mem_cons.mpr ⟨sV_X4_stuffIs (Or.inl lk_X4_158) rfl ⟨by decide, by decide⟩, List.forall_mem_cons.mpr ⟨sV_X4_isHole (Or.inl lk_X4_172) rfl ⟨by decide, by decide⟩, fun _ h => absurd h List.not_mem_nil⟩⟩) (List.forall_mem_cons.mpr ⟨sS_X4_beside (Or.inl lk_X4_175) rfl ⟨by decide, by decide⟩, List.forall_mem_cons.mpr ⟨sS_X4_pace (Or.inl lk_X4_178) rfl ⟨by decide, by decide⟩, fun _ h => absurd h List.not_mem_nil⟩⟩)
def sX4_findTimes_17 (y1 : Int32) (y2 : Int32) (y3 : Nat) (y4 : Int32) (z : mm_S) : Option ((Int32 × Int32 × Nat × Int32 × mm_S) ⊕ (mm_S)) := some (.inl (y1, y2, y3, (y4 + 1), z))
theorem kX4_findTimes_17 (y1 : Int32) (y2 : Int32) (y3 : Nat) (y4 : Int32) (z : mm_S) (oo : mm_R) : mm_Xs (sX4_findTimes_17 y1 y2 y3 y4 z) (mm_mt (fun x : Int32 × Int32 × Nat × Int32 × mm_S => ∃ n, eX4_findTimes_3 n x.1 x.2.1 x.2.2.1 x.2.2.2.1 x.2.2.2.2 = some oo) (fun v => (fun v : mm_S => ((none, v) : mm_R)) v = oo)) (fun n => eX4_findTimes_17 n y1 y2 y3 y4 z) oo :=
  xs_row (fun n => qX4_findTimes_17 n y1 y2 y3 y4 z) (xs_v fun hc => hc)
def sX4_findTimes_158 (y2 : Int32) (y3 : Nat) (y5 : Int32) (y6 : Int32) (z : mm_S) : Option ((Int32 × Nat × Int32 × Int32 × Int32 × mm_S) ⊕ ((Int32 × Nat × Int32 × Int32 × mm_S) ⊕ ((Int32 × Nat × Int32 × mm_S) ⊕ (mm_S)))) := some (.inl (y2, y3, 1, y5, (y6 + 1), z))
theorem kX4_findTimes_158 (y2 : Int32) (y3 : Nat) (y5 : Int32) (y6 : Int32) (z : mm_S) (oo : mm_R) : mm_Xs (sX4_findTimes_158 y2 y3 y5 y6 z) (mm_mt (fun x : Int32 × Nat × Int32 × Int32 × Int32 × mm_S => ∃ n, eX4_findTimes_65 n x.1 x.2.1 x.2.2.1 x.2.2.2.1 x.2.2.2.2.1 x.2.2.2.2.2 = some oo) (mm_mt (fun x : Int32 × Nat × Int32 × Int32 × mm_S => ∃ n, eX4_findTimes_55 n x.1 x.2.1 x.2.2.1 x.2.2.2.1 x.2.2.2.2 = some oo) (mm_mt (fun x : Int32 × Nat × Int32 × mm_S => ∃ n, eX4_findTimes_44 n x.1 x.2.1 x.2.2.1 x.2.2.2 = some oo) (fun v => (fun v : mm_S => ((none, v) : mm_R)) v = oo)))) (fun n => eX4_findTimes_158 n y2 y3 y5 y6 z) oo :=
  xs_row (fun n => qX4_findTimes_158 n y2 y3 y5 y6 z) (xs_v fun hc => hc)
def sX4_findTimes_135 (y2 : Int32) (y3 : Nat) (y4 : Int32) (y5 : Int32) (y6 : Int32) (y7 : Int32) (y8 : Int32) (z : mm_S) : Option ((Int32 × Nat × Int32 × Int32 × Int32 × mm_S) ⊕ ((Int32 × Nat × Int32 × Int32 × mm_S) ⊕ ((Int32 × Nat × Int32 × mm_S) ⊕ (mm_S)))) := if 10000 ≤ y8 then some (.inl (y2, y3, y4, y5, (y6 + 1), z)) else if y7 < 0 ∨ lenM y3 ≤ Int32.toNatClampNeg y7 then none else if (z.1 y3 (Int32.toNatClampNeg y7)) ≤ y8 then some (.inl (y2, y3, y4, y5, (y6 + 1), z)) else if y7 < 0 ∨ lenM y3 ≤ Int32.toNatClampNeg y7 then none else (sX4_findTimes_158 y2 y3 y5 y6 ((mm_ui z.1 y3 (Int32.toNatClampNeg y7) y8), z.2))
theorem kX4_findTimes_135 (y2 : Int32) (y3 : Nat) (y4 : Int32) (y5 : Int32) (y6 : Int32) (y7 : Int32) (y8 : Int32) (z : mm_S) (oo : mm_R) : mm_Xs (sX4_findTimes_135 y2 y3 y4 y5 y6 y7 y8 z) (mm_mt (fun x : Int32 × Nat × Int32 × Int32 × Int32 × mm_S => ∃ n, eX4_findTimes_65 n x.1 x.2.1 x.2.2.1 x.2.2.2.1 x.2.2.2.2.1 x.2.2.2.2.2 = some oo) (mm_mt (fun x : Int32 × Nat × Int32 × Int32 × mm_S => ∃ n, eX4_findTimes_55 n x.1 x.2.1 x.2.2.1 x.2.2.2.1 x.2.2.2.2 = some oo) (mm_mt (fun x : Int32 × Nat × Int32 × mm_S => ∃ n, eX4_findTimes_44 n x.1 x.2.1 x.2.2.1 x.2.2.2 = some oo) (fun v => (fun v : mm_S => ((none, v) : mm_R)) v = oo)))) (fun n => eX4_findTimes_135 n y2 y3 y4 y5 y6 y7 y8 z) oo :=
  xs_row (fun n => qX4_findTimes_135 n y2 y3 y4 y5 y6 y7 y8 z) (xs_if (xs_v fun hc => hc) (xs_if xs_n (xs_if (xs_v fun hc => hc) (xs_if xs_n (kX4_findTimes_158 y2 y3 y5 y6 ((mm_ui z.1 y3 (Int32.toNatClampNeg y7) y8), z.2) oo)))))
def sX4_findTimes_104 (y2 : Int32) (y3 : Nat) (y4 : Int32) (y5 : Int32) (y6 : Int32) (y7 : Int32) (z : mm_S) : Option ((Int32 × Nat × Int32 × Int32 × Int32 × mm_S) ⊕ ((Int32 × Nat × Int32 × Int32 × mm_S) ⊕ ((Int32 × Nat × Int32 × mm_S) ⊕ (mm_S)))) := (sX4_findTimes_135 y2 y3 y4 y5 y6 y7 10000 z)
theorem kX4_findTimes_104 (y2 : Int32) (y3 : Nat) (y4 : Int32) (y5 : Int32) (y6 : Int32) (y7 : Int32) (z : mm_S) (oo : mm_R) : mm_Xs (sX4_findTimes_104 y2 y3 y4 y5 y6 y7 z) (mm_mt (fun x : Int32 × Nat × Int32 × Int32 × Int32 × mm_S => ∃ n, eX4_findTimes_65 n x.1 x.2.1 x.2.2.1 x.2.2.2.1 x.2.2.2.2.1 x.2.2.2.2.2 = some oo) (mm_mt (fun x : Int32 × Nat × Int32 × Int32 × mm_S => ∃ n, eX4_findTimes_55 n x.1 x.2.1 x.2.2.1 x.2.2.2.1 x.2.2.2.2 = some oo) (mm_mt (fun x : Int32 × Nat × Int32 × mm_S => ∃ n, eX4_findTimes_44 n x.1 x.2.1 x.2.2.1 x.2.2.2 = some oo) (fun v => (fun v : mm_S => ((none, v) : mm_R)) v = oo)))) (fun n => eX4_findTimes_104 n y2 y3 y4 y5 y6 y7 z) oo :=
  xs_row (fun n => qX4_findTimes_104 n y2 y3 y4 y5 y6 y7 z) (kX4_findTimes_135 y2 y3 y4 y5 y6 y7 10000 z oo)
def lX4_findTimes_65 (s : Int32 × Nat × Int32 × Int32 × Int32 × mm_S) : Option ((Int32 × Nat × Int32 × Int32 × Int32 × mm_S) ⊕ ((Int32 × Nat × Int32 × Int32 × mm_S) ⊕ ((Int32 × Nat × Int32 × mm_S) ⊕ (mm_S)))) := if 4 ≤ s.2.2.2.2.1 then some (.inr (.inl (s.1, s.2.1, s.2.2.1, (s.2.2.2.1 + 1), s.2.2.2.2.2))) else if s.2.2.2.1 < 0 ∨ lenM s.2.1 ≤ Int32.toNatClampNeg s.2.2.2.1 then none else if 10000 ≤ (s.2.2.2.2.2.1 s.2.1 (Int32.toNatClampNeg s.2.2.2.1)) then some (.inr (.inl (s.1, s.2.1, s.2.2.1, (s.2.2.2.1 + 1), s.2.2.2.2.2))) else if (pX4_beside s.2.2.2.1 s.2.2.2.2.1) < 0 then (sX4_findTimes_104 s.1 s.2.1 s.2.2.1 s.2.2.2.1 s.2.2.2.2.1 (pX4_beside s.2.2.2.1 s.2.2.2.2.1) s.2.2.2.2.2) else (sX4_isHole (pX4_beside s.2.2.2.1 s.2.2.2.2.1) s.2.2.2.2.2).bind fun q2 => if q2.1 = 0 then if s.2.2.2.1 < 0 ∨ lenM s.2.1 ≤ Int32.toNatClampNeg s.2.2.2.1 then none else if s.1 = 0 then (sX4_stuffIs s.2.2.2.1 q2.2).bind fun q3 => let v4 : Int32 := ((q2.2.1 s.2.1 (Int32.toNatClampNeg s.2.2.2.1)) + (pX4_pace q3.1)); (sX4_findTimes_135 s.1 s.2.1 s.2.2.1 s.2.2.2.1 s.2.2.2.2.1 (pX4_beside s.2.2.2.1 s.2.2.2.2.1) v4 q3.2) else (sX4_stuffIs (pX4_beside s.2.2.2.1 s.2.2.2.2.1) q2.2).bind fun q5 => let v6 : Int32 := ((q2.2.1 s.2.1 (Int32.toNatClampNeg s.2.2.2.1)) + (pX4_pace q5.1)); (sX4_findTimes_135 s.1 s.2.1 s.2.2.1 s.2.2.2.1 s.2.2.2.2.1 (pX4_beside s.2.2.2.1 s.2.2.2.2.1) v6 q5.2) else (sX4_findTimes_104 s.1 s.2.1 s.2.2.1 s.2.2.2.1 s.2.2.2.2.1 (pX4_beside s.2.2.2.1 s.2.2.2.2.1) q2.2)
def sX4_findTimes_65 (y2 : Int32) (y3 : Nat) (y4 : Int32) (y5 : Int32) (y6 : Int32) (z : mm_S) : Option ((Int32 × Nat × Int32 × Int32 × mm_S) ⊕ ((Int32 × Nat × Int32 × mm_S) ⊕ (mm_S))) := mm_wh (lX4_findTimes_65 ) 100000 (y2, y3, y4, y5, y6, z)
theorem kX4_findTimes_65 (y2 : Int32) (y3 : Nat) (y4 : Int32) (y5 : Int32) (y6 : Int32) (z : mm_S) (oo : mm_R) : mm_Xs (sX4_findTimes_65 y2 y3 y4 y5 y6 z) (mm_mt (fun x : Int32 × Nat × Int32 × Int32 × mm_S => ∃ n, eX4_findTimes_55 n x.1 x.2.1 x.2.2.1 x.2.2.2.1 x.2.2.2.2 = some oo) (mm_mt (fun x : Int32 × Nat × Int32 × mm_S => ∃ n, eX4_findTimes_44 n x.1 x.2.1 x.2.2.1 x.2.2.2 = some oo) (fun v => (fun v : mm_S => ((none, v) : mm_R)) v = oo))) (fun n => eX4_findTimes_65 n y2 y3 y4 y5 y6 z) oo :=
  xs_wh (E := (fun (s : Int32 × Nat × Int32 × Int32 × Int32 × mm_S) n => eX4_findTimes_65 n s.1 s.2.1 s.2.2.1 s.2.2.2.1 s.2.2.2.2.1 s.2.2.2.2.2)) (C := (mm_mt (fun x : Int32 × Nat × Int32 × Int32 × mm_S => ∃ n, eX4_findTimes_55 n x.1 x.2.1 x.2.2.1 x.2.2.2.1 x.2.2.2.2 = some oo) (mm_mt (fun x : Int32 × Nat × Int32 × mm_S => ∃ n, eX4_findTimes_44 n x.1 x.2.1 x.2.2.1 x.2.2.2 = some oo) (fun v => (fun v : mm_S => ((none, v) : mm_R)) v = oo)))) (fun s => xs_row (fun n => qX4_findTimes_65 n s.1 s.2.1 s.2.2.1 s.2.2.2.1 s.2.2.2.2.1 s.2.2.2.2.2) (xs_if (xs_v fun hc => hc) (xs_if xs_n (xs_if (xs_v fun hc => hc) (xs_if (kX4_findTimes_104 s.1 s.2.1 s.2.2.1 s.2.2.2.1 s.2.2.2.2.1 (pX4_beside s.2.2.2.1 s.2.2.2.2.1) s.2.2.2.2.2 oo) (xs_bd fun q2 => (xs_if (xs_if xs_n (xs_if (xs_bd fun q3 => (let v4 : Int32 := ((q2.2.1 s.2.1 (Int32.toNatClampNeg s.2.2.2.1)) + (pX4_pace q3.1)); (kX4_findTimes_135 s.1 s.2.1 s.2.2.1 s.2.2.2.1 s.2.2.2.2.1 (pX4_beside s.2.2.2.1 s.2.2.2.2.1) v4 q3.2 oo))) (xs_bd fun q5 => (let v6 : Int32 := ((q2.2.1 s.2.1 (Int32.toNatClampNeg s.2.2.2.1)) + (pX4_pace q5.1)); (kX4_findTimes_135 s.1 s.2.1 s.2.2.1 s.2.2.2.1 s.2.2.2.2.1 (pX4_beside s.2.2.2.1 s.2.2.2.2.1) v6 q5.2 oo))))) (kX4_findTimes_104 s.1 s.2.1 s.2.2.1 s.2.2.2.1 s.2.2.2.2.1 (pX4_beside s.2.2.2.1 s.2.2.2.2.1) q2.2 oo)))))))) 100000 (y2, y3, y4, y5, y6, z)
def lX4_findTimes_55 (s : Int32 × Nat × Int32 × Int32 × mm_S) : Option ((Int32 × Nat × Int32 × Int32 × mm_S) ⊕ ((Int32 × Nat × Int32 × mm_S) ⊕ (mm_S))) := if 36 ≤ s.2.2.2.1 then some (.inr (.inl (s.1, s.2.1, s.2.2.1, s.2.2.2.2))) else (sX4_findTimes_65 s.1 s.2.1 s.2.2.1 s.2.2.2.1 0 s.2.2.2.2)
def sX4_findTimes_55 (y2 : Int32) (y3 : Nat) (y4 : Int32) (y5 : Int32) (z : mm_S) : Option ((Int32 × Nat × Int32 × mm_S) ⊕ (mm_S)) := mm_wh (lX4_findTimes_55 ) 100000 (y2, y3, y4, y5, z)
theorem kX4_findTimes_55 (y2 : Int32) (y3 : Nat) (y4 : Int32) (y5 : Int32) (z : mm_S) (oo : mm_R) : mm_Xs (sX4_findTimes_55 y2 y3 y4 y5 z) (mm_mt (fun x : Int32 × Nat × Int32 × mm_S => ∃ n, eX4_findTimes_44 n x.1 x.2.1 x.2.2.1 x.2.2.2 = some oo) (fun v => (fun v : mm_S => ((none, v) : mm_R)) v = oo)) (fun n => eX4_findTimes_55 n y2 y3 y4 y5 z) oo :=
  xs_wh (E := (fun (s : Int32 × Nat × Int32 × Int32 × mm_S) n => eX4_findTimes_55 n s.1 s.2.1 s.2.2.1 s.2.2.2.1 s.2.2.2.2)) (C := (mm_mt (fun x : Int32 × Nat × Int32 × mm_S => ∃ n, eX4_findTimes_44 n x.1 x.2.1 x.2.2.1 x.2.2.2 = some oo) (fun v => (fun v : mm_S => ((none, v) : mm_R)) v = oo))) (fun s => xs_row (fun n => qX4_findTimes_55 n s.1 s.2.1 s.2.2.1 s.2.2.2.1 s.2.2.2.2) (xs_if (xs_v fun hc => hc) (kX4_findTimes_65 s.1 s.2.1 s.2.2.1 s.2.2.2.1 0 s.2.2.2.2 oo))) 100000 (y2, y3, y4, y5, z)
def lX4_findTimes_44 (s : Int32 × Nat × Int32 × mm_S) : Option ((Int32 × Nat × Int32 × mm_S) ⊕ (mm_S)) := if s.2.2.1 = 0 then some (.inr (s.2.2.2)) else (sX4_findTimes_55 s.1 s.2.1 0 0 s.2.2.2)
def sX4_findTimes_44 (y2 : Int32) (y3 : Nat) (y4 : Int32) (z : mm_S) : Option (mm_S) := mm_wh (lX4_findTimes_44 ) 100000 (y2, y3, y4, z)
theorem kX4_findTimes_44 (y2 : Int32) (y3 : Nat) (y4 : Int32) (z : mm_S) (oo : mm_R) : mm_Xs (sX4_findTimes_44 y2 y3 y4 z) (fun v => (fun v : mm_S => ((none, v) : mm_R)) v = oo) (fun n => eX4_findTimes_44 n y2 y3 y4 z) oo :=
  xs_wh (E := (fun (s : Int32 × Nat × Int32 × mm_S) n => eX4_findTimes_44 n s.1 s.2.1 s.2.2.1 s.2.2.2)) (C := (fun v => (fun v : mm_S => ((none, v) : mm_R)) v = oo)) (fun s => xs_row (fun n => qX4_findTimes_44 n s.1 s.2.1 s.2.2.1 s.2.2.2) (xs_if (xs_v fun hc => ⟨0, congrArg some hc⟩) (kX4_findTimes_55 s.1 s.2.1 0 0 s.2.2.2 oo))) 100000 (y2, y3, y4, z)
def sX4_findTimes_41 (y2 : Int32) (y3 : Nat) (z : mm_S) : Option (mm_S) := (sX4_findTimes_44 y2 y3 1 z)
theorem kX4_findTimes_41 (y2 : Int32) (y3 : Nat) (z : mm_S) (oo : mm_R) : mm_Xs (sX4_findTimes_41 y2 y3 z) (fun v => (fun v : mm_S => ((none, v) : mm_R)) v = oo) (fun n => eX4_findTimes_41 n y2 y3 z) oo :=
  xs_row (fun n => qX4_findTimes_41 n y2 y3 z) (kX4_findTimes_44 y2 y3 1 z oo)
def lX4_findTimes_3 (s : Int32 × Int32 × Nat × Int32 × mm_S) : Option ((Int32 × Int32 × Nat × Int32 × mm_S) ⊕ (mm_S)) := if 36 ≤ s.2.2.2.1 then (sX4_isHole s.1 s.2.2.2.2).bind fun q1 => if q1.1 = 0 then if s.1 < 0 ∨ lenM s.2.2.1 ≤ Int32.toNatClampNeg s.1 then none else (sX4_findTimes_41 s.2.1 s.2.2.1 ((mm_ui q1.2.1 s.2.2.1 (Int32.toNatClampNeg s.1) 0), q1.2.2)) else if s.1 < 0 ∨ lenM s.2.2.1 ≤ Int32.toNatClampNeg s.1 then none else (sX4_findTimes_41 s.2.1 s.2.2.1 ((mm_ui q1.2.1 s.2.2.1 (Int32.toNatClampNeg s.1) 10000), q1.2.2)) else if s.2.2.2.1 < 0 ∨ lenM s.2.2.1 ≤ Int32.toNatClampNeg s.2.2.2.1 then none else (sX4_findTimes_17 s.1 s.2.1 s.2.2.1 s.2.2.2.1 ((mm_ui s.2.2.2.2.1 s.2.2.1 (Int32.toNatClampNeg s.2.2.2.1) 10000), s.2.2.2.2.2))
def sX4_findTimes_3 (y1 : Int32) (y2 : Int32) (y3 : Nat) (y4 : Int32) (z : mm_S) : Option (mm_S) := mm_wh (lX4_findTimes_3 ) 100000 (y1, y2, y3, y4, z)
theorem kX4_findTimes_3 (y1 : Int32) (y2 : Int32) (y3 : Nat) (y4 : Int32) (z : mm_S) (oo : mm_R) : mm_Xs (sX4_findTimes_3 y1 y2 y3 y4 z) (fun v => (fun v : mm_S => ((none, v) : mm_R)) v = oo) (fun n => eX4_findTimes_3 n y1 y2 y3 y4 z) oo :=
  xs_wh (E := (fun (s : Int32 × Int32 × Nat × Int32 × mm_S) n => eX4_findTimes_3 n s.1 s.2.1 s.2.2.1 s.2.2.2.1 s.2.2.2.2)) (C := (fun v => (fun v : mm_S => ((none, v) : mm_R)) v = oo)) (fun s => xs_row (fun n => qX4_findTimes_3 n s.1 s.2.1 s.2.2.1 s.2.2.2.1 s.2.2.2.2) (xs_if (xs_bd fun q1 => (xs_if (xs_if xs_n (kX4_findTimes_41 s.2.1 s.2.2.1 ((mm_ui q1.2.1 s.2.2.1 (Int32.toNatClampNeg s.1) 0), q1.2.2) oo)) (xs_if xs_n (kX4_findTimes_41 s.2.1 s.2.2.1 ((mm_ui q1.2.1 s.2.2.1 (Int32.toNatClampNeg s.1) 10000), q1.2.2) oo)))) (xs_if xs_n (kX4_findTimes_17 s.1 s.2.1 s.2.2.1 s.2.2.2.1 ((mm_ui s.2.2.2.2.1 s.2.2.1 (Int32.toNatClampNeg s.2.2.2.1) 10000), s.2.2.2.2.2) oo)))) 100000 (y1, y2, y3, y4, z)
def sX4_findTimes_0 (x1 : Int32) (x2 : Int32) (x3 : Nat) (z : mm_S) : Option (mm_S) := (sX4_findTimes_3 x1 x2 x3 0 z)
theorem kX4_findTimes_0 (x1 : Int32) (x2 : Int32) (x3 : Nat) (z : mm_S) (oo : mm_R) : mm_Xs (sX4_findTimes_0 x1 x2 x3 z) (fun v => (fun v : mm_S => ((none, v) : mm_R)) v = oo) (fun n => eX4_findTimes_0 n x1 x2 x3 z) oo :=
  xs_row (fun n => qX4_findTimes_0 n x1 x2 x3 z) (kX4_findTimes_3 x1 x2 x3 0 z oo)
def sX4_findTimes (x1 : Int32) (x2 : Int32) (x3 : Nat) (z : mm_S) : Option (mm_S) := sX4_findTimes_0 x1 x2 x3 z
theorem sp_X4_findTimes (x1 : Int32) (x2 : Int32) (x3 : Nat) (z : mm_S) (hk : ∀ v ∈ [mm_P 4 0, mm_I x1, mm_I x2, mm_P 10 x3], mm_ok 22 lyTM 22 17 v) (q : mm_S) (hq : sX4_findTimes x1 x2 x3 z = some q) : f_X4_findTimes [mm_P 4 0, mm_I x1, mm_I x2, mm_P 10 x3] z (none, q) := ⟨Nat.le_of_ble_eq_true rfl, kX4_findTimes_0 x1 x2 x3 z _ q hq rfl⟩
def clo_X4_findTimes (as : List mm_V) (z : mm_S) (kk : Option mm_V → mm_S → Option mm_R) : Option mm_R := mm_pr as fun t o0 as => bif Nat.beq t 4 then mm_pi as fun a1 as => mm_pi as fun a2 as => mm_pr as fun t o3 as => bif Nat.beq t 10 then (match as with | [] => (sX4_findTimes a1 a2 o3 z).bind fun q => kk none q | _ => none) else none else none
theorem cs_X4_findTimes : mm_cs lyTM 22 22 17 f_X4_findTimes clo_X4_findTimes := by
  intro as z K o hk h
  obtain ⟨t0, o0, r0, rfl, g0⟩ := mm_pr_e h
  obtain ⟨b0, k0⟩ := mm_bif_e g0
  obtain rfl := Nat.eq_of_beq_eq_true b0
  obtain ⟨a1, r1, rfl, g1⟩ := mm_pi_e k0
  obtain ⟨a2, r2, rfl, g2⟩ := mm_pi_e g1
  obtain ⟨t3, o3, r3, rfl, g3⟩ := mm_pr_e g2
  obtain ⟨b3, k3⟩ := mm_bif_e g3
  obtain rfl := Nat.eq_of_beq_eq_true b3
  rcases r3 with _ | ⟨u, w⟩
  rotate_left
  · cases k3
  obtain rfl : o0 = 0 := ok4 (hk (mm_P 4 o0) (by simp))
  obtain ⟨q, hq, hq2⟩ := Option.bind_eq_some_iff.mp k3
  exact ⟨_, _, sp_X4_findTimes a1 a2 o3 z hk q hq, (fun v hv => by cases hv), hq2⟩
theorem sV_X4_findTimes {own : String} {R : Room} {ar : Nat → Nat} {k : Nat} (hlink : Cond.methodLink own k yX4_findTimes ∈ lw_gd ∨ ∃ host, (own, k, yX4_findTimes, host) ∈ nmA) (har : ar k = 4) (hr : 3 ≤ R.frames ∧ 73 ≤ R.locals) : mm_okV lyTM lyFA lenM snM 22 22 17 roM rsA nfA nmA [] own R ar k clo_X4_findTimes := by
  refine ⟨yX4_findTimes, cX4_findTimes, 9, none, rm_X4_findTimes, f_X4_findTimes, 4, 3, (RX4, TX4, 36), M_X4_findTimes, cs_X4_findTimes, hlink, ⟨wv_X4_findTimes, wz_X4_findTimes, wi_X4_findTimes, wc_X4_findTimes⟩, ⟨by decide +kernel, by decide +kernel, by decide +kernel⟩, har, ⟨rfl, rfl, by decide⟩, ?_, ⟨rfl, rfl, hr.1, hr.2⟩⟩
  intro as z K o h
  obtain ⟨t0, o0, r0, rfl, g0⟩ := mm_pr_e h
  obtain ⟨b0, k0⟩ := mm_bif_e g0
  obtain rfl := Nat.eq_of_beq_eq_true b0
  exact ⟨_, _, rfl⟩
-- X4_copyRow
def lV_X4_copyRow : List (Nat × (List mm_V → mm_S → (Option mm_V → mm_S → Option mm_R) → Option mm_R)) := []
def mV_X4_copyRow (k : Nat) (as : List mm_V) (z : mm_S) (kk : Option mm_V → mm_S → Option mm_R) : Option mm_R := match mm_at lV_X4_copyRow k with
  | some f => f as z kk
  | none => none
def arV_X4_copyRow (k : Nat) : Nat := (mm_at [] k).getD 0
def lS_X4_copyRow : List (Nat × (List mm_V → mm_S → (Option mm_V → mm_S → Option mm_R) → Option mm_R)) := []
def mS_X4_copyRow (k : Nat) (as : List mm_V) (z : mm_S) (kk : Option mm_V → mm_S → Option mm_R) : Option mm_R := match mm_at lS_X4_copyRow k with
  | some f => f as z kk
  | none => none
def arS_X4_copyRow (k : Nat) : Nat := (mm_at [] k).getD 0
def ct_X4_copyRow : List (Nat × List Nat) := [(2, [0, 1, 2]), (14, [0, 1, 2])]
def go_X4_copyRow : Nat → mm_K := mm_go (fun k => mm_at flX4 k) (fun k => mm_at clX4 k) (fun k => mm_at glX4 k) arV_X4_copyRow arS_X4_copyRow mV_X4_copyRow mS_X4_copyRow lenM roM snM 3 3 tbX4_copyRow ct_X4_copyRow
def eX4_copyRow_0 (n : Nat) (x1 : Nat) (x2 : Nat) (z : mm_S) : Option mm_R := go_X4_copyRow n 0 [(0, mm_P 10 x1), (1, mm_P 10 x2)] [] z
def eX4_copyRow_2 (n : Nat) (y0 : Nat) (y1 : Nat) (y2 : Int32) (z : mm_S) : Option mm_R := go_X4_copyRow n 2 [(0, mm_P 10 y0), (1, mm_P 10 y1), (2, mm_I y2)] [] z
def eX4_copyRow_14 (n : Nat) (y0 : Nat) (y1 : Nat) (y2 : Int32) (z : mm_S) : Option mm_R := go_X4_copyRow n 14 [(0, mm_P 10 y0), (1, mm_P 10 y1), (2, mm_I y2)] [] z
set_option maxRecDepth 100000 in
theorem qX4_copyRow_0 (n : Nat) (x1 : Nat) (x2 : Nat) (z : mm_S) : eX4_copyRow_0 (n + 1) x1 x2 z = (eX4_copyRow_2 n x1 x2 0 z) := rfl
set_option maxRecDepth 100000 in
theorem qX4_copyRow_2 (n : Nat) (y0 : Nat) (y1 : Nat) (y2 : Int32) (z : mm_S) : eX4_copyRow_2 (n + 1) y0 y1 y2 z = (if 97 ≤ y2 then some (none, z) else if y2 < 0 ∨ lenM y0 ≤ Int32.toNatClampNeg y2 then none else if y2 < 0 ∨ lenM y1 ≤ Int32.toNatClampNeg y2 then none else let u1 : mm_S := ((mm_ui z.1 y1 (Int32.toNatClampNeg y2) (z.1 y0 (Int32.toNatClampNeg y2))), z.2); eX4_copyRow_14 n y0 y1 y2 u1) := rfl
set_option maxRecDepth 100000 in
theorem qX4_copyRow_14 (n : Nat) (y0 : Nat) (y1 : Nat) (y2 : Int32) (z : mm_S) : eX4_copyRow_14 (n + 1) y0 y1 y2 z = (eX4_copyRow_2 n y0 y1 (y2 + 1) z) := rfl
def rm_X4_copyRow : Room := { frames := 0, cells := 0, slots := 0, locals := 0 }
def f_X4_copyRow (as : List mm_V) (z : mm_S) (o : mm_R) : Prop := (as.map mm_cat).sum ≤ 3 ∧ ∃ n, go_X4_copyRow n 0 (mm_ar 0 as) [] z = some o
theorem M_X4_copyRow : mm_M lyTM lyFA lenM snM 22 22 17 roM rsA nfA nmA [] yX4_copyRow cX4_copyRow 3 (none) rm_X4_copyRow f_X4_copyRow :=
  mm_met (rt := 3) (by decide +kernel) ⟨fun h => absurd h (by decide), fun h => absurd h (by decide), fun h => absurd h (by decide), fun h => rfl⟩ tbX4_copyRow_ok hsnM okFX4 okLX4 (fun _ h => absurd h List.not_mem_nil) (fun _ _ _ _ => rfl) (fun _ _ _ _ => rfl) (fun _ h => absurd h List.not_mem_nil) (fun _ h => absurd h List.not_mem_nil)
def sX4_copyRow_14 (y0 : Nat) (y1 : Nat) (y2 : Int32) (z : mm_S) : Option ((Nat × Nat × Int32 × mm_S) ⊕ (mm_S)) := some (.inl (y0, y1, (y2 + 1), z))
theorem kX4_copyRow_14 (y0 : Nat) (y1 : Nat) (y2 : Int32) (z : mm_S) (oo : mm_R) : mm_Xs (sX4_copyRow_14 y0 y1 y2 z) (mm_mt (fun x : Nat × Nat × Int32 × mm_S => ∃ n, eX4_copyRow_2 n x.1 x.2.1 x.2.2.1 x.2.2.2 = some oo) (fun v => (fun v : mm_S => ((none, v) : mm_R)) v = oo)) (fun n => eX4_copyRow_14 n y0 y1 y2 z) oo :=
  xs_row (fun n => qX4_copyRow_14 n y0 y1 y2 z) (xs_v fun hc => hc)
def lX4_copyRow_2 (s : Nat × Nat × Int32 × mm_S) : Option ((Nat × Nat × Int32 × mm_S) ⊕ (mm_S)) := if 97 ≤ s.2.2.1 then some (.inr (s.2.2.2)) else if s.2.2.1 < 0 ∨ lenM s.1 ≤ Int32.toNatClampNeg s.2.2.1 then none else if s.2.2.1 < 0 ∨ lenM s.2.1 ≤ Int32.toNatClampNeg s.2.2.1 then none else let u1 : mm_S := ((mm_ui s.2.2.2.1 s.2.1 (Int32.toNatClampNeg s.2.2.1) (s.2.2.2.1 s.1 (Int32.toNatClampNeg s.2.2.1))), s.2.2.2.2); (sX4_copyRow_14 s.1 s.2.1 s.2.2.1 u1)
def sX4_copyRow_2 (y0 : Nat) (y1 : Nat) (y2 : Int32) (z : mm_S) : Option (mm_S) := mm_wh (lX4_copyRow_2 ) 100000 (y0, y1, y2, z)
theorem kX4_copyRow_2 (y0 : Nat) (y1 : Nat) (y2 : Int32) (z : mm_S) (oo : mm_R) : mm_Xs (sX4_copyRow_2 y0 y1 y2 z) (fun v => (fun v : mm_S => ((none, v) : mm_R)) v = oo) (fun n => eX4_copyRow_2 n y0 y1 y2 z) oo :=
  xs_wh (E := (fun (s : Nat × Nat × Int32 × mm_S) n => eX4_copyRow_2 n s.1 s.2.1 s.2.2.1 s.2.2.2)) (C := (fun v => (fun v : mm_S => ((none, v) : mm_R)) v = oo)) (fun s => xs_row (fun n => qX4_copyRow_2 n s.1 s.2.1 s.2.2.1 s.2.2.2) (xs_if (xs_v fun hc => ⟨0, congrArg some hc⟩) (xs_if xs_n (xs_if xs_n (let u1 : mm_S := ((mm_ui s.2.2.2.1 s.2.1 (Int32.toNatClampNeg s.2.2.1) (s.2.2.2.1 s.1 (Int32.toNatClampNeg s.2.2.1))), s.2.2.2.2); (kX4_copyRow_14 s.1 s.2.1 s.2.2.1 u1 oo)))))) 100000 (y0, y1, y2, z)
def sX4_copyRow_0 (x1 : Nat) (x2 : Nat) (z : mm_S) : Option (mm_S) := (sX4_copyRow_2 x1 x2 0 z)
theorem kX4_copyRow_0 (x1 : Nat) (x2 : Nat) (z : mm_S) (oo : mm_R) : mm_Xs (sX4_copyRow_0 x1 x2 z) (fun v => (fun v : mm_S => ((none, v) : mm_R)) v = oo) (fun n => eX4_copyRow_0 n x1 x2 z) oo :=
  xs_row (fun n => qX4_copyRow_0 n x1 x2 z) (kX4_copyRow_2 x1 x2 0 z oo)
def sX4_copyRow (x1 : Nat) (x2 : Nat) (z : mm_S) : Option (mm_S) := sX4_copyRow_0 x1 x2 z
theorem sp_X4_copyRow (x1 : Nat) (x2 : Nat) (z : mm_S) (hk : ∀ v ∈ [mm_P 10 x1, mm_P 10 x2], mm_ok 22 lyTM 22 17 v) (q : mm_S) (hq : sX4_copyRow x1 x2 z = some q) : f_X4_copyRow [mm_P 10 x1, mm_P 10 x2] z (none, q) := ⟨Nat.le_of_ble_eq_true rfl, kX4_copyRow_0 x1 x2 z _ q hq rfl⟩
def clo_X4_copyRow (as : List mm_V) (z : mm_S) (kk : Option mm_V → mm_S → Option mm_R) : Option mm_R := mm_pr as fun t o0 as => bif Nat.beq t 10 then mm_pr as fun t o1 as => bif Nat.beq t 10 then (match as with | [] => (sX4_copyRow o0 o1 z).bind fun q => kk none q | _ => none) else none else none
theorem cs_X4_copyRow : mm_cs lyTM 22 22 17 f_X4_copyRow clo_X4_copyRow := by
  intro as z K o hk h
  obtain ⟨t0, o0, r0, rfl, g0⟩ := mm_pr_e h
  obtain ⟨b0, k0⟩ := mm_bif_e g0
  obtain rfl := Nat.eq_of_beq_eq_true b0
  obtain ⟨t1, o1, r1, rfl, g1⟩ := mm_pr_e k0
  obtain ⟨b1, k1⟩ := mm_bif_e g1
  obtain rfl := Nat.eq_of_beq_eq_true b1
  rcases r1 with _ | ⟨u, w⟩
  rotate_left
  · cases k1
  obtain ⟨q, hq, hq2⟩ := Option.bind_eq_some_iff.mp k1
  exact ⟨_, _, sp_X4_copyRow o0 o1 z hk q hq, (fun v hv => by cases hv), hq2⟩
theorem sS_X4_copyRow {own : String} {R : Room} {ar : Nat → Nat} {k : Nat} (hlink : Cond.methodLink own k yX4_copyRow ∈ lw_gd ∨ ∃ host, (own, k, yX4_copyRow, host) ∈ nmA) (har : ar k = 2) (hr : 1 ≤ R.frames ∧ 22 ≤ R.locals) : mm_okS lyTM lyFA lenM snM 22 22 17 roM rsA nfA nmA [] own R ar k clo_X4_copyRow :=
  Or.inl ⟨yX4_copyRow, cX4_copyRow, 3, none, rm_X4_copyRow, f_X4_copyRow, M_X4_copyRow, cs_X4_copyRow, hlink, ⟨ws_X4_copyRow, wi_X4_copyRow, wc_X4_copyRow⟩, ⟨by decide +kernel, by decide +kernel, by rw [har]; decide +kernel⟩, ⟨rfl, rfl, hr.1, hr.2⟩⟩
-- X4_starts
def lV_X4_starts : List (Nat × (List mm_V → mm_S → (Option mm_V → mm_S → Option mm_R) → Option mm_R)) := [(139, clo_X4_crewIs)]
def mV_X4_starts (k : Nat) (as : List mm_V) (z : mm_S) (kk : Option mm_V → mm_S → Option mm_R) : Option mm_R := match mm_at lV_X4_starts k with
  | some f => f as z kk
  | none => none
def arV_X4_starts (k : Nat) : Nat := (mm_at [(139, 3)] k).getD 0
def lS_X4_starts : List (Nat × (List mm_V → mm_S → (Option mm_V → mm_S → Option mm_R) → Option mm_R)) := [(142, clo_X4_isUnder)]
def mS_X4_starts (k : Nat) (as : List mm_V) (z : mm_S) (kk : Option mm_V → mm_S → Option mm_R) : Option mm_R := match mm_at lS_X4_starts k with
  | some f => f as z kk
  | none => none
def arS_X4_starts (k : Nat) : Nat := (mm_at [(142, 2)] k).getD 0
def ct_X4_starts : List (Nat × List Nat) := [(7, [2]), (29, [])]
def go_X4_starts : Nat → mm_K := mm_go (fun k => mm_at flX4 k) (fun k => mm_at clX4 k) (fun k => mm_at glX4 k) arV_X4_starts arS_X4_starts mV_X4_starts mS_X4_starts lenM roM snM 3 0 tbX4_starts ct_X4_starts
def eX4_starts_0 (n : Nat)  (x1 : Int32) (z : mm_S) : Option mm_R := go_X4_starts n 0 [(0, mm_P 4 0), (1, mm_I x1)] [] z
def eX4_starts_7 (n : Nat) (y2 : Int32) (z : mm_S) : Option mm_R := go_X4_starts n 7 [(2, mm_I y2)] [] z
def eX4_starts_29 (n : Nat)  (z : mm_S) : Option mm_R := go_X4_starts n 29 [] [] z
set_option maxRecDepth 100000 in
theorem qX4_starts_0 (n : Nat)  (x1 : Int32) (z : mm_S) : eX4_starts_0 (n + 1) x1 z = ((sX4_crewIs x1 0 z).bind fun q1 => eX4_starts_7 n q1.1 q1.2) := rfl
set_option maxRecDepth 100000 in
theorem qX4_starts_7 (n : Nat) (y2 : Int32) (z : mm_S) : eX4_starts_7 (n + 1) y2 z = (if y2 = 2 then some (some (mm_I 1), z) else if y2 = 3 then eX4_starts_29 n  z else (sX4_isUnder y2 4 z).bind fun q2 => if q2.1 = 0 then some (some (mm_I 0), q2.2) else eX4_starts_29 n  q2.2) := rfl
set_option maxRecDepth 100000 in
theorem qX4_starts_29 (n : Nat)  (z : mm_S) : eX4_starts_29 (n + 1)  z = (some (some (mm_I 2), z)) := rfl
def rm_X4_starts : Room := { frames := 2, cells := 0, slots := 0, locals := 43 }
def f_X4_starts (as : List mm_V) (z : mm_S) (o : mm_R) : Prop := (as.map mm_cat).sum ≤ 3 ∧ ∃ n, go_X4_starts n 0 (mm_ar 0 as) [] z = some o
theorem M_X4_starts : mm_M lyTM lyFA lenM snM 22 22 17 roM rsA nfA nmA [] yX4_starts cX4_starts 3 (some .int) rm_X4_starts f_X4_starts :=
  mm_met (rt := 0) (by decide +kernel) ⟨fun h => rfl, fun h => absurd h (by decide), fun h => absurd h (by decide), fun h => absurd h (by decide)⟩ tbX4_starts_ok hsnM okFX4 okLX4 (fun _ h => absurd h List.not_mem_nil) (fun _ _ _ _ => rfl) (fun _ _ _ _ => rfl) (List.forall_mem_cons.mpr ⟨sV_X4_crewIs (Or.inl lk_X4_139) rfl ⟨by decide, by decide⟩, fun _ h => absurd h List.not_mem_nil⟩) (List.forall_mem_cons.mpr ⟨sS_X4_isUnder (Or.inl lk_X4_142) rfl ⟨by decide, by decide⟩, fun _ h => absurd h List.not_mem_nil⟩)
def sX4_starts_29  (z : mm_S) : Option (Int32 × mm_S) := some (2, z)
theorem kX4_starts_29  (z : mm_S) (oo : mm_R) : mm_Xs (sX4_starts_29  z) (fun v => (fun v : Int32 × mm_S => ((some (mm_I v.1), v.2) : mm_R)) v = oo) (fun n => eX4_starts_29 n  z) oo :=
  xs_row (fun n => qX4_starts_29 n z) (xs_v fun hc => ⟨0, congrArg some hc⟩)
def sX4_starts_7 (y2 : Int32) (z : mm_S) : Option (Int32 × mm_S) := if y2 = 2 then some (1, z) else if y2 = 3 then (sX4_starts_29 z) else (sX4_isUnder y2 4 z).bind fun q2 => if q2.1 = 0 then some (0, q2.2) else (sX4_starts_29 q2.2)
theorem kX4_starts_7 (y2 : Int32) (z : mm_S) (oo : mm_R) : mm_Xs (sX4_starts_7 y2 z) (fun v => (fun v : Int32 × mm_S => ((some (mm_I v.1), v.2) : mm_R)) v = oo) (fun n => eX4_starts_7 n y2 z) oo :=
  xs_row (fun n => qX4_starts_7 n y2 z) (xs_if (xs_v fun hc => ⟨0, congrArg some hc⟩) (xs_if (kX4_starts_29 z oo) (xs_bd fun q2 => (xs_if (xs_v fun hc => ⟨0, congrArg some hc⟩) (kX4_starts_29 q2.2 oo)))))
def sX4_starts_0 (x1 : Int32) (z : mm_S) : Option (Int32 × mm_S) := (sX4_crewIs x1 0 z).bind fun q1 => (sX4_starts_7 q1.1 q1.2)
theorem kX4_starts_0 (x1 : Int32) (z : mm_S) (oo : mm_R) : mm_Xs (sX4_starts_0 x1 z) (fun v => (fun v : Int32 × mm_S => ((some (mm_I v.1), v.2) : mm_R)) v = oo) (fun n => eX4_starts_0 n x1 z) oo :=
  xs_row (fun n => qX4_starts_0 n x1 z) (xs_bd fun q1 => (kX4_starts_7 q1.1 q1.2 oo))
def sX4_starts (x1 : Int32) (z : mm_S) : Option (Int32 × mm_S) := sX4_starts_0 x1 z
theorem sp_X4_starts (x1 : Int32) (z : mm_S) (hk : ∀ v ∈ [mm_P 4 0, mm_I x1], mm_ok 22 lyTM 22 17 v) (q : Int32 × mm_S) (hq : sX4_starts x1 z = some q) : f_X4_starts [mm_P 4 0, mm_I x1] z (some (mm_I q.1), q.2) := ⟨Nat.le_of_ble_eq_true rfl, kX4_starts_0 x1 z _ q hq rfl⟩
def clo_X4_starts (as : List mm_V) (z : mm_S) (kk : Option mm_V → mm_S → Option mm_R) : Option mm_R := mm_pr as fun t o0 as => bif Nat.beq t 4 then mm_pi as fun a1 as => (match as with | [] => (sX4_starts a1 z).bind fun q => kk (some (mm_I q.1)) q.2 | _ => none) else none
theorem cs_X4_starts : mm_cs lyTM 22 22 17 f_X4_starts clo_X4_starts := by
  intro as z K o hk h
  obtain ⟨t0, o0, r0, rfl, g0⟩ := mm_pr_e h
  obtain ⟨b0, k0⟩ := mm_bif_e g0
  obtain rfl := Nat.eq_of_beq_eq_true b0
  obtain ⟨a1, r1, rfl, g1⟩ := mm_pi_e k0
  rcases r1 with _ | ⟨u, w⟩
  rotate_left
  · cases g1
  obtain rfl : o0 = 0 := ok4 (hk (mm_P 4 o0) (by simp))
  obtain ⟨q, hq, hq2⟩ := Option.bind_eq_some_iff.mp g1
  exact ⟨_, _, sp_X4_starts a1 z hk q hq, fun v hv => by cases hv; exact Or.inl ⟨_, rfl⟩, hq2⟩
theorem sV_X4_starts {own : String} {R : Room} {ar : Nat → Nat} {k : Nat} (hlink : Cond.methodLink own k yX4_starts ∈ lw_gd ∨ ∃ host, (own, k, yX4_starts, host) ∈ nmA) (har : ar k = 2) (hr : 3 ≤ R.frames ∧ 65 ≤ R.locals) : mm_okV lyTM lyFA lenM snM 22 22 17 roM rsA nfA nmA [] own R ar k clo_X4_starts := by
  refine ⟨yX4_starts, cX4_starts, 3, some .int, rm_X4_starts, f_X4_starts, 4, 1, (RX4, TX4, 36), M_X4_starts, cs_X4_starts, hlink, ⟨wv_X4_starts, wz_X4_starts, wi_X4_starts, wc_X4_starts⟩, ⟨by decide +kernel, by decide +kernel, by decide +kernel⟩, har, ⟨rfl, rfl, by decide⟩, ?_, ⟨rfl, rfl, hr.1, hr.2⟩⟩
  intro as z K o h
  obtain ⟨t0, o0, r0, rfl, g0⟩ := mm_pr_e h
  obtain ⟨b0, k0⟩ := mm_bif_e g0
  obtain rfl := Nat.eq_of_beq_eq_true b0
  exact ⟨_, _, rfl⟩
-- X4_hearsBy
def lV_X4_hearsBy : List (Nat × (List mm_V → mm_S → (Option mm_V → mm_S → Option mm_R) → Option mm_R)) := [(139, clo_X4_crewIs)]
def mV_X4_hearsBy (k : Nat) (as : List mm_V) (z : mm_S) (kk : Option mm_V → mm_S → Option mm_R) : Option mm_R := match mm_at lV_X4_hearsBy k with
  | some f => f as z kk
  | none => none
def arV_X4_hearsBy (k : Nat) : Nat := (mm_at [(139, 3)] k).getD 0
def lS_X4_hearsBy : List (Nat × (List mm_V → mm_S → (Option mm_V → mm_S → Option mm_R) → Option mm_R)) := [(142, clo_X4_isUnder)]
def mS_X4_hearsBy (k : Nat) (as : List mm_V) (z : mm_S) (kk : Option mm_V → mm_S → Option mm_R) : Option mm_R := match mm_at lS_X4_hearsBy k with
  | some f => f as z kk
  | none => none
def arS_X4_hearsBy (k : Nat) : Nat := (mm_at [(142, 2)] k).getD 0
def ct_X4_hearsBy : List (Nat × List Nat) := [(7, [2]), (35, [])]
def go_X4_hearsBy : Nat → mm_K := mm_go (fun k => mm_at flX4 k) (fun k => mm_at clX4 k) (fun k => mm_at glX4 k) arV_X4_hearsBy arS_X4_hearsBy mV_X4_hearsBy mS_X4_hearsBy lenM roM snM 3 0 tbX4_hearsBy ct_X4_hearsBy
def eX4_hearsBy_0 (n : Nat)  (x1 : Int32) (z : mm_S) : Option mm_R := go_X4_hearsBy n 0 [(0, mm_P 4 0), (1, mm_I x1)] [] z
def eX4_hearsBy_7 (n : Nat) (y2 : Int32) (z : mm_S) : Option mm_R := go_X4_hearsBy n 7 [(2, mm_I y2)] [] z
def eX4_hearsBy_35 (n : Nat)  (z : mm_S) : Option mm_R := go_X4_hearsBy n 35 [] [] z
set_option maxRecDepth 100000 in
theorem qX4_hearsBy_0 (n : Nat)  (x1 : Int32) (z : mm_S) : eX4_hearsBy_0 (n + 1) x1 z = ((sX4_crewIs x1 0 z).bind fun q1 => eX4_hearsBy_7 n q1.1 q1.2) := rfl
set_option maxRecDepth 100000 in
theorem qX4_hearsBy_7 (n : Nat) (y2 : Int32) (z : mm_S) : eX4_hearsBy_7 (n + 1) y2 z = (if y2 = 6 then some (some (mm_I (-1)), z) else if y2 = 3 then some (some (mm_I 40), z) else (sX4_isUnder y2 4 z).bind fun q2 => if q2.1 = 0 then some (some (mm_I 60), q2.2) else eX4_hearsBy_35 n  q2.2) := rfl
set_option maxRecDepth 100000 in
theorem qX4_hearsBy_35 (n : Nat)  (z : mm_S) : eX4_hearsBy_35 (n + 1)  z = (some (some (mm_I 30), z)) := rfl
def rm_X4_hearsBy : Room := { frames := 2, cells := 0, slots := 0, locals := 43 }
def f_X4_hearsBy (as : List mm_V) (z : mm_S) (o : mm_R) : Prop := (as.map mm_cat).sum ≤ 3 ∧ ∃ n, go_X4_hearsBy n 0 (mm_ar 0 as) [] z = some o
theorem M_X4_hearsBy : mm_M lyTM lyFA lenM snM 22 22 17 roM rsA nfA nmA [] yX4_hearsBy cX4_hearsBy 3 (some .int) rm_X4_hearsBy f_X4_hearsBy :=
  mm_met (rt := 0) (by decide +kernel) ⟨fun h => rfl, fun h => absurd h (by decide), fun h => absurd h (by decide), fun h => absurd h (by decide)⟩ tbX4_hearsBy_ok hsnM okFX4 okLX4 (fun _ h => absurd h List.not_mem_nil) (fun _ _ _ _ => rfl) (fun _ _ _ _ => rfl) (List.forall_mem_cons.mpr ⟨sV_X4_crewIs (Or.inl lk_X4_139) rfl ⟨by decide, by decide⟩, fun _ h => absurd h List.not_mem_nil⟩) (List.forall_mem_cons.mpr ⟨sS_X4_isUnder (Or.inl lk_X4_142) rfl ⟨by decide, by decide⟩, fun _ h => absurd h List.not_mem_nil⟩)
def sX4_hearsBy_35  (z : mm_S) : Option (Int32 × mm_S) := some (30, z)
theorem kX4_hearsBy_35  (z : mm_S) (oo : mm_R) : mm_Xs (sX4_hearsBy_35  z) (fun v => (fun v : Int32 × mm_S => ((some (mm_I v.1), v.2) : mm_R)) v = oo) (fun n => eX4_hearsBy_35 n  z) oo :=
  xs_row (fun n => qX4_hearsBy_35 n z) (xs_v fun hc => ⟨0, congrArg some hc⟩)
def sX4_hearsBy_7 (y2 : Int32) (z : mm_S) : Option (Int32 × mm_S) := if y2 = 6 then some ((-1), z) else if y2 = 3 then some (40, z) else (sX4_isUnder y2 4 z).bind fun q2 => if q2.1 = 0 then some (60, q2.2) else (sX4_hearsBy_35 q2.2)
theorem kX4_hearsBy_7 (y2 : Int32) (z : mm_S) (oo : mm_R) : mm_Xs (sX4_hearsBy_7 y2 z) (fun v => (fun v : Int32 × mm_S => ((some (mm_I v.1), v.2) : mm_R)) v = oo) (fun n => eX4_hearsBy_7 n y2 z) oo :=
  xs_row (fun n => qX4_hearsBy_7 n y2 z) (xs_if (xs_v fun hc => ⟨0, congrArg some hc⟩) (xs_if (xs_v fun hc => ⟨0, congrArg some hc⟩) (xs_bd fun q2 => (xs_if (xs_v fun hc => ⟨0, congrArg some hc⟩) (kX4_hearsBy_35 q2.2 oo)))))
def sX4_hearsBy_0 (x1 : Int32) (z : mm_S) : Option (Int32 × mm_S) := (sX4_crewIs x1 0 z).bind fun q1 => (sX4_hearsBy_7 q1.1 q1.2)
theorem kX4_hearsBy_0 (x1 : Int32) (z : mm_S) (oo : mm_R) : mm_Xs (sX4_hearsBy_0 x1 z) (fun v => (fun v : Int32 × mm_S => ((some (mm_I v.1), v.2) : mm_R)) v = oo) (fun n => eX4_hearsBy_0 n x1 z) oo :=
  xs_row (fun n => qX4_hearsBy_0 n x1 z) (xs_bd fun q1 => (kX4_hearsBy_7 q1.1 q1.2 oo))
def sX4_hearsBy (x1 : Int32) (z : mm_S) : Option (Int32 × mm_S) := sX4_hearsBy_0 x1 z
theorem sp_X4_hearsBy (x1 : Int32) (z : mm_S) (hk : ∀ v ∈ [mm_P 4 0, mm_I x1], mm_ok 22 lyTM 22 17 v) (q : Int32 × mm_S) (hq : sX4_hearsBy x1 z = some q) : f_X4_hearsBy [mm_P 4 0, mm_I x1] z (some (mm_I q.1), q.2) := ⟨Nat.le_of_ble_eq_true rfl, kX4_hearsBy_0 x1 z _ q hq rfl⟩
def clo_X4_hearsBy (as : List mm_V) (z : mm_S) (kk : Option mm_V → mm_S → Option mm_R) : Option mm_R := mm_pr as fun t o0 as => bif Nat.beq t 4 then mm_pi as fun a1 as => (match as with | [] => (sX4_hearsBy a1 z).bind fun q => kk (some (mm_I q.1)) q.2 | _ => none) else none
theorem cs_X4_hearsBy : mm_cs lyTM 22 22 17 f_X4_hearsBy clo_X4_hearsBy := by
  intro as z K o hk h
  obtain ⟨t0, o0, r0, rfl, g0⟩ := mm_pr_e h
  obtain ⟨b0, k0⟩ := mm_bif_e g0
  obtain rfl := Nat.eq_of_beq_eq_true b0
  obtain ⟨a1, r1, rfl, g1⟩ := mm_pi_e k0
  rcases r1 with _ | ⟨u, w⟩
  rotate_left
  · cases g1
  obtain rfl : o0 = 0 := ok4 (hk (mm_P 4 o0) (by simp))
  obtain ⟨q, hq, hq2⟩ := Option.bind_eq_some_iff.mp g1
  exact ⟨_, _, sp_X4_hearsBy a1 z hk q hq, fun v hv => by cases hv; exact Or.inl ⟨_, rfl⟩, hq2⟩
theorem sV_X4_hearsBy {own : String} {R : Room} {ar : Nat → Nat} {k : Nat} (hlink : Cond.methodLink own k yX4_hearsBy ∈ lw_gd ∨ ∃ host, (own, k, yX4_hearsBy, host) ∈ nmA) (har : ar k = 2) (hr : 3 ≤ R.frames ∧ 65 ≤ R.locals) : mm_okV lyTM lyFA lenM snM 22 22 17 roM rsA nfA nmA [] own R ar k clo_X4_hearsBy := by
  refine ⟨yX4_hearsBy, cX4_hearsBy, 3, some .int, rm_X4_hearsBy, f_X4_hearsBy, 4, 1, (RX4, TX4, 36), M_X4_hearsBy, cs_X4_hearsBy, hlink, ⟨wv_X4_hearsBy, wz_X4_hearsBy, wi_X4_hearsBy, wc_X4_hearsBy⟩, ⟨by decide +kernel, by decide +kernel, by decide +kernel⟩, har, ⟨rfl, rfl, by decide⟩, ?_, ⟨rfl, rfl, hr.1, hr.2⟩⟩
  intro as z K o h
  obtain ⟨t0, o0, r0, rfl, g0⟩ := mm_pr_e h
  obtain ⟨b0, k0⟩ := mm_bif_e g0
  obtain rfl := Nat.eq_of_beq_eq_true b0
  exact ⟨_, _, rfl⟩
-- X4_timeOf
def lV_X4_timeOf : List (Nat × (List mm_V → mm_S → (Option mm_V → mm_S → Option mm_R) → Option mm_R)) := [(181, clo_X4_findTimes)]
def mV_X4_timeOf (k : Nat) (as : List mm_V) (z : mm_S) (kk : Option mm_V → mm_S → Option mm_R) : Option mm_R := match mm_at lV_X4_timeOf k with
  | some f => f as z kk
  | none => none
def arV_X4_timeOf (k : Nat) : Nat := (mm_at [(181, 4)] k).getD 0
def lS_X4_timeOf : List (Nat × (List mm_V → mm_S → (Option mm_V → mm_S → Option mm_R) → Option mm_R)) := []
def mS_X4_timeOf (k : Nat) (as : List mm_V) (z : mm_S) (kk : Option mm_V → mm_S → Option mm_R) : Option mm_R := match mm_at lS_X4_timeOf k with
  | some f => f as z kk
  | none => none
def arS_X4_timeOf (k : Nat) : Nat := (mm_at [] k).getD 0
def ct_X4_timeOf : List (Nat × List Nat) := [(10, [0, 2])]
def go_X4_timeOf : Nat → mm_K := mm_go (fun k => mm_at flX4 k) (fun k => mm_at clX4 k) (fun k => mm_at glX4 k) arV_X4_timeOf arS_X4_timeOf mV_X4_timeOf mS_X4_timeOf lenM roM snM 3 0 tbX4_timeOf ct_X4_timeOf
def eX4_timeOf_0 (n : Nat)  (x1 : Int32) (x2 : Int32) (z : mm_S) : Option mm_R := go_X4_timeOf n 0 [(0, mm_P 4 0), (1, mm_I x1), (2, mm_I x2)] [] z
def eX4_timeOf_10 (n : Nat)  (y2 : Int32) (z : mm_S) : Option mm_R := go_X4_timeOf n 10 [(0, mm_P 4 0), (2, mm_I y2)] [] z
set_option maxRecDepth 100000 in
theorem qX4_timeOf_0 (n : Nat)  (x1 : Int32) (x2 : Int32) (z : mm_S) : eX4_timeOf_0 (n + 1) x1 x2 z = ((sX4_findTimes x1 1 5 z).bind fun q1 => eX4_timeOf_10 n x2 q1) := rfl
set_option maxRecDepth 100000 in
theorem qX4_timeOf_10 (n : Nat)  (y2 : Int32) (z : mm_S) : eX4_timeOf_10 (n + 1) y2 z = (if y2 < 0 ∨ 36 ≤ Int32.toNatClampNeg y2 then none else some (some (mm_I (z.1 5 (Int32.toNatClampNeg y2))), z)) := rfl
def rm_X4_timeOf : Room := { frames := 3, cells := 0, slots := 0, locals := 73 }
def f_X4_timeOf (as : List mm_V) (z : mm_S) (o : mm_R) : Prop := (as.map mm_cat).sum ≤ 3 ∧ ∃ n, go_X4_timeOf n 0 (mm_ar 0 as) [] z = some o
theorem M_X4_timeOf : mm_M lyTM lyFA lenM snM 22 22 17 roM rsA nfA nmA [] yX4_timeOf cX4_timeOf 3 (some .int) rm_X4_timeOf f_X4_timeOf :=
  mm_met (rt := 0) (by decide +kernel) ⟨fun h => rfl, fun h => absurd h (by decide), fun h => absurd h (by decide), fun h => absurd h (by decide)⟩ tbX4_timeOf_ok hsnM okFX4 okLX4 (fun _ h => absurd h List.not_mem_nil) (fun _ _ _ _ => rfl) (fun _ _ _ _ => rfl) (List.forall_mem_cons.mpr ⟨sV_X4_findTimes (Or.inl lk_X4_181) rfl ⟨by decide, by decide⟩, fun _ h => absurd h List.not_mem_nil⟩) (fun _ h => absurd h List.not_mem_nil)
def sX4_timeOf_10 (y2 : Int32) (z : mm_S) : Option (Int32 × mm_S) := if y2 < 0 ∨ 36 ≤ Int32.toNatClampNeg y2 then none else some ((z.1 5 (Int32.toNatClampNeg y2)), z)
theorem kX4_timeOf_10 (y2 : Int32) (z : mm_S) (oo : mm_R) : mm_Xs (sX4_timeOf_10 y2 z) (fun v => (fun v : Int32 × mm_S => ((some (mm_I v.1), v.2) : mm_R)) v = oo) (fun n => eX4_timeOf_10 n y2 z) oo :=
  xs_row (fun n => qX4_timeOf_10 n y2 z) (xs_if xs_n (xs_v fun hc => ⟨0, congrArg some hc⟩))
def sX4_timeOf_0 (x1 : Int32) (x2 : Int32) (z : mm_S) : Option (Int32 × mm_S) := (sX4_findTimes x1 1 5 z).bind fun q1 => (sX4_timeOf_10 x2 q1)
theorem kX4_timeOf_0 (x1 : Int32) (x2 : Int32) (z : mm_S) (oo : mm_R) : mm_Xs (sX4_timeOf_0 x1 x2 z) (fun v => (fun v : Int32 × mm_S => ((some (mm_I v.1), v.2) : mm_R)) v = oo) (fun n => eX4_timeOf_0 n x1 x2 z) oo :=
  xs_row (fun n => qX4_timeOf_0 n x1 x2 z) (xs_bd fun q1 => (kX4_timeOf_10 x2 q1 oo))
def sX4_timeOf (x1 : Int32) (x2 : Int32) (z : mm_S) : Option (Int32 × mm_S) := sX4_timeOf_0 x1 x2 z
theorem sp_X4_timeOf (x1 : Int32) (x2 : Int32) (z : mm_S) (hk : ∀ v ∈ [mm_P 4 0, mm_I x1, mm_I x2], mm_ok 22 lyTM 22 17 v) (q : Int32 × mm_S) (hq : sX4_timeOf x1 x2 z = some q) : f_X4_timeOf [mm_P 4 0, mm_I x1, mm_I x2] z (some (mm_I q.1), q.2) := ⟨Nat.le_of_ble_eq_true rfl, kX4_timeOf_0 x1 x2 z _ q hq rfl⟩
def clo_X4_timeOf (as : List mm_V) (z : mm_S) (kk : Option mm_V → mm_S → Option mm_R) : Option mm_R := mm_pr as fun t o0 as => bif Nat.beq t 4 then mm_pi as fun a1 as => mm_pi as fun a2 as => (match as with | [] => (sX4_timeOf a1 a2 z).bind fun q => kk (some (mm_I q.1)) q.2 | _ => none) else none
theorem cs_X4_timeOf : mm_cs lyTM 22 22 17 f_X4_timeOf clo_X4_timeOf := by
  intro as z K o hk h
  obtain ⟨t0, o0, r0, rfl, g0⟩ := mm_pr_e h
  obtain ⟨b0, k0⟩ := mm_bif_e g0
  obtain rfl := Nat.eq_of_beq_eq_true b0
  obtain ⟨a1, r1, rfl, g1⟩ := mm_pi_e k0
  obtain ⟨a2, r2, rfl, g2⟩ := mm_pi_e g1
  rcases r2 with _ | ⟨u, w⟩
  rotate_left
  · cases g2
  obtain rfl : o0 = 0 := ok4 (hk (mm_P 4 o0) (by simp))
  obtain ⟨q, hq, hq2⟩ := Option.bind_eq_some_iff.mp g2
  exact ⟨_, _, sp_X4_timeOf a1 a2 z hk q hq, fun v hv => by cases hv; exact Or.inl ⟨_, rfl⟩, hq2⟩
theorem sV_X4_timeOf {own : String} {R : Room} {ar : Nat → Nat} {k : Nat} (hlink : Cond.methodLink own k yX4_timeOf ∈ lw_gd ∨ ∃ host, (own, k, yX4_timeOf, host) ∈ nmA) (har : ar k = 3) (hr : 4 ≤ R.frames ∧ 95 ≤ R.locals) : mm_okV lyTM lyFA lenM snM 22 22 17 roM rsA nfA nmA [] own R ar k clo_X4_timeOf := by
  refine ⟨yX4_timeOf, cX4_timeOf, 3, some .int, rm_X4_timeOf, f_X4_timeOf, 4, 2, (RX4, TX4, 36), M_X4_timeOf, cs_X4_timeOf, hlink, ⟨wv_X4_timeOf, wz_X4_timeOf, wi_X4_timeOf, wc_X4_timeOf⟩, ⟨by decide +kernel, by decide +kernel, by decide +kernel⟩, har, ⟨rfl, rfl, by decide⟩, ?_, ⟨rfl, rfl, hr.1, hr.2⟩⟩
  intro as z K o h
  obtain ⟨t0, o0, r0, rfl, g0⟩ := mm_pr_e h
  obtain ⟨b0, k0⟩ := mm_bif_e g0
  obtain rfl := Nat.eq_of_beq_eq_true b0
  exact ⟨_, _, rfl⟩
-- X4_findHeard
def lV_X4_findHeard : List (Nat × (List mm_V → mm_S → (Option mm_V → mm_S → Option mm_R) → Option mm_R)) := [(139, clo_X4_crewIs), (149, clo_X4_carries), (152, clo_X4_starts), (181, clo_X4_findTimes)]
def mV_X4_findHeard (k : Nat) (as : List mm_V) (z : mm_S) (kk : Option mm_V → mm_S → Option mm_R) : Option mm_R := match mm_at lV_X4_findHeard k with
  | some f => f as z kk
  | none => none
def arV_X4_findHeard (k : Nat) : Nat := (mm_at [(139, 3), (149, 2), (152, 2), (181, 4)] k).getD 0
def lS_X4_findHeard : List (Nat × (List mm_V → mm_S → (Option mm_V → mm_S → Option mm_R) → Option mm_R)) := []
def mS_X4_findHeard (k : Nat) (as : List mm_V) (z : mm_S) (kk : Option mm_V → mm_S → Option mm_R) : Option mm_R := match mm_at lS_X4_findHeard k with
  | some f => f as z kk
  | none => none
def arS_X4_findHeard (k : Nat) : Nat := (mm_at [] k).getD 0
def ct_X4_findHeard : List (Nat × List Nat) := [(12, [0, 1, 2]), (14, [0, 1, 2, 3]), (49, [0, 1, 2, 3])]
def go_X4_findHeard : Nat → mm_K := mm_go (fun k => mm_at flX4 k) (fun k => mm_at clX4 k) (fun k => mm_at glX4 k) arV_X4_findHeard arS_X4_findHeard mV_X4_findHeard mS_X4_findHeard lenM roM snM 4 3 tbX4_findHeard ct_X4_findHeard
def eX4_findHeard_0 (n : Nat)  (x1 : Int32) (x2 : Nat) (z : mm_S) : Option mm_R := go_X4_findHeard n 0 [(0, mm_P 4 0), (1, mm_I x1), (2, mm_P 10 x2)] [] z
def eX4_findHeard_12 (n : Nat)  (y1 : Int32) (y2 : Nat) (z : mm_S) : Option mm_R := go_X4_findHeard n 12 [(0, mm_P 4 0), (1, mm_I y1), (2, mm_P 10 y2)] [] z
def eX4_findHeard_14 (n : Nat)  (y1 : Int32) (y2 : Nat) (y3 : Int32) (z : mm_S) : Option mm_R := go_X4_findHeard n 14 [(0, mm_P 4 0), (1, mm_I y1), (2, mm_P 10 y2), (3, mm_I y3)] [] z
def eX4_findHeard_49 (n : Nat)  (y1 : Int32) (y2 : Nat) (y3 : Int32) (z : mm_S) : Option mm_R := go_X4_findHeard n 49 [(0, mm_P 4 0), (1, mm_I y1), (2, mm_P 10 y2), (3, mm_I y3)] [] z
set_option maxRecDepth 100000 in
theorem qX4_findHeard_0 (n : Nat)  (x1 : Int32) (x2 : Nat) (z : mm_S) : eX4_findHeard_0 (n + 1) x1 x2 z = ((sX4_crewIs x1 1 z).bind fun q1 => (sX4_findTimes q1.1 1 x2 q1.2).bind fun q2 => eX4_findHeard_12 n x1 x2 q2) := rfl
set_option maxRecDepth 100000 in
theorem qX4_findHeard_12 (n : Nat)  (y1 : Int32) (y2 : Nat) (z : mm_S) : eX4_findHeard_12 (n + 1) y1 y2 z = (eX4_findHeard_14 n y1 y2 0 z) := rfl
set_option maxRecDepth 100000 in
theorem qX4_findHeard_14 (n : Nat)  (y1 : Int32) (y2 : Nat) (y3 : Int32) (z : mm_S) : eX4_findHeard_14 (n + 1) y1 y2 y3 z = (if 36 ≤ y3 then some (none, z) else if y3 < 0 ∨ lenM y2 ≤ Int32.toNatClampNeg y3 then none else (sX4_carries y1 z).bind fun q3 => if (z.1 y2 (Int32.toNatClampNeg y3)) ≤ q3.1 then if y3 < 0 ∨ lenM y2 ≤ Int32.toNatClampNeg y3 then none else (sX4_starts y1 q3.2).bind fun q4 => if y3 < 0 ∨ lenM y2 ≤ Int32.toNatClampNeg y3 then none else let u5 : mm_S := ((mm_ui q4.2.1 y2 (Int32.toNatClampNeg y3) ((q3.2.1 y2 (Int32.toNatClampNeg y3)) + q4.1)), q4.2.2); eX4_findHeard_49 n y1 y2 y3 u5 else if y3 < 0 ∨ lenM y2 ≤ Int32.toNatClampNeg y3 then none else eX4_findHeard_49 n y1 y2 y3 ((mm_ui q3.2.1 y2 (Int32.toNatClampNeg y3) 10000), q3.2.2)) := rfl
set_option maxRecDepth 100000 in
theorem qX4_findHeard_49 (n : Nat)  (y1 : Int32) (y2 : Nat) (y3 : Int32) (z : mm_S) : eX4_findHeard_49 (n + 1) y1 y2 y3 z = (eX4_findHeard_14 n y1 y2 (y3 + 1) z) := rfl
def rm_X4_findHeard : Room := { frames := 3, cells := 0, slots := 0, locals := 73 }
def f_X4_findHeard (as : List mm_V) (z : mm_S) (o : mm_R) : Prop := (as.map mm_cat).sum ≤ 4 ∧ ∃ n, go_X4_findHeard n 0 (mm_ar 0 as) [] z = some o
theorem M_X4_findHeard : mm_M lyTM lyFA lenM snM 22 22 17 roM rsA nfA nmA [] yX4_findHeard cX4_findHeard 4 (none) rm_X4_findHeard f_X4_findHeard :=
  mm_met (rt := 3) (by decide +kernel) ⟨fun h => absurd h (by decide), fun h => absurd h (by decide), fun h => absurd h (by decide), fun h => rfl⟩ tbX4_findHeard_ok hsnM okFX4 okLX4 (fun _ h => absurd h List.not_mem_nil) (fun _ _ _ _ => rfl) (fun _ _ _ _ => rfl) (List.forall_mem_cons.mpr ⟨sV_X4_crewIs (Or.inl lk_X4_139) rfl ⟨by decide, by decide⟩, List.forall_mem_cons.mpr ⟨sV_X4_carries (Or.inl lk_X4_149) rfl ⟨by decide, by decide⟩, List.forall_mem_cons.mpr ⟨sV_X4_starts (Or.inl lk_X4_152) rfl ⟨by decide, by decide⟩, List.forall_mem_cons.mpr ⟨sV_X4_findTimes (Or.inl lk_X4_181) rfl ⟨by decide, by decide⟩, fun _ h => absurd h List.not_mem_nil⟩⟩⟩⟩) (fun _ h => absurd h List.not_mem_nil)
def sX4_findHeard_49 (y1 : Int32) (y2 : Nat) (y3 : Int32) (z : mm_S) : Option ((Int32 × Nat × Int32 × mm_S) ⊕ (mm_S)) := some (.inl (y1, y2, (y3 + 1), z))
theorem kX4_findHeard_49 (y1 : Int32) (y2 : Nat) (y3 : Int32) (z : mm_S) (oo : mm_R) : mm_Xs (sX4_findHeard_49 y1 y2 y3 z) (mm_mt (fun x : Int32 × Nat × Int32 × mm_S => ∃ n, eX4_findHeard_14 n x.1 x.2.1 x.2.2.1 x.2.2.2 = some oo) (fun v => (fun v : mm_S => ((none, v) : mm_R)) v = oo)) (fun n => eX4_findHeard_49 n y1 y2 y3 z) oo :=
  xs_row (fun n => qX4_findHeard_49 n y1 y2 y3 z) (xs_v fun hc => hc)
def lX4_findHeard_14 (s : Int32 × Nat × Int32 × mm_S) : Option ((Int32 × Nat × Int32 × mm_S) ⊕ (mm_S)) := if 36 ≤ s.2.2.1 then some (.inr (s.2.2.2)) else if s.2.2.1 < 0 ∨ lenM s.2.1 ≤ Int32.toNatClampNeg s.2.2.1 then none else (sX4_carries s.1 s.2.2.2).bind fun q3 => if (s.2.2.2.1 s.2.1 (Int32.toNatClampNeg s.2.2.1)) ≤ q3.1 then if s.2.2.1 < 0 ∨ lenM s.2.1 ≤ Int32.toNatClampNeg s.2.2.1 then none else (sX4_starts s.1 q3.2).bind fun q4 => if s.2.2.1 < 0 ∨ lenM s.2.1 ≤ Int32.toNatClampNeg s.2.2.1 then none else let u5 : mm_S := ((mm_ui q4.2.1 s.2.1 (Int32.toNatClampNeg s.2.2.1) ((q3.2.1 s.2.1 (Int32.toNatClampNeg s.2.2.1)) + q4.1)), q4.2.2); (sX4_findHeard_49 s.1 s.2.1 s.2.2.1 u5) else if s.2.2.1 < 0 ∨ lenM s.2.1 ≤ Int32.toNatClampNeg s.2.2.1 then none else (sX4_findHeard_49 s.1 s.2.1 s.2.2.1 ((mm_ui q3.2.1 s.2.1 (Int32.toNatClampNeg s.2.2.1) 10000), q3.2.2))
def sX4_findHeard_14 (y1 : Int32) (y2 : Nat) (y3 : Int32) (z : mm_S) : Option (mm_S) := mm_wh (lX4_findHeard_14 ) 100000 (y1, y2, y3, z)
theorem kX4_findHeard_14 (y1 : Int32) (y2 : Nat) (y3 : Int32) (z : mm_S) (oo : mm_R) : mm_Xs (sX4_findHeard_14 y1 y2 y3 z) (fun v => (fun v : mm_S => ((none, v) : mm_R)) v = oo) (fun n => eX4_findHeard_14 n y1 y2 y3 z) oo :=
  xs_wh (E := (fun (s : Int32 × Nat × Int32 × mm_S) n => eX4_findHeard_14 n s.1 s.2.1 s.2.2.1 s.2.2.2)) (C := (fun v => (fun v : mm_S => ((none, v) : mm_R)) v = oo)) (fun s => xs_row (fun n => qX4_findHeard_14 n s.1 s.2.1 s.2.2.1 s.2.2.2) (xs_if (xs_v fun hc => ⟨0, congrArg some hc⟩) (xs_if xs_n (xs_bd fun q3 => (xs_if (xs_if xs_n (xs_bd fun q4 => (xs_if xs_n (let u5 : mm_S := ((mm_ui q4.2.1 s.2.1 (Int32.toNatClampNeg s.2.2.1) ((q3.2.1 s.2.1 (Int32.toNatClampNeg s.2.2.1)) + q4.1)), q4.2.2); (kX4_findHeard_49 s.1 s.2.1 s.2.2.1 u5 oo))))) (xs_if xs_n (kX4_findHeard_49 s.1 s.2.1 s.2.2.1 ((mm_ui q3.2.1 s.2.1 (Int32.toNatClampNeg s.2.2.1) 10000), q3.2.2) oo))))))) 100000 (y1, y2, y3, z)
def sX4_findHeard_12 (y1 : Int32) (y2 : Nat) (z : mm_S) : Option (mm_S) := (sX4_findHeard_14 y1 y2 0 z)
theorem kX4_findHeard_12 (y1 : Int32) (y2 : Nat) (z : mm_S) (oo : mm_R) : mm_Xs (sX4_findHeard_12 y1 y2 z) (fun v => (fun v : mm_S => ((none, v) : mm_R)) v = oo) (fun n => eX4_findHeard_12 n y1 y2 z) oo :=
  xs_row (fun n => qX4_findHeard_12 n y1 y2 z) (kX4_findHeard_14 y1 y2 0 z oo)
def sX4_findHeard_0 (x1 : Int32) (x2 : Nat) (z : mm_S) : Option (mm_S) := (sX4_crewIs x1 1 z).bind fun q1 => (sX4_findTimes q1.1 1 x2 q1.2).bind fun q2 => (sX4_findHeard_12 x1 x2 q2)
theorem kX4_findHeard_0 (x1 : Int32) (x2 : Nat) (z : mm_S) (oo : mm_R) : mm_Xs (sX4_findHeard_0 x1 x2 z) (fun v => (fun v : mm_S => ((none, v) : mm_R)) v = oo) (fun n => eX4_findHeard_0 n x1 x2 z) oo :=
  xs_row (fun n => qX4_findHeard_0 n x1 x2 z) (xs_bd fun q1 => (xs_bd fun q2 => (kX4_findHeard_12 x1 x2 q2 oo)))
def sX4_findHeard (x1 : Int32) (x2 : Nat) (z : mm_S) : Option (mm_S) := sX4_findHeard_0 x1 x2 z
theorem sp_X4_findHeard (x1 : Int32) (x2 : Nat) (z : mm_S) (hk : ∀ v ∈ [mm_P 4 0, mm_I x1, mm_P 10 x2], mm_ok 22 lyTM 22 17 v) (q : mm_S) (hq : sX4_findHeard x1 x2 z = some q) : f_X4_findHeard [mm_P 4 0, mm_I x1, mm_P 10 x2] z (none, q) := ⟨Nat.le_of_ble_eq_true rfl, kX4_findHeard_0 x1 x2 z _ q hq rfl⟩
def clo_X4_findHeard (as : List mm_V) (z : mm_S) (kk : Option mm_V → mm_S → Option mm_R) : Option mm_R := mm_pr as fun t o0 as => bif Nat.beq t 4 then mm_pi as fun a1 as => mm_pr as fun t o2 as => bif Nat.beq t 10 then (match as with | [] => (sX4_findHeard a1 o2 z).bind fun q => kk none q | _ => none) else none else none
theorem cs_X4_findHeard : mm_cs lyTM 22 22 17 f_X4_findHeard clo_X4_findHeard := by
  intro as z K o hk h
  obtain ⟨t0, o0, r0, rfl, g0⟩ := mm_pr_e h
  obtain ⟨b0, k0⟩ := mm_bif_e g0
  obtain rfl := Nat.eq_of_beq_eq_true b0
  obtain ⟨a1, r1, rfl, g1⟩ := mm_pi_e k0
  obtain ⟨t2, o2, r2, rfl, g2⟩ := mm_pr_e g1
  obtain ⟨b2, k2⟩ := mm_bif_e g2
  obtain rfl := Nat.eq_of_beq_eq_true b2
  rcases r2 with _ | ⟨u, w⟩
  rotate_left
  · cases k2
  obtain rfl : o0 = 0 := ok4 (hk (mm_P 4 o0) (by simp))
  obtain ⟨q, hq, hq2⟩ := Option.bind_eq_some_iff.mp k2
  exact ⟨_, _, sp_X4_findHeard a1 o2 z hk q hq, (fun v hv => by cases hv), hq2⟩
theorem sV_X4_findHeard {own : String} {R : Room} {ar : Nat → Nat} {k : Nat} (hlink : Cond.methodLink own k yX4_findHeard ∈ lw_gd ∨ ∃ host, (own, k, yX4_findHeard, host) ∈ nmA) (har : ar k = 3) (hr : 4 ≤ R.frames ∧ 96 ≤ R.locals) : mm_okV lyTM lyFA lenM snM 22 22 17 roM rsA nfA nmA [] own R ar k clo_X4_findHeard := by
  refine ⟨yX4_findHeard, cX4_findHeard, 4, none, rm_X4_findHeard, f_X4_findHeard, 4, 2, (RX4, TX4, 36), M_X4_findHeard, cs_X4_findHeard, hlink, ⟨wv_X4_findHeard, wz_X4_findHeard, wi_X4_findHeard, wc_X4_findHeard⟩, ⟨by decide +kernel, by decide +kernel, by decide +kernel⟩, har, ⟨rfl, rfl, by decide⟩, ?_, ⟨rfl, rfl, hr.1, hr.2⟩⟩
  intro as z K o h
  obtain ⟨t0, o0, r0, rfl, g0⟩ := mm_pr_e h
  obtain ⟨b0, k0⟩ := mm_bif_e g0
  obtain rfl := Nat.eq_of_beq_eq_true b0
  exact ⟨_, _, rfl⟩
-- X4_reachOf
def lV_X4_reachOf : List (Nat × (List mm_V → mm_S → (Option mm_V → mm_S → Option mm_R) → Option mm_R)) := [(192, clo_X4_findHeard)]
def mV_X4_reachOf (k : Nat) (as : List mm_V) (z : mm_S) (kk : Option mm_V → mm_S → Option mm_R) : Option mm_R := match mm_at lV_X4_reachOf k with
  | some f => f as z kk
  | none => none
def arV_X4_reachOf (k : Nat) : Nat := (mm_at [(192, 3)] k).getD 0
def lS_X4_reachOf : List (Nat × (List mm_V → mm_S → (Option mm_V → mm_S → Option mm_R) → Option mm_R)) := []
def mS_X4_reachOf (k : Nat) (as : List mm_V) (z : mm_S) (kk : Option mm_V → mm_S → Option mm_R) : Option mm_R := match mm_at lS_X4_reachOf k with
  | some f => f as z kk
  | none => none
def arS_X4_reachOf (k : Nat) : Nat := (mm_at [] k).getD 0
def ct_X4_reachOf : List (Nat × List Nat) := [(9, [0]), (14, [0, 2, 4])]
def go_X4_reachOf : Nat → mm_K := mm_go (fun k => mm_at flX4 k) (fun k => mm_at clX4 k) (fun k => mm_at glX4 k) arV_X4_reachOf arS_X4_reachOf mV_X4_reachOf mS_X4_reachOf lenM roM snM 5 2 tbX4_reachOf ct_X4_reachOf
def eX4_reachOf_0 (n : Nat)  (x1 : Int32) (z : mm_S) : Option mm_R := go_X4_reachOf n 0 [(0, mm_P 4 0), (1, mm_I x1)] [] z
def eX4_reachOf_9 (n : Nat)  (z : mm_S) : Option mm_R := go_X4_reachOf n 9 [(0, mm_P 4 0)] [] z
def eX4_reachOf_14 (n : Nat)  (y2 : Int64) (y4 : Int32) (z : mm_S) : Option mm_R := go_X4_reachOf n 14 [(0, mm_P 4 0), (2, mm_J y2), (4, mm_I y4)] [] z
set_option maxRecDepth 100000 in
theorem qX4_reachOf_0 (n : Nat)  (x1 : Int32) (z : mm_S) : eX4_reachOf_0 (n + 1) x1 z = ((sX4_findHeard x1 7 z).bind fun q1 => eX4_reachOf_9 n  q1) := rfl
set_option maxRecDepth 100000 in
theorem qX4_reachOf_9 (n : Nat)  (z : mm_S) : eX4_reachOf_9 (n + 1)  z = (eX4_reachOf_14 n 0 0 z) := rfl
set_option maxRecDepth 100000 in
theorem qX4_reachOf_14 (n : Nat)  (y2 : Int64) (y4 : Int32) (z : mm_S) : eX4_reachOf_14 (n + 1) y2 y4 z = (if 36 ≤ y4 then some (some (mm_J y2), z) else if y4 < 0 ∨ 36 ≤ Int32.toNatClampNeg y4 then none else if 10000 ≤ (z.1 7 (Int32.toNatClampNeg y4)) then eX4_reachOf_14 n (y2 ||| 0) (y4 + 1) z else let v2 : Int64 := (y2 ||| (1 <<< (Int32.toInt64 y4 &&& 63))); eX4_reachOf_14 n v2 (y4 + 1) z) := rfl
def rm_X4_reachOf : Room := { frames := 4, cells := 0, slots := 0, locals := 96 }
def f_X4_reachOf (as : List mm_V) (z : mm_S) (o : mm_R) : Prop := (as.map mm_cat).sum ≤ 5 ∧ ∃ n, go_X4_reachOf n 0 (mm_ar 0 as) [] z = some o
theorem M_X4_reachOf : mm_M lyTM lyFA lenM snM 22 22 17 roM rsA nfA nmA [] yX4_reachOf cX4_reachOf 5 (some .long) rm_X4_reachOf f_X4_reachOf :=
  mm_met (rt := 2) (by decide +kernel) ⟨fun h => absurd h (by decide), fun h => absurd h (by decide), fun h => rfl, fun h => absurd h (by decide)⟩ tbX4_reachOf_ok hsnM okFX4 okLX4 (fun _ h => absurd h List.not_mem_nil) (fun _ _ _ _ => rfl) (fun _ _ _ _ => rfl) (List.forall_mem_cons.mpr ⟨sV_X4_findHeard (Or.inl lk_X4_192) rfl ⟨by decide, by decide⟩, fun _ h => absurd h List.not_mem_nil⟩) (fun _ h => absurd h List.not_mem_nil)
def lX4_reachOf_14 (s : Int64 × Int32 × mm_S) : Option ((Int64 × Int32 × mm_S) ⊕ (Int64 × mm_S)) := if 36 ≤ s.2.1 then some (.inr (s.1, s.2.2)) else if s.2.1 < 0 ∨ 36 ≤ Int32.toNatClampNeg s.2.1 then none else if 10000 ≤ (s.2.2.1 7 (Int32.toNatClampNeg s.2.1)) then some (.inl ((s.1 ||| 0), (s.2.1 + 1), s.2.2)) else let v2 : Int64 := (s.1 ||| (1 <<< (Int32.toInt64 s.2.1 &&& 63))); some (.inl (v2, (s.2.1 + 1), s.2.2))
def sX4_reachOf_14 (y2 : Int64) (y4 : Int32) (z : mm_S) : Option (Int64 × mm_S) := mm_wh (lX4_reachOf_14 ) 100000 (y2, y4, z)
theorem kX4_reachOf_14 (y2 : Int64) (y4 : Int32) (z : mm_S) (oo : mm_R) : mm_Xs (sX4_reachOf_14 y2 y4 z) (fun v => (fun v : Int64 × mm_S => ((some (mm_J v.1), v.2) : mm_R)) v = oo) (fun n => eX4_reachOf_14 n y2 y4 z) oo :=
  xs_wh (E := (fun (s : Int64 × Int32 × mm_S) n => eX4_reachOf_14 n s.1 s.2.1 s.2.2)) (C := (fun v => (fun v : Int64 × mm_S => ((some (mm_J v.1), v.2) : mm_R)) v = oo)) (fun s => xs_row (fun n => qX4_reachOf_14 n s.1 s.2.1 s.2.2) (xs_if (xs_v fun hc => ⟨0, congrArg some hc⟩) (xs_if xs_n (xs_if (xs_v fun hc => hc) (let v2 : Int64 := (s.1 ||| (1 <<< (Int32.toInt64 s.2.1 &&& 63))); (xs_v fun hc => hc)))))) 100000 (y2, y4, z)
def sX4_reachOf_9  (z : mm_S) : Option (Int64 × mm_S) := (sX4_reachOf_14 0 0 z)
theorem kX4_reachOf_9  (z : mm_S) (oo : mm_R) : mm_Xs (sX4_reachOf_9  z) (fun v => (fun v : Int64 × mm_S => ((some (mm_J v.1), v.2) : mm_R)) v = oo) (fun n => eX4_reachOf_9 n  z) oo :=
  xs_row (fun n => qX4_reachOf_9 n z) (kX4_reachOf_14 0 0 z oo)
def sX4_reachOf_0 (x1 : Int32) (z : mm_S) : Option (Int64 × mm_S) := (sX4_findHeard x1 7 z).bind fun q1 => (sX4_reachOf_9 q1)
theorem kX4_reachOf_0 (x1 : Int32) (z : mm_S) (oo : mm_R) : mm_Xs (sX4_reachOf_0 x1 z) (fun v => (fun v : Int64 × mm_S => ((some (mm_J v.1), v.2) : mm_R)) v = oo) (fun n => eX4_reachOf_0 n x1 z) oo :=
  xs_row (fun n => qX4_reachOf_0 n x1 z) (xs_bd fun q1 => (kX4_reachOf_9 q1 oo))
def sX4_reachOf (x1 : Int32) (z : mm_S) : Option (Int64 × mm_S) := sX4_reachOf_0 x1 z
theorem sp_X4_reachOf (x1 : Int32) (z : mm_S) (hk : ∀ v ∈ [mm_P 4 0, mm_I x1], mm_ok 22 lyTM 22 17 v) (q : Int64 × mm_S) (hq : sX4_reachOf x1 z = some q) : f_X4_reachOf [mm_P 4 0, mm_I x1] z (some (mm_J q.1), q.2) := ⟨Nat.le_of_ble_eq_true rfl, kX4_reachOf_0 x1 z _ q hq rfl⟩
def clo_X4_reachOf (as : List mm_V) (z : mm_S) (kk : Option mm_V → mm_S → Option mm_R) : Option mm_R := mm_pr as fun t o0 as => bif Nat.beq t 4 then mm_pi as fun a1 as => (match as with | [] => (sX4_reachOf a1 z).bind fun q => kk (some (mm_J q.1)) q.2 | _ => none) else none
theorem cs_X4_reachOf : mm_cs lyTM 22 22 17 f_X4_reachOf clo_X4_reachOf := by
  intro as z K o hk h
  obtain ⟨t0, o0, r0, rfl, g0⟩ := mm_pr_e h
  obtain ⟨b0, k0⟩ := mm_bif_e g0
  obtain rfl := Nat.eq_of_beq_eq_true b0
  obtain ⟨a1, r1, rfl, g1⟩ := mm_pi_e k0
  rcases r1 with _ | ⟨u, w⟩
  rotate_left
  · cases g1
  obtain rfl : o0 = 0 := ok4 (hk (mm_P 4 o0) (by simp))
  obtain ⟨q, hq, hq2⟩ := Option.bind_eq_some_iff.mp g1
  exact ⟨_, _, sp_X4_reachOf a1 z hk q hq, fun v hv => by cases hv; exact Or.inr ⟨_, rfl⟩, hq2⟩
theorem sV_X4_reachOf {own : String} {R : Room} {ar : Nat → Nat} {k : Nat} (hlink : Cond.methodLink own k yX4_reachOf ∈ lw_gd ∨ ∃ host, (own, k, yX4_reachOf, host) ∈ nmA) (har : ar k = 2) (hr : 5 ≤ R.frames ∧ 120 ≤ R.locals) : mm_okV lyTM lyFA lenM snM 22 22 17 roM rsA nfA nmA [] own R ar k clo_X4_reachOf := by
  refine ⟨yX4_reachOf, cX4_reachOf, 5, some .long, rm_X4_reachOf, f_X4_reachOf, 4, 1, (RX4, TX4, 36), M_X4_reachOf, cs_X4_reachOf, hlink, ⟨wv_X4_reachOf, wz_X4_reachOf, wi_X4_reachOf, wc_X4_reachOf⟩, ⟨by decide +kernel, by decide +kernel, by decide +kernel⟩, har, ⟨rfl, rfl, by decide⟩, ?_, ⟨rfl, rfl, hr.1, hr.2⟩⟩
  intro as z K o h
  obtain ⟨t0, o0, r0, rfl, g0⟩ := mm_pr_e h
  obtain ⟨b0, k0⟩ := mm_bif_e g0
  obtain rfl := Nat.eq_of_beq_eq_true b0
  exact ⟨_, _, rfl⟩
