-- X0_unlikeCells
noncomputable def lV_X0_unlikeCells : List (Nat × (List mm_V → mm_S → (Option mm_V → mm_S → Option mm_R) → Option mm_R)) := [(132, clo_X1_stuffAt)]
noncomputable def mV_X0_unlikeCells (k : Nat) (as : List mm_V) (z : mm_S) (kk : Option mm_V → mm_S → Option mm_R) : Option mm_R := match mm_at lV_X0_unlikeCells k with
  | some f => f as z kk
  | none => none
noncomputable def arV_X0_unlikeCells (k : Nat) : Nat := (mm_at [(132, 2)] k).getD 0
noncomputable def lS_X0_unlikeCells : List (Nat × (List mm_V → mm_S → (Option mm_V → mm_S → Option mm_R) → Option mm_R)) := [(77, clo_X3_at)]
noncomputable def mS_X0_unlikeCells (k : Nat) (as : List mm_V) (z : mm_S) (kk : Option mm_V → mm_S → Option mm_R) : Option mm_R := match mm_at lS_X0_unlikeCells k with
  | some f => f as z kk
  | none => none
noncomputable def arS_X0_unlikeCells (k : Nat) : Nat := (mm_at [(77, 2)] k).getD 0
def ct_X0_unlikeCells : List (Nat × List Nat) := [(4, [0, 1, 2, 3]), (31, [0, 1, 2, 3, 4]), (40, [0, 1, 2, 3])]
noncomputable def go_X0_unlikeCells : Nat → mm_K := mm_go (fun k => mm_at flX0 k) (fun k => mm_at clX0 k) (fun k => mm_at glX0 k) arV_X0_unlikeCells arS_X0_unlikeCells mV_X0_unlikeCells mS_X0_unlikeCells lenX roX snX 5 0 tbX0_unlikeCells ct_X0_unlikeCells
noncomputable def eX0_unlikeCells_0 (n : Nat) (o : Nat) (x1 : Nat) (z : mm_S) : Option mm_R := go_X0_unlikeCells n 0 [(0, mm_P 0 o), (1, mm_P 0 x1)] [] z
noncomputable def eX0_unlikeCells_4 (n : Nat) (o : Nat) (y1 : Nat) (y2 : Int32) (y3 : Int32) (z : mm_S) : Option mm_R := go_X0_unlikeCells n 4 [(0, mm_P 0 o), (1, mm_P 0 y1), (2, mm_I y2), (3, mm_I y3)] [] z
noncomputable def eX0_unlikeCells_31 (n : Nat) (o : Nat) (y1 : Nat) (y2 : Int32) (y3 : Int32) (y4 : Int32) (w0 : Int32) (z : mm_S) : Option mm_R := go_X0_unlikeCells n 31 [(0, mm_P 0 o), (1, mm_P 0 y1), (2, mm_I y2), (3, mm_I y3), (4, mm_I y4)] [mm_I w0] z
noncomputable def eX0_unlikeCells_40 (n : Nat) (o : Nat) (y1 : Nat) (y2 : Int32) (y3 : Int32) (w0 : Int32) (w1 : Int32) (z : mm_S) : Option mm_R := go_X0_unlikeCells n 40 [(0, mm_P 0 o), (1, mm_P 0 y1), (2, mm_I y2), (3, mm_I y3)] [mm_I w0, mm_I w1] z
set_option maxRecDepth 100000 in
theorem qX0_unlikeCells_0_1 (n : Nat)  (x1 : Nat) (z : mm_S) : eX0_unlikeCells_0 (n + 1) 1 x1 z = (eX0_unlikeCells_4 n 1 x1 0 0 z) := rfl
set_option maxRecDepth 100000 in
theorem qX0_unlikeCells_4_1 (n : Nat)  (y1 : Nat) (y2 : Int32) (y3 : Int32) (z : mm_S) : eX0_unlikeCells_4 (n + 1) 1 y1 y2 y3 z = (if (z.1 1 6) ≤ y3 then some (some (mm_I y2), z) else eX0_unlikeCells_31 n 1 y1 y2 y3 (pX3_at 8 y3 z) (pX1_stuffAt 2 (pX3_at 8 y3 z) z) z) := rfl
set_option maxRecDepth 100000 in
theorem qX0_unlikeCells_31_1 (n : Nat)  (y1 : Nat) (y2 : Int32) (y3 : Int32) (y4 : Int32) (w0 : Int32) (z : mm_S) : eX0_unlikeCells_31 (n + 1) 1 y1 y2 y3 y4 w0 z = (eX0_unlikeCells_40 n 1 y1 y2 y3 (pX1_stuffAt (y1 + 1) y4 z) w0 z) := rfl
set_option maxRecDepth 100000 in
theorem qX0_unlikeCells_40_1 (n : Nat)  (y1 : Nat) (y2 : Int32) (y3 : Int32) (w0 : Int32) (w1 : Int32) (z : mm_S) : eX0_unlikeCells_40 (n + 1) 1 y1 y2 y3 w0 w1 z = (if w1 = w0 then eX0_unlikeCells_4 n 1 y1 y2 (y3 + 1) z else eX0_unlikeCells_4 n 1 y1 (y2 + 1) (y3 + 1) z) := rfl
set_option maxRecDepth 100000 in
theorem qX0_unlikeCells_0_13 (n : Nat)  (x1 : Nat) (z : mm_S) : eX0_unlikeCells_0 (n + 1) 13 x1 z = (eX0_unlikeCells_4 n 13 x1 0 0 z) := rfl
set_option maxRecDepth 100000 in
theorem qX0_unlikeCells_4_13 (n : Nat)  (y1 : Nat) (y2 : Int32) (y3 : Int32) (z : mm_S) : eX0_unlikeCells_4 (n + 1) 13 y1 y2 y3 z = (if (z.1 13 6) ≤ y3 then some (some (mm_I y2), z) else eX0_unlikeCells_31 n 13 y1 y2 y3 (pX3_at 20 y3 z) (pX1_stuffAt 14 (pX3_at 20 y3 z) z) z) := rfl
set_option maxRecDepth 100000 in
theorem qX0_unlikeCells_31_13 (n : Nat)  (y1 : Nat) (y2 : Int32) (y3 : Int32) (y4 : Int32) (w0 : Int32) (z : mm_S) : eX0_unlikeCells_31 (n + 1) 13 y1 y2 y3 y4 w0 z = (eX0_unlikeCells_40 n 13 y1 y2 y3 (pX1_stuffAt (y1 + 1) y4 z) w0 z) := rfl
set_option maxRecDepth 100000 in
theorem qX0_unlikeCells_40_13 (n : Nat)  (y1 : Nat) (y2 : Int32) (y3 : Int32) (w0 : Int32) (w1 : Int32) (z : mm_S) : eX0_unlikeCells_40 (n + 1) 13 y1 y2 y3 w0 w1 z = (if w1 = w0 then eX0_unlikeCells_4 n 13 y1 y2 (y3 + 1) z else eX0_unlikeCells_4 n 13 y1 (y2 + 1) (y3 + 1) z) := rfl
set_option maxRecDepth 100000 in
theorem qX0_unlikeCells_0_25 (n : Nat)  (x1 : Nat) (z : mm_S) : eX0_unlikeCells_0 (n + 1) 25 x1 z = (eX0_unlikeCells_4 n 25 x1 0 0 z) := rfl
set_option maxRecDepth 100000 in
theorem qX0_unlikeCells_4_25 (n : Nat)  (y1 : Nat) (y2 : Int32) (y3 : Int32) (z : mm_S) : eX0_unlikeCells_4 (n + 1) 25 y1 y2 y3 z = (if (z.1 25 6) ≤ y3 then some (some (mm_I y2), z) else eX0_unlikeCells_31 n 25 y1 y2 y3 (pX3_at 32 y3 z) (pX1_stuffAt 26 (pX3_at 32 y3 z) z) z) := rfl
set_option maxRecDepth 100000 in
theorem qX0_unlikeCells_31_25 (n : Nat)  (y1 : Nat) (y2 : Int32) (y3 : Int32) (y4 : Int32) (w0 : Int32) (z : mm_S) : eX0_unlikeCells_31 (n + 1) 25 y1 y2 y3 y4 w0 z = (eX0_unlikeCells_40 n 25 y1 y2 y3 (pX1_stuffAt (y1 + 1) y4 z) w0 z) := rfl
set_option maxRecDepth 100000 in
theorem qX0_unlikeCells_40_25 (n : Nat)  (y1 : Nat) (y2 : Int32) (y3 : Int32) (w0 : Int32) (w1 : Int32) (z : mm_S) : eX0_unlikeCells_40 (n + 1) 25 y1 y2 y3 w0 w1 z = (if w1 = w0 then eX0_unlikeCells_4 n 25 y1 y2 (y3 + 1) z else eX0_unlikeCells_4 n 25 y1 (y2 + 1) (y3 + 1) z) := rfl
def rm_X0_unlikeCells : Room := { frames := 2, cells := 0, slots := 0, locals := 44 }
noncomputable def f_X0_unlikeCells (as : List mm_V) (z : mm_S) (o : mm_R) : Prop := (as.map mm_cat).sum ≤ 5 ∧ ∃ n, go_X0_unlikeCells n 0 (mm_ar 0 as) [] z = some o
theorem M_X0_unlikeCells : mm_M lyTX lyFA lenX snX 46 48 17 roX rsA nfA nmA ssX yX0_unlikeCells cX0_unlikeCells 5 (some .int) rm_X0_unlikeCells f_X0_unlikeCells :=
  mm_met (rt := 0) (by decide +kernel) ⟨fun h => rfl, fun h => absurd h (by decide), fun h => absurd h (by decide), fun h => absurd h (by decide)⟩ tbX0_unlikeCells_ok hsnX okFX0 okLX0 okGX0 (fun _ _ _ _ => rfl) (fun _ _ _ _ => rfl) (List.forall_mem_cons.mpr ⟨sV_X1_stuffAt (Or.inl lk_X0_132) rfl ⟨by decide, by decide⟩, fun _ h => absurd h List.not_mem_nil⟩) (List.forall_mem_cons.mpr ⟨sS_X3_at (Or.inr ⟨_, ln_X0_77⟩) rfl ⟨by decide, by decide⟩, fun _ h => absurd h List.not_mem_nil⟩)
noncomputable def sX0_unlikeCells_40 (o : Nat) (y1 : Nat) (y2 : Int32) (y3 : Int32) (w0 : Int32) (w1 : Int32) (z : mm_S) : Option ((Nat × Int32 × Int32 × mm_S) ⊕ (Int32 × mm_S)) := if w1 = w0 then some (.inl (y1, y2, (y3 + 1), z)) else some (.inl (y1, (y2 + 1), (y3 + 1), z))
theorem kX0_unlikeCells_40 (o : Nat) (hk : mm_ok 46 lyTX 48 17 (mm_P 0 o)) (y1 : Nat) (y2 : Int32) (y3 : Int32) (w0 : Int32) (w1 : Int32) (z : mm_S) (oo : mm_R) : mm_Xs (sX0_unlikeCells_40 o y1 y2 y3 w0 w1 z) (mm_mt (fun x : Nat × Int32 × Int32 × mm_S => ∃ n, eX0_unlikeCells_4 n o x.1 x.2.1 x.2.2.1 x.2.2.2 = some oo) (fun v => (fun v : Int32 × mm_S => ((some (mm_I v.1), v.2) : mm_R)) v = oo)) (fun n => eX0_unlikeCells_40 n o y1 y2 y3 w0 w1 z) oo :=
  xs_row (T := fun n => if w1 = w0 then eX0_unlikeCells_4 n o y1 y2 (y3 + 1) z else eX0_unlikeCells_4 n o y1 (y2 + 1) (y3 + 1) z) (by rcases ok0 hk with rfl | rfl | rfl; exact fun n => qX0_unlikeCells_40_1 n y1 y2 y3 w0 w1 z; exact fun n => qX0_unlikeCells_40_13 n y1 y2 y3 w0 w1 z; exact fun n => qX0_unlikeCells_40_25 n y1 y2 y3 w0 w1 z) (xs_if (xs_v fun hc => hc) (xs_v fun hc => hc))
noncomputable def sX0_unlikeCells_31 (o : Nat) (y1 : Nat) (y2 : Int32) (y3 : Int32) (y4 : Int32) (w0 : Int32) (z : mm_S) : Option ((Nat × Int32 × Int32 × mm_S) ⊕ (Int32 × mm_S)) := (sX0_unlikeCells_40 o y1 y2 y3 (pX1_stuffAt (y1 + 1) y4 z) w0 z)
theorem kX0_unlikeCells_31 (o : Nat) (hk : mm_ok 46 lyTX 48 17 (mm_P 0 o)) (y1 : Nat) (y2 : Int32) (y3 : Int32) (y4 : Int32) (w0 : Int32) (z : mm_S) (oo : mm_R) : mm_Xs (sX0_unlikeCells_31 o y1 y2 y3 y4 w0 z) (mm_mt (fun x : Nat × Int32 × Int32 × mm_S => ∃ n, eX0_unlikeCells_4 n o x.1 x.2.1 x.2.2.1 x.2.2.2 = some oo) (fun v => (fun v : Int32 × mm_S => ((some (mm_I v.1), v.2) : mm_R)) v = oo)) (fun n => eX0_unlikeCells_31 n o y1 y2 y3 y4 w0 z) oo :=
  xs_row (T := fun n => eX0_unlikeCells_40 n o y1 y2 y3 (pX1_stuffAt (y1 + 1) y4 z) w0 z) (by rcases ok0 hk with rfl | rfl | rfl; exact fun n => qX0_unlikeCells_31_1 n y1 y2 y3 y4 w0 z; exact fun n => qX0_unlikeCells_31_13 n y1 y2 y3 y4 w0 z; exact fun n => qX0_unlikeCells_31_25 n y1 y2 y3 y4 w0 z) (kX0_unlikeCells_40 o hk y1 y2 y3 (pX1_stuffAt (y1 + 1) y4 z) w0 z oo)
noncomputable def lX0_unlikeCells_4 (o : Nat) (s : Nat × Int32 × Int32 × mm_S) : Option ((Nat × Int32 × Int32 × mm_S) ⊕ (Int32 × mm_S)) := if (s.2.2.2.1 o 6) ≤ s.2.2.1 then some (.inr (s.2.1, s.2.2.2)) else (sX0_unlikeCells_31 o s.1 s.2.1 s.2.2.1 (pX3_at (o + 7) s.2.2.1 s.2.2.2) (pX1_stuffAt (o + 1) (pX3_at (o + 7) s.2.2.1 s.2.2.2) s.2.2.2) s.2.2.2)
noncomputable def sX0_unlikeCells_4 (o : Nat) (y1 : Nat) (y2 : Int32) (y3 : Int32) (z : mm_S) : Option (Int32 × mm_S) := mm_wh (lX0_unlikeCells_4 o ) mm_fu (y1, y2, y3, z)
theorem kX0_unlikeCells_4 (o : Nat) (hk : mm_ok 46 lyTX 48 17 (mm_P 0 o)) (y1 : Nat) (y2 : Int32) (y3 : Int32) (z : mm_S) (oo : mm_R) : mm_Xs (sX0_unlikeCells_4 o y1 y2 y3 z) (fun v => (fun v : Int32 × mm_S => ((some (mm_I v.1), v.2) : mm_R)) v = oo) (fun n => eX0_unlikeCells_4 n o y1 y2 y3 z) oo :=
  xs_wh (stp := lX0_unlikeCells_4 o ) (o := oo) (E := (fun (s : Nat × Int32 × Int32 × mm_S) n => eX0_unlikeCells_4 n o s.1 s.2.1 s.2.2.1 s.2.2.2)) (C := (fun v => (fun v : Int32 × mm_S => ((some (mm_I v.1), v.2) : mm_R)) v = oo)) (fun s => xs_row (T := fun n => if (s.2.2.2.1 o 6) ≤ s.2.2.1 then some (some (mm_I s.2.1), s.2.2.2) else eX0_unlikeCells_31 n o s.1 s.2.1 s.2.2.1 (pX3_at (o + 7) s.2.2.1 s.2.2.2) (pX1_stuffAt (o + 1) (pX3_at (o + 7) s.2.2.1 s.2.2.2) s.2.2.2) s.2.2.2) (by rcases ok0 hk with rfl | rfl | rfl; exact fun n => qX0_unlikeCells_4_1 n s.1 s.2.1 s.2.2.1 s.2.2.2; exact fun n => qX0_unlikeCells_4_13 n s.1 s.2.1 s.2.2.1 s.2.2.2; exact fun n => qX0_unlikeCells_4_25 n s.1 s.2.1 s.2.2.1 s.2.2.2) (xs_if (xs_v fun hc => ⟨0, congrArg some hc⟩) (kX0_unlikeCells_31 o hk s.1 s.2.1 s.2.2.1 (pX3_at (o + 7) s.2.2.1 s.2.2.2) (pX1_stuffAt (o + 1) (pX3_at (o + 7) s.2.2.1 s.2.2.2) s.2.2.2) s.2.2.2 oo))) mm_fu (y1, y2, y3, z)
noncomputable def sX0_unlikeCells_0 (o : Nat) (x1 : Nat) (z : mm_S) : Option (Int32 × mm_S) := (sX0_unlikeCells_4 o x1 0 0 z)
theorem kX0_unlikeCells_0 (o : Nat) (hk : mm_ok 46 lyTX 48 17 (mm_P 0 o)) (x1 : Nat) (z : mm_S) (oo : mm_R) : mm_Xs (sX0_unlikeCells_0 o x1 z) (fun v => (fun v : Int32 × mm_S => ((some (mm_I v.1), v.2) : mm_R)) v = oo) (fun n => eX0_unlikeCells_0 n o x1 z) oo :=
  xs_row (T := fun n => eX0_unlikeCells_4 n o x1 0 0 z) (by rcases ok0 hk with rfl | rfl | rfl; exact fun n => qX0_unlikeCells_0_1 n x1 z; exact fun n => qX0_unlikeCells_0_13 n x1 z; exact fun n => qX0_unlikeCells_0_25 n x1 z) (kX0_unlikeCells_4 o hk x1 0 0 z oo)
noncomputable def sX0_unlikeCells (o : Nat) (x1 : Nat) (z : mm_S) : Option (Int32 × mm_S) := sX0_unlikeCells_0 o x1 z
theorem sp_X0_unlikeCells (o : Nat) (x1 : Nat) (z : mm_S) (hk : ∀ v ∈ [mm_P 0 o, mm_P 0 x1], mm_ok 46 lyTX 48 17 v) (q : Int32 × mm_S) (hq : sX0_unlikeCells o x1 z = some q) : f_X0_unlikeCells [mm_P 0 o, mm_P 0 x1] z (some (mm_I q.1), q.2) := ⟨Nat.le_of_ble_eq_true rfl, kX0_unlikeCells_0 o (hk (mm_P 0 o) (by simp)) x1 z _ q hq rfl⟩
noncomputable def clo_X0_unlikeCells (as : List mm_V) (z : mm_S) (kk : Option mm_V → mm_S → Option mm_R) : Option mm_R := mm_pr as fun t o0 as => bif Nat.beq t 0 then mm_pr as fun t o1 as => bif Nat.beq t 0 then (match as with | [] => (sX0_unlikeCells o0 o1 z).bind fun q => kk (some (mm_I q.1)) q.2 | _ => none) else none else none
theorem cs_X0_unlikeCells : mm_cs lyTX 46 48 17 f_X0_unlikeCells clo_X0_unlikeCells := by
  intro as z K o hk h
  obtain ⟨t0, o0, r0, rfl, g0⟩ := mm_pr_e h
  obtain ⟨b0, k0⟩ := mm_bif_e g0
  obtain rfl := Nat.eq_of_beq_eq_true b0
  obtain ⟨t1, o1, r1, rfl, g1⟩ := mm_pr_e k0
  obtain ⟨b1, k1⟩ := mm_bif_e g1
  obtain rfl := Nat.eq_of_beq_eq_true b1
  rcases r1 with _ | ⟨u, w⟩
  rotate_left
  · cases k1
  obtain ⟨q, hq, hq2⟩ := Option.bind_eq_some_iff.mp k1
  exact ⟨_, _, sp_X0_unlikeCells o0 o1 z hk q hq, fun v hv => by cases hv; exact Or.inl ⟨_, rfl⟩, hq2⟩
theorem sV_X0_unlikeCells {own : String} {R : Room} {ar : Nat → Nat} {k : Nat} (hlink : Cond.methodLink own k yX0_unlikeCells ∈ lw_gd ∨ ∃ host, (own, k, yX0_unlikeCells, host) ∈ nmA) (har : ar k = 2) (hr : 3 ≤ R.frames ∧ 68 ≤ R.locals) : mm_okV lyTX lyFA lenX snX 46 48 17 roX rsA nfA nmA ssX own R ar k clo_X0_unlikeCells := by
  refine ⟨yX0_unlikeCells, cX0_unlikeCells, 5, some .int, rm_X0_unlikeCells, f_X0_unlikeCells, 0, 1, (RX0, TX0, 14), M_X0_unlikeCells, cs_X0_unlikeCells, hlink, ⟨wv_X0_unlikeCells, wz_X0_unlikeCells, wi_X0_unlikeCells, wc_X0_unlikeCells⟩, ⟨by decide +kernel, by decide +kernel, by decide +kernel⟩, har, ⟨rfl, rfl, by decide⟩, ?_, ⟨rfl, rfl, hr.1, hr.2⟩⟩
  intro as z K o h
  obtain ⟨t0, o0, r0, rfl, g0⟩ := mm_pr_e h
  obtain ⟨b0, k0⟩ := mm_bif_e g0
  obtain rfl := Nat.eq_of_beq_eq_true b0
  exact ⟨_, _, rfl⟩
