-- X2_isWord
noncomputable def lV_X2_isWord : List (Nat × (List mm_V → mm_S → (Option mm_V → mm_S → Option mm_R) → Option mm_R)) := [(143, clo_J0_length_8abf5), (151, clo_J0_charAt_5068e)]
noncomputable def mV_X2_isWord (k : Nat) (as : List mm_V) (z : mm_S) (kk : Option mm_V → mm_S → Option mm_R) : Option mm_R := match mm_at lV_X2_isWord k with
  | some f => f as z kk
  | none => none
noncomputable def arV_X2_isWord (k : Nat) : Nat := (mm_at [(143, 1), (151, 2)] k).getD 0
noncomputable def lS_X2_isWord : List (Nat × (List mm_V → mm_S → (Option mm_V → mm_S → Option mm_R) → Option mm_R)) := [(148, clo_X3_at)]
noncomputable def mS_X2_isWord (k : Nat) (as : List mm_V) (z : mm_S) (kk : Option mm_V → mm_S → Option mm_R) : Option mm_R := match mm_at lS_X2_isWord k with
  | some f => f as z kk
  | none => none
noncomputable def arS_X2_isWord (k : Nat) : Nat := (mm_at [(148, 2)] k).getD 0
def ct_X2_isWord : List (Nat × List Nat) := [(28, [0, 1, 2]), (57, [])]
noncomputable def go_X2_isWord : Nat → mm_K := mm_go (fun k => mm_at flX2 k) (fun k => mm_at clX2 k) (fun k => mm_at glX2 k) arV_X2_isWord arS_X2_isWord mV_X2_isWord mS_X2_isWord lenX roX snX 3 1 tbX2_isWord ct_X2_isWord
noncomputable def eX2_isWord_0 (n : Nat)  (x1 : Nat) (z : mm_S) : Option mm_R := go_X2_isWord n 0 [(0, mm_P 2 37), (1, mm_P 20 x1)] [] z
noncomputable def eX2_isWord_28 (n : Nat)  (y1 : Nat) (y2 : Int32) (z : mm_S) : Option mm_R := go_X2_isWord n 28 [(0, mm_P 2 37), (1, mm_P 20 y1), (2, mm_I y2)] [] z
noncomputable def eX2_isWord_57 (n : Nat)  (z : mm_S) : Option mm_R := go_X2_isWord n 57 [] [] z
set_option maxRecDepth 100000 in
theorem qX2_isWord_0 (n : Nat)  (x1 : Nat) (z : mm_S) : eX2_isWord_0 (n + 1) x1 z = (if (z.1 37 2) = 1 then if ((z.1 37 4) - (z.1 37 3)) = (tx_len x1) then eX2_isWord_28 n x1 0 z else some (some (mm_I 0), z) else some (some (mm_I 0), z)) := rfl
set_option maxRecDepth 100000 in
theorem qX2_isWord_28 (n : Nat)  (y1 : Nat) (y2 : Int32) (z : mm_S) : eX2_isWord_28 (n + 1) y1 y2 z = (if (tx_len y1) ≤ y2 then some (some (mm_I 1), z) else (tx_at y1 y2 z).bind fun q1 => if (pX3_at 38 ((z.1 37 3) + y2) z) = q1.1 then eX2_isWord_28 n y1 (y2 + 1) q1.2 else eX2_isWord_57 n  q1.2) := rfl
set_option maxRecDepth 100000 in
theorem qX2_isWord_57 (n : Nat)  (z : mm_S) : eX2_isWord_57 (n + 1)  z = (some (some (mm_I 0), z)) := rfl
def rm_X2_isWord : Room := { frames := 4, cells := 0, slots := 0, locals := 85 }
noncomputable def f_X2_isWord (as : List mm_V) (z : mm_S) (o : mm_R) : Prop := (as.map mm_cat).sum ≤ 3 ∧ ∃ n, go_X2_isWord n 0 (mm_ar 0 as) [] z = some o
theorem M_X2_isWord : mm_M lyTX lyFA lenX snX 46 48 17 roX rsA nfA nmA ssX yX2_isWord cX2_isWord 3 (some .boolean) rm_X2_isWord f_X2_isWord :=
  mm_mett (rt := 1) (by decide +kernel) ⟨fun h => absurd h (by decide), fun h => rfl, fun h => absurd h (by decide), fun h => absurd h (by decide)⟩ tbX2_isWord_ok hsnX okFX2 okLX2 okGX2 (fun _ _ _ _ => rfl) (fun _ _ _ _ => rfl) (List.forall_mem_cons.mpr ⟨Or.inr (sT_J0_length_8abf5 lk_X2_143 rfl ⟨by decide, by decide⟩), List.forall_mem_cons.mpr ⟨Or.inr (sT_J0_charAt_5068e lk_X2_151 rfl ⟨by decide, by decide⟩), fun _ h => absurd h List.not_mem_nil⟩⟩) (List.forall_mem_cons.mpr ⟨sS_X3_at (Or.inr ⟨_, ln_X2_148⟩) rfl ⟨by decide, by decide⟩, fun _ h => absurd h List.not_mem_nil⟩)
noncomputable def sX2_isWord_57  (z : mm_S) : Option (Int32 × mm_S) := some (0, z)
theorem kX2_isWord_57  (z : mm_S) (oo : mm_R) : mm_Xs (sX2_isWord_57  z) (fun v => (fun v : Int32 × mm_S => ((some (mm_I v.1), v.2) : mm_R)) v = oo) (fun n => eX2_isWord_57 n  z) oo :=
  xs_row (fun n => qX2_isWord_57 n z) (xs_v fun hc => ⟨0, congrArg some hc⟩)
noncomputable def lX2_isWord_28 (s : Nat × Int32 × mm_S) : Option ((Nat × Int32 × mm_S) ⊕ (Int32 × mm_S)) := if (tx_len s.1) ≤ s.2.1 then some (.inr (1, s.2.2)) else (tx_at s.1 s.2.1 s.2.2).bind fun q1 => if (pX3_at 38 ((s.2.2.1 37 3) + s.2.1) s.2.2) = q1.1 then some (.inl (s.1, (s.2.1 + 1), q1.2)) else ((sX2_isWord_57 q1.2).map fun w => (Sum.inr w))
noncomputable def sX2_isWord_28 (y1 : Nat) (y2 : Int32) (z : mm_S) : Option (Int32 × mm_S) := mm_wh (lX2_isWord_28 ) mm_fu (y1, y2, z)
theorem kX2_isWord_28 (y1 : Nat) (y2 : Int32) (z : mm_S) (oo : mm_R) : mm_Xs (sX2_isWord_28 y1 y2 z) (fun v => (fun v : Int32 × mm_S => ((some (mm_I v.1), v.2) : mm_R)) v = oo) (fun n => eX2_isWord_28 n y1 y2 z) oo :=
  xs_wh (stp := lX2_isWord_28 ) (o := oo) (E := (fun (s : Nat × Int32 × mm_S) n => eX2_isWord_28 n s.1 s.2.1 s.2.2)) (C := (fun v => (fun v : Int32 × mm_S => ((some (mm_I v.1), v.2) : mm_R)) v = oo)) (fun s => xs_row (fun n => qX2_isWord_28 n s.1 s.2.1 s.2.2) (xs_if (xs_v fun hc => ⟨0, congrArg some hc⟩) (xs_bd fun q1 => (xs_if (xs_v fun hc => hc) (xs_map (f := fun w => (Sum.inr w)) (kX2_isWord_57 q1.2 oo) (fun _ h => h)))))) mm_fu (y1, y2, z)
noncomputable def sX2_isWord_0 (x1 : Nat) (z : mm_S) : Option (Int32 × mm_S) := if (z.1 37 2) = 1 then if ((z.1 37 4) - (z.1 37 3)) = (tx_len x1) then (sX2_isWord_28 x1 0 z) else some (0, z) else some (0, z)
theorem kX2_isWord_0 (x1 : Nat) (z : mm_S) (oo : mm_R) : mm_Xs (sX2_isWord_0 x1 z) (fun v => (fun v : Int32 × mm_S => ((some (mm_I v.1), v.2) : mm_R)) v = oo) (fun n => eX2_isWord_0 n x1 z) oo :=
  xs_row (fun n => qX2_isWord_0 n x1 z) (xs_if (xs_if (kX2_isWord_28 x1 0 z oo) (xs_v fun hc => ⟨0, congrArg some hc⟩)) (xs_v fun hc => ⟨0, congrArg some hc⟩))
noncomputable def sX2_isWord (x1 : Nat) (z : mm_S) : Option (Int32 × mm_S) := sX2_isWord_0 x1 z
theorem sp_X2_isWord (x1 : Nat) (z : mm_S) (hk : ∀ v ∈ [mm_P 2 37, mm_P 20 x1], mm_ok 46 lyTX 48 17 v) (q : Int32 × mm_S) (hq : sX2_isWord x1 z = some q) : f_X2_isWord [mm_P 2 37, mm_P 20 x1] z (some (mm_I q.1), q.2) := ⟨Nat.le_of_ble_eq_true rfl, kX2_isWord_0 x1 z _ q hq rfl⟩
noncomputable def clo_X2_isWord (as : List mm_V) (z : mm_S) (kk : Option mm_V → mm_S → Option mm_R) : Option mm_R := mm_pr as fun t o0 as => bif Nat.beq t 2 then mm_pr as fun t o1 as => bif Nat.beq t 20 then (match as with | [] => (sX2_isWord o1 z).bind fun q => kk (some (mm_I q.1)) q.2 | _ => none) else none else none
theorem cs_X2_isWord : mm_cs lyTX 46 48 17 f_X2_isWord clo_X2_isWord := by
  intro as z K o hk h
  obtain ⟨t0, o0, r0, rfl, g0⟩ := mm_pr_e h
  obtain ⟨b0, k0⟩ := mm_bif_e g0
  obtain rfl := Nat.eq_of_beq_eq_true b0
  obtain ⟨t1, o1, r1, rfl, g1⟩ := mm_pr_e k0
  obtain ⟨b1, k1⟩ := mm_bif_e g1
  obtain rfl := Nat.eq_of_beq_eq_true b1
  rcases r1 with _ | ⟨u, w⟩
  rotate_left
  · cases k1
  obtain rfl : o0 = 37 := ok2 (hk (mm_P 2 o0) (by simp))
  obtain ⟨q, hq, hq2⟩ := Option.bind_eq_some_iff.mp k1
  exact ⟨_, _, sp_X2_isWord o1 z hk q hq, fun v hv => by cases hv; exact Or.inl ⟨_, rfl⟩, hq2⟩
theorem sV_X2_isWord {own : String} {R : Room} {ar : Nat → Nat} {k : Nat} (hlink : Cond.methodLink own k yX2_isWord ∈ lw_gd ∨ ∃ host, (own, k, yX2_isWord, host) ∈ nmA) (har : ar k = 2) (hr : 5 ≤ R.frames ∧ 107 ≤ R.locals) : mm_okV lyTX lyFA lenX snX 46 48 17 roX rsA nfA nmA ssX own R ar k clo_X2_isWord := by
  refine ⟨yX2_isWord, cX2_isWord, 3, some .boolean, rm_X2_isWord, f_X2_isWord, 2, 1, (RX2, TX2, 6), M_X2_isWord, cs_X2_isWord, hlink, ⟨wv_X2_isWord, wz_X2_isWord, wi_X2_isWord, wc_X2_isWord⟩, ⟨by decide +kernel, by decide +kernel, by decide +kernel⟩, har, ⟨rfl, rfl, by decide⟩, ?_, ⟨rfl, rfl, hr.1, hr.2⟩⟩
  intro as z K o h
  obtain ⟨t0, o0, r0, rfl, g0⟩ := mm_pr_e h
  obtain ⟨b0, k0⟩ := mm_bif_e g0
  obtain rfl := Nat.eq_of_beq_eq_true b0
  exact ⟨_, _, rfl⟩
-- X2_kindTold
noncomputable def lV_X2_kindTold : List (Nat × (List mm_V → mm_S → (Option mm_V → mm_S → Option mm_R) → Option mm_R)) := [(55, clo_X2_isWord)]
noncomputable def mV_X2_kindTold (k : Nat) (as : List mm_V) (z : mm_S) (kk : Option mm_V → mm_S → Option mm_R) : Option mm_R := match mm_at lV_X2_kindTold k with
  | some f => f as z kk
  | none => none
noncomputable def arV_X2_kindTold (k : Nat) : Nat := (mm_at [(55, 2)] k).getD 0
noncomputable def lS_X2_kindTold : List (Nat × (List mm_V → mm_S → (Option mm_V → mm_S → Option mm_R) → Option mm_R)) := []
noncomputable def mS_X2_kindTold (k : Nat) (as : List mm_V) (z : mm_S) (kk : Option mm_V → mm_S → Option mm_R) : Option mm_R := match mm_at lS_X2_kindTold k with
  | some f => f as z kk
  | none => none
noncomputable def arS_X2_kindTold (k : Nat) : Nat := (mm_at [] k).getD 0
def ct_X2_kindTold : List (Nat × List Nat) := [(9, []), (20, []), (31, []), (42, []), (53, []), (64, []), (75, [])]
noncomputable def go_X2_kindTold : Nat → mm_K := mm_go (fun k => mm_at flX2 k) (fun k => mm_at clX2 k) (fun k => mm_at glX2 k) arV_X2_kindTold arS_X2_kindTold mV_X2_kindTold mS_X2_kindTold lenX roX snX 1 0 tbX2_kindTold ct_X2_kindTold
noncomputable def eX2_kindTold_0 (n : Nat)  (z : mm_S) : Option mm_R := go_X2_kindTold n 0 [(0, mm_P 2 37)] [] z
noncomputable def eX2_kindTold_75 (n : Nat)  (z : mm_S) : Option mm_R := go_X2_kindTold n 75 [] [] z
noncomputable def eX2_kindTold_64 (n : Nat)  (z : mm_S) : Option mm_R := go_X2_kindTold n 64 [] [] z
noncomputable def eX2_kindTold_53 (n : Nat)  (z : mm_S) : Option mm_R := go_X2_kindTold n 53 [] [] z
noncomputable def eX2_kindTold_42 (n : Nat)  (z : mm_S) : Option mm_R := go_X2_kindTold n 42 [] [] z
noncomputable def eX2_kindTold_31 (n : Nat)  (z : mm_S) : Option mm_R := go_X2_kindTold n 31 [] [] z
noncomputable def eX2_kindTold_20 (n : Nat)  (z : mm_S) : Option mm_R := go_X2_kindTold n 20 [] [] z
noncomputable def eX2_kindTold_9 (n : Nat)  (z : mm_S) : Option mm_R := go_X2_kindTold n 9 [] [] z
set_option maxRecDepth 100000 in
theorem qX2_kindTold_0 (n : Nat)  (z : mm_S) : eX2_kindTold_0 (n + 1)  z = ((sX2_isWord 0 z).bind fun q1 => if q1.1 = 0 then (sX2_isWord 1 q1.2).bind fun q2 => if q2.1 = 0 then (sX2_isWord 2 q2.2).bind fun q3 => if q3.1 = 0 then (sX2_isWord 3 q3.2).bind fun q4 => if q4.1 = 0 then (sX2_isWord 4 q4.2).bind fun q5 => if q5.1 = 0 then (sX2_isWord 5 q5.2).bind fun q6 => if q6.1 = 0 then (sX2_isWord 6 q6.2).bind fun q7 => if q7.1 = 0 then some (some (mm_I (-1)), q7.2) else eX2_kindTold_75 n  q7.2 else eX2_kindTold_64 n  q6.2 else eX2_kindTold_53 n  q5.2 else eX2_kindTold_42 n  q4.2 else eX2_kindTold_31 n  q3.2 else eX2_kindTold_20 n  q2.2 else eX2_kindTold_9 n  q1.2) := rfl
set_option maxRecDepth 100000 in
theorem qX2_kindTold_75 (n : Nat)  (z : mm_S) : eX2_kindTold_75 (n + 1)  z = (some (some (mm_I 6), z)) := rfl
set_option maxRecDepth 100000 in
theorem qX2_kindTold_64 (n : Nat)  (z : mm_S) : eX2_kindTold_64 (n + 1)  z = (some (some (mm_I 5), z)) := rfl
set_option maxRecDepth 100000 in
theorem qX2_kindTold_53 (n : Nat)  (z : mm_S) : eX2_kindTold_53 (n + 1)  z = (some (some (mm_I 4), z)) := rfl
set_option maxRecDepth 100000 in
theorem qX2_kindTold_42 (n : Nat)  (z : mm_S) : eX2_kindTold_42 (n + 1)  z = (some (some (mm_I 3), z)) := rfl
set_option maxRecDepth 100000 in
theorem qX2_kindTold_31 (n : Nat)  (z : mm_S) : eX2_kindTold_31 (n + 1)  z = (some (some (mm_I 2), z)) := rfl
set_option maxRecDepth 100000 in
theorem qX2_kindTold_20 (n : Nat)  (z : mm_S) : eX2_kindTold_20 (n + 1)  z = (some (some (mm_I 1), z)) := rfl
set_option maxRecDepth 100000 in
theorem qX2_kindTold_9 (n : Nat)  (z : mm_S) : eX2_kindTold_9 (n + 1)  z = (some (some (mm_I 0), z)) := rfl
def rm_X2_kindTold : Room := { frames := 5, cells := 0, slots := 0, locals := 107 }
noncomputable def f_X2_kindTold (as : List mm_V) (z : mm_S) (o : mm_R) : Prop := (as.map mm_cat).sum ≤ 1 ∧ ∃ n, go_X2_kindTold n 0 (mm_ar 0 as) [] z = some o
theorem M_X2_kindTold : mm_M lyTX lyFA lenX snX 46 48 17 roX rsA nfA nmA ssX yX2_kindTold cX2_kindTold 1 (some .int) rm_X2_kindTold f_X2_kindTold :=
  mm_met (rt := 0) (by decide +kernel) ⟨fun h => rfl, fun h => absurd h (by decide), fun h => absurd h (by decide), fun h => absurd h (by decide)⟩ tbX2_kindTold_ok hsnX okFX2 okLX2 okGX2 (fun _ _ _ _ => rfl) (fun _ _ _ _ => rfl) (List.forall_mem_cons.mpr ⟨sV_X2_isWord (Or.inl lk_X2_55) rfl ⟨by decide, by decide⟩, fun _ h => absurd h List.not_mem_nil⟩) (fun _ h => absurd h List.not_mem_nil)
noncomputable def sX2_kindTold_9  (z : mm_S) : Option (Int32 × mm_S) := some (0, z)
theorem kX2_kindTold_9  (z : mm_S) (oo : mm_R) : mm_Xs (sX2_kindTold_9  z) (fun v => (fun v : Int32 × mm_S => ((some (mm_I v.1), v.2) : mm_R)) v = oo) (fun n => eX2_kindTold_9 n  z) oo :=
  xs_row (fun n => qX2_kindTold_9 n z) (xs_v fun hc => ⟨0, congrArg some hc⟩)
noncomputable def sX2_kindTold_20  (z : mm_S) : Option (Int32 × mm_S) := some (1, z)
theorem kX2_kindTold_20  (z : mm_S) (oo : mm_R) : mm_Xs (sX2_kindTold_20  z) (fun v => (fun v : Int32 × mm_S => ((some (mm_I v.1), v.2) : mm_R)) v = oo) (fun n => eX2_kindTold_20 n  z) oo :=
  xs_row (fun n => qX2_kindTold_20 n z) (xs_v fun hc => ⟨0, congrArg some hc⟩)
noncomputable def sX2_kindTold_31  (z : mm_S) : Option (Int32 × mm_S) := some (2, z)
theorem kX2_kindTold_31  (z : mm_S) (oo : mm_R) : mm_Xs (sX2_kindTold_31  z) (fun v => (fun v : Int32 × mm_S => ((some (mm_I v.1), v.2) : mm_R)) v = oo) (fun n => eX2_kindTold_31 n  z) oo :=
  xs_row (fun n => qX2_kindTold_31 n z) (xs_v fun hc => ⟨0, congrArg some hc⟩)
noncomputable def sX2_kindTold_42  (z : mm_S) : Option (Int32 × mm_S) := some (3, z)
theorem kX2_kindTold_42  (z : mm_S) (oo : mm_R) : mm_Xs (sX2_kindTold_42  z) (fun v => (fun v : Int32 × mm_S => ((some (mm_I v.1), v.2) : mm_R)) v = oo) (fun n => eX2_kindTold_42 n  z) oo :=
  xs_row (fun n => qX2_kindTold_42 n z) (xs_v fun hc => ⟨0, congrArg some hc⟩)
noncomputable def sX2_kindTold_53  (z : mm_S) : Option (Int32 × mm_S) := some (4, z)
theorem kX2_kindTold_53  (z : mm_S) (oo : mm_R) : mm_Xs (sX2_kindTold_53  z) (fun v => (fun v : Int32 × mm_S => ((some (mm_I v.1), v.2) : mm_R)) v = oo) (fun n => eX2_kindTold_53 n  z) oo :=
  xs_row (fun n => qX2_kindTold_53 n z) (xs_v fun hc => ⟨0, congrArg some hc⟩)
noncomputable def sX2_kindTold_64  (z : mm_S) : Option (Int32 × mm_S) := some (5, z)
theorem kX2_kindTold_64  (z : mm_S) (oo : mm_R) : mm_Xs (sX2_kindTold_64  z) (fun v => (fun v : Int32 × mm_S => ((some (mm_I v.1), v.2) : mm_R)) v = oo) (fun n => eX2_kindTold_64 n  z) oo :=
  xs_row (fun n => qX2_kindTold_64 n z) (xs_v fun hc => ⟨0, congrArg some hc⟩)
noncomputable def sX2_kindTold_75  (z : mm_S) : Option (Int32 × mm_S) := some (6, z)
theorem kX2_kindTold_75  (z : mm_S) (oo : mm_R) : mm_Xs (sX2_kindTold_75  z) (fun v => (fun v : Int32 × mm_S => ((some (mm_I v.1), v.2) : mm_R)) v = oo) (fun n => eX2_kindTold_75 n  z) oo :=
  xs_row (fun n => qX2_kindTold_75 n z) (xs_v fun hc => ⟨0, congrArg some hc⟩)
noncomputable def sX2_kindTold_0  (z : mm_S) : Option (Int32 × mm_S) := (sX2_isWord 0 z).bind fun q1 => if q1.1 = 0 then (sX2_isWord 1 q1.2).bind fun q2 => if q2.1 = 0 then (sX2_isWord 2 q2.2).bind fun q3 => if q3.1 = 0 then (sX2_isWord 3 q3.2).bind fun q4 => if q4.1 = 0 then (sX2_isWord 4 q4.2).bind fun q5 => if q5.1 = 0 then (sX2_isWord 5 q5.2).bind fun q6 => if q6.1 = 0 then (sX2_isWord 6 q6.2).bind fun q7 => if q7.1 = 0 then some ((-1), q7.2) else (sX2_kindTold_75 q7.2) else (sX2_kindTold_64 q6.2) else (sX2_kindTold_53 q5.2) else (sX2_kindTold_42 q4.2) else (sX2_kindTold_31 q3.2) else (sX2_kindTold_20 q2.2) else (sX2_kindTold_9 q1.2)
theorem kX2_kindTold_0  (z : mm_S) (oo : mm_R) : mm_Xs (sX2_kindTold_0  z) (fun v => (fun v : Int32 × mm_S => ((some (mm_I v.1), v.2) : mm_R)) v = oo) (fun n => eX2_kindTold_0 n  z) oo :=
  xs_row (fun n => qX2_kindTold_0 n z) (xs_bd fun q1 => (xs_if (xs_bd fun q2 => (xs_if (xs_bd fun q3 => (xs_if (xs_bd fun q4 => (xs_if (xs_bd fun q5 => (xs_if (xs_bd fun q6 => (xs_if (xs_bd fun q7 => (xs_if (xs_v fun hc => ⟨0, congrArg some hc⟩) (kX2_kindTold_75 q7.2 oo))) (kX2_kindTold_64 q6.2 oo))) (kX2_kindTold_53 q5.2 oo))) (kX2_kindTold_42 q4.2 oo))) (kX2_kindTold_31 q3.2 oo))) (kX2_kindTold_20 q2.2 oo))) (kX2_kindTold_9 q1.2 oo)))
noncomputable def sX2_kindTold  (z : mm_S) : Option (Int32 × mm_S) := sX2_kindTold_0  z
theorem sp_X2_kindTold  (z : mm_S) (hk : ∀ v ∈ [mm_P 2 37], mm_ok 46 lyTX 48 17 v) (q : Int32 × mm_S) (hq : sX2_kindTold  z = some q) : f_X2_kindTold [mm_P 2 37] z (some (mm_I q.1), q.2) := ⟨Nat.le_of_ble_eq_true rfl, kX2_kindTold_0  z _ q hq rfl⟩
noncomputable def clo_X2_kindTold (as : List mm_V) (z : mm_S) (kk : Option mm_V → mm_S → Option mm_R) : Option mm_R := mm_pr as fun t o0 as => bif Nat.beq t 2 then (match as with | [] => (sX2_kindTold z).bind fun q => kk (some (mm_I q.1)) q.2 | _ => none) else none
theorem cs_X2_kindTold : mm_cs lyTX 46 48 17 f_X2_kindTold clo_X2_kindTold := by
  intro as z K o hk h
  obtain ⟨t0, o0, r0, rfl, g0⟩ := mm_pr_e h
  obtain ⟨b0, k0⟩ := mm_bif_e g0
  obtain rfl := Nat.eq_of_beq_eq_true b0
  rcases r0 with _ | ⟨u, w⟩
  rotate_left
  · cases k0
  obtain rfl : o0 = 37 := ok2 (hk (mm_P 2 o0) (by simp))
  obtain ⟨q, hq, hq2⟩ := Option.bind_eq_some_iff.mp k0
  exact ⟨_, _, sp_X2_kindTold  z hk q hq, fun v hv => by cases hv; exact Or.inl ⟨_, rfl⟩, hq2⟩
theorem sV_X2_kindTold {own : String} {R : Room} {ar : Nat → Nat} {k : Nat} (hlink : Cond.methodLink own k yX2_kindTold ∈ lw_gd ∨ ∃ host, (own, k, yX2_kindTold, host) ∈ nmA) (har : ar k = 1) (hr : 6 ≤ R.frames ∧ 127 ≤ R.locals) : mm_okV lyTX lyFA lenX snX 46 48 17 roX rsA nfA nmA ssX own R ar k clo_X2_kindTold := by
  refine ⟨yX2_kindTold, cX2_kindTold, 1, some .int, rm_X2_kindTold, f_X2_kindTold, 2, 0, (RX2, TX2, 6), M_X2_kindTold, cs_X2_kindTold, hlink, ⟨wv_X2_kindTold, wz_X2_kindTold, wi_X2_kindTold, wc_X2_kindTold⟩, ⟨by decide +kernel, by decide +kernel, by decide +kernel⟩, har, ⟨rfl, rfl, by decide⟩, ?_, ⟨rfl, rfl, hr.1, hr.2⟩⟩
  intro as z K o h
  obtain ⟨t0, o0, r0, rfl, g0⟩ := mm_pr_e h
  obtain ⟨b0, k0⟩ := mm_bif_e g0
  obtain rfl := Nat.eq_of_beq_eq_true b0
  exact ⟨_, _, rfl⟩
-- X2_readCrew
noncomputable def lV_X2_readCrew : List (Nat × (List mm_V → mm_S → (Option mm_V → mm_S → Option mm_R) → Option mm_R)) := [(26, clo_X2_nextToken), (55, clo_X2_isWord), (74, clo_X2_isNumber), (83, clo_X0_addCrew)]
noncomputable def mV_X2_readCrew (k : Nat) (as : List mm_V) (z : mm_S) (kk : Option mm_V → mm_S → Option mm_R) : Option mm_R := match mm_at lV_X2_readCrew k with
  | some f => f as z kk
  | none => none
noncomputable def arV_X2_readCrew (k : Nat) : Nat := (mm_at [(26, 1), (55, 2), (74, 3), (83, 4)] k).getD 0
noncomputable def lS_X2_readCrew : List (Nat × (List mm_V → mm_S → (Option mm_V → mm_S → Option mm_R) → Option mm_R)) := []
noncomputable def mS_X2_readCrew (k : Nat) (as : List mm_V) (z : mm_S) (kk : Option mm_V → mm_S → Option mm_R) : Option mm_R := match mm_at lS_X2_readCrew k with
  | some f => f as z kk
  | none => none
noncomputable def arS_X2_readCrew (k : Nat) : Nat := (mm_at [] k).getD 0
def ct_X2_readCrew : List (Nat × List Nat) := [(15, [0, 1, 2]), (26, [0, 1, 2]), (30, [0, 1, 2]), (51, [0, 1, 2, 3]), (64, [0, 1, 2, 3]), (68, [0, 1, 2, 3]), (90, [1, 2, 3, 4]), (98, [])]
noncomputable def go_X2_readCrew : Nat → mm_K := mm_go (fun k => mm_at flX2 k) (fun k => mm_at clX2 k) (fun k => mm_at glX2 k) arV_X2_readCrew arS_X2_readCrew mV_X2_readCrew mS_X2_readCrew lenX roX snX 5 1 tbX2_readCrew ct_X2_readCrew
noncomputable def eX2_readCrew_0 (n : Nat)  (x1 : Nat) (x2 : Int32) (z : mm_S) : Option mm_R := go_X2_readCrew n 0 [(0, mm_P 2 37), (1, mm_P 0 x1), (2, mm_I x2)] [] z
noncomputable def eX2_readCrew_15 (n : Nat)  (y1 : Nat) (y2 : Int32) (z : mm_S) : Option mm_R := go_X2_readCrew n 15 [(0, mm_P 2 37), (1, mm_P 0 y1), (2, mm_I y2)] [] z
noncomputable def eX2_readCrew_51 (n : Nat)  (y1 : Nat) (y2 : Int32) (y3 : Int32) (z : mm_S) : Option mm_R := go_X2_readCrew n 51 [(0, mm_P 2 37), (1, mm_P 0 y1), (2, mm_I y2), (3, mm_I y3)] [] z
noncomputable def eX2_readCrew_26 (n : Nat)  (y1 : Nat) (y2 : Int32) (z : mm_S) : Option mm_R := go_X2_readCrew n 26 [(0, mm_P 2 37), (1, mm_P 0 y1), (2, mm_I y2)] [] z
noncomputable def eX2_readCrew_90 (n : Nat) (y1 : Nat) (y2 : Int32) (y3 : Int32) (y4 : Int32) (z : mm_S) : Option mm_R := go_X2_readCrew n 90 [(1, mm_P 0 y1), (2, mm_I y2), (3, mm_I y3), (4, mm_I y4)] [] z
noncomputable def eX2_readCrew_64 (n : Nat)  (y1 : Nat) (y2 : Int32) (y3 : Int32) (z : mm_S) : Option mm_R := go_X2_readCrew n 64 [(0, mm_P 2 37), (1, mm_P 0 y1), (2, mm_I y2), (3, mm_I y3)] [] z
noncomputable def eX2_readCrew_30 (n : Nat)  (y1 : Nat) (y2 : Int32) (z : mm_S) : Option mm_R := go_X2_readCrew n 30 [(0, mm_P 2 37), (1, mm_P 0 y1), (2, mm_I y2)] [] z
noncomputable def eX2_readCrew_98 (n : Nat)  (z : mm_S) : Option mm_R := go_X2_readCrew n 98 [] [] z
noncomputable def eX2_readCrew_68 (n : Nat)  (y1 : Nat) (y2 : Int32) (y3 : Int32) (z : mm_S) : Option mm_R := go_X2_readCrew n 68 [(0, mm_P 2 37), (1, mm_P 0 y1), (2, mm_I y2), (3, mm_I y3)] [] z
set_option maxRecDepth 100000 in
theorem qX2_readCrew_0 (n : Nat)  (x1 : Nat) (x2 : Int32) (z : mm_S) : eX2_readCrew_0 (n + 1) x1 x2 z = (if (z.1 x1 4) < 6 then (sX2_nextToken  z).bind fun q1 => eX2_readCrew_15 n x1 x2 q1 else some (some (mm_I 0), z)) := rfl
set_option maxRecDepth 100000 in
theorem qX2_readCrew_15 (n : Nat)  (y1 : Nat) (y2 : Int32) (z : mm_S) : eX2_readCrew_15 (n + 1) y1 y2 z = ((sX2_isWord 14 z).bind fun q2 => if q2.1 = 0 then eX2_readCrew_51 n y1 y2 0 q2.2 else eX2_readCrew_26 n y1 y2 q2.2) := rfl
set_option maxRecDepth 100000 in
theorem qX2_readCrew_51 (n : Nat)  (y1 : Nat) (y2 : Int32) (y3 : Int32) (z : mm_S) : eX2_readCrew_51 (n + 1) y1 y2 y3 z = ((sX2_isWord 15 z).bind fun q3 => if q3.1 = 0 then eX2_readCrew_90 n y1 y2 y3 6 q3.2 else eX2_readCrew_64 n y1 y2 y3 q3.2) := rfl
set_option maxRecDepth 100000 in
theorem qX2_readCrew_26 (n : Nat)  (y1 : Nat) (y2 : Int32) (z : mm_S) : eX2_readCrew_26 (n + 1) y1 y2 z = ((sX2_nextToken  z).bind fun q4 => eX2_readCrew_30 n y1 y2 q4) := rfl
set_option maxRecDepth 100000 in
theorem qX2_readCrew_90 (n : Nat) (y1 : Nat) (y2 : Int32) (y3 : Int32) (y4 : Int32) (z : mm_S) : eX2_readCrew_90 (n + 1) y1 y2 y3 y4 z = (let u5 := (tX0_addCrew y1 y2 y3 y4 z); eX2_readCrew_98 n  u5) := rfl
set_option maxRecDepth 100000 in
theorem qX2_readCrew_64 (n : Nat)  (y1 : Nat) (y2 : Int32) (y3 : Int32) (z : mm_S) : eX2_readCrew_64 (n + 1) y1 y2 y3 z = ((sX2_nextToken  z).bind fun q6 => eX2_readCrew_68 n y1 y2 y3 q6) := rfl
set_option maxRecDepth 100000 in
theorem qX2_readCrew_30 (n : Nat)  (y1 : Nat) (y2 : Int32) (z : mm_S) : eX2_readCrew_30 (n + 1) y1 y2 z = (if (pX2_isNumber 0 35 z) = 0 then some (some (mm_I 0), z) else (sX2_nextToken  z).bind fun q7 => eX2_readCrew_51 n y1 y2 (z.1 37 5) q7) := rfl
set_option maxRecDepth 100000 in
theorem qX2_readCrew_98 (n : Nat)  (z : mm_S) : eX2_readCrew_98 (n + 1)  z = (some (some (mm_I 1), z)) := rfl
set_option maxRecDepth 100000 in
theorem qX2_readCrew_68 (n : Nat)  (y1 : Nat) (y2 : Int32) (y3 : Int32) (z : mm_S) : eX2_readCrew_68 (n + 1) y1 y2 y3 z = (if (pX2_isNumber 1 20 z) = 0 then some (some (mm_I 0), z) else (sX2_nextToken  z).bind fun q8 => eX2_readCrew_90 n y1 y2 y3 (z.1 37 5) q8) := rfl
def rm_X2_readCrew : Room := { frames := 5, cells := 0, slots := 0, locals := 107 }
noncomputable def f_X2_readCrew (as : List mm_V) (z : mm_S) (o : mm_R) : Prop := (as.map mm_cat).sum ≤ 5 ∧ ∃ n, go_X2_readCrew n 0 (mm_ar 0 as) [] z = some o
theorem M_X2_readCrew : mm_M lyTX lyFA lenX snX 46 48 17 roX rsA nfA nmA ssX yX2_readCrew cX2_readCrew 5 (some .boolean) rm_X2_readCrew f_X2_readCrew :=
  mm_met (rt := 1) (by decide +kernel) ⟨fun h => absurd h (by decide), fun h => rfl, fun h => absurd h (by decide), fun h => absurd h (by decide)⟩ tbX2_readCrew_ok hsnX okFX2 okLX2 okGX2 (fun _ _ _ _ => rfl) (fun _ _ _ _ => rfl) (List.forall_mem_cons.mpr ⟨sV_X2_nextToken (Or.inl lk_X2_26) rfl ⟨by decide, by decide⟩, List.forall_mem_cons.mpr ⟨sV_X2_isWord (Or.inl lk_X2_55) rfl ⟨by decide, by decide⟩, List.forall_mem_cons.mpr ⟨sV_X2_isNumber (Or.inl lk_X2_74) rfl ⟨by decide, by decide⟩, List.forall_mem_cons.mpr ⟨sV_X0_addCrew (Or.inl lk_X2_83) rfl ⟨by decide, by decide⟩, fun _ h => absurd h List.not_mem_nil⟩⟩⟩⟩) (fun _ h => absurd h List.not_mem_nil)
noncomputable def sX2_readCrew_98  (z : mm_S) : Option (Int32 × mm_S) := some (1, z)
theorem kX2_readCrew_98  (z : mm_S) (oo : mm_R) : mm_Xs (sX2_readCrew_98  z) (fun v => (fun v : Int32 × mm_S => ((some (mm_I v.1), v.2) : mm_R)) v = oo) (fun n => eX2_readCrew_98 n  z) oo :=
  xs_row (fun n => qX2_readCrew_98 n z) (xs_v fun hc => ⟨0, congrArg some hc⟩)
noncomputable def sX2_readCrew_90 (y1 : Nat) (y2 : Int32) (y3 : Int32) (y4 : Int32) (z : mm_S) : Option (Int32 × mm_S) := let u5 := (tX0_addCrew y1 y2 y3 y4 z); (sX2_readCrew_98 u5)
theorem kX2_readCrew_90 (y1 : Nat) (y2 : Int32) (y3 : Int32) (y4 : Int32) (z : mm_S) (oo : mm_R) : mm_Xs (sX2_readCrew_90 y1 y2 y3 y4 z) (fun v => (fun v : Int32 × mm_S => ((some (mm_I v.1), v.2) : mm_R)) v = oo) (fun n => eX2_readCrew_90 n y1 y2 y3 y4 z) oo :=
  xs_row (fun n => qX2_readCrew_90 n y1 y2 y3 y4 z) (xs_let ((tX0_addCrew y1 y2 y3 y4 z)) (S := fun (u5 : _) => ((sX2_readCrew_98 u5) : Option (Int32 × mm_S))) (T := fun (u5 : _) n => eX2_readCrew_98 n  u5) (fun u5 => (kX2_readCrew_98 u5 oo)))
noncomputable def sX2_readCrew_68 (y1 : Nat) (y2 : Int32) (y3 : Int32) (z : mm_S) : Option (Int32 × mm_S) := if (pX2_isNumber 1 20 z) = 0 then some (0, z) else (sX2_nextToken  z).bind fun q8 => (sX2_readCrew_90 y1 y2 y3 (z.1 37 5) q8)
theorem kX2_readCrew_68 (y1 : Nat) (y2 : Int32) (y3 : Int32) (z : mm_S) (oo : mm_R) : mm_Xs (sX2_readCrew_68 y1 y2 y3 z) (fun v => (fun v : Int32 × mm_S => ((some (mm_I v.1), v.2) : mm_R)) v = oo) (fun n => eX2_readCrew_68 n y1 y2 y3 z) oo :=
  xs_row (fun n => qX2_readCrew_68 n y1 y2 y3 z) (xs_if (xs_v fun hc => ⟨0, congrArg some hc⟩) (xs_bd fun q8 => (kX2_readCrew_90 y1 y2 y3 (z.1 37 5) q8 oo)))
noncomputable def sX2_readCrew_64 (y1 : Nat) (y2 : Int32) (y3 : Int32) (z : mm_S) : Option (Int32 × mm_S) := (sX2_nextToken  z).bind fun q6 => (sX2_readCrew_68 y1 y2 y3 q6)
theorem kX2_readCrew_64 (y1 : Nat) (y2 : Int32) (y3 : Int32) (z : mm_S) (oo : mm_R) : mm_Xs (sX2_readCrew_64 y1 y2 y3 z) (fun v => (fun v : Int32 × mm_S => ((some (mm_I v.1), v.2) : mm_R)) v = oo) (fun n => eX2_readCrew_64 n y1 y2 y3 z) oo :=
  xs_row (fun n => qX2_readCrew_64 n y1 y2 y3 z) (xs_bd fun q6 => (kX2_readCrew_68 y1 y2 y3 q6 oo))
noncomputable def sX2_readCrew_51 (y1 : Nat) (y2 : Int32) (y3 : Int32) (z : mm_S) : Option (Int32 × mm_S) := (sX2_isWord 15 z).bind fun q3 => if q3.1 = 0 then (sX2_readCrew_90 y1 y2 y3 6 q3.2) else (sX2_readCrew_64 y1 y2 y3 q3.2)
theorem kX2_readCrew_51 (y1 : Nat) (y2 : Int32) (y3 : Int32) (z : mm_S) (oo : mm_R) : mm_Xs (sX2_readCrew_51 y1 y2 y3 z) (fun v => (fun v : Int32 × mm_S => ((some (mm_I v.1), v.2) : mm_R)) v = oo) (fun n => eX2_readCrew_51 n y1 y2 y3 z) oo :=
  xs_row (fun n => qX2_readCrew_51 n y1 y2 y3 z) (xs_bd fun q3 => (xs_if (kX2_readCrew_90 y1 y2 y3 6 q3.2 oo) (kX2_readCrew_64 y1 y2 y3 q3.2 oo)))
noncomputable def sX2_readCrew_30 (y1 : Nat) (y2 : Int32) (z : mm_S) : Option (Int32 × mm_S) := if (pX2_isNumber 0 35 z) = 0 then some (0, z) else (sX2_nextToken  z).bind fun q7 => (sX2_readCrew_51 y1 y2 (z.1 37 5) q7)
theorem kX2_readCrew_30 (y1 : Nat) (y2 : Int32) (z : mm_S) (oo : mm_R) : mm_Xs (sX2_readCrew_30 y1 y2 z) (fun v => (fun v : Int32 × mm_S => ((some (mm_I v.1), v.2) : mm_R)) v = oo) (fun n => eX2_readCrew_30 n y1 y2 z) oo :=
  xs_row (fun n => qX2_readCrew_30 n y1 y2 z) (xs_if (xs_v fun hc => ⟨0, congrArg some hc⟩) (xs_bd fun q7 => (kX2_readCrew_51 y1 y2 (z.1 37 5) q7 oo)))
noncomputable def sX2_readCrew_26 (y1 : Nat) (y2 : Int32) (z : mm_S) : Option (Int32 × mm_S) := (sX2_nextToken  z).bind fun q4 => (sX2_readCrew_30 y1 y2 q4)
theorem kX2_readCrew_26 (y1 : Nat) (y2 : Int32) (z : mm_S) (oo : mm_R) : mm_Xs (sX2_readCrew_26 y1 y2 z) (fun v => (fun v : Int32 × mm_S => ((some (mm_I v.1), v.2) : mm_R)) v = oo) (fun n => eX2_readCrew_26 n y1 y2 z) oo :=
  xs_row (fun n => qX2_readCrew_26 n y1 y2 z) (xs_bd fun q4 => (kX2_readCrew_30 y1 y2 q4 oo))
noncomputable def sX2_readCrew_15 (y1 : Nat) (y2 : Int32) (z : mm_S) : Option (Int32 × mm_S) := (sX2_isWord 14 z).bind fun q2 => if q2.1 = 0 then (sX2_readCrew_51 y1 y2 0 q2.2) else (sX2_readCrew_26 y1 y2 q2.2)
theorem kX2_readCrew_15 (y1 : Nat) (y2 : Int32) (z : mm_S) (oo : mm_R) : mm_Xs (sX2_readCrew_15 y1 y2 z) (fun v => (fun v : Int32 × mm_S => ((some (mm_I v.1), v.2) : mm_R)) v = oo) (fun n => eX2_readCrew_15 n y1 y2 z) oo :=
  xs_row (fun n => qX2_readCrew_15 n y1 y2 z) (xs_bd fun q2 => (xs_if (kX2_readCrew_51 y1 y2 0 q2.2 oo) (kX2_readCrew_26 y1 y2 q2.2 oo)))
noncomputable def sX2_readCrew_0 (x1 : Nat) (x2 : Int32) (z : mm_S) : Option (Int32 × mm_S) := if (z.1 x1 4) < 6 then (sX2_nextToken  z).bind fun q1 => (sX2_readCrew_15 x1 x2 q1) else some (0, z)
theorem kX2_readCrew_0 (x1 : Nat) (x2 : Int32) (z : mm_S) (oo : mm_R) : mm_Xs (sX2_readCrew_0 x1 x2 z) (fun v => (fun v : Int32 × mm_S => ((some (mm_I v.1), v.2) : mm_R)) v = oo) (fun n => eX2_readCrew_0 n x1 x2 z) oo :=
  xs_row (fun n => qX2_readCrew_0 n x1 x2 z) (xs_if (xs_bd fun q1 => (kX2_readCrew_15 x1 x2 q1 oo)) (xs_v fun hc => ⟨0, congrArg some hc⟩))
noncomputable def sX2_readCrew (x1 : Nat) (x2 : Int32) (z : mm_S) : Option (Int32 × mm_S) := sX2_readCrew_0 x1 x2 z
theorem sp_X2_readCrew (x1 : Nat) (x2 : Int32) (z : mm_S) (hk : ∀ v ∈ [mm_P 2 37, mm_P 0 x1, mm_I x2], mm_ok 46 lyTX 48 17 v) (q : Int32 × mm_S) (hq : sX2_readCrew x1 x2 z = some q) : f_X2_readCrew [mm_P 2 37, mm_P 0 x1, mm_I x2] z (some (mm_I q.1), q.2) := ⟨Nat.le_of_ble_eq_true rfl, kX2_readCrew_0 x1 x2 z _ q hq rfl⟩
noncomputable def clo_X2_readCrew (as : List mm_V) (z : mm_S) (kk : Option mm_V → mm_S → Option mm_R) : Option mm_R := mm_pr as fun t o0 as => bif Nat.beq t 2 then mm_pr as fun t o1 as => bif Nat.beq t 0 then mm_pi as fun a2 as => (match as with | [] => (sX2_readCrew o1 a2 z).bind fun q => kk (some (mm_I q.1)) q.2 | _ => none) else none else none
theorem cs_X2_readCrew : mm_cs lyTX 46 48 17 f_X2_readCrew clo_X2_readCrew := by
  intro as z K o hk h
  obtain ⟨t0, o0, r0, rfl, g0⟩ := mm_pr_e h
  obtain ⟨b0, k0⟩ := mm_bif_e g0
  obtain rfl := Nat.eq_of_beq_eq_true b0
  obtain ⟨t1, o1, r1, rfl, g1⟩ := mm_pr_e k0
  obtain ⟨b1, k1⟩ := mm_bif_e g1
  obtain rfl := Nat.eq_of_beq_eq_true b1
  obtain ⟨a2, r2, rfl, g2⟩ := mm_pi_e k1
  rcases r2 with _ | ⟨u, w⟩
  rotate_left
  · cases g2
  obtain rfl : o0 = 37 := ok2 (hk (mm_P 2 o0) (by simp))
  obtain ⟨q, hq, hq2⟩ := Option.bind_eq_some_iff.mp g2
  exact ⟨_, _, sp_X2_readCrew o1 a2 z hk q hq, fun v hv => by cases hv; exact Or.inl ⟨_, rfl⟩, hq2⟩
theorem sV_X2_readCrew {own : String} {R : Room} {ar : Nat → Nat} {k : Nat} (hlink : Cond.methodLink own k yX2_readCrew ∈ lw_gd ∨ ∃ host, (own, k, yX2_readCrew, host) ∈ nmA) (har : ar k = 3) (hr : 6 ≤ R.frames ∧ 131 ≤ R.locals) : mm_okV lyTX lyFA lenX snX 46 48 17 roX rsA nfA nmA ssX own R ar k clo_X2_readCrew := by
  refine ⟨yX2_readCrew, cX2_readCrew, 5, some .boolean, rm_X2_readCrew, f_X2_readCrew, 2, 2, (RX2, TX2, 6), M_X2_readCrew, cs_X2_readCrew, hlink, ⟨wv_X2_readCrew, wz_X2_readCrew, wi_X2_readCrew, wc_X2_readCrew⟩, ⟨by decide +kernel, by decide +kernel, by decide +kernel⟩, har, ⟨rfl, rfl, by decide⟩, ?_, ⟨rfl, rfl, hr.1, hr.2⟩⟩
  intro as z K o h
  obtain ⟨t0, o0, r0, rfl, g0⟩ := mm_pr_e h
  obtain ⟨b0, k0⟩ := mm_bif_e g0
  obtain rfl := Nat.eq_of_beq_eq_true b0
  exact ⟨_, _, rfl⟩
-- X2_stuffTold
noncomputable def lV_X2_stuffTold : List (Nat × (List mm_V → mm_S → (Option mm_V → mm_S → Option mm_R) → Option mm_R)) := [(55, clo_X2_isWord)]
noncomputable def mV_X2_stuffTold (k : Nat) (as : List mm_V) (z : mm_S) (kk : Option mm_V → mm_S → Option mm_R) : Option mm_R := match mm_at lV_X2_stuffTold k with
  | some f => f as z kk
  | none => none
noncomputable def arV_X2_stuffTold (k : Nat) : Nat := (mm_at [(55, 2)] k).getD 0
noncomputable def lS_X2_stuffTold : List (Nat × (List mm_V → mm_S → (Option mm_V → mm_S → Option mm_R) → Option mm_R)) := []
noncomputable def mS_X2_stuffTold (k : Nat) (as : List mm_V) (z : mm_S) (kk : Option mm_V → mm_S → Option mm_R) : Option mm_R := match mm_at lS_X2_stuffTold k with
  | some f => f as z kk
  | none => none
noncomputable def arS_X2_stuffTold (k : Nat) : Nat := (mm_at [] k).getD 0
def ct_X2_stuffTold : List (Nat × List Nat) := [(9, []), (20, []), (31, []), (42, []), (53, [])]
noncomputable def go_X2_stuffTold : Nat → mm_K := mm_go (fun k => mm_at flX2 k) (fun k => mm_at clX2 k) (fun k => mm_at glX2 k) arV_X2_stuffTold arS_X2_stuffTold mV_X2_stuffTold mS_X2_stuffTold lenX roX snX 1 0 tbX2_stuffTold ct_X2_stuffTold
noncomputable def eX2_stuffTold_0 (n : Nat)  (z : mm_S) : Option mm_R := go_X2_stuffTold n 0 [(0, mm_P 2 37)] [] z
noncomputable def eX2_stuffTold_53 (n : Nat)  (z : mm_S) : Option mm_R := go_X2_stuffTold n 53 [] [] z
noncomputable def eX2_stuffTold_42 (n : Nat)  (z : mm_S) : Option mm_R := go_X2_stuffTold n 42 [] [] z
noncomputable def eX2_stuffTold_31 (n : Nat)  (z : mm_S) : Option mm_R := go_X2_stuffTold n 31 [] [] z
noncomputable def eX2_stuffTold_20 (n : Nat)  (z : mm_S) : Option mm_R := go_X2_stuffTold n 20 [] [] z
noncomputable def eX2_stuffTold_9 (n : Nat)  (z : mm_S) : Option mm_R := go_X2_stuffTold n 9 [] [] z
set_option maxRecDepth 100000 in
theorem qX2_stuffTold_0 (n : Nat)  (z : mm_S) : eX2_stuffTold_0 (n + 1)  z = ((sX2_isWord 7 z).bind fun q1 => if q1.1 = 0 then (sX2_isWord 8 q1.2).bind fun q2 => if q2.1 = 0 then (sX2_isWord 9 q2.2).bind fun q3 => if q3.1 = 0 then (sX2_isWord 10 q3.2).bind fun q4 => if q4.1 = 0 then (sX2_isWord 11 q4.2).bind fun q5 => if q5.1 = 0 then some (some (mm_I (-1)), q5.2) else eX2_stuffTold_53 n  q5.2 else eX2_stuffTold_42 n  q4.2 else eX2_stuffTold_31 n  q3.2 else eX2_stuffTold_20 n  q2.2 else eX2_stuffTold_9 n  q1.2) := rfl
set_option maxRecDepth 100000 in
theorem qX2_stuffTold_53 (n : Nat)  (z : mm_S) : eX2_stuffTold_53 (n + 1)  z = (some (some (mm_I 4), z)) := rfl
set_option maxRecDepth 100000 in
theorem qX2_stuffTold_42 (n : Nat)  (z : mm_S) : eX2_stuffTold_42 (n + 1)  z = (some (some (mm_I 3), z)) := rfl
set_option maxRecDepth 100000 in
theorem qX2_stuffTold_31 (n : Nat)  (z : mm_S) : eX2_stuffTold_31 (n + 1)  z = (some (some (mm_I 2), z)) := rfl
set_option maxRecDepth 100000 in
theorem qX2_stuffTold_20 (n : Nat)  (z : mm_S) : eX2_stuffTold_20 (n + 1)  z = (some (some (mm_I 1), z)) := rfl
set_option maxRecDepth 100000 in
theorem qX2_stuffTold_9 (n : Nat)  (z : mm_S) : eX2_stuffTold_9 (n + 1)  z = (some (some (mm_I 0), z)) := rfl
def rm_X2_stuffTold : Room := { frames := 5, cells := 0, slots := 0, locals := 107 }
noncomputable def f_X2_stuffTold (as : List mm_V) (z : mm_S) (o : mm_R) : Prop := (as.map mm_cat).sum ≤ 1 ∧ ∃ n, go_X2_stuffTold n 0 (mm_ar 0 as) [] z = some o
theorem M_X2_stuffTold : mm_M lyTX lyFA lenX snX 46 48 17 roX rsA nfA nmA ssX yX2_stuffTold cX2_stuffTold 1 (some .int) rm_X2_stuffTold f_X2_stuffTold :=
  mm_met (rt := 0) (by decide +kernel) ⟨fun h => rfl, fun h => absurd h (by decide), fun h => absurd h (by decide), fun h => absurd h (by decide)⟩ tbX2_stuffTold_ok hsnX okFX2 okLX2 okGX2 (fun _ _ _ _ => rfl) (fun _ _ _ _ => rfl) (List.forall_mem_cons.mpr ⟨sV_X2_isWord (Or.inl lk_X2_55) rfl ⟨by decide, by decide⟩, fun _ h => absurd h List.not_mem_nil⟩) (fun _ h => absurd h List.not_mem_nil)
noncomputable def sX2_stuffTold_9  (z : mm_S) : Option (Int32 × mm_S) := some (0, z)
theorem kX2_stuffTold_9  (z : mm_S) (oo : mm_R) : mm_Xs (sX2_stuffTold_9  z) (fun v => (fun v : Int32 × mm_S => ((some (mm_I v.1), v.2) : mm_R)) v = oo) (fun n => eX2_stuffTold_9 n  z) oo :=
  xs_row (fun n => qX2_stuffTold_9 n z) (xs_v fun hc => ⟨0, congrArg some hc⟩)
noncomputable def sX2_stuffTold_20  (z : mm_S) : Option (Int32 × mm_S) := some (1, z)
theorem kX2_stuffTold_20  (z : mm_S) (oo : mm_R) : mm_Xs (sX2_stuffTold_20  z) (fun v => (fun v : Int32 × mm_S => ((some (mm_I v.1), v.2) : mm_R)) v = oo) (fun n => eX2_stuffTold_20 n  z) oo :=
  xs_row (fun n => qX2_stuffTold_20 n z) (xs_v fun hc => ⟨0, congrArg some hc⟩)
noncomputable def sX2_stuffTold_31  (z : mm_S) : Option (Int32 × mm_S) := some (2, z)
theorem kX2_stuffTold_31  (z : mm_S) (oo : mm_R) : mm_Xs (sX2_stuffTold_31  z) (fun v => (fun v : Int32 × mm_S => ((some (mm_I v.1), v.2) : mm_R)) v = oo) (fun n => eX2_stuffTold_31 n  z) oo :=
  xs_row (fun n => qX2_stuffTold_31 n z) (xs_v fun hc => ⟨0, congrArg some hc⟩)
noncomputable def sX2_stuffTold_42  (z : mm_S) : Option (Int32 × mm_S) := some (3, z)
theorem kX2_stuffTold_42  (z : mm_S) (oo : mm_R) : mm_Xs (sX2_stuffTold_42  z) (fun v => (fun v : Int32 × mm_S => ((some (mm_I v.1), v.2) : mm_R)) v = oo) (fun n => eX2_stuffTold_42 n  z) oo :=
  xs_row (fun n => qX2_stuffTold_42 n z) (xs_v fun hc => ⟨0, congrArg some hc⟩)
noncomputable def sX2_stuffTold_53  (z : mm_S) : Option (Int32 × mm_S) := some (4, z)
theorem kX2_stuffTold_53  (z : mm_S) (oo : mm_R) : mm_Xs (sX2_stuffTold_53  z) (fun v => (fun v : Int32 × mm_S => ((some (mm_I v.1), v.2) : mm_R)) v = oo) (fun n => eX2_stuffTold_53 n  z) oo :=
  xs_row (fun n => qX2_stuffTold_53 n z) (xs_v fun hc => ⟨0, congrArg some hc⟩)
noncomputable def sX2_stuffTold_0  (z : mm_S) : Option (Int32 × mm_S) := (sX2_isWord 7 z).bind fun q1 => if q1.1 = 0 then (sX2_isWord 8 q1.2).bind fun q2 => if q2.1 = 0 then (sX2_isWord 9 q2.2).bind fun q3 => if q3.1 = 0 then (sX2_isWord 10 q3.2).bind fun q4 => if q4.1 = 0 then (sX2_isWord 11 q4.2).bind fun q5 => if q5.1 = 0 then some ((-1), q5.2) else (sX2_stuffTold_53 q5.2) else (sX2_stuffTold_42 q4.2) else (sX2_stuffTold_31 q3.2) else (sX2_stuffTold_20 q2.2) else (sX2_stuffTold_9 q1.2)
theorem kX2_stuffTold_0  (z : mm_S) (oo : mm_R) : mm_Xs (sX2_stuffTold_0  z) (fun v => (fun v : Int32 × mm_S => ((some (mm_I v.1), v.2) : mm_R)) v = oo) (fun n => eX2_stuffTold_0 n  z) oo :=
  xs_row (fun n => qX2_stuffTold_0 n z) (xs_bd fun q1 => (xs_if (xs_bd fun q2 => (xs_if (xs_bd fun q3 => (xs_if (xs_bd fun q4 => (xs_if (xs_bd fun q5 => (xs_if (xs_v fun hc => ⟨0, congrArg some hc⟩) (kX2_stuffTold_53 q5.2 oo))) (kX2_stuffTold_42 q4.2 oo))) (kX2_stuffTold_31 q3.2 oo))) (kX2_stuffTold_20 q2.2 oo))) (kX2_stuffTold_9 q1.2 oo)))
noncomputable def sX2_stuffTold  (z : mm_S) : Option (Int32 × mm_S) := sX2_stuffTold_0  z
theorem sp_X2_stuffTold  (z : mm_S) (hk : ∀ v ∈ [mm_P 2 37], mm_ok 46 lyTX 48 17 v) (q : Int32 × mm_S) (hq : sX2_stuffTold  z = some q) : f_X2_stuffTold [mm_P 2 37] z (some (mm_I q.1), q.2) := ⟨Nat.le_of_ble_eq_true rfl, kX2_stuffTold_0  z _ q hq rfl⟩
noncomputable def clo_X2_stuffTold (as : List mm_V) (z : mm_S) (kk : Option mm_V → mm_S → Option mm_R) : Option mm_R := mm_pr as fun t o0 as => bif Nat.beq t 2 then (match as with | [] => (sX2_stuffTold z).bind fun q => kk (some (mm_I q.1)) q.2 | _ => none) else none
theorem cs_X2_stuffTold : mm_cs lyTX 46 48 17 f_X2_stuffTold clo_X2_stuffTold := by
  intro as z K o hk h
  obtain ⟨t0, o0, r0, rfl, g0⟩ := mm_pr_e h
  obtain ⟨b0, k0⟩ := mm_bif_e g0
  obtain rfl := Nat.eq_of_beq_eq_true b0
  rcases r0 with _ | ⟨u, w⟩
  rotate_left
  · cases k0
  obtain rfl : o0 = 37 := ok2 (hk (mm_P 2 o0) (by simp))
  obtain ⟨q, hq, hq2⟩ := Option.bind_eq_some_iff.mp k0
  exact ⟨_, _, sp_X2_stuffTold  z hk q hq, fun v hv => by cases hv; exact Or.inl ⟨_, rfl⟩, hq2⟩
theorem sV_X2_stuffTold {own : String} {R : Room} {ar : Nat → Nat} {k : Nat} (hlink : Cond.methodLink own k yX2_stuffTold ∈ lw_gd ∨ ∃ host, (own, k, yX2_stuffTold, host) ∈ nmA) (har : ar k = 1) (hr : 6 ≤ R.frames ∧ 127 ≤ R.locals) : mm_okV lyTX lyFA lenX snX 46 48 17 roX rsA nfA nmA ssX own R ar k clo_X2_stuffTold := by
  refine ⟨yX2_stuffTold, cX2_stuffTold, 1, some .int, rm_X2_stuffTold, f_X2_stuffTold, 2, 0, (RX2, TX2, 6), M_X2_stuffTold, cs_X2_stuffTold, hlink, ⟨wv_X2_stuffTold, wz_X2_stuffTold, wi_X2_stuffTold, wc_X2_stuffTold⟩, ⟨by decide +kernel, by decide +kernel, by decide +kernel⟩, har, ⟨rfl, rfl, by decide⟩, ?_, ⟨rfl, rfl, hr.1, hr.2⟩⟩
  intro as z K o h
  obtain ⟨t0, o0, r0, rfl, g0⟩ := mm_pr_e h
  obtain ⟨b0, k0⟩ := mm_bif_e g0
  obtain rfl := Nat.eq_of_beq_eq_true b0
  exact ⟨_, _, rfl⟩
-- X2_readStuff
noncomputable def lV_X2_readStuff : List (Nat × (List mm_V → mm_S → (Option mm_V → mm_S → Option mm_R) → Option mm_R)) := [(26, clo_X2_nextToken), (55, clo_X2_isWord), (74, clo_X2_isNumber), (93, clo_X1_put)]
noncomputable def mV_X2_readStuff (k : Nat) (as : List mm_V) (z : mm_S) (kk : Option mm_V → mm_S → Option mm_R) : Option mm_R := match mm_at lV_X2_readStuff k with
  | some f => f as z kk
  | none => none
noncomputable def arV_X2_readStuff (k : Nat) : Nat := (mm_at [(26, 1), (55, 2), (74, 3), (93, 3)] k).getD 0
noncomputable def lS_X2_readStuff : List (Nat × (List mm_V → mm_S → (Option mm_V → mm_S → Option mm_R) → Option mm_R)) := []
noncomputable def mS_X2_readStuff (k : Nat) (as : List mm_V) (z : mm_S) (kk : Option mm_V → mm_S → Option mm_R) : Option mm_R := match mm_at lS_X2_readStuff k with
  | some f => f as z kk
  | none => none
noncomputable def arS_X2_readStuff (k : Nat) : Nat := (mm_at [] k).getD 0
def ct_X2_readStuff : List (Nat × List Nat) := [(4, [0, 1, 2]), (25, [0, 1, 2, 3]), (37, [0, 1, 2, 3]), (41, [0, 1, 2, 3]), (63, [1, 2, 3, 4]), (66, [1, 2, 4, 5]), (90, [1, 2, 4, 5])]
noncomputable def go_X2_readStuff : Nat → mm_K := mm_go (fun k => mm_at flX2 k) (fun k => mm_at clX2 k) (fun k => mm_at glX2 k) arV_X2_readStuff arS_X2_readStuff mV_X2_readStuff mS_X2_readStuff lenX roX snX 6 1 tbX2_readStuff ct_X2_readStuff
noncomputable def eX2_readStuff_0 (n : Nat)  (x1 : Nat) (x2 : Int32) (z : mm_S) : Option mm_R := go_X2_readStuff n 0 [(0, mm_P 2 37), (1, mm_P 0 x1), (2, mm_I x2)] [] z
noncomputable def eX2_readStuff_4 (n : Nat)  (y1 : Nat) (y2 : Int32) (z : mm_S) : Option mm_R := go_X2_readStuff n 4 [(0, mm_P 2 37), (1, mm_P 0 y1), (2, mm_I y2)] [] z
noncomputable def eX2_readStuff_25 (n : Nat)  (y1 : Nat) (y2 : Int32) (y3 : Int32) (z : mm_S) : Option mm_R := go_X2_readStuff n 25 [(0, mm_P 2 37), (1, mm_P 0 y1), (2, mm_I y2), (3, mm_I y3)] [] z
noncomputable def eX2_readStuff_63 (n : Nat) (y1 : Nat) (y2 : Int32) (y3 : Int32) (y4 : Int32) (z : mm_S) : Option mm_R := go_X2_readStuff n 63 [(1, mm_P 0 y1), (2, mm_I y2), (3, mm_I y3), (4, mm_I y4)] [] z
noncomputable def eX2_readStuff_37 (n : Nat)  (y1 : Nat) (y2 : Int32) (y3 : Int32) (z : mm_S) : Option mm_R := go_X2_readStuff n 37 [(0, mm_P 2 37), (1, mm_P 0 y1), (2, mm_I y2), (3, mm_I y3)] [] z
noncomputable def eX2_readStuff_66 (n : Nat) (y1 : Nat) (y2 : Int32) (y4 : Int32) (y5 : Int32) (z : mm_S) : Option mm_R := go_X2_readStuff n 66 [(1, mm_P 0 y1), (2, mm_I y2), (4, mm_I y4), (5, mm_I y5)] [] z
noncomputable def eX2_readStuff_41 (n : Nat)  (y1 : Nat) (y2 : Int32) (y3 : Int32) (z : mm_S) : Option mm_R := go_X2_readStuff n 41 [(0, mm_P 2 37), (1, mm_P 0 y1), (2, mm_I y2), (3, mm_I y3)] [] z
noncomputable def eX2_readStuff_90 (n : Nat) (y1 : Nat) (y2 : Int32) (y4 : Int32) (y5 : Int32) (z : mm_S) : Option mm_R := go_X2_readStuff n 90 [(1, mm_P 0 y1), (2, mm_I y2), (4, mm_I y4), (5, mm_I y5)] [] z
set_option maxRecDepth 100000 in
theorem qX2_readStuff_0 (n : Nat)  (x1 : Nat) (x2 : Int32) (z : mm_S) : eX2_readStuff_0 (n + 1) x1 x2 z = ((sX2_nextToken  z).bind fun q1 => eX2_readStuff_4 n x1 x2 q1) := rfl
set_option maxRecDepth 100000 in
theorem qX2_readStuff_4 (n : Nat)  (y1 : Nat) (y2 : Int32) (z : mm_S) : eX2_readStuff_4 (n + 1) y1 y2 z = (if (pX2_isNumber 0 35 z) = 0 then some (some (mm_I 0), z) else (sX2_nextToken  z).bind fun q2 => eX2_readStuff_25 n y1 y2 (z.1 37 5) q2) := rfl
set_option maxRecDepth 100000 in
theorem qX2_readStuff_25 (n : Nat)  (y1 : Nat) (y2 : Int32) (y3 : Int32) (z : mm_S) : eX2_readStuff_25 (n + 1) y1 y2 y3 z = ((sX2_isWord 16 z).bind fun q3 => if q3.1 = 0 then eX2_readStuff_63 n y1 y2 y3 y3 q3.2 else eX2_readStuff_37 n y1 y2 y3 q3.2) := rfl
set_option maxRecDepth 100000 in
theorem qX2_readStuff_63 (n : Nat) (y1 : Nat) (y2 : Int32) (y3 : Int32) (y4 : Int32) (z : mm_S) : eX2_readStuff_63 (n + 1) y1 y2 y3 y4 z = (eX2_readStuff_66 n y1 y2 y4 y3 z) := rfl
set_option maxRecDepth 100000 in
theorem qX2_readStuff_37 (n : Nat)  (y1 : Nat) (y2 : Int32) (y3 : Int32) (z : mm_S) : eX2_readStuff_37 (n + 1) y1 y2 y3 z = ((sX2_nextToken  z).bind fun q4 => eX2_readStuff_41 n y1 y2 y3 q4) := rfl
set_option maxRecDepth 100000 in
theorem qX2_readStuff_66 (n : Nat) (y1 : Nat) (y2 : Int32) (y4 : Int32) (y5 : Int32) (z : mm_S) : eX2_readStuff_66 (n + 1) y1 y2 y4 y5 z = (if y4 < y5 then some (some (mm_I 1), z) else if 36 ≤ y5 then some (some (mm_I 1), z) else let u5 := (tX1_put (y1 + 1) y5 y2 z); eX2_readStuff_90 n y1 y2 y4 y5 u5) := rfl
set_option maxRecDepth 100000 in
theorem qX2_readStuff_41 (n : Nat)  (y1 : Nat) (y2 : Int32) (y3 : Int32) (z : mm_S) : eX2_readStuff_41 (n + 1) y1 y2 y3 z = (if (pX2_isNumber y3 35 z) = 0 then some (some (mm_I 0), z) else (sX2_nextToken  z).bind fun q6 => eX2_readStuff_63 n y1 y2 y3 (z.1 37 5) q6) := rfl
set_option maxRecDepth 100000 in
theorem qX2_readStuff_90 (n : Nat) (y1 : Nat) (y2 : Int32) (y4 : Int32) (y5 : Int32) (z : mm_S) : eX2_readStuff_90 (n + 1) y1 y2 y4 y5 z = (eX2_readStuff_66 n y1 y2 y4 (y5 + 1) z) := rfl
def rm_X2_readStuff : Room := { frames := 5, cells := 0, slots := 0, locals := 107 }
noncomputable def f_X2_readStuff (as : List mm_V) (z : mm_S) (o : mm_R) : Prop := (as.map mm_cat).sum ≤ 6 ∧ ∃ n, go_X2_readStuff n 0 (mm_ar 0 as) [] z = some o
theorem M_X2_readStuff : mm_M lyTX lyFA lenX snX 46 48 17 roX rsA nfA nmA ssX yX2_readStuff cX2_readStuff 6 (some .boolean) rm_X2_readStuff f_X2_readStuff :=
  mm_met (rt := 1) (by decide +kernel) ⟨fun h => absurd h (by decide), fun h => rfl, fun h => absurd h (by decide), fun h => absurd h (by decide)⟩ tbX2_readStuff_ok hsnX okFX2 okLX2 okGX2 (fun _ _ _ _ => rfl) (fun _ _ _ _ => rfl) (List.forall_mem_cons.mpr ⟨sV_X2_nextToken (Or.inl lk_X2_26) rfl ⟨by decide, by decide⟩, List.forall_mem_cons.mpr ⟨sV_X2_isWord (Or.inl lk_X2_55) rfl ⟨by decide, by decide⟩, List.forall_mem_cons.mpr ⟨sV_X2_isNumber (Or.inl lk_X2_74) rfl ⟨by decide, by decide⟩, List.forall_mem_cons.mpr ⟨sV_X1_put (Or.inl lk_X2_93) rfl ⟨by decide, by decide⟩, fun _ h => absurd h List.not_mem_nil⟩⟩⟩⟩) (fun _ h => absurd h List.not_mem_nil)
noncomputable def sX2_readStuff_90 (y1 : Nat) (y2 : Int32) (y4 : Int32) (y5 : Int32) (z : mm_S) : Option ((Nat × Int32 × Int32 × Int32 × mm_S) ⊕ (Int32 × mm_S)) := some (.inl (y1, y2, y4, (y5 + 1), z))
theorem kX2_readStuff_90 (y1 : Nat) (y2 : Int32) (y4 : Int32) (y5 : Int32) (z : mm_S) (oo : mm_R) : mm_Xs (sX2_readStuff_90 y1 y2 y4 y5 z) (mm_mt (fun x : Nat × Int32 × Int32 × Int32 × mm_S => ∃ n, eX2_readStuff_66 n x.1 x.2.1 x.2.2.1 x.2.2.2.1 x.2.2.2.2 = some oo) (fun v => (fun v : Int32 × mm_S => ((some (mm_I v.1), v.2) : mm_R)) v = oo)) (fun n => eX2_readStuff_90 n y1 y2 y4 y5 z) oo :=
  xs_row (fun n => qX2_readStuff_90 n y1 y2 y4 y5 z) (xs_v fun hc => hc)
noncomputable def lX2_readStuff_66 (s : Nat × Int32 × Int32 × Int32 × mm_S) : Option ((Nat × Int32 × Int32 × Int32 × mm_S) ⊕ (Int32 × mm_S)) := if s.2.2.1 < s.2.2.2.1 then some (.inr (1, s.2.2.2.2)) else if 36 ≤ s.2.2.2.1 then some (.inr (1, s.2.2.2.2)) else let u5 := (tX1_put (s.1 + 1) s.2.2.2.1 s.2.1 s.2.2.2.2); (sX2_readStuff_90 s.1 s.2.1 s.2.2.1 s.2.2.2.1 u5)
noncomputable def sX2_readStuff_66 (y1 : Nat) (y2 : Int32) (y4 : Int32) (y5 : Int32) (z : mm_S) : Option (Int32 × mm_S) := mm_wh (lX2_readStuff_66 ) mm_fu (y1, y2, y4, y5, z)
theorem kX2_readStuff_66 (y1 : Nat) (y2 : Int32) (y4 : Int32) (y5 : Int32) (z : mm_S) (oo : mm_R) : mm_Xs (sX2_readStuff_66 y1 y2 y4 y5 z) (fun v => (fun v : Int32 × mm_S => ((some (mm_I v.1), v.2) : mm_R)) v = oo) (fun n => eX2_readStuff_66 n y1 y2 y4 y5 z) oo :=
  xs_wh (stp := lX2_readStuff_66 ) (o := oo) (E := (fun (s : Nat × Int32 × Int32 × Int32 × mm_S) n => eX2_readStuff_66 n s.1 s.2.1 s.2.2.1 s.2.2.2.1 s.2.2.2.2)) (C := (fun v => (fun v : Int32 × mm_S => ((some (mm_I v.1), v.2) : mm_R)) v = oo)) (fun s => xs_row (fun n => qX2_readStuff_66 n s.1 s.2.1 s.2.2.1 s.2.2.2.1 s.2.2.2.2) (xs_if (xs_v fun hc => ⟨0, congrArg some hc⟩) (xs_if (xs_v fun hc => ⟨0, congrArg some hc⟩) (xs_let ((tX1_put (s.1 + 1) s.2.2.2.1 s.2.1 s.2.2.2.2)) (S := fun (u5 : _) => ((sX2_readStuff_90 s.1 s.2.1 s.2.2.1 s.2.2.2.1 u5) : Option ((Nat × Int32 × Int32 × Int32 × mm_S) ⊕ (Int32 × mm_S)))) (T := fun (u5 : _) n => eX2_readStuff_90 n s.1 s.2.1 s.2.2.1 s.2.2.2.1 u5) (fun u5 => (kX2_readStuff_90 s.1 s.2.1 s.2.2.1 s.2.2.2.1 u5 oo)))))) mm_fu (y1, y2, y4, y5, z)
noncomputable def sX2_readStuff_63 (y1 : Nat) (y2 : Int32) (y3 : Int32) (y4 : Int32) (z : mm_S) : Option (Int32 × mm_S) := (sX2_readStuff_66 y1 y2 y4 y3 z)
theorem kX2_readStuff_63 (y1 : Nat) (y2 : Int32) (y3 : Int32) (y4 : Int32) (z : mm_S) (oo : mm_R) : mm_Xs (sX2_readStuff_63 y1 y2 y3 y4 z) (fun v => (fun v : Int32 × mm_S => ((some (mm_I v.1), v.2) : mm_R)) v = oo) (fun n => eX2_readStuff_63 n y1 y2 y3 y4 z) oo :=
  xs_row (fun n => qX2_readStuff_63 n y1 y2 y3 y4 z) (kX2_readStuff_66 y1 y2 y4 y3 z oo)
noncomputable def sX2_readStuff_41 (y1 : Nat) (y2 : Int32) (y3 : Int32) (z : mm_S) : Option (Int32 × mm_S) := if (pX2_isNumber y3 35 z) = 0 then some (0, z) else (sX2_nextToken  z).bind fun q6 => (sX2_readStuff_63 y1 y2 y3 (z.1 37 5) q6)
theorem kX2_readStuff_41 (y1 : Nat) (y2 : Int32) (y3 : Int32) (z : mm_S) (oo : mm_R) : mm_Xs (sX2_readStuff_41 y1 y2 y3 z) (fun v => (fun v : Int32 × mm_S => ((some (mm_I v.1), v.2) : mm_R)) v = oo) (fun n => eX2_readStuff_41 n y1 y2 y3 z) oo :=
  xs_row (fun n => qX2_readStuff_41 n y1 y2 y3 z) (xs_if (xs_v fun hc => ⟨0, congrArg some hc⟩) (xs_bd fun q6 => (kX2_readStuff_63 y1 y2 y3 (z.1 37 5) q6 oo)))
noncomputable def sX2_readStuff_37 (y1 : Nat) (y2 : Int32) (y3 : Int32) (z : mm_S) : Option (Int32 × mm_S) := (sX2_nextToken  z).bind fun q4 => (sX2_readStuff_41 y1 y2 y3 q4)
theorem kX2_readStuff_37 (y1 : Nat) (y2 : Int32) (y3 : Int32) (z : mm_S) (oo : mm_R) : mm_Xs (sX2_readStuff_37 y1 y2 y3 z) (fun v => (fun v : Int32 × mm_S => ((some (mm_I v.1), v.2) : mm_R)) v = oo) (fun n => eX2_readStuff_37 n y1 y2 y3 z) oo :=
  xs_row (fun n => qX2_readStuff_37 n y1 y2 y3 z) (xs_bd fun q4 => (kX2_readStuff_41 y1 y2 y3 q4 oo))
noncomputable def sX2_readStuff_25 (y1 : Nat) (y2 : Int32) (y3 : Int32) (z : mm_S) : Option (Int32 × mm_S) := (sX2_isWord 16 z).bind fun q3 => if q3.1 = 0 then (sX2_readStuff_63 y1 y2 y3 y3 q3.2) else (sX2_readStuff_37 y1 y2 y3 q3.2)
theorem kX2_readStuff_25 (y1 : Nat) (y2 : Int32) (y3 : Int32) (z : mm_S) (oo : mm_R) : mm_Xs (sX2_readStuff_25 y1 y2 y3 z) (fun v => (fun v : Int32 × mm_S => ((some (mm_I v.1), v.2) : mm_R)) v = oo) (fun n => eX2_readStuff_25 n y1 y2 y3 z) oo :=
  xs_row (fun n => qX2_readStuff_25 n y1 y2 y3 z) (xs_bd fun q3 => (xs_if (kX2_readStuff_63 y1 y2 y3 y3 q3.2 oo) (kX2_readStuff_37 y1 y2 y3 q3.2 oo)))
noncomputable def sX2_readStuff_4 (y1 : Nat) (y2 : Int32) (z : mm_S) : Option (Int32 × mm_S) := if (pX2_isNumber 0 35 z) = 0 then some (0, z) else (sX2_nextToken  z).bind fun q2 => (sX2_readStuff_25 y1 y2 (z.1 37 5) q2)
theorem kX2_readStuff_4 (y1 : Nat) (y2 : Int32) (z : mm_S) (oo : mm_R) : mm_Xs (sX2_readStuff_4 y1 y2 z) (fun v => (fun v : Int32 × mm_S => ((some (mm_I v.1), v.2) : mm_R)) v = oo) (fun n => eX2_readStuff_4 n y1 y2 z) oo :=
  xs_row (fun n => qX2_readStuff_4 n y1 y2 z) (xs_if (xs_v fun hc => ⟨0, congrArg some hc⟩) (xs_bd fun q2 => (kX2_readStuff_25 y1 y2 (z.1 37 5) q2 oo)))
noncomputable def sX2_readStuff_0 (x1 : Nat) (x2 : Int32) (z : mm_S) : Option (Int32 × mm_S) := (sX2_nextToken  z).bind fun q1 => (sX2_readStuff_4 x1 x2 q1)
theorem kX2_readStuff_0 (x1 : Nat) (x2 : Int32) (z : mm_S) (oo : mm_R) : mm_Xs (sX2_readStuff_0 x1 x2 z) (fun v => (fun v : Int32 × mm_S => ((some (mm_I v.1), v.2) : mm_R)) v = oo) (fun n => eX2_readStuff_0 n x1 x2 z) oo :=
  xs_row (fun n => qX2_readStuff_0 n x1 x2 z) (xs_bd fun q1 => (kX2_readStuff_4 x1 x2 q1 oo))
noncomputable def sX2_readStuff (x1 : Nat) (x2 : Int32) (z : mm_S) : Option (Int32 × mm_S) := sX2_readStuff_0 x1 x2 z
theorem sp_X2_readStuff (x1 : Nat) (x2 : Int32) (z : mm_S) (hk : ∀ v ∈ [mm_P 2 37, mm_P 0 x1, mm_I x2], mm_ok 46 lyTX 48 17 v) (q : Int32 × mm_S) (hq : sX2_readStuff x1 x2 z = some q) : f_X2_readStuff [mm_P 2 37, mm_P 0 x1, mm_I x2] z (some (mm_I q.1), q.2) := ⟨Nat.le_of_ble_eq_true rfl, kX2_readStuff_0 x1 x2 z _ q hq rfl⟩
noncomputable def clo_X2_readStuff (as : List mm_V) (z : mm_S) (kk : Option mm_V → mm_S → Option mm_R) : Option mm_R := mm_pr as fun t o0 as => bif Nat.beq t 2 then mm_pr as fun t o1 as => bif Nat.beq t 0 then mm_pi as fun a2 as => (match as with | [] => (sX2_readStuff o1 a2 z).bind fun q => kk (some (mm_I q.1)) q.2 | _ => none) else none else none
theorem cs_X2_readStuff : mm_cs lyTX 46 48 17 f_X2_readStuff clo_X2_readStuff := by
  intro as z K o hk h
  obtain ⟨t0, o0, r0, rfl, g0⟩ := mm_pr_e h
  obtain ⟨b0, k0⟩ := mm_bif_e g0
  obtain rfl := Nat.eq_of_beq_eq_true b0
  obtain ⟨t1, o1, r1, rfl, g1⟩ := mm_pr_e k0
  obtain ⟨b1, k1⟩ := mm_bif_e g1
  obtain rfl := Nat.eq_of_beq_eq_true b1
  obtain ⟨a2, r2, rfl, g2⟩ := mm_pi_e k1
  rcases r2 with _ | ⟨u, w⟩
  rotate_left
  · cases g2
  obtain rfl : o0 = 37 := ok2 (hk (mm_P 2 o0) (by simp))
  obtain ⟨q, hq, hq2⟩ := Option.bind_eq_some_iff.mp g2
  exact ⟨_, _, sp_X2_readStuff o1 a2 z hk q hq, fun v hv => by cases hv; exact Or.inl ⟨_, rfl⟩, hq2⟩
theorem sV_X2_readStuff {own : String} {R : Room} {ar : Nat → Nat} {k : Nat} (hlink : Cond.methodLink own k yX2_readStuff ∈ lw_gd ∨ ∃ host, (own, k, yX2_readStuff, host) ∈ nmA) (har : ar k = 3) (hr : 6 ≤ R.frames ∧ 132 ≤ R.locals) : mm_okV lyTX lyFA lenX snX 46 48 17 roX rsA nfA nmA ssX own R ar k clo_X2_readStuff := by
  refine ⟨yX2_readStuff, cX2_readStuff, 6, some .boolean, rm_X2_readStuff, f_X2_readStuff, 2, 2, (RX2, TX2, 6), M_X2_readStuff, cs_X2_readStuff, hlink, ⟨wv_X2_readStuff, wz_X2_readStuff, wi_X2_readStuff, wc_X2_readStuff⟩, ⟨by decide +kernel, by decide +kernel, by decide +kernel⟩, har, ⟨rfl, rfl, by decide⟩, ?_, ⟨rfl, rfl, hr.1, hr.2⟩⟩
  intro as z K o h
  obtain ⟨t0, o0, r0, rfl, g0⟩ := mm_pr_e h
  obtain ⟨b0, k0⟩ := mm_bif_e g0
  obtain rfl := Nat.eq_of_beq_eq_true b0
  exact ⟨_, _, rfl⟩
-- X2_readItem
noncomputable def lV_X2_readItem : List (Nat × (List mm_V → mm_S → (Option mm_V → mm_S → Option mm_R) → Option mm_R)) := [(39, clo_X2_kindTold), (43, clo_X2_readCrew), (47, clo_X2_stuffTold), (50, clo_X2_readStuff), (55, clo_X2_isWord), (59, clo_X2_readHeard), (64, clo_X2_readUnsure)]
noncomputable def mV_X2_readItem (k : Nat) (as : List mm_V) (z : mm_S) (kk : Option mm_V → mm_S → Option mm_R) : Option mm_R := match mm_at lV_X2_readItem k with
  | some f => f as z kk
  | none => none
noncomputable def arV_X2_readItem (k : Nat) : Nat := (mm_at [(39, 1), (43, 3), (47, 1), (50, 3), (55, 2), (59, 2), (64, 2)] k).getD 0
noncomputable def lS_X2_readItem : List (Nat × (List mm_V → mm_S → (Option mm_V → mm_S → Option mm_R) → Option mm_R)) := []
noncomputable def mS_X2_readItem (k : Nat) (as : List mm_V) (z : mm_S) (kk : Option mm_V → mm_S → Option mm_R) : Option mm_R := match mm_at lS_X2_readItem k with
  | some f => f as z kk
  | none => none
noncomputable def arS_X2_readItem (k : Nat) : Nat := (mm_at [] k).getD 0
def ct_X2_readItem : List (Nat × List Nat) := [(5, [0, 1, 2]), (17, [0, 1]), (22, [0, 1, 3]), (34, [0, 1]), (43, [0, 1]), (49, [0, 1]), (58, [0, 1]), (66, [])]
noncomputable def go_X2_readItem : Nat → mm_K := mm_go (fun k => mm_at flX2 k) (fun k => mm_at clX2 k) (fun k => mm_at glX2 k) arV_X2_readItem arS_X2_readItem mV_X2_readItem mS_X2_readItem lenX roX snX 4 1 tbX2_readItem ct_X2_readItem
noncomputable def eX2_readItem_0 (n : Nat)  (x1 : Nat) (z : mm_S) : Option mm_R := go_X2_readItem n 0 [(0, mm_P 2 37), (1, mm_P 0 x1)] [] z
noncomputable def eX2_readItem_5 (n : Nat)  (y1 : Nat) (y2 : Int32) (z : mm_S) : Option mm_R := go_X2_readItem n 5 [(0, mm_P 2 37), (1, mm_P 0 y1), (2, mm_I y2)] [] z
noncomputable def eX2_readItem_17 (n : Nat)  (y1 : Nat) (z : mm_S) : Option mm_R := go_X2_readItem n 17 [(0, mm_P 2 37), (1, mm_P 0 y1)] [] z
noncomputable def eX2_readItem_22 (n : Nat)  (y1 : Nat) (y3 : Int32) (z : mm_S) : Option mm_R := go_X2_readItem n 22 [(0, mm_P 2 37), (1, mm_P 0 y1), (3, mm_I y3)] [] z
noncomputable def eX2_readItem_34 (n : Nat)  (y1 : Nat) (z : mm_S) : Option mm_R := go_X2_readItem n 34 [(0, mm_P 2 37), (1, mm_P 0 y1)] [] z
noncomputable def eX2_readItem_49 (n : Nat)  (y1 : Nat) (z : mm_S) : Option mm_R := go_X2_readItem n 49 [(0, mm_P 2 37), (1, mm_P 0 y1)] [] z
noncomputable def eX2_readItem_43 (n : Nat)  (y1 : Nat) (z : mm_S) : Option mm_R := go_X2_readItem n 43 [(0, mm_P 2 37), (1, mm_P 0 y1)] [] z
noncomputable def eX2_readItem_58 (n : Nat)  (y1 : Nat) (z : mm_S) : Option mm_R := go_X2_readItem n 58 [(0, mm_P 2 37), (1, mm_P 0 y1)] [] z
noncomputable def eX2_readItem_66 (n : Nat)  (z : mm_S) : Option mm_R := go_X2_readItem n 66 [] [] z
set_option maxRecDepth 100000 in
theorem qX2_readItem_0 (n : Nat)  (x1 : Nat) (z : mm_S) : eX2_readItem_0 (n + 1) x1 z = ((sX2_kindTold  z).bind fun q1 => eX2_readItem_5 n x1 q1.1 q1.2) := rfl
set_option maxRecDepth 100000 in
theorem qX2_readItem_5 (n : Nat)  (y1 : Nat) (y2 : Int32) (z : mm_S) : eX2_readItem_5 (n + 1) y1 y2 z = (if y2 = (-1) then eX2_readItem_17 n y1 z else (sX2_readCrew y1 y2 z).bind fun q2 => mm_rt 1 q2.1 q2.2) := rfl
set_option maxRecDepth 100000 in
theorem qX2_readItem_17 (n : Nat)  (y1 : Nat) (z : mm_S) : eX2_readItem_17 (n + 1) y1 z = ((sX2_stuffTold  z).bind fun q3 => eX2_readItem_22 n y1 q3.1 q3.2) := rfl
set_option maxRecDepth 100000 in
theorem qX2_readItem_22 (n : Nat)  (y1 : Nat) (y3 : Int32) (z : mm_S) : eX2_readItem_22 (n + 1) y1 y3 z = (if y3 = (-1) then eX2_readItem_34 n y1 z else (sX2_readStuff y1 y3 z).bind fun q4 => mm_rt 1 q4.1 q4.2) := rfl
set_option maxRecDepth 100000 in
theorem qX2_readItem_34 (n : Nat)  (y1 : Nat) (z : mm_S) : eX2_readItem_34 (n + 1) y1 z = ((sX2_isWord 12 z).bind fun q5 => if q5.1 = 0 then eX2_readItem_49 n y1 q5.2 else eX2_readItem_43 n y1 q5.2) := rfl
set_option maxRecDepth 100000 in
theorem qX2_readItem_49 (n : Nat)  (y1 : Nat) (z : mm_S) : eX2_readItem_49 (n + 1) y1 z = ((sX2_isWord 13 z).bind fun q6 => if q6.1 = 0 then some (some (mm_I 0), q6.2) else eX2_readItem_58 n y1 q6.2) := rfl
set_option maxRecDepth 100000 in
theorem qX2_readItem_43 (n : Nat)  (y1 : Nat) (z : mm_S) : eX2_readItem_43 (n + 1) y1 z = ((sX2_readHeard y1 z).bind fun q7 => mm_rt 1 q7.1 q7.2) := rfl
set_option maxRecDepth 100000 in
theorem qX2_readItem_58 (n : Nat)  (y1 : Nat) (z : mm_S) : eX2_readItem_58 (n + 1) y1 z = ((sX2_readUnsure y1 z).bind fun q8 => if q8.1 = 0 then some (some (mm_I 0), q8.2) else eX2_readItem_66 n  q8.2) := rfl
set_option maxRecDepth 100000 in
theorem qX2_readItem_66 (n : Nat)  (z : mm_S) : eX2_readItem_66 (n + 1)  z = (some (some (mm_I 1), z)) := rfl
def rm_X2_readItem : Room := { frames := 6, cells := 0, slots := 0, locals := 132 }
noncomputable def f_X2_readItem (as : List mm_V) (z : mm_S) (o : mm_R) : Prop := (as.map mm_cat).sum ≤ 4 ∧ ∃ n, go_X2_readItem n 0 (mm_ar 0 as) [] z = some o
theorem M_X2_readItem : mm_M lyTX lyFA lenX snX 46 48 17 roX rsA nfA nmA ssX yX2_readItem cX2_readItem 4 (some .boolean) rm_X2_readItem f_X2_readItem :=
  mm_met (rt := 1) (by decide +kernel) ⟨fun h => absurd h (by decide), fun h => rfl, fun h => absurd h (by decide), fun h => absurd h (by decide)⟩ tbX2_readItem_ok hsnX okFX2 okLX2 okGX2 (fun _ _ _ _ => rfl) (fun _ _ _ _ => rfl) (List.forall_mem_cons.mpr ⟨sV_X2_kindTold (Or.inl lk_X2_39) rfl ⟨by decide, by decide⟩, List.forall_mem_cons.mpr ⟨sV_X2_readCrew (Or.inl lk_X2_43) rfl ⟨by decide, by decide⟩, List.forall_mem_cons.mpr ⟨sV_X2_stuffTold (Or.inl lk_X2_47) rfl ⟨by decide, by decide⟩, List.forall_mem_cons.mpr ⟨sV_X2_readStuff (Or.inl lk_X2_50) rfl ⟨by decide, by decide⟩, List.forall_mem_cons.mpr ⟨sV_X2_isWord (Or.inl lk_X2_55) rfl ⟨by decide, by decide⟩, List.forall_mem_cons.mpr ⟨sV_X2_readHeard (Or.inl lk_X2_59) rfl ⟨by decide, by decide⟩, List.forall_mem_cons.mpr ⟨sV_X2_readUnsure (Or.inl lk_X2_64) rfl ⟨by decide, by decide⟩, fun _ h => absurd h List.not_mem_nil⟩⟩⟩⟩⟩⟩⟩) (fun _ h => absurd h List.not_mem_nil)
noncomputable def sX2_readItem_43 (y1 : Nat) (z : mm_S) : Option (Int32 × mm_S) := (sX2_readHeard y1 z).bind fun q7 => if q7.1 = 0 then some (0, q7.2) else if q7.1 = 1 then some (1, q7.2) else none
theorem kX2_readItem_43 (y1 : Nat) (z : mm_S) (oo : mm_R) : mm_Xs (sX2_readItem_43 y1 z) (fun v => (fun v : Int32 × mm_S => ((some (mm_I v.1), v.2) : mm_R)) v = oo) (fun n => eX2_readItem_43 n y1 z) oo :=
  xs_row (fun n => qX2_readItem_43 n y1 z) (xs_bd fun q7 => (xs_if (X := fun _ => some (some (mm_I 0), q7.2)) (Y := fun _ => if q7.1 = 1 then some (some (mm_I 1), q7.2) else none) (xs_v fun hc => ⟨0, congrArg some hc⟩) (xs_if (X := fun _ => some (some (mm_I 1), q7.2)) (Y := fun _ => none) (xs_v fun hc => ⟨0, congrArg some hc⟩) xs_n)))
noncomputable def sX2_readItem_66  (z : mm_S) : Option (Int32 × mm_S) := some (1, z)
theorem kX2_readItem_66  (z : mm_S) (oo : mm_R) : mm_Xs (sX2_readItem_66  z) (fun v => (fun v : Int32 × mm_S => ((some (mm_I v.1), v.2) : mm_R)) v = oo) (fun n => eX2_readItem_66 n  z) oo :=
  xs_row (fun n => qX2_readItem_66 n z) (xs_v fun hc => ⟨0, congrArg some hc⟩)
noncomputable def sX2_readItem_58 (y1 : Nat) (z : mm_S) : Option (Int32 × mm_S) := (sX2_readUnsure y1 z).bind fun q8 => if q8.1 = 0 then some (0, q8.2) else (sX2_readItem_66 q8.2)
theorem kX2_readItem_58 (y1 : Nat) (z : mm_S) (oo : mm_R) : mm_Xs (sX2_readItem_58 y1 z) (fun v => (fun v : Int32 × mm_S => ((some (mm_I v.1), v.2) : mm_R)) v = oo) (fun n => eX2_readItem_58 n y1 z) oo :=
  xs_row (fun n => qX2_readItem_58 n y1 z) (xs_bd fun q8 => (xs_if (xs_v fun hc => ⟨0, congrArg some hc⟩) (kX2_readItem_66 q8.2 oo)))
noncomputable def sX2_readItem_49 (y1 : Nat) (z : mm_S) : Option (Int32 × mm_S) := (sX2_isWord 13 z).bind fun q6 => if q6.1 = 0 then some (0, q6.2) else (sX2_readItem_58 y1 q6.2)
theorem kX2_readItem_49 (y1 : Nat) (z : mm_S) (oo : mm_R) : mm_Xs (sX2_readItem_49 y1 z) (fun v => (fun v : Int32 × mm_S => ((some (mm_I v.1), v.2) : mm_R)) v = oo) (fun n => eX2_readItem_49 n y1 z) oo :=
  xs_row (fun n => qX2_readItem_49 n y1 z) (xs_bd fun q6 => (xs_if (xs_v fun hc => ⟨0, congrArg some hc⟩) (kX2_readItem_58 y1 q6.2 oo)))
noncomputable def sX2_readItem_34 (y1 : Nat) (z : mm_S) : Option (Int32 × mm_S) := (sX2_isWord 12 z).bind fun q5 => if q5.1 = 0 then (sX2_readItem_49 y1 q5.2) else (sX2_readItem_43 y1 q5.2)
theorem kX2_readItem_34 (y1 : Nat) (z : mm_S) (oo : mm_R) : mm_Xs (sX2_readItem_34 y1 z) (fun v => (fun v : Int32 × mm_S => ((some (mm_I v.1), v.2) : mm_R)) v = oo) (fun n => eX2_readItem_34 n y1 z) oo :=
  xs_row (fun n => qX2_readItem_34 n y1 z) (xs_bd fun q5 => (xs_if (kX2_readItem_49 y1 q5.2 oo) (kX2_readItem_43 y1 q5.2 oo)))
noncomputable def sX2_readItem_22 (y1 : Nat) (y3 : Int32) (z : mm_S) : Option (Int32 × mm_S) := if y3 = (-1) then (sX2_readItem_34 y1 z) else (sX2_readStuff y1 y3 z).bind fun q4 => if q4.1 = 0 then some (0, q4.2) else if q4.1 = 1 then some (1, q4.2) else none
theorem kX2_readItem_22 (y1 : Nat) (y3 : Int32) (z : mm_S) (oo : mm_R) : mm_Xs (sX2_readItem_22 y1 y3 z) (fun v => (fun v : Int32 × mm_S => ((some (mm_I v.1), v.2) : mm_R)) v = oo) (fun n => eX2_readItem_22 n y1 y3 z) oo :=
  xs_row (fun n => qX2_readItem_22 n y1 y3 z) (xs_if (kX2_readItem_34 y1 z oo) (xs_bd fun q4 => (xs_if (X := fun _ => some (some (mm_I 0), q4.2)) (Y := fun _ => if q4.1 = 1 then some (some (mm_I 1), q4.2) else none) (xs_v fun hc => ⟨0, congrArg some hc⟩) (xs_if (X := fun _ => some (some (mm_I 1), q4.2)) (Y := fun _ => none) (xs_v fun hc => ⟨0, congrArg some hc⟩) xs_n))))
noncomputable def sX2_readItem_17 (y1 : Nat) (z : mm_S) : Option (Int32 × mm_S) := (sX2_stuffTold  z).bind fun q3 => (sX2_readItem_22 y1 q3.1 q3.2)
theorem kX2_readItem_17 (y1 : Nat) (z : mm_S) (oo : mm_R) : mm_Xs (sX2_readItem_17 y1 z) (fun v => (fun v : Int32 × mm_S => ((some (mm_I v.1), v.2) : mm_R)) v = oo) (fun n => eX2_readItem_17 n y1 z) oo :=
  xs_row (fun n => qX2_readItem_17 n y1 z) (xs_bd fun q3 => (kX2_readItem_22 y1 q3.1 q3.2 oo))
noncomputable def sX2_readItem_5 (y1 : Nat) (y2 : Int32) (z : mm_S) : Option (Int32 × mm_S) := if y2 = (-1) then (sX2_readItem_17 y1 z) else (sX2_readCrew y1 y2 z).bind fun q2 => if q2.1 = 0 then some (0, q2.2) else if q2.1 = 1 then some (1, q2.2) else none
theorem kX2_readItem_5 (y1 : Nat) (y2 : Int32) (z : mm_S) (oo : mm_R) : mm_Xs (sX2_readItem_5 y1 y2 z) (fun v => (fun v : Int32 × mm_S => ((some (mm_I v.1), v.2) : mm_R)) v = oo) (fun n => eX2_readItem_5 n y1 y2 z) oo :=
  xs_row (fun n => qX2_readItem_5 n y1 y2 z) (xs_if (kX2_readItem_17 y1 z oo) (xs_bd fun q2 => (xs_if (X := fun _ => some (some (mm_I 0), q2.2)) (Y := fun _ => if q2.1 = 1 then some (some (mm_I 1), q2.2) else none) (xs_v fun hc => ⟨0, congrArg some hc⟩) (xs_if (X := fun _ => some (some (mm_I 1), q2.2)) (Y := fun _ => none) (xs_v fun hc => ⟨0, congrArg some hc⟩) xs_n))))
noncomputable def sX2_readItem_0 (x1 : Nat) (z : mm_S) : Option (Int32 × mm_S) := (sX2_kindTold  z).bind fun q1 => (sX2_readItem_5 x1 q1.1 q1.2)
theorem kX2_readItem_0 (x1 : Nat) (z : mm_S) (oo : mm_R) : mm_Xs (sX2_readItem_0 x1 z) (fun v => (fun v : Int32 × mm_S => ((some (mm_I v.1), v.2) : mm_R)) v = oo) (fun n => eX2_readItem_0 n x1 z) oo :=
  xs_row (fun n => qX2_readItem_0 n x1 z) (xs_bd fun q1 => (kX2_readItem_5 x1 q1.1 q1.2 oo))
noncomputable def sX2_readItem (x1 : Nat) (z : mm_S) : Option (Int32 × mm_S) := sX2_readItem_0 x1 z
theorem sp_X2_readItem (x1 : Nat) (z : mm_S) (hk : ∀ v ∈ [mm_P 2 37, mm_P 0 x1], mm_ok 46 lyTX 48 17 v) (q : Int32 × mm_S) (hq : sX2_readItem x1 z = some q) : f_X2_readItem [mm_P 2 37, mm_P 0 x1] z (some (mm_I q.1), q.2) := ⟨Nat.le_of_ble_eq_true rfl, kX2_readItem_0 x1 z _ q hq rfl⟩
noncomputable def clo_X2_readItem (as : List mm_V) (z : mm_S) (kk : Option mm_V → mm_S → Option mm_R) : Option mm_R := mm_pr as fun t o0 as => bif Nat.beq t 2 then mm_pr as fun t o1 as => bif Nat.beq t 0 then (match as with | [] => (sX2_readItem o1 z).bind fun q => kk (some (mm_I q.1)) q.2 | _ => none) else none else none
theorem cs_X2_readItem : mm_cs lyTX 46 48 17 f_X2_readItem clo_X2_readItem := by
  intro as z K o hk h
  obtain ⟨t0, o0, r0, rfl, g0⟩ := mm_pr_e h
  obtain ⟨b0, k0⟩ := mm_bif_e g0
  obtain rfl := Nat.eq_of_beq_eq_true b0
  obtain ⟨t1, o1, r1, rfl, g1⟩ := mm_pr_e k0
  obtain ⟨b1, k1⟩ := mm_bif_e g1
  obtain rfl := Nat.eq_of_beq_eq_true b1
  rcases r1 with _ | ⟨u, w⟩
  rotate_left
  · cases k1
  obtain rfl : o0 = 37 := ok2 (hk (mm_P 2 o0) (by simp))
  obtain ⟨q, hq, hq2⟩ := Option.bind_eq_some_iff.mp k1
  exact ⟨_, _, sp_X2_readItem o1 z hk q hq, fun v hv => by cases hv; exact Or.inl ⟨_, rfl⟩, hq2⟩
theorem sV_X2_readItem {own : String} {R : Room} {ar : Nat → Nat} {k : Nat} (hlink : Cond.methodLink own k yX2_readItem ∈ lw_gd ∨ ∃ host, (own, k, yX2_readItem, host) ∈ nmA) (har : ar k = 2) (hr : 7 ≤ R.frames ∧ 155 ≤ R.locals) : mm_okV lyTX lyFA lenX snX 46 48 17 roX rsA nfA nmA ssX own R ar k clo_X2_readItem := by
  refine ⟨yX2_readItem, cX2_readItem, 4, some .boolean, rm_X2_readItem, f_X2_readItem, 2, 1, (RX2, TX2, 6), M_X2_readItem, cs_X2_readItem, hlink, ⟨wv_X2_readItem, wz_X2_readItem, wi_X2_readItem, wc_X2_readItem⟩, ⟨by decide +kernel, by decide +kernel, by decide +kernel⟩, har, ⟨rfl, rfl, by decide⟩, ?_, ⟨rfl, rfl, hr.1, hr.2⟩⟩
  intro as z K o h
  obtain ⟨t0, o0, r0, rfl, g0⟩ := mm_pr_e h
  obtain ⟨b0, k0⟩ := mm_bif_e g0
  obtain rfl := Nat.eq_of_beq_eq_true b0
  exact ⟨_, _, rfl⟩
-- X2_readInto
noncomputable def lV_X2_readInto : List (Nat × (List mm_V → mm_S → (Option mm_V → mm_S → Option mm_R) → Option mm_R)) := [(26, clo_X2_nextToken), (29, clo_X2_readItem)]
noncomputable def mV_X2_readInto (k : Nat) (as : List mm_V) (z : mm_S) (kk : Option mm_V → mm_S → Option mm_R) : Option mm_R := match mm_at lV_X2_readInto k with
  | some f => f as z kk
  | none => none
noncomputable def arV_X2_readInto (k : Nat) : Nat := (mm_at [(26, 1), (29, 2)] k).getD 0
noncomputable def lS_X2_readInto : List (Nat × (List mm_V → mm_S → (Option mm_V → mm_S → Option mm_R) → Option mm_R)) := []
noncomputable def mS_X2_readInto (k : Nat) (as : List mm_V) (z : mm_S) (kk : Option mm_V → mm_S → Option mm_R) : Option mm_R := match mm_at lS_X2_readInto k with
  | some f => f as z kk
  | none => none
noncomputable def arS_X2_readInto (k : Nat) : Nat := (mm_at [] k).getD 0
def ct_X2_readInto : List (Nat × List Nat) := [(5, [0, 1]), (9, [0, 1]), (11, [0, 1, 2]), (25, [0]), (60, [0, 1, 2])]
noncomputable def go_X2_readInto : Nat → mm_K := mm_go (fun k => mm_at flX2 k) (fun k => mm_at clX2 k) (fun k => mm_at glX2 k) arV_X2_readInto arS_X2_readInto mV_X2_readInto mS_X2_readInto lenX roX snX 3 0 tbX2_readInto ct_X2_readInto
noncomputable def eX2_readInto_0 (n : Nat)  (x1 : Nat) (z : mm_S) : Option mm_R := go_X2_readInto n 0 [(0, mm_P 2 37), (1, mm_P 0 x1)] [] z
noncomputable def eX2_readInto_5 (n : Nat)  (y1 : Nat) (z : mm_S) : Option mm_R := go_X2_readInto n 5 [(0, mm_P 2 37), (1, mm_P 0 y1)] [] z
noncomputable def eX2_readInto_9 (n : Nat)  (y1 : Nat) (z : mm_S) : Option mm_R := go_X2_readInto n 9 [(0, mm_P 2 37), (1, mm_P 0 y1)] [] z
noncomputable def eX2_readInto_11 (n : Nat)  (y1 : Nat) (y2 : Int32) (z : mm_S) : Option mm_R := go_X2_readInto n 11 [(0, mm_P 2 37), (1, mm_P 0 y1), (2, mm_I y2)] [] z
noncomputable def eX2_readInto_60 (n : Nat)  (y1 : Nat) (y2 : Int32) (z : mm_S) : Option mm_R := go_X2_readInto n 60 [(0, mm_P 2 37), (1, mm_P 0 y1), (2, mm_I y2)] [] z
noncomputable def eX2_readInto_25 (n : Nat)  (z : mm_S) : Option mm_R := go_X2_readInto n 25 [(0, mm_P 2 37)] [] z
set_option maxRecDepth 100000 in
theorem qX2_readInto_0 (n : Nat)  (x1 : Nat) (z : mm_S) : eX2_readInto_0 (n + 1) x1 z = (eX2_readInto_5 n x1 ((mm_ui z.1 37 4 0), z.2)) := rfl
set_option maxRecDepth 100000 in
theorem qX2_readInto_5 (n : Nat)  (y1 : Nat) (z : mm_S) : eX2_readInto_5 (n + 1) y1 z = ((sX2_nextToken  z).bind fun q1 => eX2_readInto_9 n y1 q1) := rfl
set_option maxRecDepth 100000 in
theorem qX2_readInto_9 (n : Nat)  (y1 : Nat) (z : mm_S) : eX2_readInto_9 (n + 1) y1 z = (eX2_readInto_11 n y1 1 z) := rfl
set_option maxRecDepth 100000 in
theorem qX2_readInto_11 (n : Nat)  (y1 : Nat) (y2 : Int32) (z : mm_S) : eX2_readInto_11 (n + 1) y1 y2 z = (if 120 < y2 then some (some (mm_I ((-1) - (z.1 37 3))), z) else (sX2_readItem y1 z).bind fun q2 => if q2.1 = 0 then eX2_readInto_25 n  q2.2 else if (q2.2.1 37 2) = 0 then some (some (mm_I y2), q2.2) else if (q2.2.1 37 2) = 3 then (sX2_nextToken  q2.2).bind fun q3 => eX2_readInto_60 n y1 y2 q3 else some (some (mm_I ((-1) - (q2.2.1 37 3))), q2.2)) := rfl
set_option maxRecDepth 100000 in
theorem qX2_readInto_60 (n : Nat)  (y1 : Nat) (y2 : Int32) (z : mm_S) : eX2_readInto_60 (n + 1) y1 y2 z = (eX2_readInto_11 n y1 (y2 + 1) z) := rfl
set_option maxRecDepth 100000 in
theorem qX2_readInto_25 (n : Nat)  (z : mm_S) : eX2_readInto_25 (n + 1)  z = (some (some (mm_I ((-1) - (z.1 37 3))), z)) := rfl
def rm_X2_readInto : Room := { frames := 7, cells := 0, slots := 0, locals := 155 }
noncomputable def f_X2_readInto (as : List mm_V) (z : mm_S) (o : mm_R) : Prop := (as.map mm_cat).sum ≤ 3 ∧ ∃ n, go_X2_readInto n 0 (mm_ar 0 as) [] z = some o
theorem M_X2_readInto : mm_M lyTX lyFA lenX snX 46 48 17 roX rsA nfA nmA ssX yX2_readInto cX2_readInto 3 (some .int) rm_X2_readInto f_X2_readInto :=
  mm_met (rt := 0) (by decide +kernel) ⟨fun h => rfl, fun h => absurd h (by decide), fun h => absurd h (by decide), fun h => absurd h (by decide)⟩ tbX2_readInto_ok hsnX okFX2 okLX2 okGX2 (fun _ _ _ _ => rfl) (fun _ _ _ _ => rfl) (List.forall_mem_cons.mpr ⟨sV_X2_nextToken (Or.inl lk_X2_26) rfl ⟨by decide, by decide⟩, List.forall_mem_cons.mpr ⟨sV_X2_readItem (Or.inl lk_X2_29) rfl ⟨by decide, by decide⟩, fun _ h => absurd h List.not_mem_nil⟩⟩) (fun _ h => absurd h List.not_mem_nil)
noncomputable def sX2_readInto_25  (z : mm_S) : Option (Int32 × mm_S) := some (((-1) - (z.1 37 3)), z)
theorem kX2_readInto_25  (z : mm_S) (oo : mm_R) : mm_Xs (sX2_readInto_25  z) (fun v => (fun v : Int32 × mm_S => ((some (mm_I v.1), v.2) : mm_R)) v = oo) (fun n => eX2_readInto_25 n  z) oo :=
  xs_row (fun n => qX2_readInto_25 n z) (xs_v fun hc => ⟨0, congrArg some hc⟩)
noncomputable def sX2_readInto_60 (y1 : Nat) (y2 : Int32) (z : mm_S) : Option ((Nat × Int32 × mm_S) ⊕ (Int32 × mm_S)) := some (.inl (y1, (y2 + 1), z))
theorem kX2_readInto_60 (y1 : Nat) (y2 : Int32) (z : mm_S) (oo : mm_R) : mm_Xs (sX2_readInto_60 y1 y2 z) (mm_mt (fun x : Nat × Int32 × mm_S => ∃ n, eX2_readInto_11 n x.1 x.2.1 x.2.2 = some oo) (fun v => (fun v : Int32 × mm_S => ((some (mm_I v.1), v.2) : mm_R)) v = oo)) (fun n => eX2_readInto_60 n y1 y2 z) oo :=
  xs_row (fun n => qX2_readInto_60 n y1 y2 z) (xs_v fun hc => hc)
noncomputable def lX2_readInto_11 (s : Nat × Int32 × mm_S) : Option ((Nat × Int32 × mm_S) ⊕ (Int32 × mm_S)) := if 120 < s.2.1 then some (.inr (((-1) - (s.2.2.1 37 3)), s.2.2)) else (sX2_readItem s.1 s.2.2).bind fun q2 => if q2.1 = 0 then ((sX2_readInto_25 q2.2).map fun w => (Sum.inr w)) else if (q2.2.1 37 2) = 0 then some (.inr (s.2.1, q2.2)) else if (q2.2.1 37 2) = 3 then (sX2_nextToken  q2.2).bind fun q3 => (sX2_readInto_60 s.1 s.2.1 q3) else some (.inr (((-1) - (q2.2.1 37 3)), q2.2))
noncomputable def sX2_readInto_11 (y1 : Nat) (y2 : Int32) (z : mm_S) : Option (Int32 × mm_S) := mm_wh (lX2_readInto_11 ) mm_fu (y1, y2, z)
theorem kX2_readInto_11 (y1 : Nat) (y2 : Int32) (z : mm_S) (oo : mm_R) : mm_Xs (sX2_readInto_11 y1 y2 z) (fun v => (fun v : Int32 × mm_S => ((some (mm_I v.1), v.2) : mm_R)) v = oo) (fun n => eX2_readInto_11 n y1 y2 z) oo :=
  xs_wh (stp := lX2_readInto_11 ) (o := oo) (E := (fun (s : Nat × Int32 × mm_S) n => eX2_readInto_11 n s.1 s.2.1 s.2.2)) (C := (fun v => (fun v : Int32 × mm_S => ((some (mm_I v.1), v.2) : mm_R)) v = oo)) (fun s => xs_row (fun n => qX2_readInto_11 n s.1 s.2.1 s.2.2) (xs_if (xs_v fun hc => ⟨0, congrArg some hc⟩) (xs_bd fun q2 => (xs_if (xs_map (f := fun w => (Sum.inr w)) (kX2_readInto_25 q2.2 oo) (fun _ h => h)) (xs_if (xs_v fun hc => ⟨0, congrArg some hc⟩) (xs_if (xs_bd fun q3 => (kX2_readInto_60 s.1 s.2.1 q3 oo)) (xs_v fun hc => ⟨0, congrArg some hc⟩))))))) mm_fu (y1, y2, z)
noncomputable def sX2_readInto_9 (y1 : Nat) (z : mm_S) : Option (Int32 × mm_S) := (sX2_readInto_11 y1 1 z)
theorem kX2_readInto_9 (y1 : Nat) (z : mm_S) (oo : mm_R) : mm_Xs (sX2_readInto_9 y1 z) (fun v => (fun v : Int32 × mm_S => ((some (mm_I v.1), v.2) : mm_R)) v = oo) (fun n => eX2_readInto_9 n y1 z) oo :=
  xs_row (fun n => qX2_readInto_9 n y1 z) (kX2_readInto_11 y1 1 z oo)
noncomputable def sX2_readInto_5 (y1 : Nat) (z : mm_S) : Option (Int32 × mm_S) := (sX2_nextToken  z).bind fun q1 => (sX2_readInto_9 y1 q1)
theorem kX2_readInto_5 (y1 : Nat) (z : mm_S) (oo : mm_R) : mm_Xs (sX2_readInto_5 y1 z) (fun v => (fun v : Int32 × mm_S => ((some (mm_I v.1), v.2) : mm_R)) v = oo) (fun n => eX2_readInto_5 n y1 z) oo :=
  xs_row (fun n => qX2_readInto_5 n y1 z) (xs_bd fun q1 => (kX2_readInto_9 y1 q1 oo))
noncomputable def sX2_readInto_0 (x1 : Nat) (z : mm_S) : Option (Int32 × mm_S) := (sX2_readInto_5 x1 ((mm_ui z.1 37 4 0), z.2))
theorem kX2_readInto_0 (x1 : Nat) (z : mm_S) (oo : mm_R) : mm_Xs (sX2_readInto_0 x1 z) (fun v => (fun v : Int32 × mm_S => ((some (mm_I v.1), v.2) : mm_R)) v = oo) (fun n => eX2_readInto_0 n x1 z) oo :=
  xs_row (fun n => qX2_readInto_0 n x1 z) (kX2_readInto_5 x1 ((mm_ui z.1 37 4 0), z.2) oo)
noncomputable def sX2_readInto (x1 : Nat) (z : mm_S) : Option (Int32 × mm_S) := sX2_readInto_0 x1 z
theorem sp_X2_readInto (x1 : Nat) (z : mm_S) (hk : ∀ v ∈ [mm_P 2 37, mm_P 0 x1], mm_ok 46 lyTX 48 17 v) (q : Int32 × mm_S) (hq : sX2_readInto x1 z = some q) : f_X2_readInto [mm_P 2 37, mm_P 0 x1] z (some (mm_I q.1), q.2) := ⟨Nat.le_of_ble_eq_true rfl, kX2_readInto_0 x1 z _ q hq rfl⟩
noncomputable def clo_X2_readInto (as : List mm_V) (z : mm_S) (kk : Option mm_V → mm_S → Option mm_R) : Option mm_R := mm_pr as fun t o0 as => bif Nat.beq t 2 then mm_pr as fun t o1 as => bif Nat.beq t 0 then (match as with | [] => (sX2_readInto o1 z).bind fun q => kk (some (mm_I q.1)) q.2 | _ => none) else none else none
theorem cs_X2_readInto : mm_cs lyTX 46 48 17 f_X2_readInto clo_X2_readInto := by
  intro as z K o hk h
  obtain ⟨t0, o0, r0, rfl, g0⟩ := mm_pr_e h
  obtain ⟨b0, k0⟩ := mm_bif_e g0
  obtain rfl := Nat.eq_of_beq_eq_true b0
  obtain ⟨t1, o1, r1, rfl, g1⟩ := mm_pr_e k0
  obtain ⟨b1, k1⟩ := mm_bif_e g1
  obtain rfl := Nat.eq_of_beq_eq_true b1
  rcases r1 with _ | ⟨u, w⟩
  rotate_left
  · cases k1
  obtain rfl : o0 = 37 := ok2 (hk (mm_P 2 o0) (by simp))
  obtain ⟨q, hq, hq2⟩ := Option.bind_eq_some_iff.mp k1
  exact ⟨_, _, sp_X2_readInto o1 z hk q hq, fun v hv => by cases hv; exact Or.inl ⟨_, rfl⟩, hq2⟩
theorem sV_X2_readInto {own : String} {R : Room} {ar : Nat → Nat} {k : Nat} (hlink : Cond.methodLink own k yX2_readInto ∈ lw_gd ∨ ∃ host, (own, k, yX2_readInto, host) ∈ nmA) (har : ar k = 2) (hr : 8 ≤ R.frames ∧ 177 ≤ R.locals) : mm_okV lyTX lyFA lenX snX 46 48 17 roX rsA nfA nmA ssX own R ar k clo_X2_readInto := by
  refine ⟨yX2_readInto, cX2_readInto, 3, some .int, rm_X2_readInto, f_X2_readInto, 2, 1, (RX2, TX2, 6), M_X2_readInto, cs_X2_readInto, hlink, ⟨wv_X2_readInto, wz_X2_readInto, wi_X2_readInto, wc_X2_readInto⟩, ⟨by decide +kernel, by decide +kernel, by decide +kernel⟩, har, ⟨rfl, rfl, by decide⟩, ?_, ⟨rfl, rfl, hr.1, hr.2⟩⟩
  intro as z K o h
  obtain ⟨t0, o0, r0, rfl, g0⟩ := mm_pr_e h
  obtain ⟨b0, k0⟩ := mm_bif_e g0
  obtain rfl := Nat.eq_of_beq_eq_true b0
  exact ⟨_, _, rfl⟩
-- X3_text
noncomputable def lV_X3_text : List (Nat × (List mm_V → mm_S → (Option mm_V → mm_S → Option mm_R) → Option mm_R)) := [(283, clo_X0_become), (296, clo_X2_readInto)]
noncomputable def mV_X3_text (k : Nat) (as : List mm_V) (z : mm_S) (kk : Option mm_V → mm_S → Option mm_R) : Option mm_R := match mm_at lV_X3_text k with
  | some f => f as z kk
  | none => none
noncomputable def arV_X3_text (k : Nat) : Nat := (mm_at [(283, 2), (296, 2)] k).getD 0
noncomputable def lS_X3_text : List (Nat × (List mm_V → mm_S → (Option mm_V → mm_S → Option mm_R) → Option mm_R)) := []
noncomputable def mS_X3_text (k : Nat) (as : List mm_V) (z : mm_S) (kk : Option mm_V → mm_S → Option mm_R) : Option mm_R := match mm_at lS_X3_text k with
  | some f => f as z kk
  | none => none
noncomputable def arS_X3_text (k : Nat) : Nat := (mm_at [] k).getD 0
def ct_X3_text : List (Nat × List Nat) := [(11, [0]), (23, [0, 1]), (31, [0, 1]), (46, [1])]
noncomputable def go_X3_text : Nat → mm_K := mm_go (fun k => mm_at flX3 k) (fun k => mm_at clX3 k) (fun k => mm_at glX3 k) arV_X3_text arS_X3_text mV_X3_text mS_X3_text lenX roX snX 2 0 tbX3_text ct_X3_text
noncomputable def eX3_text_0 (n : Nat)  (z : mm_S) : Option mm_R := go_X3_text n 0 [(0, mm_P 3 0)] [] z
noncomputable def eX3_text_11 (n : Nat)  (z : mm_S) : Option mm_R := go_X3_text n 11 [(0, mm_P 3 0)] [] z
noncomputable def eX3_text_23 (n : Nat)  (y1 : Int32) (z : mm_S) : Option mm_R := go_X3_text n 23 [(0, mm_P 3 0), (1, mm_I y1)] [] z
noncomputable def eX3_text_31 (n : Nat)  (y1 : Int32) (z : mm_S) : Option mm_R := go_X3_text n 31 [(0, mm_P 3 0), (1, mm_I y1)] [] z
noncomputable def eX3_text_46 (n : Nat) (y1 : Int32) (z : mm_S) : Option mm_R := go_X3_text n 46 [(1, mm_I y1)] [] z
set_option maxRecDepth 100000 in
theorem qX3_text_0 (n : Nat)  (z : mm_S) : eX3_text_0 (n + 1)  z = (let u1 := (tX0_become 25 1 z); eX3_text_11 n  u1) := rfl
set_option maxRecDepth 100000 in
theorem qX3_text_11 (n : Nat)  (z : mm_S) : eX3_text_11 (n + 1)  z = ((sX2_readInto 25 z).bind fun q2 => eX3_text_23 n q2.1 q2.2) := rfl
set_option maxRecDepth 100000 in
theorem qX3_text_23 (n : Nat)  (y1 : Int32) (z : mm_S) : eX3_text_23 (n + 1) y1 z = (eX3_text_31 n y1 ((mm_ui z.1 37 1 0), z.2)) := rfl
set_option maxRecDepth 100000 in
theorem qX3_text_31 (n : Nat)  (y1 : Int32) (z : mm_S) : eX3_text_31 (n + 1) y1 z = (if y1 ≤ 0 then eX3_text_46 n y1 z else let u3 := (tX0_become 1 25 z); eX3_text_46 n y1 u3) := rfl
set_option maxRecDepth 100000 in
theorem qX3_text_46 (n : Nat) (y1 : Int32) (z : mm_S) : eX3_text_46 (n + 1) y1 z = (some (some (mm_I y1), z)) := rfl
def rm_X3_text : Room := { frames := 8, cells := 0, slots := 0, locals := 177 }
noncomputable def f_X3_text (as : List mm_V) (z : mm_S) (o : mm_R) : Prop := (as.map mm_cat).sum ≤ 2 ∧ ∃ n, go_X3_text n 0 (mm_ar 0 as) [] z = some o
theorem M_X3_text : mm_M lyTX lyFA lenX snX 46 48 17 roX rsA nfA nmA ssX yX3_text cX3_text 2 (some .int) rm_X3_text f_X3_text :=
  mm_met (rt := 0) (by decide +kernel) ⟨fun h => rfl, fun h => absurd h (by decide), fun h => absurd h (by decide), fun h => absurd h (by decide)⟩ tbX3_text_ok hsnX okFX3 okLX3 okGX3 (fun _ _ _ _ => rfl) (fun _ _ _ _ => rfl) (List.forall_mem_cons.mpr ⟨sV_X0_become (Or.inl lk_X3_283) rfl ⟨by decide, by decide⟩, List.forall_mem_cons.mpr ⟨sV_X2_readInto (Or.inl lk_X3_296) rfl ⟨by decide, by decide⟩, fun _ h => absurd h List.not_mem_nil⟩⟩) (fun _ h => absurd h List.not_mem_nil)
noncomputable def sX3_text_46 (y1 : Int32) (z : mm_S) : Option (Int32 × mm_S) := some (y1, z)
theorem kX3_text_46 (y1 : Int32) (z : mm_S) (oo : mm_R) : mm_Xs (sX3_text_46 y1 z) (fun v => (fun v : Int32 × mm_S => ((some (mm_I v.1), v.2) : mm_R)) v = oo) (fun n => eX3_text_46 n y1 z) oo :=
  xs_row (fun n => qX3_text_46 n y1 z) (xs_v fun hc => ⟨0, congrArg some hc⟩)
noncomputable def sX3_text_31 (y1 : Int32) (z : mm_S) : Option (Int32 × mm_S) := if y1 ≤ 0 then (sX3_text_46 y1 z) else let u3 := (tX0_become 1 25 z); (sX3_text_46 y1 u3)
theorem kX3_text_31 (y1 : Int32) (z : mm_S) (oo : mm_R) : mm_Xs (sX3_text_31 y1 z) (fun v => (fun v : Int32 × mm_S => ((some (mm_I v.1), v.2) : mm_R)) v = oo) (fun n => eX3_text_31 n y1 z) oo :=
  xs_row (fun n => qX3_text_31 n y1 z) (xs_if (kX3_text_46 y1 z oo) (xs_let ((tX0_become 1 25 z)) (S := fun (u3 : _) => ((sX3_text_46 y1 u3) : Option (Int32 × mm_S))) (T := fun (u3 : _) n => eX3_text_46 n y1 u3) (fun u3 => (kX3_text_46 y1 u3 oo))))
noncomputable def sX3_text_23 (y1 : Int32) (z : mm_S) : Option (Int32 × mm_S) := (sX3_text_31 y1 ((mm_ui z.1 37 1 0), z.2))
theorem kX3_text_23 (y1 : Int32) (z : mm_S) (oo : mm_R) : mm_Xs (sX3_text_23 y1 z) (fun v => (fun v : Int32 × mm_S => ((some (mm_I v.1), v.2) : mm_R)) v = oo) (fun n => eX3_text_23 n y1 z) oo :=
  xs_row (fun n => qX3_text_23 n y1 z) (kX3_text_31 y1 ((mm_ui z.1 37 1 0), z.2) oo)
noncomputable def sX3_text_11  (z : mm_S) : Option (Int32 × mm_S) := (sX2_readInto 25 z).bind fun q2 => (sX3_text_23 q2.1 q2.2)
theorem kX3_text_11  (z : mm_S) (oo : mm_R) : mm_Xs (sX3_text_11  z) (fun v => (fun v : Int32 × mm_S => ((some (mm_I v.1), v.2) : mm_R)) v = oo) (fun n => eX3_text_11 n  z) oo :=
  xs_row (fun n => qX3_text_11 n z) (xs_bd fun q2 => (kX3_text_23 q2.1 q2.2 oo))
noncomputable def sX3_text_0  (z : mm_S) : Option (Int32 × mm_S) := let u1 := (tX0_become 25 1 z); (sX3_text_11 u1)
theorem kX3_text_0  (z : mm_S) (oo : mm_R) : mm_Xs (sX3_text_0  z) (fun v => (fun v : Int32 × mm_S => ((some (mm_I v.1), v.2) : mm_R)) v = oo) (fun n => eX3_text_0 n  z) oo :=
  xs_row (fun n => qX3_text_0 n z) (xs_let ((tX0_become 25 1 z)) (S := fun (u1 : _) => ((sX3_text_11 u1) : Option (Int32 × mm_S))) (T := fun (u1 : _) n => eX3_text_11 n  u1) (fun u1 => (kX3_text_11 u1 oo)))
noncomputable def sX3_text  (z : mm_S) : Option (Int32 × mm_S) := sX3_text_0  z
theorem sp_X3_text  (z : mm_S) (hk : ∀ v ∈ [mm_P 3 0], mm_ok 46 lyTX 48 17 v) (q : Int32 × mm_S) (hq : sX3_text  z = some q) : f_X3_text [mm_P 3 0] z (some (mm_I q.1), q.2) := ⟨Nat.le_of_ble_eq_true rfl, kX3_text_0  z _ q hq rfl⟩
noncomputable def clo_X3_text (as : List mm_V) (z : mm_S) (kk : Option mm_V → mm_S → Option mm_R) : Option mm_R := mm_pr as fun t o0 as => bif Nat.beq t 3 then (match as with | [] => (sX3_text z).bind fun q => kk (some (mm_I q.1)) q.2 | _ => none) else none
theorem cs_X3_text : mm_cs lyTX 46 48 17 f_X3_text clo_X3_text := by
  intro as z K o hk h
  obtain ⟨t0, o0, r0, rfl, g0⟩ := mm_pr_e h
  obtain ⟨b0, k0⟩ := mm_bif_e g0
  obtain rfl := Nat.eq_of_beq_eq_true b0
  rcases r0 with _ | ⟨u, w⟩
  rotate_left
  · cases k0
  obtain rfl : o0 = 0 := ok3 (hk (mm_P 3 o0) (by simp))
  obtain ⟨q, hq, hq2⟩ := Option.bind_eq_some_iff.mp k0
  exact ⟨_, _, sp_X3_text  z hk q hq, fun v hv => by cases hv; exact Or.inl ⟨_, rfl⟩, hq2⟩
theorem sV_X3_text {own : String} {R : Room} {ar : Nat → Nat} {k : Nat} (hlink : Cond.methodLink own k yX3_text ∈ lw_gd ∨ ∃ host, (own, k, yX3_text, host) ∈ nmA) (har : ar k = 1) (hr : 9 ≤ R.frames ∧ 198 ≤ R.locals) : mm_okV lyTX lyFA lenX snX 46 48 17 roX rsA nfA nmA ssX own R ar k clo_X3_text := by
  refine ⟨yX3_text, cX3_text, 2, some .int, rm_X3_text, f_X3_text, 3, 0, (RX3, TX3, 12), M_X3_text, cs_X3_text, hlink, ⟨wv_X3_text, wz_X3_text, wi_X3_text, wc_X3_text⟩, ⟨by decide +kernel, by decide +kernel, by decide +kernel⟩, har, ⟨rfl, rfl, by decide⟩, ?_, ⟨rfl, rfl, hr.1, hr.2⟩⟩
  intro as z K o h
  obtain ⟨t0, o0, r0, rfl, g0⟩ := mm_pr_e h
  obtain ⟨b0, k0⟩ := mm_bif_e g0
  obtain rfl := Nat.eq_of_beq_eq_true b0
  exact ⟨_, _, rfl⟩
