-- X3_from
noncomputable def lV_X3_from : List (Nat × (List mm_V → mm_S → (Option mm_V → mm_S → Option mm_R) → Option mm_R)) := [(59, clo_X3_finding), (93, clo_X0_placeOf), (187, clo_X3_areTwoCrews), (195, clo_X1_timesTo)]
noncomputable def mV_X3_from (k : Nat) (as : List mm_V) (z : mm_S) (kk : Option mm_V → mm_S → Option mm_R) : Option mm_R := match mm_at lV_X3_from k with
  | some f => f as z kk
  | none => none
noncomputable def arV_X3_from (k : Nat) : Nat := (mm_at [(59, 2), (93, 2), (187, 3), (195, 3)] k).getD 0
noncomputable def lS_X3_from : List (Nat × (List mm_V → mm_S → (Option mm_V → mm_S → Option mm_R) → Option mm_R)) := [(118, clo_X3_lies), (165, clo_X3_at), (172, clo_X3_setOf)]
noncomputable def mS_X3_from (k : Nat) (as : List mm_V) (z : mm_S) (kk : Option mm_V → mm_S → Option mm_R) : Option mm_R := match mm_at lS_X3_from k with
  | some f => f as z kk
  | none => none
noncomputable def arS_X3_from (k : Nat) : Nat := (mm_at [(118, 3), (165, 2), (172, 1)] k).getD 0
def ct_X3_from : List (Nat × List Nat) := [(6, [0, 1, 2, 3]), (17, [0, 1, 2, 3]), (27, [0, 1, 2, 3]), (49, [0, 2, 3]), (71, [0, 3]), (77, [0, 3, 4, 6]), (95, [0, 3, 4, 6, 7]), (106, [0, 3, 4, 6, 7, 8])]
noncomputable def go_X3_from : Nat → mm_K := mm_go (fun k => mm_at flX3 k) (fun k => mm_at clX3 k) (fun k => mm_at glX3 k) arV_X3_from arS_X3_from mV_X3_from mS_X3_from lenX roX snX 9 2 tbX3_from ct_X3_from
noncomputable def eX3_from_0 (n : Nat)  (x1 : Int32) (x2 : Int32) (x3 : Int32) (z : mm_S) : Option mm_R := go_X3_from n 0 [(0, mm_P 3 0), (1, mm_I x1), (2, mm_I x2), (3, mm_I x3)] [] z
noncomputable def eX3_from_6 (n : Nat)  (y1 : Int32) (y2 : Int32) (y3 : Int32) (w0 : Int32) (z : mm_S) : Option mm_R := go_X3_from n 6 [(0, mm_P 3 0), (1, mm_I y1), (2, mm_I y2), (3, mm_I y3)] [mm_I w0] z
noncomputable def eX3_from_17 (n : Nat)  (y1 : Int32) (y2 : Int32) (y3 : Int32) (w0 : Int32) (z : mm_S) : Option mm_R := go_X3_from n 17 [(0, mm_P 3 0), (1, mm_I y1), (2, mm_I y2), (3, mm_I y3)] [mm_I w0] z
noncomputable def eX3_from_27 (n : Nat)  (y1 : Int32) (y2 : Int32) (y3 : Int32) (z : mm_S) : Option mm_R := go_X3_from n 27 [(0, mm_P 3 0), (1, mm_I y1), (2, mm_I y2), (3, mm_I y3)] [] z
noncomputable def eX3_from_49 (n : Nat)  (y2 : Int32) (y3 : Int32) (z : mm_S) : Option mm_R := go_X3_from n 49 [(0, mm_P 3 0), (2, mm_I y2), (3, mm_I y3)] [] z
noncomputable def eX3_from_71 (n : Nat)  (y3 : Int32) (z : mm_S) : Option mm_R := go_X3_from n 71 [(0, mm_P 3 0), (3, mm_I y3)] [] z
noncomputable def eX3_from_77 (n : Nat)  (y3 : Int32) (y4 : Int64) (y6 : Int32) (z : mm_S) : Option mm_R := go_X3_from n 77 [(0, mm_P 3 0), (3, mm_I y3), (4, mm_J y4), (6, mm_I y6)] [] z
noncomputable def eX3_from_95 (n : Nat)  (y3 : Int32) (y4 : Int64) (y6 : Int32) (y7 : Int32) (z : mm_S) : Option mm_R := go_X3_from n 95 [(0, mm_P 3 0), (3, mm_I y3), (4, mm_J y4), (6, mm_I y6), (7, mm_I y7)] [] z
noncomputable def eX3_from_106 (n : Nat)  (y3 : Int32) (y4 : Int64) (y6 : Int32) (y7 : Int32) (y8 : Int32) (z : mm_S) : Option mm_R := go_X3_from n 106 [(0, mm_P 3 0), (3, mm_I y3), (4, mm_J y4), (6, mm_I y6), (7, mm_I y7), (8, mm_I y8)] [] z
set_option maxRecDepth 100000 in
theorem qX3_from_0 (n : Nat)  (x1 : Int32) (x2 : Int32) (x3 : Int32) (z : mm_S) : eX3_from_0 (n + 1) x1 x2 x3 z = (eX3_from_6 n x1 x2 x3 (pX3_areTwoCrews x1 x2 z) z) := rfl
set_option maxRecDepth 100000 in
theorem qX3_from_6 (n : Nat)  (y1 : Int32) (y2 : Int32) (y3 : Int32) (w0 : Int32) (z : mm_S) : eX3_from_6 (n + 1) y1 y2 y3 w0 z = (if w0 = 0 then (sX3_finding 0 z).bind fun q1 => some (some (mm_J (Int32.toInt64 q1.1)), q1.2) else eX3_from_17 n y1 y2 y3 (pX3_lies y3 (-60) 60) z) := rfl
set_option maxRecDepth 100000 in
theorem qX3_from_17 (n : Nat)  (y1 : Int32) (y2 : Int32) (y3 : Int32) (w0 : Int32) (z : mm_S) : eX3_from_17 (n + 1) y1 y2 y3 w0 z = (if w0 = 0 then (sX3_finding 0 z).bind fun q2 => some (some (mm_J (Int32.toInt64 q2.1)), q2.2) else eX3_from_27 n y1 y2 y3 z) := rfl
set_option maxRecDepth 100000 in
theorem qX3_from_27 (n : Nat)  (y1 : Int32) (y2 : Int32) (y3 : Int32) (z : mm_S) : eX3_from_27 (n + 1) y1 y2 y3 z = ((sX1_timesTo 2 (pX0_placeOf 1 y1 z) 43 z).bind fun q3 => eX3_from_49 n y2 y3 q3) := rfl
set_option maxRecDepth 100000 in
theorem qX3_from_49 (n : Nat)  (y2 : Int32) (y3 : Int32) (z : mm_S) : eX3_from_49 (n + 1) y2 y3 z = ((sX1_timesTo 2 (pX0_placeOf 1 y2 z) 44 z).bind fun q4 => eX3_from_71 n y3 q4) := rfl
set_option maxRecDepth 100000 in
theorem qX3_from_71 (n : Nat)  (y3 : Int32) (z : mm_S) : eX3_from_71 (n + 1) y3 z = (eX3_from_77 n y3 0 0 z) := rfl
set_option maxRecDepth 100000 in
theorem qX3_from_77 (n : Nat)  (y3 : Int32) (y4 : Int64) (y6 : Int32) (z : mm_S) : eX3_from_77 (n + 1) y3 y4 y6 z = (if 36 ≤ y6 then some (some (mm_J y4), z) else eX3_from_95 n y3 y4 y6 (pX3_at 43 y6 z) z) := rfl
set_option maxRecDepth 100000 in
theorem qX3_from_95 (n : Nat)  (y3 : Int32) (y4 : Int64) (y6 : Int32) (y7 : Int32) (z : mm_S) : eX3_from_95 (n + 1) y3 y4 y6 y7 z = (eX3_from_106 n y3 y4 y6 y7 (pX3_at 44 y6 z) z) := rfl
set_option maxRecDepth 100000 in
theorem qX3_from_106 (n : Nat)  (y3 : Int32) (y4 : Int64) (y6 : Int32) (y7 : Int32) (y8 : Int32) (z : mm_S) : eX3_from_106 (n + 1) y3 y4 y6 y7 y8 z = (if y7 = (-1) then eX3_from_77 n y3 y4 (y6 + 1) z else if y8 = (-1) then eX3_from_77 n y3 y4 (y6 + 1) z else if (y8 - y7) = y3 then eX3_from_77 n y3 (y4 ||| (pX3_setOf y6)) (y6 + 1) z else eX3_from_77 n y3 y4 (y6 + 1) z) := rfl
def rm_X3_from : Room := { frames := 4, cells := 0, slots := 0, locals := 107 }
noncomputable def f_X3_from (as : List mm_V) (z : mm_S) (o : mm_R) : Prop := (as.map mm_cat).sum ≤ 9 ∧ ∃ n, go_X3_from n 0 (mm_ar 0 as) [] z = some o
theorem M_X3_from : mm_M lyTX lyFA lenX snX 46 48 17 roX rsA nfA nmA ssX yX3_from cX3_from 9 (some .long) rm_X3_from f_X3_from :=
  mm_met (rt := 2) (by decide +kernel) ⟨fun h => absurd h (by decide), fun h => absurd h (by decide), fun h => rfl, fun h => absurd h (by decide)⟩ tbX3_from_ok hsnX okFX3 okLX3 okGX3 (fun _ _ _ _ => rfl) (fun _ _ _ _ => rfl) (List.forall_mem_cons.mpr ⟨sV_X3_finding (Or.inl lk_X3_59) rfl ⟨by decide, by decide⟩, List.forall_mem_cons.mpr ⟨sV_X0_placeOf (Or.inl lk_X3_93) rfl ⟨by decide, by decide⟩, List.forall_mem_cons.mpr ⟨sV_X3_areTwoCrews (Or.inl lk_X3_187) rfl ⟨by decide, by decide⟩, List.forall_mem_cons.mpr ⟨sV_X1_timesTo (Or.inl lk_X3_195) rfl ⟨by decide, by decide⟩, fun _ h => absurd h List.not_mem_nil⟩⟩⟩⟩) (List.forall_mem_cons.mpr ⟨sS_X3_lies (Or.inl lk_X3_118) rfl ⟨by decide, by decide⟩, List.forall_mem_cons.mpr ⟨sS_X3_at (Or.inl lk_X3_165) rfl ⟨by decide, by decide⟩, List.forall_mem_cons.mpr ⟨sS_X3_setOf (Or.inl lk_X3_172) rfl ⟨by decide, by decide⟩, fun _ h => absurd h List.not_mem_nil⟩⟩⟩)
noncomputable def sX3_from_106 (y3 : Int32) (y4 : Int64) (y6 : Int32) (y7 : Int32) (y8 : Int32) (z : mm_S) : Option ((Int32 × Int64 × Int32 × mm_S) ⊕ (Int64 × mm_S)) := if y7 = (-1) then some (.inl (y3, y4, (y6 + 1), z)) else if y8 = (-1) then some (.inl (y3, y4, (y6 + 1), z)) else if (y8 - y7) = y3 then some (.inl (y3, (y4 ||| (pX3_setOf y6)), (y6 + 1), z)) else some (.inl (y3, y4, (y6 + 1), z))
theorem kX3_from_106 (y3 : Int32) (y4 : Int64) (y6 : Int32) (y7 : Int32) (y8 : Int32) (z : mm_S) (oo : mm_R) : mm_Xs (sX3_from_106 y3 y4 y6 y7 y8 z) (mm_mt (fun x : Int32 × Int64 × Int32 × mm_S => ∃ n, eX3_from_77 n x.1 x.2.1 x.2.2.1 x.2.2.2 = some oo) (fun v => (fun v : Int64 × mm_S => ((some (mm_J v.1), v.2) : mm_R)) v = oo)) (fun n => eX3_from_106 n y3 y4 y6 y7 y8 z) oo :=
  xs_row (fun n => qX3_from_106 n y3 y4 y6 y7 y8 z) (xs_if (xs_v fun hc => hc) (xs_if (xs_v fun hc => hc) (xs_if (xs_v fun hc => hc) (xs_v fun hc => hc))))
noncomputable def sX3_from_95 (y3 : Int32) (y4 : Int64) (y6 : Int32) (y7 : Int32) (z : mm_S) : Option ((Int32 × Int64 × Int32 × mm_S) ⊕ (Int64 × mm_S)) := (sX3_from_106 y3 y4 y6 y7 (pX3_at 44 y6 z) z)
theorem kX3_from_95 (y3 : Int32) (y4 : Int64) (y6 : Int32) (y7 : Int32) (z : mm_S) (oo : mm_R) : mm_Xs (sX3_from_95 y3 y4 y6 y7 z) (mm_mt (fun x : Int32 × Int64 × Int32 × mm_S => ∃ n, eX3_from_77 n x.1 x.2.1 x.2.2.1 x.2.2.2 = some oo) (fun v => (fun v : Int64 × mm_S => ((some (mm_J v.1), v.2) : mm_R)) v = oo)) (fun n => eX3_from_95 n y3 y4 y6 y7 z) oo :=
  xs_row (fun n => qX3_from_95 n y3 y4 y6 y7 z) (kX3_from_106 y3 y4 y6 y7 (pX3_at 44 y6 z) z oo)
noncomputable def lX3_from_77 (s : Int32 × Int64 × Int32 × mm_S) : Option ((Int32 × Int64 × Int32 × mm_S) ⊕ (Int64 × mm_S)) := if 36 ≤ s.2.2.1 then some (.inr (s.2.1, s.2.2.2)) else (sX3_from_95 s.1 s.2.1 s.2.2.1 (pX3_at 43 s.2.2.1 s.2.2.2) s.2.2.2)
noncomputable def sX3_from_77 (y3 : Int32) (y4 : Int64) (y6 : Int32) (z : mm_S) : Option (Int64 × mm_S) := mm_wh (lX3_from_77 ) mm_fu (y3, y4, y6, z)
theorem kX3_from_77 (y3 : Int32) (y4 : Int64) (y6 : Int32) (z : mm_S) (oo : mm_R) : mm_Xs (sX3_from_77 y3 y4 y6 z) (fun v => (fun v : Int64 × mm_S => ((some (mm_J v.1), v.2) : mm_R)) v = oo) (fun n => eX3_from_77 n y3 y4 y6 z) oo :=
  xs_wh (stp := lX3_from_77 ) (o := oo) (E := (fun (s : Int32 × Int64 × Int32 × mm_S) n => eX3_from_77 n s.1 s.2.1 s.2.2.1 s.2.2.2)) (C := (fun v => (fun v : Int64 × mm_S => ((some (mm_J v.1), v.2) : mm_R)) v = oo)) (fun s => xs_row (fun n => qX3_from_77 n s.1 s.2.1 s.2.2.1 s.2.2.2) (xs_if (xs_v fun hc => ⟨0, congrArg some hc⟩) (kX3_from_95 s.1 s.2.1 s.2.2.1 (pX3_at 43 s.2.2.1 s.2.2.2) s.2.2.2 oo))) mm_fu (y3, y4, y6, z)
noncomputable def sX3_from_71 (y3 : Int32) (z : mm_S) : Option (Int64 × mm_S) := (sX3_from_77 y3 0 0 z)
theorem kX3_from_71 (y3 : Int32) (z : mm_S) (oo : mm_R) : mm_Xs (sX3_from_71 y3 z) (fun v => (fun v : Int64 × mm_S => ((some (mm_J v.1), v.2) : mm_R)) v = oo) (fun n => eX3_from_71 n y3 z) oo :=
  xs_row (fun n => qX3_from_71 n y3 z) (kX3_from_77 y3 0 0 z oo)
noncomputable def sX3_from_49 (y2 : Int32) (y3 : Int32) (z : mm_S) : Option (Int64 × mm_S) := (sX1_timesTo 2 (pX0_placeOf 1 y2 z) 44 z).bind fun q4 => (sX3_from_71 y3 q4)
theorem kX3_from_49 (y2 : Int32) (y3 : Int32) (z : mm_S) (oo : mm_R) : mm_Xs (sX3_from_49 y2 y3 z) (fun v => (fun v : Int64 × mm_S => ((some (mm_J v.1), v.2) : mm_R)) v = oo) (fun n => eX3_from_49 n y2 y3 z) oo :=
  xs_row (fun n => qX3_from_49 n y2 y3 z) (xs_bd fun q4 => (kX3_from_71 y3 q4 oo))
noncomputable def sX3_from_27 (y1 : Int32) (y2 : Int32) (y3 : Int32) (z : mm_S) : Option (Int64 × mm_S) := (sX1_timesTo 2 (pX0_placeOf 1 y1 z) 43 z).bind fun q3 => (sX3_from_49 y2 y3 q3)
theorem kX3_from_27 (y1 : Int32) (y2 : Int32) (y3 : Int32) (z : mm_S) (oo : mm_R) : mm_Xs (sX3_from_27 y1 y2 y3 z) (fun v => (fun v : Int64 × mm_S => ((some (mm_J v.1), v.2) : mm_R)) v = oo) (fun n => eX3_from_27 n y1 y2 y3 z) oo :=
  xs_row (fun n => qX3_from_27 n y1 y2 y3 z) (xs_bd fun q3 => (kX3_from_49 y2 y3 q3 oo))
noncomputable def sX3_from_17 (y1 : Int32) (y2 : Int32) (y3 : Int32) (w0 : Int32) (z : mm_S) : Option (Int64 × mm_S) := if w0 = 0 then (sX3_finding 0 z).bind fun q2 => some ((Int32.toInt64 q2.1), q2.2) else (sX3_from_27 y1 y2 y3 z)
theorem kX3_from_17 (y1 : Int32) (y2 : Int32) (y3 : Int32) (w0 : Int32) (z : mm_S) (oo : mm_R) : mm_Xs (sX3_from_17 y1 y2 y3 w0 z) (fun v => (fun v : Int64 × mm_S => ((some (mm_J v.1), v.2) : mm_R)) v = oo) (fun n => eX3_from_17 n y1 y2 y3 w0 z) oo :=
  xs_row (fun n => qX3_from_17 n y1 y2 y3 w0 z) (xs_if (xs_bd fun q2 => (xs_v fun hc => ⟨0, congrArg some hc⟩)) (kX3_from_27 y1 y2 y3 z oo))
noncomputable def sX3_from_6 (y1 : Int32) (y2 : Int32) (y3 : Int32) (w0 : Int32) (z : mm_S) : Option (Int64 × mm_S) := if w0 = 0 then (sX3_finding 0 z).bind fun q1 => some ((Int32.toInt64 q1.1), q1.2) else (sX3_from_17 y1 y2 y3 (pX3_lies y3 (-60) 60) z)
theorem kX3_from_6 (y1 : Int32) (y2 : Int32) (y3 : Int32) (w0 : Int32) (z : mm_S) (oo : mm_R) : mm_Xs (sX3_from_6 y1 y2 y3 w0 z) (fun v => (fun v : Int64 × mm_S => ((some (mm_J v.1), v.2) : mm_R)) v = oo) (fun n => eX3_from_6 n y1 y2 y3 w0 z) oo :=
  xs_row (fun n => qX3_from_6 n y1 y2 y3 w0 z) (xs_if (xs_bd fun q1 => (xs_v fun hc => ⟨0, congrArg some hc⟩)) (kX3_from_17 y1 y2 y3 (pX3_lies y3 (-60) 60) z oo))
noncomputable def sX3_from_0 (x1 : Int32) (x2 : Int32) (x3 : Int32) (z : mm_S) : Option (Int64 × mm_S) := (sX3_from_6 x1 x2 x3 (pX3_areTwoCrews x1 x2 z) z)
theorem kX3_from_0 (x1 : Int32) (x2 : Int32) (x3 : Int32) (z : mm_S) (oo : mm_R) : mm_Xs (sX3_from_0 x1 x2 x3 z) (fun v => (fun v : Int64 × mm_S => ((some (mm_J v.1), v.2) : mm_R)) v = oo) (fun n => eX3_from_0 n x1 x2 x3 z) oo :=
  xs_row (fun n => qX3_from_0 n x1 x2 x3 z) (kX3_from_6 x1 x2 x3 (pX3_areTwoCrews x1 x2 z) z oo)
noncomputable def sX3_from (x1 : Int32) (x2 : Int32) (x3 : Int32) (z : mm_S) : Option (Int64 × mm_S) := sX3_from_0 x1 x2 x3 z
theorem sp_X3_from (x1 : Int32) (x2 : Int32) (x3 : Int32) (z : mm_S) (hk : ∀ v ∈ [mm_P 3 0, mm_I x1, mm_I x2, mm_I x3], mm_ok 46 lyTX 48 17 v) (q : Int64 × mm_S) (hq : sX3_from x1 x2 x3 z = some q) : f_X3_from [mm_P 3 0, mm_I x1, mm_I x2, mm_I x3] z (some (mm_J q.1), q.2) := ⟨Nat.le_of_ble_eq_true rfl, kX3_from_0 x1 x2 x3 z _ q hq rfl⟩
noncomputable def clo_X3_from (as : List mm_V) (z : mm_S) (kk : Option mm_V → mm_S → Option mm_R) : Option mm_R := mm_pr as fun t o0 as => bif Nat.beq t 3 then mm_pi as fun a1 as => mm_pi as fun a2 as => mm_pi as fun a3 as => (match as with | [] => (sX3_from a1 a2 a3 z).bind fun q => kk (some (mm_J q.1)) q.2 | _ => none) else none
theorem cs_X3_from : mm_cs lyTX 46 48 17 f_X3_from clo_X3_from := by
  intro as z K o hk h
  obtain ⟨t0, o0, r0, rfl, g0⟩ := mm_pr_e h
  obtain ⟨b0, k0⟩ := mm_bif_e g0
  obtain rfl := Nat.eq_of_beq_eq_true b0
  obtain ⟨a1, r1, rfl, g1⟩ := mm_pi_e k0
  obtain ⟨a2, r2, rfl, g2⟩ := mm_pi_e g1
  obtain ⟨a3, r3, rfl, g3⟩ := mm_pi_e g2
  rcases r3 with _ | ⟨u, w⟩
  rotate_left
  · cases g3
  obtain rfl : o0 = 0 := ok3 (hk (mm_P 3 o0) (by simp))
  obtain ⟨q, hq, hq2⟩ := Option.bind_eq_some_iff.mp g3
  exact ⟨_, _, sp_X3_from a1 a2 a3 z hk q hq, fun v hv => by cases hv; exact Or.inr ⟨_, rfl⟩, hq2⟩
theorem sV_X3_from {own : String} {R : Room} {ar : Nat → Nat} {k : Nat} (hlink : Cond.methodLink own k yX3_from ∈ lw_gd ∨ ∃ host, (own, k, yX3_from, host) ∈ nmA) (har : ar k = 4) (hr : 5 ≤ R.frames ∧ 135 ≤ R.locals) : mm_okV lyTX lyFA lenX snX 46 48 17 roX rsA nfA nmA ssX own R ar k clo_X3_from := by
  refine ⟨yX3_from, cX3_from, 9, some .long, rm_X3_from, f_X3_from, 3, 3, (RX3, TX3, 12), M_X3_from, cs_X3_from, hlink, ⟨wv_X3_from, wz_X3_from, wi_X3_from, wc_X3_from⟩, ⟨by decide +kernel, by decide +kernel, by decide +kernel⟩, har, ⟨rfl, rfl, by decide⟩, ?_, ⟨rfl, rfl, hr.1, hr.2⟩⟩
  intro as z K o h
  obtain ⟨t0, o0, r0, rfl, g0⟩ := mm_pr_e h
  obtain ⟨b0, k0⟩ := mm_bif_e g0
  obtain rfl := Nat.eq_of_beq_eq_true b0
  exact ⟨_, _, rfl⟩
-- X3_fillLongestTimes
noncomputable def lV_X3_fillLongestTimes : List (Nat × (List mm_V → mm_S → (Option mm_V → mm_S → Option mm_R) → Option mm_R)) := [(93, clo_X0_placeOf), (161, clo_X1_timesFrom)]
noncomputable def mV_X3_fillLongestTimes (k : Nat) (as : List mm_V) (z : mm_S) (kk : Option mm_V → mm_S → Option mm_R) : Option mm_R := match mm_at lV_X3_fillLongestTimes k with
  | some f => f as z kk
  | none => none
noncomputable def arV_X3_fillLongestTimes (k : Nat) : Nat := (mm_at [(93, 2), (161, 3)] k).getD 0
noncomputable def lS_X3_fillLongestTimes : List (Nat × (List mm_V → mm_S → (Option mm_V → mm_S → Option mm_R) → Option mm_R)) := [(111, clo_X3_exchange), (165, clo_X3_at), (344, clo_J7_fill_53178), (347, mm_mx)]
noncomputable def mS_X3_fillLongestTimes (k : Nat) (as : List mm_V) (z : mm_S) (kk : Option mm_V → mm_S → Option mm_R) : Option mm_R := match mm_at lS_X3_fillLongestTimes k with
  | some f => f as z kk
  | none => none
noncomputable def arS_X3_fillLongestTimes (k : Nat) : Nat := (mm_at [(111, 3), (165, 2), (344, 2), (347, 2)] k).getD 0
def ct_X3_fillLongestTimes : List (Nat × List Nat) := [(8, [0]), (10, [0, 1]), (43, [0, 1]), (45, [0, 1, 2]), (60, [0, 1, 2, 3]), (70, [0, 1, 2, 3, 4]), (112, [0, 1, 2])]
noncomputable def go_X3_fillLongestTimes : Nat → mm_K := mm_go (fun k => mm_at flX3 k) (fun k => mm_at clX3 k) (fun k => mm_at glX3 k) arV_X3_fillLongestTimes arS_X3_fillLongestTimes mV_X3_fillLongestTimes mS_X3_fillLongestTimes lenX roX snX 6 3 tbX3_fillLongestTimes ct_X3_fillLongestTimes
noncomputable def eX3_fillLongestTimes_0 (n : Nat)  (z : mm_S) : Option mm_R := go_X3_fillLongestTimes n 0 [(0, mm_P 3 0)] [] z
noncomputable def eX3_fillLongestTimes_8 (n : Nat)  (z : mm_S) : Option mm_R := go_X3_fillLongestTimes n 8 [(0, mm_P 3 0)] [] z
noncomputable def eX3_fillLongestTimes_10 (n : Nat)  (y1 : Int32) (z : mm_S) : Option mm_R := go_X3_fillLongestTimes n 10 [(0, mm_P 3 0), (1, mm_I y1)] [] z
noncomputable def eX3_fillLongestTimes_43 (n : Nat)  (y1 : Int32) (z : mm_S) : Option mm_R := go_X3_fillLongestTimes n 43 [(0, mm_P 3 0), (1, mm_I y1)] [] z
noncomputable def eX3_fillLongestTimes_45 (n : Nat)  (y1 : Int32) (y2 : Int32) (z : mm_S) : Option mm_R := go_X3_fillLongestTimes n 45 [(0, mm_P 3 0), (1, mm_I y1), (2, mm_I y2)] [] z
noncomputable def eX3_fillLongestTimes_60 (n : Nat)  (y1 : Int32) (y2 : Int32) (y3 : Int32) (z : mm_S) : Option mm_R := go_X3_fillLongestTimes n 60 [(0, mm_P 3 0), (1, mm_I y1), (2, mm_I y2), (3, mm_I y3)] [] z
noncomputable def eX3_fillLongestTimes_70 (n : Nat)  (y1 : Int32) (y2 : Int32) (y3 : Int32) (y4 : Int32) (z : mm_S) : Option mm_R := go_X3_fillLongestTimes n 70 [(0, mm_P 3 0), (1, mm_I y1), (2, mm_I y2), (3, mm_I y3), (4, mm_I y4)] [] z
noncomputable def eX3_fillLongestTimes_112 (n : Nat)  (y1 : Int32) (y2 : Int32) (z : mm_S) : Option mm_R := go_X3_fillLongestTimes n 112 [(0, mm_P 3 0), (1, mm_I y1), (2, mm_I y2)] [] z
set_option maxRecDepth 100000 in
theorem qX3_fillLongestTimes_0 (n : Nat)  (z : mm_S) : eX3_fillLongestTimes_0 (n + 1)  z = (let u1 := (tJ7_fill_53178 44 0 z); eX3_fillLongestTimes_8 n  u1) := rfl
set_option maxRecDepth 100000 in
theorem qX3_fillLongestTimes_8 (n : Nat)  (z : mm_S) : eX3_fillLongestTimes_8 (n + 1)  z = (eX3_fillLongestTimes_10 n 0 z) := rfl
set_option maxRecDepth 100000 in
theorem qX3_fillLongestTimes_10 (n : Nat)  (y1 : Int32) (z : mm_S) : eX3_fillLongestTimes_10 (n + 1) y1 z = (if (z.1 1 4) ≤ y1 then some (none, z) else (sX1_timesFrom 2 (pX0_placeOf 1 y1 z) 43 z).bind fun q2 => eX3_fillLongestTimes_43 n y1 q2) := rfl
set_option maxRecDepth 100000 in
theorem qX3_fillLongestTimes_43 (n : Nat)  (y1 : Int32) (z : mm_S) : eX3_fillLongestTimes_43 (n + 1) y1 z = (eX3_fillLongestTimes_45 n y1 0 z) := rfl
set_option maxRecDepth 100000 in
theorem qX3_fillLongestTimes_45 (n : Nat)  (y1 : Int32) (y2 : Int32) (z : mm_S) : eX3_fillLongestTimes_45 (n + 1) y1 y2 z = (if 36 ≤ y2 then eX3_fillLongestTimes_10 n (y1 + 1) z else eX3_fillLongestTimes_60 n y1 y2 (pX3_at 43 y2 z) z) := rfl
set_option maxRecDepth 100000 in
theorem qX3_fillLongestTimes_60 (n : Nat)  (y1 : Int32) (y2 : Int32) (y3 : Int32) (z : mm_S) : eX3_fillLongestTimes_60 (n + 1) y1 y2 y3 z = (eX3_fillLongestTimes_70 n y1 y2 y3 (pX3_at 44 y2 z) z) := rfl
set_option maxRecDepth 100000 in
theorem qX3_fillLongestTimes_70 (n : Nat)  (y1 : Int32) (y2 : Int32) (y3 : Int32) (y4 : Int32) (z : mm_S) : eX3_fillLongestTimes_70 (n + 1) y1 y2 y3 y4 z = (if y3 = (-1) then let u3 := (tX3_exchange 44 y2 (-1) z); eX3_fillLongestTimes_112 n y1 y2 u3.2 else if y4 = (-1) then let u4 := (tX3_exchange 44 y2 (-1) z); eX3_fillLongestTimes_112 n y1 y2 u4.2 else let u5 := (tX3_exchange 44 y2 (mm_max y3 y4) z); eX3_fillLongestTimes_112 n y1 y2 u5.2) := rfl
set_option maxRecDepth 100000 in
theorem qX3_fillLongestTimes_112 (n : Nat)  (y1 : Int32) (y2 : Int32) (z : mm_S) : eX3_fillLongestTimes_112 (n + 1) y1 y2 z = (eX3_fillLongestTimes_45 n y1 (y2 + 1) z) := rfl
def rm_X3_fillLongestTimes : Room := { frames := 3, cells := 0, slots := 0, locals := 83 }
noncomputable def f_X3_fillLongestTimes (as : List mm_V) (z : mm_S) (o : mm_R) : Prop := (as.map mm_cat).sum ≤ 6 ∧ ∃ n, go_X3_fillLongestTimes n 0 (mm_ar 0 as) [] z = some o
theorem M_X3_fillLongestTimes : mm_M lyTX lyFA lenX snX 46 48 17 roX rsA nfA nmA ssX yX3_fillLongestTimes cX3_fillLongestTimes 6 (none) rm_X3_fillLongestTimes f_X3_fillLongestTimes :=
  mm_met (rt := 3) (by decide +kernel) ⟨fun h => absurd h (by decide), fun h => absurd h (by decide), fun h => absurd h (by decide), fun h => rfl⟩ tbX3_fillLongestTimes_ok hsnX okFX3 okLX3 okGX3 (fun _ _ _ _ => rfl) (fun _ _ _ _ => rfl) (List.forall_mem_cons.mpr ⟨sV_X0_placeOf (Or.inl lk_X3_93) rfl ⟨by decide, by decide⟩, List.forall_mem_cons.mpr ⟨sV_X1_timesFrom (Or.inl lk_X3_161) rfl ⟨by decide, by decide⟩, fun _ h => absurd h List.not_mem_nil⟩⟩) (List.forall_mem_cons.mpr ⟨sS_X3_exchange (Or.inl lk_X3_111) rfl ⟨by decide, by decide⟩, List.forall_mem_cons.mpr ⟨sS_X3_at (Or.inl lk_X3_165) rfl ⟨by decide, by decide⟩, List.forall_mem_cons.mpr ⟨sS_J7_fill_53178 (Or.inl lk_X3_344) rfl ⟨by decide, by decide⟩, List.forall_mem_cons.mpr ⟨Or.inr (Or.inr ⟨Or.inl ⟨rfl, lk_X3_347, ws_max, wc_max⟩, wi_math, by decide, by decide, rfl⟩), fun _ h => absurd h List.not_mem_nil⟩⟩⟩⟩)
noncomputable def sX3_fillLongestTimes_112 (y1 : Int32) (y2 : Int32) (z : mm_S) : Option ((Int32 × Int32 × mm_S) ⊕ ((Int32 × mm_S) ⊕ (mm_S))) := some (.inl (y1, (y2 + 1), z))
theorem kX3_fillLongestTimes_112 (y1 : Int32) (y2 : Int32) (z : mm_S) (oo : mm_R) : mm_Xs (sX3_fillLongestTimes_112 y1 y2 z) (mm_mt (fun x : Int32 × Int32 × mm_S => ∃ n, eX3_fillLongestTimes_45 n x.1 x.2.1 x.2.2 = some oo) (mm_mt (fun x : Int32 × mm_S => ∃ n, eX3_fillLongestTimes_10 n x.1 x.2 = some oo) (fun v => (fun v : mm_S => ((none, v) : mm_R)) v = oo))) (fun n => eX3_fillLongestTimes_112 n y1 y2 z) oo :=
  xs_row (fun n => qX3_fillLongestTimes_112 n y1 y2 z) (xs_v fun hc => hc)
noncomputable def sX3_fillLongestTimes_70 (y1 : Int32) (y2 : Int32) (y3 : Int32) (y4 : Int32) (z : mm_S) : Option ((Int32 × Int32 × mm_S) ⊕ ((Int32 × mm_S) ⊕ (mm_S))) := if y3 = (-1) then let u3 := (tX3_exchange 44 y2 (-1) z); (sX3_fillLongestTimes_112 y1 y2 u3.2) else if y4 = (-1) then let u4 := (tX3_exchange 44 y2 (-1) z); (sX3_fillLongestTimes_112 y1 y2 u4.2) else let u5 := (tX3_exchange 44 y2 (mm_max y3 y4) z); (sX3_fillLongestTimes_112 y1 y2 u5.2)
theorem kX3_fillLongestTimes_70 (y1 : Int32) (y2 : Int32) (y3 : Int32) (y4 : Int32) (z : mm_S) (oo : mm_R) : mm_Xs (sX3_fillLongestTimes_70 y1 y2 y3 y4 z) (mm_mt (fun x : Int32 × Int32 × mm_S => ∃ n, eX3_fillLongestTimes_45 n x.1 x.2.1 x.2.2 = some oo) (mm_mt (fun x : Int32 × mm_S => ∃ n, eX3_fillLongestTimes_10 n x.1 x.2 = some oo) (fun v => (fun v : mm_S => ((none, v) : mm_R)) v = oo))) (fun n => eX3_fillLongestTimes_70 n y1 y2 y3 y4 z) oo :=
  xs_row (fun n => qX3_fillLongestTimes_70 n y1 y2 y3 y4 z) (xs_if (xs_let ((tX3_exchange 44 y2 (-1) z)) (S := fun (u3 : _) => ((sX3_fillLongestTimes_112 y1 y2 u3.2) : Option ((Int32 × Int32 × mm_S) ⊕ ((Int32 × mm_S) ⊕ (mm_S))))) (T := fun (u3 : _) n => eX3_fillLongestTimes_112 n y1 y2 u3.2) (fun u3 => (kX3_fillLongestTimes_112 y1 y2 u3.2 oo))) (xs_if (xs_let ((tX3_exchange 44 y2 (-1) z)) (S := fun (u4 : _) => ((sX3_fillLongestTimes_112 y1 y2 u4.2) : Option ((Int32 × Int32 × mm_S) ⊕ ((Int32 × mm_S) ⊕ (mm_S))))) (T := fun (u4 : _) n => eX3_fillLongestTimes_112 n y1 y2 u4.2) (fun u4 => (kX3_fillLongestTimes_112 y1 y2 u4.2 oo))) (xs_let ((tX3_exchange 44 y2 (mm_max y3 y4) z)) (S := fun (u5 : _) => ((sX3_fillLongestTimes_112 y1 y2 u5.2) : Option ((Int32 × Int32 × mm_S) ⊕ ((Int32 × mm_S) ⊕ (mm_S))))) (T := fun (u5 : _) n => eX3_fillLongestTimes_112 n y1 y2 u5.2) (fun u5 => (kX3_fillLongestTimes_112 y1 y2 u5.2 oo)))))
noncomputable def sX3_fillLongestTimes_60 (y1 : Int32) (y2 : Int32) (y3 : Int32) (z : mm_S) : Option ((Int32 × Int32 × mm_S) ⊕ ((Int32 × mm_S) ⊕ (mm_S))) := (sX3_fillLongestTimes_70 y1 y2 y3 (pX3_at 44 y2 z) z)
theorem kX3_fillLongestTimes_60 (y1 : Int32) (y2 : Int32) (y3 : Int32) (z : mm_S) (oo : mm_R) : mm_Xs (sX3_fillLongestTimes_60 y1 y2 y3 z) (mm_mt (fun x : Int32 × Int32 × mm_S => ∃ n, eX3_fillLongestTimes_45 n x.1 x.2.1 x.2.2 = some oo) (mm_mt (fun x : Int32 × mm_S => ∃ n, eX3_fillLongestTimes_10 n x.1 x.2 = some oo) (fun v => (fun v : mm_S => ((none, v) : mm_R)) v = oo))) (fun n => eX3_fillLongestTimes_60 n y1 y2 y3 z) oo :=
  xs_row (fun n => qX3_fillLongestTimes_60 n y1 y2 y3 z) (kX3_fillLongestTimes_70 y1 y2 y3 (pX3_at 44 y2 z) z oo)
noncomputable def lX3_fillLongestTimes_45 (s : Int32 × Int32 × mm_S) : Option ((Int32 × Int32 × mm_S) ⊕ ((Int32 × mm_S) ⊕ (mm_S))) := if 36 ≤ s.2.1 then some (.inr (.inl ((s.1 + 1), s.2.2))) else (sX3_fillLongestTimes_60 s.1 s.2.1 (pX3_at 43 s.2.1 s.2.2) s.2.2)
noncomputable def sX3_fillLongestTimes_45 (y1 : Int32) (y2 : Int32) (z : mm_S) : Option ((Int32 × mm_S) ⊕ (mm_S)) := mm_wh (lX3_fillLongestTimes_45 ) mm_fu (y1, y2, z)
theorem kX3_fillLongestTimes_45 (y1 : Int32) (y2 : Int32) (z : mm_S) (oo : mm_R) : mm_Xs (sX3_fillLongestTimes_45 y1 y2 z) (mm_mt (fun x : Int32 × mm_S => ∃ n, eX3_fillLongestTimes_10 n x.1 x.2 = some oo) (fun v => (fun v : mm_S => ((none, v) : mm_R)) v = oo)) (fun n => eX3_fillLongestTimes_45 n y1 y2 z) oo :=
  xs_wh (stp := lX3_fillLongestTimes_45 ) (o := oo) (E := (fun (s : Int32 × Int32 × mm_S) n => eX3_fillLongestTimes_45 n s.1 s.2.1 s.2.2)) (C := (mm_mt (fun x : Int32 × mm_S => ∃ n, eX3_fillLongestTimes_10 n x.1 x.2 = some oo) (fun v => (fun v : mm_S => ((none, v) : mm_R)) v = oo))) (fun s => xs_row (fun n => qX3_fillLongestTimes_45 n s.1 s.2.1 s.2.2) (xs_if (xs_v fun hc => hc) (kX3_fillLongestTimes_60 s.1 s.2.1 (pX3_at 43 s.2.1 s.2.2) s.2.2 oo))) mm_fu (y1, y2, z)
noncomputable def sX3_fillLongestTimes_43 (y1 : Int32) (z : mm_S) : Option ((Int32 × mm_S) ⊕ (mm_S)) := (sX3_fillLongestTimes_45 y1 0 z)
theorem kX3_fillLongestTimes_43 (y1 : Int32) (z : mm_S) (oo : mm_R) : mm_Xs (sX3_fillLongestTimes_43 y1 z) (mm_mt (fun x : Int32 × mm_S => ∃ n, eX3_fillLongestTimes_10 n x.1 x.2 = some oo) (fun v => (fun v : mm_S => ((none, v) : mm_R)) v = oo)) (fun n => eX3_fillLongestTimes_43 n y1 z) oo :=
  xs_row (fun n => qX3_fillLongestTimes_43 n y1 z) (kX3_fillLongestTimes_45 y1 0 z oo)
noncomputable def lX3_fillLongestTimes_10 (s : Int32 × mm_S) : Option ((Int32 × mm_S) ⊕ (mm_S)) := if (s.2.1 1 4) ≤ s.1 then some (.inr (s.2)) else (sX1_timesFrom 2 (pX0_placeOf 1 s.1 s.2) 43 s.2).bind fun q2 => (sX3_fillLongestTimes_43 s.1 q2)
noncomputable def sX3_fillLongestTimes_10 (y1 : Int32) (z : mm_S) : Option (mm_S) := mm_wh (lX3_fillLongestTimes_10 ) mm_fu (y1, z)
theorem kX3_fillLongestTimes_10 (y1 : Int32) (z : mm_S) (oo : mm_R) : mm_Xs (sX3_fillLongestTimes_10 y1 z) (fun v => (fun v : mm_S => ((none, v) : mm_R)) v = oo) (fun n => eX3_fillLongestTimes_10 n y1 z) oo :=
  xs_wh (stp := lX3_fillLongestTimes_10 ) (o := oo) (E := (fun (s : Int32 × mm_S) n => eX3_fillLongestTimes_10 n s.1 s.2)) (C := (fun v => (fun v : mm_S => ((none, v) : mm_R)) v = oo)) (fun s => xs_row (fun n => qX3_fillLongestTimes_10 n s.1 s.2) (xs_if (xs_v fun hc => ⟨0, congrArg some hc⟩) (xs_bd fun q2 => (kX3_fillLongestTimes_43 s.1 q2 oo)))) mm_fu (y1, z)
noncomputable def sX3_fillLongestTimes_8  (z : mm_S) : Option (mm_S) := (sX3_fillLongestTimes_10 0 z)
theorem kX3_fillLongestTimes_8  (z : mm_S) (oo : mm_R) : mm_Xs (sX3_fillLongestTimes_8  z) (fun v => (fun v : mm_S => ((none, v) : mm_R)) v = oo) (fun n => eX3_fillLongestTimes_8 n  z) oo :=
  xs_row (fun n => qX3_fillLongestTimes_8 n z) (kX3_fillLongestTimes_10 0 z oo)
noncomputable def sX3_fillLongestTimes_0  (z : mm_S) : Option (mm_S) := let u1 := (tJ7_fill_53178 44 0 z); (sX3_fillLongestTimes_8 u1)
theorem kX3_fillLongestTimes_0  (z : mm_S) (oo : mm_R) : mm_Xs (sX3_fillLongestTimes_0  z) (fun v => (fun v : mm_S => ((none, v) : mm_R)) v = oo) (fun n => eX3_fillLongestTimes_0 n  z) oo :=
  xs_row (fun n => qX3_fillLongestTimes_0 n z) (xs_let ((tJ7_fill_53178 44 0 z)) (S := fun (u1 : _) => ((sX3_fillLongestTimes_8 u1) : Option (mm_S))) (T := fun (u1 : _) n => eX3_fillLongestTimes_8 n  u1) (fun u1 => (kX3_fillLongestTimes_8 u1 oo)))
noncomputable def sX3_fillLongestTimes  (z : mm_S) : Option (mm_S) := sX3_fillLongestTimes_0  z
theorem sp_X3_fillLongestTimes  (z : mm_S) (hk : ∀ v ∈ [mm_P 3 0], mm_ok 46 lyTX 48 17 v) (q : mm_S) (hq : sX3_fillLongestTimes  z = some q) : f_X3_fillLongestTimes [mm_P 3 0] z (none, q) := ⟨Nat.le_of_ble_eq_true rfl, kX3_fillLongestTimes_0  z _ q hq rfl⟩
noncomputable def clo_X3_fillLongestTimes (as : List mm_V) (z : mm_S) (kk : Option mm_V → mm_S → Option mm_R) : Option mm_R := mm_pr as fun t o0 as => bif Nat.beq t 3 then (match as with | [] => (sX3_fillLongestTimes z).bind fun q => kk none q | _ => none) else none
theorem cs_X3_fillLongestTimes : mm_cs lyTX 46 48 17 f_X3_fillLongestTimes clo_X3_fillLongestTimes := by
  intro as z K o hk h
  obtain ⟨t0, o0, r0, rfl, g0⟩ := mm_pr_e h
  obtain ⟨b0, k0⟩ := mm_bif_e g0
  obtain rfl := Nat.eq_of_beq_eq_true b0
  rcases r0 with _ | ⟨u, w⟩
  rotate_left
  · cases k0
  obtain rfl : o0 = 0 := ok3 (hk (mm_P 3 o0) (by simp))
  obtain ⟨q, hq, hq2⟩ := Option.bind_eq_some_iff.mp k0
  exact ⟨_, _, sp_X3_fillLongestTimes  z hk q hq, (fun v hv => by cases hv), hq2⟩
theorem sV_X3_fillLongestTimes {own : String} {R : Room} {ar : Nat → Nat} {k : Nat} (hlink : Cond.methodLink own k yX3_fillLongestTimes ∈ lw_gd ∨ ∃ host, (own, k, yX3_fillLongestTimes, host) ∈ nmA) (har : ar k = 1) (hr : 4 ≤ R.frames ∧ 108 ≤ R.locals) : mm_okV lyTX lyFA lenX snX 46 48 17 roX rsA nfA nmA ssX own R ar k clo_X3_fillLongestTimes := by
  refine ⟨yX3_fillLongestTimes, cX3_fillLongestTimes, 6, none, rm_X3_fillLongestTimes, f_X3_fillLongestTimes, 3, 0, (RX3, TX3, 12), M_X3_fillLongestTimes, cs_X3_fillLongestTimes, hlink, ⟨wv_X3_fillLongestTimes, wz_X3_fillLongestTimes, wi_X3_fillLongestTimes, wc_X3_fillLongestTimes⟩, ⟨by decide +kernel, by decide +kernel, by decide +kernel⟩, har, ⟨rfl, rfl, by decide⟩, ?_, ⟨rfl, rfl, hr.1, hr.2⟩⟩
  intro as z K o h
  obtain ⟨t0, o0, r0, rfl, g0⟩ := mm_pr_e h
  obtain ⟨b0, k0⟩ := mm_bif_e g0
  obtain rfl := Nat.eq_of_beq_eq_true b0
  exact ⟨_, _, rfl⟩
-- X3_middle
noncomputable def lV_X3_middle : List (Nat × (List mm_V → mm_S → (Option mm_V → mm_S → Option mm_R) → Option mm_R)) := [(59, clo_X3_finding), (143, clo_X3_orNone), (198, clo_X3_fillLongestTimes)]
noncomputable def mV_X3_middle (k : Nat) (as : List mm_V) (z : mm_S) (kk : Option mm_V → mm_S → Option mm_R) : Option mm_R := match mm_at lV_X3_middle k with
  | some f => f as z kk
  | none => none
noncomputable def arV_X3_middle (k : Nat) : Nat := (mm_at [(59, 2), (143, 2), (198, 1)] k).getD 0
noncomputable def lS_X3_middle : List (Nat × (List mm_V → mm_S → (Option mm_V → mm_S → Option mm_R) → Option mm_R)) := [(165, clo_X3_at)]
noncomputable def mS_X3_middle (k : Nat) (as : List mm_V) (z : mm_S) (kk : Option mm_V → mm_S → Option mm_R) : Option mm_R := match mm_at lS_X3_middle k with
  | some f => f as z kk
  | none => none
noncomputable def arS_X3_middle (k : Nat) : Nat := (mm_at [(165, 2)] k).getD 0
def ct_X3_middle : List (Nat × List Nat) := [(16, [0]), (26, [0, 1, 2]), (28, [0, 1, 2, 3]), (44, [0, 1, 2, 3, 4])]
noncomputable def go_X3_middle : Nat → mm_K := mm_go (fun k => mm_at flX3 k) (fun k => mm_at clX3 k) (fun k => mm_at glX3 k) arV_X3_middle arS_X3_middle mV_X3_middle mS_X3_middle lenX roX snX 5 0 tbX3_middle ct_X3_middle
noncomputable def eX3_middle_0 (n : Nat)  (z : mm_S) : Option mm_R := go_X3_middle n 0 [(0, mm_P 3 0)] [] z
noncomputable def eX3_middle_16 (n : Nat)  (z : mm_S) : Option mm_R := go_X3_middle n 16 [(0, mm_P 3 0)] [] z
noncomputable def eX3_middle_26 (n : Nat)  (y1 : Int32) (y2 : Int32) (z : mm_S) : Option mm_R := go_X3_middle n 26 [(0, mm_P 3 0), (1, mm_I y1), (2, mm_I y2)] [] z
noncomputable def eX3_middle_28 (n : Nat)  (y1 : Int32) (y2 : Int32) (y3 : Int32) (z : mm_S) : Option mm_R := go_X3_middle n 28 [(0, mm_P 3 0), (1, mm_I y1), (2, mm_I y2), (3, mm_I y3)] [] z
noncomputable def eX3_middle_44 (n : Nat)  (y1 : Int32) (y2 : Int32) (y3 : Int32) (y4 : Int32) (z : mm_S) : Option mm_R := go_X3_middle n 44 [(0, mm_P 3 0), (1, mm_I y1), (2, mm_I y2), (3, mm_I y3), (4, mm_I y4)] [] z
set_option maxRecDepth 100000 in
theorem qX3_middle_0 (n : Nat)  (z : mm_S) : eX3_middle_0 (n + 1)  z = (if (z.1 1 4) = 0 then (sX3_finding 0 z).bind fun q1 => some (some (mm_I q1.1), q1.2) else eX3_middle_16 n  z) := rfl
set_option maxRecDepth 100000 in
theorem qX3_middle_16 (n : Nat)  (z : mm_S) : eX3_middle_16 (n + 1)  z = ((sX3_fillLongestTimes  z).bind fun q2 => eX3_middle_26 n (-1) 217 q2) := rfl
set_option maxRecDepth 100000 in
theorem qX3_middle_26 (n : Nat)  (y1 : Int32) (y2 : Int32) (z : mm_S) : eX3_middle_26 (n + 1) y1 y2 z = (eX3_middle_28 n y1 y2 0 z) := rfl
set_option maxRecDepth 100000 in
theorem qX3_middle_28 (n : Nat)  (y1 : Int32) (y2 : Int32) (y3 : Int32) (z : mm_S) : eX3_middle_28 (n + 1) y1 y2 y3 z = (if 36 ≤ y3 then (sX3_orNone y1 z).bind fun q3 => some (some (mm_I q3.1), q3.2) else eX3_middle_44 n y1 y2 y3 (pX3_at 44 y3 z) z) := rfl
set_option maxRecDepth 100000 in
theorem qX3_middle_44 (n : Nat)  (y1 : Int32) (y2 : Int32) (y3 : Int32) (y4 : Int32) (z : mm_S) : eX3_middle_44 (n + 1) y1 y2 y3 y4 z = (if y4 = (-1) then eX3_middle_28 n y1 y2 (y3 + 1) z else if y2 ≤ y4 then eX3_middle_28 n y1 y2 (y3 + 1) z else eX3_middle_28 n y3 y4 (y3 + 1) z) := rfl
def rm_X3_middle : Room := { frames := 4, cells := 0, slots := 0, locals := 108 }
noncomputable def f_X3_middle (as : List mm_V) (z : mm_S) (o : mm_R) : Prop := (as.map mm_cat).sum ≤ 5 ∧ ∃ n, go_X3_middle n 0 (mm_ar 0 as) [] z = some o
theorem M_X3_middle : mm_M lyTX lyFA lenX snX 46 48 17 roX rsA nfA nmA ssX yX3_middle cX3_middle 5 (some .int) rm_X3_middle f_X3_middle :=
  mm_met (rt := 0) (by decide +kernel) ⟨fun h => rfl, fun h => absurd h (by decide), fun h => absurd h (by decide), fun h => absurd h (by decide)⟩ tbX3_middle_ok hsnX okFX3 okLX3 okGX3 (fun _ _ _ _ => rfl) (fun _ _ _ _ => rfl) (List.forall_mem_cons.mpr ⟨sV_X3_finding (Or.inl lk_X3_59) rfl ⟨by decide, by decide⟩, List.forall_mem_cons.mpr ⟨sV_X3_orNone (Or.inl lk_X3_143) rfl ⟨by decide, by decide⟩, List.forall_mem_cons.mpr ⟨sV_X3_fillLongestTimes (Or.inl lk_X3_198) rfl ⟨by decide, by decide⟩, fun _ h => absurd h List.not_mem_nil⟩⟩⟩) (List.forall_mem_cons.mpr ⟨sS_X3_at (Or.inl lk_X3_165) rfl ⟨by decide, by decide⟩, fun _ h => absurd h List.not_mem_nil⟩)
noncomputable def sX3_middle_44 (y1 : Int32) (y2 : Int32) (y3 : Int32) (y4 : Int32) (z : mm_S) : Option ((Int32 × Int32 × Int32 × mm_S) ⊕ (Int32 × mm_S)) := if y4 = (-1) then some (.inl (y1, y2, (y3 + 1), z)) else if y2 ≤ y4 then some (.inl (y1, y2, (y3 + 1), z)) else some (.inl (y3, y4, (y3 + 1), z))
theorem kX3_middle_44 (y1 : Int32) (y2 : Int32) (y3 : Int32) (y4 : Int32) (z : mm_S) (oo : mm_R) : mm_Xs (sX3_middle_44 y1 y2 y3 y4 z) (mm_mt (fun x : Int32 × Int32 × Int32 × mm_S => ∃ n, eX3_middle_28 n x.1 x.2.1 x.2.2.1 x.2.2.2 = some oo) (fun v => (fun v : Int32 × mm_S => ((some (mm_I v.1), v.2) : mm_R)) v = oo)) (fun n => eX3_middle_44 n y1 y2 y3 y4 z) oo :=
  xs_row (fun n => qX3_middle_44 n y1 y2 y3 y4 z) (xs_if (xs_v fun hc => hc) (xs_if (xs_v fun hc => hc) (xs_v fun hc => hc)))
noncomputable def lX3_middle_28 (s : Int32 × Int32 × Int32 × mm_S) : Option ((Int32 × Int32 × Int32 × mm_S) ⊕ (Int32 × mm_S)) := if 36 ≤ s.2.2.1 then (sX3_orNone s.1 s.2.2.2).bind fun q3 => some (.inr (q3.1, q3.2)) else (sX3_middle_44 s.1 s.2.1 s.2.2.1 (pX3_at 44 s.2.2.1 s.2.2.2) s.2.2.2)
noncomputable def sX3_middle_28 (y1 : Int32) (y2 : Int32) (y3 : Int32) (z : mm_S) : Option (Int32 × mm_S) := mm_wh (lX3_middle_28 ) mm_fu (y1, y2, y3, z)
theorem kX3_middle_28 (y1 : Int32) (y2 : Int32) (y3 : Int32) (z : mm_S) (oo : mm_R) : mm_Xs (sX3_middle_28 y1 y2 y3 z) (fun v => (fun v : Int32 × mm_S => ((some (mm_I v.1), v.2) : mm_R)) v = oo) (fun n => eX3_middle_28 n y1 y2 y3 z) oo :=
  xs_wh (stp := lX3_middle_28 ) (o := oo) (E := (fun (s : Int32 × Int32 × Int32 × mm_S) n => eX3_middle_28 n s.1 s.2.1 s.2.2.1 s.2.2.2)) (C := (fun v => (fun v : Int32 × mm_S => ((some (mm_I v.1), v.2) : mm_R)) v = oo)) (fun s => xs_row (fun n => qX3_middle_28 n s.1 s.2.1 s.2.2.1 s.2.2.2) (xs_if (xs_bd fun q3 => (xs_v fun hc => ⟨0, congrArg some hc⟩)) (kX3_middle_44 s.1 s.2.1 s.2.2.1 (pX3_at 44 s.2.2.1 s.2.2.2) s.2.2.2 oo))) mm_fu (y1, y2, y3, z)
noncomputable def sX3_middle_26 (y1 : Int32) (y2 : Int32) (z : mm_S) : Option (Int32 × mm_S) := (sX3_middle_28 y1 y2 0 z)
theorem kX3_middle_26 (y1 : Int32) (y2 : Int32) (z : mm_S) (oo : mm_R) : mm_Xs (sX3_middle_26 y1 y2 z) (fun v => (fun v : Int32 × mm_S => ((some (mm_I v.1), v.2) : mm_R)) v = oo) (fun n => eX3_middle_26 n y1 y2 z) oo :=
  xs_row (fun n => qX3_middle_26 n y1 y2 z) (kX3_middle_28 y1 y2 0 z oo)
noncomputable def sX3_middle_16  (z : mm_S) : Option (Int32 × mm_S) := (sX3_fillLongestTimes  z).bind fun q2 => (sX3_middle_26 (-1) 217 q2)
theorem kX3_middle_16  (z : mm_S) (oo : mm_R) : mm_Xs (sX3_middle_16  z) (fun v => (fun v : Int32 × mm_S => ((some (mm_I v.1), v.2) : mm_R)) v = oo) (fun n => eX3_middle_16 n  z) oo :=
  xs_row (fun n => qX3_middle_16 n z) (xs_bd fun q2 => (kX3_middle_26 (-1) 217 q2 oo))
noncomputable def sX3_middle_0  (z : mm_S) : Option (Int32 × mm_S) := if (z.1 1 4) = 0 then (sX3_finding 0 z).bind fun q1 => some (q1.1, q1.2) else (sX3_middle_16 z)
theorem kX3_middle_0  (z : mm_S) (oo : mm_R) : mm_Xs (sX3_middle_0  z) (fun v => (fun v : Int32 × mm_S => ((some (mm_I v.1), v.2) : mm_R)) v = oo) (fun n => eX3_middle_0 n  z) oo :=
  xs_row (fun n => qX3_middle_0 n z) (xs_if (xs_bd fun q1 => (xs_v fun hc => ⟨0, congrArg some hc⟩)) (kX3_middle_16 z oo))
noncomputable def sX3_middle  (z : mm_S) : Option (Int32 × mm_S) := sX3_middle_0  z
theorem sp_X3_middle  (z : mm_S) (hk : ∀ v ∈ [mm_P 3 0], mm_ok 46 lyTX 48 17 v) (q : Int32 × mm_S) (hq : sX3_middle  z = some q) : f_X3_middle [mm_P 3 0] z (some (mm_I q.1), q.2) := ⟨Nat.le_of_ble_eq_true rfl, kX3_middle_0  z _ q hq rfl⟩
noncomputable def clo_X3_middle (as : List mm_V) (z : mm_S) (kk : Option mm_V → mm_S → Option mm_R) : Option mm_R := mm_pr as fun t o0 as => bif Nat.beq t 3 then (match as with | [] => (sX3_middle z).bind fun q => kk (some (mm_I q.1)) q.2 | _ => none) else none
theorem cs_X3_middle : mm_cs lyTX 46 48 17 f_X3_middle clo_X3_middle := by
  intro as z K o hk h
  obtain ⟨t0, o0, r0, rfl, g0⟩ := mm_pr_e h
  obtain ⟨b0, k0⟩ := mm_bif_e g0
  obtain rfl := Nat.eq_of_beq_eq_true b0
  rcases r0 with _ | ⟨u, w⟩
  rotate_left
  · cases k0
  obtain rfl : o0 = 0 := ok3 (hk (mm_P 3 o0) (by simp))
  obtain ⟨q, hq, hq2⟩ := Option.bind_eq_some_iff.mp k0
  exact ⟨_, _, sp_X3_middle  z hk q hq, fun v hv => by cases hv; exact Or.inl ⟨_, rfl⟩, hq2⟩
theorem sV_X3_middle {own : String} {R : Room} {ar : Nat → Nat} {k : Nat} (hlink : Cond.methodLink own k yX3_middle ∈ lw_gd ∨ ∃ host, (own, k, yX3_middle, host) ∈ nmA) (har : ar k = 1) (hr : 5 ≤ R.frames ∧ 132 ≤ R.locals) : mm_okV lyTX lyFA lenX snX 46 48 17 roX rsA nfA nmA ssX own R ar k clo_X3_middle := by
  refine ⟨yX3_middle, cX3_middle, 5, some .int, rm_X3_middle, f_X3_middle, 3, 0, (RX3, TX3, 12), M_X3_middle, cs_X3_middle, hlink, ⟨wv_X3_middle, wz_X3_middle, wi_X3_middle, wc_X3_middle⟩, ⟨by decide +kernel, by decide +kernel, by decide +kernel⟩, har, ⟨rfl, rfl, by decide⟩, ?_, ⟨rfl, rfl, hr.1, hr.2⟩⟩
  intro as z K o h
  obtain ⟨t0, o0, r0, rfl, g0⟩ := mm_pr_e h
  obtain ⟨b0, k0⟩ := mm_bif_e g0
  obtain rfl := Nat.eq_of_beq_eq_true b0
  exact ⟨_, _, rfl⟩
-- X3_hearersAs
noncomputable def lV_X3_hearersAs : List (Nat × (List mm_V → mm_S → (Option mm_V → mm_S → Option mm_R) → Option mm_R)) := [(90, clo_X0_kindOf), (93, clo_X0_placeOf), (96, clo_X0_forceOf)]
noncomputable def mV_X3_hearersAs (k : Nat) (as : List mm_V) (z : mm_S) (kk : Option mm_V → mm_S → Option mm_R) : Option mm_R := match mm_at lV_X3_hearersAs k with
  | some f => f as z kk
  | none => none
noncomputable def arV_X3_hearersAs (k : Nat) : Nat := (mm_at [(90, 2), (93, 2), (96, 2)] k).getD 0
noncomputable def lS_X3_hearersAs : List (Nat × (List mm_V → mm_S → (Option mm_V → mm_S → Option mm_R) → Option mm_R)) := [(102, clo_X3_startsAs), (105, clo_X3_hearsByAs), (165, clo_X3_at), (341, clo_X3_carriesAs)]
noncomputable def mS_X3_hearersAs (k : Nat) (as : List mm_V) (z : mm_S) (kk : Option mm_V → mm_S → Option mm_R) : Option mm_R := match mm_at lS_X3_hearersAs k with
  | some f => f as z kk
  | none => none
noncomputable def arS_X3_hearersAs (k : Nat) : Nat := (mm_at [(102, 1), (105, 1), (165, 2), (341, 2)] k).getD 0
def ct_X3_hearersAs : List (Nat × List Nat) := [(13, [0, 1, 2, 3]), (19, [0, 1, 2, 3, 4, 5]), (49, [0, 1, 2, 3, 4, 5, 6]), (77, [0, 1, 2, 3, 4, 5])]
noncomputable def go_X3_hearersAs : Nat → mm_K := mm_go (fun k => mm_at flX3 k) (fun k => mm_at clX3 k) (fun k => mm_at glX3 k) arV_X3_hearersAs arS_X3_hearersAs mV_X3_hearersAs mS_X3_hearersAs lenX roX snX 8 0 tbX3_hearersAs ct_X3_hearersAs
noncomputable def eX3_hearersAs_0 (n : Nat)  (x1 : Int32) (x2 : Int32) (z : mm_S) : Option mm_R := go_X3_hearersAs n 0 [(0, mm_P 3 0), (1, mm_I x1), (2, mm_I x2)] [] z
noncomputable def eX3_hearersAs_13 (n : Nat)  (y1 : Int32) (y2 : Int32) (y3 : Int32) (z : mm_S) : Option mm_R := go_X3_hearersAs n 13 [(0, mm_P 3 0), (1, mm_I y1), (2, mm_I y2), (3, mm_I y3)] [] z
noncomputable def eX3_hearersAs_19 (n : Nat)  (y1 : Int32) (y2 : Int32) (y3 : Int32) (y4 : Int32) (y5 : Int32) (z : mm_S) : Option mm_R := go_X3_hearersAs n 19 [(0, mm_P 3 0), (1, mm_I y1), (2, mm_I y2), (3, mm_I y3), (4, mm_I y4), (5, mm_I y5)] [] z
noncomputable def eX3_hearersAs_49 (n : Nat)  (y1 : Int32) (y2 : Int32) (y3 : Int32) (y4 : Int32) (y5 : Int32) (y6 : Int32) (z : mm_S) : Option mm_R := go_X3_hearersAs n 49 [(0, mm_P 3 0), (1, mm_I y1), (2, mm_I y2), (3, mm_I y3), (4, mm_I y4), (5, mm_I y5), (6, mm_I y6)] [] z
noncomputable def eX3_hearersAs_77 (n : Nat)  (y1 : Int32) (y2 : Int32) (y3 : Int32) (y4 : Int32) (y5 : Int32) (w0 : Int32) (w1 : Int32) (z : mm_S) : Option mm_R := go_X3_hearersAs n 77 [(0, mm_P 3 0), (1, mm_I y1), (2, mm_I y2), (3, mm_I y3), (4, mm_I y4), (5, mm_I y5)] [mm_I w0, mm_I w1] z
set_option maxRecDepth 100000 in
theorem qX3_hearersAs_0 (n : Nat)  (x1 : Int32) (x2 : Int32) (z : mm_S) : eX3_hearersAs_0 (n + 1) x1 x2 z = (eX3_hearersAs_13 n x1 x2 (pX3_carriesAs x2 (pX0_forceOf 1 x1 z)) z) := rfl
set_option maxRecDepth 100000 in
theorem qX3_hearersAs_13 (n : Nat)  (y1 : Int32) (y2 : Int32) (y3 : Int32) (z : mm_S) : eX3_hearersAs_13 (n + 1) y1 y2 y3 z = (eX3_hearersAs_19 n y1 y2 y3 0 0 z) := rfl
set_option maxRecDepth 100000 in
theorem qX3_hearersAs_19 (n : Nat)  (y1 : Int32) (y2 : Int32) (y3 : Int32) (y4 : Int32) (y5 : Int32) (z : mm_S) : eX3_hearersAs_19 (n + 1) y1 y2 y3 y4 y5 z = (if (z.1 1 4) ≤ y5 then some (some (mm_I y4), z) else eX3_hearersAs_49 n y1 y2 y3 y4 y5 (pX3_at 43 (pX0_placeOf 1 y5 z) z) z) := rfl
set_option maxRecDepth 100000 in
theorem qX3_hearersAs_49 (n : Nat)  (y1 : Int32) (y2 : Int32) (y3 : Int32) (y4 : Int32) (y5 : Int32) (y6 : Int32) (z : mm_S) : eX3_hearersAs_49 (n + 1) y1 y2 y3 y4 y5 y6 z = (if y6 = (-1) then if y5 = y1 then eX3_hearersAs_19 n y1 y2 y3 y4 (y5 + 1) z else eX3_hearersAs_19 n y1 y2 y3 y4 (y5 + 1) z else if y3 < y6 then if y5 = y1 then eX3_hearersAs_19 n y1 y2 y3 y4 (y5 + 1) z else eX3_hearersAs_19 n y1 y2 y3 y4 (y5 + 1) z else eX3_hearersAs_77 n y1 y2 y3 y4 y5 (pX0_kindOf 1 y5 z) (y6 + (pX3_startsAs y2)) z) := rfl
set_option maxRecDepth 100000 in
theorem qX3_hearersAs_77 (n : Nat)  (y1 : Int32) (y2 : Int32) (y3 : Int32) (y4 : Int32) (y5 : Int32) (w0 : Int32) (w1 : Int32) (z : mm_S) : eX3_hearersAs_77 (n + 1) y1 y2 y3 y4 y5 w0 w1 z = (if (pX3_hearsByAs w0) < w1 then if y5 = y1 then eX3_hearersAs_19 n y1 y2 y3 y4 (y5 + 1) z else eX3_hearersAs_19 n y1 y2 y3 y4 (y5 + 1) z else if y5 = y1 then eX3_hearersAs_19 n y1 y2 y3 y4 (y5 + 1) z else eX3_hearersAs_19 n y1 y2 y3 (y4 + 1) (y5 + 1) z) := rfl
def rm_X3_hearersAs : Room := { frames := 2, cells := 0, slots := 0, locals := 42 }
noncomputable def f_X3_hearersAs (as : List mm_V) (z : mm_S) (o : mm_R) : Prop := (as.map mm_cat).sum ≤ 8 ∧ ∃ n, go_X3_hearersAs n 0 (mm_ar 0 as) [] z = some o
theorem M_X3_hearersAs : mm_M lyTX lyFA lenX snX 46 48 17 roX rsA nfA nmA ssX yX3_hearersAs cX3_hearersAs 8 (some .int) rm_X3_hearersAs f_X3_hearersAs :=
  mm_met (rt := 0) (by decide +kernel) ⟨fun h => rfl, fun h => absurd h (by decide), fun h => absurd h (by decide), fun h => absurd h (by decide)⟩ tbX3_hearersAs_ok hsnX okFX3 okLX3 okGX3 (fun _ _ _ _ => rfl) (fun _ _ _ _ => rfl) (List.forall_mem_cons.mpr ⟨sV_X0_kindOf (Or.inl lk_X3_90) rfl ⟨by decide, by decide⟩, List.forall_mem_cons.mpr ⟨sV_X0_placeOf (Or.inl lk_X3_93) rfl ⟨by decide, by decide⟩, List.forall_mem_cons.mpr ⟨sV_X0_forceOf (Or.inl lk_X3_96) rfl ⟨by decide, by decide⟩, fun _ h => absurd h List.not_mem_nil⟩⟩⟩) (List.forall_mem_cons.mpr ⟨sS_X3_startsAs (Or.inl lk_X3_102) rfl ⟨by decide, by decide⟩, List.forall_mem_cons.mpr ⟨sS_X3_hearsByAs (Or.inl lk_X3_105) rfl ⟨by decide, by decide⟩, List.forall_mem_cons.mpr ⟨sS_X3_at (Or.inl lk_X3_165) rfl ⟨by decide, by decide⟩, List.forall_mem_cons.mpr ⟨sS_X3_carriesAs (Or.inl lk_X3_341) rfl ⟨by decide, by decide⟩, fun _ h => absurd h List.not_mem_nil⟩⟩⟩⟩)
noncomputable def sX3_hearersAs_77 (y1 : Int32) (y2 : Int32) (y3 : Int32) (y4 : Int32) (y5 : Int32) (w0 : Int32) (w1 : Int32) (z : mm_S) : Option ((Int32 × Int32 × Int32 × Int32 × Int32 × mm_S) ⊕ (Int32 × mm_S)) := if (pX3_hearsByAs w0) < w1 then if y5 = y1 then some (.inl (y1, y2, y3, y4, (y5 + 1), z)) else some (.inl (y1, y2, y3, y4, (y5 + 1), z)) else if y5 = y1 then some (.inl (y1, y2, y3, y4, (y5 + 1), z)) else some (.inl (y1, y2, y3, (y4 + 1), (y5 + 1), z))
theorem kX3_hearersAs_77 (y1 : Int32) (y2 : Int32) (y3 : Int32) (y4 : Int32) (y5 : Int32) (w0 : Int32) (w1 : Int32) (z : mm_S) (oo : mm_R) : mm_Xs (sX3_hearersAs_77 y1 y2 y3 y4 y5 w0 w1 z) (mm_mt (fun x : Int32 × Int32 × Int32 × Int32 × Int32 × mm_S => ∃ n, eX3_hearersAs_19 n x.1 x.2.1 x.2.2.1 x.2.2.2.1 x.2.2.2.2.1 x.2.2.2.2.2 = some oo) (fun v => (fun v : Int32 × mm_S => ((some (mm_I v.1), v.2) : mm_R)) v = oo)) (fun n => eX3_hearersAs_77 n y1 y2 y3 y4 y5 w0 w1 z) oo :=
  xs_row (fun n => qX3_hearersAs_77 n y1 y2 y3 y4 y5 w0 w1 z) (xs_if (xs_if (xs_v fun hc => hc) (xs_v fun hc => hc)) (xs_if (xs_v fun hc => hc) (xs_v fun hc => hc)))
noncomputable def sX3_hearersAs_49 (y1 : Int32) (y2 : Int32) (y3 : Int32) (y4 : Int32) (y5 : Int32) (y6 : Int32) (z : mm_S) : Option ((Int32 × Int32 × Int32 × Int32 × Int32 × mm_S) ⊕ (Int32 × mm_S)) := if y6 = (-1) then if y5 = y1 then some (.inl (y1, y2, y3, y4, (y5 + 1), z)) else some (.inl (y1, y2, y3, y4, (y5 + 1), z)) else if y3 < y6 then if y5 = y1 then some (.inl (y1, y2, y3, y4, (y5 + 1), z)) else some (.inl (y1, y2, y3, y4, (y5 + 1), z)) else (sX3_hearersAs_77 y1 y2 y3 y4 y5 (pX0_kindOf 1 y5 z) (y6 + (pX3_startsAs y2)) z)
theorem kX3_hearersAs_49 (y1 : Int32) (y2 : Int32) (y3 : Int32) (y4 : Int32) (y5 : Int32) (y6 : Int32) (z : mm_S) (oo : mm_R) : mm_Xs (sX3_hearersAs_49 y1 y2 y3 y4 y5 y6 z) (mm_mt (fun x : Int32 × Int32 × Int32 × Int32 × Int32 × mm_S => ∃ n, eX3_hearersAs_19 n x.1 x.2.1 x.2.2.1 x.2.2.2.1 x.2.2.2.2.1 x.2.2.2.2.2 = some oo) (fun v => (fun v : Int32 × mm_S => ((some (mm_I v.1), v.2) : mm_R)) v = oo)) (fun n => eX3_hearersAs_49 n y1 y2 y3 y4 y5 y6 z) oo :=
  xs_row (fun n => qX3_hearersAs_49 n y1 y2 y3 y4 y5 y6 z) (xs_if (xs_if (xs_v fun hc => hc) (xs_v fun hc => hc)) (xs_if (xs_if (xs_v fun hc => hc) (xs_v fun hc => hc)) (kX3_hearersAs_77 y1 y2 y3 y4 y5 (pX0_kindOf 1 y5 z) (y6 + (pX3_startsAs y2)) z oo)))
noncomputable def lX3_hearersAs_19 (s : Int32 × Int32 × Int32 × Int32 × Int32 × mm_S) : Option ((Int32 × Int32 × Int32 × Int32 × Int32 × mm_S) ⊕ (Int32 × mm_S)) := if (s.2.2.2.2.2.1 1 4) ≤ s.2.2.2.2.1 then some (.inr (s.2.2.2.1, s.2.2.2.2.2)) else (sX3_hearersAs_49 s.1 s.2.1 s.2.2.1 s.2.2.2.1 s.2.2.2.2.1 (pX3_at 43 (pX0_placeOf 1 s.2.2.2.2.1 s.2.2.2.2.2) s.2.2.2.2.2) s.2.2.2.2.2)
noncomputable def sX3_hearersAs_19 (y1 : Int32) (y2 : Int32) (y3 : Int32) (y4 : Int32) (y5 : Int32) (z : mm_S) : Option (Int32 × mm_S) := mm_wh (lX3_hearersAs_19 ) mm_fu (y1, y2, y3, y4, y5, z)
theorem kX3_hearersAs_19 (y1 : Int32) (y2 : Int32) (y3 : Int32) (y4 : Int32) (y5 : Int32) (z : mm_S) (oo : mm_R) : mm_Xs (sX3_hearersAs_19 y1 y2 y3 y4 y5 z) (fun v => (fun v : Int32 × mm_S => ((some (mm_I v.1), v.2) : mm_R)) v = oo) (fun n => eX3_hearersAs_19 n y1 y2 y3 y4 y5 z) oo :=
  xs_wh (stp := lX3_hearersAs_19 ) (o := oo) (E := (fun (s : Int32 × Int32 × Int32 × Int32 × Int32 × mm_S) n => eX3_hearersAs_19 n s.1 s.2.1 s.2.2.1 s.2.2.2.1 s.2.2.2.2.1 s.2.2.2.2.2)) (C := (fun v => (fun v : Int32 × mm_S => ((some (mm_I v.1), v.2) : mm_R)) v = oo)) (fun s => xs_row (fun n => qX3_hearersAs_19 n s.1 s.2.1 s.2.2.1 s.2.2.2.1 s.2.2.2.2.1 s.2.2.2.2.2) (xs_if (xs_v fun hc => ⟨0, congrArg some hc⟩) (kX3_hearersAs_49 s.1 s.2.1 s.2.2.1 s.2.2.2.1 s.2.2.2.2.1 (pX3_at 43 (pX0_placeOf 1 s.2.2.2.2.1 s.2.2.2.2.2) s.2.2.2.2.2) s.2.2.2.2.2 oo))) mm_fu (y1, y2, y3, y4, y5, z)
noncomputable def sX3_hearersAs_13 (y1 : Int32) (y2 : Int32) (y3 : Int32) (z : mm_S) : Option (Int32 × mm_S) := (sX3_hearersAs_19 y1 y2 y3 0 0 z)
theorem kX3_hearersAs_13 (y1 : Int32) (y2 : Int32) (y3 : Int32) (z : mm_S) (oo : mm_R) : mm_Xs (sX3_hearersAs_13 y1 y2 y3 z) (fun v => (fun v : Int32 × mm_S => ((some (mm_I v.1), v.2) : mm_R)) v = oo) (fun n => eX3_hearersAs_13 n y1 y2 y3 z) oo :=
  xs_row (fun n => qX3_hearersAs_13 n y1 y2 y3 z) (kX3_hearersAs_19 y1 y2 y3 0 0 z oo)
noncomputable def sX3_hearersAs_0 (x1 : Int32) (x2 : Int32) (z : mm_S) : Option (Int32 × mm_S) := (sX3_hearersAs_13 x1 x2 (pX3_carriesAs x2 (pX0_forceOf 1 x1 z)) z)
theorem kX3_hearersAs_0 (x1 : Int32) (x2 : Int32) (z : mm_S) (oo : mm_R) : mm_Xs (sX3_hearersAs_0 x1 x2 z) (fun v => (fun v : Int32 × mm_S => ((some (mm_I v.1), v.2) : mm_R)) v = oo) (fun n => eX3_hearersAs_0 n x1 x2 z) oo :=
  xs_row (fun n => qX3_hearersAs_0 n x1 x2 z) (kX3_hearersAs_13 x1 x2 (pX3_carriesAs x2 (pX0_forceOf 1 x1 z)) z oo)
noncomputable def sX3_hearersAs (x1 : Int32) (x2 : Int32) (z : mm_S) : Option (Int32 × mm_S) := sX3_hearersAs_0 x1 x2 z
theorem sp_X3_hearersAs (x1 : Int32) (x2 : Int32) (z : mm_S) (hk : ∀ v ∈ [mm_P 3 0, mm_I x1, mm_I x2], mm_ok 46 lyTX 48 17 v) (q : Int32 × mm_S) (hq : sX3_hearersAs x1 x2 z = some q) : f_X3_hearersAs [mm_P 3 0, mm_I x1, mm_I x2] z (some (mm_I q.1), q.2) := ⟨Nat.le_of_ble_eq_true rfl, kX3_hearersAs_0 x1 x2 z _ q hq rfl⟩
noncomputable def clo_X3_hearersAs (as : List mm_V) (z : mm_S) (kk : Option mm_V → mm_S → Option mm_R) : Option mm_R := mm_pr as fun t o0 as => bif Nat.beq t 3 then mm_pi as fun a1 as => mm_pi as fun a2 as => (match as with | [] => (sX3_hearersAs a1 a2 z).bind fun q => kk (some (mm_I q.1)) q.2 | _ => none) else none
theorem cs_X3_hearersAs : mm_cs lyTX 46 48 17 f_X3_hearersAs clo_X3_hearersAs := by
  intro as z K o hk h
  obtain ⟨t0, o0, r0, rfl, g0⟩ := mm_pr_e h
  obtain ⟨b0, k0⟩ := mm_bif_e g0
  obtain rfl := Nat.eq_of_beq_eq_true b0
  obtain ⟨a1, r1, rfl, g1⟩ := mm_pi_e k0
  obtain ⟨a2, r2, rfl, g2⟩ := mm_pi_e g1
  rcases r2 with _ | ⟨u, w⟩
  rotate_left
  · cases g2
  obtain rfl : o0 = 0 := ok3 (hk (mm_P 3 o0) (by simp))
  obtain ⟨q, hq, hq2⟩ := Option.bind_eq_some_iff.mp g2
  exact ⟨_, _, sp_X3_hearersAs a1 a2 z hk q hq, fun v hv => by cases hv; exact Or.inl ⟨_, rfl⟩, hq2⟩
theorem sV_X3_hearersAs {own : String} {R : Room} {ar : Nat → Nat} {k : Nat} (hlink : Cond.methodLink own k yX3_hearersAs ∈ lw_gd ∨ ∃ host, (own, k, yX3_hearersAs, host) ∈ nmA) (har : ar k = 3) (hr : 3 ≤ R.frames ∧ 69 ≤ R.locals) : mm_okV lyTX lyFA lenX snX 46 48 17 roX rsA nfA nmA ssX own R ar k clo_X3_hearersAs := by
  refine ⟨yX3_hearersAs, cX3_hearersAs, 8, some .int, rm_X3_hearersAs, f_X3_hearersAs, 3, 2, (RX3, TX3, 12), M_X3_hearersAs, cs_X3_hearersAs, hlink, ⟨wv_X3_hearersAs, wz_X3_hearersAs, wi_X3_hearersAs, wc_X3_hearersAs⟩, ⟨by decide +kernel, by decide +kernel, by decide +kernel⟩, har, ⟨rfl, rfl, by decide⟩, ?_, ⟨rfl, rfl, hr.1, hr.2⟩⟩
  intro as z K o h
  obtain ⟨t0, o0, r0, rfl, g0⟩ := mm_pr_e h
  obtain ⟨b0, k0⟩ := mm_bif_e g0
  obtain rfl := Nat.eq_of_beq_eq_true b0
  exact ⟨_, _, rfl⟩
-- X3_kindFor
noncomputable def lV_X3_kindFor : List (Nat × (List mm_V → mm_S → (Option mm_V → mm_S → Option mm_R) → Option mm_R)) := [(59, clo_X3_finding), (87, clo_X3_isCrew), (93, clo_X0_placeOf), (161, clo_X1_timesFrom), (201, clo_X3_hearersAs)]
noncomputable def mV_X3_kindFor (k : Nat) (as : List mm_V) (z : mm_S) (kk : Option mm_V → mm_S → Option mm_R) : Option mm_R := match mm_at lV_X3_kindFor k with
  | some f => f as z kk
  | none => none
noncomputable def arV_X3_kindFor (k : Nat) : Nat := (mm_at [(59, 2), (87, 2), (93, 2), (161, 3), (201, 3)] k).getD 0
noncomputable def lS_X3_kindFor : List (Nat × (List mm_V → mm_S → (Option mm_V → mm_S → Option mm_R) → Option mm_R)) := []
noncomputable def mS_X3_kindFor (k : Nat) (as : List mm_V) (z : mm_S) (kk : Option mm_V → mm_S → Option mm_R) : Option mm_R := match mm_at lS_X3_kindFor k with
  | some f => f as z kk
  | none => none
noncomputable def arS_X3_kindFor (k : Nat) : Nat := (mm_at [] k).getD 0
def ct_X3_kindFor : List (Nat × List Nat) := [(5, [0, 1]), (14, [0, 1]), (36, [0, 1]), (43, [0, 1, 2, 3, 4]), (59, [0, 1, 2, 3, 4, 5])]
noncomputable def go_X3_kindFor : Nat → mm_K := mm_go (fun k => mm_at flX3 k) (fun k => mm_at clX3 k) (fun k => mm_at glX3 k) arV_X3_kindFor arS_X3_kindFor mV_X3_kindFor mS_X3_kindFor lenX roX snX 6 0 tbX3_kindFor ct_X3_kindFor
noncomputable def eX3_kindFor_0 (n : Nat)  (x1 : Int32) (z : mm_S) : Option mm_R := go_X3_kindFor n 0 [(0, mm_P 3 0), (1, mm_I x1)] [] z
noncomputable def eX3_kindFor_5 (n : Nat)  (y1 : Int32) (w0 : Int32) (z : mm_S) : Option mm_R := go_X3_kindFor n 5 [(0, mm_P 3 0), (1, mm_I y1)] [mm_I w0] z
noncomputable def eX3_kindFor_14 (n : Nat)  (y1 : Int32) (z : mm_S) : Option mm_R := go_X3_kindFor n 14 [(0, mm_P 3 0), (1, mm_I y1)] [] z
noncomputable def eX3_kindFor_36 (n : Nat)  (y1 : Int32) (z : mm_S) : Option mm_R := go_X3_kindFor n 36 [(0, mm_P 3 0), (1, mm_I y1)] [] z
noncomputable def eX3_kindFor_43 (n : Nat)  (y1 : Int32) (y2 : Int32) (y3 : Int32) (y4 : Int32) (z : mm_S) : Option mm_R := go_X3_kindFor n 43 [(0, mm_P 3 0), (1, mm_I y1), (2, mm_I y2), (3, mm_I y3), (4, mm_I y4)] [] z
noncomputable def eX3_kindFor_59 (n : Nat)  (y1 : Int32) (y2 : Int32) (y3 : Int32) (y4 : Int32) (y5 : Int32) (z : mm_S) : Option mm_R := go_X3_kindFor n 59 [(0, mm_P 3 0), (1, mm_I y1), (2, mm_I y2), (3, mm_I y3), (4, mm_I y4), (5, mm_I y5)] [] z
set_option maxRecDepth 100000 in
theorem qX3_kindFor_0 (n : Nat)  (x1 : Int32) (z : mm_S) : eX3_kindFor_0 (n + 1) x1 z = (eX3_kindFor_5 n x1 (pX3_isCrew x1 z) z) := rfl
set_option maxRecDepth 100000 in
theorem qX3_kindFor_5 (n : Nat)  (y1 : Int32) (w0 : Int32) (z : mm_S) : eX3_kindFor_5 (n + 1) y1 w0 z = (if w0 = 0 then (sX3_finding 0 z).bind fun q1 => some (some (mm_I q1.1), q1.2) else eX3_kindFor_14 n y1 z) := rfl
set_option maxRecDepth 100000 in
theorem qX3_kindFor_14 (n : Nat)  (y1 : Int32) (z : mm_S) : eX3_kindFor_14 (n + 1) y1 z = ((sX1_timesFrom 2 (pX0_placeOf 1 y1 z) 43 z).bind fun q2 => eX3_kindFor_36 n y1 q2) := rfl
set_option maxRecDepth 100000 in
theorem qX3_kindFor_36 (n : Nat)  (y1 : Int32) (z : mm_S) : eX3_kindFor_36 (n + 1) y1 z = (eX3_kindFor_43 n y1 0 (-1) 0 z) := rfl
set_option maxRecDepth 100000 in
theorem qX3_kindFor_43 (n : Nat)  (y1 : Int32) (y2 : Int32) (y3 : Int32) (y4 : Int32) (z : mm_S) : eX3_kindFor_43 (n + 1) y1 y2 y3 y4 z = (if 7 ≤ y4 then some (some (mm_I y2), z) else (sX3_hearersAs y1 y4 z).bind fun q3 => eX3_kindFor_59 n y1 y2 y3 y4 q3.1 q3.2) := rfl
set_option maxRecDepth 100000 in
theorem qX3_kindFor_59 (n : Nat)  (y1 : Int32) (y2 : Int32) (y3 : Int32) (y4 : Int32) (y5 : Int32) (z : mm_S) : eX3_kindFor_59 (n + 1) y1 y2 y3 y4 y5 z = (if y5 ≤ y3 then eX3_kindFor_43 n y1 y2 y3 (y4 + 1) z else eX3_kindFor_43 n y1 y4 y5 (y4 + 1) z) := rfl
def rm_X3_kindFor : Room := { frames := 3, cells := 0, slots := 0, locals := 83 }
noncomputable def f_X3_kindFor (as : List mm_V) (z : mm_S) (o : mm_R) : Prop := (as.map mm_cat).sum ≤ 6 ∧ ∃ n, go_X3_kindFor n 0 (mm_ar 0 as) [] z = some o
theorem M_X3_kindFor : mm_M lyTX lyFA lenX snX 46 48 17 roX rsA nfA nmA ssX yX3_kindFor cX3_kindFor 6 (some .int) rm_X3_kindFor f_X3_kindFor :=
  mm_met (rt := 0) (by decide +kernel) ⟨fun h => rfl, fun h => absurd h (by decide), fun h => absurd h (by decide), fun h => absurd h (by decide)⟩ tbX3_kindFor_ok hsnX okFX3 okLX3 okGX3 (fun _ _ _ _ => rfl) (fun _ _ _ _ => rfl) (List.forall_mem_cons.mpr ⟨sV_X3_finding (Or.inl lk_X3_59) rfl ⟨by decide, by decide⟩, List.forall_mem_cons.mpr ⟨sV_X3_isCrew (Or.inl lk_X3_87) rfl ⟨by decide, by decide⟩, List.forall_mem_cons.mpr ⟨sV_X0_placeOf (Or.inl lk_X3_93) rfl ⟨by decide, by decide⟩, List.forall_mem_cons.mpr ⟨sV_X1_timesFrom (Or.inl lk_X3_161) rfl ⟨by decide, by decide⟩, List.forall_mem_cons.mpr ⟨sV_X3_hearersAs (Or.inl lk_X3_201) rfl ⟨by decide, by decide⟩, fun _ h => absurd h List.not_mem_nil⟩⟩⟩⟩⟩) (fun _ h => absurd h List.not_mem_nil)
noncomputable def sX3_kindFor_59 (y1 : Int32) (y2 : Int32) (y3 : Int32) (y4 : Int32) (y5 : Int32) (z : mm_S) : Option ((Int32 × Int32 × Int32 × Int32 × mm_S) ⊕ (Int32 × mm_S)) := if y5 ≤ y3 then some (.inl (y1, y2, y3, (y4 + 1), z)) else some (.inl (y1, y4, y5, (y4 + 1), z))
theorem kX3_kindFor_59 (y1 : Int32) (y2 : Int32) (y3 : Int32) (y4 : Int32) (y5 : Int32) (z : mm_S) (oo : mm_R) : mm_Xs (sX3_kindFor_59 y1 y2 y3 y4 y5 z) (mm_mt (fun x : Int32 × Int32 × Int32 × Int32 × mm_S => ∃ n, eX3_kindFor_43 n x.1 x.2.1 x.2.2.1 x.2.2.2.1 x.2.2.2.2 = some oo) (fun v => (fun v : Int32 × mm_S => ((some (mm_I v.1), v.2) : mm_R)) v = oo)) (fun n => eX3_kindFor_59 n y1 y2 y3 y4 y5 z) oo :=
  xs_row (fun n => qX3_kindFor_59 n y1 y2 y3 y4 y5 z) (xs_if (xs_v fun hc => hc) (xs_v fun hc => hc))
noncomputable def lX3_kindFor_43 (s : Int32 × Int32 × Int32 × Int32 × mm_S) : Option ((Int32 × Int32 × Int32 × Int32 × mm_S) ⊕ (Int32 × mm_S)) := if 7 ≤ s.2.2.2.1 then some (.inr (s.2.1, s.2.2.2.2)) else (sX3_hearersAs s.1 s.2.2.2.1 s.2.2.2.2).bind fun q3 => (sX3_kindFor_59 s.1 s.2.1 s.2.2.1 s.2.2.2.1 q3.1 q3.2)
noncomputable def sX3_kindFor_43 (y1 : Int32) (y2 : Int32) (y3 : Int32) (y4 : Int32) (z : mm_S) : Option (Int32 × mm_S) := mm_wh (lX3_kindFor_43 ) mm_fu (y1, y2, y3, y4, z)
theorem kX3_kindFor_43 (y1 : Int32) (y2 : Int32) (y3 : Int32) (y4 : Int32) (z : mm_S) (oo : mm_R) : mm_Xs (sX3_kindFor_43 y1 y2 y3 y4 z) (fun v => (fun v : Int32 × mm_S => ((some (mm_I v.1), v.2) : mm_R)) v = oo) (fun n => eX3_kindFor_43 n y1 y2 y3 y4 z) oo :=
  xs_wh (stp := lX3_kindFor_43 ) (o := oo) (E := (fun (s : Int32 × Int32 × Int32 × Int32 × mm_S) n => eX3_kindFor_43 n s.1 s.2.1 s.2.2.1 s.2.2.2.1 s.2.2.2.2)) (C := (fun v => (fun v : Int32 × mm_S => ((some (mm_I v.1), v.2) : mm_R)) v = oo)) (fun s => xs_row (fun n => qX3_kindFor_43 n s.1 s.2.1 s.2.2.1 s.2.2.2.1 s.2.2.2.2) (xs_if (xs_v fun hc => ⟨0, congrArg some hc⟩) (xs_bd fun q3 => (kX3_kindFor_59 s.1 s.2.1 s.2.2.1 s.2.2.2.1 q3.1 q3.2 oo)))) mm_fu (y1, y2, y3, y4, z)
noncomputable def sX3_kindFor_36 (y1 : Int32) (z : mm_S) : Option (Int32 × mm_S) := (sX3_kindFor_43 y1 0 (-1) 0 z)
theorem kX3_kindFor_36 (y1 : Int32) (z : mm_S) (oo : mm_R) : mm_Xs (sX3_kindFor_36 y1 z) (fun v => (fun v : Int32 × mm_S => ((some (mm_I v.1), v.2) : mm_R)) v = oo) (fun n => eX3_kindFor_36 n y1 z) oo :=
  xs_row (fun n => qX3_kindFor_36 n y1 z) (kX3_kindFor_43 y1 0 (-1) 0 z oo)
noncomputable def sX3_kindFor_14 (y1 : Int32) (z : mm_S) : Option (Int32 × mm_S) := (sX1_timesFrom 2 (pX0_placeOf 1 y1 z) 43 z).bind fun q2 => (sX3_kindFor_36 y1 q2)
theorem kX3_kindFor_14 (y1 : Int32) (z : mm_S) (oo : mm_R) : mm_Xs (sX3_kindFor_14 y1 z) (fun v => (fun v : Int32 × mm_S => ((some (mm_I v.1), v.2) : mm_R)) v = oo) (fun n => eX3_kindFor_14 n y1 z) oo :=
  xs_row (fun n => qX3_kindFor_14 n y1 z) (xs_bd fun q2 => (kX3_kindFor_36 y1 q2 oo))
noncomputable def sX3_kindFor_5 (y1 : Int32) (w0 : Int32) (z : mm_S) : Option (Int32 × mm_S) := if w0 = 0 then (sX3_finding 0 z).bind fun q1 => some (q1.1, q1.2) else (sX3_kindFor_14 y1 z)
theorem kX3_kindFor_5 (y1 : Int32) (w0 : Int32) (z : mm_S) (oo : mm_R) : mm_Xs (sX3_kindFor_5 y1 w0 z) (fun v => (fun v : Int32 × mm_S => ((some (mm_I v.1), v.2) : mm_R)) v = oo) (fun n => eX3_kindFor_5 n y1 w0 z) oo :=
  xs_row (fun n => qX3_kindFor_5 n y1 w0 z) (xs_if (xs_bd fun q1 => (xs_v fun hc => ⟨0, congrArg some hc⟩)) (kX3_kindFor_14 y1 z oo))
noncomputable def sX3_kindFor_0 (x1 : Int32) (z : mm_S) : Option (Int32 × mm_S) := (sX3_kindFor_5 x1 (pX3_isCrew x1 z) z)
theorem kX3_kindFor_0 (x1 : Int32) (z : mm_S) (oo : mm_R) : mm_Xs (sX3_kindFor_0 x1 z) (fun v => (fun v : Int32 × mm_S => ((some (mm_I v.1), v.2) : mm_R)) v = oo) (fun n => eX3_kindFor_0 n x1 z) oo :=
  xs_row (fun n => qX3_kindFor_0 n x1 z) (kX3_kindFor_5 x1 (pX3_isCrew x1 z) z oo)
noncomputable def sX3_kindFor (x1 : Int32) (z : mm_S) : Option (Int32 × mm_S) := sX3_kindFor_0 x1 z
theorem sp_X3_kindFor (x1 : Int32) (z : mm_S) (hk : ∀ v ∈ [mm_P 3 0, mm_I x1], mm_ok 46 lyTX 48 17 v) (q : Int32 × mm_S) (hq : sX3_kindFor x1 z = some q) : f_X3_kindFor [mm_P 3 0, mm_I x1] z (some (mm_I q.1), q.2) := ⟨Nat.le_of_ble_eq_true rfl, kX3_kindFor_0 x1 z _ q hq rfl⟩
noncomputable def clo_X3_kindFor (as : List mm_V) (z : mm_S) (kk : Option mm_V → mm_S → Option mm_R) : Option mm_R := mm_pr as fun t o0 as => bif Nat.beq t 3 then mm_pi as fun a1 as => (match as with | [] => (sX3_kindFor a1 z).bind fun q => kk (some (mm_I q.1)) q.2 | _ => none) else none
theorem cs_X3_kindFor : mm_cs lyTX 46 48 17 f_X3_kindFor clo_X3_kindFor := by
  intro as z K o hk h
  obtain ⟨t0, o0, r0, rfl, g0⟩ := mm_pr_e h
  obtain ⟨b0, k0⟩ := mm_bif_e g0
  obtain rfl := Nat.eq_of_beq_eq_true b0
  obtain ⟨a1, r1, rfl, g1⟩ := mm_pi_e k0
  rcases r1 with _ | ⟨u, w⟩
  rotate_left
  · cases g1
  obtain rfl : o0 = 0 := ok3 (hk (mm_P 3 o0) (by simp))
  obtain ⟨q, hq, hq2⟩ := Option.bind_eq_some_iff.mp g1
  exact ⟨_, _, sp_X3_kindFor a1 z hk q hq, fun v hv => by cases hv; exact Or.inl ⟨_, rfl⟩, hq2⟩
theorem sV_X3_kindFor {own : String} {R : Room} {ar : Nat → Nat} {k : Nat} (hlink : Cond.methodLink own k yX3_kindFor ∈ lw_gd ∨ ∃ host, (own, k, yX3_kindFor, host) ∈ nmA) (har : ar k = 2) (hr : 4 ≤ R.frames ∧ 108 ≤ R.locals) : mm_okV lyTX lyFA lenX snX 46 48 17 roX rsA nfA nmA ssX own R ar k clo_X3_kindFor := by
  refine ⟨yX3_kindFor, cX3_kindFor, 6, some .int, rm_X3_kindFor, f_X3_kindFor, 3, 1, (RX3, TX3, 12), M_X3_kindFor, cs_X3_kindFor, hlink, ⟨wv_X3_kindFor, wz_X3_kindFor, wi_X3_kindFor, wc_X3_kindFor⟩, ⟨by decide +kernel, by decide +kernel, by decide +kernel⟩, har, ⟨rfl, rfl, by decide⟩, ?_, ⟨rfl, rfl, hr.1, hr.2⟩⟩
  intro as z K o h
  obtain ⟨t0, o0, r0, rfl, g0⟩ := mm_pr_e h
  obtain ⟨b0, k0⟩ := mm_bif_e g0
  obtain rfl := Nat.eq_of_beq_eq_true b0
  exact ⟨_, _, rfl⟩
-- X3_place
noncomputable def lV_X3_place : List (Nat × (List mm_V → mm_S → (Option mm_V → mm_S → Option mm_R) → Option mm_R)) := [(59, clo_X3_finding), (87, clo_X3_isCrew), (99, clo_X0_carriesOf), (204, clo_X1_cellsWithin)]
noncomputable def mV_X3_place (k : Nat) (as : List mm_V) (z : mm_S) (kk : Option mm_V → mm_S → Option mm_R) : Option mm_R := match mm_at lV_X3_place k with
  | some f => f as z kk
  | none => none
noncomputable def arV_X3_place (k : Nat) : Nat := (mm_at [(59, 2), (87, 2), (99, 2), (204, 3)] k).getD 0
noncomputable def lS_X3_place : List (Nat × (List mm_V → mm_S → (Option mm_V → mm_S → Option mm_R) → Option mm_R)) := [(208, clo_J13_bitCount_95d88)]
noncomputable def mS_X3_place (k : Nat) (as : List mm_V) (z : mm_S) (kk : Option mm_V → mm_S → Option mm_R) : Option mm_R := match mm_at lS_X3_place k with
  | some f => f as z kk
  | none => none
noncomputable def arS_X3_place (k : Nat) : Nat := (mm_at [(208, 1)] k).getD 0
def ct_X3_place : List (Nat × List Nat) := [(5, [0, 1]), (14, [0, 1]), (21, [0, 1, 2, 3, 4]), (53, [0, 1, 2, 3, 4, 5])]
noncomputable def go_X3_place : Nat → mm_K := mm_go (fun k => mm_at flX3 k) (fun k => mm_at clX3 k) (fun k => mm_at glX3 k) arV_X3_place arS_X3_place mV_X3_place mS_X3_place lenX roX snX 6 0 tbX3_place ct_X3_place
noncomputable def eX3_place_0 (n : Nat)  (x1 : Int32) (z : mm_S) : Option mm_R := go_X3_place n 0 [(0, mm_P 3 0), (1, mm_I x1)] [] z
noncomputable def eX3_place_5 (n : Nat)  (y1 : Int32) (w0 : Int32) (z : mm_S) : Option mm_R := go_X3_place n 5 [(0, mm_P 3 0), (1, mm_I y1)] [mm_I w0] z
noncomputable def eX3_place_14 (n : Nat)  (y1 : Int32) (z : mm_S) : Option mm_R := go_X3_place n 14 [(0, mm_P 3 0), (1, mm_I y1)] [] z
noncomputable def eX3_place_21 (n : Nat)  (y1 : Int32) (y2 : Int32) (y3 : Int32) (y4 : Int32) (z : mm_S) : Option mm_R := go_X3_place n 21 [(0, mm_P 3 0), (1, mm_I y1), (2, mm_I y2), (3, mm_I y3), (4, mm_I y4)] [] z
noncomputable def eX3_place_53 (n : Nat)  (y1 : Int32) (y2 : Int32) (y3 : Int32) (y4 : Int32) (y5 : Int32) (z : mm_S) : Option mm_R := go_X3_place n 53 [(0, mm_P 3 0), (1, mm_I y1), (2, mm_I y2), (3, mm_I y3), (4, mm_I y4), (5, mm_I y5)] [] z
set_option maxRecDepth 100000 in
theorem qX3_place_0 (n : Nat)  (x1 : Int32) (z : mm_S) : eX3_place_0 (n + 1) x1 z = (eX3_place_5 n x1 (pX3_isCrew x1 z) z) := rfl
set_option maxRecDepth 100000 in
theorem qX3_place_5 (n : Nat)  (y1 : Int32) (w0 : Int32) (z : mm_S) : eX3_place_5 (n + 1) y1 w0 z = (if w0 = 0 then (sX3_finding 0 z).bind fun q1 => some (some (mm_I q1.1), q1.2) else eX3_place_14 n y1 z) := rfl
set_option maxRecDepth 100000 in
theorem qX3_place_14 (n : Nat)  (y1 : Int32) (z : mm_S) : eX3_place_14 (n + 1) y1 z = (eX3_place_21 n y1 0 (-1) 0 z) := rfl
set_option maxRecDepth 100000 in
theorem qX3_place_21 (n : Nat)  (y1 : Int32) (y2 : Int32) (y3 : Int32) (y4 : Int32) (z : mm_S) : eX3_place_21 (n + 1) y1 y2 y3 y4 z = (if 36 ≤ y4 then some (some (mm_I y2), z) else (sX1_cellsWithin 2 y4 (pX0_carriesOf 1 y1 z) z).bind fun q2 => eX3_place_53 n y1 y2 y3 y4 (pJ13_bitCount_95d88 q2.1) q2.2) := rfl
set_option maxRecDepth 100000 in
theorem qX3_place_53 (n : Nat)  (y1 : Int32) (y2 : Int32) (y3 : Int32) (y4 : Int32) (y5 : Int32) (z : mm_S) : eX3_place_53 (n + 1) y1 y2 y3 y4 y5 z = (if y5 ≤ y3 then eX3_place_21 n y1 y2 y3 (y4 + 1) z else eX3_place_21 n y1 y4 y5 (y4 + 1) z) := rfl
def rm_X3_place : Room := { frames := 3, cells := 0, slots := 0, locals := 80 }
noncomputable def f_X3_place (as : List mm_V) (z : mm_S) (o : mm_R) : Prop := (as.map mm_cat).sum ≤ 6 ∧ ∃ n, go_X3_place n 0 (mm_ar 0 as) [] z = some o
theorem M_X3_place : mm_M lyTX lyFA lenX snX 46 48 17 roX rsA nfA nmA ssX yX3_place cX3_place 6 (some .int) rm_X3_place f_X3_place :=
  mm_met (rt := 0) (by decide +kernel) ⟨fun h => rfl, fun h => absurd h (by decide), fun h => absurd h (by decide), fun h => absurd h (by decide)⟩ tbX3_place_ok hsnX okFX3 okLX3 okGX3 (fun _ _ _ _ => rfl) (fun _ _ _ _ => rfl) (List.forall_mem_cons.mpr ⟨sV_X3_finding (Or.inl lk_X3_59) rfl ⟨by decide, by decide⟩, List.forall_mem_cons.mpr ⟨sV_X3_isCrew (Or.inl lk_X3_87) rfl ⟨by decide, by decide⟩, List.forall_mem_cons.mpr ⟨sV_X0_carriesOf (Or.inl lk_X3_99) rfl ⟨by decide, by decide⟩, List.forall_mem_cons.mpr ⟨sV_X1_cellsWithin (Or.inl lk_X3_204) rfl ⟨by decide, by decide⟩, fun _ h => absurd h List.not_mem_nil⟩⟩⟩⟩) (List.forall_mem_cons.mpr ⟨sS_J13_bitCount_95d88 (Or.inl lk_X3_208) rfl ⟨by decide, by decide⟩, fun _ h => absurd h List.not_mem_nil⟩)
noncomputable def sX3_place_53 (y1 : Int32) (y2 : Int32) (y3 : Int32) (y4 : Int32) (y5 : Int32) (z : mm_S) : Option ((Int32 × Int32 × Int32 × Int32 × mm_S) ⊕ (Int32 × mm_S)) := if y5 ≤ y3 then some (.inl (y1, y2, y3, (y4 + 1), z)) else some (.inl (y1, y4, y5, (y4 + 1), z))
theorem kX3_place_53 (y1 : Int32) (y2 : Int32) (y3 : Int32) (y4 : Int32) (y5 : Int32) (z : mm_S) (oo : mm_R) : mm_Xs (sX3_place_53 y1 y2 y3 y4 y5 z) (mm_mt (fun x : Int32 × Int32 × Int32 × Int32 × mm_S => ∃ n, eX3_place_21 n x.1 x.2.1 x.2.2.1 x.2.2.2.1 x.2.2.2.2 = some oo) (fun v => (fun v : Int32 × mm_S => ((some (mm_I v.1), v.2) : mm_R)) v = oo)) (fun n => eX3_place_53 n y1 y2 y3 y4 y5 z) oo :=
  xs_row (fun n => qX3_place_53 n y1 y2 y3 y4 y5 z) (xs_if (xs_v fun hc => hc) (xs_v fun hc => hc))
noncomputable def lX3_place_21 (s : Int32 × Int32 × Int32 × Int32 × mm_S) : Option ((Int32 × Int32 × Int32 × Int32 × mm_S) ⊕ (Int32 × mm_S)) := if 36 ≤ s.2.2.2.1 then some (.inr (s.2.1, s.2.2.2.2)) else (sX1_cellsWithin 2 s.2.2.2.1 (pX0_carriesOf 1 s.1 s.2.2.2.2) s.2.2.2.2).bind fun q2 => (sX3_place_53 s.1 s.2.1 s.2.2.1 s.2.2.2.1 (pJ13_bitCount_95d88 q2.1) q2.2)
noncomputable def sX3_place_21 (y1 : Int32) (y2 : Int32) (y3 : Int32) (y4 : Int32) (z : mm_S) : Option (Int32 × mm_S) := mm_wh (lX3_place_21 ) mm_fu (y1, y2, y3, y4, z)
theorem kX3_place_21 (y1 : Int32) (y2 : Int32) (y3 : Int32) (y4 : Int32) (z : mm_S) (oo : mm_R) : mm_Xs (sX3_place_21 y1 y2 y3 y4 z) (fun v => (fun v : Int32 × mm_S => ((some (mm_I v.1), v.2) : mm_R)) v = oo) (fun n => eX3_place_21 n y1 y2 y3 y4 z) oo :=
  xs_wh (stp := lX3_place_21 ) (o := oo) (E := (fun (s : Int32 × Int32 × Int32 × Int32 × mm_S) n => eX3_place_21 n s.1 s.2.1 s.2.2.1 s.2.2.2.1 s.2.2.2.2)) (C := (fun v => (fun v : Int32 × mm_S => ((some (mm_I v.1), v.2) : mm_R)) v = oo)) (fun s => xs_row (fun n => qX3_place_21 n s.1 s.2.1 s.2.2.1 s.2.2.2.1 s.2.2.2.2) (xs_if (xs_v fun hc => ⟨0, congrArg some hc⟩) (xs_bd fun q2 => (kX3_place_53 s.1 s.2.1 s.2.2.1 s.2.2.2.1 (pJ13_bitCount_95d88 q2.1) q2.2 oo)))) mm_fu (y1, y2, y3, y4, z)
noncomputable def sX3_place_14 (y1 : Int32) (z : mm_S) : Option (Int32 × mm_S) := (sX3_place_21 y1 0 (-1) 0 z)
theorem kX3_place_14 (y1 : Int32) (z : mm_S) (oo : mm_R) : mm_Xs (sX3_place_14 y1 z) (fun v => (fun v : Int32 × mm_S => ((some (mm_I v.1), v.2) : mm_R)) v = oo) (fun n => eX3_place_14 n y1 z) oo :=
  xs_row (fun n => qX3_place_14 n y1 z) (kX3_place_21 y1 0 (-1) 0 z oo)
noncomputable def sX3_place_5 (y1 : Int32) (w0 : Int32) (z : mm_S) : Option (Int32 × mm_S) := if w0 = 0 then (sX3_finding 0 z).bind fun q1 => some (q1.1, q1.2) else (sX3_place_14 y1 z)
theorem kX3_place_5 (y1 : Int32) (w0 : Int32) (z : mm_S) (oo : mm_R) : mm_Xs (sX3_place_5 y1 w0 z) (fun v => (fun v : Int32 × mm_S => ((some (mm_I v.1), v.2) : mm_R)) v = oo) (fun n => eX3_place_5 n y1 w0 z) oo :=
  xs_row (fun n => qX3_place_5 n y1 w0 z) (xs_if (xs_bd fun q1 => (xs_v fun hc => ⟨0, congrArg some hc⟩)) (kX3_place_14 y1 z oo))
noncomputable def sX3_place_0 (x1 : Int32) (z : mm_S) : Option (Int32 × mm_S) := (sX3_place_5 x1 (pX3_isCrew x1 z) z)
theorem kX3_place_0 (x1 : Int32) (z : mm_S) (oo : mm_R) : mm_Xs (sX3_place_0 x1 z) (fun v => (fun v : Int32 × mm_S => ((some (mm_I v.1), v.2) : mm_R)) v = oo) (fun n => eX3_place_0 n x1 z) oo :=
  xs_row (fun n => qX3_place_0 n x1 z) (kX3_place_5 x1 (pX3_isCrew x1 z) z oo)
noncomputable def sX3_place (x1 : Int32) (z : mm_S) : Option (Int32 × mm_S) := sX3_place_0 x1 z
theorem sp_X3_place (x1 : Int32) (z : mm_S) (hk : ∀ v ∈ [mm_P 3 0, mm_I x1], mm_ok 46 lyTX 48 17 v) (q : Int32 × mm_S) (hq : sX3_place x1 z = some q) : f_X3_place [mm_P 3 0, mm_I x1] z (some (mm_I q.1), q.2) := ⟨Nat.le_of_ble_eq_true rfl, kX3_place_0 x1 z _ q hq rfl⟩
noncomputable def clo_X3_place (as : List mm_V) (z : mm_S) (kk : Option mm_V → mm_S → Option mm_R) : Option mm_R := mm_pr as fun t o0 as => bif Nat.beq t 3 then mm_pi as fun a1 as => (match as with | [] => (sX3_place a1 z).bind fun q => kk (some (mm_I q.1)) q.2 | _ => none) else none
theorem cs_X3_place : mm_cs lyTX 46 48 17 f_X3_place clo_X3_place := by
  intro as z K o hk h
  obtain ⟨t0, o0, r0, rfl, g0⟩ := mm_pr_e h
  obtain ⟨b0, k0⟩ := mm_bif_e g0
  obtain rfl := Nat.eq_of_beq_eq_true b0
  obtain ⟨a1, r1, rfl, g1⟩ := mm_pi_e k0
  rcases r1 with _ | ⟨u, w⟩
  rotate_left
  · cases g1
  obtain rfl : o0 = 0 := ok3 (hk (mm_P 3 o0) (by simp))
  obtain ⟨q, hq, hq2⟩ := Option.bind_eq_some_iff.mp g1
  exact ⟨_, _, sp_X3_place a1 z hk q hq, fun v hv => by cases hv; exact Or.inl ⟨_, rfl⟩, hq2⟩
theorem sV_X3_place {own : String} {R : Room} {ar : Nat → Nat} {k : Nat} (hlink : Cond.methodLink own k yX3_place ∈ lw_gd ∨ ∃ host, (own, k, yX3_place, host) ∈ nmA) (har : ar k = 2) (hr : 4 ≤ R.frames ∧ 105 ≤ R.locals) : mm_okV lyTX lyFA lenX snX 46 48 17 roX rsA nfA nmA ssX own R ar k clo_X3_place := by
  refine ⟨yX3_place, cX3_place, 6, some .int, rm_X3_place, f_X3_place, 3, 1, (RX3, TX3, 12), M_X3_place, cs_X3_place, hlink, ⟨wv_X3_place, wz_X3_place, wi_X3_place, wc_X3_place⟩, ⟨by decide +kernel, by decide +kernel, by decide +kernel⟩, har, ⟨rfl, rfl, by decide⟩, ?_, ⟨rfl, rfl, hr.1, hr.2⟩⟩
  intro as z K o h
  obtain ⟨t0, o0, r0, rfl, g0⟩ := mm_pr_e h
  obtain ⟨b0, k0⟩ := mm_bif_e g0
  obtain rfl := Nat.eq_of_beq_eq_true b0
  exact ⟨_, _, rfl⟩
-- X3_book
noncomputable def lV_X3_book : List (Nat × (List mm_V → mm_S → (Option mm_V → mm_S → Option mm_R) → Option mm_R)) := [(59, clo_X3_finding), (217, clo_X0_addBook)]
noncomputable def mV_X3_book (k : Nat) (as : List mm_V) (z : mm_S) (kk : Option mm_V → mm_S → Option mm_R) : Option mm_R := match mm_at lV_X3_book k with
  | some f => f as z kk
  | none => none
noncomputable def arV_X3_book (k : Nat) : Nat := (mm_at [(59, 2), (217, 4)] k).getD 0
noncomputable def lS_X3_book : List (Nat × (List mm_V → mm_S → (Option mm_V → mm_S → Option mm_R) → Option mm_R)) := [(52, clo_X3_isCell), (118, clo_X3_lies)]
noncomputable def mS_X3_book (k : Nat) (as : List mm_V) (z : mm_S) (kk : Option mm_V → mm_S → Option mm_R) : Option mm_R := match mm_at lS_X3_book k with
  | some f => f as z kk
  | none => none
noncomputable def arS_X3_book (k : Nat) : Nat := (mm_at [(52, 1), (118, 3)] k).getD 0
def ct_X3_book : List (Nat × List Nat) := [(4, [0, 1, 2, 3]), (11, [0, 1, 2, 3]), (21, [0, 1, 2, 3]), (30, [0, 1, 2, 3]), (48, [0, 1, 2, 3]), (58, [0])]
noncomputable def go_X3_book : Nat → mm_K := mm_go (fun k => mm_at flX3 k) (fun k => mm_at clX3 k) (fun k => mm_at glX3 k) arV_X3_book arS_X3_book mV_X3_book mS_X3_book lenX roX snX 4 0 tbX3_book ct_X3_book
noncomputable def eX3_book_0 (n : Nat)  (x1 : Int32) (x2 : Int32) (x3 : Int32) (z : mm_S) : Option mm_R := go_X3_book n 0 [(0, mm_P 3 0), (1, mm_I x1), (2, mm_I x2), (3, mm_I x3)] [] z
noncomputable def eX3_book_4 (n : Nat)  (y1 : Int32) (y2 : Int32) (y3 : Int32) (w0 : Int32) (z : mm_S) : Option mm_R := go_X3_book n 4 [(0, mm_P 3 0), (1, mm_I y1), (2, mm_I y2), (3, mm_I y3)] [mm_I w0] z
noncomputable def eX3_book_11 (n : Nat)  (y1 : Int32) (y2 : Int32) (y3 : Int32) (w0 : Int32) (z : mm_S) : Option mm_R := go_X3_book n 11 [(0, mm_P 3 0), (1, mm_I y1), (2, mm_I y2), (3, mm_I y3)] [mm_I w0] z
noncomputable def eX3_book_21 (n : Nat)  (y1 : Int32) (y2 : Int32) (y3 : Int32) (w0 : Int32) (z : mm_S) : Option mm_R := go_X3_book n 21 [(0, mm_P 3 0), (1, mm_I y1), (2, mm_I y2), (3, mm_I y3)] [mm_I w0] z
noncomputable def eX3_book_30 (n : Nat)  (y1 : Int32) (y2 : Int32) (y3 : Int32) (z : mm_S) : Option mm_R := go_X3_book n 30 [(0, mm_P 3 0), (1, mm_I y1), (2, mm_I y2), (3, mm_I y3)] [] z
noncomputable def eX3_book_48 (n : Nat)  (y1 : Int32) (y2 : Int32) (y3 : Int32) (z : mm_S) : Option mm_R := go_X3_book n 48 [(0, mm_P 3 0), (1, mm_I y1), (2, mm_I y2), (3, mm_I y3)] [] z
noncomputable def eX3_book_58 (n : Nat)  (z : mm_S) : Option mm_R := go_X3_book n 58 [(0, mm_P 3 0)] [] z
set_option maxRecDepth 100000 in
theorem qX3_book_0 (n : Nat)  (x1 : Int32) (x2 : Int32) (x3 : Int32) (z : mm_S) : eX3_book_0 (n + 1) x1 x2 x3 z = (eX3_book_4 n x1 x2 x3 (pX3_isCell x1) z) := rfl
set_option maxRecDepth 100000 in
theorem qX3_book_4 (n : Nat)  (y1 : Int32) (y2 : Int32) (y3 : Int32) (w0 : Int32) (z : mm_S) : eX3_book_4 (n + 1) y1 y2 y3 w0 z = (if w0 = 0 then (sX3_finding 0 z).bind fun q1 => some (some (mm_I q1.1), q1.2) else eX3_book_11 n y1 y2 y3 (pX3_isCell y2) z) := rfl
set_option maxRecDepth 100000 in
theorem qX3_book_11 (n : Nat)  (y1 : Int32) (y2 : Int32) (y3 : Int32) (w0 : Int32) (z : mm_S) : eX3_book_11 (n + 1) y1 y2 y3 w0 z = (if w0 = 0 then (sX3_finding 0 z).bind fun q2 => some (some (mm_I q2.1), q2.2) else eX3_book_21 n y1 y2 y3 (pX3_lies y3 0 99) z) := rfl
set_option maxRecDepth 100000 in
theorem qX3_book_21 (n : Nat)  (y1 : Int32) (y2 : Int32) (y3 : Int32) (w0 : Int32) (z : mm_S) : eX3_book_21 (n + 1) y1 y2 y3 w0 z = (if w0 = 0 then (sX3_finding 0 z).bind fun q3 => some (some (mm_I q3.1), q3.2) else eX3_book_30 n y1 y2 y3 z) := rfl
set_option maxRecDepth 100000 in
theorem qX3_book_30 (n : Nat)  (y1 : Int32) (y2 : Int32) (y3 : Int32) (z : mm_S) : eX3_book_30 (n + 1) y1 y2 y3 z = (if (z.1 1 10) < 8 then eX3_book_48 n y1 y2 y3 z else (sX3_finding 1 z).bind fun q4 => some (some (mm_I q4.1), q4.2)) := rfl
set_option maxRecDepth 100000 in
theorem qX3_book_48 (n : Nat)  (y1 : Int32) (y2 : Int32) (y3 : Int32) (z : mm_S) : eX3_book_48 (n + 1) y1 y2 y3 z = (let u5 := (tX0_addBook 1 y1 y2 y3 z); eX3_book_58 n  u5) := rfl
set_option maxRecDepth 100000 in
theorem qX3_book_58 (n : Nat)  (z : mm_S) : eX3_book_58 (n + 1)  z = (some (some (mm_I (z.1 1 10)), z)) := rfl
def rm_X3_book : Room := { frames := 2, cells := 0, slots := 0, locals := 46 }
noncomputable def f_X3_book (as : List mm_V) (z : mm_S) (o : mm_R) : Prop := (as.map mm_cat).sum ≤ 4 ∧ ∃ n, go_X3_book n 0 (mm_ar 0 as) [] z = some o
theorem M_X3_book : mm_M lyTX lyFA lenX snX 46 48 17 roX rsA nfA nmA ssX yX3_book cX3_book 4 (some .int) rm_X3_book f_X3_book :=
  mm_met (rt := 0) (by decide +kernel) ⟨fun h => rfl, fun h => absurd h (by decide), fun h => absurd h (by decide), fun h => absurd h (by decide)⟩ tbX3_book_ok hsnX okFX3 okLX3 okGX3 (fun _ _ _ _ => rfl) (fun _ _ _ _ => rfl) (List.forall_mem_cons.mpr ⟨sV_X3_finding (Or.inl lk_X3_59) rfl ⟨by decide, by decide⟩, List.forall_mem_cons.mpr ⟨sV_X0_addBook (Or.inl lk_X3_217) rfl ⟨by decide, by decide⟩, fun _ h => absurd h List.not_mem_nil⟩⟩) (List.forall_mem_cons.mpr ⟨sS_X3_isCell (Or.inl lk_X3_52) rfl ⟨by decide, by decide⟩, List.forall_mem_cons.mpr ⟨sS_X3_lies (Or.inl lk_X3_118) rfl ⟨by decide, by decide⟩, fun _ h => absurd h List.not_mem_nil⟩⟩)
noncomputable def sX3_book_58  (z : mm_S) : Option (Int32 × mm_S) := some ((z.1 1 10), z)
theorem kX3_book_58  (z : mm_S) (oo : mm_R) : mm_Xs (sX3_book_58  z) (fun v => (fun v : Int32 × mm_S => ((some (mm_I v.1), v.2) : mm_R)) v = oo) (fun n => eX3_book_58 n  z) oo :=
  xs_row (fun n => qX3_book_58 n z) (xs_v fun hc => ⟨0, congrArg some hc⟩)
noncomputable def sX3_book_48 (y1 : Int32) (y2 : Int32) (y3 : Int32) (z : mm_S) : Option (Int32 × mm_S) := let u5 := (tX0_addBook 1 y1 y2 y3 z); (sX3_book_58 u5)
theorem kX3_book_48 (y1 : Int32) (y2 : Int32) (y3 : Int32) (z : mm_S) (oo : mm_R) : mm_Xs (sX3_book_48 y1 y2 y3 z) (fun v => (fun v : Int32 × mm_S => ((some (mm_I v.1), v.2) : mm_R)) v = oo) (fun n => eX3_book_48 n y1 y2 y3 z) oo :=
  xs_row (fun n => qX3_book_48 n y1 y2 y3 z) (xs_let ((tX0_addBook 1 y1 y2 y3 z)) (S := fun (u5 : _) => ((sX3_book_58 u5) : Option (Int32 × mm_S))) (T := fun (u5 : _) n => eX3_book_58 n  u5) (fun u5 => (kX3_book_58 u5 oo)))
noncomputable def sX3_book_30 (y1 : Int32) (y2 : Int32) (y3 : Int32) (z : mm_S) : Option (Int32 × mm_S) := if (z.1 1 10) < 8 then (sX3_book_48 y1 y2 y3 z) else (sX3_finding 1 z).bind fun q4 => some (q4.1, q4.2)
theorem kX3_book_30 (y1 : Int32) (y2 : Int32) (y3 : Int32) (z : mm_S) (oo : mm_R) : mm_Xs (sX3_book_30 y1 y2 y3 z) (fun v => (fun v : Int32 × mm_S => ((some (mm_I v.1), v.2) : mm_R)) v = oo) (fun n => eX3_book_30 n y1 y2 y3 z) oo :=
  xs_row (fun n => qX3_book_30 n y1 y2 y3 z) (xs_if (kX3_book_48 y1 y2 y3 z oo) (xs_bd fun q4 => (xs_v fun hc => ⟨0, congrArg some hc⟩)))
noncomputable def sX3_book_21 (y1 : Int32) (y2 : Int32) (y3 : Int32) (w0 : Int32) (z : mm_S) : Option (Int32 × mm_S) := if w0 = 0 then (sX3_finding 0 z).bind fun q3 => some (q3.1, q3.2) else (sX3_book_30 y1 y2 y3 z)
theorem kX3_book_21 (y1 : Int32) (y2 : Int32) (y3 : Int32) (w0 : Int32) (z : mm_S) (oo : mm_R) : mm_Xs (sX3_book_21 y1 y2 y3 w0 z) (fun v => (fun v : Int32 × mm_S => ((some (mm_I v.1), v.2) : mm_R)) v = oo) (fun n => eX3_book_21 n y1 y2 y3 w0 z) oo :=
  xs_row (fun n => qX3_book_21 n y1 y2 y3 w0 z) (xs_if (xs_bd fun q3 => (xs_v fun hc => ⟨0, congrArg some hc⟩)) (kX3_book_30 y1 y2 y3 z oo))
noncomputable def sX3_book_11 (y1 : Int32) (y2 : Int32) (y3 : Int32) (w0 : Int32) (z : mm_S) : Option (Int32 × mm_S) := if w0 = 0 then (sX3_finding 0 z).bind fun q2 => some (q2.1, q2.2) else (sX3_book_21 y1 y2 y3 (pX3_lies y3 0 99) z)
theorem kX3_book_11 (y1 : Int32) (y2 : Int32) (y3 : Int32) (w0 : Int32) (z : mm_S) (oo : mm_R) : mm_Xs (sX3_book_11 y1 y2 y3 w0 z) (fun v => (fun v : Int32 × mm_S => ((some (mm_I v.1), v.2) : mm_R)) v = oo) (fun n => eX3_book_11 n y1 y2 y3 w0 z) oo :=
  xs_row (fun n => qX3_book_11 n y1 y2 y3 w0 z) (xs_if (xs_bd fun q2 => (xs_v fun hc => ⟨0, congrArg some hc⟩)) (kX3_book_21 y1 y2 y3 (pX3_lies y3 0 99) z oo))
noncomputable def sX3_book_4 (y1 : Int32) (y2 : Int32) (y3 : Int32) (w0 : Int32) (z : mm_S) : Option (Int32 × mm_S) := if w0 = 0 then (sX3_finding 0 z).bind fun q1 => some (q1.1, q1.2) else (sX3_book_11 y1 y2 y3 (pX3_isCell y2) z)
theorem kX3_book_4 (y1 : Int32) (y2 : Int32) (y3 : Int32) (w0 : Int32) (z : mm_S) (oo : mm_R) : mm_Xs (sX3_book_4 y1 y2 y3 w0 z) (fun v => (fun v : Int32 × mm_S => ((some (mm_I v.1), v.2) : mm_R)) v = oo) (fun n => eX3_book_4 n y1 y2 y3 w0 z) oo :=
  xs_row (fun n => qX3_book_4 n y1 y2 y3 w0 z) (xs_if (xs_bd fun q1 => (xs_v fun hc => ⟨0, congrArg some hc⟩)) (kX3_book_11 y1 y2 y3 (pX3_isCell y2) z oo))
noncomputable def sX3_book_0 (x1 : Int32) (x2 : Int32) (x3 : Int32) (z : mm_S) : Option (Int32 × mm_S) := (sX3_book_4 x1 x2 x3 (pX3_isCell x1) z)
theorem kX3_book_0 (x1 : Int32) (x2 : Int32) (x3 : Int32) (z : mm_S) (oo : mm_R) : mm_Xs (sX3_book_0 x1 x2 x3 z) (fun v => (fun v : Int32 × mm_S => ((some (mm_I v.1), v.2) : mm_R)) v = oo) (fun n => eX3_book_0 n x1 x2 x3 z) oo :=
  xs_row (fun n => qX3_book_0 n x1 x2 x3 z) (kX3_book_4 x1 x2 x3 (pX3_isCell x1) z oo)
noncomputable def sX3_book (x1 : Int32) (x2 : Int32) (x3 : Int32) (z : mm_S) : Option (Int32 × mm_S) := sX3_book_0 x1 x2 x3 z
theorem sp_X3_book (x1 : Int32) (x2 : Int32) (x3 : Int32) (z : mm_S) (hk : ∀ v ∈ [mm_P 3 0, mm_I x1, mm_I x2, mm_I x3], mm_ok 46 lyTX 48 17 v) (q : Int32 × mm_S) (hq : sX3_book x1 x2 x3 z = some q) : f_X3_book [mm_P 3 0, mm_I x1, mm_I x2, mm_I x3] z (some (mm_I q.1), q.2) := ⟨Nat.le_of_ble_eq_true rfl, kX3_book_0 x1 x2 x3 z _ q hq rfl⟩
noncomputable def clo_X3_book (as : List mm_V) (z : mm_S) (kk : Option mm_V → mm_S → Option mm_R) : Option mm_R := mm_pr as fun t o0 as => bif Nat.beq t 3 then mm_pi as fun a1 as => mm_pi as fun a2 as => mm_pi as fun a3 as => (match as with | [] => (sX3_book a1 a2 a3 z).bind fun q => kk (some (mm_I q.1)) q.2 | _ => none) else none
theorem cs_X3_book : mm_cs lyTX 46 48 17 f_X3_book clo_X3_book := by
  intro as z K o hk h
  obtain ⟨t0, o0, r0, rfl, g0⟩ := mm_pr_e h
  obtain ⟨b0, k0⟩ := mm_bif_e g0
  obtain rfl := Nat.eq_of_beq_eq_true b0
  obtain ⟨a1, r1, rfl, g1⟩ := mm_pi_e k0
  obtain ⟨a2, r2, rfl, g2⟩ := mm_pi_e g1
  obtain ⟨a3, r3, rfl, g3⟩ := mm_pi_e g2
  rcases r3 with _ | ⟨u, w⟩
  rotate_left
  · cases g3
  obtain rfl : o0 = 0 := ok3 (hk (mm_P 3 o0) (by simp))
  obtain ⟨q, hq, hq2⟩ := Option.bind_eq_some_iff.mp g3
  exact ⟨_, _, sp_X3_book a1 a2 a3 z hk q hq, fun v hv => by cases hv; exact Or.inl ⟨_, rfl⟩, hq2⟩
theorem sV_X3_book {own : String} {R : Room} {ar : Nat → Nat} {k : Nat} (hlink : Cond.methodLink own k yX3_book ∈ lw_gd ∨ ∃ host, (own, k, yX3_book, host) ∈ nmA) (har : ar k = 4) (hr : 3 ≤ R.frames ∧ 69 ≤ R.locals) : mm_okV lyTX lyFA lenX snX 46 48 17 roX rsA nfA nmA ssX own R ar k clo_X3_book := by
  refine ⟨yX3_book, cX3_book, 4, some .int, rm_X3_book, f_X3_book, 3, 3, (RX3, TX3, 12), M_X3_book, cs_X3_book, hlink, ⟨wv_X3_book, wz_X3_book, wi_X3_book, wc_X3_book⟩, ⟨by decide +kernel, by decide +kernel, by decide +kernel⟩, har, ⟨rfl, rfl, by decide⟩, ?_, ⟨rfl, rfl, hr.1, hr.2⟩⟩
  intro as z K o h
  obtain ⟨t0, o0, r0, rfl, g0⟩ := mm_pr_e h
  obtain ⟨b0, k0⟩ := mm_bif_e g0
  obtain rfl := Nat.eq_of_beq_eq_true b0
  exact ⟨_, _, rfl⟩
-- X3_burn
noncomputable def lV_X3_burn : List (Nat × (List mm_V → mm_S → (Option mm_V → mm_S → Option mm_R) → Option mm_R)) := []
noncomputable def mV_X3_burn (k : Nat) (as : List mm_V) (z : mm_S) (kk : Option mm_V → mm_S → Option mm_R) : Option mm_R := match mm_at lV_X3_burn k with
  | some f => f as z kk
  | none => none
noncomputable def arV_X3_burn (k : Nat) : Nat := (mm_at [] k).getD 0
noncomputable def lS_X3_burn : List (Nat × (List mm_V → mm_S → (Option mm_V → mm_S → Option mm_R) → Option mm_R)) := []
noncomputable def mS_X3_burn (k : Nat) (as : List mm_V) (z : mm_S) (kk : Option mm_V → mm_S → Option mm_R) : Option mm_R := match mm_at lS_X3_burn k with
  | some f => f as z kk
  | none => none
noncomputable def arS_X3_burn (k : Nat) : Nat := (mm_at [] k).getD 0
def ct_X3_burn : List (Nat × List Nat) := [(16, [1])]
noncomputable def go_X3_burn : Nat → mm_K := mm_go (fun k => mm_at flX3 k) (fun k => mm_at clX3 k) (fun k => mm_at glX3 k) arV_X3_burn arS_X3_burn mV_X3_burn mS_X3_burn lenX roX snX 2 0 tbX3_burn ct_X3_burn
noncomputable def eX3_burn_0 (n : Nat)  (z : mm_S) : Option mm_R := go_X3_burn n 0 [(0, mm_P 3 0)] [] z
noncomputable def eX3_burn_16 (n : Nat) (y1 : Int32) (z : mm_S) : Option mm_R := go_X3_burn n 16 [(1, mm_I y1)] [] z
set_option maxRecDepth 100000 in
theorem qX3_burn_0 (n : Nat)  (z : mm_S) : eX3_burn_0 (n + 1)  z = (eX3_burn_16 n (z.1 1 10) ((mm_ui z.1 1 10 0), z.2)) := rfl
set_option maxRecDepth 100000 in
theorem qX3_burn_16 (n : Nat) (y1 : Int32) (z : mm_S) : eX3_burn_16 (n + 1) y1 z = (some (some (mm_I y1), z)) := rfl
def rm_X3_burn : Room := { frames := 0, cells := 0, slots := 0, locals := 0 }
noncomputable def f_X3_burn (as : List mm_V) (z : mm_S) (o : mm_R) : Prop := (as.map mm_cat).sum ≤ 2 ∧ ∃ n, go_X3_burn n 0 (mm_ar 0 as) [] z = some o
theorem M_X3_burn : mm_M lyTX lyFA lenX snX 46 48 17 roX rsA nfA nmA ssX yX3_burn cX3_burn 2 (some .int) rm_X3_burn f_X3_burn :=
  mm_met (rt := 0) (by decide +kernel) ⟨fun h => rfl, fun h => absurd h (by decide), fun h => absurd h (by decide), fun h => absurd h (by decide)⟩ tbX3_burn_ok hsnX okFX3 okLX3 okGX3 (fun _ _ _ _ => rfl) (fun _ _ _ _ => rfl) (fun _ h => absurd h List.not_mem_nil) (fun _ h => absurd h List.not_mem_nil)
noncomputable def sX3_burn_16 (y1 : Int32) (z : mm_S) : Option (Int32 × mm_S) := some (y1, z)
theorem kX3_burn_16 (y1 : Int32) (z : mm_S) (oo : mm_R) : mm_Xs (sX3_burn_16 y1 z) (fun v => (fun v : Int32 × mm_S => ((some (mm_I v.1), v.2) : mm_R)) v = oo) (fun n => eX3_burn_16 n y1 z) oo :=
  xs_row (fun n => qX3_burn_16 n y1 z) (xs_v fun hc => ⟨0, congrArg some hc⟩)
noncomputable def sX3_burn_0  (z : mm_S) : Option (Int32 × mm_S) := (sX3_burn_16 (z.1 1 10) ((mm_ui z.1 1 10 0), z.2))
theorem kX3_burn_0  (z : mm_S) (oo : mm_R) : mm_Xs (sX3_burn_0  z) (fun v => (fun v : Int32 × mm_S => ((some (mm_I v.1), v.2) : mm_R)) v = oo) (fun n => eX3_burn_0 n  z) oo :=
  xs_row (fun n => qX3_burn_0 n z) (kX3_burn_16 (z.1 1 10) ((mm_ui z.1 1 10 0), z.2) oo)
noncomputable def sX3_burn  (z : mm_S) : Option (Int32 × mm_S) := sX3_burn_0  z
theorem sp_X3_burn  (z : mm_S) (hk : ∀ v ∈ [mm_P 3 0], mm_ok 46 lyTX 48 17 v) (q : Int32 × mm_S) (hq : sX3_burn  z = some q) : f_X3_burn [mm_P 3 0] z (some (mm_I q.1), q.2) := ⟨Nat.le_of_ble_eq_true rfl, kX3_burn_0  z _ q hq rfl⟩
noncomputable def clo_X3_burn (as : List mm_V) (z : mm_S) (kk : Option mm_V → mm_S → Option mm_R) : Option mm_R := mm_pr as fun t o0 as => bif Nat.beq t 3 then (match as with | [] => (sX3_burn z).bind fun q => kk (some (mm_I q.1)) q.2 | _ => none) else none
theorem cs_X3_burn : mm_cs lyTX 46 48 17 f_X3_burn clo_X3_burn := by
  intro as z K o hk h
  obtain ⟨t0, o0, r0, rfl, g0⟩ := mm_pr_e h
  obtain ⟨b0, k0⟩ := mm_bif_e g0
  obtain rfl := Nat.eq_of_beq_eq_true b0
  rcases r0 with _ | ⟨u, w⟩
  rotate_left
  · cases k0
  obtain rfl : o0 = 0 := ok3 (hk (mm_P 3 o0) (by simp))
  obtain ⟨q, hq, hq2⟩ := Option.bind_eq_some_iff.mp k0
  exact ⟨_, _, sp_X3_burn  z hk q hq, fun v hv => by cases hv; exact Or.inl ⟨_, rfl⟩, hq2⟩
theorem sV_X3_burn {own : String} {R : Room} {ar : Nat → Nat} {k : Nat} (hlink : Cond.methodLink own k yX3_burn ∈ lw_gd ∨ ∃ host, (own, k, yX3_burn, host) ∈ nmA) (har : ar k = 1) (hr : 1 ≤ R.frames ∧ 21 ≤ R.locals) : mm_okV lyTX lyFA lenX snX 46 48 17 roX rsA nfA nmA ssX own R ar k clo_X3_burn := by
  refine ⟨yX3_burn, cX3_burn, 2, some .int, rm_X3_burn, f_X3_burn, 3, 0, (RX3, TX3, 12), M_X3_burn, cs_X3_burn, hlink, ⟨wv_X3_burn, wz_X3_burn, wi_X3_burn, wc_X3_burn⟩, ⟨by decide +kernel, by decide +kernel, by decide +kernel⟩, har, ⟨rfl, rfl, by decide⟩, ?_, ⟨rfl, rfl, hr.1, hr.2⟩⟩
  intro as z K o h
  obtain ⟨t0, o0, r0, rfl, g0⟩ := mm_pr_e h
  obtain ⟨b0, k0⟩ := mm_bif_e g0
  obtain rfl := Nat.eq_of_beq_eq_true b0
  exact ⟨_, _, rfl⟩
-- X3_wrong
noncomputable def lV_X3_wrong : List (Nat × (List mm_V → mm_S → (Option mm_V → mm_S → Option mm_R) → Option mm_R)) := [(143, clo_X3_orNone), (220, clo_X0_firstWrong)]
noncomputable def mV_X3_wrong (k : Nat) (as : List mm_V) (z : mm_S) (kk : Option mm_V → mm_S → Option mm_R) : Option mm_R := match mm_at lV_X3_wrong k with
  | some f => f as z kk
  | none => none
noncomputable def arV_X3_wrong (k : Nat) : Nat := (mm_at [(143, 2), (220, 1)] k).getD 0
noncomputable def lS_X3_wrong : List (Nat × (List mm_V → mm_S → (Option mm_V → mm_S → Option mm_R) → Option mm_R)) := []
noncomputable def mS_X3_wrong (k : Nat) (as : List mm_V) (z : mm_S) (kk : Option mm_V → mm_S → Option mm_R) : Option mm_R := match mm_at lS_X3_wrong k with
  | some f => f as z kk
  | none => none
noncomputable def arS_X3_wrong (k : Nat) : Nat := (mm_at [] k).getD 0
def ct_X3_wrong : List (Nat × List Nat) := []
noncomputable def go_X3_wrong : Nat → mm_K := mm_go (fun k => mm_at flX3 k) (fun k => mm_at clX3 k) (fun k => mm_at glX3 k) arV_X3_wrong arS_X3_wrong mV_X3_wrong mS_X3_wrong lenX roX snX 1 0 tbX3_wrong ct_X3_wrong
noncomputable def eX3_wrong_0 (n : Nat)  (z : mm_S) : Option mm_R := go_X3_wrong n 0 [(0, mm_P 3 0)] [] z
set_option maxRecDepth 100000 in
theorem qX3_wrong_0 (n : Nat)  (z : mm_S) : eX3_wrong_0 (n + 1)  z = ((sX0_firstWrong 1 z).bind fun q1 => (sX3_orNone q1.1 q1.2).bind fun q2 => some (some (mm_I q2.1), q2.2)) := rfl
def rm_X3_wrong : Room := { frames := 4, cells := 0, slots := 0, locals := 103 }
noncomputable def f_X3_wrong (as : List mm_V) (z : mm_S) (o : mm_R) : Prop := (as.map mm_cat).sum ≤ 1 ∧ ∃ n, go_X3_wrong n 0 (mm_ar 0 as) [] z = some o
theorem M_X3_wrong : mm_M lyTX lyFA lenX snX 46 48 17 roX rsA nfA nmA ssX yX3_wrong cX3_wrong 1 (some .int) rm_X3_wrong f_X3_wrong :=
  mm_met (rt := 0) (by decide +kernel) ⟨fun h => rfl, fun h => absurd h (by decide), fun h => absurd h (by decide), fun h => absurd h (by decide)⟩ tbX3_wrong_ok hsnX okFX3 okLX3 okGX3 (fun _ _ _ _ => rfl) (fun _ _ _ _ => rfl) (List.forall_mem_cons.mpr ⟨sV_X3_orNone (Or.inl lk_X3_143) rfl ⟨by decide, by decide⟩, List.forall_mem_cons.mpr ⟨sV_X0_firstWrong (Or.inl lk_X3_220) rfl ⟨by decide, by decide⟩, fun _ h => absurd h List.not_mem_nil⟩⟩) (fun _ h => absurd h List.not_mem_nil)
noncomputable def sX3_wrong_0  (z : mm_S) : Option (Int32 × mm_S) := (sX0_firstWrong 1 z).bind fun q1 => (sX3_orNone q1.1 q1.2).bind fun q2 => some (q2.1, q2.2)
theorem kX3_wrong_0  (z : mm_S) (oo : mm_R) : mm_Xs (sX3_wrong_0  z) (fun v => (fun v : Int32 × mm_S => ((some (mm_I v.1), v.2) : mm_R)) v = oo) (fun n => eX3_wrong_0 n  z) oo :=
  xs_row (fun n => qX3_wrong_0 n z) (xs_bd fun q1 => (xs_bd fun q2 => (xs_v fun hc => ⟨0, congrArg some hc⟩)))
noncomputable def sX3_wrong  (z : mm_S) : Option (Int32 × mm_S) := sX3_wrong_0  z
theorem sp_X3_wrong  (z : mm_S) (hk : ∀ v ∈ [mm_P 3 0], mm_ok 46 lyTX 48 17 v) (q : Int32 × mm_S) (hq : sX3_wrong  z = some q) : f_X3_wrong [mm_P 3 0] z (some (mm_I q.1), q.2) := ⟨Nat.le_of_ble_eq_true rfl, kX3_wrong_0  z _ q hq rfl⟩
noncomputable def clo_X3_wrong (as : List mm_V) (z : mm_S) (kk : Option mm_V → mm_S → Option mm_R) : Option mm_R := mm_pr as fun t o0 as => bif Nat.beq t 3 then (match as with | [] => (sX3_wrong z).bind fun q => kk (some (mm_I q.1)) q.2 | _ => none) else none
theorem cs_X3_wrong : mm_cs lyTX 46 48 17 f_X3_wrong clo_X3_wrong := by
  intro as z K o hk h
  obtain ⟨t0, o0, r0, rfl, g0⟩ := mm_pr_e h
  obtain ⟨b0, k0⟩ := mm_bif_e g0
  obtain rfl := Nat.eq_of_beq_eq_true b0
  rcases r0 with _ | ⟨u, w⟩
  rotate_left
  · cases k0
  obtain rfl : o0 = 0 := ok3 (hk (mm_P 3 o0) (by simp))
  obtain ⟨q, hq, hq2⟩ := Option.bind_eq_some_iff.mp k0
  exact ⟨_, _, sp_X3_wrong  z hk q hq, fun v hv => by cases hv; exact Or.inl ⟨_, rfl⟩, hq2⟩
theorem sV_X3_wrong {own : String} {R : Room} {ar : Nat → Nat} {k : Nat} (hlink : Cond.methodLink own k yX3_wrong ∈ lw_gd ∨ ∃ host, (own, k, yX3_wrong, host) ∈ nmA) (har : ar k = 1) (hr : 5 ≤ R.frames ∧ 123 ≤ R.locals) : mm_okV lyTX lyFA lenX snX 46 48 17 roX rsA nfA nmA ssX own R ar k clo_X3_wrong := by
  refine ⟨yX3_wrong, cX3_wrong, 1, some .int, rm_X3_wrong, f_X3_wrong, 3, 0, (RX3, TX3, 12), M_X3_wrong, cs_X3_wrong, hlink, ⟨wv_X3_wrong, wz_X3_wrong, wi_X3_wrong, wc_X3_wrong⟩, ⟨by decide +kernel, by decide +kernel, by decide +kernel⟩, har, ⟨rfl, rfl, by decide⟩, ?_, ⟨rfl, rfl, hr.1, hr.2⟩⟩
  intro as z K o h
  obtain ⟨t0, o0, r0, rfl, g0⟩ := mm_pr_e h
  obtain ⟨b0, k0⟩ := mm_bif_e g0
  obtain rfl := Nat.eq_of_beq_eq_true b0
  exact ⟨_, _, rfl⟩
-- X3_beginMaps
noncomputable def lV_X3_beginMaps : List (Nat × (List mm_V → mm_S → (Option mm_V → mm_S → Option mm_R) → Option mm_R)) := [(242, clo_X0_mapCount), (283, clo_X0_become)]
noncomputable def mV_X3_beginMaps (k : Nat) (as : List mm_V) (z : mm_S) (kk : Option mm_V → mm_S → Option mm_R) : Option mm_R := match mm_at lV_X3_beginMaps k with
  | some f => f as z kk
  | none => none
noncomputable def arV_X3_beginMaps (k : Nat) : Nat := (mm_at [(242, 1), (283, 2)] k).getD 0
noncomputable def lS_X3_beginMaps : List (Nat × (List mm_V → mm_S → (Option mm_V → mm_S → Option mm_R) → Option mm_R)) := []
noncomputable def mS_X3_beginMaps (k : Nat) (as : List mm_V) (z : mm_S) (kk : Option mm_V → mm_S → Option mm_R) : Option mm_R := match mm_at lS_X3_beginMaps k with
  | some f => f as z kk
  | none => none
noncomputable def arS_X3_beginMaps (k : Nat) : Nat := (mm_at [] k).getD 0
def ct_X3_beginMaps : List (Nat × List Nat) := [(11, [0])]
noncomputable def go_X3_beginMaps : Nat → mm_K := mm_go (fun k => mm_at flX3 k) (fun k => mm_at clX3 k) (fun k => mm_at glX3 k) arV_X3_beginMaps arS_X3_beginMaps mV_X3_beginMaps mS_X3_beginMaps lenX roX snX 1 0 tbX3_beginMaps ct_X3_beginMaps
noncomputable def eX3_beginMaps_0 (n : Nat)  (z : mm_S) : Option mm_R := go_X3_beginMaps n 0 [(0, mm_P 3 0)] [] z
noncomputable def eX3_beginMaps_11 (n : Nat)  (z : mm_S) : Option mm_R := go_X3_beginMaps n 11 [(0, mm_P 3 0)] [] z
set_option maxRecDepth 100000 in
theorem qX3_beginMaps_0 (n : Nat)  (z : mm_S) : eX3_beginMaps_0 (n + 1)  z = (let u1 := (tX0_become 25 1 z); eX3_beginMaps_11 n  u1) := rfl
set_option maxRecDepth 100000 in
theorem qX3_beginMaps_11 (n : Nat)  (z : mm_S) : eX3_beginMaps_11 (n + 1)  z = (some (some (mm_I (pX0_mapCount 1 z)), z)) := rfl
def rm_X3_beginMaps : Room := { frames := 3, cells := 0, slots := 0, locals := 68 }
noncomputable def f_X3_beginMaps (as : List mm_V) (z : mm_S) (o : mm_R) : Prop := (as.map mm_cat).sum ≤ 1 ∧ ∃ n, go_X3_beginMaps n 0 (mm_ar 0 as) [] z = some o
theorem M_X3_beginMaps : mm_M lyTX lyFA lenX snX 46 48 17 roX rsA nfA nmA ssX yX3_beginMaps cX3_beginMaps 1 (some .int) rm_X3_beginMaps f_X3_beginMaps :=
  mm_met (rt := 0) (by decide +kernel) ⟨fun h => rfl, fun h => absurd h (by decide), fun h => absurd h (by decide), fun h => absurd h (by decide)⟩ tbX3_beginMaps_ok hsnX okFX3 okLX3 okGX3 (fun _ _ _ _ => rfl) (fun _ _ _ _ => rfl) (List.forall_mem_cons.mpr ⟨sV_X0_mapCount (Or.inl lk_X3_242) rfl ⟨by decide, by decide⟩, List.forall_mem_cons.mpr ⟨sV_X0_become (Or.inl lk_X3_283) rfl ⟨by decide, by decide⟩, fun _ h => absurd h List.not_mem_nil⟩⟩) (fun _ h => absurd h List.not_mem_nil)
noncomputable def sX3_beginMaps_11  (z : mm_S) : Option (Int32 × mm_S) := some ((pX0_mapCount 1 z), z)
theorem kX3_beginMaps_11  (z : mm_S) (oo : mm_R) : mm_Xs (sX3_beginMaps_11  z) (fun v => (fun v : Int32 × mm_S => ((some (mm_I v.1), v.2) : mm_R)) v = oo) (fun n => eX3_beginMaps_11 n  z) oo :=
  xs_row (fun n => qX3_beginMaps_11 n z) (xs_v fun hc => ⟨0, congrArg some hc⟩)
noncomputable def sX3_beginMaps_0  (z : mm_S) : Option (Int32 × mm_S) := let u1 := (tX0_become 25 1 z); (sX3_beginMaps_11 u1)
theorem kX3_beginMaps_0  (z : mm_S) (oo : mm_R) : mm_Xs (sX3_beginMaps_0  z) (fun v => (fun v : Int32 × mm_S => ((some (mm_I v.1), v.2) : mm_R)) v = oo) (fun n => eX3_beginMaps_0 n  z) oo :=
  xs_row (fun n => qX3_beginMaps_0 n z) (xs_let ((tX0_become 25 1 z)) (S := fun (u1 : _) => ((sX3_beginMaps_11 u1) : Option (Int32 × mm_S))) (T := fun (u1 : _) n => eX3_beginMaps_11 n  u1) (fun u1 => (kX3_beginMaps_11 u1 oo)))
noncomputable def sX3_beginMaps  (z : mm_S) : Option (Int32 × mm_S) := sX3_beginMaps_0  z
theorem sp_X3_beginMaps  (z : mm_S) (hk : ∀ v ∈ [mm_P 3 0], mm_ok 46 lyTX 48 17 v) (q : Int32 × mm_S) (hq : sX3_beginMaps  z = some q) : f_X3_beginMaps [mm_P 3 0] z (some (mm_I q.1), q.2) := ⟨Nat.le_of_ble_eq_true rfl, kX3_beginMaps_0  z _ q hq rfl⟩
noncomputable def clo_X3_beginMaps (as : List mm_V) (z : mm_S) (kk : Option mm_V → mm_S → Option mm_R) : Option mm_R := mm_pr as fun t o0 as => bif Nat.beq t 3 then (match as with | [] => (sX3_beginMaps z).bind fun q => kk (some (mm_I q.1)) q.2 | _ => none) else none
theorem cs_X3_beginMaps : mm_cs lyTX 46 48 17 f_X3_beginMaps clo_X3_beginMaps := by
  intro as z K o hk h
  obtain ⟨t0, o0, r0, rfl, g0⟩ := mm_pr_e h
  obtain ⟨b0, k0⟩ := mm_bif_e g0
  obtain rfl := Nat.eq_of_beq_eq_true b0
  rcases r0 with _ | ⟨u, w⟩
  rotate_left
  · cases k0
  obtain rfl : o0 = 0 := ok3 (hk (mm_P 3 o0) (by simp))
  obtain ⟨q, hq, hq2⟩ := Option.bind_eq_some_iff.mp k0
  exact ⟨_, _, sp_X3_beginMaps  z hk q hq, fun v hv => by cases hv; exact Or.inl ⟨_, rfl⟩, hq2⟩
theorem sV_X3_beginMaps {own : String} {R : Room} {ar : Nat → Nat} {k : Nat} (hlink : Cond.methodLink own k yX3_beginMaps ∈ lw_gd ∨ ∃ host, (own, k, yX3_beginMaps, host) ∈ nmA) (har : ar k = 1) (hr : 4 ≤ R.frames ∧ 88 ≤ R.locals) : mm_okV lyTX lyFA lenX snX 46 48 17 roX rsA nfA nmA ssX own R ar k clo_X3_beginMaps := by
  refine ⟨yX3_beginMaps, cX3_beginMaps, 1, some .int, rm_X3_beginMaps, f_X3_beginMaps, 3, 0, (RX3, TX3, 12), M_X3_beginMaps, cs_X3_beginMaps, hlink, ⟨wv_X3_beginMaps, wz_X3_beginMaps, wi_X3_beginMaps, wc_X3_beginMaps⟩, ⟨by decide +kernel, by decide +kernel, by decide +kernel⟩, har, ⟨rfl, rfl, by decide⟩, ?_, ⟨rfl, rfl, hr.1, hr.2⟩⟩
  intro as z K o h
  obtain ⟨t0, o0, r0, rfl, g0⟩ := mm_pr_e h
  obtain ⟨b0, k0⟩ := mm_bif_e g0
  obtain rfl := Nat.eq_of_beq_eq_true b0
  exact ⟨_, _, rfl⟩
-- X3_draftFitsAs
noncomputable def lV_X3_draftFitsAs : List (Nat × (List mm_V → mm_S → (Option mm_V → mm_S → Option mm_R) → Option mm_R)) := [(220, clo_X0_firstWrong), (248, clo_X0_layMap)]
noncomputable def mV_X3_draftFitsAs (k : Nat) (as : List mm_V) (z : mm_S) (kk : Option mm_V → mm_S → Option mm_R) : Option mm_R := match mm_at lV_X3_draftFitsAs k with
  | some f => f as z kk
  | none => none
noncomputable def arV_X3_draftFitsAs (k : Nat) : Nat := (mm_at [(220, 1), (248, 2)] k).getD 0
noncomputable def lS_X3_draftFitsAs : List (Nat × (List mm_V → mm_S → (Option mm_V → mm_S → Option mm_R) → Option mm_R)) := []
noncomputable def mS_X3_draftFitsAs (k : Nat) (as : List mm_V) (z : mm_S) (kk : Option mm_V → mm_S → Option mm_R) : Option mm_R := match mm_at lS_X3_draftFitsAs k with
  | some f => f as z kk
  | none => none
noncomputable def arS_X3_draftFitsAs (k : Nat) : Nat := (mm_at [] k).getD 0
def ct_X3_draftFitsAs : List (Nat × List Nat) := [(8, [0]), (15, []), (19, [])]
noncomputable def go_X3_draftFitsAs : Nat → mm_K := mm_go (fun k => mm_at flX3 k) (fun k => mm_at clX3 k) (fun k => mm_at glX3 k) arV_X3_draftFitsAs arS_X3_draftFitsAs mV_X3_draftFitsAs mS_X3_draftFitsAs lenX roX snX 2 1 tbX3_draftFitsAs ct_X3_draftFitsAs
noncomputable def eX3_draftFitsAs_0 (n : Nat)  (x1 : Int32) (z : mm_S) : Option mm_R := go_X3_draftFitsAs n 0 [(0, mm_P 3 0), (1, mm_I x1)] [] z
noncomputable def eX3_draftFitsAs_8 (n : Nat)  (z : mm_S) : Option mm_R := go_X3_draftFitsAs n 8 [(0, mm_P 3 0)] [] z
noncomputable def eX3_draftFitsAs_15 (n : Nat) (w0 : Int32) (z : mm_S) : Option mm_R := go_X3_draftFitsAs n 15 [] [mm_I w0] z
noncomputable def eX3_draftFitsAs_19 (n : Nat)  (z : mm_S) : Option mm_R := go_X3_draftFitsAs n 19 [] [] z
set_option maxRecDepth 100000 in
theorem qX3_draftFitsAs_0 (n : Nat)  (x1 : Int32) (z : mm_S) : eX3_draftFitsAs_0 (n + 1) x1 z = ((sX0_layMap 25 x1 z).bind fun q1 => eX3_draftFitsAs_8 n  q1) := rfl
set_option maxRecDepth 100000 in
theorem qX3_draftFitsAs_8 (n : Nat)  (z : mm_S) : eX3_draftFitsAs_8 (n + 1)  z = ((sX0_firstWrong 25 z).bind fun q2 => eX3_draftFitsAs_15 n q2.1 q2.2) := rfl
set_option maxRecDepth 100000 in
theorem qX3_draftFitsAs_15 (n : Nat) (w0 : Int32) (z : mm_S) : eX3_draftFitsAs_15 (n + 1) w0 z = (if w0 = (-1) then eX3_draftFitsAs_19 n  z else some (some (mm_I 0), z)) := rfl
set_option maxRecDepth 100000 in
theorem qX3_draftFitsAs_19 (n : Nat)  (z : mm_S) : eX3_draftFitsAs_19 (n + 1)  z = (some (some (mm_I 1), z)) := rfl
def rm_X3_draftFitsAs : Room := { frames := 4, cells := 0, slots := 0, locals := 103 }
noncomputable def f_X3_draftFitsAs (as : List mm_V) (z : mm_S) (o : mm_R) : Prop := (as.map mm_cat).sum ≤ 2 ∧ ∃ n, go_X3_draftFitsAs n 0 (mm_ar 0 as) [] z = some o
theorem M_X3_draftFitsAs : mm_M lyTX lyFA lenX snX 46 48 17 roX rsA nfA nmA ssX yX3_draftFitsAs cX3_draftFitsAs 2 (some .boolean) rm_X3_draftFitsAs f_X3_draftFitsAs :=
  mm_met (rt := 1) (by decide +kernel) ⟨fun h => absurd h (by decide), fun h => rfl, fun h => absurd h (by decide), fun h => absurd h (by decide)⟩ tbX3_draftFitsAs_ok hsnX okFX3 okLX3 okGX3 (fun _ _ _ _ => rfl) (fun _ _ _ _ => rfl) (List.forall_mem_cons.mpr ⟨sV_X0_firstWrong (Or.inl lk_X3_220) rfl ⟨by decide, by decide⟩, List.forall_mem_cons.mpr ⟨sV_X0_layMap (Or.inl lk_X3_248) rfl ⟨by decide, by decide⟩, fun _ h => absurd h List.not_mem_nil⟩⟩) (fun _ h => absurd h List.not_mem_nil)
noncomputable def sX3_draftFitsAs_19  (z : mm_S) : Option (Int32 × mm_S) := some (1, z)
theorem kX3_draftFitsAs_19  (z : mm_S) (oo : mm_R) : mm_Xs (sX3_draftFitsAs_19  z) (fun v => (fun v : Int32 × mm_S => ((some (mm_I v.1), v.2) : mm_R)) v = oo) (fun n => eX3_draftFitsAs_19 n  z) oo :=
  xs_row (fun n => qX3_draftFitsAs_19 n z) (xs_v fun hc => ⟨0, congrArg some hc⟩)
noncomputable def sX3_draftFitsAs_15 (w0 : Int32) (z : mm_S) : Option (Int32 × mm_S) := if w0 = (-1) then (sX3_draftFitsAs_19 z) else some (0, z)
theorem kX3_draftFitsAs_15 (w0 : Int32) (z : mm_S) (oo : mm_R) : mm_Xs (sX3_draftFitsAs_15 w0 z) (fun v => (fun v : Int32 × mm_S => ((some (mm_I v.1), v.2) : mm_R)) v = oo) (fun n => eX3_draftFitsAs_15 n w0 z) oo :=
  xs_row (fun n => qX3_draftFitsAs_15 n w0 z) (xs_if (kX3_draftFitsAs_19 z oo) (xs_v fun hc => ⟨0, congrArg some hc⟩))
noncomputable def sX3_draftFitsAs_8  (z : mm_S) : Option (Int32 × mm_S) := (sX0_firstWrong 25 z).bind fun q2 => (sX3_draftFitsAs_15 q2.1 q2.2)
theorem kX3_draftFitsAs_8  (z : mm_S) (oo : mm_R) : mm_Xs (sX3_draftFitsAs_8  z) (fun v => (fun v : Int32 × mm_S => ((some (mm_I v.1), v.2) : mm_R)) v = oo) (fun n => eX3_draftFitsAs_8 n  z) oo :=
  xs_row (fun n => qX3_draftFitsAs_8 n z) (xs_bd fun q2 => (kX3_draftFitsAs_15 q2.1 q2.2 oo))
noncomputable def sX3_draftFitsAs_0 (x1 : Int32) (z : mm_S) : Option (Int32 × mm_S) := (sX0_layMap 25 x1 z).bind fun q1 => (sX3_draftFitsAs_8 q1)
theorem kX3_draftFitsAs_0 (x1 : Int32) (z : mm_S) (oo : mm_R) : mm_Xs (sX3_draftFitsAs_0 x1 z) (fun v => (fun v : Int32 × mm_S => ((some (mm_I v.1), v.2) : mm_R)) v = oo) (fun n => eX3_draftFitsAs_0 n x1 z) oo :=
  xs_row (fun n => qX3_draftFitsAs_0 n x1 z) (xs_bd fun q1 => (kX3_draftFitsAs_8 q1 oo))
noncomputable def sX3_draftFitsAs (x1 : Int32) (z : mm_S) : Option (Int32 × mm_S) := sX3_draftFitsAs_0 x1 z
theorem sp_X3_draftFitsAs (x1 : Int32) (z : mm_S) (hk : ∀ v ∈ [mm_P 3 0, mm_I x1], mm_ok 46 lyTX 48 17 v) (q : Int32 × mm_S) (hq : sX3_draftFitsAs x1 z = some q) : f_X3_draftFitsAs [mm_P 3 0, mm_I x1] z (some (mm_I q.1), q.2) := ⟨Nat.le_of_ble_eq_true rfl, kX3_draftFitsAs_0 x1 z _ q hq rfl⟩
noncomputable def clo_X3_draftFitsAs (as : List mm_V) (z : mm_S) (kk : Option mm_V → mm_S → Option mm_R) : Option mm_R := mm_pr as fun t o0 as => bif Nat.beq t 3 then mm_pi as fun a1 as => (match as with | [] => (sX3_draftFitsAs a1 z).bind fun q => kk (some (mm_I q.1)) q.2 | _ => none) else none
theorem cs_X3_draftFitsAs : mm_cs lyTX 46 48 17 f_X3_draftFitsAs clo_X3_draftFitsAs := by
  intro as z K o hk h
  obtain ⟨t0, o0, r0, rfl, g0⟩ := mm_pr_e h
  obtain ⟨b0, k0⟩ := mm_bif_e g0
  obtain rfl := Nat.eq_of_beq_eq_true b0
  obtain ⟨a1, r1, rfl, g1⟩ := mm_pi_e k0
  rcases r1 with _ | ⟨u, w⟩
  rotate_left
  · cases g1
  obtain rfl : o0 = 0 := ok3 (hk (mm_P 3 o0) (by simp))
  obtain ⟨q, hq, hq2⟩ := Option.bind_eq_some_iff.mp g1
  exact ⟨_, _, sp_X3_draftFitsAs a1 z hk q hq, fun v hv => by cases hv; exact Or.inl ⟨_, rfl⟩, hq2⟩
theorem sV_X3_draftFitsAs {own : String} {R : Room} {ar : Nat → Nat} {k : Nat} (hlink : Cond.methodLink own k yX3_draftFitsAs ∈ lw_gd ∨ ∃ host, (own, k, yX3_draftFitsAs, host) ∈ nmA) (har : ar k = 2) (hr : 5 ≤ R.frames ∧ 124 ≤ R.locals) : mm_okV lyTX lyFA lenX snX 46 48 17 roX rsA nfA nmA ssX own R ar k clo_X3_draftFitsAs := by
  refine ⟨yX3_draftFitsAs, cX3_draftFitsAs, 2, some .boolean, rm_X3_draftFitsAs, f_X3_draftFitsAs, 3, 1, (RX3, TX3, 12), M_X3_draftFitsAs, cs_X3_draftFitsAs, hlink, ⟨wv_X3_draftFitsAs, wz_X3_draftFitsAs, wi_X3_draftFitsAs, wc_X3_draftFitsAs⟩, ⟨by decide +kernel, by decide +kernel, by decide +kernel⟩, har, ⟨rfl, rfl, by decide⟩, ?_, ⟨rfl, rfl, hr.1, hr.2⟩⟩
  intro as z K o h
  obtain ⟨t0, o0, r0, rfl, g0⟩ := mm_pr_e h
  obtain ⟨b0, k0⟩ := mm_bif_e g0
  obtain rfl := Nat.eq_of_beq_eq_true b0
  exact ⟨_, _, rfl⟩
-- X3_fits
noncomputable def lV_X3_fits : List (Nat × (List mm_V → mm_S → (Option mm_V → mm_S → Option mm_R) → Option mm_R)) := [(224, clo_X3_beginMaps), (227, clo_X3_draftFitsAs)]
noncomputable def mV_X3_fits (k : Nat) (as : List mm_V) (z : mm_S) (kk : Option mm_V → mm_S → Option mm_R) : Option mm_R := match mm_at lV_X3_fits k with
  | some f => f as z kk
  | none => none
noncomputable def arV_X3_fits (k : Nat) : Nat := (mm_at [(224, 1), (227, 2)] k).getD 0
noncomputable def lS_X3_fits : List (Nat × (List mm_V → mm_S → (Option mm_V → mm_S → Option mm_R) → Option mm_R)) := []
noncomputable def mS_X3_fits (k : Nat) (as : List mm_V) (z : mm_S) (kk : Option mm_V → mm_S → Option mm_R) : Option mm_R := match mm_at lS_X3_fits k with
  | some f => f as z kk
  | none => none
noncomputable def arS_X3_fits (k : Nat) : Nat := (mm_at [] k).getD 0
def ct_X3_fits : List (Nat × List Nat) := [(7, [0, 1, 2]), (9, [0, 1, 2, 3]), (19, [0, 1, 2, 3]), (22, [0, 1, 2, 3])]
noncomputable def go_X3_fits : Nat → mm_K := mm_go (fun k => mm_at flX3 k) (fun k => mm_at clX3 k) (fun k => mm_at glX3 k) arV_X3_fits arS_X3_fits mV_X3_fits mS_X3_fits lenX roX snX 4 0 tbX3_fits ct_X3_fits
noncomputable def eX3_fits_0 (n : Nat)  (z : mm_S) : Option mm_R := go_X3_fits n 0 [(0, mm_P 3 0)] [] z
noncomputable def eX3_fits_7 (n : Nat)  (y1 : Int32) (y2 : Int32) (z : mm_S) : Option mm_R := go_X3_fits n 7 [(0, mm_P 3 0), (1, mm_I y1), (2, mm_I y2)] [] z
noncomputable def eX3_fits_9 (n : Nat)  (y1 : Int32) (y2 : Int32) (y3 : Int32) (z : mm_S) : Option mm_R := go_X3_fits n 9 [(0, mm_P 3 0), (1, mm_I y1), (2, mm_I y2), (3, mm_I y3)] [] z
noncomputable def eX3_fits_19 (n : Nat)  (y1 : Int32) (y2 : Int32) (y3 : Int32) (w0 : Int32) (z : mm_S) : Option mm_R := go_X3_fits n 19 [(0, mm_P 3 0), (1, mm_I y1), (2, mm_I y2), (3, mm_I y3)] [mm_I w0] z
noncomputable def eX3_fits_22 (n : Nat)  (y1 : Int32) (y2 : Int32) (y3 : Int32) (z : mm_S) : Option mm_R := go_X3_fits n 22 [(0, mm_P 3 0), (1, mm_I y1), (2, mm_I y2), (3, mm_I y3)] [] z
set_option maxRecDepth 100000 in
theorem qX3_fits_0 (n : Nat)  (z : mm_S) : eX3_fits_0 (n + 1)  z = ((sX3_beginMaps  z).bind fun q1 => eX3_fits_7 n 0 q1.1 q1.2) := rfl
set_option maxRecDepth 100000 in
theorem qX3_fits_7 (n : Nat)  (y1 : Int32) (y2 : Int32) (z : mm_S) : eX3_fits_7 (n + 1) y1 y2 z = (eX3_fits_9 n y1 y2 0 z) := rfl
set_option maxRecDepth 100000 in
theorem qX3_fits_9 (n : Nat)  (y1 : Int32) (y2 : Int32) (y3 : Int32) (z : mm_S) : eX3_fits_9 (n + 1) y1 y2 y3 z = (if y2 ≤ y3 then some (some (mm_I y1), z) else (sX3_draftFitsAs y3 z).bind fun q2 => eX3_fits_19 n y1 y2 y3 q2.1 q2.2) := rfl
set_option maxRecDepth 100000 in
theorem qX3_fits_19 (n : Nat)  (y1 : Int32) (y2 : Int32) (y3 : Int32) (w0 : Int32) (z : mm_S) : eX3_fits_19 (n + 1) y1 y2 y3 w0 z = (if w0 = 0 then eX3_fits_9 n y1 y2 (y3 + 1) z else eX3_fits_22 n y1 y2 y3 z) := rfl
set_option maxRecDepth 100000 in
theorem qX3_fits_22 (n : Nat)  (y1 : Int32) (y2 : Int32) (y3 : Int32) (z : mm_S) : eX3_fits_22 (n + 1) y1 y2 y3 z = (eX3_fits_9 n (y1 + 1) y2 (y3 + 1) z) := rfl
def rm_X3_fits : Room := { frames := 5, cells := 0, slots := 0, locals := 124 }
noncomputable def f_X3_fits (as : List mm_V) (z : mm_S) (o : mm_R) : Prop := (as.map mm_cat).sum ≤ 4 ∧ ∃ n, go_X3_fits n 0 (mm_ar 0 as) [] z = some o
theorem M_X3_fits : mm_M lyTX lyFA lenX snX 46 48 17 roX rsA nfA nmA ssX yX3_fits cX3_fits 4 (some .int) rm_X3_fits f_X3_fits :=
  mm_met (rt := 0) (by decide +kernel) ⟨fun h => rfl, fun h => absurd h (by decide), fun h => absurd h (by decide), fun h => absurd h (by decide)⟩ tbX3_fits_ok hsnX okFX3 okLX3 okGX3 (fun _ _ _ _ => rfl) (fun _ _ _ _ => rfl) (List.forall_mem_cons.mpr ⟨sV_X3_beginMaps (Or.inl lk_X3_224) rfl ⟨by decide, by decide⟩, List.forall_mem_cons.mpr ⟨sV_X3_draftFitsAs (Or.inl lk_X3_227) rfl ⟨by decide, by decide⟩, fun _ h => absurd h List.not_mem_nil⟩⟩) (fun _ h => absurd h List.not_mem_nil)
noncomputable def sX3_fits_22 (y1 : Int32) (y2 : Int32) (y3 : Int32) (z : mm_S) : Option ((Int32 × Int32 × Int32 × mm_S) ⊕ (Int32 × mm_S)) := some (.inl ((y1 + 1), y2, (y3 + 1), z))
theorem kX3_fits_22 (y1 : Int32) (y2 : Int32) (y3 : Int32) (z : mm_S) (oo : mm_R) : mm_Xs (sX3_fits_22 y1 y2 y3 z) (mm_mt (fun x : Int32 × Int32 × Int32 × mm_S => ∃ n, eX3_fits_9 n x.1 x.2.1 x.2.2.1 x.2.2.2 = some oo) (fun v => (fun v : Int32 × mm_S => ((some (mm_I v.1), v.2) : mm_R)) v = oo)) (fun n => eX3_fits_22 n y1 y2 y3 z) oo :=
  xs_row (fun n => qX3_fits_22 n y1 y2 y3 z) (xs_v fun hc => hc)
noncomputable def sX3_fits_19 (y1 : Int32) (y2 : Int32) (y3 : Int32) (w0 : Int32) (z : mm_S) : Option ((Int32 × Int32 × Int32 × mm_S) ⊕ (Int32 × mm_S)) := if w0 = 0 then some (.inl (y1, y2, (y3 + 1), z)) else (sX3_fits_22 y1 y2 y3 z)
theorem kX3_fits_19 (y1 : Int32) (y2 : Int32) (y3 : Int32) (w0 : Int32) (z : mm_S) (oo : mm_R) : mm_Xs (sX3_fits_19 y1 y2 y3 w0 z) (mm_mt (fun x : Int32 × Int32 × Int32 × mm_S => ∃ n, eX3_fits_9 n x.1 x.2.1 x.2.2.1 x.2.2.2 = some oo) (fun v => (fun v : Int32 × mm_S => ((some (mm_I v.1), v.2) : mm_R)) v = oo)) (fun n => eX3_fits_19 n y1 y2 y3 w0 z) oo :=
  xs_row (fun n => qX3_fits_19 n y1 y2 y3 w0 z) (xs_if (xs_v fun hc => hc) (kX3_fits_22 y1 y2 y3 z oo))
noncomputable def lX3_fits_9 (s : Int32 × Int32 × Int32 × mm_S) : Option ((Int32 × Int32 × Int32 × mm_S) ⊕ (Int32 × mm_S)) := if s.2.1 ≤ s.2.2.1 then some (.inr (s.1, s.2.2.2)) else (sX3_draftFitsAs s.2.2.1 s.2.2.2).bind fun q2 => (sX3_fits_19 s.1 s.2.1 s.2.2.1 q2.1 q2.2)
noncomputable def sX3_fits_9 (y1 : Int32) (y2 : Int32) (y3 : Int32) (z : mm_S) : Option (Int32 × mm_S) := mm_wh (lX3_fits_9 ) mm_fu (y1, y2, y3, z)
theorem kX3_fits_9 (y1 : Int32) (y2 : Int32) (y3 : Int32) (z : mm_S) (oo : mm_R) : mm_Xs (sX3_fits_9 y1 y2 y3 z) (fun v => (fun v : Int32 × mm_S => ((some (mm_I v.1), v.2) : mm_R)) v = oo) (fun n => eX3_fits_9 n y1 y2 y3 z) oo :=
  xs_wh (stp := lX3_fits_9 ) (o := oo) (E := (fun (s : Int32 × Int32 × Int32 × mm_S) n => eX3_fits_9 n s.1 s.2.1 s.2.2.1 s.2.2.2)) (C := (fun v => (fun v : Int32 × mm_S => ((some (mm_I v.1), v.2) : mm_R)) v = oo)) (fun s => xs_row (fun n => qX3_fits_9 n s.1 s.2.1 s.2.2.1 s.2.2.2) (xs_if (xs_v fun hc => ⟨0, congrArg some hc⟩) (xs_bd fun q2 => (kX3_fits_19 s.1 s.2.1 s.2.2.1 q2.1 q2.2 oo)))) mm_fu (y1, y2, y3, z)
noncomputable def sX3_fits_7 (y1 : Int32) (y2 : Int32) (z : mm_S) : Option (Int32 × mm_S) := (sX3_fits_9 y1 y2 0 z)
theorem kX3_fits_7 (y1 : Int32) (y2 : Int32) (z : mm_S) (oo : mm_R) : mm_Xs (sX3_fits_7 y1 y2 z) (fun v => (fun v : Int32 × mm_S => ((some (mm_I v.1), v.2) : mm_R)) v = oo) (fun n => eX3_fits_7 n y1 y2 z) oo :=
  xs_row (fun n => qX3_fits_7 n y1 y2 z) (kX3_fits_9 y1 y2 0 z oo)
noncomputable def sX3_fits_0  (z : mm_S) : Option (Int32 × mm_S) := (sX3_beginMaps  z).bind fun q1 => (sX3_fits_7 0 q1.1 q1.2)
theorem kX3_fits_0  (z : mm_S) (oo : mm_R) : mm_Xs (sX3_fits_0  z) (fun v => (fun v : Int32 × mm_S => ((some (mm_I v.1), v.2) : mm_R)) v = oo) (fun n => eX3_fits_0 n  z) oo :=
  xs_row (fun n => qX3_fits_0 n z) (xs_bd fun q1 => (kX3_fits_7 0 q1.1 q1.2 oo))
noncomputable def sX3_fits  (z : mm_S) : Option (Int32 × mm_S) := sX3_fits_0  z
theorem sp_X3_fits  (z : mm_S) (hk : ∀ v ∈ [mm_P 3 0], mm_ok 46 lyTX 48 17 v) (q : Int32 × mm_S) (hq : sX3_fits  z = some q) : f_X3_fits [mm_P 3 0] z (some (mm_I q.1), q.2) := ⟨Nat.le_of_ble_eq_true rfl, kX3_fits_0  z _ q hq rfl⟩
noncomputable def clo_X3_fits (as : List mm_V) (z : mm_S) (kk : Option mm_V → mm_S → Option mm_R) : Option mm_R := mm_pr as fun t o0 as => bif Nat.beq t 3 then (match as with | [] => (sX3_fits z).bind fun q => kk (some (mm_I q.1)) q.2 | _ => none) else none
theorem cs_X3_fits : mm_cs lyTX 46 48 17 f_X3_fits clo_X3_fits := by
  intro as z K o hk h
  obtain ⟨t0, o0, r0, rfl, g0⟩ := mm_pr_e h
  obtain ⟨b0, k0⟩ := mm_bif_e g0
  obtain rfl := Nat.eq_of_beq_eq_true b0
  rcases r0 with _ | ⟨u, w⟩
  rotate_left
  · cases k0
  obtain rfl : o0 = 0 := ok3 (hk (mm_P 3 o0) (by simp))
  obtain ⟨q, hq, hq2⟩ := Option.bind_eq_some_iff.mp k0
  exact ⟨_, _, sp_X3_fits  z hk q hq, fun v hv => by cases hv; exact Or.inl ⟨_, rfl⟩, hq2⟩
theorem sV_X3_fits {own : String} {R : Room} {ar : Nat → Nat} {k : Nat} (hlink : Cond.methodLink own k yX3_fits ∈ lw_gd ∨ ∃ host, (own, k, yX3_fits, host) ∈ nmA) (har : ar k = 1) (hr : 6 ≤ R.frames ∧ 147 ≤ R.locals) : mm_okV lyTX lyFA lenX snX 46 48 17 roX rsA nfA nmA ssX own R ar k clo_X3_fits := by
  refine ⟨yX3_fits, cX3_fits, 4, some .int, rm_X3_fits, f_X3_fits, 3, 0, (RX3, TX3, 12), M_X3_fits, cs_X3_fits, hlink, ⟨wv_X3_fits, wz_X3_fits, wi_X3_fits, wc_X3_fits⟩, ⟨by decide +kernel, by decide +kernel, by decide +kernel⟩, har, ⟨rfl, rfl, by decide⟩, ?_, ⟨rfl, rfl, hr.1, hr.2⟩⟩
  intro as z K o h
  obtain ⟨t0, o0, r0, rfl, g0⟩ := mm_pr_e h
  obtain ⟨b0, k0⟩ := mm_bif_e g0
  obtain rfl := Nat.eq_of_beq_eq_true b0
  exact ⟨_, _, rfl⟩
-- X3_leastFit
noncomputable def lV_X3_leastFit : List (Nat × (List mm_V → mm_S → (Option mm_V → mm_S → Option mm_R) → Option mm_R)) := [(224, clo_X3_beginMaps), (227, clo_X3_draftFitsAs)]
noncomputable def mV_X3_leastFit (k : Nat) (as : List mm_V) (z : mm_S) (kk : Option mm_V → mm_S → Option mm_R) : Option mm_R := match mm_at lV_X3_leastFit k with
  | some f => f as z kk
  | none => none
noncomputable def arV_X3_leastFit (k : Nat) : Nat := (mm_at [(224, 1), (227, 2)] k).getD 0
noncomputable def lS_X3_leastFit : List (Nat × (List mm_V → mm_S → (Option mm_V → mm_S → Option mm_R) → Option mm_R)) := []
noncomputable def mS_X3_leastFit (k : Nat) (as : List mm_V) (z : mm_S) (kk : Option mm_V → mm_S → Option mm_R) : Option mm_R := match mm_at lS_X3_leastFit k with
  | some f => f as z kk
  | none => none
noncomputable def arS_X3_leastFit (k : Nat) : Nat := (mm_at [] k).getD 0
def ct_X3_leastFit : List (Nat × List Nat) := [(5, [0, 1]), (7, [0, 1, 2]), (17, [0, 1, 2]), (20, [2])]
noncomputable def go_X3_leastFit : Nat → mm_K := mm_go (fun k => mm_at flX3 k) (fun k => mm_at clX3 k) (fun k => mm_at glX3 k) arV_X3_leastFit arS_X3_leastFit mV_X3_leastFit mS_X3_leastFit lenX roX snX 3 0 tbX3_leastFit ct_X3_leastFit
noncomputable def eX3_leastFit_0 (n : Nat)  (z : mm_S) : Option mm_R := go_X3_leastFit n 0 [(0, mm_P 3 0)] [] z
noncomputable def eX3_leastFit_5 (n : Nat)  (y1 : Int32) (z : mm_S) : Option mm_R := go_X3_leastFit n 5 [(0, mm_P 3 0), (1, mm_I y1)] [] z
noncomputable def eX3_leastFit_7 (n : Nat)  (y1 : Int32) (y2 : Int32) (z : mm_S) : Option mm_R := go_X3_leastFit n 7 [(0, mm_P 3 0), (1, mm_I y1), (2, mm_I y2)] [] z
noncomputable def eX3_leastFit_17 (n : Nat)  (y1 : Int32) (y2 : Int32) (w0 : Int32) (z : mm_S) : Option mm_R := go_X3_leastFit n 17 [(0, mm_P 3 0), (1, mm_I y1), (2, mm_I y2)] [mm_I w0] z
noncomputable def eX3_leastFit_20 (n : Nat) (y2 : Int32) (z : mm_S) : Option mm_R := go_X3_leastFit n 20 [(2, mm_I y2)] [] z
set_option maxRecDepth 100000 in
theorem qX3_leastFit_0 (n : Nat)  (z : mm_S) : eX3_leastFit_0 (n + 1)  z = ((sX3_beginMaps  z).bind fun q1 => eX3_leastFit_5 n q1.1 q1.2) := rfl
set_option maxRecDepth 100000 in
theorem qX3_leastFit_5 (n : Nat)  (y1 : Int32) (z : mm_S) : eX3_leastFit_5 (n + 1) y1 z = (eX3_leastFit_7 n y1 0 z) := rfl
set_option maxRecDepth 100000 in
theorem qX3_leastFit_7 (n : Nat)  (y1 : Int32) (y2 : Int32) (z : mm_S) : eX3_leastFit_7 (n + 1) y1 y2 z = (if y1 ≤ y2 then some (some (mm_I (-1)), z) else (sX3_draftFitsAs y2 z).bind fun q2 => eX3_leastFit_17 n y1 y2 q2.1 q2.2) := rfl
set_option maxRecDepth 100000 in
theorem qX3_leastFit_17 (n : Nat)  (y1 : Int32) (y2 : Int32) (w0 : Int32) (z : mm_S) : eX3_leastFit_17 (n + 1) y1 y2 w0 z = (if w0 = 0 then eX3_leastFit_7 n y1 (y2 + 1) z else eX3_leastFit_20 n y2 z) := rfl
set_option maxRecDepth 100000 in
theorem qX3_leastFit_20 (n : Nat) (y2 : Int32) (z : mm_S) : eX3_leastFit_20 (n + 1) y2 z = (some (some (mm_I y2), z)) := rfl
def rm_X3_leastFit : Room := { frames := 5, cells := 0, slots := 0, locals := 124 }
noncomputable def f_X3_leastFit (as : List mm_V) (z : mm_S) (o : mm_R) : Prop := (as.map mm_cat).sum ≤ 3 ∧ ∃ n, go_X3_leastFit n 0 (mm_ar 0 as) [] z = some o
theorem M_X3_leastFit : mm_M lyTX lyFA lenX snX 46 48 17 roX rsA nfA nmA ssX yX3_leastFit cX3_leastFit 3 (some .int) rm_X3_leastFit f_X3_leastFit :=
  mm_met (rt := 0) (by decide +kernel) ⟨fun h => rfl, fun h => absurd h (by decide), fun h => absurd h (by decide), fun h => absurd h (by decide)⟩ tbX3_leastFit_ok hsnX okFX3 okLX3 okGX3 (fun _ _ _ _ => rfl) (fun _ _ _ _ => rfl) (List.forall_mem_cons.mpr ⟨sV_X3_beginMaps (Or.inl lk_X3_224) rfl ⟨by decide, by decide⟩, List.forall_mem_cons.mpr ⟨sV_X3_draftFitsAs (Or.inl lk_X3_227) rfl ⟨by decide, by decide⟩, fun _ h => absurd h List.not_mem_nil⟩⟩) (fun _ h => absurd h List.not_mem_nil)
noncomputable def sX3_leastFit_20 (y2 : Int32) (z : mm_S) : Option (Int32 × mm_S) := some (y2, z)
theorem kX3_leastFit_20 (y2 : Int32) (z : mm_S) (oo : mm_R) : mm_Xs (sX3_leastFit_20 y2 z) (fun v => (fun v : Int32 × mm_S => ((some (mm_I v.1), v.2) : mm_R)) v = oo) (fun n => eX3_leastFit_20 n y2 z) oo :=
  xs_row (fun n => qX3_leastFit_20 n y2 z) (xs_v fun hc => ⟨0, congrArg some hc⟩)
noncomputable def sX3_leastFit_17 (y1 : Int32) (y2 : Int32) (w0 : Int32) (z : mm_S) : Option ((Int32 × Int32 × mm_S) ⊕ (Int32 × mm_S)) := if w0 = 0 then some (.inl (y1, (y2 + 1), z)) else ((sX3_leastFit_20 y2 z).map fun w => (Sum.inr w))
theorem kX3_leastFit_17 (y1 : Int32) (y2 : Int32) (w0 : Int32) (z : mm_S) (oo : mm_R) : mm_Xs (sX3_leastFit_17 y1 y2 w0 z) (mm_mt (fun x : Int32 × Int32 × mm_S => ∃ n, eX3_leastFit_7 n x.1 x.2.1 x.2.2 = some oo) (fun v => (fun v : Int32 × mm_S => ((some (mm_I v.1), v.2) : mm_R)) v = oo)) (fun n => eX3_leastFit_17 n y1 y2 w0 z) oo :=
  xs_row (fun n => qX3_leastFit_17 n y1 y2 w0 z) (xs_if (xs_v fun hc => hc) (xs_map (f := fun w => (Sum.inr w)) (kX3_leastFit_20 y2 z oo) (fun _ h => h)))
noncomputable def lX3_leastFit_7 (s : Int32 × Int32 × mm_S) : Option ((Int32 × Int32 × mm_S) ⊕ (Int32 × mm_S)) := if s.1 ≤ s.2.1 then some (.inr ((-1), s.2.2)) else (sX3_draftFitsAs s.2.1 s.2.2).bind fun q2 => (sX3_leastFit_17 s.1 s.2.1 q2.1 q2.2)
noncomputable def sX3_leastFit_7 (y1 : Int32) (y2 : Int32) (z : mm_S) : Option (Int32 × mm_S) := mm_wh (lX3_leastFit_7 ) mm_fu (y1, y2, z)
theorem kX3_leastFit_7 (y1 : Int32) (y2 : Int32) (z : mm_S) (oo : mm_R) : mm_Xs (sX3_leastFit_7 y1 y2 z) (fun v => (fun v : Int32 × mm_S => ((some (mm_I v.1), v.2) : mm_R)) v = oo) (fun n => eX3_leastFit_7 n y1 y2 z) oo :=
  xs_wh (stp := lX3_leastFit_7 ) (o := oo) (E := (fun (s : Int32 × Int32 × mm_S) n => eX3_leastFit_7 n s.1 s.2.1 s.2.2)) (C := (fun v => (fun v : Int32 × mm_S => ((some (mm_I v.1), v.2) : mm_R)) v = oo)) (fun s => xs_row (fun n => qX3_leastFit_7 n s.1 s.2.1 s.2.2) (xs_if (xs_v fun hc => ⟨0, congrArg some hc⟩) (xs_bd fun q2 => (kX3_leastFit_17 s.1 s.2.1 q2.1 q2.2 oo)))) mm_fu (y1, y2, z)
noncomputable def sX3_leastFit_5 (y1 : Int32) (z : mm_S) : Option (Int32 × mm_S) := (sX3_leastFit_7 y1 0 z)
theorem kX3_leastFit_5 (y1 : Int32) (z : mm_S) (oo : mm_R) : mm_Xs (sX3_leastFit_5 y1 z) (fun v => (fun v : Int32 × mm_S => ((some (mm_I v.1), v.2) : mm_R)) v = oo) (fun n => eX3_leastFit_5 n y1 z) oo :=
  xs_row (fun n => qX3_leastFit_5 n y1 z) (kX3_leastFit_7 y1 0 z oo)
noncomputable def sX3_leastFit_0  (z : mm_S) : Option (Int32 × mm_S) := (sX3_beginMaps  z).bind fun q1 => (sX3_leastFit_5 q1.1 q1.2)
theorem kX3_leastFit_0  (z : mm_S) (oo : mm_R) : mm_Xs (sX3_leastFit_0  z) (fun v => (fun v : Int32 × mm_S => ((some (mm_I v.1), v.2) : mm_R)) v = oo) (fun n => eX3_leastFit_0 n  z) oo :=
  xs_row (fun n => qX3_leastFit_0 n z) (xs_bd fun q1 => (kX3_leastFit_5 q1.1 q1.2 oo))
noncomputable def sX3_leastFit  (z : mm_S) : Option (Int32 × mm_S) := sX3_leastFit_0  z
theorem sp_X3_leastFit  (z : mm_S) (hk : ∀ v ∈ [mm_P 3 0], mm_ok 46 lyTX 48 17 v) (q : Int32 × mm_S) (hq : sX3_leastFit  z = some q) : f_X3_leastFit [mm_P 3 0] z (some (mm_I q.1), q.2) := ⟨Nat.le_of_ble_eq_true rfl, kX3_leastFit_0  z _ q hq rfl⟩
noncomputable def clo_X3_leastFit (as : List mm_V) (z : mm_S) (kk : Option mm_V → mm_S → Option mm_R) : Option mm_R := mm_pr as fun t o0 as => bif Nat.beq t 3 then (match as with | [] => (sX3_leastFit z).bind fun q => kk (some (mm_I q.1)) q.2 | _ => none) else none
theorem cs_X3_leastFit : mm_cs lyTX 46 48 17 f_X3_leastFit clo_X3_leastFit := by
  intro as z K o hk h
  obtain ⟨t0, o0, r0, rfl, g0⟩ := mm_pr_e h
  obtain ⟨b0, k0⟩ := mm_bif_e g0
  obtain rfl := Nat.eq_of_beq_eq_true b0
  rcases r0 with _ | ⟨u, w⟩
  rotate_left
  · cases k0
  obtain rfl : o0 = 0 := ok3 (hk (mm_P 3 o0) (by simp))
  obtain ⟨q, hq, hq2⟩ := Option.bind_eq_some_iff.mp k0
  exact ⟨_, _, sp_X3_leastFit  z hk q hq, fun v hv => by cases hv; exact Or.inl ⟨_, rfl⟩, hq2⟩
theorem sV_X3_leastFit {own : String} {R : Room} {ar : Nat → Nat} {k : Nat} (hlink : Cond.methodLink own k yX3_leastFit ∈ lw_gd ∨ ∃ host, (own, k, yX3_leastFit, host) ∈ nmA) (har : ar k = 1) (hr : 6 ≤ R.frames ∧ 146 ≤ R.locals) : mm_okV lyTX lyFA lenX snX 46 48 17 roX rsA nfA nmA ssX own R ar k clo_X3_leastFit := by
  refine ⟨yX3_leastFit, cX3_leastFit, 3, some .int, rm_X3_leastFit, f_X3_leastFit, 3, 0, (RX3, TX3, 12), M_X3_leastFit, cs_X3_leastFit, hlink, ⟨wv_X3_leastFit, wz_X3_leastFit, wi_X3_leastFit, wc_X3_leastFit⟩, ⟨by decide +kernel, by decide +kernel, by decide +kernel⟩, har, ⟨rfl, rfl, by decide⟩, ?_, ⟨rfl, rfl, hr.1, hr.2⟩⟩
  intro as z K o h
  obtain ⟨t0, o0, r0, rfl, g0⟩ := mm_pr_e h
  obtain ⟨b0, k0⟩ := mm_bif_e g0
  obtain rfl := Nat.eq_of_beq_eq_true b0
  exact ⟨_, _, rfl⟩
-- X3_nearestFit
noncomputable def lV_X3_nearestFit : List (Nat × (List mm_V → mm_S → (Option mm_V → mm_S → Option mm_R) → Option mm_R)) := [(224, clo_X3_beginMaps), (227, clo_X3_draftFitsAs), (350, clo_X0_unlikeCells)]
noncomputable def mV_X3_nearestFit (k : Nat) (as : List mm_V) (z : mm_S) (kk : Option mm_V → mm_S → Option mm_R) : Option mm_R := match mm_at lV_X3_nearestFit k with
  | some f => f as z kk
  | none => none
noncomputable def arV_X3_nearestFit (k : Nat) : Nat := (mm_at [(224, 1), (227, 2), (350, 2)] k).getD 0
noncomputable def lS_X3_nearestFit : List (Nat × (List mm_V → mm_S → (Option mm_V → mm_S → Option mm_R) → Option mm_R)) := []
noncomputable def mS_X3_nearestFit (k : Nat) (as : List mm_V) (z : mm_S) (kk : Option mm_V → mm_S → Option mm_R) : Option mm_R := match mm_at lS_X3_nearestFit k with
  | some f => f as z kk
  | none => none
noncomputable def arS_X3_nearestFit (k : Nat) : Nat := (mm_at [] k).getD 0
def ct_X3_nearestFit : List (Nat × List Nat) := [(9, [0, 1, 2, 3]), (12, [0, 1, 2, 3, 4]), (24, [0, 1, 2, 3, 4]), (27, [0, 1, 2, 3, 4]), (40, [0, 1, 2, 3, 4, 5])]
noncomputable def go_X3_nearestFit : Nat → mm_K := mm_go (fun k => mm_at flX3 k) (fun k => mm_at clX3 k) (fun k => mm_at glX3 k) arV_X3_nearestFit arS_X3_nearestFit mV_X3_nearestFit mS_X3_nearestFit lenX roX snX 6 0 tbX3_nearestFit ct_X3_nearestFit
noncomputable def eX3_nearestFit_0 (n : Nat)  (z : mm_S) : Option mm_R := go_X3_nearestFit n 0 [(0, mm_P 3 0)] [] z
noncomputable def eX3_nearestFit_9 (n : Nat)  (y1 : Int32) (y2 : Int32) (y3 : Int32) (z : mm_S) : Option mm_R := go_X3_nearestFit n 9 [(0, mm_P 3 0), (1, mm_I y1), (2, mm_I y2), (3, mm_I y3)] [] z
noncomputable def eX3_nearestFit_12 (n : Nat)  (y1 : Int32) (y2 : Int32) (y3 : Int32) (y4 : Int32) (z : mm_S) : Option mm_R := go_X3_nearestFit n 12 [(0, mm_P 3 0), (1, mm_I y1), (2, mm_I y2), (3, mm_I y3), (4, mm_I y4)] [] z
noncomputable def eX3_nearestFit_24 (n : Nat)  (y1 : Int32) (y2 : Int32) (y3 : Int32) (y4 : Int32) (w0 : Int32) (z : mm_S) : Option mm_R := go_X3_nearestFit n 24 [(0, mm_P 3 0), (1, mm_I y1), (2, mm_I y2), (3, mm_I y3), (4, mm_I y4)] [mm_I w0] z
noncomputable def eX3_nearestFit_27 (n : Nat)  (y1 : Int32) (y2 : Int32) (y3 : Int32) (y4 : Int32) (z : mm_S) : Option mm_R := go_X3_nearestFit n 27 [(0, mm_P 3 0), (1, mm_I y1), (2, mm_I y2), (3, mm_I y3), (4, mm_I y4)] [] z
noncomputable def eX3_nearestFit_40 (n : Nat)  (y1 : Int32) (y2 : Int32) (y3 : Int32) (y4 : Int32) (y5 : Int32) (z : mm_S) : Option mm_R := go_X3_nearestFit n 40 [(0, mm_P 3 0), (1, mm_I y1), (2, mm_I y2), (3, mm_I y3), (4, mm_I y4), (5, mm_I y5)] [] z
set_option maxRecDepth 100000 in
theorem qX3_nearestFit_0 (n : Nat)  (z : mm_S) : eX3_nearestFit_0 (n + 1)  z = ((sX3_beginMaps  z).bind fun q1 => eX3_nearestFit_9 n (-1) 5 q1.1 q1.2) := rfl
set_option maxRecDepth 100000 in
theorem qX3_nearestFit_9 (n : Nat)  (y1 : Int32) (y2 : Int32) (y3 : Int32) (z : mm_S) : eX3_nearestFit_9 (n + 1) y1 y2 y3 z = (eX3_nearestFit_12 n y1 y2 y3 0 z) := rfl
set_option maxRecDepth 100000 in
theorem qX3_nearestFit_12 (n : Nat)  (y1 : Int32) (y2 : Int32) (y3 : Int32) (y4 : Int32) (z : mm_S) : eX3_nearestFit_12 (n + 1) y1 y2 y3 y4 z = (if y3 ≤ y4 then some (some (mm_I y1), z) else (sX3_draftFitsAs y4 z).bind fun q2 => eX3_nearestFit_24 n y1 y2 y3 y4 q2.1 q2.2) := rfl
set_option maxRecDepth 100000 in
theorem qX3_nearestFit_24 (n : Nat)  (y1 : Int32) (y2 : Int32) (y3 : Int32) (y4 : Int32) (w0 : Int32) (z : mm_S) : eX3_nearestFit_24 (n + 1) y1 y2 y3 y4 w0 z = (if w0 = 0 then eX3_nearestFit_12 n y1 y2 y3 (y4 + 1) z else eX3_nearestFit_27 n y1 y2 y3 y4 z) := rfl
set_option maxRecDepth 100000 in
theorem qX3_nearestFit_27 (n : Nat)  (y1 : Int32) (y2 : Int32) (y3 : Int32) (y4 : Int32) (z : mm_S) : eX3_nearestFit_27 (n + 1) y1 y2 y3 y4 z = ((sX0_unlikeCells 25 1 z).bind fun q3 => eX3_nearestFit_40 n y1 y2 y3 y4 q3.1 q3.2) := rfl
set_option maxRecDepth 100000 in
theorem qX3_nearestFit_40 (n : Nat)  (y1 : Int32) (y2 : Int32) (y3 : Int32) (y4 : Int32) (y5 : Int32) (z : mm_S) : eX3_nearestFit_40 (n + 1) y1 y2 y3 y4 y5 z = (if y2 ≤ y5 then eX3_nearestFit_12 n y1 y2 y3 (y4 + 1) z else eX3_nearestFit_12 n y4 y5 y3 (y4 + 1) z) := rfl
def rm_X3_nearestFit : Room := { frames := 5, cells := 0, slots := 0, locals := 124 }
noncomputable def f_X3_nearestFit (as : List mm_V) (z : mm_S) (o : mm_R) : Prop := (as.map mm_cat).sum ≤ 6 ∧ ∃ n, go_X3_nearestFit n 0 (mm_ar 0 as) [] z = some o
theorem M_X3_nearestFit : mm_M lyTX lyFA lenX snX 46 48 17 roX rsA nfA nmA ssX yX3_nearestFit cX3_nearestFit 6 (some .int) rm_X3_nearestFit f_X3_nearestFit :=
  mm_met (rt := 0) (by decide +kernel) ⟨fun h => rfl, fun h => absurd h (by decide), fun h => absurd h (by decide), fun h => absurd h (by decide)⟩ tbX3_nearestFit_ok hsnX okFX3 okLX3 okGX3 (fun _ _ _ _ => rfl) (fun _ _ _ _ => rfl) (List.forall_mem_cons.mpr ⟨sV_X3_beginMaps (Or.inl lk_X3_224) rfl ⟨by decide, by decide⟩, List.forall_mem_cons.mpr ⟨sV_X3_draftFitsAs (Or.inl lk_X3_227) rfl ⟨by decide, by decide⟩, List.forall_mem_cons.mpr ⟨sV_X0_unlikeCells (Or.inl lk_X3_350) rfl ⟨by decide, by decide⟩, fun _ h => absurd h List.not_mem_nil⟩⟩⟩) (fun _ h => absurd h List.not_mem_nil)
noncomputable def sX3_nearestFit_40 (y1 : Int32) (y2 : Int32) (y3 : Int32) (y4 : Int32) (y5 : Int32) (z : mm_S) : Option ((Int32 × Int32 × Int32 × Int32 × mm_S) ⊕ (Int32 × mm_S)) := if y2 ≤ y5 then some (.inl (y1, y2, y3, (y4 + 1), z)) else some (.inl (y4, y5, y3, (y4 + 1), z))
theorem kX3_nearestFit_40 (y1 : Int32) (y2 : Int32) (y3 : Int32) (y4 : Int32) (y5 : Int32) (z : mm_S) (oo : mm_R) : mm_Xs (sX3_nearestFit_40 y1 y2 y3 y4 y5 z) (mm_mt (fun x : Int32 × Int32 × Int32 × Int32 × mm_S => ∃ n, eX3_nearestFit_12 n x.1 x.2.1 x.2.2.1 x.2.2.2.1 x.2.2.2.2 = some oo) (fun v => (fun v : Int32 × mm_S => ((some (mm_I v.1), v.2) : mm_R)) v = oo)) (fun n => eX3_nearestFit_40 n y1 y2 y3 y4 y5 z) oo :=
  xs_row (fun n => qX3_nearestFit_40 n y1 y2 y3 y4 y5 z) (xs_if (xs_v fun hc => hc) (xs_v fun hc => hc))
noncomputable def sX3_nearestFit_27 (y1 : Int32) (y2 : Int32) (y3 : Int32) (y4 : Int32) (z : mm_S) : Option ((Int32 × Int32 × Int32 × Int32 × mm_S) ⊕ (Int32 × mm_S)) := (sX0_unlikeCells 25 1 z).bind fun q3 => (sX3_nearestFit_40 y1 y2 y3 y4 q3.1 q3.2)
theorem kX3_nearestFit_27 (y1 : Int32) (y2 : Int32) (y3 : Int32) (y4 : Int32) (z : mm_S) (oo : mm_R) : mm_Xs (sX3_nearestFit_27 y1 y2 y3 y4 z) (mm_mt (fun x : Int32 × Int32 × Int32 × Int32 × mm_S => ∃ n, eX3_nearestFit_12 n x.1 x.2.1 x.2.2.1 x.2.2.2.1 x.2.2.2.2 = some oo) (fun v => (fun v : Int32 × mm_S => ((some (mm_I v.1), v.2) : mm_R)) v = oo)) (fun n => eX3_nearestFit_27 n y1 y2 y3 y4 z) oo :=
  xs_row (fun n => qX3_nearestFit_27 n y1 y2 y3 y4 z) (xs_bd fun q3 => (kX3_nearestFit_40 y1 y2 y3 y4 q3.1 q3.2 oo))
noncomputable def sX3_nearestFit_24 (y1 : Int32) (y2 : Int32) (y3 : Int32) (y4 : Int32) (w0 : Int32) (z : mm_S) : Option ((Int32 × Int32 × Int32 × Int32 × mm_S) ⊕ (Int32 × mm_S)) := if w0 = 0 then some (.inl (y1, y2, y3, (y4 + 1), z)) else (sX3_nearestFit_27 y1 y2 y3 y4 z)
theorem kX3_nearestFit_24 (y1 : Int32) (y2 : Int32) (y3 : Int32) (y4 : Int32) (w0 : Int32) (z : mm_S) (oo : mm_R) : mm_Xs (sX3_nearestFit_24 y1 y2 y3 y4 w0 z) (mm_mt (fun x : Int32 × Int32 × Int32 × Int32 × mm_S => ∃ n, eX3_nearestFit_12 n x.1 x.2.1 x.2.2.1 x.2.2.2.1 x.2.2.2.2 = some oo) (fun v => (fun v : Int32 × mm_S => ((some (mm_I v.1), v.2) : mm_R)) v = oo)) (fun n => eX3_nearestFit_24 n y1 y2 y3 y4 w0 z) oo :=
  xs_row (fun n => qX3_nearestFit_24 n y1 y2 y3 y4 w0 z) (xs_if (xs_v fun hc => hc) (kX3_nearestFit_27 y1 y2 y3 y4 z oo))
noncomputable def lX3_nearestFit_12 (s : Int32 × Int32 × Int32 × Int32 × mm_S) : Option ((Int32 × Int32 × Int32 × Int32 × mm_S) ⊕ (Int32 × mm_S)) := if s.2.2.1 ≤ s.2.2.2.1 then some (.inr (s.1, s.2.2.2.2)) else (sX3_draftFitsAs s.2.2.2.1 s.2.2.2.2).bind fun q2 => (sX3_nearestFit_24 s.1 s.2.1 s.2.2.1 s.2.2.2.1 q2.1 q2.2)
noncomputable def sX3_nearestFit_12 (y1 : Int32) (y2 : Int32) (y3 : Int32) (y4 : Int32) (z : mm_S) : Option (Int32 × mm_S) := mm_wh (lX3_nearestFit_12 ) mm_fu (y1, y2, y3, y4, z)
theorem kX3_nearestFit_12 (y1 : Int32) (y2 : Int32) (y3 : Int32) (y4 : Int32) (z : mm_S) (oo : mm_R) : mm_Xs (sX3_nearestFit_12 y1 y2 y3 y4 z) (fun v => (fun v : Int32 × mm_S => ((some (mm_I v.1), v.2) : mm_R)) v = oo) (fun n => eX3_nearestFit_12 n y1 y2 y3 y4 z) oo :=
  xs_wh (stp := lX3_nearestFit_12 ) (o := oo) (E := (fun (s : Int32 × Int32 × Int32 × Int32 × mm_S) n => eX3_nearestFit_12 n s.1 s.2.1 s.2.2.1 s.2.2.2.1 s.2.2.2.2)) (C := (fun v => (fun v : Int32 × mm_S => ((some (mm_I v.1), v.2) : mm_R)) v = oo)) (fun s => xs_row (fun n => qX3_nearestFit_12 n s.1 s.2.1 s.2.2.1 s.2.2.2.1 s.2.2.2.2) (xs_if (xs_v fun hc => ⟨0, congrArg some hc⟩) (xs_bd fun q2 => (kX3_nearestFit_24 s.1 s.2.1 s.2.2.1 s.2.2.2.1 q2.1 q2.2 oo)))) mm_fu (y1, y2, y3, y4, z)
noncomputable def sX3_nearestFit_9 (y1 : Int32) (y2 : Int32) (y3 : Int32) (z : mm_S) : Option (Int32 × mm_S) := (sX3_nearestFit_12 y1 y2 y3 0 z)
theorem kX3_nearestFit_9 (y1 : Int32) (y2 : Int32) (y3 : Int32) (z : mm_S) (oo : mm_R) : mm_Xs (sX3_nearestFit_9 y1 y2 y3 z) (fun v => (fun v : Int32 × mm_S => ((some (mm_I v.1), v.2) : mm_R)) v = oo) (fun n => eX3_nearestFit_9 n y1 y2 y3 z) oo :=
  xs_row (fun n => qX3_nearestFit_9 n y1 y2 y3 z) (kX3_nearestFit_12 y1 y2 y3 0 z oo)
noncomputable def sX3_nearestFit_0  (z : mm_S) : Option (Int32 × mm_S) := (sX3_beginMaps  z).bind fun q1 => (sX3_nearestFit_9 (-1) 5 q1.1 q1.2)
theorem kX3_nearestFit_0  (z : mm_S) (oo : mm_R) : mm_Xs (sX3_nearestFit_0  z) (fun v => (fun v : Int32 × mm_S => ((some (mm_I v.1), v.2) : mm_R)) v = oo) (fun n => eX3_nearestFit_0 n  z) oo :=
  xs_row (fun n => qX3_nearestFit_0 n z) (xs_bd fun q1 => (kX3_nearestFit_9 (-1) 5 q1.1 q1.2 oo))
noncomputable def sX3_nearestFit  (z : mm_S) : Option (Int32 × mm_S) := sX3_nearestFit_0  z
theorem sp_X3_nearestFit  (z : mm_S) (hk : ∀ v ∈ [mm_P 3 0], mm_ok 46 lyTX 48 17 v) (q : Int32 × mm_S) (hq : sX3_nearestFit  z = some q) : f_X3_nearestFit [mm_P 3 0] z (some (mm_I q.1), q.2) := ⟨Nat.le_of_ble_eq_true rfl, kX3_nearestFit_0  z _ q hq rfl⟩
noncomputable def clo_X3_nearestFit (as : List mm_V) (z : mm_S) (kk : Option mm_V → mm_S → Option mm_R) : Option mm_R := mm_pr as fun t o0 as => bif Nat.beq t 3 then (match as with | [] => (sX3_nearestFit z).bind fun q => kk (some (mm_I q.1)) q.2 | _ => none) else none
theorem cs_X3_nearestFit : mm_cs lyTX 46 48 17 f_X3_nearestFit clo_X3_nearestFit := by
  intro as z K o hk h
  obtain ⟨t0, o0, r0, rfl, g0⟩ := mm_pr_e h
  obtain ⟨b0, k0⟩ := mm_bif_e g0
  obtain rfl := Nat.eq_of_beq_eq_true b0
  rcases r0 with _ | ⟨u, w⟩
  rotate_left
  · cases k0
  obtain rfl : o0 = 0 := ok3 (hk (mm_P 3 o0) (by simp))
  obtain ⟨q, hq, hq2⟩ := Option.bind_eq_some_iff.mp k0
  exact ⟨_, _, sp_X3_nearestFit  z hk q hq, fun v hv => by cases hv; exact Or.inl ⟨_, rfl⟩, hq2⟩
theorem sV_X3_nearestFit {own : String} {R : Room} {ar : Nat → Nat} {k : Nat} (hlink : Cond.methodLink own k yX3_nearestFit ∈ lw_gd ∨ ∃ host, (own, k, yX3_nearestFit, host) ∈ nmA) (har : ar k = 1) (hr : 6 ≤ R.frames ∧ 149 ≤ R.locals) : mm_okV lyTX lyFA lenX snX 46 48 17 roX rsA nfA nmA ssX own R ar k clo_X3_nearestFit := by
  refine ⟨yX3_nearestFit, cX3_nearestFit, 6, some .int, rm_X3_nearestFit, f_X3_nearestFit, 3, 0, (RX3, TX3, 12), M_X3_nearestFit, cs_X3_nearestFit, hlink, ⟨wv_X3_nearestFit, wz_X3_nearestFit, wi_X3_nearestFit, wc_X3_nearestFit⟩, ⟨by decide +kernel, by decide +kernel, by decide +kernel⟩, har, ⟨rfl, rfl, by decide⟩, ?_, ⟨rfl, rfl, hr.1, hr.2⟩⟩
  intro as z K o h
  obtain ⟨t0, o0, r0, rfl, g0⟩ := mm_pr_e h
  obtain ⟨b0, k0⟩ := mm_bif_e g0
  obtain rfl := Nat.eq_of_beq_eq_true b0
  exact ⟨_, _, rfl⟩
-- X3_greatestFit
noncomputable def lV_X3_greatestFit : List (Nat × (List mm_V → mm_S → (Option mm_V → mm_S → Option mm_R) → Option mm_R)) := [(224, clo_X3_beginMaps), (227, clo_X3_draftFitsAs)]
noncomputable def mV_X3_greatestFit (k : Nat) (as : List mm_V) (z : mm_S) (kk : Option mm_V → mm_S → Option mm_R) : Option mm_R := match mm_at lV_X3_greatestFit k with
  | some f => f as z kk
  | none => none
noncomputable def arV_X3_greatestFit (k : Nat) : Nat := (mm_at [(224, 1), (227, 2)] k).getD 0
noncomputable def lS_X3_greatestFit : List (Nat × (List mm_V → mm_S → (Option mm_V → mm_S → Option mm_R) → Option mm_R)) := []
noncomputable def mS_X3_greatestFit (k : Nat) (as : List mm_V) (z : mm_S) (kk : Option mm_V → mm_S → Option mm_R) : Option mm_R := match mm_at lS_X3_greatestFit k with
  | some f => f as z kk
  | none => none
noncomputable def arS_X3_greatestFit (k : Nat) : Nat := (mm_at [] k).getD 0
def ct_X3_greatestFit : List (Nat × List Nat) := [(5, [0, 1]), (9, [0, 2]), (18, [0, 2]), (21, [2])]
noncomputable def go_X3_greatestFit : Nat → mm_K := mm_go (fun k => mm_at flX3 k) (fun k => mm_at clX3 k) (fun k => mm_at glX3 k) arV_X3_greatestFit arS_X3_greatestFit mV_X3_greatestFit mS_X3_greatestFit lenX roX snX 3 0 tbX3_greatestFit ct_X3_greatestFit
noncomputable def eX3_greatestFit_0 (n : Nat)  (z : mm_S) : Option mm_R := go_X3_greatestFit n 0 [(0, mm_P 3 0)] [] z
noncomputable def eX3_greatestFit_5 (n : Nat)  (y1 : Int32) (z : mm_S) : Option mm_R := go_X3_greatestFit n 5 [(0, mm_P 3 0), (1, mm_I y1)] [] z
noncomputable def eX3_greatestFit_9 (n : Nat)  (y2 : Int32) (z : mm_S) : Option mm_R := go_X3_greatestFit n 9 [(0, mm_P 3 0), (2, mm_I y2)] [] z
noncomputable def eX3_greatestFit_18 (n : Nat)  (y2 : Int32) (w0 : Int32) (z : mm_S) : Option mm_R := go_X3_greatestFit n 18 [(0, mm_P 3 0), (2, mm_I y2)] [mm_I w0] z
noncomputable def eX3_greatestFit_21 (n : Nat) (y2 : Int32) (z : mm_S) : Option mm_R := go_X3_greatestFit n 21 [(2, mm_I y2)] [] z
set_option maxRecDepth 100000 in
theorem qX3_greatestFit_0 (n : Nat)  (z : mm_S) : eX3_greatestFit_0 (n + 1)  z = ((sX3_beginMaps  z).bind fun q1 => eX3_greatestFit_5 n q1.1 q1.2) := rfl
set_option maxRecDepth 100000 in
theorem qX3_greatestFit_5 (n : Nat)  (y1 : Int32) (z : mm_S) : eX3_greatestFit_5 (n + 1) y1 z = (eX3_greatestFit_9 n (y1 - 1) z) := rfl
set_option maxRecDepth 100000 in
theorem qX3_greatestFit_9 (n : Nat)  (y2 : Int32) (z : mm_S) : eX3_greatestFit_9 (n + 1) y2 z = (if y2 < 0 then some (some (mm_I (-1)), z) else (sX3_draftFitsAs y2 z).bind fun q2 => eX3_greatestFit_18 n y2 q2.1 q2.2) := rfl
set_option maxRecDepth 100000 in
theorem qX3_greatestFit_18 (n : Nat)  (y2 : Int32) (w0 : Int32) (z : mm_S) : eX3_greatestFit_18 (n + 1) y2 w0 z = (if w0 = 0 then let v3 : Int32 := (y2 + (-1)); eX3_greatestFit_9 n v3 z else eX3_greatestFit_21 n y2 z) := rfl
set_option maxRecDepth 100000 in
theorem qX3_greatestFit_21 (n : Nat) (y2 : Int32) (z : mm_S) : eX3_greatestFit_21 (n + 1) y2 z = (some (some (mm_I y2), z)) := rfl
def rm_X3_greatestFit : Room := { frames := 5, cells := 0, slots := 0, locals := 124 }
noncomputable def f_X3_greatestFit (as : List mm_V) (z : mm_S) (o : mm_R) : Prop := (as.map mm_cat).sum ≤ 3 ∧ ∃ n, go_X3_greatestFit n 0 (mm_ar 0 as) [] z = some o
theorem M_X3_greatestFit : mm_M lyTX lyFA lenX snX 46 48 17 roX rsA nfA nmA ssX yX3_greatestFit cX3_greatestFit 3 (some .int) rm_X3_greatestFit f_X3_greatestFit :=
  mm_met (rt := 0) (by decide +kernel) ⟨fun h => rfl, fun h => absurd h (by decide), fun h => absurd h (by decide), fun h => absurd h (by decide)⟩ tbX3_greatestFit_ok hsnX okFX3 okLX3 okGX3 (fun _ _ _ _ => rfl) (fun _ _ _ _ => rfl) (List.forall_mem_cons.mpr ⟨sV_X3_beginMaps (Or.inl lk_X3_224) rfl ⟨by decide, by decide⟩, List.forall_mem_cons.mpr ⟨sV_X3_draftFitsAs (Or.inl lk_X3_227) rfl ⟨by decide, by decide⟩, fun _ h => absurd h List.not_mem_nil⟩⟩) (fun _ h => absurd h List.not_mem_nil)
noncomputable def sX3_greatestFit_21 (y2 : Int32) (z : mm_S) : Option (Int32 × mm_S) := some (y2, z)
theorem kX3_greatestFit_21 (y2 : Int32) (z : mm_S) (oo : mm_R) : mm_Xs (sX3_greatestFit_21 y2 z) (fun v => (fun v : Int32 × mm_S => ((some (mm_I v.1), v.2) : mm_R)) v = oo) (fun n => eX3_greatestFit_21 n y2 z) oo :=
  xs_row (fun n => qX3_greatestFit_21 n y2 z) (xs_v fun hc => ⟨0, congrArg some hc⟩)
noncomputable def sX3_greatestFit_18 (y2 : Int32) (w0 : Int32) (z : mm_S) : Option ((Int32 × mm_S) ⊕ (Int32 × mm_S)) := if w0 = 0 then let v3 : Int32 := (y2 + (-1)); some (.inl (v3, z)) else ((sX3_greatestFit_21 y2 z).map fun w => (Sum.inr w))
theorem kX3_greatestFit_18 (y2 : Int32) (w0 : Int32) (z : mm_S) (oo : mm_R) : mm_Xs (sX3_greatestFit_18 y2 w0 z) (mm_mt (fun x : Int32 × mm_S => ∃ n, eX3_greatestFit_9 n x.1 x.2 = some oo) (fun v => (fun v : Int32 × mm_S => ((some (mm_I v.1), v.2) : mm_R)) v = oo)) (fun n => eX3_greatestFit_18 n y2 w0 z) oo :=
  xs_row (fun n => qX3_greatestFit_18 n y2 w0 z) (xs_if (xs_let ((y2 + (-1))) (S := fun (v3 : Int32) => (some (.inl (v3, z)) : Option ((Int32 × mm_S) ⊕ (Int32 × mm_S)))) (T := fun (v3 : Int32) n => eX3_greatestFit_9 n v3 z) (fun v3 => (xs_v fun hc => hc))) (xs_map (f := fun w => (Sum.inr w)) (kX3_greatestFit_21 y2 z oo) (fun _ h => h)))
noncomputable def lX3_greatestFit_9 (s : Int32 × mm_S) : Option ((Int32 × mm_S) ⊕ (Int32 × mm_S)) := if s.1 < 0 then some (.inr ((-1), s.2)) else (sX3_draftFitsAs s.1 s.2).bind fun q2 => (sX3_greatestFit_18 s.1 q2.1 q2.2)
noncomputable def sX3_greatestFit_9 (y2 : Int32) (z : mm_S) : Option (Int32 × mm_S) := mm_wh (lX3_greatestFit_9 ) mm_fu (y2, z)
theorem kX3_greatestFit_9 (y2 : Int32) (z : mm_S) (oo : mm_R) : mm_Xs (sX3_greatestFit_9 y2 z) (fun v => (fun v : Int32 × mm_S => ((some (mm_I v.1), v.2) : mm_R)) v = oo) (fun n => eX3_greatestFit_9 n y2 z) oo :=
  xs_wh (stp := lX3_greatestFit_9 ) (o := oo) (E := (fun (s : Int32 × mm_S) n => eX3_greatestFit_9 n s.1 s.2)) (C := (fun v => (fun v : Int32 × mm_S => ((some (mm_I v.1), v.2) : mm_R)) v = oo)) (fun s => xs_row (fun n => qX3_greatestFit_9 n s.1 s.2) (xs_if (xs_v fun hc => ⟨0, congrArg some hc⟩) (xs_bd fun q2 => (kX3_greatestFit_18 s.1 q2.1 q2.2 oo)))) mm_fu (y2, z)
noncomputable def sX3_greatestFit_5 (y1 : Int32) (z : mm_S) : Option (Int32 × mm_S) := (sX3_greatestFit_9 (y1 - 1) z)
theorem kX3_greatestFit_5 (y1 : Int32) (z : mm_S) (oo : mm_R) : mm_Xs (sX3_greatestFit_5 y1 z) (fun v => (fun v : Int32 × mm_S => ((some (mm_I v.1), v.2) : mm_R)) v = oo) (fun n => eX3_greatestFit_5 n y1 z) oo :=
  xs_row (fun n => qX3_greatestFit_5 n y1 z) (kX3_greatestFit_9 (y1 - 1) z oo)
noncomputable def sX3_greatestFit_0  (z : mm_S) : Option (Int32 × mm_S) := (sX3_beginMaps  z).bind fun q1 => (sX3_greatestFit_5 q1.1 q1.2)
theorem kX3_greatestFit_0  (z : mm_S) (oo : mm_R) : mm_Xs (sX3_greatestFit_0  z) (fun v => (fun v : Int32 × mm_S => ((some (mm_I v.1), v.2) : mm_R)) v = oo) (fun n => eX3_greatestFit_0 n  z) oo :=
  xs_row (fun n => qX3_greatestFit_0 n z) (xs_bd fun q1 => (kX3_greatestFit_5 q1.1 q1.2 oo))
noncomputable def sX3_greatestFit  (z : mm_S) : Option (Int32 × mm_S) := sX3_greatestFit_0  z
theorem sp_X3_greatestFit  (z : mm_S) (hk : ∀ v ∈ [mm_P 3 0], mm_ok 46 lyTX 48 17 v) (q : Int32 × mm_S) (hq : sX3_greatestFit  z = some q) : f_X3_greatestFit [mm_P 3 0] z (some (mm_I q.1), q.2) := ⟨Nat.le_of_ble_eq_true rfl, kX3_greatestFit_0  z _ q hq rfl⟩
noncomputable def clo_X3_greatestFit (as : List mm_V) (z : mm_S) (kk : Option mm_V → mm_S → Option mm_R) : Option mm_R := mm_pr as fun t o0 as => bif Nat.beq t 3 then (match as with | [] => (sX3_greatestFit z).bind fun q => kk (some (mm_I q.1)) q.2 | _ => none) else none
theorem cs_X3_greatestFit : mm_cs lyTX 46 48 17 f_X3_greatestFit clo_X3_greatestFit := by
  intro as z K o hk h
  obtain ⟨t0, o0, r0, rfl, g0⟩ := mm_pr_e h
  obtain ⟨b0, k0⟩ := mm_bif_e g0
  obtain rfl := Nat.eq_of_beq_eq_true b0
  rcases r0 with _ | ⟨u, w⟩
  rotate_left
  · cases k0
  obtain rfl : o0 = 0 := ok3 (hk (mm_P 3 o0) (by simp))
  obtain ⟨q, hq, hq2⟩ := Option.bind_eq_some_iff.mp k0
  exact ⟨_, _, sp_X3_greatestFit  z hk q hq, fun v hv => by cases hv; exact Or.inl ⟨_, rfl⟩, hq2⟩
theorem sV_X3_greatestFit {own : String} {R : Room} {ar : Nat → Nat} {k : Nat} (hlink : Cond.methodLink own k yX3_greatestFit ∈ lw_gd ∨ ∃ host, (own, k, yX3_greatestFit, host) ∈ nmA) (har : ar k = 1) (hr : 6 ≤ R.frames ∧ 146 ≤ R.locals) : mm_okV lyTX lyFA lenX snX 46 48 17 roX rsA nfA nmA ssX own R ar k clo_X3_greatestFit := by
  refine ⟨yX3_greatestFit, cX3_greatestFit, 3, some .int, rm_X3_greatestFit, f_X3_greatestFit, 3, 0, (RX3, TX3, 12), M_X3_greatestFit, cs_X3_greatestFit, hlink, ⟨wv_X3_greatestFit, wz_X3_greatestFit, wi_X3_greatestFit, wc_X3_greatestFit⟩, ⟨by decide +kernel, by decide +kernel, by decide +kernel⟩, har, ⟨rfl, rfl, by decide⟩, ?_, ⟨rfl, rfl, hr.1, hr.2⟩⟩
  intro as z K o h
  obtain ⟨t0, o0, r0, rfl, g0⟩ := mm_pr_e h
  obtain ⟨b0, k0⟩ := mm_bif_e g0
  obtain rfl := Nat.eq_of_beq_eq_true b0
  exact ⟨_, _, rfl⟩
-- X3_map
noncomputable def lV_X3_map : List (Nat × (List mm_V → mm_S → (Option mm_V → mm_S → Option mm_R) → Option mm_R)) := [(59, clo_X3_finding), (143, clo_X3_orNone), (230, clo_X3_leastFit), (233, clo_X3_nearestFit), (236, clo_X3_greatestFit)]
noncomputable def mV_X3_map (k : Nat) (as : List mm_V) (z : mm_S) (kk : Option mm_V → mm_S → Option mm_R) : Option mm_R := match mm_at lV_X3_map k with
  | some f => f as z kk
  | none => none
noncomputable def arV_X3_map (k : Nat) : Nat := (mm_at [(59, 2), (143, 2), (230, 1), (233, 1), (236, 1)] k).getD 0
noncomputable def lS_X3_map : List (Nat × (List mm_V → mm_S → (Option mm_V → mm_S → Option mm_R) → Option mm_R)) := []
noncomputable def mS_X3_map (k : Nat) (as : List mm_V) (z : mm_S) (kk : Option mm_V → mm_S → Option mm_R) : Option mm_R := match mm_at lS_X3_map k with
  | some f => f as z kk
  | none => none
noncomputable def arS_X3_map (k : Nat) : Nat := (mm_at [] k).getD 0
def ct_X3_map : List (Nat × List Nat) := []
noncomputable def go_X3_map : Nat → mm_K := mm_go (fun k => mm_at flX3 k) (fun k => mm_at clX3 k) (fun k => mm_at glX3 k) arV_X3_map arS_X3_map mV_X3_map mS_X3_map lenX roX snX 2 0 tbX3_map ct_X3_map
noncomputable def eX3_map_0 (n : Nat)  (x1 : Int32) (z : mm_S) : Option mm_R := go_X3_map n 0 [(0, mm_P 3 0), (1, mm_I x1)] [] z
set_option maxRecDepth 100000 in
theorem qX3_map_0 (n : Nat)  (x1 : Int32) (z : mm_S) : eX3_map_0 (n + 1) x1 z = (if x1 = 0 then (sX3_leastFit  z).bind fun q6 => (sX3_orNone q6.1 q6.2).bind fun q7 => some (some (mm_I q7.1), q7.2) else if x1 = 1 then (sX3_nearestFit  z).bind fun q4 => (sX3_orNone q4.1 q4.2).bind fun q5 => some (some (mm_I q5.1), q5.2) else if x1 = 2 then (sX3_greatestFit  z).bind fun q2 => (sX3_orNone q2.1 q2.2).bind fun q3 => some (some (mm_I q3.1), q3.2) else (sX3_finding 0 z).bind fun q1 => some (some (mm_I q1.1), q1.2)) := rfl
def rm_X3_map : Room := { frames := 6, cells := 0, slots := 0, locals := 149 }
noncomputable def f_X3_map (as : List mm_V) (z : mm_S) (o : mm_R) : Prop := (as.map mm_cat).sum ≤ 2 ∧ ∃ n, go_X3_map n 0 (mm_ar 0 as) [] z = some o
theorem M_X3_map : mm_M lyTX lyFA lenX snX 46 48 17 roX rsA nfA nmA ssX yX3_map cX3_map 2 (some .int) rm_X3_map f_X3_map :=
  mm_met (rt := 0) (by decide +kernel) ⟨fun h => rfl, fun h => absurd h (by decide), fun h => absurd h (by decide), fun h => absurd h (by decide)⟩ tbX3_map_ok hsnX okFX3 okLX3 okGX3 (fun _ _ _ _ => rfl) (fun _ _ _ _ => rfl) (List.forall_mem_cons.mpr ⟨sV_X3_finding (Or.inl lk_X3_59) rfl ⟨by decide, by decide⟩, List.forall_mem_cons.mpr ⟨sV_X3_orNone (Or.inl lk_X3_143) rfl ⟨by decide, by decide⟩, List.forall_mem_cons.mpr ⟨sV_X3_leastFit (Or.inl lk_X3_230) rfl ⟨by decide, by decide⟩, List.forall_mem_cons.mpr ⟨sV_X3_nearestFit (Or.inl lk_X3_233) rfl ⟨by decide, by decide⟩, List.forall_mem_cons.mpr ⟨sV_X3_greatestFit (Or.inl lk_X3_236) rfl ⟨by decide, by decide⟩, fun _ h => absurd h List.not_mem_nil⟩⟩⟩⟩⟩) (fun _ h => absurd h List.not_mem_nil)
noncomputable def sX3_map_0 (x1 : Int32) (z : mm_S) : Option (Int32 × mm_S) := if x1 = 0 then (sX3_leastFit  z).bind fun q6 => (sX3_orNone q6.1 q6.2).bind fun q7 => some (q7.1, q7.2) else if x1 = 1 then (sX3_nearestFit  z).bind fun q4 => (sX3_orNone q4.1 q4.2).bind fun q5 => some (q5.1, q5.2) else if x1 = 2 then (sX3_greatestFit  z).bind fun q2 => (sX3_orNone q2.1 q2.2).bind fun q3 => some (q3.1, q3.2) else (sX3_finding 0 z).bind fun q1 => some (q1.1, q1.2)
theorem kX3_map_0 (x1 : Int32) (z : mm_S) (oo : mm_R) : mm_Xs (sX3_map_0 x1 z) (fun v => (fun v : Int32 × mm_S => ((some (mm_I v.1), v.2) : mm_R)) v = oo) (fun n => eX3_map_0 n x1 z) oo :=
  xs_row (fun n => qX3_map_0 n x1 z) (xs_if (xs_bd fun q6 => (xs_bd fun q7 => (xs_v fun hc => ⟨0, congrArg some hc⟩))) (xs_if (xs_bd fun q4 => (xs_bd fun q5 => (xs_v fun hc => ⟨0, congrArg some hc⟩))) (xs_if (xs_bd fun q2 => (xs_bd fun q3 => (xs_v fun hc => ⟨0, congrArg some hc⟩))) (xs_bd fun q1 => (xs_v fun hc => ⟨0, congrArg some hc⟩)))))
noncomputable def sX3_map (x1 : Int32) (z : mm_S) : Option (Int32 × mm_S) := sX3_map_0 x1 z
theorem sp_X3_map (x1 : Int32) (z : mm_S) (hk : ∀ v ∈ [mm_P 3 0, mm_I x1], mm_ok 46 lyTX 48 17 v) (q : Int32 × mm_S) (hq : sX3_map x1 z = some q) : f_X3_map [mm_P 3 0, mm_I x1] z (some (mm_I q.1), q.2) := ⟨Nat.le_of_ble_eq_true rfl, kX3_map_0 x1 z _ q hq rfl⟩
noncomputable def clo_X3_map (as : List mm_V) (z : mm_S) (kk : Option mm_V → mm_S → Option mm_R) : Option mm_R := mm_pr as fun t o0 as => bif Nat.beq t 3 then mm_pi as fun a1 as => (match as with | [] => (sX3_map a1 z).bind fun q => kk (some (mm_I q.1)) q.2 | _ => none) else none
theorem cs_X3_map : mm_cs lyTX 46 48 17 f_X3_map clo_X3_map := by
  intro as z K o hk h
  obtain ⟨t0, o0, r0, rfl, g0⟩ := mm_pr_e h
  obtain ⟨b0, k0⟩ := mm_bif_e g0
  obtain rfl := Nat.eq_of_beq_eq_true b0
  obtain ⟨a1, r1, rfl, g1⟩ := mm_pi_e k0
  rcases r1 with _ | ⟨u, w⟩
  rotate_left
  · cases g1
  obtain rfl : o0 = 0 := ok3 (hk (mm_P 3 o0) (by simp))
  obtain ⟨q, hq, hq2⟩ := Option.bind_eq_some_iff.mp g1
  exact ⟨_, _, sp_X3_map a1 z hk q hq, fun v hv => by cases hv; exact Or.inl ⟨_, rfl⟩, hq2⟩
theorem sV_X3_map {own : String} {R : Room} {ar : Nat → Nat} {k : Nat} (hlink : Cond.methodLink own k yX3_map ∈ lw_gd ∨ ∃ host, (own, k, yX3_map, host) ∈ nmA) (har : ar k = 2) (hr : 7 ≤ R.frames ∧ 170 ≤ R.locals) : mm_okV lyTX lyFA lenX snX 46 48 17 roX rsA nfA nmA ssX own R ar k clo_X3_map := by
  refine ⟨yX3_map, cX3_map, 2, some .int, rm_X3_map, f_X3_map, 3, 1, (RX3, TX3, 12), M_X3_map, cs_X3_map, hlink, ⟨wv_X3_map, wz_X3_map, wi_X3_map, wc_X3_map⟩, ⟨by decide +kernel, by decide +kernel, by decide +kernel⟩, har, ⟨rfl, rfl, by decide⟩, ?_, ⟨rfl, rfl, hr.1, hr.2⟩⟩
  intro as z K o h
  obtain ⟨t0, o0, r0, rfl, g0⟩ := mm_pr_e h
  obtain ⟨b0, k0⟩ := mm_bif_e g0
  obtain rfl := Nat.eq_of_beq_eq_true b0
  exact ⟨_, _, rfl⟩
-- X3_may
noncomputable def lV_X3_may : List (Nat × (List mm_V → mm_S → (Option mm_V → mm_S → Option mm_R) → Option mm_R)) := [(59, clo_X3_finding), (67, clo_X1_stuffAt), (224, clo_X3_beginMaps), (227, clo_X3_draftFitsAs)]
noncomputable def mV_X3_may (k : Nat) (as : List mm_V) (z : mm_S) (kk : Option mm_V → mm_S → Option mm_R) : Option mm_R := match mm_at lV_X3_may k with
  | some f => f as z kk
  | none => none
noncomputable def arV_X3_may (k : Nat) : Nat := (mm_at [(59, 2), (67, 2), (224, 1), (227, 2)] k).getD 0
noncomputable def lS_X3_may : List (Nat × (List mm_V → mm_S → (Option mm_V → mm_S → Option mm_R) → Option mm_R)) := [(118, clo_X3_lies), (165, clo_X3_at)]
noncomputable def mS_X3_may (k : Nat) (as : List mm_V) (z : mm_S) (kk : Option mm_V → mm_S → Option mm_R) : Option mm_R := match mm_at lS_X3_may k with
  | some f => f as z kk
  | none => none
noncomputable def arS_X3_may (k : Nat) : Nat := (mm_at [(118, 3), (165, 2)] k).getD 0
def ct_X3_may : List (Nat × List Nat) := [(14, [0, 1]), (23, [0, 1]), (37, [0, 2, 3]), (43, [0, 2, 3, 4]), (46, [0, 2, 3, 4, 5]), (59, [0, 2, 3, 4, 5]), (62, [0, 2, 3, 4, 5])]
noncomputable def go_X3_may : Nat → mm_K := mm_go (fun k => mm_at flX3 k) (fun k => mm_at clX3 k) (fun k => mm_at glX3 k) arV_X3_may arS_X3_may mV_X3_may mS_X3_may lenX roX snX 6 0 tbX3_may ct_X3_may
noncomputable def eX3_may_0 (n : Nat)  (x1 : Int32) (z : mm_S) : Option mm_R := go_X3_may n 0 [(0, mm_P 3 0), (1, mm_I x1)] [] z
noncomputable def eX3_may_14 (n : Nat)  (y1 : Int32) (w0 : Int32) (z : mm_S) : Option mm_R := go_X3_may n 14 [(0, mm_P 3 0), (1, mm_I y1)] [mm_I w0] z
noncomputable def eX3_may_23 (n : Nat)  (y1 : Int32) (z : mm_S) : Option mm_R := go_X3_may n 23 [(0, mm_P 3 0), (1, mm_I y1)] [] z
noncomputable def eX3_may_37 (n : Nat)  (y2 : Int32) (y3 : Int32) (z : mm_S) : Option mm_R := go_X3_may n 37 [(0, mm_P 3 0), (2, mm_I y2), (3, mm_I y3)] [] z
noncomputable def eX3_may_43 (n : Nat)  (y2 : Int32) (y3 : Int32) (y4 : Int32) (z : mm_S) : Option mm_R := go_X3_may n 43 [(0, mm_P 3 0), (2, mm_I y2), (3, mm_I y3), (4, mm_I y4)] [] z
noncomputable def eX3_may_46 (n : Nat)  (y2 : Int32) (y3 : Int32) (y4 : Int32) (y5 : Int32) (z : mm_S) : Option mm_R := go_X3_may n 46 [(0, mm_P 3 0), (2, mm_I y2), (3, mm_I y3), (4, mm_I y4), (5, mm_I y5)] [] z
noncomputable def eX3_may_59 (n : Nat)  (y2 : Int32) (y3 : Int32) (y4 : Int32) (y5 : Int32) (w0 : Int32) (z : mm_S) : Option mm_R := go_X3_may n 59 [(0, mm_P 3 0), (2, mm_I y2), (3, mm_I y3), (4, mm_I y4), (5, mm_I y5)] [mm_I w0] z
noncomputable def eX3_may_62 (n : Nat)  (y2 : Int32) (y3 : Int32) (y4 : Int32) (y5 : Int32) (z : mm_S) : Option mm_R := go_X3_may n 62 [(0, mm_P 3 0), (2, mm_I y2), (3, mm_I y3), (4, mm_I y4), (5, mm_I y5)] [] z
set_option maxRecDepth 100000 in
theorem qX3_may_0 (n : Nat)  (x1 : Int32) (z : mm_S) : eX3_may_0 (n + 1) x1 z = (eX3_may_14 n x1 (pX3_lies x1 0 ((z.1 1 6) - 1)) z) := rfl
set_option maxRecDepth 100000 in
theorem qX3_may_14 (n : Nat)  (y1 : Int32) (w0 : Int32) (z : mm_S) : eX3_may_14 (n + 1) y1 w0 z = (if w0 = 0 then (sX3_finding 0 z).bind fun q1 => some (some (mm_I q1.1), q1.2) else eX3_may_23 n y1 z) := rfl
set_option maxRecDepth 100000 in
theorem qX3_may_23 (n : Nat)  (y1 : Int32) (z : mm_S) : eX3_may_23 (n + 1) y1 z = (eX3_may_37 n 0 (pX3_at 8 y1 z) z) := rfl
set_option maxRecDepth 100000 in
theorem qX3_may_37 (n : Nat)  (y2 : Int32) (y3 : Int32) (z : mm_S) : eX3_may_37 (n + 1) y2 y3 z = ((sX3_beginMaps  z).bind fun q2 => eX3_may_43 n y2 y3 q2.1 q2.2) := rfl
set_option maxRecDepth 100000 in
theorem qX3_may_43 (n : Nat)  (y2 : Int32) (y3 : Int32) (y4 : Int32) (z : mm_S) : eX3_may_43 (n + 1) y2 y3 y4 z = (eX3_may_46 n y2 y3 y4 0 z) := rfl
set_option maxRecDepth 100000 in
theorem qX3_may_46 (n : Nat)  (y2 : Int32) (y3 : Int32) (y4 : Int32) (y5 : Int32) (z : mm_S) : eX3_may_46 (n + 1) y2 y3 y4 y5 z = (if y4 ≤ y5 then some (some (mm_I y2), z) else (sX3_draftFitsAs y5 z).bind fun q3 => eX3_may_59 n y2 y3 y4 y5 q3.1 q3.2) := rfl
set_option maxRecDepth 100000 in
theorem qX3_may_59 (n : Nat)  (y2 : Int32) (y3 : Int32) (y4 : Int32) (y5 : Int32) (w0 : Int32) (z : mm_S) : eX3_may_59 (n + 1) y2 y3 y4 y5 w0 z = (if w0 = 0 then eX3_may_46 n y2 y3 y4 (y5 + 1) z else eX3_may_62 n y2 y3 y4 y5 z) := rfl
set_option maxRecDepth 100000 in
theorem qX3_may_62 (n : Nat)  (y2 : Int32) (y3 : Int32) (y4 : Int32) (y5 : Int32) (z : mm_S) : eX3_may_62 (n + 1) y2 y3 y4 y5 z = (let v4 : Int32 := (y2 ||| (1 <<< ((pX1_stuffAt 26 y3 z) &&& 31))); eX3_may_46 n v4 y3 y4 (y5 + 1) z) := rfl
def rm_X3_may : Room := { frames := 5, cells := 0, slots := 0, locals := 124 }
noncomputable def f_X3_may (as : List mm_V) (z : mm_S) (o : mm_R) : Prop := (as.map mm_cat).sum ≤ 6 ∧ ∃ n, go_X3_may n 0 (mm_ar 0 as) [] z = some o
theorem M_X3_may : mm_M lyTX lyFA lenX snX 46 48 17 roX rsA nfA nmA ssX yX3_may cX3_may 6 (some .int) rm_X3_may f_X3_may :=
  mm_met (rt := 0) (by decide +kernel) ⟨fun h => rfl, fun h => absurd h (by decide), fun h => absurd h (by decide), fun h => absurd h (by decide)⟩ tbX3_may_ok hsnX okFX3 okLX3 okGX3 (fun _ _ _ _ => rfl) (fun _ _ _ _ => rfl) (List.forall_mem_cons.mpr ⟨sV_X3_finding (Or.inl lk_X3_59) rfl ⟨by decide, by decide⟩, List.forall_mem_cons.mpr ⟨sV_X1_stuffAt (Or.inl lk_X3_67) rfl ⟨by decide, by decide⟩, List.forall_mem_cons.mpr ⟨sV_X3_beginMaps (Or.inl lk_X3_224) rfl ⟨by decide, by decide⟩, List.forall_mem_cons.mpr ⟨sV_X3_draftFitsAs (Or.inl lk_X3_227) rfl ⟨by decide, by decide⟩, fun _ h => absurd h List.not_mem_nil⟩⟩⟩⟩) (List.forall_mem_cons.mpr ⟨sS_X3_lies (Or.inl lk_X3_118) rfl ⟨by decide, by decide⟩, List.forall_mem_cons.mpr ⟨sS_X3_at (Or.inl lk_X3_165) rfl ⟨by decide, by decide⟩, fun _ h => absurd h List.not_mem_nil⟩⟩)
noncomputable def sX3_may_62 (y2 : Int32) (y3 : Int32) (y4 : Int32) (y5 : Int32) (z : mm_S) : Option ((Int32 × Int32 × Int32 × Int32 × mm_S) ⊕ (Int32 × mm_S)) := let v4 : Int32 := (y2 ||| (1 <<< ((pX1_stuffAt 26 y3 z) &&& 31))); some (.inl (v4, y3, y4, (y5 + 1), z))
theorem kX3_may_62 (y2 : Int32) (y3 : Int32) (y4 : Int32) (y5 : Int32) (z : mm_S) (oo : mm_R) : mm_Xs (sX3_may_62 y2 y3 y4 y5 z) (mm_mt (fun x : Int32 × Int32 × Int32 × Int32 × mm_S => ∃ n, eX3_may_46 n x.1 x.2.1 x.2.2.1 x.2.2.2.1 x.2.2.2.2 = some oo) (fun v => (fun v : Int32 × mm_S => ((some (mm_I v.1), v.2) : mm_R)) v = oo)) (fun n => eX3_may_62 n y2 y3 y4 y5 z) oo :=
  xs_row (fun n => qX3_may_62 n y2 y3 y4 y5 z) (xs_let ((y2 ||| (1 <<< ((pX1_stuffAt 26 y3 z) &&& 31)))) (S := fun (v4 : Int32) => (some (.inl (v4, y3, y4, (y5 + 1), z)) : Option ((Int32 × Int32 × Int32 × Int32 × mm_S) ⊕ (Int32 × mm_S)))) (T := fun (v4 : Int32) n => eX3_may_46 n v4 y3 y4 (y5 + 1) z) (fun v4 => (xs_v fun hc => hc)))
noncomputable def sX3_may_59 (y2 : Int32) (y3 : Int32) (y4 : Int32) (y5 : Int32) (w0 : Int32) (z : mm_S) : Option ((Int32 × Int32 × Int32 × Int32 × mm_S) ⊕ (Int32 × mm_S)) := if w0 = 0 then some (.inl (y2, y3, y4, (y5 + 1), z)) else (sX3_may_62 y2 y3 y4 y5 z)
theorem kX3_may_59 (y2 : Int32) (y3 : Int32) (y4 : Int32) (y5 : Int32) (w0 : Int32) (z : mm_S) (oo : mm_R) : mm_Xs (sX3_may_59 y2 y3 y4 y5 w0 z) (mm_mt (fun x : Int32 × Int32 × Int32 × Int32 × mm_S => ∃ n, eX3_may_46 n x.1 x.2.1 x.2.2.1 x.2.2.2.1 x.2.2.2.2 = some oo) (fun v => (fun v : Int32 × mm_S => ((some (mm_I v.1), v.2) : mm_R)) v = oo)) (fun n => eX3_may_59 n y2 y3 y4 y5 w0 z) oo :=
  xs_row (fun n => qX3_may_59 n y2 y3 y4 y5 w0 z) (xs_if (xs_v fun hc => hc) (kX3_may_62 y2 y3 y4 y5 z oo))
noncomputable def lX3_may_46 (s : Int32 × Int32 × Int32 × Int32 × mm_S) : Option ((Int32 × Int32 × Int32 × Int32 × mm_S) ⊕ (Int32 × mm_S)) := if s.2.2.1 ≤ s.2.2.2.1 then some (.inr (s.1, s.2.2.2.2)) else (sX3_draftFitsAs s.2.2.2.1 s.2.2.2.2).bind fun q3 => (sX3_may_59 s.1 s.2.1 s.2.2.1 s.2.2.2.1 q3.1 q3.2)
noncomputable def sX3_may_46 (y2 : Int32) (y3 : Int32) (y4 : Int32) (y5 : Int32) (z : mm_S) : Option (Int32 × mm_S) := mm_wh (lX3_may_46 ) mm_fu (y2, y3, y4, y5, z)
theorem kX3_may_46 (y2 : Int32) (y3 : Int32) (y4 : Int32) (y5 : Int32) (z : mm_S) (oo : mm_R) : mm_Xs (sX3_may_46 y2 y3 y4 y5 z) (fun v => (fun v : Int32 × mm_S => ((some (mm_I v.1), v.2) : mm_R)) v = oo) (fun n => eX3_may_46 n y2 y3 y4 y5 z) oo :=
  xs_wh (stp := lX3_may_46 ) (o := oo) (E := (fun (s : Int32 × Int32 × Int32 × Int32 × mm_S) n => eX3_may_46 n s.1 s.2.1 s.2.2.1 s.2.2.2.1 s.2.2.2.2)) (C := (fun v => (fun v : Int32 × mm_S => ((some (mm_I v.1), v.2) : mm_R)) v = oo)) (fun s => xs_row (fun n => qX3_may_46 n s.1 s.2.1 s.2.2.1 s.2.2.2.1 s.2.2.2.2) (xs_if (xs_v fun hc => ⟨0, congrArg some hc⟩) (xs_bd fun q3 => (kX3_may_59 s.1 s.2.1 s.2.2.1 s.2.2.2.1 q3.1 q3.2 oo)))) mm_fu (y2, y3, y4, y5, z)
noncomputable def sX3_may_43 (y2 : Int32) (y3 : Int32) (y4 : Int32) (z : mm_S) : Option (Int32 × mm_S) := (sX3_may_46 y2 y3 y4 0 z)
theorem kX3_may_43 (y2 : Int32) (y3 : Int32) (y4 : Int32) (z : mm_S) (oo : mm_R) : mm_Xs (sX3_may_43 y2 y3 y4 z) (fun v => (fun v : Int32 × mm_S => ((some (mm_I v.1), v.2) : mm_R)) v = oo) (fun n => eX3_may_43 n y2 y3 y4 z) oo :=
  xs_row (fun n => qX3_may_43 n y2 y3 y4 z) (kX3_may_46 y2 y3 y4 0 z oo)
noncomputable def sX3_may_37 (y2 : Int32) (y3 : Int32) (z : mm_S) : Option (Int32 × mm_S) := (sX3_beginMaps  z).bind fun q2 => (sX3_may_43 y2 y3 q2.1 q2.2)
theorem kX3_may_37 (y2 : Int32) (y3 : Int32) (z : mm_S) (oo : mm_R) : mm_Xs (sX3_may_37 y2 y3 z) (fun v => (fun v : Int32 × mm_S => ((some (mm_I v.1), v.2) : mm_R)) v = oo) (fun n => eX3_may_37 n y2 y3 z) oo :=
  xs_row (fun n => qX3_may_37 n y2 y3 z) (xs_bd fun q2 => (kX3_may_43 y2 y3 q2.1 q2.2 oo))
noncomputable def sX3_may_23 (y1 : Int32) (z : mm_S) : Option (Int32 × mm_S) := (sX3_may_37 0 (pX3_at 8 y1 z) z)
theorem kX3_may_23 (y1 : Int32) (z : mm_S) (oo : mm_R) : mm_Xs (sX3_may_23 y1 z) (fun v => (fun v : Int32 × mm_S => ((some (mm_I v.1), v.2) : mm_R)) v = oo) (fun n => eX3_may_23 n y1 z) oo :=
  xs_row (fun n => qX3_may_23 n y1 z) (kX3_may_37 0 (pX3_at 8 y1 z) z oo)
noncomputable def sX3_may_14 (y1 : Int32) (w0 : Int32) (z : mm_S) : Option (Int32 × mm_S) := if w0 = 0 then (sX3_finding 0 z).bind fun q1 => some (q1.1, q1.2) else (sX3_may_23 y1 z)
theorem kX3_may_14 (y1 : Int32) (w0 : Int32) (z : mm_S) (oo : mm_R) : mm_Xs (sX3_may_14 y1 w0 z) (fun v => (fun v : Int32 × mm_S => ((some (mm_I v.1), v.2) : mm_R)) v = oo) (fun n => eX3_may_14 n y1 w0 z) oo :=
  xs_row (fun n => qX3_may_14 n y1 w0 z) (xs_if (xs_bd fun q1 => (xs_v fun hc => ⟨0, congrArg some hc⟩)) (kX3_may_23 y1 z oo))
noncomputable def sX3_may_0 (x1 : Int32) (z : mm_S) : Option (Int32 × mm_S) := (sX3_may_14 x1 (pX3_lies x1 0 ((z.1 1 6) - 1)) z)
theorem kX3_may_0 (x1 : Int32) (z : mm_S) (oo : mm_R) : mm_Xs (sX3_may_0 x1 z) (fun v => (fun v : Int32 × mm_S => ((some (mm_I v.1), v.2) : mm_R)) v = oo) (fun n => eX3_may_0 n x1 z) oo :=
  xs_row (fun n => qX3_may_0 n x1 z) (kX3_may_14 x1 (pX3_lies x1 0 ((z.1 1 6) - 1)) z oo)
noncomputable def sX3_may (x1 : Int32) (z : mm_S) : Option (Int32 × mm_S) := sX3_may_0 x1 z
theorem sp_X3_may (x1 : Int32) (z : mm_S) (hk : ∀ v ∈ [mm_P 3 0, mm_I x1], mm_ok 46 lyTX 48 17 v) (q : Int32 × mm_S) (hq : sX3_may x1 z = some q) : f_X3_may [mm_P 3 0, mm_I x1] z (some (mm_I q.1), q.2) := ⟨Nat.le_of_ble_eq_true rfl, kX3_may_0 x1 z _ q hq rfl⟩
noncomputable def clo_X3_may (as : List mm_V) (z : mm_S) (kk : Option mm_V → mm_S → Option mm_R) : Option mm_R := mm_pr as fun t o0 as => bif Nat.beq t 3 then mm_pi as fun a1 as => (match as with | [] => (sX3_may a1 z).bind fun q => kk (some (mm_I q.1)) q.2 | _ => none) else none
theorem cs_X3_may : mm_cs lyTX 46 48 17 f_X3_may clo_X3_may := by
  intro as z K o hk h
  obtain ⟨t0, o0, r0, rfl, g0⟩ := mm_pr_e h
  obtain ⟨b0, k0⟩ := mm_bif_e g0
  obtain rfl := Nat.eq_of_beq_eq_true b0
  obtain ⟨a1, r1, rfl, g1⟩ := mm_pi_e k0
  rcases r1 with _ | ⟨u, w⟩
  rotate_left
  · cases g1
  obtain rfl : o0 = 0 := ok3 (hk (mm_P 3 o0) (by simp))
  obtain ⟨q, hq, hq2⟩ := Option.bind_eq_some_iff.mp g1
  exact ⟨_, _, sp_X3_may a1 z hk q hq, fun v hv => by cases hv; exact Or.inl ⟨_, rfl⟩, hq2⟩
theorem sV_X3_may {own : String} {R : Room} {ar : Nat → Nat} {k : Nat} (hlink : Cond.methodLink own k yX3_may ∈ lw_gd ∨ ∃ host, (own, k, yX3_may, host) ∈ nmA) (har : ar k = 2) (hr : 6 ≤ R.frames ∧ 149 ≤ R.locals) : mm_okV lyTX lyFA lenX snX 46 48 17 roX rsA nfA nmA ssX own R ar k clo_X3_may := by
  refine ⟨yX3_may, cX3_may, 6, some .int, rm_X3_may, f_X3_may, 3, 1, (RX3, TX3, 12), M_X3_may, cs_X3_may, hlink, ⟨wv_X3_may, wz_X3_may, wi_X3_may, wc_X3_may⟩, ⟨by decide +kernel, by decide +kernel, by decide +kernel⟩, har, ⟨rfl, rfl, by decide⟩, ?_, ⟨rfl, rfl, hr.1, hr.2⟩⟩
  intro as z K o h
  obtain ⟨t0, o0, r0, rfl, g0⟩ := mm_pr_e h
  obtain ⟨b0, k0⟩ := mm_bif_e g0
  obtain rfl := Nat.eq_of_beq_eq_true b0
  exact ⟨_, _, rfl⟩
-- X3_lays
noncomputable def lV_X3_lays : List (Nat × (List mm_V → mm_S → (Option mm_V → mm_S → Option mm_R) → Option mm_R)) := [(59, clo_X3_finding), (242, clo_X0_mapCount), (245, clo_X0_mapNow), (248, clo_X0_layMap)]
noncomputable def mV_X3_lays (k : Nat) (as : List mm_V) (z : mm_S) (kk : Option mm_V → mm_S → Option mm_R) : Option mm_R := match mm_at lV_X3_lays k with
  | some f => f as z kk
  | none => none
noncomputable def arV_X3_lays (k : Nat) : Nat := (mm_at [(59, 2), (242, 1), (245, 1), (248, 2)] k).getD 0
noncomputable def lS_X3_lays : List (Nat × (List mm_V → mm_S → (Option mm_V → mm_S → Option mm_R) → Option mm_R)) := [(118, clo_X3_lies)]
noncomputable def mS_X3_lays (k : Nat) (as : List mm_V) (z : mm_S) (kk : Option mm_V → mm_S → Option mm_R) : Option mm_R := match mm_at lS_X3_lays k with
  | some f => f as z kk
  | none => none
noncomputable def arS_X3_lays (k : Nat) : Nat := (mm_at [(118, 3)] k).getD 0
def ct_X3_lays : List (Nat × List Nat) := [(14, [0, 1]), (23, [0, 1]), (39, [0, 1]), (47, [0, 1, 2]), (55, [2])]
noncomputable def go_X3_lays : Nat → mm_K := mm_go (fun k => mm_at flX3 k) (fun k => mm_at clX3 k) (fun k => mm_at glX3 k) arV_X3_lays arS_X3_lays mV_X3_lays mS_X3_lays lenX roX snX 3 0 tbX3_lays ct_X3_lays
noncomputable def eX3_lays_0 (n : Nat)  (x1 : Int32) (z : mm_S) : Option mm_R := go_X3_lays n 0 [(0, mm_P 3 0), (1, mm_I x1)] [] z
noncomputable def eX3_lays_14 (n : Nat)  (y1 : Int32) (w0 : Int32) (z : mm_S) : Option mm_R := go_X3_lays n 14 [(0, mm_P 3 0), (1, mm_I y1)] [mm_I w0] z
noncomputable def eX3_lays_23 (n : Nat)  (y1 : Int32) (z : mm_S) : Option mm_R := go_X3_lays n 23 [(0, mm_P 3 0), (1, mm_I y1)] [] z
noncomputable def eX3_lays_39 (n : Nat)  (y1 : Int32) (z : mm_S) : Option mm_R := go_X3_lays n 39 [(0, mm_P 3 0), (1, mm_I y1)] [] z
noncomputable def eX3_lays_47 (n : Nat)  (y1 : Int32) (y2 : Int32) (z : mm_S) : Option mm_R := go_X3_lays n 47 [(0, mm_P 3 0), (1, mm_I y1), (2, mm_I y2)] [] z
noncomputable def eX3_lays_55 (n : Nat) (y2 : Int32) (z : mm_S) : Option mm_R := go_X3_lays n 55 [(2, mm_I y2)] [] z
set_option maxRecDepth 100000 in
theorem qX3_lays_0 (n : Nat)  (x1 : Int32) (z : mm_S) : eX3_lays_0 (n + 1) x1 z = (eX3_lays_14 n x1 (pX3_lies x1 0 ((pX0_mapCount 1 z) - 1)) z) := rfl
set_option maxRecDepth 100000 in
theorem qX3_lays_14 (n : Nat)  (y1 : Int32) (w0 : Int32) (z : mm_S) : eX3_lays_14 (n + 1) y1 w0 z = (if w0 = 0 then (sX3_finding 0 z).bind fun q1 => some (some (mm_I q1.1), q1.2) else eX3_lays_23 n y1 z) := rfl
set_option maxRecDepth 100000 in
theorem qX3_lays_23 (n : Nat)  (y1 : Int32) (z : mm_S) : eX3_lays_23 (n + 1) y1 z = (if (z.1 1 6) = 0 then (sX3_finding 4 z).bind fun q2 => some (some (mm_I q2.1), q2.2) else eX3_lays_39 n y1 z) := rfl
set_option maxRecDepth 100000 in
theorem qX3_lays_39 (n : Nat)  (y1 : Int32) (z : mm_S) : eX3_lays_39 (n + 1) y1 z = ((sX0_mapNow 1 z).bind fun q3 => eX3_lays_47 n y1 q3.1 q3.2) := rfl
set_option maxRecDepth 100000 in
theorem qX3_lays_47 (n : Nat)  (y1 : Int32) (y2 : Int32) (z : mm_S) : eX3_lays_47 (n + 1) y1 y2 z = ((sX0_layMap 1 y1 z).bind fun q4 => eX3_lays_55 n y2 q4) := rfl
set_option maxRecDepth 100000 in
theorem qX3_lays_55 (n : Nat) (y2 : Int32) (z : mm_S) : eX3_lays_55 (n + 1) y2 z = (some (some (mm_I y2), z)) := rfl
def rm_X3_lays : Room := { frames := 4, cells := 0, slots := 0, locals := 88 }
noncomputable def f_X3_lays (as : List mm_V) (z : mm_S) (o : mm_R) : Prop := (as.map mm_cat).sum ≤ 3 ∧ ∃ n, go_X3_lays n 0 (mm_ar 0 as) [] z = some o
theorem M_X3_lays : mm_M lyTX lyFA lenX snX 46 48 17 roX rsA nfA nmA ssX yX3_lays cX3_lays 3 (some .int) rm_X3_lays f_X3_lays :=
  mm_met (rt := 0) (by decide +kernel) ⟨fun h => rfl, fun h => absurd h (by decide), fun h => absurd h (by decide), fun h => absurd h (by decide)⟩ tbX3_lays_ok hsnX okFX3 okLX3 okGX3 (fun _ _ _ _ => rfl) (fun _ _ _ _ => rfl) (List.forall_mem_cons.mpr ⟨sV_X3_finding (Or.inl lk_X3_59) rfl ⟨by decide, by decide⟩, List.forall_mem_cons.mpr ⟨sV_X0_mapCount (Or.inl lk_X3_242) rfl ⟨by decide, by decide⟩, List.forall_mem_cons.mpr ⟨sV_X0_mapNow (Or.inl lk_X3_245) rfl ⟨by decide, by decide⟩, List.forall_mem_cons.mpr ⟨sV_X0_layMap (Or.inl lk_X3_248) rfl ⟨by decide, by decide⟩, fun _ h => absurd h List.not_mem_nil⟩⟩⟩⟩) (List.forall_mem_cons.mpr ⟨sS_X3_lies (Or.inl lk_X3_118) rfl ⟨by decide, by decide⟩, fun _ h => absurd h List.not_mem_nil⟩)
noncomputable def sX3_lays_55 (y2 : Int32) (z : mm_S) : Option (Int32 × mm_S) := some (y2, z)
theorem kX3_lays_55 (y2 : Int32) (z : mm_S) (oo : mm_R) : mm_Xs (sX3_lays_55 y2 z) (fun v => (fun v : Int32 × mm_S => ((some (mm_I v.1), v.2) : mm_R)) v = oo) (fun n => eX3_lays_55 n y2 z) oo :=
  xs_row (fun n => qX3_lays_55 n y2 z) (xs_v fun hc => ⟨0, congrArg some hc⟩)
noncomputable def sX3_lays_47 (y1 : Int32) (y2 : Int32) (z : mm_S) : Option (Int32 × mm_S) := (sX0_layMap 1 y1 z).bind fun q4 => (sX3_lays_55 y2 q4)
theorem kX3_lays_47 (y1 : Int32) (y2 : Int32) (z : mm_S) (oo : mm_R) : mm_Xs (sX3_lays_47 y1 y2 z) (fun v => (fun v : Int32 × mm_S => ((some (mm_I v.1), v.2) : mm_R)) v = oo) (fun n => eX3_lays_47 n y1 y2 z) oo :=
  xs_row (fun n => qX3_lays_47 n y1 y2 z) (xs_bd fun q4 => (kX3_lays_55 y2 q4 oo))
noncomputable def sX3_lays_39 (y1 : Int32) (z : mm_S) : Option (Int32 × mm_S) := (sX0_mapNow 1 z).bind fun q3 => (sX3_lays_47 y1 q3.1 q3.2)
theorem kX3_lays_39 (y1 : Int32) (z : mm_S) (oo : mm_R) : mm_Xs (sX3_lays_39 y1 z) (fun v => (fun v : Int32 × mm_S => ((some (mm_I v.1), v.2) : mm_R)) v = oo) (fun n => eX3_lays_39 n y1 z) oo :=
  xs_row (fun n => qX3_lays_39 n y1 z) (xs_bd fun q3 => (kX3_lays_47 y1 q3.1 q3.2 oo))
noncomputable def sX3_lays_23 (y1 : Int32) (z : mm_S) : Option (Int32 × mm_S) := if (z.1 1 6) = 0 then (sX3_finding 4 z).bind fun q2 => some (q2.1, q2.2) else (sX3_lays_39 y1 z)
theorem kX3_lays_23 (y1 : Int32) (z : mm_S) (oo : mm_R) : mm_Xs (sX3_lays_23 y1 z) (fun v => (fun v : Int32 × mm_S => ((some (mm_I v.1), v.2) : mm_R)) v = oo) (fun n => eX3_lays_23 n y1 z) oo :=
  xs_row (fun n => qX3_lays_23 n y1 z) (xs_if (xs_bd fun q2 => (xs_v fun hc => ⟨0, congrArg some hc⟩)) (kX3_lays_39 y1 z oo))
noncomputable def sX3_lays_14 (y1 : Int32) (w0 : Int32) (z : mm_S) : Option (Int32 × mm_S) := if w0 = 0 then (sX3_finding 0 z).bind fun q1 => some (q1.1, q1.2) else (sX3_lays_23 y1 z)
theorem kX3_lays_14 (y1 : Int32) (w0 : Int32) (z : mm_S) (oo : mm_R) : mm_Xs (sX3_lays_14 y1 w0 z) (fun v => (fun v : Int32 × mm_S => ((some (mm_I v.1), v.2) : mm_R)) v = oo) (fun n => eX3_lays_14 n y1 w0 z) oo :=
  xs_row (fun n => qX3_lays_14 n y1 w0 z) (xs_if (xs_bd fun q1 => (xs_v fun hc => ⟨0, congrArg some hc⟩)) (kX3_lays_23 y1 z oo))
noncomputable def sX3_lays_0 (x1 : Int32) (z : mm_S) : Option (Int32 × mm_S) := (sX3_lays_14 x1 (pX3_lies x1 0 ((pX0_mapCount 1 z) - 1)) z)
theorem kX3_lays_0 (x1 : Int32) (z : mm_S) (oo : mm_R) : mm_Xs (sX3_lays_0 x1 z) (fun v => (fun v : Int32 × mm_S => ((some (mm_I v.1), v.2) : mm_R)) v = oo) (fun n => eX3_lays_0 n x1 z) oo :=
  xs_row (fun n => qX3_lays_0 n x1 z) (kX3_lays_14 x1 (pX3_lies x1 0 ((pX0_mapCount 1 z) - 1)) z oo)
noncomputable def sX3_lays (x1 : Int32) (z : mm_S) : Option (Int32 × mm_S) := sX3_lays_0 x1 z
theorem sp_X3_lays (x1 : Int32) (z : mm_S) (hk : ∀ v ∈ [mm_P 3 0, mm_I x1], mm_ok 46 lyTX 48 17 v) (q : Int32 × mm_S) (hq : sX3_lays x1 z = some q) : f_X3_lays [mm_P 3 0, mm_I x1] z (some (mm_I q.1), q.2) := ⟨Nat.le_of_ble_eq_true rfl, kX3_lays_0 x1 z _ q hq rfl⟩
noncomputable def clo_X3_lays (as : List mm_V) (z : mm_S) (kk : Option mm_V → mm_S → Option mm_R) : Option mm_R := mm_pr as fun t o0 as => bif Nat.beq t 3 then mm_pi as fun a1 as => (match as with | [] => (sX3_lays a1 z).bind fun q => kk (some (mm_I q.1)) q.2 | _ => none) else none
theorem cs_X3_lays : mm_cs lyTX 46 48 17 f_X3_lays clo_X3_lays := by
  intro as z K o hk h
  obtain ⟨t0, o0, r0, rfl, g0⟩ := mm_pr_e h
  obtain ⟨b0, k0⟩ := mm_bif_e g0
  obtain rfl := Nat.eq_of_beq_eq_true b0
  obtain ⟨a1, r1, rfl, g1⟩ := mm_pi_e k0
  rcases r1 with _ | ⟨u, w⟩
  rotate_left
  · cases g1
  obtain rfl : o0 = 0 := ok3 (hk (mm_P 3 o0) (by simp))
  obtain ⟨q, hq, hq2⟩ := Option.bind_eq_some_iff.mp g1
  exact ⟨_, _, sp_X3_lays a1 z hk q hq, fun v hv => by cases hv; exact Or.inl ⟨_, rfl⟩, hq2⟩
theorem sV_X3_lays {own : String} {R : Room} {ar : Nat → Nat} {k : Nat} (hlink : Cond.methodLink own k yX3_lays ∈ lw_gd ∨ ∃ host, (own, k, yX3_lays, host) ∈ nmA) (har : ar k = 2) (hr : 5 ≤ R.frames ∧ 110 ≤ R.locals) : mm_okV lyTX lyFA lenX snX 46 48 17 roX rsA nfA nmA ssX own R ar k clo_X3_lays := by
  refine ⟨yX3_lays, cX3_lays, 3, some .int, rm_X3_lays, f_X3_lays, 3, 1, (RX3, TX3, 12), M_X3_lays, cs_X3_lays, hlink, ⟨wv_X3_lays, wz_X3_lays, wi_X3_lays, wc_X3_lays⟩, ⟨by decide +kernel, by decide +kernel, by decide +kernel⟩, har, ⟨rfl, rfl, by decide⟩, ?_, ⟨rfl, rfl, hr.1, hr.2⟩⟩
  intro as z K o h
  obtain ⟨t0, o0, r0, rfl, g0⟩ := mm_pr_e h
  obtain ⟨b0, k0⟩ := mm_bif_e g0
  obtain rfl := Nat.eq_of_beq_eq_true b0
  exact ⟨_, _, rfl⟩
