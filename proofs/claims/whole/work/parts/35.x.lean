-- X3_markTimesOfCrews
noncomputable def lV_X3_markTimesOfCrews : List (Nat × (List mm_V → mm_S → (Option mm_V → mm_S → Option mm_R) → Option mm_R)) := [(93, clo_X0_placeOf)]
noncomputable def mV_X3_markTimesOfCrews (k : Nat) (as : List mm_V) (z : mm_S) (kk : Option mm_V → mm_S → Option mm_R) : Option mm_R := match mm_at lV_X3_markTimesOfCrews k with
  | some f => f as z kk
  | none => none
noncomputable def arV_X3_markTimesOfCrews (k : Nat) : Nat := (mm_at [(93, 2)] k).getD 0
noncomputable def lS_X3_markTimesOfCrews : List (Nat × (List mm_V → mm_S → (Option mm_V → mm_S → Option mm_R) → Option mm_R)) := [(165, clo_X3_at), (353, clo_X3_bitsAt), (357, clo_X3_putBits)]
noncomputable def mS_X3_markTimesOfCrews (k : Nat) (as : List mm_V) (z : mm_S) (kk : Option mm_V → mm_S → Option mm_R) : Option mm_R := match mm_at lS_X3_markTimesOfCrews k with
  | some f => f as z kk
  | none => none
noncomputable def arS_X3_markTimesOfCrews (k : Nat) : Nat := (mm_at [(165, 2), (353, 2), (357, 3)] k).getD 0
def ct_X3_markTimesOfCrews : List (Nat × List Nat) := [(2, [0, 1]), (63, [0, 1])]
noncomputable def go_X3_markTimesOfCrews : Nat → mm_K := mm_go (fun k => mm_at flX3 k) (fun k => mm_at clX3 k) (fun k => mm_at glX3 k) arV_X3_markTimesOfCrews arS_X3_markTimesOfCrews mV_X3_markTimesOfCrews mS_X3_markTimesOfCrews lenX roX snX 4 3 tbX3_markTimesOfCrews ct_X3_markTimesOfCrews
noncomputable def eX3_markTimesOfCrews_0 (n : Nat)  (z : mm_S) : Option mm_R := go_X3_markTimesOfCrews n 0 [(0, mm_P 3 0)] [] z
noncomputable def eX3_markTimesOfCrews_2 (n : Nat)  (y1 : Int32) (z : mm_S) : Option mm_R := go_X3_markTimesOfCrews n 2 [(0, mm_P 3 0), (1, mm_I y1)] [] z
noncomputable def eX3_markTimesOfCrews_63 (n : Nat)  (y1 : Int32) (z : mm_S) : Option mm_R := go_X3_markTimesOfCrews n 63 [(0, mm_P 3 0), (1, mm_I y1)] [] z
set_option maxRecDepth 100000 in
theorem qX3_markTimesOfCrews_0 (n : Nat)  (z : mm_S) : eX3_markTimesOfCrews_0 (n + 1)  z = (eX3_markTimesOfCrews_2 n 0 z) := rfl
set_option maxRecDepth 100000 in
theorem qX3_markTimesOfCrews_2 (n : Nat)  (y1 : Int32) (z : mm_S) : eX3_markTimesOfCrews_2 (n + 1) y1 z = (if (z.1 1 4) ≤ y1 then some (none, z) else let v1 : Int32 := ((y1 * 4) + (((pX3_at 43 (pX0_placeOf 1 y1 z) z) + 1) / 64)); let u2 := (tX3_putBits 45 v1 ((pX3_bitsAt 45 v1 z) ||| (1 <<< (Int32.toInt64 (((pX3_at 43 (pX0_placeOf 1 y1 z) z) + 1) - ((pX3_at 43 (pX0_placeOf 1 y1 z) z) + 1) / 64 * 64) &&& 63))) z); eX3_markTimesOfCrews_63 n y1 u2) := rfl
set_option maxRecDepth 100000 in
theorem qX3_markTimesOfCrews_63 (n : Nat)  (y1 : Int32) (z : mm_S) : eX3_markTimesOfCrews_63 (n + 1) y1 z = (eX3_markTimesOfCrews_2 n (y1 + 1) z) := rfl
def rm_X3_markTimesOfCrews : Room := { frames := 2, cells := 0, slots := 0, locals := 42 }
noncomputable def f_X3_markTimesOfCrews (as : List mm_V) (z : mm_S) (o : mm_R) : Prop := (as.map mm_cat).sum ≤ 4 ∧ ∃ n, go_X3_markTimesOfCrews n 0 (mm_ar 0 as) [] z = some o
theorem M_X3_markTimesOfCrews : mm_M lyTX lyFA lenX snX 46 48 17 roX rsA nfA nmA ssX yX3_markTimesOfCrews cX3_markTimesOfCrews 4 (none) rm_X3_markTimesOfCrews f_X3_markTimesOfCrews :=
  mm_met (rt := 3) (by decide +kernel) ⟨fun h => absurd h (by decide), fun h => absurd h (by decide), fun h => absurd h (by decide), fun h => rfl⟩ tbX3_markTimesOfCrews_ok hsnX okFX3 okLX3 okGX3 (fun _ _ _ _ => rfl) (fun _ _ _ _ => rfl) (List.forall_mem_cons.mpr ⟨sV_X0_placeOf (Or.inl lk_X3_93) rfl ⟨by decide, by decide⟩, fun _ h => absurd h List.not_mem_nil⟩) (List.forall_mem_cons.mpr ⟨sS_X3_at (Or.inl lk_X3_165) rfl ⟨by decide, by decide⟩, List.forall_mem_cons.mpr ⟨sS_X3_bitsAt (Or.inl lk_X3_353) rfl ⟨by decide, by decide⟩, List.forall_mem_cons.mpr ⟨sS_X3_putBits (Or.inl lk_X3_357) rfl ⟨by decide, by decide⟩, fun _ h => absurd h List.not_mem_nil⟩⟩⟩)
noncomputable def sX3_markTimesOfCrews_63 (y1 : Int32) (z : mm_S) : Option ((Int32 × mm_S) ⊕ (mm_S)) := some (.inl ((y1 + 1), z))
theorem kX3_markTimesOfCrews_63 (y1 : Int32) (z : mm_S) (oo : mm_R) : mm_Xs (sX3_markTimesOfCrews_63 y1 z) (mm_mt (fun x : Int32 × mm_S => ∃ n, eX3_markTimesOfCrews_2 n x.1 x.2 = some oo) (fun v => (fun v : mm_S => ((none, v) : mm_R)) v = oo)) (fun n => eX3_markTimesOfCrews_63 n y1 z) oo :=
  xs_row (fun n => qX3_markTimesOfCrews_63 n y1 z) (xs_v fun hc => hc)
noncomputable def lX3_markTimesOfCrews_2 (s : Int32 × mm_S) : Option ((Int32 × mm_S) ⊕ (mm_S)) := if (s.2.1 1 4) ≤ s.1 then some (.inr (s.2)) else let v1 : Int32 := ((s.1 * 4) + (((pX3_at 43 (pX0_placeOf 1 s.1 s.2) s.2) + 1) / 64)); let u2 := (tX3_putBits 45 v1 ((pX3_bitsAt 45 v1 s.2) ||| (1 <<< (Int32.toInt64 (((pX3_at 43 (pX0_placeOf 1 s.1 s.2) s.2) + 1) - ((pX3_at 43 (pX0_placeOf 1 s.1 s.2) s.2) + 1) / 64 * 64) &&& 63))) s.2); (sX3_markTimesOfCrews_63 s.1 u2)
noncomputable def sX3_markTimesOfCrews_2 (y1 : Int32) (z : mm_S) : Option (mm_S) := mm_wh (lX3_markTimesOfCrews_2 ) mm_fu (y1, z)
theorem kX3_markTimesOfCrews_2 (y1 : Int32) (z : mm_S) (oo : mm_R) : mm_Xs (sX3_markTimesOfCrews_2 y1 z) (fun v => (fun v : mm_S => ((none, v) : mm_R)) v = oo) (fun n => eX3_markTimesOfCrews_2 n y1 z) oo :=
  xs_wh (stp := lX3_markTimesOfCrews_2 ) (o := oo) (E := (fun (s : Int32 × mm_S) n => eX3_markTimesOfCrews_2 n s.1 s.2)) (C := (fun v => (fun v : mm_S => ((none, v) : mm_R)) v = oo)) (fun s => xs_row (fun n => qX3_markTimesOfCrews_2 n s.1 s.2) (xs_if (xs_v fun hc => ⟨0, congrArg some hc⟩) (xs_let (((s.1 * 4) + (((pX3_at 43 (pX0_placeOf 1 s.1 s.2) s.2) + 1) / 64))) (S := fun (v1 : Int32) => (let u2 := (tX3_putBits 45 v1 ((pX3_bitsAt 45 v1 s.2) ||| (1 <<< (Int32.toInt64 (((pX3_at 43 (pX0_placeOf 1 s.1 s.2) s.2) + 1) - ((pX3_at 43 (pX0_placeOf 1 s.1 s.2) s.2) + 1) / 64 * 64) &&& 63))) s.2); (sX3_markTimesOfCrews_63 s.1 u2) : Option ((Int32 × mm_S) ⊕ (mm_S)))) (T := fun (v1 : Int32) n => let u2 := (tX3_putBits 45 v1 ((pX3_bitsAt 45 v1 s.2) ||| (1 <<< (Int32.toInt64 (((pX3_at 43 (pX0_placeOf 1 s.1 s.2) s.2) + 1) - ((pX3_at 43 (pX0_placeOf 1 s.1 s.2) s.2) + 1) / 64 * 64) &&& 63))) s.2); eX3_markTimesOfCrews_63 n s.1 u2) (fun v1 => (xs_let ((tX3_putBits 45 v1 ((pX3_bitsAt 45 v1 s.2) ||| (1 <<< (Int32.toInt64 (((pX3_at 43 (pX0_placeOf 1 s.1 s.2) s.2) + 1) - ((pX3_at 43 (pX0_placeOf 1 s.1 s.2) s.2) + 1) / 64 * 64) &&& 63))) s.2)) (S := fun (u2 : _) => ((sX3_markTimesOfCrews_63 s.1 u2) : Option ((Int32 × mm_S) ⊕ (mm_S)))) (T := fun (u2 : _) n => eX3_markTimesOfCrews_63 n s.1 u2) (fun u2 => (kX3_markTimesOfCrews_63 s.1 u2 oo))))))) mm_fu (y1, z)
noncomputable def sX3_markTimesOfCrews_0  (z : mm_S) : Option (mm_S) := (sX3_markTimesOfCrews_2 0 z)
theorem kX3_markTimesOfCrews_0  (z : mm_S) (oo : mm_R) : mm_Xs (sX3_markTimesOfCrews_0  z) (fun v => (fun v : mm_S => ((none, v) : mm_R)) v = oo) (fun n => eX3_markTimesOfCrews_0 n  z) oo :=
  xs_row (fun n => qX3_markTimesOfCrews_0 n z) (kX3_markTimesOfCrews_2 0 z oo)
noncomputable def sX3_markTimesOfCrews  (z : mm_S) : Option (mm_S) := sX3_markTimesOfCrews_0  z
theorem sp_X3_markTimesOfCrews  (z : mm_S) (hk : ∀ v ∈ [mm_P 3 0], mm_ok 46 lyTX 48 17 v) (q : mm_S) (hq : sX3_markTimesOfCrews  z = some q) : f_X3_markTimesOfCrews [mm_P 3 0] z (none, q) := ⟨Nat.le_of_ble_eq_true rfl, kX3_markTimesOfCrews_0  z _ q hq rfl⟩
noncomputable def clo_X3_markTimesOfCrews (as : List mm_V) (z : mm_S) (kk : Option mm_V → mm_S → Option mm_R) : Option mm_R := mm_pr as fun t o0 as => bif Nat.beq t 3 then (match as with | [] => (sX3_markTimesOfCrews z).bind fun q => kk none q | _ => none) else none
theorem cs_X3_markTimesOfCrews : mm_cs lyTX 46 48 17 f_X3_markTimesOfCrews clo_X3_markTimesOfCrews := by
  intro as z K o hk h
  obtain ⟨t0, o0, r0, rfl, g0⟩ := mm_pr_e h
  obtain ⟨b0, k0⟩ := mm_bif_e g0
  obtain rfl := Nat.eq_of_beq_eq_true b0
  rcases r0 with _ | ⟨u, w⟩
  rotate_left
  · cases k0
  obtain rfl : o0 = 0 := ok3 (hk (mm_P 3 o0) (by simp))
  obtain ⟨q, hq, hq2⟩ := Option.bind_eq_some_iff.mp k0
  exact ⟨_, _, sp_X3_markTimesOfCrews  z hk q hq, (fun v hv => by cases hv), hq2⟩
theorem sV_X3_markTimesOfCrews {own : String} {R : Room} {ar : Nat → Nat} {k : Nat} (hlink : Cond.methodLink own k yX3_markTimesOfCrews ∈ lw_gd ∨ ∃ host, (own, k, yX3_markTimesOfCrews, host) ∈ nmA) (har : ar k = 1) (hr : 3 ≤ R.frames ∧ 65 ≤ R.locals) : mm_okV lyTX lyFA lenX snX 46 48 17 roX rsA nfA nmA ssX own R ar k clo_X3_markTimesOfCrews := by
  refine ⟨yX3_markTimesOfCrews, cX3_markTimesOfCrews, 4, none, rm_X3_markTimesOfCrews, f_X3_markTimesOfCrews, 3, 0, (RX3, TX3, 12), M_X3_markTimesOfCrews, cs_X3_markTimesOfCrews, hlink, ⟨wv_X3_markTimesOfCrews, wz_X3_markTimesOfCrews, wi_X3_markTimesOfCrews, wc_X3_markTimesOfCrews⟩, ⟨by decide +kernel, by decide +kernel, by decide +kernel⟩, har, ⟨rfl, rfl, by decide⟩, ?_, ⟨rfl, rfl, hr.1, hr.2⟩⟩
  intro as z K o h
  obtain ⟨t0, o0, r0, rfl, g0⟩ := mm_pr_e h
  obtain ⟨b0, k0⟩ := mm_bif_e g0
  obtain rfl := Nat.eq_of_beq_eq_true b0
  exact ⟨_, _, rfl⟩
-- X3_crewOfMostTimes
noncomputable def lV_X3_crewOfMostTimes : List (Nat × (List mm_V → mm_S → (Option mm_V → mm_S → Option mm_R) → Option mm_R)) := []
noncomputable def mV_X3_crewOfMostTimes (k : Nat) (as : List mm_V) (z : mm_S) (kk : Option mm_V → mm_S → Option mm_R) : Option mm_R := match mm_at lV_X3_crewOfMostTimes k with
  | some f => f as z kk
  | none => none
noncomputable def arV_X3_crewOfMostTimes (k : Nat) : Nat := (mm_at [] k).getD 0
noncomputable def lS_X3_crewOfMostTimes : List (Nat × (List mm_V → mm_S → (Option mm_V → mm_S → Option mm_R) → Option mm_R)) := [(208, clo_J13_bitCount_95d88), (353, clo_X3_bitsAt)]
noncomputable def mS_X3_crewOfMostTimes (k : Nat) (as : List mm_V) (z : mm_S) (kk : Option mm_V → mm_S → Option mm_R) : Option mm_R := match mm_at lS_X3_crewOfMostTimes k with
  | some f => f as z kk
  | none => none
noncomputable def arS_X3_crewOfMostTimes (k : Nat) : Nat := (mm_at [(208, 1), (353, 2)] k).getD 0
def ct_X3_crewOfMostTimes : List (Nat × List Nat) := [(6, [0, 1, 2, 3]), (25, [0, 1, 2, 3, 4, 5])]
noncomputable def go_X3_crewOfMostTimes : Nat → mm_K := mm_go (fun k => mm_at flX3 k) (fun k => mm_at clX3 k) (fun k => mm_at glX3 k) arV_X3_crewOfMostTimes arS_X3_crewOfMostTimes mV_X3_crewOfMostTimes mS_X3_crewOfMostTimes lenX roX snX 6 0 tbX3_crewOfMostTimes ct_X3_crewOfMostTimes
noncomputable def eX3_crewOfMostTimes_0 (n : Nat)  (z : mm_S) : Option mm_R := go_X3_crewOfMostTimes n 0 [(0, mm_P 3 0)] [] z
noncomputable def eX3_crewOfMostTimes_6 (n : Nat)  (y1 : Int32) (y2 : Int32) (y3 : Int32) (z : mm_S) : Option mm_R := go_X3_crewOfMostTimes n 6 [(0, mm_P 3 0), (1, mm_I y1), (2, mm_I y2), (3, mm_I y3)] [] z
noncomputable def eX3_crewOfMostTimes_25 (n : Nat)  (y1 : Int32) (y2 : Int32) (y3 : Int32) (y4 : Int32) (y5 : Int32) (z : mm_S) : Option mm_R := go_X3_crewOfMostTimes n 25 [(0, mm_P 3 0), (1, mm_I y1), (2, mm_I y2), (3, mm_I y3), (4, mm_I y4), (5, mm_I y5)] [] z
set_option maxRecDepth 100000 in
theorem qX3_crewOfMostTimes_0 (n : Nat)  (z : mm_S) : eX3_crewOfMostTimes_0 (n + 1)  z = (eX3_crewOfMostTimes_6 n (-1) 0 0 z) := rfl
set_option maxRecDepth 100000 in
theorem qX3_crewOfMostTimes_6 (n : Nat)  (y1 : Int32) (y2 : Int32) (y3 : Int32) (z : mm_S) : eX3_crewOfMostTimes_6 (n + 1) y1 y2 y3 z = (if (z.1 1 4) ≤ y3 then some (some (mm_I y1), z) else eX3_crewOfMostTimes_25 n y1 y2 y3 0 (y3 * 4) z) := rfl
set_option maxRecDepth 100000 in
theorem qX3_crewOfMostTimes_25 (n : Nat)  (y1 : Int32) (y2 : Int32) (y3 : Int32) (y4 : Int32) (y5 : Int32) (z : mm_S) : eX3_crewOfMostTimes_25 (n + 1) y1 y2 y3 y4 y5 z = (if ((y3 + 1) * 4) ≤ y5 then if y4 ≤ y2 then eX3_crewOfMostTimes_6 n y1 y2 (y3 + 1) z else eX3_crewOfMostTimes_6 n y3 y4 (y3 + 1) z else let v1 : Int32 := (y4 + (pJ13_bitCount_95d88 (pX3_bitsAt 45 y5 z))); eX3_crewOfMostTimes_25 n y1 y2 y3 v1 (y5 + 1) z) := rfl
def rm_X3_crewOfMostTimes : Room := { frames := 1, cells := 0, slots := 0, locals := 21 }
noncomputable def f_X3_crewOfMostTimes (as : List mm_V) (z : mm_S) (o : mm_R) : Prop := (as.map mm_cat).sum ≤ 6 ∧ ∃ n, go_X3_crewOfMostTimes n 0 (mm_ar 0 as) [] z = some o
theorem M_X3_crewOfMostTimes : mm_M lyTX lyFA lenX snX 46 48 17 roX rsA nfA nmA ssX yX3_crewOfMostTimes cX3_crewOfMostTimes 6 (some .int) rm_X3_crewOfMostTimes f_X3_crewOfMostTimes :=
  mm_met (rt := 0) (by decide +kernel) ⟨fun h => rfl, fun h => absurd h (by decide), fun h => absurd h (by decide), fun h => absurd h (by decide)⟩ tbX3_crewOfMostTimes_ok hsnX okFX3 okLX3 okGX3 (fun _ _ _ _ => rfl) (fun _ _ _ _ => rfl) (fun _ h => absurd h List.not_mem_nil) (List.forall_mem_cons.mpr ⟨sS_J13_bitCount_95d88 (Or.inl lk_X3_208) rfl ⟨by decide, by decide⟩, List.forall_mem_cons.mpr ⟨sS_X3_bitsAt (Or.inl lk_X3_353) rfl ⟨by decide, by decide⟩, fun _ h => absurd h List.not_mem_nil⟩⟩)
noncomputable def lX3_crewOfMostTimes_25 (s : Int32 × Int32 × Int32 × Int32 × Int32 × mm_S) : Option ((Int32 × Int32 × Int32 × Int32 × Int32 × mm_S) ⊕ ((Int32 × Int32 × Int32 × mm_S) ⊕ (Int32 × mm_S))) := if ((s.2.2.1 + 1) * 4) ≤ s.2.2.2.2.1 then if s.2.2.2.1 ≤ s.2.1 then some (.inr (.inl (s.1, s.2.1, (s.2.2.1 + 1), s.2.2.2.2.2))) else some (.inr (.inl (s.2.2.1, s.2.2.2.1, (s.2.2.1 + 1), s.2.2.2.2.2))) else let v1 : Int32 := (s.2.2.2.1 + (pJ13_bitCount_95d88 (pX3_bitsAt 45 s.2.2.2.2.1 s.2.2.2.2.2))); some (.inl (s.1, s.2.1, s.2.2.1, v1, (s.2.2.2.2.1 + 1), s.2.2.2.2.2))
noncomputable def sX3_crewOfMostTimes_25 (y1 : Int32) (y2 : Int32) (y3 : Int32) (y4 : Int32) (y5 : Int32) (z : mm_S) : Option ((Int32 × Int32 × Int32 × mm_S) ⊕ (Int32 × mm_S)) := mm_wh (lX3_crewOfMostTimes_25 ) mm_fu (y1, y2, y3, y4, y5, z)
theorem kX3_crewOfMostTimes_25 (y1 : Int32) (y2 : Int32) (y3 : Int32) (y4 : Int32) (y5 : Int32) (z : mm_S) (oo : mm_R) : mm_Xs (sX3_crewOfMostTimes_25 y1 y2 y3 y4 y5 z) (mm_mt (fun x : Int32 × Int32 × Int32 × mm_S => ∃ n, eX3_crewOfMostTimes_6 n x.1 x.2.1 x.2.2.1 x.2.2.2 = some oo) (fun v => (fun v : Int32 × mm_S => ((some (mm_I v.1), v.2) : mm_R)) v = oo)) (fun n => eX3_crewOfMostTimes_25 n y1 y2 y3 y4 y5 z) oo :=
  xs_wh (stp := lX3_crewOfMostTimes_25 ) (o := oo) (E := (fun (s : Int32 × Int32 × Int32 × Int32 × Int32 × mm_S) n => eX3_crewOfMostTimes_25 n s.1 s.2.1 s.2.2.1 s.2.2.2.1 s.2.2.2.2.1 s.2.2.2.2.2)) (C := (mm_mt (fun x : Int32 × Int32 × Int32 × mm_S => ∃ n, eX3_crewOfMostTimes_6 n x.1 x.2.1 x.2.2.1 x.2.2.2 = some oo) (fun v => (fun v : Int32 × mm_S => ((some (mm_I v.1), v.2) : mm_R)) v = oo))) (fun s => xs_row (fun n => qX3_crewOfMostTimes_25 n s.1 s.2.1 s.2.2.1 s.2.2.2.1 s.2.2.2.2.1 s.2.2.2.2.2) (xs_if (xs_if (xs_v fun hc => hc) (xs_v fun hc => hc)) (xs_let ((s.2.2.2.1 + (pJ13_bitCount_95d88 (pX3_bitsAt 45 s.2.2.2.2.1 s.2.2.2.2.2)))) (S := fun (v1 : Int32) => (some (.inl (s.1, s.2.1, s.2.2.1, v1, (s.2.2.2.2.1 + 1), s.2.2.2.2.2)) : Option ((Int32 × Int32 × Int32 × Int32 × Int32 × mm_S) ⊕ ((Int32 × Int32 × Int32 × mm_S) ⊕ (Int32 × mm_S))))) (T := fun (v1 : Int32) n => eX3_crewOfMostTimes_25 n s.1 s.2.1 s.2.2.1 v1 (s.2.2.2.2.1 + 1) s.2.2.2.2.2) (fun v1 => (xs_v fun hc => hc))))) mm_fu (y1, y2, y3, y4, y5, z)
noncomputable def lX3_crewOfMostTimes_6 (s : Int32 × Int32 × Int32 × mm_S) : Option ((Int32 × Int32 × Int32 × mm_S) ⊕ (Int32 × mm_S)) := if (s.2.2.2.1 1 4) ≤ s.2.2.1 then some (.inr (s.1, s.2.2.2)) else (sX3_crewOfMostTimes_25 s.1 s.2.1 s.2.2.1 0 (s.2.2.1 * 4) s.2.2.2)
noncomputable def sX3_crewOfMostTimes_6 (y1 : Int32) (y2 : Int32) (y3 : Int32) (z : mm_S) : Option (Int32 × mm_S) := mm_wh (lX3_crewOfMostTimes_6 ) mm_fu (y1, y2, y3, z)
theorem kX3_crewOfMostTimes_6 (y1 : Int32) (y2 : Int32) (y3 : Int32) (z : mm_S) (oo : mm_R) : mm_Xs (sX3_crewOfMostTimes_6 y1 y2 y3 z) (fun v => (fun v : Int32 × mm_S => ((some (mm_I v.1), v.2) : mm_R)) v = oo) (fun n => eX3_crewOfMostTimes_6 n y1 y2 y3 z) oo :=
  xs_wh (stp := lX3_crewOfMostTimes_6 ) (o := oo) (E := (fun (s : Int32 × Int32 × Int32 × mm_S) n => eX3_crewOfMostTimes_6 n s.1 s.2.1 s.2.2.1 s.2.2.2)) (C := (fun v => (fun v : Int32 × mm_S => ((some (mm_I v.1), v.2) : mm_R)) v = oo)) (fun s => xs_row (fun n => qX3_crewOfMostTimes_6 n s.1 s.2.1 s.2.2.1 s.2.2.2) (xs_if (xs_v fun hc => ⟨0, congrArg some hc⟩) (kX3_crewOfMostTimes_25 s.1 s.2.1 s.2.2.1 0 (s.2.2.1 * 4) s.2.2.2 oo))) mm_fu (y1, y2, y3, z)
noncomputable def sX3_crewOfMostTimes_0  (z : mm_S) : Option (Int32 × mm_S) := (sX3_crewOfMostTimes_6 (-1) 0 0 z)
theorem kX3_crewOfMostTimes_0  (z : mm_S) (oo : mm_R) : mm_Xs (sX3_crewOfMostTimes_0  z) (fun v => (fun v : Int32 × mm_S => ((some (mm_I v.1), v.2) : mm_R)) v = oo) (fun n => eX3_crewOfMostTimes_0 n  z) oo :=
  xs_row (fun n => qX3_crewOfMostTimes_0 n z) (kX3_crewOfMostTimes_6 (-1) 0 0 z oo)
noncomputable def sX3_crewOfMostTimes  (z : mm_S) : Option (Int32 × mm_S) := sX3_crewOfMostTimes_0  z
theorem sp_X3_crewOfMostTimes  (z : mm_S) (hk : ∀ v ∈ [mm_P 3 0], mm_ok 46 lyTX 48 17 v) (q : Int32 × mm_S) (hq : sX3_crewOfMostTimes  z = some q) : f_X3_crewOfMostTimes [mm_P 3 0] z (some (mm_I q.1), q.2) := ⟨Nat.le_of_ble_eq_true rfl, kX3_crewOfMostTimes_0  z _ q hq rfl⟩
noncomputable def clo_X3_crewOfMostTimes (as : List mm_V) (z : mm_S) (kk : Option mm_V → mm_S → Option mm_R) : Option mm_R := mm_pr as fun t o0 as => bif Nat.beq t 3 then (match as with | [] => (sX3_crewOfMostTimes z).bind fun q => kk (some (mm_I q.1)) q.2 | _ => none) else none
theorem cs_X3_crewOfMostTimes : mm_cs lyTX 46 48 17 f_X3_crewOfMostTimes clo_X3_crewOfMostTimes := by
  intro as z K o hk h
  obtain ⟨t0, o0, r0, rfl, g0⟩ := mm_pr_e h
  obtain ⟨b0, k0⟩ := mm_bif_e g0
  obtain rfl := Nat.eq_of_beq_eq_true b0
  rcases r0 with _ | ⟨u, w⟩
  rotate_left
  · cases k0
  obtain rfl : o0 = 0 := ok3 (hk (mm_P 3 o0) (by simp))
  obtain ⟨q, hq, hq2⟩ := Option.bind_eq_some_iff.mp k0
  exact ⟨_, _, sp_X3_crewOfMostTimes  z hk q hq, fun v hv => by cases hv; exact Or.inl ⟨_, rfl⟩, hq2⟩
theorem sV_X3_crewOfMostTimes {own : String} {R : Room} {ar : Nat → Nat} {k : Nat} (hlink : Cond.methodLink own k yX3_crewOfMostTimes ∈ lw_gd ∨ ∃ host, (own, k, yX3_crewOfMostTimes, host) ∈ nmA) (har : ar k = 1) (hr : 2 ≤ R.frames ∧ 46 ≤ R.locals) : mm_okV lyTX lyFA lenX snX 46 48 17 roX rsA nfA nmA ssX own R ar k clo_X3_crewOfMostTimes := by
  refine ⟨yX3_crewOfMostTimes, cX3_crewOfMostTimes, 6, some .int, rm_X3_crewOfMostTimes, f_X3_crewOfMostTimes, 3, 0, (RX3, TX3, 12), M_X3_crewOfMostTimes, cs_X3_crewOfMostTimes, hlink, ⟨wv_X3_crewOfMostTimes, wz_X3_crewOfMostTimes, wi_X3_crewOfMostTimes, wc_X3_crewOfMostTimes⟩, ⟨by decide +kernel, by decide +kernel, by decide +kernel⟩, har, ⟨rfl, rfl, by decide⟩, ?_, ⟨rfl, rfl, hr.1, hr.2⟩⟩
  intro as z K o h
  obtain ⟨t0, o0, r0, rfl, g0⟩ := mm_pr_e h
  obtain ⟨b0, k0⟩ := mm_bif_e g0
  obtain rfl := Nat.eq_of_beq_eq_true b0
  exact ⟨_, _, rfl⟩
-- X3_asks
noncomputable def lV_X3_asks : List (Nat × (List mm_V → mm_S → (Option mm_V → mm_S → Option mm_R) → Option mm_R)) := [(59, clo_X3_finding), (143, clo_X3_orNone), (195, clo_X1_timesTo), (224, clo_X3_beginMaps), (227, clo_X3_draftFitsAs), (257, clo_X3_markTimesOfCrews), (260, clo_X3_crewOfMostTimes)]
noncomputable def mV_X3_asks (k : Nat) (as : List mm_V) (z : mm_S) (kk : Option mm_V → mm_S → Option mm_R) : Option mm_R := match mm_at lV_X3_asks k with
  | some f => f as z kk
  | none => none
noncomputable def arV_X3_asks (k : Nat) : Nat := (mm_at [(59, 2), (143, 2), (195, 3), (224, 1), (227, 2), (257, 1), (260, 1)] k).getD 0
noncomputable def lS_X3_asks : List (Nat × (List mm_V → mm_S → (Option mm_V → mm_S → Option mm_R) → Option mm_R)) := [(52, clo_X3_isCell), (251, clo_J7_fill_d0a16)]
noncomputable def mS_X3_asks (k : Nat) (as : List mm_V) (z : mm_S) (kk : Option mm_V → mm_S → Option mm_R) : Option mm_R := match mm_at lS_X3_asks k with
  | some f => f as z kk
  | none => none
noncomputable def arS_X3_asks (k : Nat) : Nat := (mm_at [(52, 1), (251, 2)] k).getD 0
def ct_X3_asks : List (Nat × List Nat) := [(4, [0, 1]), (13, [0, 1]), (21, [0, 1]), (26, [0, 1, 2]), (28, [0, 1, 2, 3]), (38, [0, 1, 2, 3]), (41, [0, 1, 2, 3]), (56, [0, 1, 2, 3]), (60, [0, 1, 2, 3])]
noncomputable def go_X3_asks : Nat → mm_K := mm_go (fun k => mm_at flX3 k) (fun k => mm_at clX3 k) (fun k => mm_at glX3 k) arV_X3_asks arS_X3_asks mV_X3_asks mS_X3_asks lenX roX snX 4 0 tbX3_asks ct_X3_asks
noncomputable def eX3_asks_0 (n : Nat)  (x1 : Int32) (z : mm_S) : Option mm_R := go_X3_asks n 0 [(0, mm_P 3 0), (1, mm_I x1)] [] z
noncomputable def eX3_asks_4 (n : Nat)  (y1 : Int32) (w0 : Int32) (z : mm_S) : Option mm_R := go_X3_asks n 4 [(0, mm_P 3 0), (1, mm_I y1)] [mm_I w0] z
noncomputable def eX3_asks_13 (n : Nat)  (y1 : Int32) (z : mm_S) : Option mm_R := go_X3_asks n 13 [(0, mm_P 3 0), (1, mm_I y1)] [] z
noncomputable def eX3_asks_21 (n : Nat)  (y1 : Int32) (z : mm_S) : Option mm_R := go_X3_asks n 21 [(0, mm_P 3 0), (1, mm_I y1)] [] z
noncomputable def eX3_asks_26 (n : Nat)  (y1 : Int32) (y2 : Int32) (z : mm_S) : Option mm_R := go_X3_asks n 26 [(0, mm_P 3 0), (1, mm_I y1), (2, mm_I y2)] [] z
noncomputable def eX3_asks_28 (n : Nat)  (y1 : Int32) (y2 : Int32) (y3 : Int32) (z : mm_S) : Option mm_R := go_X3_asks n 28 [(0, mm_P 3 0), (1, mm_I y1), (2, mm_I y2), (3, mm_I y3)] [] z
noncomputable def eX3_asks_38 (n : Nat)  (y1 : Int32) (y2 : Int32) (y3 : Int32) (w0 : Int32) (z : mm_S) : Option mm_R := go_X3_asks n 38 [(0, mm_P 3 0), (1, mm_I y1), (2, mm_I y2), (3, mm_I y3)] [mm_I w0] z
noncomputable def eX3_asks_60 (n : Nat)  (y1 : Int32) (y2 : Int32) (y3 : Int32) (z : mm_S) : Option mm_R := go_X3_asks n 60 [(0, mm_P 3 0), (1, mm_I y1), (2, mm_I y2), (3, mm_I y3)] [] z
noncomputable def eX3_asks_41 (n : Nat)  (y1 : Int32) (y2 : Int32) (y3 : Int32) (z : mm_S) : Option mm_R := go_X3_asks n 41 [(0, mm_P 3 0), (1, mm_I y1), (2, mm_I y2), (3, mm_I y3)] [] z
noncomputable def eX3_asks_56 (n : Nat)  (y1 : Int32) (y2 : Int32) (y3 : Int32) (z : mm_S) : Option mm_R := go_X3_asks n 56 [(0, mm_P 3 0), (1, mm_I y1), (2, mm_I y2), (3, mm_I y3)] [] z
set_option maxRecDepth 100000 in
theorem qX3_asks_0 (n : Nat)  (x1 : Int32) (z : mm_S) : eX3_asks_0 (n + 1) x1 z = (eX3_asks_4 n x1 (pX3_isCell x1) z) := rfl
set_option maxRecDepth 100000 in
theorem qX3_asks_4 (n : Nat)  (y1 : Int32) (w0 : Int32) (z : mm_S) : eX3_asks_4 (n + 1) y1 w0 z = (if w0 = 0 then (sX3_finding 0 z).bind fun q1 => some (some (mm_I q1.1), q1.2) else eX3_asks_13 n y1 z) := rfl
set_option maxRecDepth 100000 in
theorem qX3_asks_13 (n : Nat)  (y1 : Int32) (z : mm_S) : eX3_asks_13 (n + 1) y1 z = (let u2 := (tJ7_fill_d0a16 45 0 z); eX3_asks_21 n y1 u2) := rfl
set_option maxRecDepth 100000 in
theorem qX3_asks_21 (n : Nat)  (y1 : Int32) (z : mm_S) : eX3_asks_21 (n + 1) y1 z = ((sX3_beginMaps  z).bind fun q3 => eX3_asks_26 n y1 q3.1 q3.2) := rfl
set_option maxRecDepth 100000 in
theorem qX3_asks_26 (n : Nat)  (y1 : Int32) (y2 : Int32) (z : mm_S) : eX3_asks_26 (n + 1) y1 y2 z = (eX3_asks_28 n y1 y2 0 z) := rfl
set_option maxRecDepth 100000 in
theorem qX3_asks_28 (n : Nat)  (y1 : Int32) (y2 : Int32) (y3 : Int32) (z : mm_S) : eX3_asks_28 (n + 1) y1 y2 y3 z = (if y2 ≤ y3 then (sX3_crewOfMostTimes  z).bind fun q4 => (sX3_orNone q4.1 q4.2).bind fun q5 => some (some (mm_I q5.1), q5.2) else (sX3_draftFitsAs y3 z).bind fun q6 => eX3_asks_38 n y1 y2 y3 q6.1 q6.2) := rfl
set_option maxRecDepth 100000 in
theorem qX3_asks_38 (n : Nat)  (y1 : Int32) (y2 : Int32) (y3 : Int32) (w0 : Int32) (z : mm_S) : eX3_asks_38 (n + 1) y1 y2 y3 w0 z = (if w0 = 0 then eX3_asks_60 n y1 y2 y3 z else eX3_asks_41 n y1 y2 y3 z) := rfl
set_option maxRecDepth 100000 in
theorem qX3_asks_60 (n : Nat)  (y1 : Int32) (y2 : Int32) (y3 : Int32) (z : mm_S) : eX3_asks_60 (n + 1) y1 y2 y3 z = (eX3_asks_28 n y1 y2 (y3 + 1) z) := rfl
set_option maxRecDepth 100000 in
theorem qX3_asks_41 (n : Nat)  (y1 : Int32) (y2 : Int32) (y3 : Int32) (z : mm_S) : eX3_asks_41 (n + 1) y1 y2 y3 z = ((sX1_timesTo 26 y1 43 z).bind fun q7 => eX3_asks_56 n y1 y2 y3 q7) := rfl
set_option maxRecDepth 100000 in
theorem qX3_asks_56 (n : Nat)  (y1 : Int32) (y2 : Int32) (y3 : Int32) (z : mm_S) : eX3_asks_56 (n + 1) y1 y2 y3 z = ((sX3_markTimesOfCrews  z).bind fun q8 => eX3_asks_60 n y1 y2 y3 q8) := rfl
def rm_X3_asks : Room := { frames := 5, cells := 0, slots := 0, locals := 124 }
noncomputable def f_X3_asks (as : List mm_V) (z : mm_S) (o : mm_R) : Prop := (as.map mm_cat).sum ≤ 4 ∧ ∃ n, go_X3_asks n 0 (mm_ar 0 as) [] z = some o
theorem M_X3_asks : mm_M lyTX lyFA lenX snX 46 48 17 roX rsA nfA nmA ssX yX3_asks cX3_asks 4 (some .int) rm_X3_asks f_X3_asks :=
  mm_met (rt := 0) (by decide +kernel) ⟨fun h => rfl, fun h => absurd h (by decide), fun h => absurd h (by decide), fun h => absurd h (by decide)⟩ tbX3_asks_ok hsnX okFX3 okLX3 okGX3 (fun _ _ _ _ => rfl) (fun _ _ _ _ => rfl) (List.forall_mem_cons.mpr ⟨sV_X3_finding (Or.inl lk_X3_59) rfl ⟨by decide, by decide⟩, List.forall_mem_cons.mpr ⟨sV_X3_orNone (Or.inl lk_X3_143) rfl ⟨by decide, by decide⟩, List.forall_mem_cons.mpr ⟨sV_X1_timesTo (Or.inl lk_X3_195) rfl ⟨by decide, by decide⟩, List.forall_mem_cons.mpr ⟨sV_X3_beginMaps (Or.inl lk_X3_224) rfl ⟨by decide, by decide⟩, List.forall_mem_cons.mpr ⟨sV_X3_draftFitsAs (Or.inl lk_X3_227) rfl ⟨by decide, by decide⟩, List.forall_mem_cons.mpr ⟨sV_X3_markTimesOfCrews (Or.inl lk_X3_257) rfl ⟨by decide, by decide⟩, List.forall_mem_cons.mpr ⟨sV_X3_crewOfMostTimes (Or.inl lk_X3_260) rfl ⟨by decide, by decide⟩, fun _ h => absurd h List.not_mem_nil⟩⟩⟩⟩⟩⟩⟩) (List.forall_mem_cons.mpr ⟨sS_X3_isCell (Or.inl lk_X3_52) rfl ⟨by decide, by decide⟩, List.forall_mem_cons.mpr ⟨sS_J7_fill_d0a16 (Or.inl lk_X3_251) rfl ⟨by decide, by decide⟩, fun _ h => absurd h List.not_mem_nil⟩⟩)
noncomputable def sX3_asks_60 (y1 : Int32) (y2 : Int32) (y3 : Int32) (z : mm_S) : Option ((Int32 × Int32 × Int32 × mm_S) ⊕ (Int32 × mm_S)) := some (.inl (y1, y2, (y3 + 1), z))
theorem kX3_asks_60 (y1 : Int32) (y2 : Int32) (y3 : Int32) (z : mm_S) (oo : mm_R) : mm_Xs (sX3_asks_60 y1 y2 y3 z) (mm_mt (fun x : Int32 × Int32 × Int32 × mm_S => ∃ n, eX3_asks_28 n x.1 x.2.1 x.2.2.1 x.2.2.2 = some oo) (fun v => (fun v : Int32 × mm_S => ((some (mm_I v.1), v.2) : mm_R)) v = oo)) (fun n => eX3_asks_60 n y1 y2 y3 z) oo :=
  xs_row (fun n => qX3_asks_60 n y1 y2 y3 z) (xs_v fun hc => hc)
noncomputable def sX3_asks_56 (y1 : Int32) (y2 : Int32) (y3 : Int32) (z : mm_S) : Option ((Int32 × Int32 × Int32 × mm_S) ⊕ (Int32 × mm_S)) := (sX3_markTimesOfCrews  z).bind fun q8 => (sX3_asks_60 y1 y2 y3 q8)
theorem kX3_asks_56 (y1 : Int32) (y2 : Int32) (y3 : Int32) (z : mm_S) (oo : mm_R) : mm_Xs (sX3_asks_56 y1 y2 y3 z) (mm_mt (fun x : Int32 × Int32 × Int32 × mm_S => ∃ n, eX3_asks_28 n x.1 x.2.1 x.2.2.1 x.2.2.2 = some oo) (fun v => (fun v : Int32 × mm_S => ((some (mm_I v.1), v.2) : mm_R)) v = oo)) (fun n => eX3_asks_56 n y1 y2 y3 z) oo :=
  xs_row (fun n => qX3_asks_56 n y1 y2 y3 z) (xs_bd fun q8 => (kX3_asks_60 y1 y2 y3 q8 oo))
noncomputable def sX3_asks_41 (y1 : Int32) (y2 : Int32) (y3 : Int32) (z : mm_S) : Option ((Int32 × Int32 × Int32 × mm_S) ⊕ (Int32 × mm_S)) := (sX1_timesTo 26 y1 43 z).bind fun q7 => (sX3_asks_56 y1 y2 y3 q7)
theorem kX3_asks_41 (y1 : Int32) (y2 : Int32) (y3 : Int32) (z : mm_S) (oo : mm_R) : mm_Xs (sX3_asks_41 y1 y2 y3 z) (mm_mt (fun x : Int32 × Int32 × Int32 × mm_S => ∃ n, eX3_asks_28 n x.1 x.2.1 x.2.2.1 x.2.2.2 = some oo) (fun v => (fun v : Int32 × mm_S => ((some (mm_I v.1), v.2) : mm_R)) v = oo)) (fun n => eX3_asks_41 n y1 y2 y3 z) oo :=
  xs_row (fun n => qX3_asks_41 n y1 y2 y3 z) (xs_bd fun q7 => (kX3_asks_56 y1 y2 y3 q7 oo))
noncomputable def sX3_asks_38 (y1 : Int32) (y2 : Int32) (y3 : Int32) (w0 : Int32) (z : mm_S) : Option ((Int32 × Int32 × Int32 × mm_S) ⊕ (Int32 × mm_S)) := if w0 = 0 then (sX3_asks_60 y1 y2 y3 z) else (sX3_asks_41 y1 y2 y3 z)
theorem kX3_asks_38 (y1 : Int32) (y2 : Int32) (y3 : Int32) (w0 : Int32) (z : mm_S) (oo : mm_R) : mm_Xs (sX3_asks_38 y1 y2 y3 w0 z) (mm_mt (fun x : Int32 × Int32 × Int32 × mm_S => ∃ n, eX3_asks_28 n x.1 x.2.1 x.2.2.1 x.2.2.2 = some oo) (fun v => (fun v : Int32 × mm_S => ((some (mm_I v.1), v.2) : mm_R)) v = oo)) (fun n => eX3_asks_38 n y1 y2 y3 w0 z) oo :=
  xs_row (fun n => qX3_asks_38 n y1 y2 y3 w0 z) (xs_if (kX3_asks_60 y1 y2 y3 z oo) (kX3_asks_41 y1 y2 y3 z oo))
noncomputable def lX3_asks_28 (s : Int32 × Int32 × Int32 × mm_S) : Option ((Int32 × Int32 × Int32 × mm_S) ⊕ (Int32 × mm_S)) := if s.2.1 ≤ s.2.2.1 then (sX3_crewOfMostTimes  s.2.2.2).bind fun q4 => (sX3_orNone q4.1 q4.2).bind fun q5 => some (.inr (q5.1, q5.2)) else (sX3_draftFitsAs s.2.2.1 s.2.2.2).bind fun q6 => (sX3_asks_38 s.1 s.2.1 s.2.2.1 q6.1 q6.2)
noncomputable def sX3_asks_28 (y1 : Int32) (y2 : Int32) (y3 : Int32) (z : mm_S) : Option (Int32 × mm_S) := mm_wh (lX3_asks_28 ) mm_fu (y1, y2, y3, z)
theorem kX3_asks_28 (y1 : Int32) (y2 : Int32) (y3 : Int32) (z : mm_S) (oo : mm_R) : mm_Xs (sX3_asks_28 y1 y2 y3 z) (fun v => (fun v : Int32 × mm_S => ((some (mm_I v.1), v.2) : mm_R)) v = oo) (fun n => eX3_asks_28 n y1 y2 y3 z) oo :=
  xs_wh (stp := lX3_asks_28 ) (o := oo) (E := (fun (s : Int32 × Int32 × Int32 × mm_S) n => eX3_asks_28 n s.1 s.2.1 s.2.2.1 s.2.2.2)) (C := (fun v => (fun v : Int32 × mm_S => ((some (mm_I v.1), v.2) : mm_R)) v = oo)) (fun s => xs_row (fun n => qX3_asks_28 n s.1 s.2.1 s.2.2.1 s.2.2.2) (xs_if (xs_bd fun q4 => (xs_bd fun q5 => (xs_v fun hc => ⟨0, congrArg some hc⟩))) (xs_bd fun q6 => (kX3_asks_38 s.1 s.2.1 s.2.2.1 q6.1 q6.2 oo)))) mm_fu (y1, y2, y3, z)
noncomputable def sX3_asks_26 (y1 : Int32) (y2 : Int32) (z : mm_S) : Option (Int32 × mm_S) := (sX3_asks_28 y1 y2 0 z)
theorem kX3_asks_26 (y1 : Int32) (y2 : Int32) (z : mm_S) (oo : mm_R) : mm_Xs (sX3_asks_26 y1 y2 z) (fun v => (fun v : Int32 × mm_S => ((some (mm_I v.1), v.2) : mm_R)) v = oo) (fun n => eX3_asks_26 n y1 y2 z) oo :=
  xs_row (fun n => qX3_asks_26 n y1 y2 z) (kX3_asks_28 y1 y2 0 z oo)
noncomputable def sX3_asks_21 (y1 : Int32) (z : mm_S) : Option (Int32 × mm_S) := (sX3_beginMaps  z).bind fun q3 => (sX3_asks_26 y1 q3.1 q3.2)
theorem kX3_asks_21 (y1 : Int32) (z : mm_S) (oo : mm_R) : mm_Xs (sX3_asks_21 y1 z) (fun v => (fun v : Int32 × mm_S => ((some (mm_I v.1), v.2) : mm_R)) v = oo) (fun n => eX3_asks_21 n y1 z) oo :=
  xs_row (fun n => qX3_asks_21 n y1 z) (xs_bd fun q3 => (kX3_asks_26 y1 q3.1 q3.2 oo))
noncomputable def sX3_asks_13 (y1 : Int32) (z : mm_S) : Option (Int32 × mm_S) := let u2 := (tJ7_fill_d0a16 45 0 z); (sX3_asks_21 y1 u2)
theorem kX3_asks_13 (y1 : Int32) (z : mm_S) (oo : mm_R) : mm_Xs (sX3_asks_13 y1 z) (fun v => (fun v : Int32 × mm_S => ((some (mm_I v.1), v.2) : mm_R)) v = oo) (fun n => eX3_asks_13 n y1 z) oo :=
  xs_row (fun n => qX3_asks_13 n y1 z) (xs_let ((tJ7_fill_d0a16 45 0 z)) (S := fun (u2 : _) => ((sX3_asks_21 y1 u2) : Option (Int32 × mm_S))) (T := fun (u2 : _) n => eX3_asks_21 n y1 u2) (fun u2 => (kX3_asks_21 y1 u2 oo)))
noncomputable def sX3_asks_4 (y1 : Int32) (w0 : Int32) (z : mm_S) : Option (Int32 × mm_S) := if w0 = 0 then (sX3_finding 0 z).bind fun q1 => some (q1.1, q1.2) else (sX3_asks_13 y1 z)
theorem kX3_asks_4 (y1 : Int32) (w0 : Int32) (z : mm_S) (oo : mm_R) : mm_Xs (sX3_asks_4 y1 w0 z) (fun v => (fun v : Int32 × mm_S => ((some (mm_I v.1), v.2) : mm_R)) v = oo) (fun n => eX3_asks_4 n y1 w0 z) oo :=
  xs_row (fun n => qX3_asks_4 n y1 w0 z) (xs_if (xs_bd fun q1 => (xs_v fun hc => ⟨0, congrArg some hc⟩)) (kX3_asks_13 y1 z oo))
noncomputable def sX3_asks_0 (x1 : Int32) (z : mm_S) : Option (Int32 × mm_S) := (sX3_asks_4 x1 (pX3_isCell x1) z)
theorem kX3_asks_0 (x1 : Int32) (z : mm_S) (oo : mm_R) : mm_Xs (sX3_asks_0 x1 z) (fun v => (fun v : Int32 × mm_S => ((some (mm_I v.1), v.2) : mm_R)) v = oo) (fun n => eX3_asks_0 n x1 z) oo :=
  xs_row (fun n => qX3_asks_0 n x1 z) (kX3_asks_4 x1 (pX3_isCell x1) z oo)
noncomputable def sX3_asks (x1 : Int32) (z : mm_S) : Option (Int32 × mm_S) := sX3_asks_0 x1 z
theorem sp_X3_asks (x1 : Int32) (z : mm_S) (hk : ∀ v ∈ [mm_P 3 0, mm_I x1], mm_ok 46 lyTX 48 17 v) (q : Int32 × mm_S) (hq : sX3_asks x1 z = some q) : f_X3_asks [mm_P 3 0, mm_I x1] z (some (mm_I q.1), q.2) := ⟨Nat.le_of_ble_eq_true rfl, kX3_asks_0 x1 z _ q hq rfl⟩
noncomputable def clo_X3_asks (as : List mm_V) (z : mm_S) (kk : Option mm_V → mm_S → Option mm_R) : Option mm_R := mm_pr as fun t o0 as => bif Nat.beq t 3 then mm_pi as fun a1 as => (match as with | [] => (sX3_asks a1 z).bind fun q => kk (some (mm_I q.1)) q.2 | _ => none) else none
theorem cs_X3_asks : mm_cs lyTX 46 48 17 f_X3_asks clo_X3_asks := by
  intro as z K o hk h
  obtain ⟨t0, o0, r0, rfl, g0⟩ := mm_pr_e h
  obtain ⟨b0, k0⟩ := mm_bif_e g0
  obtain rfl := Nat.eq_of_beq_eq_true b0
  obtain ⟨a1, r1, rfl, g1⟩ := mm_pi_e k0
  rcases r1 with _ | ⟨u, w⟩
  rotate_left
  · cases g1
  obtain rfl : o0 = 0 := ok3 (hk (mm_P 3 o0) (by simp))
  obtain ⟨q, hq, hq2⟩ := Option.bind_eq_some_iff.mp g1
  exact ⟨_, _, sp_X3_asks a1 z hk q hq, fun v hv => by cases hv; exact Or.inl ⟨_, rfl⟩, hq2⟩
theorem sV_X3_asks {own : String} {R : Room} {ar : Nat → Nat} {k : Nat} (hlink : Cond.methodLink own k yX3_asks ∈ lw_gd ∨ ∃ host, (own, k, yX3_asks, host) ∈ nmA) (har : ar k = 2) (hr : 6 ≤ R.frames ∧ 147 ≤ R.locals) : mm_okV lyTX lyFA lenX snX 46 48 17 roX rsA nfA nmA ssX own R ar k clo_X3_asks := by
  refine ⟨yX3_asks, cX3_asks, 4, some .int, rm_X3_asks, f_X3_asks, 3, 1, (RX3, TX3, 12), M_X3_asks, cs_X3_asks, hlink, ⟨wv_X3_asks, wz_X3_asks, wi_X3_asks, wc_X3_asks⟩, ⟨by decide +kernel, by decide +kernel, by decide +kernel⟩, har, ⟨rfl, rfl, by decide⟩, ?_, ⟨rfl, rfl, hr.1, hr.2⟩⟩
  intro as z K o h
  obtain ⟨t0, o0, r0, rfl, g0⟩ := mm_pr_e h
  obtain ⟨b0, k0⟩ := mm_bif_e g0
  obtain rfl := Nat.eq_of_beq_eq_true b0
  exact ⟨_, _, rfl⟩
-- X3_flood
noncomputable def lV_X3_flood : List (Nat × (List mm_V → mm_S → (Option mm_V → mm_S → Option mm_R) → Option mm_R)) := []
noncomputable def mV_X3_flood (k : Nat) (as : List mm_V) (z : mm_S) (kk : Option mm_V → mm_S → Option mm_R) : Option mm_R := match mm_at lV_X3_flood k with
  | some f => f as z kk
  | none => none
noncomputable def arV_X3_flood (k : Nat) : Nat := (mm_at [] k).getD 0
noncomputable def lS_X3_flood : List (Nat × (List mm_V → mm_S → (Option mm_V → mm_S → Option mm_R) → Option mm_R)) := [(175, clo_X3_besides)]
noncomputable def mS_X3_flood (k : Nat) (as : List mm_V) (z : mm_S) (kk : Option mm_V → mm_S → Option mm_R) : Option mm_R := match mm_at lS_X3_flood k with
  | some f => f as z kk
  | none => none
noncomputable def arS_X3_flood (k : Nat) : Nat := (mm_at [(175, 1)] k).getD 0
def ct_X3_flood : List (Nat × List Nat) := [(6, [2, 4, 6])]
noncomputable def go_X3_flood : Nat → mm_K := mm_go (fun k => mm_at flX3 k) (fun k => mm_at clX3 k) (fun k => mm_at glX3 k) arV_X3_flood arS_X3_flood mV_X3_flood mS_X3_flood lenX roX snX 9 2 tbX3_flood ct_X3_flood
noncomputable def eX3_flood_0 (n : Nat) (x1 : Int64) (x2 : Int64) (z : mm_S) : Option mm_R := go_X3_flood n 0 [(0, mm_J x1), (2, mm_J x2)] [] z
noncomputable def eX3_flood_6 (n : Nat) (y2 : Int64) (y4 : Int64) (y6 : Int32) (z : mm_S) : Option mm_R := go_X3_flood n 6 [(2, mm_J y2), (4, mm_J y4), (6, mm_I y6)] [] z
set_option maxRecDepth 100000 in
theorem qX3_flood_0 (n : Nat) (x1 : Int64) (x2 : Int64) (z : mm_S) : eX3_flood_0 (n + 1) x1 x2 z = (eX3_flood_6 n x2 x1 0 z) := rfl
set_option maxRecDepth 100000 in
theorem qX3_flood_6 (n : Nat) (y2 : Int64) (y4 : Int64) (y6 : Int32) (z : mm_S) : eX3_flood_6 (n + 1) y2 y4 y6 z = (if 36 ≤ y6 then some (some (mm_J y4), z) else if (lg_cmp (y4 ||| ((pX3_besides y4) &&& y2)) y4) = 0 then some (some (mm_J y4), z) else eX3_flood_6 n y2 (y4 ||| ((pX3_besides y4) &&& y2)) (y6 + 1) z) := rfl
def rm_X3_flood : Room := { frames := 1, cells := 0, slots := 0, locals := 29 }
noncomputable def f_X3_flood (as : List mm_V) (z : mm_S) (o : mm_R) : Prop := (as.map mm_cat).sum ≤ 9 ∧ ∃ n, go_X3_flood n 0 (mm_ar 0 as) [] z = some o
theorem M_X3_flood : mm_M lyTX lyFA lenX snX 46 48 17 roX rsA nfA nmA ssX yX3_flood cX3_flood 9 (some .long) rm_X3_flood f_X3_flood :=
  mm_met (rt := 2) (by decide +kernel) ⟨fun h => absurd h (by decide), fun h => absurd h (by decide), fun h => rfl, fun h => absurd h (by decide)⟩ tbX3_flood_ok hsnX okFX3 okLX3 okGX3 (fun _ _ _ _ => rfl) (fun _ _ _ _ => rfl) (fun _ h => absurd h List.not_mem_nil) (List.forall_mem_cons.mpr ⟨sS_X3_besides (Or.inl lk_X3_175) rfl ⟨by decide, by decide⟩, fun _ h => absurd h List.not_mem_nil⟩)
noncomputable def lX3_flood_6 (s : Int64 × Int64 × Int32 × mm_S) : Option ((Int64 × Int64 × Int32 × mm_S) ⊕ (Int64 × mm_S)) := if 36 ≤ s.2.2.1 then some (.inr (s.2.1, s.2.2.2)) else if (lg_cmp (s.2.1 ||| ((pX3_besides s.2.1) &&& s.1)) s.2.1) = 0 then some (.inr (s.2.1, s.2.2.2)) else some (.inl (s.1, (s.2.1 ||| ((pX3_besides s.2.1) &&& s.1)), (s.2.2.1 + 1), s.2.2.2))
noncomputable def sX3_flood_6 (y2 : Int64) (y4 : Int64) (y6 : Int32) (z : mm_S) : Option (Int64 × mm_S) := mm_wh (lX3_flood_6 ) mm_fu (y2, y4, y6, z)
theorem kX3_flood_6 (y2 : Int64) (y4 : Int64) (y6 : Int32) (z : mm_S) (oo : mm_R) : mm_Xs (sX3_flood_6 y2 y4 y6 z) (fun v => (fun v : Int64 × mm_S => ((some (mm_J v.1), v.2) : mm_R)) v = oo) (fun n => eX3_flood_6 n y2 y4 y6 z) oo :=
  xs_wh (stp := lX3_flood_6 ) (o := oo) (E := (fun (s : Int64 × Int64 × Int32 × mm_S) n => eX3_flood_6 n s.1 s.2.1 s.2.2.1 s.2.2.2)) (C := (fun v => (fun v : Int64 × mm_S => ((some (mm_J v.1), v.2) : mm_R)) v = oo)) (fun s => xs_row (fun n => qX3_flood_6 n s.1 s.2.1 s.2.2.1 s.2.2.2) (xs_if (xs_v fun hc => ⟨0, congrArg some hc⟩) (xs_if (xs_v fun hc => ⟨0, congrArg some hc⟩) (xs_v fun hc => hc)))) mm_fu (y2, y4, y6, z)
noncomputable def sX3_flood_0 (x1 : Int64) (x2 : Int64) (z : mm_S) : Option (Int64 × mm_S) := (sX3_flood_6 x2 x1 0 z)
theorem kX3_flood_0 (x1 : Int64) (x2 : Int64) (z : mm_S) (oo : mm_R) : mm_Xs (sX3_flood_0 x1 x2 z) (fun v => (fun v : Int64 × mm_S => ((some (mm_J v.1), v.2) : mm_R)) v = oo) (fun n => eX3_flood_0 n x1 x2 z) oo :=
  xs_row (fun n => qX3_flood_0 n x1 x2 z) (kX3_flood_6 x2 x1 0 z oo)
noncomputable def sX3_flood (x1 : Int64) (x2 : Int64) (z : mm_S) : Option (Int64 × mm_S) := sX3_flood_0 x1 x2 z
theorem sp_X3_flood (x1 : Int64) (x2 : Int64) (z : mm_S) (hk : ∀ v ∈ [mm_J x1, mm_J x2], mm_ok 46 lyTX 48 17 v) (q : Int64 × mm_S) (hq : sX3_flood x1 x2 z = some q) : f_X3_flood [mm_J x1, mm_J x2] z (some (mm_J q.1), q.2) := ⟨Nat.le_of_ble_eq_true rfl, kX3_flood_0 x1 x2 z _ q hq rfl⟩
noncomputable def clo_X3_flood (as : List mm_V) (z : mm_S) (kk : Option mm_V → mm_S → Option mm_R) : Option mm_R := mm_pj as fun a0 as => mm_pj as fun a1 as => (match as with | [] => (sX3_flood a0 a1 z).bind fun q => kk (some (mm_J q.1)) q.2 | _ => none)
theorem cs_X3_flood : mm_cs lyTX 46 48 17 f_X3_flood clo_X3_flood := by
  intro as z K o hk h
  obtain ⟨a0, r0, rfl, g0⟩ := mm_pj_e h
  obtain ⟨a1, r1, rfl, g1⟩ := mm_pj_e g0
  rcases r1 with _ | ⟨u, w⟩
  rotate_left
  · cases g1
  obtain ⟨q, hq, hq2⟩ := Option.bind_eq_some_iff.mp g1
  exact ⟨_, _, sp_X3_flood a0 a1 z hk q hq, fun v hv => by cases hv; exact Or.inr ⟨_, rfl⟩, hq2⟩
theorem sS_X3_flood {own : String} {R : Room} {ar : Nat → Nat} {k : Nat} (hlink : Cond.methodLink own k yX3_flood ∈ lw_gd ∨ ∃ host, (own, k, yX3_flood, host) ∈ nmA) (har : ar k = 2) (hr : 2 ≤ R.frames ∧ 57 ≤ R.locals) : mm_okS lyTX lyFA lenX snX 46 48 17 roX rsA nfA nmA ssX own R ar k clo_X3_flood :=
  Or.inl ⟨yX3_flood, cX3_flood, 9, some .long, rm_X3_flood, f_X3_flood, M_X3_flood, cs_X3_flood, hlink, ⟨ws_X3_flood, wi_X3_flood, wc_X3_flood⟩, ⟨by decide +kernel, by decide +kernel, by rw [har]; decide +kernel⟩, ⟨rfl, rfl, hr.1, hr.2⟩⟩
-- X3_costOfWay
noncomputable def lV_X3_costOfWay : List (Nat × (List mm_V → mm_S → (Option mm_V → mm_S → Option mm_R) → Option mm_R)) := []
noncomputable def mV_X3_costOfWay (k : Nat) (as : List mm_V) (z : mm_S) (kk : Option mm_V → mm_S → Option mm_R) : Option mm_R := match mm_at lV_X3_costOfWay k with
  | some f => f as z kk
  | none => none
noncomputable def arV_X3_costOfWay (k : Nat) : Nat := (mm_at [] k).getD 0
noncomputable def lS_X3_costOfWay : List (Nat × (List mm_V → mm_S → (Option mm_V → mm_S → Option mm_R) → Option mm_R)) := [(172, clo_X3_setOf), (175, clo_X3_besides), (179, clo_X3_has), (270, clo_X3_flood)]
noncomputable def mS_X3_costOfWay (k : Nat) (as : List mm_V) (z : mm_S) (kk : Option mm_V → mm_S → Option mm_R) : Option mm_R := match mm_at lS_X3_costOfWay k with
  | some f => f as z kk
  | none => none
noncomputable def arS_X3_costOfWay (k : Nat) : Nat := (mm_at [(172, 1), (175, 1), (179, 2), (270, 2)] k).getD 0
def ct_X3_costOfWay : List (Nat × List Nat) := [(26, [0, 5, 6, 8, 10]), (29, [0, 5, 6, 8, 10, 12]), (43, [0, 5, 6, 8, 10, 12]), (73, [0, 5, 6, 8, 10, 12])]
noncomputable def go_X3_costOfWay : Nat → mm_K := mm_go (fun k => mm_at flX3 k) (fun k => mm_at clX3 k) (fun k => mm_at glX3 k) arV_X3_costOfWay arS_X3_costOfWay mV_X3_costOfWay mS_X3_costOfWay lenX roX snX 15 0 tbX3_costOfWay ct_X3_costOfWay
noncomputable def eX3_costOfWay_0 (n : Nat) (x1 : Int64) (x2 : Int64) (x3 : Int32) (x4 : Int32) (z : mm_S) : Option mm_R := go_X3_costOfWay n 0 [(0, mm_J x1), (2, mm_J x2), (4, mm_I x3), (5, mm_I x4)] [] z
noncomputable def eX3_costOfWay_26 (n : Nat) (y0 : Int64) (y5 : Int32) (y6 : Int64) (y8 : Int64) (y10 : Int64) (z : mm_S) : Option mm_R := go_X3_costOfWay n 26 [(0, mm_J y0), (5, mm_I y5), (6, mm_J y6), (8, mm_J y8), (10, mm_J y10)] [] z
noncomputable def eX3_costOfWay_29 (n : Nat) (y0 : Int64) (y5 : Int32) (y6 : Int64) (y8 : Int64) (y10 : Int64) (y12 : Int32) (z : mm_S) : Option mm_R := go_X3_costOfWay n 29 [(0, mm_J y0), (5, mm_I y5), (6, mm_J y6), (8, mm_J y8), (10, mm_J y10), (12, mm_I y12)] [] z
noncomputable def eX3_costOfWay_43 (n : Nat) (y0 : Int64) (y5 : Int32) (y6 : Int64) (y8 : Int64) (y10 : Int64) (y12 : Int32) (w0 : Int32) (z : mm_S) : Option mm_R := go_X3_costOfWay n 43 [(0, mm_J y0), (5, mm_I y5), (6, mm_J y6), (8, mm_J y8), (10, mm_J y10), (12, mm_I y12)] [mm_I w0] z
noncomputable def eX3_costOfWay_73 (n : Nat) (y0 : Int64) (y5 : Int32) (y6 : Int64) (y8 : Int64) (y10 : Int64) (y12 : Int32) (z : mm_S) : Option mm_R := go_X3_costOfWay n 73 [(0, mm_J y0), (5, mm_I y5), (6, mm_J y6), (8, mm_J y8), (10, mm_J y10), (12, mm_I y12)] [] z
set_option maxRecDepth 100000 in
theorem qX3_costOfWay_0 (n : Nat) (x1 : Int64) (x2 : Int64) (x3 : Int32) (x4 : Int32) (z : mm_S) : eX3_costOfWay_0 (n + 1) x1 x2 x3 x4 z = ((sX3_flood (((pX3_setOf x3) &&& x1) &&& (x1 &&& x2)) (x1 &&& x2) z).bind fun q1 => eX3_costOfWay_26 n x1 x4 ((pX3_setOf x3) &&& x1) (x1 &&& x2) q1.1 q1.2) := rfl
set_option maxRecDepth 100000 in
theorem qX3_costOfWay_26 (n : Nat) (y0 : Int64) (y5 : Int32) (y6 : Int64) (y8 : Int64) (y10 : Int64) (z : mm_S) : eX3_costOfWay_26 (n + 1) y0 y5 y6 y8 y10 z = (eX3_costOfWay_29 n y0 y5 y6 y8 y10 0 z) := rfl
set_option maxRecDepth 100000 in
theorem qX3_costOfWay_29 (n : Nat) (y0 : Int64) (y5 : Int32) (y6 : Int64) (y8 : Int64) (y10 : Int64) (y12 : Int32) (z : mm_S) : eX3_costOfWay_29 (n + 1) y0 y5 y6 y8 y10 y12 z = (if 36 < y12 then some (some (mm_I (-1)), z) else eX3_costOfWay_43 n y0 y5 y6 y8 y10 y12 (pX3_has y10 y5) z) := rfl
set_option maxRecDepth 100000 in
theorem qX3_costOfWay_43 (n : Nat) (y0 : Int64) (y5 : Int32) (y6 : Int64) (y8 : Int64) (y10 : Int64) (y12 : Int32) (w0 : Int32) (z : mm_S) : eX3_costOfWay_43 (n + 1) y0 y5 y6 y8 y10 y12 w0 z = (if w0 = 0 then (sX3_flood (y10 ||| (((pX3_besides y10) ||| y6) &&& y0)) y8 z).bind fun q2 => eX3_costOfWay_73 n y0 y5 y6 y8 q2.1 y12 q2.2 else some (some (mm_I y12), z)) := rfl
set_option maxRecDepth 100000 in
theorem qX3_costOfWay_73 (n : Nat) (y0 : Int64) (y5 : Int32) (y6 : Int64) (y8 : Int64) (y10 : Int64) (y12 : Int32) (z : mm_S) : eX3_costOfWay_73 (n + 1) y0 y5 y6 y8 y10 y12 z = (eX3_costOfWay_29 n y0 y5 y6 y8 y10 (y12 + 1) z) := rfl
def rm_X3_costOfWay : Room := { frames := 2, cells := 0, slots := 0, locals := 57 }
noncomputable def f_X3_costOfWay (as : List mm_V) (z : mm_S) (o : mm_R) : Prop := (as.map mm_cat).sum ≤ 15 ∧ ∃ n, go_X3_costOfWay n 0 (mm_ar 0 as) [] z = some o
theorem M_X3_costOfWay : mm_M lyTX lyFA lenX snX 46 48 17 roX rsA nfA nmA ssX yX3_costOfWay cX3_costOfWay 15 (some .int) rm_X3_costOfWay f_X3_costOfWay :=
  mm_met (rt := 0) (by decide +kernel) ⟨fun h => rfl, fun h => absurd h (by decide), fun h => absurd h (by decide), fun h => absurd h (by decide)⟩ tbX3_costOfWay_ok hsnX okFX3 okLX3 okGX3 (fun _ _ _ _ => rfl) (fun _ _ _ _ => rfl) (fun _ h => absurd h List.not_mem_nil) (List.forall_mem_cons.mpr ⟨sS_X3_setOf (Or.inl lk_X3_172) rfl ⟨by decide, by decide⟩, List.forall_mem_cons.mpr ⟨sS_X3_besides (Or.inl lk_X3_175) rfl ⟨by decide, by decide⟩, List.forall_mem_cons.mpr ⟨sS_X3_has (Or.inl lk_X3_179) rfl ⟨by decide, by decide⟩, List.forall_mem_cons.mpr ⟨sS_X3_flood (Or.inl lk_X3_270) rfl ⟨by decide, by decide⟩, fun _ h => absurd h List.not_mem_nil⟩⟩⟩⟩)
noncomputable def sX3_costOfWay_73 (y0 : Int64) (y5 : Int32) (y6 : Int64) (y8 : Int64) (y10 : Int64) (y12 : Int32) (z : mm_S) : Option ((Int64 × Int32 × Int64 × Int64 × Int64 × Int32 × mm_S) ⊕ (Int32 × mm_S)) := some (.inl (y0, y5, y6, y8, y10, (y12 + 1), z))
theorem kX3_costOfWay_73 (y0 : Int64) (y5 : Int32) (y6 : Int64) (y8 : Int64) (y10 : Int64) (y12 : Int32) (z : mm_S) (oo : mm_R) : mm_Xs (sX3_costOfWay_73 y0 y5 y6 y8 y10 y12 z) (mm_mt (fun x : Int64 × Int32 × Int64 × Int64 × Int64 × Int32 × mm_S => ∃ n, eX3_costOfWay_29 n x.1 x.2.1 x.2.2.1 x.2.2.2.1 x.2.2.2.2.1 x.2.2.2.2.2.1 x.2.2.2.2.2.2 = some oo) (fun v => (fun v : Int32 × mm_S => ((some (mm_I v.1), v.2) : mm_R)) v = oo)) (fun n => eX3_costOfWay_73 n y0 y5 y6 y8 y10 y12 z) oo :=
  xs_row (fun n => qX3_costOfWay_73 n y0 y5 y6 y8 y10 y12 z) (xs_v fun hc => hc)
noncomputable def sX3_costOfWay_43 (y0 : Int64) (y5 : Int32) (y6 : Int64) (y8 : Int64) (y10 : Int64) (y12 : Int32) (w0 : Int32) (z : mm_S) : Option ((Int64 × Int32 × Int64 × Int64 × Int64 × Int32 × mm_S) ⊕ (Int32 × mm_S)) := if w0 = 0 then (sX3_flood (y10 ||| (((pX3_besides y10) ||| y6) &&& y0)) y8 z).bind fun q2 => (sX3_costOfWay_73 y0 y5 y6 y8 q2.1 y12 q2.2) else some (.inr (y12, z))
theorem kX3_costOfWay_43 (y0 : Int64) (y5 : Int32) (y6 : Int64) (y8 : Int64) (y10 : Int64) (y12 : Int32) (w0 : Int32) (z : mm_S) (oo : mm_R) : mm_Xs (sX3_costOfWay_43 y0 y5 y6 y8 y10 y12 w0 z) (mm_mt (fun x : Int64 × Int32 × Int64 × Int64 × Int64 × Int32 × mm_S => ∃ n, eX3_costOfWay_29 n x.1 x.2.1 x.2.2.1 x.2.2.2.1 x.2.2.2.2.1 x.2.2.2.2.2.1 x.2.2.2.2.2.2 = some oo) (fun v => (fun v : Int32 × mm_S => ((some (mm_I v.1), v.2) : mm_R)) v = oo)) (fun n => eX3_costOfWay_43 n y0 y5 y6 y8 y10 y12 w0 z) oo :=
  xs_row (fun n => qX3_costOfWay_43 n y0 y5 y6 y8 y10 y12 w0 z) (xs_if (xs_bd fun q2 => (kX3_costOfWay_73 y0 y5 y6 y8 q2.1 y12 q2.2 oo)) (xs_v fun hc => ⟨0, congrArg some hc⟩))
noncomputable def lX3_costOfWay_29 (s : Int64 × Int32 × Int64 × Int64 × Int64 × Int32 × mm_S) : Option ((Int64 × Int32 × Int64 × Int64 × Int64 × Int32 × mm_S) ⊕ (Int32 × mm_S)) := if 36 < s.2.2.2.2.2.1 then some (.inr ((-1), s.2.2.2.2.2.2)) else (sX3_costOfWay_43 s.1 s.2.1 s.2.2.1 s.2.2.2.1 s.2.2.2.2.1 s.2.2.2.2.2.1 (pX3_has s.2.2.2.2.1 s.2.1) s.2.2.2.2.2.2)
noncomputable def sX3_costOfWay_29 (y0 : Int64) (y5 : Int32) (y6 : Int64) (y8 : Int64) (y10 : Int64) (y12 : Int32) (z : mm_S) : Option (Int32 × mm_S) := mm_wh (lX3_costOfWay_29 ) mm_fu (y0, y5, y6, y8, y10, y12, z)
theorem kX3_costOfWay_29 (y0 : Int64) (y5 : Int32) (y6 : Int64) (y8 : Int64) (y10 : Int64) (y12 : Int32) (z : mm_S) (oo : mm_R) : mm_Xs (sX3_costOfWay_29 y0 y5 y6 y8 y10 y12 z) (fun v => (fun v : Int32 × mm_S => ((some (mm_I v.1), v.2) : mm_R)) v = oo) (fun n => eX3_costOfWay_29 n y0 y5 y6 y8 y10 y12 z) oo :=
  xs_wh (stp := lX3_costOfWay_29 ) (o := oo) (E := (fun (s : Int64 × Int32 × Int64 × Int64 × Int64 × Int32 × mm_S) n => eX3_costOfWay_29 n s.1 s.2.1 s.2.2.1 s.2.2.2.1 s.2.2.2.2.1 s.2.2.2.2.2.1 s.2.2.2.2.2.2)) (C := (fun v => (fun v : Int32 × mm_S => ((some (mm_I v.1), v.2) : mm_R)) v = oo)) (fun s => xs_row (fun n => qX3_costOfWay_29 n s.1 s.2.1 s.2.2.1 s.2.2.2.1 s.2.2.2.2.1 s.2.2.2.2.2.1 s.2.2.2.2.2.2) (xs_if (xs_v fun hc => ⟨0, congrArg some hc⟩) (kX3_costOfWay_43 s.1 s.2.1 s.2.2.1 s.2.2.2.1 s.2.2.2.2.1 s.2.2.2.2.2.1 (pX3_has s.2.2.2.2.1 s.2.1) s.2.2.2.2.2.2 oo))) mm_fu (y0, y5, y6, y8, y10, y12, z)
noncomputable def sX3_costOfWay_26 (y0 : Int64) (y5 : Int32) (y6 : Int64) (y8 : Int64) (y10 : Int64) (z : mm_S) : Option (Int32 × mm_S) := (sX3_costOfWay_29 y0 y5 y6 y8 y10 0 z)
theorem kX3_costOfWay_26 (y0 : Int64) (y5 : Int32) (y6 : Int64) (y8 : Int64) (y10 : Int64) (z : mm_S) (oo : mm_R) : mm_Xs (sX3_costOfWay_26 y0 y5 y6 y8 y10 z) (fun v => (fun v : Int32 × mm_S => ((some (mm_I v.1), v.2) : mm_R)) v = oo) (fun n => eX3_costOfWay_26 n y0 y5 y6 y8 y10 z) oo :=
  xs_row (fun n => qX3_costOfWay_26 n y0 y5 y6 y8 y10 z) (kX3_costOfWay_29 y0 y5 y6 y8 y10 0 z oo)
noncomputable def sX3_costOfWay_0 (x1 : Int64) (x2 : Int64) (x3 : Int32) (x4 : Int32) (z : mm_S) : Option (Int32 × mm_S) := (sX3_flood (((pX3_setOf x3) &&& x1) &&& (x1 &&& x2)) (x1 &&& x2) z).bind fun q1 => (sX3_costOfWay_26 x1 x4 ((pX3_setOf x3) &&& x1) (x1 &&& x2) q1.1 q1.2)
theorem kX3_costOfWay_0 (x1 : Int64) (x2 : Int64) (x3 : Int32) (x4 : Int32) (z : mm_S) (oo : mm_R) : mm_Xs (sX3_costOfWay_0 x1 x2 x3 x4 z) (fun v => (fun v : Int32 × mm_S => ((some (mm_I v.1), v.2) : mm_R)) v = oo) (fun n => eX3_costOfWay_0 n x1 x2 x3 x4 z) oo :=
  xs_row (fun n => qX3_costOfWay_0 n x1 x2 x3 x4 z) (xs_bd fun q1 => (kX3_costOfWay_26 x1 x4 ((pX3_setOf x3) &&& x1) (x1 &&& x2) q1.1 q1.2 oo))
noncomputable def sX3_costOfWay (x1 : Int64) (x2 : Int64) (x3 : Int32) (x4 : Int32) (z : mm_S) : Option (Int32 × mm_S) := sX3_costOfWay_0 x1 x2 x3 x4 z
theorem sp_X3_costOfWay (x1 : Int64) (x2 : Int64) (x3 : Int32) (x4 : Int32) (z : mm_S) (hk : ∀ v ∈ [mm_J x1, mm_J x2, mm_I x3, mm_I x4], mm_ok 46 lyTX 48 17 v) (q : Int32 × mm_S) (hq : sX3_costOfWay x1 x2 x3 x4 z = some q) : f_X3_costOfWay [mm_J x1, mm_J x2, mm_I x3, mm_I x4] z (some (mm_I q.1), q.2) := ⟨Nat.le_of_ble_eq_true rfl, kX3_costOfWay_0 x1 x2 x3 x4 z _ q hq rfl⟩
noncomputable def clo_X3_costOfWay (as : List mm_V) (z : mm_S) (kk : Option mm_V → mm_S → Option mm_R) : Option mm_R := mm_pj as fun a0 as => mm_pj as fun a1 as => mm_pi as fun a2 as => mm_pi as fun a3 as => (match as with | [] => (sX3_costOfWay a0 a1 a2 a3 z).bind fun q => kk (some (mm_I q.1)) q.2 | _ => none)
theorem cs_X3_costOfWay : mm_cs lyTX 46 48 17 f_X3_costOfWay clo_X3_costOfWay := by
  intro as z K o hk h
  obtain ⟨a0, r0, rfl, g0⟩ := mm_pj_e h
  obtain ⟨a1, r1, rfl, g1⟩ := mm_pj_e g0
  obtain ⟨a2, r2, rfl, g2⟩ := mm_pi_e g1
  obtain ⟨a3, r3, rfl, g3⟩ := mm_pi_e g2
  rcases r3 with _ | ⟨u, w⟩
  rotate_left
  · cases g3
  obtain ⟨q, hq, hq2⟩ := Option.bind_eq_some_iff.mp g3
  exact ⟨_, _, sp_X3_costOfWay a0 a1 a2 a3 z hk q hq, fun v hv => by cases hv; exact Or.inl ⟨_, rfl⟩, hq2⟩
theorem sS_X3_costOfWay {own : String} {R : Room} {ar : Nat → Nat} {k : Nat} (hlink : Cond.methodLink own k yX3_costOfWay ∈ lw_gd ∨ ∃ host, (own, k, yX3_costOfWay, host) ∈ nmA) (har : ar k = 4) (hr : 3 ≤ R.frames ∧ 91 ≤ R.locals) : mm_okS lyTX lyFA lenX snX 46 48 17 roX rsA nfA nmA ssX own R ar k clo_X3_costOfWay :=
  Or.inl ⟨yX3_costOfWay, cX3_costOfWay, 15, some .int, rm_X3_costOfWay, f_X3_costOfWay, M_X3_costOfWay, cs_X3_costOfWay, hlink, ⟨ws_X3_costOfWay, wi_X3_costOfWay, wc_X3_costOfWay⟩, ⟨by decide +kernel, by decide +kernel, by rw [har]; decide +kernel⟩, ⟨rfl, rfl, hr.1, hr.2⟩⟩
-- X3_dig
noncomputable def lV_X3_dig : List (Nat × (List mm_V → mm_S → (Option mm_V → mm_S → Option mm_R) → Option mm_R)) := [(59, clo_X3_finding), (125, clo_X1_cellsOf), (143, clo_X3_orNone), (263, clo_X1_dryCells)]
noncomputable def mV_X3_dig (k : Nat) (as : List mm_V) (z : mm_S) (kk : Option mm_V → mm_S → Option mm_R) : Option mm_R := match mm_at lV_X3_dig k with
  | some f => f as z kk
  | none => none
noncomputable def arV_X3_dig (k : Nat) : Nat := (mm_at [(59, 2), (125, 2), (143, 2), (263, 1)] k).getD 0
noncomputable def lS_X3_dig : List (Nat × (List mm_V → mm_S → (Option mm_V → mm_S → Option mm_R) → Option mm_R)) := [(52, clo_X3_isCell), (266, clo_X3_costOfWay)]
noncomputable def mS_X3_dig (k : Nat) (as : List mm_V) (z : mm_S) (kk : Option mm_V → mm_S → Option mm_R) : Option mm_R := match mm_at lS_X3_dig k with
  | some f => f as z kk
  | none => none
noncomputable def arS_X3_dig (k : Nat) : Nat := (mm_at [(52, 1), (266, 4)] k).getD 0
def ct_X3_dig : List (Nat × List Nat) := [(4, [0, 1, 2]), (11, [0, 1, 2]), (20, [0, 1, 2])]
noncomputable def go_X3_dig : Nat → mm_K := mm_go (fun k => mm_at flX3 k) (fun k => mm_at clX3 k) (fun k => mm_at glX3 k) arV_X3_dig arS_X3_dig mV_X3_dig mS_X3_dig lenX roX snX 3 0 tbX3_dig ct_X3_dig
noncomputable def eX3_dig_0 (n : Nat)  (x1 : Int32) (x2 : Int32) (z : mm_S) : Option mm_R := go_X3_dig n 0 [(0, mm_P 3 0), (1, mm_I x1), (2, mm_I x2)] [] z
noncomputable def eX3_dig_4 (n : Nat)  (y1 : Int32) (y2 : Int32) (w0 : Int32) (z : mm_S) : Option mm_R := go_X3_dig n 4 [(0, mm_P 3 0), (1, mm_I y1), (2, mm_I y2)] [mm_I w0] z
noncomputable def eX3_dig_11 (n : Nat)  (y1 : Int32) (y2 : Int32) (w0 : Int32) (z : mm_S) : Option mm_R := go_X3_dig n 11 [(0, mm_P 3 0), (1, mm_I y1), (2, mm_I y2)] [mm_I w0] z
noncomputable def eX3_dig_20 (n : Nat)  (y1 : Int32) (y2 : Int32) (z : mm_S) : Option mm_R := go_X3_dig n 20 [(0, mm_P 3 0), (1, mm_I y1), (2, mm_I y2)] [] z
set_option maxRecDepth 100000 in
theorem qX3_dig_0 (n : Nat)  (x1 : Int32) (x2 : Int32) (z : mm_S) : eX3_dig_0 (n + 1) x1 x2 z = (eX3_dig_4 n x1 x2 (pX3_isCell x1) z) := rfl
set_option maxRecDepth 100000 in
theorem qX3_dig_4 (n : Nat)  (y1 : Int32) (y2 : Int32) (w0 : Int32) (z : mm_S) : eX3_dig_4 (n + 1) y1 y2 w0 z = (if w0 = 0 then (sX3_finding 0 z).bind fun q1 => some (some (mm_I q1.1), q1.2) else eX3_dig_11 n y1 y2 (pX3_isCell y2) z) := rfl
set_option maxRecDepth 100000 in
theorem qX3_dig_11 (n : Nat)  (y1 : Int32) (y2 : Int32) (w0 : Int32) (z : mm_S) : eX3_dig_11 (n + 1) y1 y2 w0 z = (if w0 = 0 then (sX3_finding 0 z).bind fun q2 => some (some (mm_I q2.1), q2.2) else eX3_dig_20 n y1 y2 z) := rfl
set_option maxRecDepth 100000 in
theorem qX3_dig_20 (n : Nat)  (y1 : Int32) (y2 : Int32) (z : mm_S) : eX3_dig_20 (n + 1) y1 y2 z = ((sX3_costOfWay (pX1_dryCells 2 z) (pX1_cellsOf 2 2 z) y1 y2 z).bind fun q3 => (sX3_orNone q3.1 q3.2).bind fun q4 => some (some (mm_I q4.1), q4.2)) := rfl
def rm_X3_dig : Room := { frames := 3, cells := 0, slots := 0, locals := 91 }
noncomputable def f_X3_dig (as : List mm_V) (z : mm_S) (o : mm_R) : Prop := (as.map mm_cat).sum ≤ 3 ∧ ∃ n, go_X3_dig n 0 (mm_ar 0 as) [] z = some o
theorem M_X3_dig : mm_M lyTX lyFA lenX snX 46 48 17 roX rsA nfA nmA ssX yX3_dig cX3_dig 3 (some .int) rm_X3_dig f_X3_dig :=
  mm_met (rt := 0) (by decide +kernel) ⟨fun h => rfl, fun h => absurd h (by decide), fun h => absurd h (by decide), fun h => absurd h (by decide)⟩ tbX3_dig_ok hsnX okFX3 okLX3 okGX3 (fun _ _ _ _ => rfl) (fun _ _ _ _ => rfl) (List.forall_mem_cons.mpr ⟨sV_X3_finding (Or.inl lk_X3_59) rfl ⟨by decide, by decide⟩, List.forall_mem_cons.mpr ⟨sV_X1_cellsOf (Or.inl lk_X3_125) rfl ⟨by decide, by decide⟩, List.forall_mem_cons.mpr ⟨sV_X3_orNone (Or.inl lk_X3_143) rfl ⟨by decide, by decide⟩, List.forall_mem_cons.mpr ⟨sV_X1_dryCells (Or.inl lk_X3_263) rfl ⟨by decide, by decide⟩, fun _ h => absurd h List.not_mem_nil⟩⟩⟩⟩) (List.forall_mem_cons.mpr ⟨sS_X3_isCell (Or.inl lk_X3_52) rfl ⟨by decide, by decide⟩, List.forall_mem_cons.mpr ⟨sS_X3_costOfWay (Or.inl lk_X3_266) rfl ⟨by decide, by decide⟩, fun _ h => absurd h List.not_mem_nil⟩⟩)
noncomputable def sX3_dig_20 (y1 : Int32) (y2 : Int32) (z : mm_S) : Option (Int32 × mm_S) := (sX3_costOfWay (pX1_dryCells 2 z) (pX1_cellsOf 2 2 z) y1 y2 z).bind fun q3 => (sX3_orNone q3.1 q3.2).bind fun q4 => some (q4.1, q4.2)
theorem kX3_dig_20 (y1 : Int32) (y2 : Int32) (z : mm_S) (oo : mm_R) : mm_Xs (sX3_dig_20 y1 y2 z) (fun v => (fun v : Int32 × mm_S => ((some (mm_I v.1), v.2) : mm_R)) v = oo) (fun n => eX3_dig_20 n y1 y2 z) oo :=
  xs_row (fun n => qX3_dig_20 n y1 y2 z) (xs_bd fun q3 => (xs_bd fun q4 => (xs_v fun hc => ⟨0, congrArg some hc⟩)))
noncomputable def sX3_dig_11 (y1 : Int32) (y2 : Int32) (w0 : Int32) (z : mm_S) : Option (Int32 × mm_S) := if w0 = 0 then (sX3_finding 0 z).bind fun q2 => some (q2.1, q2.2) else (sX3_dig_20 y1 y2 z)
theorem kX3_dig_11 (y1 : Int32) (y2 : Int32) (w0 : Int32) (z : mm_S) (oo : mm_R) : mm_Xs (sX3_dig_11 y1 y2 w0 z) (fun v => (fun v : Int32 × mm_S => ((some (mm_I v.1), v.2) : mm_R)) v = oo) (fun n => eX3_dig_11 n y1 y2 w0 z) oo :=
  xs_row (fun n => qX3_dig_11 n y1 y2 w0 z) (xs_if (xs_bd fun q2 => (xs_v fun hc => ⟨0, congrArg some hc⟩)) (kX3_dig_20 y1 y2 z oo))
noncomputable def sX3_dig_4 (y1 : Int32) (y2 : Int32) (w0 : Int32) (z : mm_S) : Option (Int32 × mm_S) := if w0 = 0 then (sX3_finding 0 z).bind fun q1 => some (q1.1, q1.2) else (sX3_dig_11 y1 y2 (pX3_isCell y2) z)
theorem kX3_dig_4 (y1 : Int32) (y2 : Int32) (w0 : Int32) (z : mm_S) (oo : mm_R) : mm_Xs (sX3_dig_4 y1 y2 w0 z) (fun v => (fun v : Int32 × mm_S => ((some (mm_I v.1), v.2) : mm_R)) v = oo) (fun n => eX3_dig_4 n y1 y2 w0 z) oo :=
  xs_row (fun n => qX3_dig_4 n y1 y2 w0 z) (xs_if (xs_bd fun q1 => (xs_v fun hc => ⟨0, congrArg some hc⟩)) (kX3_dig_11 y1 y2 (pX3_isCell y2) z oo))
noncomputable def sX3_dig_0 (x1 : Int32) (x2 : Int32) (z : mm_S) : Option (Int32 × mm_S) := (sX3_dig_4 x1 x2 (pX3_isCell x1) z)
theorem kX3_dig_0 (x1 : Int32) (x2 : Int32) (z : mm_S) (oo : mm_R) : mm_Xs (sX3_dig_0 x1 x2 z) (fun v => (fun v : Int32 × mm_S => ((some (mm_I v.1), v.2) : mm_R)) v = oo) (fun n => eX3_dig_0 n x1 x2 z) oo :=
  xs_row (fun n => qX3_dig_0 n x1 x2 z) (kX3_dig_4 x1 x2 (pX3_isCell x1) z oo)
noncomputable def sX3_dig (x1 : Int32) (x2 : Int32) (z : mm_S) : Option (Int32 × mm_S) := sX3_dig_0 x1 x2 z
theorem sp_X3_dig (x1 : Int32) (x2 : Int32) (z : mm_S) (hk : ∀ v ∈ [mm_P 3 0, mm_I x1, mm_I x2], mm_ok 46 lyTX 48 17 v) (q : Int32 × mm_S) (hq : sX3_dig x1 x2 z = some q) : f_X3_dig [mm_P 3 0, mm_I x1, mm_I x2] z (some (mm_I q.1), q.2) := ⟨Nat.le_of_ble_eq_true rfl, kX3_dig_0 x1 x2 z _ q hq rfl⟩
noncomputable def clo_X3_dig (as : List mm_V) (z : mm_S) (kk : Option mm_V → mm_S → Option mm_R) : Option mm_R := mm_pr as fun t o0 as => bif Nat.beq t 3 then mm_pi as fun a1 as => mm_pi as fun a2 as => (match as with | [] => (sX3_dig a1 a2 z).bind fun q => kk (some (mm_I q.1)) q.2 | _ => none) else none
theorem cs_X3_dig : mm_cs lyTX 46 48 17 f_X3_dig clo_X3_dig := by
  intro as z K o hk h
  obtain ⟨t0, o0, r0, rfl, g0⟩ := mm_pr_e h
  obtain ⟨b0, k0⟩ := mm_bif_e g0
  obtain rfl := Nat.eq_of_beq_eq_true b0
  obtain ⟨a1, r1, rfl, g1⟩ := mm_pi_e k0
  obtain ⟨a2, r2, rfl, g2⟩ := mm_pi_e g1
  rcases r2 with _ | ⟨u, w⟩
  rotate_left
  · cases g2
  obtain rfl : o0 = 0 := ok3 (hk (mm_P 3 o0) (by simp))
  obtain ⟨q, hq, hq2⟩ := Option.bind_eq_some_iff.mp g2
  exact ⟨_, _, sp_X3_dig a1 a2 z hk q hq, fun v hv => by cases hv; exact Or.inl ⟨_, rfl⟩, hq2⟩
theorem sV_X3_dig {own : String} {R : Room} {ar : Nat → Nat} {k : Nat} (hlink : Cond.methodLink own k yX3_dig ∈ lw_gd ∨ ∃ host, (own, k, yX3_dig, host) ∈ nmA) (har : ar k = 3) (hr : 4 ≤ R.frames ∧ 113 ≤ R.locals) : mm_okV lyTX lyFA lenX snX 46 48 17 roX rsA nfA nmA ssX own R ar k clo_X3_dig := by
  refine ⟨yX3_dig, cX3_dig, 3, some .int, rm_X3_dig, f_X3_dig, 3, 2, (RX3, TX3, 12), M_X3_dig, cs_X3_dig, hlink, ⟨wv_X3_dig, wz_X3_dig, wi_X3_dig, wc_X3_dig⟩, ⟨by decide +kernel, by decide +kernel, by decide +kernel⟩, har, ⟨rfl, rfl, by decide⟩, ?_, ⟨rfl, rfl, hr.1, hr.2⟩⟩
  intro as z K o h
  obtain ⟨t0, o0, r0, rfl, g0⟩ := mm_pr_e h
  obtain ⟨b0, k0⟩ := mm_bif_e g0
  obtain rfl := Nat.eq_of_beq_eq_true b0
  exact ⟨_, _, rfl⟩
-- X3_safe
noncomputable def lV_X3_safe : List (Nat × (List mm_V → mm_S → (Option mm_V → mm_S → Option mm_R) → Option mm_R)) := [(59, clo_X3_finding), (125, clo_X1_cellsOf), (143, clo_X3_orNone), (224, clo_X3_beginMaps), (227, clo_X3_draftFitsAs), (263, clo_X1_dryCells)]
noncomputable def mV_X3_safe (k : Nat) (as : List mm_V) (z : mm_S) (kk : Option mm_V → mm_S → Option mm_R) : Option mm_R := match mm_at lV_X3_safe k with
  | some f => f as z kk
  | none => none
noncomputable def arV_X3_safe (k : Nat) : Nat := (mm_at [(59, 2), (125, 2), (143, 2), (224, 1), (227, 2), (263, 1)] k).getD 0
noncomputable def lS_X3_safe : List (Nat × (List mm_V → mm_S → (Option mm_V → mm_S → Option mm_R) → Option mm_R)) := [(52, clo_X3_isCell), (266, clo_X3_costOfWay)]
noncomputable def mS_X3_safe (k : Nat) (as : List mm_V) (z : mm_S) (kk : Option mm_V → mm_S → Option mm_R) : Option mm_R := match mm_at lS_X3_safe k with
  | some f => f as z kk
  | none => none
noncomputable def arS_X3_safe (k : Nat) : Nat := (mm_at [(52, 1), (266, 4)] k).getD 0
def ct_X3_safe : List (Nat × List Nat) := [(4, [0, 1, 2]), (11, [0, 1, 2]), (20, [0, 1, 2]), (31, [0, 1, 2, 3]), (40, [0, 1, 2, 3, 5, 6]), (43, [0, 1, 2, 3, 5, 6, 7]), (56, [0, 1, 2, 3, 5, 6, 7]), (59, [0, 1, 2, 3, 6, 7]), (92, [0, 1, 2, 3])]
noncomputable def go_X3_safe : Nat → mm_K := mm_go (fun k => mm_at flX3 k) (fun k => mm_at clX3 k) (fun k => mm_at glX3 k) arV_X3_safe arS_X3_safe mV_X3_safe mS_X3_safe lenX roX snX 8 0 tbX3_safe ct_X3_safe
noncomputable def eX3_safe_0 (n : Nat)  (x1 : Int32) (x2 : Int32) (z : mm_S) : Option mm_R := go_X3_safe n 0 [(0, mm_P 3 0), (1, mm_I x1), (2, mm_I x2)] [] z
noncomputable def eX3_safe_4 (n : Nat)  (y1 : Int32) (y2 : Int32) (w0 : Int32) (z : mm_S) : Option mm_R := go_X3_safe n 4 [(0, mm_P 3 0), (1, mm_I y1), (2, mm_I y2)] [mm_I w0] z
noncomputable def eX3_safe_11 (n : Nat)  (y1 : Int32) (y2 : Int32) (w0 : Int32) (z : mm_S) : Option mm_R := go_X3_safe n 11 [(0, mm_P 3 0), (1, mm_I y1), (2, mm_I y2)] [mm_I w0] z
noncomputable def eX3_safe_20 (n : Nat)  (y1 : Int32) (y2 : Int32) (z : mm_S) : Option mm_R := go_X3_safe n 20 [(0, mm_P 3 0), (1, mm_I y1), (2, mm_I y2)] [] z
noncomputable def eX3_safe_31 (n : Nat)  (y1 : Int32) (y2 : Int32) (y3 : Int64) (z : mm_S) : Option mm_R := go_X3_safe n 31 [(0, mm_P 3 0), (1, mm_I y1), (2, mm_I y2), (3, mm_J y3)] [] z
noncomputable def eX3_safe_40 (n : Nat)  (y1 : Int32) (y2 : Int32) (y3 : Int64) (y5 : Int32) (y6 : Int32) (z : mm_S) : Option mm_R := go_X3_safe n 40 [(0, mm_P 3 0), (1, mm_I y1), (2, mm_I y2), (3, mm_J y3), (5, mm_I y5), (6, mm_I y6)] [] z
noncomputable def eX3_safe_43 (n : Nat)  (y1 : Int32) (y2 : Int32) (y3 : Int64) (y5 : Int32) (y6 : Int32) (y7 : Int32) (z : mm_S) : Option mm_R := go_X3_safe n 43 [(0, mm_P 3 0), (1, mm_I y1), (2, mm_I y2), (3, mm_J y3), (5, mm_I y5), (6, mm_I y6), (7, mm_I y7)] [] z
noncomputable def eX3_safe_92 (n : Nat)  (y1 : Int32) (y2 : Int32) (y3 : Int64) (z : mm_S) : Option mm_R := go_X3_safe n 92 [(0, mm_P 3 0), (1, mm_I y1), (2, mm_I y2), (3, mm_J y3)] [] z
noncomputable def eX3_safe_56 (n : Nat)  (y1 : Int32) (y2 : Int32) (y3 : Int64) (y5 : Int32) (y6 : Int32) (y7 : Int32) (w0 : Int32) (z : mm_S) : Option mm_R := go_X3_safe n 56 [(0, mm_P 3 0), (1, mm_I y1), (2, mm_I y2), (3, mm_J y3), (5, mm_I y5), (6, mm_I y6), (7, mm_I y7)] [mm_I w0] z
noncomputable def eX3_safe_59 (n : Nat)  (y1 : Int32) (y2 : Int32) (y3 : Int64) (y6 : Int32) (y7 : Int32) (z : mm_S) : Option mm_R := go_X3_safe n 59 [(0, mm_P 3 0), (1, mm_I y1), (2, mm_I y2), (3, mm_J y3), (6, mm_I y6), (7, mm_I y7)] [] z
set_option maxRecDepth 100000 in
theorem qX3_safe_0 (n : Nat)  (x1 : Int32) (x2 : Int32) (z : mm_S) : eX3_safe_0 (n + 1) x1 x2 z = (eX3_safe_4 n x1 x2 (pX3_isCell x1) z) := rfl
set_option maxRecDepth 100000 in
theorem qX3_safe_4 (n : Nat)  (y1 : Int32) (y2 : Int32) (w0 : Int32) (z : mm_S) : eX3_safe_4 (n + 1) y1 y2 w0 z = (if w0 = 0 then (sX3_finding 0 z).bind fun q1 => some (some (mm_I q1.1), q1.2) else eX3_safe_11 n y1 y2 (pX3_isCell y2) z) := rfl
set_option maxRecDepth 100000 in
theorem qX3_safe_11 (n : Nat)  (y1 : Int32) (y2 : Int32) (w0 : Int32) (z : mm_S) : eX3_safe_11 (n + 1) y1 y2 w0 z = (if w0 = 0 then (sX3_finding 0 z).bind fun q2 => some (some (mm_I q2.1), q2.2) else eX3_safe_20 n y1 y2 z) := rfl
set_option maxRecDepth 100000 in
theorem qX3_safe_20 (n : Nat)  (y1 : Int32) (y2 : Int32) (z : mm_S) : eX3_safe_20 (n + 1) y1 y2 z = (eX3_safe_31 n y1 y2 (pX1_dryCells 2 z) z) := rfl
set_option maxRecDepth 100000 in
theorem qX3_safe_31 (n : Nat)  (y1 : Int32) (y2 : Int32) (y3 : Int64) (z : mm_S) : eX3_safe_31 (n + 1) y1 y2 y3 z = ((sX3_beginMaps  z).bind fun q3 => eX3_safe_40 n y1 y2 y3 0 q3.1 q3.2) := rfl
set_option maxRecDepth 100000 in
theorem qX3_safe_40 (n : Nat)  (y1 : Int32) (y2 : Int32) (y3 : Int64) (y5 : Int32) (y6 : Int32) (z : mm_S) : eX3_safe_40 (n + 1) y1 y2 y3 y5 y6 z = (eX3_safe_43 n y1 y2 y3 y5 y6 0 z) := rfl
set_option maxRecDepth 100000 in
theorem qX3_safe_43 (n : Nat)  (y1 : Int32) (y2 : Int32) (y3 : Int64) (y5 : Int32) (y6 : Int32) (y7 : Int32) (z : mm_S) : eX3_safe_43 (n + 1) y1 y2 y3 y5 y6 y7 z = (if y6 ≤ y7 then if y5 = 0 then (sX3_finding 3 z).bind fun q4 => some (some (mm_I q4.1), q4.2) else eX3_safe_92 n y1 y2 y3 z else (sX3_draftFitsAs y7 z).bind fun q5 => eX3_safe_56 n y1 y2 y3 y5 y6 y7 q5.1 q5.2) := rfl
set_option maxRecDepth 100000 in
theorem qX3_safe_92 (n : Nat)  (y1 : Int32) (y2 : Int32) (y3 : Int64) (z : mm_S) : eX3_safe_92 (n + 1) y1 y2 y3 z = ((sX3_costOfWay y3 (pX1_cellsOf 2 2 z) y1 y2 z).bind fun q6 => (sX3_orNone q6.1 q6.2).bind fun q7 => some (some (mm_I q7.1), q7.2)) := rfl
set_option maxRecDepth 100000 in
theorem qX3_safe_56 (n : Nat)  (y1 : Int32) (y2 : Int32) (y3 : Int64) (y5 : Int32) (y6 : Int32) (y7 : Int32) (w0 : Int32) (z : mm_S) : eX3_safe_56 (n + 1) y1 y2 y3 y5 y6 y7 w0 z = (if w0 = 0 then eX3_safe_43 n y1 y2 y3 y5 y6 (y7 + 1) z else eX3_safe_59 n y1 y2 y3 y6 y7 z) := rfl
set_option maxRecDepth 100000 in
theorem qX3_safe_59 (n : Nat)  (y1 : Int32) (y2 : Int32) (y3 : Int64) (y6 : Int32) (y7 : Int32) (z : mm_S) : eX3_safe_59 (n + 1) y1 y2 y3 y6 y7 z = (eX3_safe_43 n y1 y2 (y3 &&& (pX1_dryCells 26 z)) 1 y6 (y7 + 1) z) := rfl
def rm_X3_safe : Room := { frames := 5, cells := 0, slots := 0, locals := 124 }
noncomputable def f_X3_safe (as : List mm_V) (z : mm_S) (o : mm_R) : Prop := (as.map mm_cat).sum ≤ 8 ∧ ∃ n, go_X3_safe n 0 (mm_ar 0 as) [] z = some o
theorem M_X3_safe : mm_M lyTX lyFA lenX snX 46 48 17 roX rsA nfA nmA ssX yX3_safe cX3_safe 8 (some .int) rm_X3_safe f_X3_safe :=
  mm_met (rt := 0) (by decide +kernel) ⟨fun h => rfl, fun h => absurd h (by decide), fun h => absurd h (by decide), fun h => absurd h (by decide)⟩ tbX3_safe_ok hsnX okFX3 okLX3 okGX3 (fun _ _ _ _ => rfl) (fun _ _ _ _ => rfl) (List.forall_mem_cons.mpr ⟨sV_X3_finding (Or.inl lk_X3_59) rfl ⟨by decide, by decide⟩, List.forall_mem_cons.mpr ⟨sV_X1_cellsOf (Or.inl lk_X3_125) rfl ⟨by decide, by decide⟩, List.forall_mem_cons.mpr ⟨sV_X3_orNone (Or.inl lk_X3_143) rfl ⟨by decide, by decide⟩, List.forall_mem_cons.mpr ⟨sV_X3_beginMaps (Or.inl lk_X3_224) rfl ⟨by decide, by decide⟩, List.forall_mem_cons.mpr ⟨sV_X3_draftFitsAs (Or.inl lk_X3_227) rfl ⟨by decide, by decide⟩, List.forall_mem_cons.mpr ⟨sV_X1_dryCells (Or.inl lk_X3_263) rfl ⟨by decide, by decide⟩, fun _ h => absurd h List.not_mem_nil⟩⟩⟩⟩⟩⟩) (List.forall_mem_cons.mpr ⟨sS_X3_isCell (Or.inl lk_X3_52) rfl ⟨by decide, by decide⟩, List.forall_mem_cons.mpr ⟨sS_X3_costOfWay (Or.inl lk_X3_266) rfl ⟨by decide, by decide⟩, fun _ h => absurd h List.not_mem_nil⟩⟩)
noncomputable def sX3_safe_59 (y1 : Int32) (y2 : Int32) (y3 : Int64) (y6 : Int32) (y7 : Int32) (z : mm_S) : Option ((Int32 × Int32 × Int64 × Int32 × Int32 × Int32 × mm_S) ⊕ (Int32 × mm_S)) := some (.inl (y1, y2, (y3 &&& (pX1_dryCells 26 z)), 1, y6, (y7 + 1), z))
theorem kX3_safe_59 (y1 : Int32) (y2 : Int32) (y3 : Int64) (y6 : Int32) (y7 : Int32) (z : mm_S) (oo : mm_R) : mm_Xs (sX3_safe_59 y1 y2 y3 y6 y7 z) (mm_mt (fun x : Int32 × Int32 × Int64 × Int32 × Int32 × Int32 × mm_S => ∃ n, eX3_safe_43 n x.1 x.2.1 x.2.2.1 x.2.2.2.1 x.2.2.2.2.1 x.2.2.2.2.2.1 x.2.2.2.2.2.2 = some oo) (fun v => (fun v : Int32 × mm_S => ((some (mm_I v.1), v.2) : mm_R)) v = oo)) (fun n => eX3_safe_59 n y1 y2 y3 y6 y7 z) oo :=
  xs_row (fun n => qX3_safe_59 n y1 y2 y3 y6 y7 z) (xs_v fun hc => hc)
noncomputable def sX3_safe_56 (y1 : Int32) (y2 : Int32) (y3 : Int64) (y5 : Int32) (y6 : Int32) (y7 : Int32) (w0 : Int32) (z : mm_S) : Option ((Int32 × Int32 × Int64 × Int32 × Int32 × Int32 × mm_S) ⊕ (Int32 × mm_S)) := if w0 = 0 then some (.inl (y1, y2, y3, y5, y6, (y7 + 1), z)) else (sX3_safe_59 y1 y2 y3 y6 y7 z)
theorem kX3_safe_56 (y1 : Int32) (y2 : Int32) (y3 : Int64) (y5 : Int32) (y6 : Int32) (y7 : Int32) (w0 : Int32) (z : mm_S) (oo : mm_R) : mm_Xs (sX3_safe_56 y1 y2 y3 y5 y6 y7 w0 z) (mm_mt (fun x : Int32 × Int32 × Int64 × Int32 × Int32 × Int32 × mm_S => ∃ n, eX3_safe_43 n x.1 x.2.1 x.2.2.1 x.2.2.2.1 x.2.2.2.2.1 x.2.2.2.2.2.1 x.2.2.2.2.2.2 = some oo) (fun v => (fun v : Int32 × mm_S => ((some (mm_I v.1), v.2) : mm_R)) v = oo)) (fun n => eX3_safe_56 n y1 y2 y3 y5 y6 y7 w0 z) oo :=
  xs_row (fun n => qX3_safe_56 n y1 y2 y3 y5 y6 y7 w0 z) (xs_if (xs_v fun hc => hc) (kX3_safe_59 y1 y2 y3 y6 y7 z oo))
noncomputable def sX3_safe_92 (y1 : Int32) (y2 : Int32) (y3 : Int64) (z : mm_S) : Option (Int32 × mm_S) := (sX3_costOfWay y3 (pX1_cellsOf 2 2 z) y1 y2 z).bind fun q6 => (sX3_orNone q6.1 q6.2).bind fun q7 => some (q7.1, q7.2)
theorem kX3_safe_92 (y1 : Int32) (y2 : Int32) (y3 : Int64) (z : mm_S) (oo : mm_R) : mm_Xs (sX3_safe_92 y1 y2 y3 z) (fun v => (fun v : Int32 × mm_S => ((some (mm_I v.1), v.2) : mm_R)) v = oo) (fun n => eX3_safe_92 n y1 y2 y3 z) oo :=
  xs_row (fun n => qX3_safe_92 n y1 y2 y3 z) (xs_bd fun q6 => (xs_bd fun q7 => (xs_v fun hc => ⟨0, congrArg some hc⟩)))
noncomputable def lX3_safe_43 (s : Int32 × Int32 × Int64 × Int32 × Int32 × Int32 × mm_S) : Option ((Int32 × Int32 × Int64 × Int32 × Int32 × Int32 × mm_S) ⊕ (Int32 × mm_S)) := if s.2.2.2.2.1 ≤ s.2.2.2.2.2.1 then if s.2.2.2.1 = 0 then (sX3_finding 3 s.2.2.2.2.2.2).bind fun q4 => some (.inr (q4.1, q4.2)) else ((sX3_safe_92 s.1 s.2.1 s.2.2.1 s.2.2.2.2.2.2).map fun w => (Sum.inr w)) else (sX3_draftFitsAs s.2.2.2.2.2.1 s.2.2.2.2.2.2).bind fun q5 => (sX3_safe_56 s.1 s.2.1 s.2.2.1 s.2.2.2.1 s.2.2.2.2.1 s.2.2.2.2.2.1 q5.1 q5.2)
noncomputable def sX3_safe_43 (y1 : Int32) (y2 : Int32) (y3 : Int64) (y5 : Int32) (y6 : Int32) (y7 : Int32) (z : mm_S) : Option (Int32 × mm_S) := mm_wh (lX3_safe_43 ) mm_fu (y1, y2, y3, y5, y6, y7, z)
theorem kX3_safe_43 (y1 : Int32) (y2 : Int32) (y3 : Int64) (y5 : Int32) (y6 : Int32) (y7 : Int32) (z : mm_S) (oo : mm_R) : mm_Xs (sX3_safe_43 y1 y2 y3 y5 y6 y7 z) (fun v => (fun v : Int32 × mm_S => ((some (mm_I v.1), v.2) : mm_R)) v = oo) (fun n => eX3_safe_43 n y1 y2 y3 y5 y6 y7 z) oo :=
  xs_wh (stp := lX3_safe_43 ) (o := oo) (E := (fun (s : Int32 × Int32 × Int64 × Int32 × Int32 × Int32 × mm_S) n => eX3_safe_43 n s.1 s.2.1 s.2.2.1 s.2.2.2.1 s.2.2.2.2.1 s.2.2.2.2.2.1 s.2.2.2.2.2.2)) (C := (fun v => (fun v : Int32 × mm_S => ((some (mm_I v.1), v.2) : mm_R)) v = oo)) (fun s => xs_row (fun n => qX3_safe_43 n s.1 s.2.1 s.2.2.1 s.2.2.2.1 s.2.2.2.2.1 s.2.2.2.2.2.1 s.2.2.2.2.2.2) (xs_if (xs_if (xs_bd fun q4 => (xs_v fun hc => ⟨0, congrArg some hc⟩)) (xs_map (f := fun w => (Sum.inr w)) (kX3_safe_92 s.1 s.2.1 s.2.2.1 s.2.2.2.2.2.2 oo) (fun _ h => h))) (xs_bd fun q5 => (kX3_safe_56 s.1 s.2.1 s.2.2.1 s.2.2.2.1 s.2.2.2.2.1 s.2.2.2.2.2.1 q5.1 q5.2 oo)))) mm_fu (y1, y2, y3, y5, y6, y7, z)
noncomputable def sX3_safe_40 (y1 : Int32) (y2 : Int32) (y3 : Int64) (y5 : Int32) (y6 : Int32) (z : mm_S) : Option (Int32 × mm_S) := (sX3_safe_43 y1 y2 y3 y5 y6 0 z)
theorem kX3_safe_40 (y1 : Int32) (y2 : Int32) (y3 : Int64) (y5 : Int32) (y6 : Int32) (z : mm_S) (oo : mm_R) : mm_Xs (sX3_safe_40 y1 y2 y3 y5 y6 z) (fun v => (fun v : Int32 × mm_S => ((some (mm_I v.1), v.2) : mm_R)) v = oo) (fun n => eX3_safe_40 n y1 y2 y3 y5 y6 z) oo :=
  xs_row (fun n => qX3_safe_40 n y1 y2 y3 y5 y6 z) (kX3_safe_43 y1 y2 y3 y5 y6 0 z oo)
noncomputable def sX3_safe_31 (y1 : Int32) (y2 : Int32) (y3 : Int64) (z : mm_S) : Option (Int32 × mm_S) := (sX3_beginMaps  z).bind fun q3 => (sX3_safe_40 y1 y2 y3 0 q3.1 q3.2)
theorem kX3_safe_31 (y1 : Int32) (y2 : Int32) (y3 : Int64) (z : mm_S) (oo : mm_R) : mm_Xs (sX3_safe_31 y1 y2 y3 z) (fun v => (fun v : Int32 × mm_S => ((some (mm_I v.1), v.2) : mm_R)) v = oo) (fun n => eX3_safe_31 n y1 y2 y3 z) oo :=
  xs_row (fun n => qX3_safe_31 n y1 y2 y3 z) (xs_bd fun q3 => (kX3_safe_40 y1 y2 y3 0 q3.1 q3.2 oo))
noncomputable def sX3_safe_20 (y1 : Int32) (y2 : Int32) (z : mm_S) : Option (Int32 × mm_S) := (sX3_safe_31 y1 y2 (pX1_dryCells 2 z) z)
theorem kX3_safe_20 (y1 : Int32) (y2 : Int32) (z : mm_S) (oo : mm_R) : mm_Xs (sX3_safe_20 y1 y2 z) (fun v => (fun v : Int32 × mm_S => ((some (mm_I v.1), v.2) : mm_R)) v = oo) (fun n => eX3_safe_20 n y1 y2 z) oo :=
  xs_row (fun n => qX3_safe_20 n y1 y2 z) (kX3_safe_31 y1 y2 (pX1_dryCells 2 z) z oo)
noncomputable def sX3_safe_11 (y1 : Int32) (y2 : Int32) (w0 : Int32) (z : mm_S) : Option (Int32 × mm_S) := if w0 = 0 then (sX3_finding 0 z).bind fun q2 => some (q2.1, q2.2) else (sX3_safe_20 y1 y2 z)
theorem kX3_safe_11 (y1 : Int32) (y2 : Int32) (w0 : Int32) (z : mm_S) (oo : mm_R) : mm_Xs (sX3_safe_11 y1 y2 w0 z) (fun v => (fun v : Int32 × mm_S => ((some (mm_I v.1), v.2) : mm_R)) v = oo) (fun n => eX3_safe_11 n y1 y2 w0 z) oo :=
  xs_row (fun n => qX3_safe_11 n y1 y2 w0 z) (xs_if (xs_bd fun q2 => (xs_v fun hc => ⟨0, congrArg some hc⟩)) (kX3_safe_20 y1 y2 z oo))
noncomputable def sX3_safe_4 (y1 : Int32) (y2 : Int32) (w0 : Int32) (z : mm_S) : Option (Int32 × mm_S) := if w0 = 0 then (sX3_finding 0 z).bind fun q1 => some (q1.1, q1.2) else (sX3_safe_11 y1 y2 (pX3_isCell y2) z)
theorem kX3_safe_4 (y1 : Int32) (y2 : Int32) (w0 : Int32) (z : mm_S) (oo : mm_R) : mm_Xs (sX3_safe_4 y1 y2 w0 z) (fun v => (fun v : Int32 × mm_S => ((some (mm_I v.1), v.2) : mm_R)) v = oo) (fun n => eX3_safe_4 n y1 y2 w0 z) oo :=
  xs_row (fun n => qX3_safe_4 n y1 y2 w0 z) (xs_if (xs_bd fun q1 => (xs_v fun hc => ⟨0, congrArg some hc⟩)) (kX3_safe_11 y1 y2 (pX3_isCell y2) z oo))
noncomputable def sX3_safe_0 (x1 : Int32) (x2 : Int32) (z : mm_S) : Option (Int32 × mm_S) := (sX3_safe_4 x1 x2 (pX3_isCell x1) z)
theorem kX3_safe_0 (x1 : Int32) (x2 : Int32) (z : mm_S) (oo : mm_R) : mm_Xs (sX3_safe_0 x1 x2 z) (fun v => (fun v : Int32 × mm_S => ((some (mm_I v.1), v.2) : mm_R)) v = oo) (fun n => eX3_safe_0 n x1 x2 z) oo :=
  xs_row (fun n => qX3_safe_0 n x1 x2 z) (kX3_safe_4 x1 x2 (pX3_isCell x1) z oo)
noncomputable def sX3_safe (x1 : Int32) (x2 : Int32) (z : mm_S) : Option (Int32 × mm_S) := sX3_safe_0 x1 x2 z
theorem sp_X3_safe (x1 : Int32) (x2 : Int32) (z : mm_S) (hk : ∀ v ∈ [mm_P 3 0, mm_I x1, mm_I x2], mm_ok 46 lyTX 48 17 v) (q : Int32 × mm_S) (hq : sX3_safe x1 x2 z = some q) : f_X3_safe [mm_P 3 0, mm_I x1, mm_I x2] z (some (mm_I q.1), q.2) := ⟨Nat.le_of_ble_eq_true rfl, kX3_safe_0 x1 x2 z _ q hq rfl⟩
noncomputable def clo_X3_safe (as : List mm_V) (z : mm_S) (kk : Option mm_V → mm_S → Option mm_R) : Option mm_R := mm_pr as fun t o0 as => bif Nat.beq t 3 then mm_pi as fun a1 as => mm_pi as fun a2 as => (match as with | [] => (sX3_safe a1 a2 z).bind fun q => kk (some (mm_I q.1)) q.2 | _ => none) else none
theorem cs_X3_safe : mm_cs lyTX 46 48 17 f_X3_safe clo_X3_safe := by
  intro as z K o hk h
  obtain ⟨t0, o0, r0, rfl, g0⟩ := mm_pr_e h
  obtain ⟨b0, k0⟩ := mm_bif_e g0
  obtain rfl := Nat.eq_of_beq_eq_true b0
  obtain ⟨a1, r1, rfl, g1⟩ := mm_pi_e k0
  obtain ⟨a2, r2, rfl, g2⟩ := mm_pi_e g1
  rcases r2 with _ | ⟨u, w⟩
  rotate_left
  · cases g2
  obtain rfl : o0 = 0 := ok3 (hk (mm_P 3 o0) (by simp))
  obtain ⟨q, hq, hq2⟩ := Option.bind_eq_some_iff.mp g2
  exact ⟨_, _, sp_X3_safe a1 a2 z hk q hq, fun v hv => by cases hv; exact Or.inl ⟨_, rfl⟩, hq2⟩
theorem sV_X3_safe {own : String} {R : Room} {ar : Nat → Nat} {k : Nat} (hlink : Cond.methodLink own k yX3_safe ∈ lw_gd ∨ ∃ host, (own, k, yX3_safe, host) ∈ nmA) (har : ar k = 3) (hr : 6 ≤ R.frames ∧ 151 ≤ R.locals) : mm_okV lyTX lyFA lenX snX 46 48 17 roX rsA nfA nmA ssX own R ar k clo_X3_safe := by
  refine ⟨yX3_safe, cX3_safe, 8, some .int, rm_X3_safe, f_X3_safe, 3, 2, (RX3, TX3, 12), M_X3_safe, cs_X3_safe, hlink, ⟨wv_X3_safe, wz_X3_safe, wi_X3_safe, wc_X3_safe⟩, ⟨by decide +kernel, by decide +kernel, by decide +kernel⟩, har, ⟨rfl, rfl, by decide⟩, ?_, ⟨rfl, rfl, hr.1, hr.2⟩⟩
  intro as z K o h
  obtain ⟨t0, o0, r0, rfl, g0⟩ := mm_pr_e h
  obtain ⟨b0, k0⟩ := mm_bif_e g0
  obtain rfl := Nat.eq_of_beq_eq_true b0
  exact ⟨_, _, rfl⟩
-- X3_ways
noncomputable def lV_X3_ways : List (Nat × (List mm_V → mm_S → (Option mm_V → mm_S → Option mm_R) → Option mm_R)) := [(59, clo_X3_finding), (263, clo_X1_dryCells)]
noncomputable def mV_X3_ways (k : Nat) (as : List mm_V) (z : mm_S) (kk : Option mm_V → mm_S → Option mm_R) : Option mm_R := match mm_at lV_X3_ways k with
  | some f => f as z kk
  | none => none
noncomputable def arV_X3_ways (k : Nat) : Nat := (mm_at [(59, 2), (263, 1)] k).getD 0
noncomputable def lS_X3_ways : List (Nat × (List mm_V → mm_S → (Option mm_V → mm_S → Option mm_R) → Option mm_R)) := [(52, clo_X3_isCell), (172, clo_X3_setOf), (270, clo_X3_flood)]
noncomputable def mS_X3_ways (k : Nat) (as : List mm_V) (z : mm_S) (kk : Option mm_V → mm_S → Option mm_R) : Option mm_R := match mm_at lS_X3_ways k with
  | some f => f as z kk
  | none => none
noncomputable def arS_X3_ways (k : Nat) : Nat := (mm_at [(52, 1), (172, 1), (270, 2)] k).getD 0
def ct_X3_ways : List (Nat × List Nat) := [(4, [0, 1]), (14, [0, 1]), (25, [1, 2])]
noncomputable def go_X3_ways : Nat → mm_K := mm_go (fun k => mm_at flX3 k) (fun k => mm_at clX3 k) (fun k => mm_at glX3 k) arV_X3_ways arS_X3_ways mV_X3_ways mS_X3_ways lenX roX snX 4 2 tbX3_ways ct_X3_ways
noncomputable def eX3_ways_0 (n : Nat)  (x1 : Int32) (z : mm_S) : Option mm_R := go_X3_ways n 0 [(0, mm_P 3 0), (1, mm_I x1)] [] z
noncomputable def eX3_ways_4 (n : Nat)  (y1 : Int32) (w0 : Int32) (z : mm_S) : Option mm_R := go_X3_ways n 4 [(0, mm_P 3 0), (1, mm_I y1)] [mm_I w0] z
noncomputable def eX3_ways_14 (n : Nat)  (y1 : Int32) (z : mm_S) : Option mm_R := go_X3_ways n 14 [(0, mm_P 3 0), (1, mm_I y1)] [] z
noncomputable def eX3_ways_25 (n : Nat) (y1 : Int32) (y2 : Int64) (z : mm_S) : Option mm_R := go_X3_ways n 25 [(1, mm_I y1), (2, mm_J y2)] [] z
set_option maxRecDepth 100000 in
theorem qX3_ways_0 (n : Nat)  (x1 : Int32) (z : mm_S) : eX3_ways_0 (n + 1) x1 z = (eX3_ways_4 n x1 (pX3_isCell x1) z) := rfl
set_option maxRecDepth 100000 in
theorem qX3_ways_4 (n : Nat)  (y1 : Int32) (w0 : Int32) (z : mm_S) : eX3_ways_4 (n + 1) y1 w0 z = (if w0 = 0 then (sX3_finding 0 z).bind fun q1 => some (some (mm_J (Int32.toInt64 q1.1)), q1.2) else eX3_ways_14 n y1 z) := rfl
set_option maxRecDepth 100000 in
theorem qX3_ways_14 (n : Nat)  (y1 : Int32) (z : mm_S) : eX3_ways_14 (n + 1) y1 z = (eX3_ways_25 n y1 (pX1_dryCells 2 z) z) := rfl
set_option maxRecDepth 100000 in
theorem qX3_ways_25 (n : Nat) (y1 : Int32) (y2 : Int64) (z : mm_S) : eX3_ways_25 (n + 1) y1 y2 z = ((sX3_flood ((pX3_setOf y1) &&& y2) y2 z).bind fun q2 => some (some (mm_J q2.1), q2.2)) := rfl
def rm_X3_ways : Room := { frames := 3, cells := 0, slots := 0, locals := 64 }
noncomputable def f_X3_ways (as : List mm_V) (z : mm_S) (o : mm_R) : Prop := (as.map mm_cat).sum ≤ 4 ∧ ∃ n, go_X3_ways n 0 (mm_ar 0 as) [] z = some o
theorem M_X3_ways : mm_M lyTX lyFA lenX snX 46 48 17 roX rsA nfA nmA ssX yX3_ways cX3_ways 4 (some .long) rm_X3_ways f_X3_ways :=
  mm_met (rt := 2) (by decide +kernel) ⟨fun h => absurd h (by decide), fun h => absurd h (by decide), fun h => rfl, fun h => absurd h (by decide)⟩ tbX3_ways_ok hsnX okFX3 okLX3 okGX3 (fun _ _ _ _ => rfl) (fun _ _ _ _ => rfl) (List.forall_mem_cons.mpr ⟨sV_X3_finding (Or.inl lk_X3_59) rfl ⟨by decide, by decide⟩, List.forall_mem_cons.mpr ⟨sV_X1_dryCells (Or.inl lk_X3_263) rfl ⟨by decide, by decide⟩, fun _ h => absurd h List.not_mem_nil⟩⟩) (List.forall_mem_cons.mpr ⟨sS_X3_isCell (Or.inl lk_X3_52) rfl ⟨by decide, by decide⟩, List.forall_mem_cons.mpr ⟨sS_X3_setOf (Or.inl lk_X3_172) rfl ⟨by decide, by decide⟩, List.forall_mem_cons.mpr ⟨sS_X3_flood (Or.inl lk_X3_270) rfl ⟨by decide, by decide⟩, fun _ h => absurd h List.not_mem_nil⟩⟩⟩)
noncomputable def sX3_ways_25 (y1 : Int32) (y2 : Int64) (z : mm_S) : Option (Int64 × mm_S) := (sX3_flood ((pX3_setOf y1) &&& y2) y2 z).bind fun q2 => some (q2.1, q2.2)
theorem kX3_ways_25 (y1 : Int32) (y2 : Int64) (z : mm_S) (oo : mm_R) : mm_Xs (sX3_ways_25 y1 y2 z) (fun v => (fun v : Int64 × mm_S => ((some (mm_J v.1), v.2) : mm_R)) v = oo) (fun n => eX3_ways_25 n y1 y2 z) oo :=
  xs_row (fun n => qX3_ways_25 n y1 y2 z) (xs_bd fun q2 => (xs_v fun hc => ⟨0, congrArg some hc⟩))
noncomputable def sX3_ways_14 (y1 : Int32) (z : mm_S) : Option (Int64 × mm_S) := (sX3_ways_25 y1 (pX1_dryCells 2 z) z)
theorem kX3_ways_14 (y1 : Int32) (z : mm_S) (oo : mm_R) : mm_Xs (sX3_ways_14 y1 z) (fun v => (fun v : Int64 × mm_S => ((some (mm_J v.1), v.2) : mm_R)) v = oo) (fun n => eX3_ways_14 n y1 z) oo :=
  xs_row (fun n => qX3_ways_14 n y1 z) (kX3_ways_25 y1 (pX1_dryCells 2 z) z oo)
noncomputable def sX3_ways_4 (y1 : Int32) (w0 : Int32) (z : mm_S) : Option (Int64 × mm_S) := if w0 = 0 then (sX3_finding 0 z).bind fun q1 => some ((Int32.toInt64 q1.1), q1.2) else (sX3_ways_14 y1 z)
theorem kX3_ways_4 (y1 : Int32) (w0 : Int32) (z : mm_S) (oo : mm_R) : mm_Xs (sX3_ways_4 y1 w0 z) (fun v => (fun v : Int64 × mm_S => ((some (mm_J v.1), v.2) : mm_R)) v = oo) (fun n => eX3_ways_4 n y1 w0 z) oo :=
  xs_row (fun n => qX3_ways_4 n y1 w0 z) (xs_if (xs_bd fun q1 => (xs_v fun hc => ⟨0, congrArg some hc⟩)) (kX3_ways_14 y1 z oo))
noncomputable def sX3_ways_0 (x1 : Int32) (z : mm_S) : Option (Int64 × mm_S) := (sX3_ways_4 x1 (pX3_isCell x1) z)
theorem kX3_ways_0 (x1 : Int32) (z : mm_S) (oo : mm_R) : mm_Xs (sX3_ways_0 x1 z) (fun v => (fun v : Int64 × mm_S => ((some (mm_J v.1), v.2) : mm_R)) v = oo) (fun n => eX3_ways_0 n x1 z) oo :=
  xs_row (fun n => qX3_ways_0 n x1 z) (kX3_ways_4 x1 (pX3_isCell x1) z oo)
noncomputable def sX3_ways (x1 : Int32) (z : mm_S) : Option (Int64 × mm_S) := sX3_ways_0 x1 z
theorem sp_X3_ways (x1 : Int32) (z : mm_S) (hk : ∀ v ∈ [mm_P 3 0, mm_I x1], mm_ok 46 lyTX 48 17 v) (q : Int64 × mm_S) (hq : sX3_ways x1 z = some q) : f_X3_ways [mm_P 3 0, mm_I x1] z (some (mm_J q.1), q.2) := ⟨Nat.le_of_ble_eq_true rfl, kX3_ways_0 x1 z _ q hq rfl⟩
noncomputable def clo_X3_ways (as : List mm_V) (z : mm_S) (kk : Option mm_V → mm_S → Option mm_R) : Option mm_R := mm_pr as fun t o0 as => bif Nat.beq t 3 then mm_pi as fun a1 as => (match as with | [] => (sX3_ways a1 z).bind fun q => kk (some (mm_J q.1)) q.2 | _ => none) else none
theorem cs_X3_ways : mm_cs lyTX 46 48 17 f_X3_ways clo_X3_ways := by
  intro as z K o hk h
  obtain ⟨t0, o0, r0, rfl, g0⟩ := mm_pr_e h
  obtain ⟨b0, k0⟩ := mm_bif_e g0
  obtain rfl := Nat.eq_of_beq_eq_true b0
  obtain ⟨a1, r1, rfl, g1⟩ := mm_pi_e k0
  rcases r1 with _ | ⟨u, w⟩
  rotate_left
  · cases g1
  obtain rfl : o0 = 0 := ok3 (hk (mm_P 3 o0) (by simp))
  obtain ⟨q, hq, hq2⟩ := Option.bind_eq_some_iff.mp g1
  exact ⟨_, _, sp_X3_ways a1 z hk q hq, fun v hv => by cases hv; exact Or.inr ⟨_, rfl⟩, hq2⟩
theorem sV_X3_ways {own : String} {R : Room} {ar : Nat → Nat} {k : Nat} (hlink : Cond.methodLink own k yX3_ways ∈ lw_gd ∨ ∃ host, (own, k, yX3_ways, host) ∈ nmA) (har : ar k = 2) (hr : 4 ≤ R.frames ∧ 87 ≤ R.locals) : mm_okV lyTX lyFA lenX snX 46 48 17 roX rsA nfA nmA ssX own R ar k clo_X3_ways := by
  refine ⟨yX3_ways, cX3_ways, 4, some .long, rm_X3_ways, f_X3_ways, 3, 1, (RX3, TX3, 12), M_X3_ways, cs_X3_ways, hlink, ⟨wv_X3_ways, wz_X3_ways, wi_X3_ways, wc_X3_ways⟩, ⟨by decide +kernel, by decide +kernel, by decide +kernel⟩, har, ⟨rfl, rfl, by decide⟩, ?_, ⟨rfl, rfl, hr.1, hr.2⟩⟩
  intro as z K o h
  obtain ⟨t0, o0, r0, rfl, g0⟩ := mm_pr_e h
  obtain ⟨b0, k0⟩ := mm_bif_e g0
  obtain rfl := Nat.eq_of_beq_eq_true b0
  exact ⟨_, _, rfl⟩
-- X3_years
noncomputable def lV_X3_years : List (Nat × (List mm_V → mm_S → (Option mm_V → mm_S → Option mm_R) → Option mm_R)) := [(59, clo_X3_finding), (277, clo_X0_goOneYear), (280, clo_X0_holes)]
noncomputable def mV_X3_years (k : Nat) (as : List mm_V) (z : mm_S) (kk : Option mm_V → mm_S → Option mm_R) : Option mm_R := match mm_at lV_X3_years k with
  | some f => f as z kk
  | none => none
noncomputable def arV_X3_years (k : Nat) : Nat := (mm_at [(59, 2), (277, 1), (280, 1)] k).getD 0
noncomputable def lS_X3_years : List (Nat × (List mm_V → mm_S → (Option mm_V → mm_S → Option mm_R) → Option mm_R)) := [(118, clo_X3_lies)]
noncomputable def mS_X3_years (k : Nat) (as : List mm_V) (z : mm_S) (kk : Option mm_V → mm_S → Option mm_R) : Option mm_R := match mm_at lS_X3_years k with
  | some f => f as z kk
  | none => none
noncomputable def arS_X3_years (k : Nat) : Nat := (mm_at [(118, 3)] k).getD 0
def ct_X3_years : List (Nat × List Nat) := [(7, [0, 1]), (16, [0, 1]), (37, [0, 1]), (39, [0, 1, 2]), (51, [0, 1, 2])]
noncomputable def go_X3_years : Nat → mm_K := mm_go (fun k => mm_at flX3 k) (fun k => mm_at clX3 k) (fun k => mm_at glX3 k) arV_X3_years arS_X3_years mV_X3_years mS_X3_years lenX roX snX 3 0 tbX3_years ct_X3_years
noncomputable def eX3_years_0 (n : Nat)  (x1 : Int32) (z : mm_S) : Option mm_R := go_X3_years n 0 [(0, mm_P 3 0), (1, mm_I x1)] [] z
noncomputable def eX3_years_7 (n : Nat)  (y1 : Int32) (w0 : Int32) (z : mm_S) : Option mm_R := go_X3_years n 7 [(0, mm_P 3 0), (1, mm_I y1)] [mm_I w0] z
noncomputable def eX3_years_16 (n : Nat)  (y1 : Int32) (z : mm_S) : Option mm_R := go_X3_years n 16 [(0, mm_P 3 0), (1, mm_I y1)] [] z
noncomputable def eX3_years_37 (n : Nat)  (y1 : Int32) (z : mm_S) : Option mm_R := go_X3_years n 37 [(0, mm_P 3 0), (1, mm_I y1)] [] z
noncomputable def eX3_years_39 (n : Nat)  (y1 : Int32) (y2 : Int32) (z : mm_S) : Option mm_R := go_X3_years n 39 [(0, mm_P 3 0), (1, mm_I y1), (2, mm_I y2)] [] z
noncomputable def eX3_years_51 (n : Nat)  (y1 : Int32) (y2 : Int32) (z : mm_S) : Option mm_R := go_X3_years n 51 [(0, mm_P 3 0), (1, mm_I y1), (2, mm_I y2)] [] z
set_option maxRecDepth 100000 in
theorem qX3_years_0 (n : Nat)  (x1 : Int32) (z : mm_S) : eX3_years_0 (n + 1) x1 z = (eX3_years_7 n x1 (pX3_lies x1 1 60) z) := rfl
set_option maxRecDepth 100000 in
theorem qX3_years_7 (n : Nat)  (y1 : Int32) (w0 : Int32) (z : mm_S) : eX3_years_7 (n + 1) y1 w0 z = (if w0 = 0 then (sX3_finding 0 z).bind fun q1 => some (some (mm_I q1.1), q1.2) else eX3_years_16 n y1 z) := rfl
set_option maxRecDepth 100000 in
theorem qX3_years_16 (n : Nat)  (y1 : Int32) (z : mm_S) : eX3_years_16 (n + 1) y1 z = (if ((z.1 1 12) + y1) ≤ 999 then eX3_years_37 n y1 z else (sX3_finding 4 z).bind fun q2 => some (some (mm_I q2.1), q2.2)) := rfl
set_option maxRecDepth 100000 in
theorem qX3_years_37 (n : Nat)  (y1 : Int32) (z : mm_S) : eX3_years_37 (n + 1) y1 z = (eX3_years_39 n y1 0 z) := rfl
set_option maxRecDepth 100000 in
theorem qX3_years_39 (n : Nat)  (y1 : Int32) (y2 : Int32) (z : mm_S) : eX3_years_39 (n + 1) y1 y2 z = (if y1 ≤ y2 then some (some (mm_I (pX0_holes 1 z)), z) else let u3 := (tX0_goOneYear 1 z); eX3_years_51 n y1 y2 u3) := rfl
set_option maxRecDepth 100000 in
theorem qX3_years_51 (n : Nat)  (y1 : Int32) (y2 : Int32) (z : mm_S) : eX3_years_51 (n + 1) y1 y2 z = (eX3_years_39 n y1 (y2 + 1) z) := rfl
def rm_X3_years : Room := { frames := 4, cells := 0, slots := 0, locals := 86 }
noncomputable def f_X3_years (as : List mm_V) (z : mm_S) (o : mm_R) : Prop := (as.map mm_cat).sum ≤ 3 ∧ ∃ n, go_X3_years n 0 (mm_ar 0 as) [] z = some o
theorem M_X3_years : mm_M lyTX lyFA lenX snX 46 48 17 roX rsA nfA nmA ssX yX3_years cX3_years 3 (some .int) rm_X3_years f_X3_years :=
  mm_met (rt := 0) (by decide +kernel) ⟨fun h => rfl, fun h => absurd h (by decide), fun h => absurd h (by decide), fun h => absurd h (by decide)⟩ tbX3_years_ok hsnX okFX3 okLX3 okGX3 (fun _ _ _ _ => rfl) (fun _ _ _ _ => rfl) (List.forall_mem_cons.mpr ⟨sV_X3_finding (Or.inl lk_X3_59) rfl ⟨by decide, by decide⟩, List.forall_mem_cons.mpr ⟨sV_X0_goOneYear (Or.inl lk_X3_277) rfl ⟨by decide, by decide⟩, List.forall_mem_cons.mpr ⟨sV_X0_holes (Or.inl lk_X3_280) rfl ⟨by decide, by decide⟩, fun _ h => absurd h List.not_mem_nil⟩⟩⟩) (List.forall_mem_cons.mpr ⟨sS_X3_lies (Or.inl lk_X3_118) rfl ⟨by decide, by decide⟩, fun _ h => absurd h List.not_mem_nil⟩)
noncomputable def sX3_years_51 (y1 : Int32) (y2 : Int32) (z : mm_S) : Option ((Int32 × Int32 × mm_S) ⊕ (Int32 × mm_S)) := some (.inl (y1, (y2 + 1), z))
theorem kX3_years_51 (y1 : Int32) (y2 : Int32) (z : mm_S) (oo : mm_R) : mm_Xs (sX3_years_51 y1 y2 z) (mm_mt (fun x : Int32 × Int32 × mm_S => ∃ n, eX3_years_39 n x.1 x.2.1 x.2.2 = some oo) (fun v => (fun v : Int32 × mm_S => ((some (mm_I v.1), v.2) : mm_R)) v = oo)) (fun n => eX3_years_51 n y1 y2 z) oo :=
  xs_row (fun n => qX3_years_51 n y1 y2 z) (xs_v fun hc => hc)
noncomputable def lX3_years_39 (s : Int32 × Int32 × mm_S) : Option ((Int32 × Int32 × mm_S) ⊕ (Int32 × mm_S)) := if s.1 ≤ s.2.1 then some (.inr ((pX0_holes 1 s.2.2), s.2.2)) else let u3 := (tX0_goOneYear 1 s.2.2); (sX3_years_51 s.1 s.2.1 u3)
noncomputable def sX3_years_39 (y1 : Int32) (y2 : Int32) (z : mm_S) : Option (Int32 × mm_S) := mm_wh (lX3_years_39 ) mm_fu (y1, y2, z)
theorem kX3_years_39 (y1 : Int32) (y2 : Int32) (z : mm_S) (oo : mm_R) : mm_Xs (sX3_years_39 y1 y2 z) (fun v => (fun v : Int32 × mm_S => ((some (mm_I v.1), v.2) : mm_R)) v = oo) (fun n => eX3_years_39 n y1 y2 z) oo :=
  xs_wh (stp := lX3_years_39 ) (o := oo) (E := (fun (s : Int32 × Int32 × mm_S) n => eX3_years_39 n s.1 s.2.1 s.2.2)) (C := (fun v => (fun v : Int32 × mm_S => ((some (mm_I v.1), v.2) : mm_R)) v = oo)) (fun s => xs_row (fun n => qX3_years_39 n s.1 s.2.1 s.2.2) (xs_if (xs_v fun hc => ⟨0, congrArg some hc⟩) (xs_let ((tX0_goOneYear 1 s.2.2)) (S := fun (u3 : _) => ((sX3_years_51 s.1 s.2.1 u3) : Option ((Int32 × Int32 × mm_S) ⊕ (Int32 × mm_S)))) (T := fun (u3 : _) n => eX3_years_51 n s.1 s.2.1 u3) (fun u3 => (kX3_years_51 s.1 s.2.1 u3 oo))))) mm_fu (y1, y2, z)
noncomputable def sX3_years_37 (y1 : Int32) (z : mm_S) : Option (Int32 × mm_S) := (sX3_years_39 y1 0 z)
theorem kX3_years_37 (y1 : Int32) (z : mm_S) (oo : mm_R) : mm_Xs (sX3_years_37 y1 z) (fun v => (fun v : Int32 × mm_S => ((some (mm_I v.1), v.2) : mm_R)) v = oo) (fun n => eX3_years_37 n y1 z) oo :=
  xs_row (fun n => qX3_years_37 n y1 z) (kX3_years_39 y1 0 z oo)
noncomputable def sX3_years_16 (y1 : Int32) (z : mm_S) : Option (Int32 × mm_S) := if ((z.1 1 12) + y1) ≤ 999 then (sX3_years_37 y1 z) else (sX3_finding 4 z).bind fun q2 => some (q2.1, q2.2)
theorem kX3_years_16 (y1 : Int32) (z : mm_S) (oo : mm_R) : mm_Xs (sX3_years_16 y1 z) (fun v => (fun v : Int32 × mm_S => ((some (mm_I v.1), v.2) : mm_R)) v = oo) (fun n => eX3_years_16 n y1 z) oo :=
  xs_row (fun n => qX3_years_16 n y1 z) (xs_if (kX3_years_37 y1 z oo) (xs_bd fun q2 => (xs_v fun hc => ⟨0, congrArg some hc⟩)))
noncomputable def sX3_years_7 (y1 : Int32) (w0 : Int32) (z : mm_S) : Option (Int32 × mm_S) := if w0 = 0 then (sX3_finding 0 z).bind fun q1 => some (q1.1, q1.2) else (sX3_years_16 y1 z)
theorem kX3_years_7 (y1 : Int32) (w0 : Int32) (z : mm_S) (oo : mm_R) : mm_Xs (sX3_years_7 y1 w0 z) (fun v => (fun v : Int32 × mm_S => ((some (mm_I v.1), v.2) : mm_R)) v = oo) (fun n => eX3_years_7 n y1 w0 z) oo :=
  xs_row (fun n => qX3_years_7 n y1 w0 z) (xs_if (xs_bd fun q1 => (xs_v fun hc => ⟨0, congrArg some hc⟩)) (kX3_years_16 y1 z oo))
noncomputable def sX3_years_0 (x1 : Int32) (z : mm_S) : Option (Int32 × mm_S) := (sX3_years_7 x1 (pX3_lies x1 1 60) z)
theorem kX3_years_0 (x1 : Int32) (z : mm_S) (oo : mm_R) : mm_Xs (sX3_years_0 x1 z) (fun v => (fun v : Int32 × mm_S => ((some (mm_I v.1), v.2) : mm_R)) v = oo) (fun n => eX3_years_0 n x1 z) oo :=
  xs_row (fun n => qX3_years_0 n x1 z) (kX3_years_7 x1 (pX3_lies x1 1 60) z oo)
noncomputable def sX3_years (x1 : Int32) (z : mm_S) : Option (Int32 × mm_S) := sX3_years_0 x1 z
theorem sp_X3_years (x1 : Int32) (z : mm_S) (hk : ∀ v ∈ [mm_P 3 0, mm_I x1], mm_ok 46 lyTX 48 17 v) (q : Int32 × mm_S) (hq : sX3_years x1 z = some q) : f_X3_years [mm_P 3 0, mm_I x1] z (some (mm_I q.1), q.2) := ⟨Nat.le_of_ble_eq_true rfl, kX3_years_0 x1 z _ q hq rfl⟩
noncomputable def clo_X3_years (as : List mm_V) (z : mm_S) (kk : Option mm_V → mm_S → Option mm_R) : Option mm_R := mm_pr as fun t o0 as => bif Nat.beq t 3 then mm_pi as fun a1 as => (match as with | [] => (sX3_years a1 z).bind fun q => kk (some (mm_I q.1)) q.2 | _ => none) else none
theorem cs_X3_years : mm_cs lyTX 46 48 17 f_X3_years clo_X3_years := by
  intro as z K o hk h
  obtain ⟨t0, o0, r0, rfl, g0⟩ := mm_pr_e h
  obtain ⟨b0, k0⟩ := mm_bif_e g0
  obtain rfl := Nat.eq_of_beq_eq_true b0
  obtain ⟨a1, r1, rfl, g1⟩ := mm_pi_e k0
  rcases r1 with _ | ⟨u, w⟩
  rotate_left
  · cases g1
  obtain rfl : o0 = 0 := ok3 (hk (mm_P 3 o0) (by simp))
  obtain ⟨q, hq, hq2⟩ := Option.bind_eq_some_iff.mp g1
  exact ⟨_, _, sp_X3_years a1 z hk q hq, fun v hv => by cases hv; exact Or.inl ⟨_, rfl⟩, hq2⟩
theorem sV_X3_years {own : String} {R : Room} {ar : Nat → Nat} {k : Nat} (hlink : Cond.methodLink own k yX3_years ∈ lw_gd ∨ ∃ host, (own, k, yX3_years, host) ∈ nmA) (har : ar k = 2) (hr : 5 ≤ R.frames ∧ 108 ≤ R.locals) : mm_okV lyTX lyFA lenX snX 46 48 17 roX rsA nfA nmA ssX own R ar k clo_X3_years := by
  refine ⟨yX3_years, cX3_years, 3, some .int, rm_X3_years, f_X3_years, 3, 1, (RX3, TX3, 12), M_X3_years, cs_X3_years, hlink, ⟨wv_X3_years, wz_X3_years, wi_X3_years, wc_X3_years⟩, ⟨by decide +kernel, by decide +kernel, by decide +kernel⟩, har, ⟨rfl, rfl, by decide⟩, ?_, ⟨rfl, rfl, hr.1, hr.2⟩⟩
  intro as z K o h
  obtain ⟨t0, o0, r0, rfl, g0⟩ := mm_pr_e h
  obtain ⟨b0, k0⟩ := mm_bif_e g0
  obtain rfl := Nat.eq_of_beq_eq_true b0
  exact ⟨_, _, rfl⟩
-- X3_ahead
noncomputable def lV_X3_ahead : List (Nat × (List mm_V → mm_S → (Option mm_V → mm_S → Option mm_R) → Option mm_R)) := [(59, clo_X3_finding), (139, clo_X1_timeBetween), (183, clo_X0_silentCells), (277, clo_X0_goOneYear), (280, clo_X0_holes), (283, clo_X0_become)]
noncomputable def mV_X3_ahead (k : Nat) (as : List mm_V) (z : mm_S) (kk : Option mm_V → mm_S → Option mm_R) : Option mm_R := match mm_at lV_X3_ahead k with
  | some f => f as z kk
  | none => none
noncomputable def arV_X3_ahead (k : Nat) : Nat := (mm_at [(59, 2), (139, 3), (183, 1), (277, 1), (280, 1), (283, 2)] k).getD 0
noncomputable def lS_X3_ahead : List (Nat × (List mm_V → mm_S → (Option mm_V → mm_S → Option mm_R) → Option mm_R)) := [(118, clo_X3_lies), (208, clo_J13_bitCount_95d88)]
noncomputable def mS_X3_ahead (k : Nat) (as : List mm_V) (z : mm_S) (kk : Option mm_V → mm_S → Option mm_R) : Option mm_R := match mm_at lS_X3_ahead k with
  | some f => f as z kk
  | none => none
noncomputable def arS_X3_ahead (k : Nat) : Nat := (mm_at [(118, 3), (208, 1)] k).getD 0
def ct_X3_ahead : List (Nat × List Nat) := [(7, [0, 1, 2]), (16, [0, 1, 2]), (25, [0, 1, 2]), (46, [0, 1, 2]), (57, [0, 1, 2]), (59, [0, 1, 2, 3]), (71, [0, 1, 2, 3])]
noncomputable def go_X3_ahead : Nat → mm_K := mm_go (fun k => mm_at flX3 k) (fun k => mm_at clX3 k) (fun k => mm_at glX3 k) arV_X3_ahead arS_X3_ahead mV_X3_ahead mS_X3_ahead lenX roX snX 4 0 tbX3_ahead ct_X3_ahead
noncomputable def eX3_ahead_0 (n : Nat)  (x1 : Int32) (x2 : Int32) (z : mm_S) : Option mm_R := go_X3_ahead n 0 [(0, mm_P 3 0), (1, mm_I x1), (2, mm_I x2)] [] z
noncomputable def eX3_ahead_7 (n : Nat)  (y1 : Int32) (y2 : Int32) (w0 : Int32) (z : mm_S) : Option mm_R := go_X3_ahead n 7 [(0, mm_P 3 0), (1, mm_I y1), (2, mm_I y2)] [mm_I w0] z
noncomputable def eX3_ahead_16 (n : Nat)  (y1 : Int32) (y2 : Int32) (w0 : Int32) (z : mm_S) : Option mm_R := go_X3_ahead n 16 [(0, mm_P 3 0), (1, mm_I y1), (2, mm_I y2)] [mm_I w0] z
noncomputable def eX3_ahead_25 (n : Nat)  (y1 : Int32) (y2 : Int32) (z : mm_S) : Option mm_R := go_X3_ahead n 25 [(0, mm_P 3 0), (1, mm_I y1), (2, mm_I y2)] [] z
noncomputable def eX3_ahead_46 (n : Nat)  (y1 : Int32) (y2 : Int32) (z : mm_S) : Option mm_R := go_X3_ahead n 46 [(0, mm_P 3 0), (1, mm_I y1), (2, mm_I y2)] [] z
noncomputable def eX3_ahead_57 (n : Nat)  (y1 : Int32) (y2 : Int32) (z : mm_S) : Option mm_R := go_X3_ahead n 57 [(0, mm_P 3 0), (1, mm_I y1), (2, mm_I y2)] [] z
noncomputable def eX3_ahead_59 (n : Nat)  (y1 : Int32) (y2 : Int32) (y3 : Int32) (z : mm_S) : Option mm_R := go_X3_ahead n 59 [(0, mm_P 3 0), (1, mm_I y1), (2, mm_I y2), (3, mm_I y3)] [] z
noncomputable def eX3_ahead_71 (n : Nat)  (y1 : Int32) (y2 : Int32) (y3 : Int32) (z : mm_S) : Option mm_R := go_X3_ahead n 71 [(0, mm_P 3 0), (1, mm_I y1), (2, mm_I y2), (3, mm_I y3)] [] z
set_option maxRecDepth 100000 in
theorem qX3_ahead_0 (n : Nat)  (x1 : Int32) (x2 : Int32) (z : mm_S) : eX3_ahead_0 (n + 1) x1 x2 z = (eX3_ahead_7 n x1 x2 (pX3_lies x1 0 60) z) := rfl
set_option maxRecDepth 100000 in
theorem qX3_ahead_7 (n : Nat)  (y1 : Int32) (y2 : Int32) (w0 : Int32) (z : mm_S) : eX3_ahead_7 (n + 1) y1 y2 w0 z = (if w0 = 0 then (sX3_finding 0 z).bind fun q1 => some (some (mm_I q1.1), q1.2) else eX3_ahead_16 n y1 y2 (pX3_lies y2 0 2) z) := rfl
set_option maxRecDepth 100000 in
theorem qX3_ahead_16 (n : Nat)  (y1 : Int32) (y2 : Int32) (w0 : Int32) (z : mm_S) : eX3_ahead_16 (n + 1) y1 y2 w0 z = (if w0 = 0 then (sX3_finding 0 z).bind fun q2 => some (some (mm_I q2.1), q2.2) else eX3_ahead_25 n y1 y2 z) := rfl
set_option maxRecDepth 100000 in
theorem qX3_ahead_25 (n : Nat)  (y1 : Int32) (y2 : Int32) (z : mm_S) : eX3_ahead_25 (n + 1) y1 y2 z = (if ((z.1 1 12) + y1) ≤ 999 then eX3_ahead_46 n y1 y2 z else (sX3_finding 4 z).bind fun q3 => some (some (mm_I q3.1), q3.2)) := rfl
set_option maxRecDepth 100000 in
theorem qX3_ahead_46 (n : Nat)  (y1 : Int32) (y2 : Int32) (z : mm_S) : eX3_ahead_46 (n + 1) y1 y2 z = (let u4 := (tX0_become 25 1 z); eX3_ahead_57 n y1 y2 u4) := rfl
set_option maxRecDepth 100000 in
theorem qX3_ahead_57 (n : Nat)  (y1 : Int32) (y2 : Int32) (z : mm_S) : eX3_ahead_57 (n + 1) y1 y2 z = (eX3_ahead_59 n y1 y2 0 z) := rfl
set_option maxRecDepth 100000 in
theorem qX3_ahead_59 (n : Nat)  (y1 : Int32) (y2 : Int32) (y3 : Int32) (z : mm_S) : eX3_ahead_59 (n + 1) y1 y2 y3 z = (if y1 ≤ y3 then if y2 = 0 then some (some (mm_I (pX0_holes 25 z)), z) else if y2 = 1 then (sX0_silentCells 25 z).bind fun q6 => some (some (mm_I (pJ13_bitCount_95d88 q6.1)), q6.2) else (sX1_timeBetween 26 0 35 z).bind fun q5 => some (some (mm_I q5.1), q5.2) else let u7 := (tX0_goOneYear 25 z); eX3_ahead_71 n y1 y2 y3 u7) := rfl
set_option maxRecDepth 100000 in
theorem qX3_ahead_71 (n : Nat)  (y1 : Int32) (y2 : Int32) (y3 : Int32) (z : mm_S) : eX3_ahead_71 (n + 1) y1 y2 y3 z = (eX3_ahead_59 n y1 y2 (y3 + 1) z) := rfl
def rm_X3_ahead : Room := { frames := 5, cells := 0, slots := 0, locals := 124 }
noncomputable def f_X3_ahead (as : List mm_V) (z : mm_S) (o : mm_R) : Prop := (as.map mm_cat).sum ≤ 4 ∧ ∃ n, go_X3_ahead n 0 (mm_ar 0 as) [] z = some o
theorem M_X3_ahead : mm_M lyTX lyFA lenX snX 46 48 17 roX rsA nfA nmA ssX yX3_ahead cX3_ahead 4 (some .int) rm_X3_ahead f_X3_ahead :=
  mm_met (rt := 0) (by decide +kernel) ⟨fun h => rfl, fun h => absurd h (by decide), fun h => absurd h (by decide), fun h => absurd h (by decide)⟩ tbX3_ahead_ok hsnX okFX3 okLX3 okGX3 (fun _ _ _ _ => rfl) (fun _ _ _ _ => rfl) (List.forall_mem_cons.mpr ⟨sV_X3_finding (Or.inl lk_X3_59) rfl ⟨by decide, by decide⟩, List.forall_mem_cons.mpr ⟨sV_X1_timeBetween (Or.inl lk_X3_139) rfl ⟨by decide, by decide⟩, List.forall_mem_cons.mpr ⟨sV_X0_silentCells (Or.inl lk_X3_183) rfl ⟨by decide, by decide⟩, List.forall_mem_cons.mpr ⟨sV_X0_goOneYear (Or.inl lk_X3_277) rfl ⟨by decide, by decide⟩, List.forall_mem_cons.mpr ⟨sV_X0_holes (Or.inl lk_X3_280) rfl ⟨by decide, by decide⟩, List.forall_mem_cons.mpr ⟨sV_X0_become (Or.inl lk_X3_283) rfl ⟨by decide, by decide⟩, fun _ h => absurd h List.not_mem_nil⟩⟩⟩⟩⟩⟩) (List.forall_mem_cons.mpr ⟨sS_X3_lies (Or.inl lk_X3_118) rfl ⟨by decide, by decide⟩, List.forall_mem_cons.mpr ⟨sS_J13_bitCount_95d88 (Or.inl lk_X3_208) rfl ⟨by decide, by decide⟩, fun _ h => absurd h List.not_mem_nil⟩⟩)
noncomputable def sX3_ahead_71 (y1 : Int32) (y2 : Int32) (y3 : Int32) (z : mm_S) : Option ((Int32 × Int32 × Int32 × mm_S) ⊕ (Int32 × mm_S)) := some (.inl (y1, y2, (y3 + 1), z))
theorem kX3_ahead_71 (y1 : Int32) (y2 : Int32) (y3 : Int32) (z : mm_S) (oo : mm_R) : mm_Xs (sX3_ahead_71 y1 y2 y3 z) (mm_mt (fun x : Int32 × Int32 × Int32 × mm_S => ∃ n, eX3_ahead_59 n x.1 x.2.1 x.2.2.1 x.2.2.2 = some oo) (fun v => (fun v : Int32 × mm_S => ((some (mm_I v.1), v.2) : mm_R)) v = oo)) (fun n => eX3_ahead_71 n y1 y2 y3 z) oo :=
  xs_row (fun n => qX3_ahead_71 n y1 y2 y3 z) (xs_v fun hc => hc)
noncomputable def lX3_ahead_59 (s : Int32 × Int32 × Int32 × mm_S) : Option ((Int32 × Int32 × Int32 × mm_S) ⊕ (Int32 × mm_S)) := if s.1 ≤ s.2.2.1 then if s.2.1 = 0 then some (.inr ((pX0_holes 25 s.2.2.2), s.2.2.2)) else if s.2.1 = 1 then (sX0_silentCells 25 s.2.2.2).bind fun q6 => some (.inr ((pJ13_bitCount_95d88 q6.1), q6.2)) else (sX1_timeBetween 26 0 35 s.2.2.2).bind fun q5 => some (.inr (q5.1, q5.2)) else let u7 := (tX0_goOneYear 25 s.2.2.2); (sX3_ahead_71 s.1 s.2.1 s.2.2.1 u7)
noncomputable def sX3_ahead_59 (y1 : Int32) (y2 : Int32) (y3 : Int32) (z : mm_S) : Option (Int32 × mm_S) := mm_wh (lX3_ahead_59 ) mm_fu (y1, y2, y3, z)
theorem kX3_ahead_59 (y1 : Int32) (y2 : Int32) (y3 : Int32) (z : mm_S) (oo : mm_R) : mm_Xs (sX3_ahead_59 y1 y2 y3 z) (fun v => (fun v : Int32 × mm_S => ((some (mm_I v.1), v.2) : mm_R)) v = oo) (fun n => eX3_ahead_59 n y1 y2 y3 z) oo :=
  xs_wh (stp := lX3_ahead_59 ) (o := oo) (E := (fun (s : Int32 × Int32 × Int32 × mm_S) n => eX3_ahead_59 n s.1 s.2.1 s.2.2.1 s.2.2.2)) (C := (fun v => (fun v : Int32 × mm_S => ((some (mm_I v.1), v.2) : mm_R)) v = oo)) (fun s => xs_row (fun n => qX3_ahead_59 n s.1 s.2.1 s.2.2.1 s.2.2.2) (xs_if (xs_if (xs_v fun hc => ⟨0, congrArg some hc⟩) (xs_if (xs_bd fun q6 => (xs_v fun hc => ⟨0, congrArg some hc⟩)) (xs_bd fun q5 => (xs_v fun hc => ⟨0, congrArg some hc⟩)))) (xs_let ((tX0_goOneYear 25 s.2.2.2)) (S := fun (u7 : _) => ((sX3_ahead_71 s.1 s.2.1 s.2.2.1 u7) : Option ((Int32 × Int32 × Int32 × mm_S) ⊕ (Int32 × mm_S)))) (T := fun (u7 : _) n => eX3_ahead_71 n s.1 s.2.1 s.2.2.1 u7) (fun u7 => (kX3_ahead_71 s.1 s.2.1 s.2.2.1 u7 oo))))) mm_fu (y1, y2, y3, z)
noncomputable def sX3_ahead_57 (y1 : Int32) (y2 : Int32) (z : mm_S) : Option (Int32 × mm_S) := (sX3_ahead_59 y1 y2 0 z)
theorem kX3_ahead_57 (y1 : Int32) (y2 : Int32) (z : mm_S) (oo : mm_R) : mm_Xs (sX3_ahead_57 y1 y2 z) (fun v => (fun v : Int32 × mm_S => ((some (mm_I v.1), v.2) : mm_R)) v = oo) (fun n => eX3_ahead_57 n y1 y2 z) oo :=
  xs_row (fun n => qX3_ahead_57 n y1 y2 z) (kX3_ahead_59 y1 y2 0 z oo)
noncomputable def sX3_ahead_46 (y1 : Int32) (y2 : Int32) (z : mm_S) : Option (Int32 × mm_S) := let u4 := (tX0_become 25 1 z); (sX3_ahead_57 y1 y2 u4)
theorem kX3_ahead_46 (y1 : Int32) (y2 : Int32) (z : mm_S) (oo : mm_R) : mm_Xs (sX3_ahead_46 y1 y2 z) (fun v => (fun v : Int32 × mm_S => ((some (mm_I v.1), v.2) : mm_R)) v = oo) (fun n => eX3_ahead_46 n y1 y2 z) oo :=
  xs_row (fun n => qX3_ahead_46 n y1 y2 z) (xs_let ((tX0_become 25 1 z)) (S := fun (u4 : _) => ((sX3_ahead_57 y1 y2 u4) : Option (Int32 × mm_S))) (T := fun (u4 : _) n => eX3_ahead_57 n y1 y2 u4) (fun u4 => (kX3_ahead_57 y1 y2 u4 oo)))
noncomputable def sX3_ahead_25 (y1 : Int32) (y2 : Int32) (z : mm_S) : Option (Int32 × mm_S) := if ((z.1 1 12) + y1) ≤ 999 then (sX3_ahead_46 y1 y2 z) else (sX3_finding 4 z).bind fun q3 => some (q3.1, q3.2)
theorem kX3_ahead_25 (y1 : Int32) (y2 : Int32) (z : mm_S) (oo : mm_R) : mm_Xs (sX3_ahead_25 y1 y2 z) (fun v => (fun v : Int32 × mm_S => ((some (mm_I v.1), v.2) : mm_R)) v = oo) (fun n => eX3_ahead_25 n y1 y2 z) oo :=
  xs_row (fun n => qX3_ahead_25 n y1 y2 z) (xs_if (kX3_ahead_46 y1 y2 z oo) (xs_bd fun q3 => (xs_v fun hc => ⟨0, congrArg some hc⟩)))
noncomputable def sX3_ahead_16 (y1 : Int32) (y2 : Int32) (w0 : Int32) (z : mm_S) : Option (Int32 × mm_S) := if w0 = 0 then (sX3_finding 0 z).bind fun q2 => some (q2.1, q2.2) else (sX3_ahead_25 y1 y2 z)
theorem kX3_ahead_16 (y1 : Int32) (y2 : Int32) (w0 : Int32) (z : mm_S) (oo : mm_R) : mm_Xs (sX3_ahead_16 y1 y2 w0 z) (fun v => (fun v : Int32 × mm_S => ((some (mm_I v.1), v.2) : mm_R)) v = oo) (fun n => eX3_ahead_16 n y1 y2 w0 z) oo :=
  xs_row (fun n => qX3_ahead_16 n y1 y2 w0 z) (xs_if (xs_bd fun q2 => (xs_v fun hc => ⟨0, congrArg some hc⟩)) (kX3_ahead_25 y1 y2 z oo))
noncomputable def sX3_ahead_7 (y1 : Int32) (y2 : Int32) (w0 : Int32) (z : mm_S) : Option (Int32 × mm_S) := if w0 = 0 then (sX3_finding 0 z).bind fun q1 => some (q1.1, q1.2) else (sX3_ahead_16 y1 y2 (pX3_lies y2 0 2) z)
theorem kX3_ahead_7 (y1 : Int32) (y2 : Int32) (w0 : Int32) (z : mm_S) (oo : mm_R) : mm_Xs (sX3_ahead_7 y1 y2 w0 z) (fun v => (fun v : Int32 × mm_S => ((some (mm_I v.1), v.2) : mm_R)) v = oo) (fun n => eX3_ahead_7 n y1 y2 w0 z) oo :=
  xs_row (fun n => qX3_ahead_7 n y1 y2 w0 z) (xs_if (xs_bd fun q1 => (xs_v fun hc => ⟨0, congrArg some hc⟩)) (kX3_ahead_16 y1 y2 (pX3_lies y2 0 2) z oo))
noncomputable def sX3_ahead_0 (x1 : Int32) (x2 : Int32) (z : mm_S) : Option (Int32 × mm_S) := (sX3_ahead_7 x1 x2 (pX3_lies x1 0 60) z)
theorem kX3_ahead_0 (x1 : Int32) (x2 : Int32) (z : mm_S) (oo : mm_R) : mm_Xs (sX3_ahead_0 x1 x2 z) (fun v => (fun v : Int32 × mm_S => ((some (mm_I v.1), v.2) : mm_R)) v = oo) (fun n => eX3_ahead_0 n x1 x2 z) oo :=
  xs_row (fun n => qX3_ahead_0 n x1 x2 z) (kX3_ahead_7 x1 x2 (pX3_lies x1 0 60) z oo)
noncomputable def sX3_ahead (x1 : Int32) (x2 : Int32) (z : mm_S) : Option (Int32 × mm_S) := sX3_ahead_0 x1 x2 z
theorem sp_X3_ahead (x1 : Int32) (x2 : Int32) (z : mm_S) (hk : ∀ v ∈ [mm_P 3 0, mm_I x1, mm_I x2], mm_ok 46 lyTX 48 17 v) (q : Int32 × mm_S) (hq : sX3_ahead x1 x2 z = some q) : f_X3_ahead [mm_P 3 0, mm_I x1, mm_I x2] z (some (mm_I q.1), q.2) := ⟨Nat.le_of_ble_eq_true rfl, kX3_ahead_0 x1 x2 z _ q hq rfl⟩
noncomputable def clo_X3_ahead (as : List mm_V) (z : mm_S) (kk : Option mm_V → mm_S → Option mm_R) : Option mm_R := mm_pr as fun t o0 as => bif Nat.beq t 3 then mm_pi as fun a1 as => mm_pi as fun a2 as => (match as with | [] => (sX3_ahead a1 a2 z).bind fun q => kk (some (mm_I q.1)) q.2 | _ => none) else none
theorem cs_X3_ahead : mm_cs lyTX 46 48 17 f_X3_ahead clo_X3_ahead := by
  intro as z K o hk h
  obtain ⟨t0, o0, r0, rfl, g0⟩ := mm_pr_e h
  obtain ⟨b0, k0⟩ := mm_bif_e g0
  obtain rfl := Nat.eq_of_beq_eq_true b0
  obtain ⟨a1, r1, rfl, g1⟩ := mm_pi_e k0
  obtain ⟨a2, r2, rfl, g2⟩ := mm_pi_e g1
  rcases r2 with _ | ⟨u, w⟩
  rotate_left
  · cases g2
  obtain rfl : o0 = 0 := ok3 (hk (mm_P 3 o0) (by simp))
  obtain ⟨q, hq, hq2⟩ := Option.bind_eq_some_iff.mp g2
  exact ⟨_, _, sp_X3_ahead a1 a2 z hk q hq, fun v hv => by cases hv; exact Or.inl ⟨_, rfl⟩, hq2⟩
theorem sV_X3_ahead {own : String} {R : Room} {ar : Nat → Nat} {k : Nat} (hlink : Cond.methodLink own k yX3_ahead ∈ lw_gd ∨ ∃ host, (own, k, yX3_ahead, host) ∈ nmA) (har : ar k = 3) (hr : 6 ≤ R.frames ∧ 147 ≤ R.locals) : mm_okV lyTX lyFA lenX snX 46 48 17 roX rsA nfA nmA ssX own R ar k clo_X3_ahead := by
  refine ⟨yX3_ahead, cX3_ahead, 4, some .int, rm_X3_ahead, f_X3_ahead, 3, 2, (RX3, TX3, 12), M_X3_ahead, cs_X3_ahead, hlink, ⟨wv_X3_ahead, wz_X3_ahead, wi_X3_ahead, wc_X3_ahead⟩, ⟨by decide +kernel, by decide +kernel, by decide +kernel⟩, har, ⟨rfl, rfl, by decide⟩, ?_, ⟨rfl, rfl, hr.1, hr.2⟩⟩
  intro as z K o h
  obtain ⟨t0, o0, r0, rfl, g0⟩ := mm_pr_e h
  obtain ⟨b0, k0⟩ := mm_bif_e g0
  obtain rfl := Nat.eq_of_beq_eq_true b0
  exact ⟨_, _, rfl⟩
-- X3_when
noncomputable def lV_X3_when : List (Nat × (List mm_V → mm_S → (Option mm_V → mm_S → Option mm_R) → Option mm_R)) := [(59, clo_X3_finding), (87, clo_X3_isCrew), (146, clo_X0_heardAt), (277, clo_X0_goOneYear), (283, clo_X0_become)]
noncomputable def mV_X3_when (k : Nat) (as : List mm_V) (z : mm_S) (kk : Option mm_V → mm_S → Option mm_R) : Option mm_R := match mm_at lV_X3_when k with
  | some f => f as z kk
  | none => none
noncomputable def arV_X3_when (k : Nat) : Nat := (mm_at [(59, 2), (87, 2), (146, 3), (277, 1), (283, 2)] k).getD 0
noncomputable def lS_X3_when : List (Nat × (List mm_V → mm_S → (Option mm_V → mm_S → Option mm_R) → Option mm_R)) := [(52, clo_X3_isCell)]
noncomputable def mS_X3_when (k : Nat) (as : List mm_V) (z : mm_S) (kk : Option mm_V → mm_S → Option mm_R) : Option mm_R := match mm_at lS_X3_when k with
  | some f => f as z kk
  | none => none
noncomputable def arS_X3_when (k : Nat) : Nat := (mm_at [(52, 1)] k).getD 0
def ct_X3_when : List (Nat × List Nat) := [(5, [0, 1, 2]), (12, [0, 1, 2]), (21, [0, 1, 2]), (43, [0, 1, 2]), (53, [0, 1, 2, 3]), (64, [0, 1, 2, 3]), (67, [0, 1, 2, 3, 4]), (81, [0, 1, 2, 3, 4]), (90, [0, 1, 2, 3, 4]), (94, [4])]
noncomputable def go_X3_when : Nat → mm_K := mm_go (fun k => mm_at flX3 k) (fun k => mm_at clX3 k) (fun k => mm_at glX3 k) arV_X3_when arS_X3_when mV_X3_when mS_X3_when lenX roX snX 5 0 tbX3_when ct_X3_when
noncomputable def eX3_when_0 (n : Nat)  (x1 : Int32) (x2 : Int32) (z : mm_S) : Option mm_R := go_X3_when n 0 [(0, mm_P 3 0), (1, mm_I x1), (2, mm_I x2)] [] z
noncomputable def eX3_when_5 (n : Nat)  (y1 : Int32) (y2 : Int32) (w0 : Int32) (z : mm_S) : Option mm_R := go_X3_when n 5 [(0, mm_P 3 0), (1, mm_I y1), (2, mm_I y2)] [mm_I w0] z
noncomputable def eX3_when_12 (n : Nat)  (y1 : Int32) (y2 : Int32) (w0 : Int32) (z : mm_S) : Option mm_R := go_X3_when n 12 [(0, mm_P 3 0), (1, mm_I y1), (2, mm_I y2)] [mm_I w0] z
noncomputable def eX3_when_21 (n : Nat)  (y1 : Int32) (y2 : Int32) (z : mm_S) : Option mm_R := go_X3_when n 21 [(0, mm_P 3 0), (1, mm_I y1), (2, mm_I y2)] [] z
noncomputable def eX3_when_43 (n : Nat)  (y1 : Int32) (y2 : Int32) (z : mm_S) : Option mm_R := go_X3_when n 43 [(0, mm_P 3 0), (1, mm_I y1), (2, mm_I y2)] [] z
noncomputable def eX3_when_53 (n : Nat)  (y1 : Int32) (y2 : Int32) (y3 : Int32) (z : mm_S) : Option mm_R := go_X3_when n 53 [(0, mm_P 3 0), (1, mm_I y1), (2, mm_I y2), (3, mm_I y3)] [] z
noncomputable def eX3_when_64 (n : Nat)  (y1 : Int32) (y2 : Int32) (y3 : Int32) (z : mm_S) : Option mm_R := go_X3_when n 64 [(0, mm_P 3 0), (1, mm_I y1), (2, mm_I y2), (3, mm_I y3)] [] z
noncomputable def eX3_when_67 (n : Nat)  (y1 : Int32) (y2 : Int32) (y3 : Int32) (y4 : Int32) (z : mm_S) : Option mm_R := go_X3_when n 67 [(0, mm_P 3 0), (1, mm_I y1), (2, mm_I y2), (3, mm_I y3), (4, mm_I y4)] [] z
noncomputable def eX3_when_81 (n : Nat)  (y1 : Int32) (y2 : Int32) (y3 : Int32) (y4 : Int32) (z : mm_S) : Option mm_R := go_X3_when n 81 [(0, mm_P 3 0), (1, mm_I y1), (2, mm_I y2), (3, mm_I y3), (4, mm_I y4)] [] z
noncomputable def eX3_when_90 (n : Nat)  (y1 : Int32) (y2 : Int32) (y3 : Int32) (y4 : Int32) (w0 : Int32) (z : mm_S) : Option mm_R := go_X3_when n 90 [(0, mm_P 3 0), (1, mm_I y1), (2, mm_I y2), (3, mm_I y3), (4, mm_I y4)] [mm_I w0] z
noncomputable def eX3_when_94 (n : Nat) (y4 : Int32) (z : mm_S) : Option mm_R := go_X3_when n 94 [(4, mm_I y4)] [] z
set_option maxRecDepth 100000 in
theorem qX3_when_0 (n : Nat)  (x1 : Int32) (x2 : Int32) (z : mm_S) : eX3_when_0 (n + 1) x1 x2 z = (eX3_when_5 n x1 x2 (pX3_isCrew x1 z) z) := rfl
set_option maxRecDepth 100000 in
theorem qX3_when_5 (n : Nat)  (y1 : Int32) (y2 : Int32) (w0 : Int32) (z : mm_S) : eX3_when_5 (n + 1) y1 y2 w0 z = (if w0 = 0 then (sX3_finding 0 z).bind fun q1 => some (some (mm_I q1.1), q1.2) else eX3_when_12 n y1 y2 (pX3_isCell y2) z) := rfl
set_option maxRecDepth 100000 in
theorem qX3_when_12 (n : Nat)  (y1 : Int32) (y2 : Int32) (w0 : Int32) (z : mm_S) : eX3_when_12 (n + 1) y1 y2 w0 z = (if w0 = 0 then (sX3_finding 0 z).bind fun q2 => some (some (mm_I q2.1), q2.2) else eX3_when_21 n y1 y2 z) := rfl
set_option maxRecDepth 100000 in
theorem qX3_when_21 (n : Nat)  (y1 : Int32) (y2 : Int32) (z : mm_S) : eX3_when_21 (n + 1) y1 y2 z = (if ((z.1 1 12) + 60) ≤ 999 then eX3_when_43 n y1 y2 z else (sX3_finding 4 z).bind fun q3 => some (some (mm_I q3.1), q3.2)) := rfl
set_option maxRecDepth 100000 in
theorem qX3_when_43 (n : Nat)  (y1 : Int32) (y2 : Int32) (z : mm_S) : eX3_when_43 (n + 1) y1 y2 z = ((sX0_heardAt 1 y1 y2 z).bind fun q4 => eX3_when_53 n y1 y2 q4.1 q4.2) := rfl
set_option maxRecDepth 100000 in
theorem qX3_when_53 (n : Nat)  (y1 : Int32) (y2 : Int32) (y3 : Int32) (z : mm_S) : eX3_when_53 (n + 1) y1 y2 y3 z = (let u5 := (tX0_become 25 1 z); eX3_when_64 n y1 y2 y3 u5) := rfl
set_option maxRecDepth 100000 in
theorem qX3_when_64 (n : Nat)  (y1 : Int32) (y2 : Int32) (y3 : Int32) (z : mm_S) : eX3_when_64 (n + 1) y1 y2 y3 z = (eX3_when_67 n y1 y2 y3 1 z) := rfl
set_option maxRecDepth 100000 in
theorem qX3_when_67 (n : Nat)  (y1 : Int32) (y2 : Int32) (y3 : Int32) (y4 : Int32) (z : mm_S) : eX3_when_67 (n + 1) y1 y2 y3 y4 z = (if 60 < y4 then (sX3_finding 3 z).bind fun q6 => some (some (mm_I q6.1), q6.2) else let u7 := (tX0_goOneYear 25 z); eX3_when_81 n y1 y2 y3 y4 u7) := rfl
set_option maxRecDepth 100000 in
theorem qX3_when_81 (n : Nat)  (y1 : Int32) (y2 : Int32) (y3 : Int32) (y4 : Int32) (z : mm_S) : eX3_when_81 (n + 1) y1 y2 y3 y4 z = ((sX0_heardAt 25 y1 y2 z).bind fun q8 => eX3_when_90 n y1 y2 y3 y4 q8.1 q8.2) := rfl
set_option maxRecDepth 100000 in
theorem qX3_when_90 (n : Nat)  (y1 : Int32) (y2 : Int32) (y3 : Int32) (y4 : Int32) (w0 : Int32) (z : mm_S) : eX3_when_90 (n + 1) y1 y2 y3 y4 w0 z = (if w0 = y3 then eX3_when_67 n y1 y2 y3 (y4 + 1) z else eX3_when_94 n y4 z) := rfl
set_option maxRecDepth 100000 in
theorem qX3_when_94 (n : Nat) (y4 : Int32) (z : mm_S) : eX3_when_94 (n + 1) y4 z = (some (some (mm_I y4), z)) := rfl
def rm_X3_when : Room := { frames := 5, cells := 0, slots := 0, locals := 107 }
noncomputable def f_X3_when (as : List mm_V) (z : mm_S) (o : mm_R) : Prop := (as.map mm_cat).sum ≤ 5 ∧ ∃ n, go_X3_when n 0 (mm_ar 0 as) [] z = some o
theorem M_X3_when : mm_M lyTX lyFA lenX snX 46 48 17 roX rsA nfA nmA ssX yX3_when cX3_when 5 (some .int) rm_X3_when f_X3_when :=
  mm_met (rt := 0) (by decide +kernel) ⟨fun h => rfl, fun h => absurd h (by decide), fun h => absurd h (by decide), fun h => absurd h (by decide)⟩ tbX3_when_ok hsnX okFX3 okLX3 okGX3 (fun _ _ _ _ => rfl) (fun _ _ _ _ => rfl) (List.forall_mem_cons.mpr ⟨sV_X3_finding (Or.inl lk_X3_59) rfl ⟨by decide, by decide⟩, List.forall_mem_cons.mpr ⟨sV_X3_isCrew (Or.inl lk_X3_87) rfl ⟨by decide, by decide⟩, List.forall_mem_cons.mpr ⟨sV_X0_heardAt (Or.inl lk_X3_146) rfl ⟨by decide, by decide⟩, List.forall_mem_cons.mpr ⟨sV_X0_goOneYear (Or.inl lk_X3_277) rfl ⟨by decide, by decide⟩, List.forall_mem_cons.mpr ⟨sV_X0_become (Or.inl lk_X3_283) rfl ⟨by decide, by decide⟩, fun _ h => absurd h List.not_mem_nil⟩⟩⟩⟩⟩) (List.forall_mem_cons.mpr ⟨sS_X3_isCell (Or.inl lk_X3_52) rfl ⟨by decide, by decide⟩, fun _ h => absurd h List.not_mem_nil⟩)
noncomputable def sX3_when_94 (y4 : Int32) (z : mm_S) : Option (Int32 × mm_S) := some (y4, z)
theorem kX3_when_94 (y4 : Int32) (z : mm_S) (oo : mm_R) : mm_Xs (sX3_when_94 y4 z) (fun v => (fun v : Int32 × mm_S => ((some (mm_I v.1), v.2) : mm_R)) v = oo) (fun n => eX3_when_94 n y4 z) oo :=
  xs_row (fun n => qX3_when_94 n y4 z) (xs_v fun hc => ⟨0, congrArg some hc⟩)
noncomputable def sX3_when_90 (y1 : Int32) (y2 : Int32) (y3 : Int32) (y4 : Int32) (w0 : Int32) (z : mm_S) : Option ((Int32 × Int32 × Int32 × Int32 × mm_S) ⊕ (Int32 × mm_S)) := if w0 = y3 then some (.inl (y1, y2, y3, (y4 + 1), z)) else ((sX3_when_94 y4 z).map fun w => (Sum.inr w))
theorem kX3_when_90 (y1 : Int32) (y2 : Int32) (y3 : Int32) (y4 : Int32) (w0 : Int32) (z : mm_S) (oo : mm_R) : mm_Xs (sX3_when_90 y1 y2 y3 y4 w0 z) (mm_mt (fun x : Int32 × Int32 × Int32 × Int32 × mm_S => ∃ n, eX3_when_67 n x.1 x.2.1 x.2.2.1 x.2.2.2.1 x.2.2.2.2 = some oo) (fun v => (fun v : Int32 × mm_S => ((some (mm_I v.1), v.2) : mm_R)) v = oo)) (fun n => eX3_when_90 n y1 y2 y3 y4 w0 z) oo :=
  xs_row (fun n => qX3_when_90 n y1 y2 y3 y4 w0 z) (xs_if (xs_v fun hc => hc) (xs_map (f := fun w => (Sum.inr w)) (kX3_when_94 y4 z oo) (fun _ h => h)))
noncomputable def sX3_when_81 (y1 : Int32) (y2 : Int32) (y3 : Int32) (y4 : Int32) (z : mm_S) : Option ((Int32 × Int32 × Int32 × Int32 × mm_S) ⊕ (Int32 × mm_S)) := (sX0_heardAt 25 y1 y2 z).bind fun q8 => (sX3_when_90 y1 y2 y3 y4 q8.1 q8.2)
theorem kX3_when_81 (y1 : Int32) (y2 : Int32) (y3 : Int32) (y4 : Int32) (z : mm_S) (oo : mm_R) : mm_Xs (sX3_when_81 y1 y2 y3 y4 z) (mm_mt (fun x : Int32 × Int32 × Int32 × Int32 × mm_S => ∃ n, eX3_when_67 n x.1 x.2.1 x.2.2.1 x.2.2.2.1 x.2.2.2.2 = some oo) (fun v => (fun v : Int32 × mm_S => ((some (mm_I v.1), v.2) : mm_R)) v = oo)) (fun n => eX3_when_81 n y1 y2 y3 y4 z) oo :=
  xs_row (fun n => qX3_when_81 n y1 y2 y3 y4 z) (xs_bd fun q8 => (kX3_when_90 y1 y2 y3 y4 q8.1 q8.2 oo))
noncomputable def lX3_when_67 (s : Int32 × Int32 × Int32 × Int32 × mm_S) : Option ((Int32 × Int32 × Int32 × Int32 × mm_S) ⊕ (Int32 × mm_S)) := if 60 < s.2.2.2.1 then (sX3_finding 3 s.2.2.2.2).bind fun q6 => some (.inr (q6.1, q6.2)) else let u7 := (tX0_goOneYear 25 s.2.2.2.2); (sX3_when_81 s.1 s.2.1 s.2.2.1 s.2.2.2.1 u7)
noncomputable def sX3_when_67 (y1 : Int32) (y2 : Int32) (y3 : Int32) (y4 : Int32) (z : mm_S) : Option (Int32 × mm_S) := mm_wh (lX3_when_67 ) mm_fu (y1, y2, y3, y4, z)
theorem kX3_when_67 (y1 : Int32) (y2 : Int32) (y3 : Int32) (y4 : Int32) (z : mm_S) (oo : mm_R) : mm_Xs (sX3_when_67 y1 y2 y3 y4 z) (fun v => (fun v : Int32 × mm_S => ((some (mm_I v.1), v.2) : mm_R)) v = oo) (fun n => eX3_when_67 n y1 y2 y3 y4 z) oo :=
  xs_wh (stp := lX3_when_67 ) (o := oo) (E := (fun (s : Int32 × Int32 × Int32 × Int32 × mm_S) n => eX3_when_67 n s.1 s.2.1 s.2.2.1 s.2.2.2.1 s.2.2.2.2)) (C := (fun v => (fun v : Int32 × mm_S => ((some (mm_I v.1), v.2) : mm_R)) v = oo)) (fun s => xs_row (fun n => qX3_when_67 n s.1 s.2.1 s.2.2.1 s.2.2.2.1 s.2.2.2.2) (xs_if (xs_bd fun q6 => (xs_v fun hc => ⟨0, congrArg some hc⟩)) (xs_let ((tX0_goOneYear 25 s.2.2.2.2)) (S := fun (u7 : _) => ((sX3_when_81 s.1 s.2.1 s.2.2.1 s.2.2.2.1 u7) : Option ((Int32 × Int32 × Int32 × Int32 × mm_S) ⊕ (Int32 × mm_S)))) (T := fun (u7 : _) n => eX3_when_81 n s.1 s.2.1 s.2.2.1 s.2.2.2.1 u7) (fun u7 => (kX3_when_81 s.1 s.2.1 s.2.2.1 s.2.2.2.1 u7 oo))))) mm_fu (y1, y2, y3, y4, z)
noncomputable def sX3_when_64 (y1 : Int32) (y2 : Int32) (y3 : Int32) (z : mm_S) : Option (Int32 × mm_S) := (sX3_when_67 y1 y2 y3 1 z)
theorem kX3_when_64 (y1 : Int32) (y2 : Int32) (y3 : Int32) (z : mm_S) (oo : mm_R) : mm_Xs (sX3_when_64 y1 y2 y3 z) (fun v => (fun v : Int32 × mm_S => ((some (mm_I v.1), v.2) : mm_R)) v = oo) (fun n => eX3_when_64 n y1 y2 y3 z) oo :=
  xs_row (fun n => qX3_when_64 n y1 y2 y3 z) (kX3_when_67 y1 y2 y3 1 z oo)
noncomputable def sX3_when_53 (y1 : Int32) (y2 : Int32) (y3 : Int32) (z : mm_S) : Option (Int32 × mm_S) := let u5 := (tX0_become 25 1 z); (sX3_when_64 y1 y2 y3 u5)
theorem kX3_when_53 (y1 : Int32) (y2 : Int32) (y3 : Int32) (z : mm_S) (oo : mm_R) : mm_Xs (sX3_when_53 y1 y2 y3 z) (fun v => (fun v : Int32 × mm_S => ((some (mm_I v.1), v.2) : mm_R)) v = oo) (fun n => eX3_when_53 n y1 y2 y3 z) oo :=
  xs_row (fun n => qX3_when_53 n y1 y2 y3 z) (xs_let ((tX0_become 25 1 z)) (S := fun (u5 : _) => ((sX3_when_64 y1 y2 y3 u5) : Option (Int32 × mm_S))) (T := fun (u5 : _) n => eX3_when_64 n y1 y2 y3 u5) (fun u5 => (kX3_when_64 y1 y2 y3 u5 oo)))
noncomputable def sX3_when_43 (y1 : Int32) (y2 : Int32) (z : mm_S) : Option (Int32 × mm_S) := (sX0_heardAt 1 y1 y2 z).bind fun q4 => (sX3_when_53 y1 y2 q4.1 q4.2)
theorem kX3_when_43 (y1 : Int32) (y2 : Int32) (z : mm_S) (oo : mm_R) : mm_Xs (sX3_when_43 y1 y2 z) (fun v => (fun v : Int32 × mm_S => ((some (mm_I v.1), v.2) : mm_R)) v = oo) (fun n => eX3_when_43 n y1 y2 z) oo :=
  xs_row (fun n => qX3_when_43 n y1 y2 z) (xs_bd fun q4 => (kX3_when_53 y1 y2 q4.1 q4.2 oo))
noncomputable def sX3_when_21 (y1 : Int32) (y2 : Int32) (z : mm_S) : Option (Int32 × mm_S) := if ((z.1 1 12) + 60) ≤ 999 then (sX3_when_43 y1 y2 z) else (sX3_finding 4 z).bind fun q3 => some (q3.1, q3.2)
theorem kX3_when_21 (y1 : Int32) (y2 : Int32) (z : mm_S) (oo : mm_R) : mm_Xs (sX3_when_21 y1 y2 z) (fun v => (fun v : Int32 × mm_S => ((some (mm_I v.1), v.2) : mm_R)) v = oo) (fun n => eX3_when_21 n y1 y2 z) oo :=
  xs_row (fun n => qX3_when_21 n y1 y2 z) (xs_if (kX3_when_43 y1 y2 z oo) (xs_bd fun q3 => (xs_v fun hc => ⟨0, congrArg some hc⟩)))
noncomputable def sX3_when_12 (y1 : Int32) (y2 : Int32) (w0 : Int32) (z : mm_S) : Option (Int32 × mm_S) := if w0 = 0 then (sX3_finding 0 z).bind fun q2 => some (q2.1, q2.2) else (sX3_when_21 y1 y2 z)
theorem kX3_when_12 (y1 : Int32) (y2 : Int32) (w0 : Int32) (z : mm_S) (oo : mm_R) : mm_Xs (sX3_when_12 y1 y2 w0 z) (fun v => (fun v : Int32 × mm_S => ((some (mm_I v.1), v.2) : mm_R)) v = oo) (fun n => eX3_when_12 n y1 y2 w0 z) oo :=
  xs_row (fun n => qX3_when_12 n y1 y2 w0 z) (xs_if (xs_bd fun q2 => (xs_v fun hc => ⟨0, congrArg some hc⟩)) (kX3_when_21 y1 y2 z oo))
noncomputable def sX3_when_5 (y1 : Int32) (y2 : Int32) (w0 : Int32) (z : mm_S) : Option (Int32 × mm_S) := if w0 = 0 then (sX3_finding 0 z).bind fun q1 => some (q1.1, q1.2) else (sX3_when_12 y1 y2 (pX3_isCell y2) z)
theorem kX3_when_5 (y1 : Int32) (y2 : Int32) (w0 : Int32) (z : mm_S) (oo : mm_R) : mm_Xs (sX3_when_5 y1 y2 w0 z) (fun v => (fun v : Int32 × mm_S => ((some (mm_I v.1), v.2) : mm_R)) v = oo) (fun n => eX3_when_5 n y1 y2 w0 z) oo :=
  xs_row (fun n => qX3_when_5 n y1 y2 w0 z) (xs_if (xs_bd fun q1 => (xs_v fun hc => ⟨0, congrArg some hc⟩)) (kX3_when_12 y1 y2 (pX3_isCell y2) z oo))
noncomputable def sX3_when_0 (x1 : Int32) (x2 : Int32) (z : mm_S) : Option (Int32 × mm_S) := (sX3_when_5 x1 x2 (pX3_isCrew x1 z) z)
theorem kX3_when_0 (x1 : Int32) (x2 : Int32) (z : mm_S) (oo : mm_R) : mm_Xs (sX3_when_0 x1 x2 z) (fun v => (fun v : Int32 × mm_S => ((some (mm_I v.1), v.2) : mm_R)) v = oo) (fun n => eX3_when_0 n x1 x2 z) oo :=
  xs_row (fun n => qX3_when_0 n x1 x2 z) (kX3_when_5 x1 x2 (pX3_isCrew x1 z) z oo)
noncomputable def sX3_when (x1 : Int32) (x2 : Int32) (z : mm_S) : Option (Int32 × mm_S) := sX3_when_0 x1 x2 z
theorem sp_X3_when (x1 : Int32) (x2 : Int32) (z : mm_S) (hk : ∀ v ∈ [mm_P 3 0, mm_I x1, mm_I x2], mm_ok 46 lyTX 48 17 v) (q : Int32 × mm_S) (hq : sX3_when x1 x2 z = some q) : f_X3_when [mm_P 3 0, mm_I x1, mm_I x2] z (some (mm_I q.1), q.2) := ⟨Nat.le_of_ble_eq_true rfl, kX3_when_0 x1 x2 z _ q hq rfl⟩
noncomputable def clo_X3_when (as : List mm_V) (z : mm_S) (kk : Option mm_V → mm_S → Option mm_R) : Option mm_R := mm_pr as fun t o0 as => bif Nat.beq t 3 then mm_pi as fun a1 as => mm_pi as fun a2 as => (match as with | [] => (sX3_when a1 a2 z).bind fun q => kk (some (mm_I q.1)) q.2 | _ => none) else none
theorem cs_X3_when : mm_cs lyTX 46 48 17 f_X3_when clo_X3_when := by
  intro as z K o hk h
  obtain ⟨t0, o0, r0, rfl, g0⟩ := mm_pr_e h
  obtain ⟨b0, k0⟩ := mm_bif_e g0
  obtain rfl := Nat.eq_of_beq_eq_true b0
  obtain ⟨a1, r1, rfl, g1⟩ := mm_pi_e k0
  obtain ⟨a2, r2, rfl, g2⟩ := mm_pi_e g1
  rcases r2 with _ | ⟨u, w⟩
  rotate_left
  · cases g2
  obtain rfl : o0 = 0 := ok3 (hk (mm_P 3 o0) (by simp))
  obtain ⟨q, hq, hq2⟩ := Option.bind_eq_some_iff.mp g2
  exact ⟨_, _, sp_X3_when a1 a2 z hk q hq, fun v hv => by cases hv; exact Or.inl ⟨_, rfl⟩, hq2⟩
theorem sV_X3_when {own : String} {R : Room} {ar : Nat → Nat} {k : Nat} (hlink : Cond.methodLink own k yX3_when ∈ lw_gd ∨ ∃ host, (own, k, yX3_when, host) ∈ nmA) (har : ar k = 3) (hr : 6 ≤ R.frames ∧ 131 ≤ R.locals) : mm_okV lyTX lyFA lenX snX 46 48 17 roX rsA nfA nmA ssX own R ar k clo_X3_when := by
  refine ⟨yX3_when, cX3_when, 5, some .int, rm_X3_when, f_X3_when, 3, 2, (RX3, TX3, 12), M_X3_when, cs_X3_when, hlink, ⟨wv_X3_when, wz_X3_when, wi_X3_when, wc_X3_when⟩, ⟨by decide +kernel, by decide +kernel, by decide +kernel⟩, har, ⟨rfl, rfl, by decide⟩, ?_, ⟨rfl, rfl, hr.1, hr.2⟩⟩
  intro as z K o h
  obtain ⟨t0, o0, r0, rfl, g0⟩ := mm_pr_e h
  obtain ⟨b0, k0⟩ := mm_bif_e g0
  obtain rfl := Nat.eq_of_beq_eq_true b0
  exact ⟨_, _, rfl⟩
-- X3_seed
noncomputable def lV_X3_seed : List (Nat × (List mm_V → mm_S → (Option mm_V → mm_S → Option mm_R) → Option mm_R)) := []
noncomputable def mV_X3_seed (k : Nat) (as : List mm_V) (z : mm_S) (kk : Option mm_V → mm_S → Option mm_R) : Option mm_R := match mm_at lV_X3_seed k with
  | some f => f as z kk
  | none => none
noncomputable def arV_X3_seed (k : Nat) : Nat := (mm_at [] k).getD 0
noncomputable def lS_X3_seed : List (Nat × (List mm_V → mm_S → (Option mm_V → mm_S → Option mm_R) → Option mm_R)) := []
noncomputable def mS_X3_seed (k : Nat) (as : List mm_V) (z : mm_S) (kk : Option mm_V → mm_S → Option mm_R) : Option mm_R := match mm_at lS_X3_seed k with
  | some f => f as z kk
  | none => none
noncomputable def arS_X3_seed (k : Nat) : Nat := (mm_at [] k).getD 0
def ct_X3_seed : List (Nat × List Nat) := [(16, [2])]
noncomputable def go_X3_seed : Nat → mm_K := mm_go (fun k => mm_at flX3 k) (fun k => mm_at clX3 k) (fun k => mm_at glX3 k) arV_X3_seed arS_X3_seed mV_X3_seed mS_X3_seed lenX roX snX 3 0 tbX3_seed ct_X3_seed
noncomputable def eX3_seed_0 (n : Nat)  (x1 : Int32) (z : mm_S) : Option mm_R := go_X3_seed n 0 [(0, mm_P 3 0), (1, mm_I x1)] [] z
noncomputable def eX3_seed_16 (n : Nat) (y2 : Int32) (z : mm_S) : Option mm_R := go_X3_seed n 16 [(2, mm_I y2)] [] z
set_option maxRecDepth 100000 in
theorem qX3_seed_0 (n : Nat)  (x1 : Int32) (z : mm_S) : eX3_seed_0 (n + 1) x1 z = (eX3_seed_16 n (z.1 1 13) ((mm_ui z.1 1 13 x1), z.2)) := rfl
set_option maxRecDepth 100000 in
theorem qX3_seed_16 (n : Nat) (y2 : Int32) (z : mm_S) : eX3_seed_16 (n + 1) y2 z = (some (some (mm_I y2), z)) := rfl
def rm_X3_seed : Room := { frames := 0, cells := 0, slots := 0, locals := 0 }
noncomputable def f_X3_seed (as : List mm_V) (z : mm_S) (o : mm_R) : Prop := (as.map mm_cat).sum ≤ 3 ∧ ∃ n, go_X3_seed n 0 (mm_ar 0 as) [] z = some o
theorem M_X3_seed : mm_M lyTX lyFA lenX snX 46 48 17 roX rsA nfA nmA ssX yX3_seed cX3_seed 3 (some .int) rm_X3_seed f_X3_seed :=
  mm_met (rt := 0) (by decide +kernel) ⟨fun h => rfl, fun h => absurd h (by decide), fun h => absurd h (by decide), fun h => absurd h (by decide)⟩ tbX3_seed_ok hsnX okFX3 okLX3 okGX3 (fun _ _ _ _ => rfl) (fun _ _ _ _ => rfl) (fun _ h => absurd h List.not_mem_nil) (fun _ h => absurd h List.not_mem_nil)
noncomputable def sX3_seed_16 (y2 : Int32) (z : mm_S) : Option (Int32 × mm_S) := some (y2, z)
theorem kX3_seed_16 (y2 : Int32) (z : mm_S) (oo : mm_R) : mm_Xs (sX3_seed_16 y2 z) (fun v => (fun v : Int32 × mm_S => ((some (mm_I v.1), v.2) : mm_R)) v = oo) (fun n => eX3_seed_16 n y2 z) oo :=
  xs_row (fun n => qX3_seed_16 n y2 z) (xs_v fun hc => ⟨0, congrArg some hc⟩)
noncomputable def sX3_seed_0 (x1 : Int32) (z : mm_S) : Option (Int32 × mm_S) := (sX3_seed_16 (z.1 1 13) ((mm_ui z.1 1 13 x1), z.2))
theorem kX3_seed_0 (x1 : Int32) (z : mm_S) (oo : mm_R) : mm_Xs (sX3_seed_0 x1 z) (fun v => (fun v : Int32 × mm_S => ((some (mm_I v.1), v.2) : mm_R)) v = oo) (fun n => eX3_seed_0 n x1 z) oo :=
  xs_row (fun n => qX3_seed_0 n x1 z) (kX3_seed_16 (z.1 1 13) ((mm_ui z.1 1 13 x1), z.2) oo)
noncomputable def sX3_seed (x1 : Int32) (z : mm_S) : Option (Int32 × mm_S) := sX3_seed_0 x1 z
theorem sp_X3_seed (x1 : Int32) (z : mm_S) (hk : ∀ v ∈ [mm_P 3 0, mm_I x1], mm_ok 46 lyTX 48 17 v) (q : Int32 × mm_S) (hq : sX3_seed x1 z = some q) : f_X3_seed [mm_P 3 0, mm_I x1] z (some (mm_I q.1), q.2) := ⟨Nat.le_of_ble_eq_true rfl, kX3_seed_0 x1 z _ q hq rfl⟩
noncomputable def clo_X3_seed (as : List mm_V) (z : mm_S) (kk : Option mm_V → mm_S → Option mm_R) : Option mm_R := mm_pr as fun t o0 as => bif Nat.beq t 3 then mm_pi as fun a1 as => (match as with | [] => (sX3_seed a1 z).bind fun q => kk (some (mm_I q.1)) q.2 | _ => none) else none
theorem cs_X3_seed : mm_cs lyTX 46 48 17 f_X3_seed clo_X3_seed := by
  intro as z K o hk h
  obtain ⟨t0, o0, r0, rfl, g0⟩ := mm_pr_e h
  obtain ⟨b0, k0⟩ := mm_bif_e g0
  obtain rfl := Nat.eq_of_beq_eq_true b0
  obtain ⟨a1, r1, rfl, g1⟩ := mm_pi_e k0
  rcases r1 with _ | ⟨u, w⟩
  rotate_left
  · cases g1
  obtain rfl : o0 = 0 := ok3 (hk (mm_P 3 o0) (by simp))
  obtain ⟨q, hq, hq2⟩ := Option.bind_eq_some_iff.mp g1
  exact ⟨_, _, sp_X3_seed a1 z hk q hq, fun v hv => by cases hv; exact Or.inl ⟨_, rfl⟩, hq2⟩
theorem sV_X3_seed {own : String} {R : Room} {ar : Nat → Nat} {k : Nat} (hlink : Cond.methodLink own k yX3_seed ∈ lw_gd ∨ ∃ host, (own, k, yX3_seed, host) ∈ nmA) (har : ar k = 2) (hr : 1 ≤ R.frames ∧ 22 ≤ R.locals) : mm_okV lyTX lyFA lenX snX 46 48 17 roX rsA nfA nmA ssX own R ar k clo_X3_seed := by
  refine ⟨yX3_seed, cX3_seed, 3, some .int, rm_X3_seed, f_X3_seed, 3, 1, (RX3, TX3, 12), M_X3_seed, cs_X3_seed, hlink, ⟨wv_X3_seed, wz_X3_seed, wi_X3_seed, wc_X3_seed⟩, ⟨by decide +kernel, by decide +kernel, by decide +kernel⟩, har, ⟨rfl, rfl, by decide⟩, ?_, ⟨rfl, rfl, hr.1, hr.2⟩⟩
  intro as z K o h
  obtain ⟨t0, o0, r0, rfl, g0⟩ := mm_pr_e h
  obtain ⟨b0, k0⟩ := mm_bif_e g0
  obtain rfl := Nat.eq_of_beq_eq_true b0
  exact ⟨_, _, rfl⟩
-- X3_feed
noncomputable def lV_X3_feed : List (Nat × (List mm_V → mm_S → (Option mm_V → mm_S → Option mm_R) → Option mm_R)) := [(59, clo_X3_finding), (293, clo_X2_add)]
noncomputable def mV_X3_feed (k : Nat) (as : List mm_V) (z : mm_S) (kk : Option mm_V → mm_S → Option mm_R) : Option mm_R := match mm_at lV_X3_feed k with
  | some f => f as z kk
  | none => none
noncomputable def arV_X3_feed (k : Nat) : Nat := (mm_at [(59, 2), (293, 2)] k).getD 0
noncomputable def lS_X3_feed : List (Nat × (List mm_V → mm_S → (Option mm_V → mm_S → Option mm_R) → Option mm_R)) := [(118, clo_X3_lies)]
noncomputable def mS_X3_feed (k : Nat) (as : List mm_V) (z : mm_S) (kk : Option mm_V → mm_S → Option mm_R) : Option mm_R := match mm_at lS_X3_feed k with
  | some f => f as z kk
  | none => none
noncomputable def arS_X3_feed (k : Nat) : Nat := (mm_at [(118, 3)] k).getD 0
def ct_X3_feed : List (Nat × List Nat) := [(6, [0, 1, 2]), (15, [0, 1, 2]), (35, [0, 1, 2]), (39, [0, 1, 3])]
noncomputable def go_X3_feed : Nat → mm_K := mm_go (fun k => mm_at flX3 k) (fun k => mm_at clX3 k) (fun k => mm_at glX3 k) arV_X3_feed arS_X3_feed mV_X3_feed mS_X3_feed lenX roX snX 4 0 tbX3_feed ct_X3_feed
noncomputable def eX3_feed_0 (n : Nat)  (x1 : Int32) (x2 : Int32) (z : mm_S) : Option mm_R := go_X3_feed n 0 [(0, mm_P 3 0), (1, mm_I x1), (2, mm_I x2)] [] z
noncomputable def eX3_feed_6 (n : Nat)  (y1 : Int32) (y2 : Int32) (w0 : Int32) (z : mm_S) : Option mm_R := go_X3_feed n 6 [(0, mm_P 3 0), (1, mm_I y1), (2, mm_I y2)] [mm_I w0] z
noncomputable def eX3_feed_15 (n : Nat)  (y1 : Int32) (y2 : Int32) (z : mm_S) : Option mm_R := go_X3_feed n 15 [(0, mm_P 3 0), (1, mm_I y1), (2, mm_I y2)] [] z
noncomputable def eX3_feed_35 (n : Nat)  (y1 : Int32) (y2 : Int32) (z : mm_S) : Option mm_R := go_X3_feed n 35 [(0, mm_P 3 0), (1, mm_I y1), (2, mm_I y2)] [] z
noncomputable def eX3_feed_39 (n : Nat)  (y1 : Int32) (y3 : Int32) (z : mm_S) : Option mm_R := go_X3_feed n 39 [(0, mm_P 3 0), (1, mm_I y1), (3, mm_I y3)] [] z
set_option maxRecDepth 100000 in
theorem qX3_feed_0 (n : Nat)  (x1 : Int32) (x2 : Int32) (z : mm_S) : eX3_feed_0 (n + 1) x1 x2 z = (eX3_feed_6 n x1 x2 (pX3_lies x2 1 4) z) := rfl
set_option maxRecDepth 100000 in
theorem qX3_feed_6 (n : Nat)  (y1 : Int32) (y2 : Int32) (w0 : Int32) (z : mm_S) : eX3_feed_6 (n + 1) y1 y2 w0 z = (if w0 = 0 then (sX3_finding 0 z).bind fun q1 => some (some (mm_I q1.1), q1.2) else eX3_feed_15 n y1 y2 z) := rfl
set_option maxRecDepth 100000 in
theorem qX3_feed_15 (n : Nat)  (y1 : Int32) (y2 : Int32) (z : mm_S) : eX3_feed_15 (n + 1) y1 y2 z = (if ((z.1 37 1) + y2) ≤ 120 then eX3_feed_35 n y1 y2 z else (sX3_finding 1 z).bind fun q2 => some (some (mm_I q2.1), q2.2)) := rfl
set_option maxRecDepth 100000 in
theorem qX3_feed_35 (n : Nat)  (y1 : Int32) (y2 : Int32) (z : mm_S) : eX3_feed_35 (n + 1) y1 y2 z = (eX3_feed_39 n y1 (y2 - 1) z) := rfl
set_option maxRecDepth 100000 in
theorem qX3_feed_39 (n : Nat)  (y1 : Int32) (y3 : Int32) (z : mm_S) : eX3_feed_39 (n + 1) y1 y3 z = (if y3 < 0 then some (some (mm_I (z.1 37 1)), z) else (sX2_add ((Int32.toUInt32 y1 >>> (Int32.toUInt32 (8 * y3) &&& Int32.toUInt32 31)).toInt32 &&& 255) z).bind fun q3 => let v4 : Int32 := (y3 + Int32.ofInt (-1)); eX3_feed_39 n y1 v4 q3) := rfl
def rm_X3_feed : Room := { frames := 2, cells := 0, slots := 0, locals := 44 }
noncomputable def f_X3_feed (as : List mm_V) (z : mm_S) (o : mm_R) : Prop := (as.map mm_cat).sum ≤ 4 ∧ ∃ n, go_X3_feed n 0 (mm_ar 0 as) [] z = some o
theorem M_X3_feed : mm_M lyTX lyFA lenX snX 46 48 17 roX rsA nfA nmA ssX yX3_feed cX3_feed 4 (some .int) rm_X3_feed f_X3_feed :=
  mm_met (rt := 0) (by decide +kernel) ⟨fun h => rfl, fun h => absurd h (by decide), fun h => absurd h (by decide), fun h => absurd h (by decide)⟩ tbX3_feed_ok hsnX okFX3 okLX3 okGX3 (fun _ _ _ _ => rfl) (fun _ _ _ _ => rfl) (List.forall_mem_cons.mpr ⟨sV_X3_finding (Or.inl lk_X3_59) rfl ⟨by decide, by decide⟩, List.forall_mem_cons.mpr ⟨sV_X2_add (Or.inl lk_X3_293) rfl ⟨by decide, by decide⟩, fun _ h => absurd h List.not_mem_nil⟩⟩) (List.forall_mem_cons.mpr ⟨sS_X3_lies (Or.inl lk_X3_118) rfl ⟨by decide, by decide⟩, fun _ h => absurd h List.not_mem_nil⟩)
noncomputable def lX3_feed_39 (s : Int32 × Int32 × mm_S) : Option ((Int32 × Int32 × mm_S) ⊕ (Int32 × mm_S)) := if s.2.1 < 0 then some (.inr ((s.2.2.1 37 1), s.2.2)) else (sX2_add ((Int32.toUInt32 s.1 >>> (Int32.toUInt32 (8 * s.2.1) &&& Int32.toUInt32 31)).toInt32 &&& 255) s.2.2).bind fun q3 => let v4 : Int32 := (s.2.1 + Int32.ofInt (-1)); some (.inl (s.1, v4, q3))
noncomputable def sX3_feed_39 (y1 : Int32) (y3 : Int32) (z : mm_S) : Option (Int32 × mm_S) := mm_wh (lX3_feed_39 ) mm_fu (y1, y3, z)
theorem kX3_feed_39 (y1 : Int32) (y3 : Int32) (z : mm_S) (oo : mm_R) : mm_Xs (sX3_feed_39 y1 y3 z) (fun v => (fun v : Int32 × mm_S => ((some (mm_I v.1), v.2) : mm_R)) v = oo) (fun n => eX3_feed_39 n y1 y3 z) oo :=
  xs_wh (stp := lX3_feed_39 ) (o := oo) (E := (fun (s : Int32 × Int32 × mm_S) n => eX3_feed_39 n s.1 s.2.1 s.2.2)) (C := (fun v => (fun v : Int32 × mm_S => ((some (mm_I v.1), v.2) : mm_R)) v = oo)) (fun s => xs_row (fun n => qX3_feed_39 n s.1 s.2.1 s.2.2) (xs_if (xs_v fun hc => ⟨0, congrArg some hc⟩) (xs_bd fun q3 => (xs_let ((s.2.1 + Int32.ofInt (-1))) (S := fun (v4 : Int32) => (some (.inl (s.1, v4, q3)) : Option ((Int32 × Int32 × mm_S) ⊕ (Int32 × mm_S)))) (T := fun (v4 : Int32) n => eX3_feed_39 n s.1 v4 q3) (fun v4 => (xs_v fun hc => hc)))))) mm_fu (y1, y3, z)
noncomputable def sX3_feed_35 (y1 : Int32) (y2 : Int32) (z : mm_S) : Option (Int32 × mm_S) := (sX3_feed_39 y1 (y2 - 1) z)
theorem kX3_feed_35 (y1 : Int32) (y2 : Int32) (z : mm_S) (oo : mm_R) : mm_Xs (sX3_feed_35 y1 y2 z) (fun v => (fun v : Int32 × mm_S => ((some (mm_I v.1), v.2) : mm_R)) v = oo) (fun n => eX3_feed_35 n y1 y2 z) oo :=
  xs_row (fun n => qX3_feed_35 n y1 y2 z) (kX3_feed_39 y1 (y2 - 1) z oo)
noncomputable def sX3_feed_15 (y1 : Int32) (y2 : Int32) (z : mm_S) : Option (Int32 × mm_S) := if ((z.1 37 1) + y2) ≤ 120 then (sX3_feed_35 y1 y2 z) else (sX3_finding 1 z).bind fun q2 => some (q2.1, q2.2)
theorem kX3_feed_15 (y1 : Int32) (y2 : Int32) (z : mm_S) (oo : mm_R) : mm_Xs (sX3_feed_15 y1 y2 z) (fun v => (fun v : Int32 × mm_S => ((some (mm_I v.1), v.2) : mm_R)) v = oo) (fun n => eX3_feed_15 n y1 y2 z) oo :=
  xs_row (fun n => qX3_feed_15 n y1 y2 z) (xs_if (kX3_feed_35 y1 y2 z oo) (xs_bd fun q2 => (xs_v fun hc => ⟨0, congrArg some hc⟩)))
noncomputable def sX3_feed_6 (y1 : Int32) (y2 : Int32) (w0 : Int32) (z : mm_S) : Option (Int32 × mm_S) := if w0 = 0 then (sX3_finding 0 z).bind fun q1 => some (q1.1, q1.2) else (sX3_feed_15 y1 y2 z)
theorem kX3_feed_6 (y1 : Int32) (y2 : Int32) (w0 : Int32) (z : mm_S) (oo : mm_R) : mm_Xs (sX3_feed_6 y1 y2 w0 z) (fun v => (fun v : Int32 × mm_S => ((some (mm_I v.1), v.2) : mm_R)) v = oo) (fun n => eX3_feed_6 n y1 y2 w0 z) oo :=
  xs_row (fun n => qX3_feed_6 n y1 y2 w0 z) (xs_if (xs_bd fun q1 => (xs_v fun hc => ⟨0, congrArg some hc⟩)) (kX3_feed_15 y1 y2 z oo))
noncomputable def sX3_feed_0 (x1 : Int32) (x2 : Int32) (z : mm_S) : Option (Int32 × mm_S) := (sX3_feed_6 x1 x2 (pX3_lies x2 1 4) z)
theorem kX3_feed_0 (x1 : Int32) (x2 : Int32) (z : mm_S) (oo : mm_R) : mm_Xs (sX3_feed_0 x1 x2 z) (fun v => (fun v : Int32 × mm_S => ((some (mm_I v.1), v.2) : mm_R)) v = oo) (fun n => eX3_feed_0 n x1 x2 z) oo :=
  xs_row (fun n => qX3_feed_0 n x1 x2 z) (kX3_feed_6 x1 x2 (pX3_lies x2 1 4) z oo)
noncomputable def sX3_feed (x1 : Int32) (x2 : Int32) (z : mm_S) : Option (Int32 × mm_S) := sX3_feed_0 x1 x2 z
theorem sp_X3_feed (x1 : Int32) (x2 : Int32) (z : mm_S) (hk : ∀ v ∈ [mm_P 3 0, mm_I x1, mm_I x2], mm_ok 46 lyTX 48 17 v) (q : Int32 × mm_S) (hq : sX3_feed x1 x2 z = some q) : f_X3_feed [mm_P 3 0, mm_I x1, mm_I x2] z (some (mm_I q.1), q.2) := ⟨Nat.le_of_ble_eq_true rfl, kX3_feed_0 x1 x2 z _ q hq rfl⟩
noncomputable def clo_X3_feed (as : List mm_V) (z : mm_S) (kk : Option mm_V → mm_S → Option mm_R) : Option mm_R := mm_pr as fun t o0 as => bif Nat.beq t 3 then mm_pi as fun a1 as => mm_pi as fun a2 as => (match as with | [] => (sX3_feed a1 a2 z).bind fun q => kk (some (mm_I q.1)) q.2 | _ => none) else none
theorem cs_X3_feed : mm_cs lyTX 46 48 17 f_X3_feed clo_X3_feed := by
  intro as z K o hk h
  obtain ⟨t0, o0, r0, rfl, g0⟩ := mm_pr_e h
  obtain ⟨b0, k0⟩ := mm_bif_e g0
  obtain rfl := Nat.eq_of_beq_eq_true b0
  obtain ⟨a1, r1, rfl, g1⟩ := mm_pi_e k0
  obtain ⟨a2, r2, rfl, g2⟩ := mm_pi_e g1
  rcases r2 with _ | ⟨u, w⟩
  rotate_left
  · cases g2
  obtain rfl : o0 = 0 := ok3 (hk (mm_P 3 o0) (by simp))
  obtain ⟨q, hq, hq2⟩ := Option.bind_eq_some_iff.mp g2
  exact ⟨_, _, sp_X3_feed a1 a2 z hk q hq, fun v hv => by cases hv; exact Or.inl ⟨_, rfl⟩, hq2⟩
theorem sV_X3_feed {own : String} {R : Room} {ar : Nat → Nat} {k : Nat} (hlink : Cond.methodLink own k yX3_feed ∈ lw_gd ∨ ∃ host, (own, k, yX3_feed, host) ∈ nmA) (har : ar k = 3) (hr : 3 ≤ R.frames ∧ 67 ≤ R.locals) : mm_okV lyTX lyFA lenX snX 46 48 17 roX rsA nfA nmA ssX own R ar k clo_X3_feed := by
  refine ⟨yX3_feed, cX3_feed, 4, some .int, rm_X3_feed, f_X3_feed, 3, 2, (RX3, TX3, 12), M_X3_feed, cs_X3_feed, hlink, ⟨wv_X3_feed, wz_X3_feed, wi_X3_feed, wc_X3_feed⟩, ⟨by decide +kernel, by decide +kernel, by decide +kernel⟩, har, ⟨rfl, rfl, by decide⟩, ?_, ⟨rfl, rfl, hr.1, hr.2⟩⟩
  intro as z K o h
  obtain ⟨t0, o0, r0, rfl, g0⟩ := mm_pr_e h
  obtain ⟨b0, k0⟩ := mm_bif_e g0
  obtain rfl := Nat.eq_of_beq_eq_true b0
  exact ⟨_, _, rfl⟩
-- X3_wipe
noncomputable def lV_X3_wipe : List (Nat × (List mm_V → mm_S → (Option mm_V → mm_S → Option mm_R) → Option mm_R)) := []
noncomputable def mV_X3_wipe (k : Nat) (as : List mm_V) (z : mm_S) (kk : Option mm_V → mm_S → Option mm_R) : Option mm_R := match mm_at lV_X3_wipe k with
  | some f => f as z kk
  | none => none
noncomputable def arV_X3_wipe (k : Nat) : Nat := (mm_at [] k).getD 0
noncomputable def lS_X3_wipe : List (Nat × (List mm_V → mm_S → (Option mm_V → mm_S → Option mm_R) → Option mm_R)) := []
noncomputable def mS_X3_wipe (k : Nat) (as : List mm_V) (z : mm_S) (kk : Option mm_V → mm_S → Option mm_R) : Option mm_R := match mm_at lS_X3_wipe k with
  | some f => f as z kk
  | none => none
noncomputable def arS_X3_wipe (k : Nat) : Nat := (mm_at [] k).getD 0
def ct_X3_wipe : List (Nat × List Nat) := [(16, [1])]
noncomputable def go_X3_wipe : Nat → mm_K := mm_go (fun k => mm_at flX3 k) (fun k => mm_at clX3 k) (fun k => mm_at glX3 k) arV_X3_wipe arS_X3_wipe mV_X3_wipe mS_X3_wipe lenX roX snX 2 0 tbX3_wipe ct_X3_wipe
noncomputable def eX3_wipe_0 (n : Nat)  (z : mm_S) : Option mm_R := go_X3_wipe n 0 [(0, mm_P 3 0)] [] z
noncomputable def eX3_wipe_16 (n : Nat) (y1 : Int32) (z : mm_S) : Option mm_R := go_X3_wipe n 16 [(1, mm_I y1)] [] z
set_option maxRecDepth 100000 in
theorem qX3_wipe_0 (n : Nat)  (z : mm_S) : eX3_wipe_0 (n + 1)  z = (eX3_wipe_16 n (z.1 37 1) ((mm_ui z.1 37 1 0), z.2)) := rfl
set_option maxRecDepth 100000 in
theorem qX3_wipe_16 (n : Nat) (y1 : Int32) (z : mm_S) : eX3_wipe_16 (n + 1) y1 z = (some (some (mm_I y1), z)) := rfl
def rm_X3_wipe : Room := { frames := 0, cells := 0, slots := 0, locals := 0 }
noncomputable def f_X3_wipe (as : List mm_V) (z : mm_S) (o : mm_R) : Prop := (as.map mm_cat).sum ≤ 2 ∧ ∃ n, go_X3_wipe n 0 (mm_ar 0 as) [] z = some o
theorem M_X3_wipe : mm_M lyTX lyFA lenX snX 46 48 17 roX rsA nfA nmA ssX yX3_wipe cX3_wipe 2 (some .int) rm_X3_wipe f_X3_wipe :=
  mm_met (rt := 0) (by decide +kernel) ⟨fun h => rfl, fun h => absurd h (by decide), fun h => absurd h (by decide), fun h => absurd h (by decide)⟩ tbX3_wipe_ok hsnX okFX3 okLX3 okGX3 (fun _ _ _ _ => rfl) (fun _ _ _ _ => rfl) (fun _ h => absurd h List.not_mem_nil) (fun _ h => absurd h List.not_mem_nil)
noncomputable def sX3_wipe_16 (y1 : Int32) (z : mm_S) : Option (Int32 × mm_S) := some (y1, z)
theorem kX3_wipe_16 (y1 : Int32) (z : mm_S) (oo : mm_R) : mm_Xs (sX3_wipe_16 y1 z) (fun v => (fun v : Int32 × mm_S => ((some (mm_I v.1), v.2) : mm_R)) v = oo) (fun n => eX3_wipe_16 n y1 z) oo :=
  xs_row (fun n => qX3_wipe_16 n y1 z) (xs_v fun hc => ⟨0, congrArg some hc⟩)
noncomputable def sX3_wipe_0  (z : mm_S) : Option (Int32 × mm_S) := (sX3_wipe_16 (z.1 37 1) ((mm_ui z.1 37 1 0), z.2))
theorem kX3_wipe_0  (z : mm_S) (oo : mm_R) : mm_Xs (sX3_wipe_0  z) (fun v => (fun v : Int32 × mm_S => ((some (mm_I v.1), v.2) : mm_R)) v = oo) (fun n => eX3_wipe_0 n  z) oo :=
  xs_row (fun n => qX3_wipe_0 n z) (kX3_wipe_16 (z.1 37 1) ((mm_ui z.1 37 1 0), z.2) oo)
noncomputable def sX3_wipe  (z : mm_S) : Option (Int32 × mm_S) := sX3_wipe_0  z
theorem sp_X3_wipe  (z : mm_S) (hk : ∀ v ∈ [mm_P 3 0], mm_ok 46 lyTX 48 17 v) (q : Int32 × mm_S) (hq : sX3_wipe  z = some q) : f_X3_wipe [mm_P 3 0] z (some (mm_I q.1), q.2) := ⟨Nat.le_of_ble_eq_true rfl, kX3_wipe_0  z _ q hq rfl⟩
noncomputable def clo_X3_wipe (as : List mm_V) (z : mm_S) (kk : Option mm_V → mm_S → Option mm_R) : Option mm_R := mm_pr as fun t o0 as => bif Nat.beq t 3 then (match as with | [] => (sX3_wipe z).bind fun q => kk (some (mm_I q.1)) q.2 | _ => none) else none
theorem cs_X3_wipe : mm_cs lyTX 46 48 17 f_X3_wipe clo_X3_wipe := by
  intro as z K o hk h
  obtain ⟨t0, o0, r0, rfl, g0⟩ := mm_pr_e h
  obtain ⟨b0, k0⟩ := mm_bif_e g0
  obtain rfl := Nat.eq_of_beq_eq_true b0
  rcases r0 with _ | ⟨u, w⟩
  rotate_left
  · cases k0
  obtain rfl : o0 = 0 := ok3 (hk (mm_P 3 o0) (by simp))
  obtain ⟨q, hq, hq2⟩ := Option.bind_eq_some_iff.mp k0
  exact ⟨_, _, sp_X3_wipe  z hk q hq, fun v hv => by cases hv; exact Or.inl ⟨_, rfl⟩, hq2⟩
theorem sV_X3_wipe {own : String} {R : Room} {ar : Nat → Nat} {k : Nat} (hlink : Cond.methodLink own k yX3_wipe ∈ lw_gd ∨ ∃ host, (own, k, yX3_wipe, host) ∈ nmA) (har : ar k = 1) (hr : 1 ≤ R.frames ∧ 21 ≤ R.locals) : mm_okV lyTX lyFA lenX snX 46 48 17 roX rsA nfA nmA ssX own R ar k clo_X3_wipe := by
  refine ⟨yX3_wipe, cX3_wipe, 2, some .int, rm_X3_wipe, f_X3_wipe, 3, 0, (RX3, TX3, 12), M_X3_wipe, cs_X3_wipe, hlink, ⟨wv_X3_wipe, wz_X3_wipe, wi_X3_wipe, wc_X3_wipe⟩, ⟨by decide +kernel, by decide +kernel, by decide +kernel⟩, har, ⟨rfl, rfl, by decide⟩, ?_, ⟨rfl, rfl, hr.1, hr.2⟩⟩
  intro as z K o h
  obtain ⟨t0, o0, r0, rfl, g0⟩ := mm_pr_e h
  obtain ⟨b0, k0⟩ := mm_bif_e g0
  obtain rfl := Nat.eq_of_beq_eq_true b0
  exact ⟨_, _, rfl⟩
-- X3_hold
noncomputable def lV_X3_hold : List (Nat × (List mm_V → mm_S → (Option mm_V → mm_S → Option mm_R) → Option mm_R)) := [(59, clo_X3_finding), (87, clo_X3_isCrew)]
noncomputable def mV_X3_hold (k : Nat) (as : List mm_V) (z : mm_S) (kk : Option mm_V → mm_S → Option mm_R) : Option mm_R := match mm_at lV_X3_hold k with
  | some f => f as z kk
  | none => none
noncomputable def arV_X3_hold (k : Nat) : Nat := (mm_at [(59, 2), (87, 2)] k).getD 0
noncomputable def lS_X3_hold : List (Nat × (List mm_V → mm_S → (Option mm_V → mm_S → Option mm_R) → Option mm_R)) := [(111, clo_X3_exchange), (300, clo_X3_isSpot)]
noncomputable def mS_X3_hold (k : Nat) (as : List mm_V) (z : mm_S) (kk : Option mm_V → mm_S → Option mm_R) : Option mm_R := match mm_at lS_X3_hold k with
  | some f => f as z kk
  | none => none
noncomputable def arS_X3_hold (k : Nat) : Nat := (mm_at [(111, 3), (300, 1)] k).getD 0
def ct_X3_hold : List (Nat × List Nat) := [(4, [0, 1, 2]), (17, [0, 1, 2]), (26, [0, 1, 2]), (39, [])]
noncomputable def go_X3_hold : Nat → mm_K := mm_go (fun k => mm_at flX3 k) (fun k => mm_at clX3 k) (fun k => mm_at glX3 k) arV_X3_hold arS_X3_hold mV_X3_hold mS_X3_hold lenX roX snX 3 0 tbX3_hold ct_X3_hold
noncomputable def eX3_hold_0 (n : Nat)  (x1 : Int32) (x2 : Int32) (z : mm_S) : Option mm_R := go_X3_hold n 0 [(0, mm_P 3 0), (1, mm_I x1), (2, mm_I x2)] [] z
noncomputable def eX3_hold_4 (n : Nat)  (y1 : Int32) (y2 : Int32) (w0 : Int32) (z : mm_S) : Option mm_R := go_X3_hold n 4 [(0, mm_P 3 0), (1, mm_I y1), (2, mm_I y2)] [mm_I w0] z
noncomputable def eX3_hold_26 (n : Nat)  (y1 : Int32) (y2 : Int32) (z : mm_S) : Option mm_R := go_X3_hold n 26 [(0, mm_P 3 0), (1, mm_I y1), (2, mm_I y2)] [] z
noncomputable def eX3_hold_17 (n : Nat)  (y1 : Int32) (y2 : Int32) (w0 : Int32) (z : mm_S) : Option mm_R := go_X3_hold n 17 [(0, mm_P 3 0), (1, mm_I y1), (2, mm_I y2)] [mm_I w0] z
noncomputable def eX3_hold_39 (n : Nat)  (z : mm_S) : Option mm_R := go_X3_hold n 39 [] [] z
set_option maxRecDepth 100000 in
theorem qX3_hold_0 (n : Nat)  (x1 : Int32) (x2 : Int32) (z : mm_S) : eX3_hold_0 (n + 1) x1 x2 z = (eX3_hold_4 n x1 x2 (pX3_isSpot x1) z) := rfl
set_option maxRecDepth 100000 in
theorem qX3_hold_4 (n : Nat)  (y1 : Int32) (y2 : Int32) (w0 : Int32) (z : mm_S) : eX3_hold_4 (n + 1) y1 y2 w0 z = (if w0 = 0 then (sX3_finding 0 z).bind fun q1 => some (some (mm_I q1.1), q1.2) else if y2 = (-1) then eX3_hold_26 n y1 y2 z else eX3_hold_17 n y1 y2 (pX3_isCrew y2 z) z) := rfl
set_option maxRecDepth 100000 in
theorem qX3_hold_26 (n : Nat)  (y1 : Int32) (y2 : Int32) (z : mm_S) : eX3_hold_26 (n + 1) y1 y2 z = (let u2 := (tX3_exchange 12 y1 y2 z); eX3_hold_39 n  u2.2) := rfl
set_option maxRecDepth 100000 in
theorem qX3_hold_17 (n : Nat)  (y1 : Int32) (y2 : Int32) (w0 : Int32) (z : mm_S) : eX3_hold_17 (n + 1) y1 y2 w0 z = (if w0 = 0 then (sX3_finding 0 z).bind fun q3 => some (some (mm_I q3.1), q3.2) else eX3_hold_26 n y1 y2 z) := rfl
set_option maxRecDepth 100000 in
theorem qX3_hold_39 (n : Nat)  (z : mm_S) : eX3_hold_39 (n + 1)  z = (some (some (mm_I 1), z)) := rfl
def rm_X3_hold : Room := { frames := 2, cells := 0, slots := 0, locals := 44 }
noncomputable def f_X3_hold (as : List mm_V) (z : mm_S) (o : mm_R) : Prop := (as.map mm_cat).sum ≤ 3 ∧ ∃ n, go_X3_hold n 0 (mm_ar 0 as) [] z = some o
theorem M_X3_hold : mm_M lyTX lyFA lenX snX 46 48 17 roX rsA nfA nmA ssX yX3_hold cX3_hold 3 (some .int) rm_X3_hold f_X3_hold :=
  mm_met (rt := 0) (by decide +kernel) ⟨fun h => rfl, fun h => absurd h (by decide), fun h => absurd h (by decide), fun h => absurd h (by decide)⟩ tbX3_hold_ok hsnX okFX3 okLX3 okGX3 (fun _ _ _ _ => rfl) (fun _ _ _ _ => rfl) (List.forall_mem_cons.mpr ⟨sV_X3_finding (Or.inl lk_X3_59) rfl ⟨by decide, by decide⟩, List.forall_mem_cons.mpr ⟨sV_X3_isCrew (Or.inl lk_X3_87) rfl ⟨by decide, by decide⟩, fun _ h => absurd h List.not_mem_nil⟩⟩) (List.forall_mem_cons.mpr ⟨sS_X3_exchange (Or.inl lk_X3_111) rfl ⟨by decide, by decide⟩, List.forall_mem_cons.mpr ⟨sS_X3_isSpot (Or.inl lk_X3_300) rfl ⟨by decide, by decide⟩, fun _ h => absurd h List.not_mem_nil⟩⟩)
noncomputable def sX3_hold_39  (z : mm_S) : Option (Int32 × mm_S) := some (1, z)
theorem kX3_hold_39  (z : mm_S) (oo : mm_R) : mm_Xs (sX3_hold_39  z) (fun v => (fun v : Int32 × mm_S => ((some (mm_I v.1), v.2) : mm_R)) v = oo) (fun n => eX3_hold_39 n  z) oo :=
  xs_row (fun n => qX3_hold_39 n z) (xs_v fun hc => ⟨0, congrArg some hc⟩)
noncomputable def sX3_hold_26 (y1 : Int32) (y2 : Int32) (z : mm_S) : Option (Int32 × mm_S) := let u2 := (tX3_exchange 12 y1 y2 z); (sX3_hold_39 u2.2)
theorem kX3_hold_26 (y1 : Int32) (y2 : Int32) (z : mm_S) (oo : mm_R) : mm_Xs (sX3_hold_26 y1 y2 z) (fun v => (fun v : Int32 × mm_S => ((some (mm_I v.1), v.2) : mm_R)) v = oo) (fun n => eX3_hold_26 n y1 y2 z) oo :=
  xs_row (fun n => qX3_hold_26 n y1 y2 z) (xs_let ((tX3_exchange 12 y1 y2 z)) (S := fun (u2 : _) => ((sX3_hold_39 u2.2) : Option (Int32 × mm_S))) (T := fun (u2 : _) n => eX3_hold_39 n  u2.2) (fun u2 => (kX3_hold_39 u2.2 oo)))
noncomputable def sX3_hold_17 (y1 : Int32) (y2 : Int32) (w0 : Int32) (z : mm_S) : Option (Int32 × mm_S) := if w0 = 0 then (sX3_finding 0 z).bind fun q3 => some (q3.1, q3.2) else (sX3_hold_26 y1 y2 z)
theorem kX3_hold_17 (y1 : Int32) (y2 : Int32) (w0 : Int32) (z : mm_S) (oo : mm_R) : mm_Xs (sX3_hold_17 y1 y2 w0 z) (fun v => (fun v : Int32 × mm_S => ((some (mm_I v.1), v.2) : mm_R)) v = oo) (fun n => eX3_hold_17 n y1 y2 w0 z) oo :=
  xs_row (fun n => qX3_hold_17 n y1 y2 w0 z) (xs_if (xs_bd fun q3 => (xs_v fun hc => ⟨0, congrArg some hc⟩)) (kX3_hold_26 y1 y2 z oo))
noncomputable def sX3_hold_4 (y1 : Int32) (y2 : Int32) (w0 : Int32) (z : mm_S) : Option (Int32 × mm_S) := if w0 = 0 then (sX3_finding 0 z).bind fun q1 => some (q1.1, q1.2) else if y2 = (-1) then (sX3_hold_26 y1 y2 z) else (sX3_hold_17 y1 y2 (pX3_isCrew y2 z) z)
theorem kX3_hold_4 (y1 : Int32) (y2 : Int32) (w0 : Int32) (z : mm_S) (oo : mm_R) : mm_Xs (sX3_hold_4 y1 y2 w0 z) (fun v => (fun v : Int32 × mm_S => ((some (mm_I v.1), v.2) : mm_R)) v = oo) (fun n => eX3_hold_4 n y1 y2 w0 z) oo :=
  xs_row (fun n => qX3_hold_4 n y1 y2 w0 z) (xs_if (xs_bd fun q1 => (xs_v fun hc => ⟨0, congrArg some hc⟩)) (xs_if (kX3_hold_26 y1 y2 z oo) (kX3_hold_17 y1 y2 (pX3_isCrew y2 z) z oo)))
noncomputable def sX3_hold_0 (x1 : Int32) (x2 : Int32) (z : mm_S) : Option (Int32 × mm_S) := (sX3_hold_4 x1 x2 (pX3_isSpot x1) z)
theorem kX3_hold_0 (x1 : Int32) (x2 : Int32) (z : mm_S) (oo : mm_R) : mm_Xs (sX3_hold_0 x1 x2 z) (fun v => (fun v : Int32 × mm_S => ((some (mm_I v.1), v.2) : mm_R)) v = oo) (fun n => eX3_hold_0 n x1 x2 z) oo :=
  xs_row (fun n => qX3_hold_0 n x1 x2 z) (kX3_hold_4 x1 x2 (pX3_isSpot x1) z oo)
noncomputable def sX3_hold (x1 : Int32) (x2 : Int32) (z : mm_S) : Option (Int32 × mm_S) := sX3_hold_0 x1 x2 z
theorem sp_X3_hold (x1 : Int32) (x2 : Int32) (z : mm_S) (hk : ∀ v ∈ [mm_P 3 0, mm_I x1, mm_I x2], mm_ok 46 lyTX 48 17 v) (q : Int32 × mm_S) (hq : sX3_hold x1 x2 z = some q) : f_X3_hold [mm_P 3 0, mm_I x1, mm_I x2] z (some (mm_I q.1), q.2) := ⟨Nat.le_of_ble_eq_true rfl, kX3_hold_0 x1 x2 z _ q hq rfl⟩
noncomputable def clo_X3_hold (as : List mm_V) (z : mm_S) (kk : Option mm_V → mm_S → Option mm_R) : Option mm_R := mm_pr as fun t o0 as => bif Nat.beq t 3 then mm_pi as fun a1 as => mm_pi as fun a2 as => (match as with | [] => (sX3_hold a1 a2 z).bind fun q => kk (some (mm_I q.1)) q.2 | _ => none) else none
theorem cs_X3_hold : mm_cs lyTX 46 48 17 f_X3_hold clo_X3_hold := by
  intro as z K o hk h
  obtain ⟨t0, o0, r0, rfl, g0⟩ := mm_pr_e h
  obtain ⟨b0, k0⟩ := mm_bif_e g0
  obtain rfl := Nat.eq_of_beq_eq_true b0
  obtain ⟨a1, r1, rfl, g1⟩ := mm_pi_e k0
  obtain ⟨a2, r2, rfl, g2⟩ := mm_pi_e g1
  rcases r2 with _ | ⟨u, w⟩
  rotate_left
  · cases g2
  obtain rfl : o0 = 0 := ok3 (hk (mm_P 3 o0) (by simp))
  obtain ⟨q, hq, hq2⟩ := Option.bind_eq_some_iff.mp g2
  exact ⟨_, _, sp_X3_hold a1 a2 z hk q hq, fun v hv => by cases hv; exact Or.inl ⟨_, rfl⟩, hq2⟩
theorem sV_X3_hold {own : String} {R : Room} {ar : Nat → Nat} {k : Nat} (hlink : Cond.methodLink own k yX3_hold ∈ lw_gd ∨ ∃ host, (own, k, yX3_hold, host) ∈ nmA) (har : ar k = 3) (hr : 3 ≤ R.frames ∧ 66 ≤ R.locals) : mm_okV lyTX lyFA lenX snX 46 48 17 roX rsA nfA nmA ssX own R ar k clo_X3_hold := by
  refine ⟨yX3_hold, cX3_hold, 3, some .int, rm_X3_hold, f_X3_hold, 3, 2, (RX3, TX3, 12), M_X3_hold, cs_X3_hold, hlink, ⟨wv_X3_hold, wz_X3_hold, wi_X3_hold, wc_X3_hold⟩, ⟨by decide +kernel, by decide +kernel, by decide +kernel⟩, har, ⟨rfl, rfl, by decide⟩, ?_, ⟨rfl, rfl, hr.1, hr.2⟩⟩
  intro as z K o h
  obtain ⟨t0, o0, r0, rfl, g0⟩ := mm_pr_e h
  obtain ⟨b0, k0⟩ := mm_bif_e g0
  obtain rfl := Nat.eq_of_beq_eq_true b0
  exact ⟨_, _, rfl⟩
-- X3_isOfKind
noncomputable def lV_X3_isOfKind : List (Nat × (List mm_V → mm_S → (Option mm_V → mm_S → Option mm_R) → Option mm_R)) := []
noncomputable def mV_X3_isOfKind (k : Nat) (as : List mm_V) (z : mm_S) (kk : Option mm_V → mm_S → Option mm_R) : Option mm_R := match mm_at lV_X3_isOfKind k with
  | some f => f as z kk
  | none => none
noncomputable def arV_X3_isOfKind (k : Nat) : Nat := (mm_at [] k).getD 0
noncomputable def lS_X3_isOfKind : List (Nat × (List mm_V → mm_S → (Option mm_V → mm_S → Option mm_R) → Option mm_R)) := [(165, clo_X3_at14)]
noncomputable def mS_X3_isOfKind (k : Nat) (as : List mm_V) (z : mm_S) (kk : Option mm_V → mm_S → Option mm_R) : Option mm_R := match mm_at lS_X3_isOfKind k with
  | some f => f as z kk
  | none => none
noncomputable def arS_X3_isOfKind (k : Nat) : Nat := (mm_at [(165, 2)] k).getD 0
def ct_X3_isOfKind : List (Nat × List Nat) := [(4, [1, 2, 3]), (30, [1, 2, 3])]
noncomputable def go_X3_isOfKind : Nat → mm_K := mm_go (fun k => mm_at flX3 k) (fun k => mm_at clX3 k) (fun k => mm_at glX3 k) arV_X3_isOfKind arS_X3_isOfKind mV_X3_isOfKind mS_X3_isOfKind lenX roX snX 4 1 tbX3_isOfKind ct_X3_isOfKind
noncomputable def eX3_isOfKind_0 (n : Nat) (x1 : Int32) (x2 : Int32) (z : mm_S) : Option mm_R := go_X3_isOfKind n 0 [(0, mm_I x1), (1, mm_I x2)] [] z
noncomputable def eX3_isOfKind_4 (n : Nat) (y1 : Int32) (y2 : Int32) (y3 : Int32) (z : mm_S) : Option mm_R := go_X3_isOfKind n 4 [(1, mm_I y1), (2, mm_I y2), (3, mm_I y3)] [] z
noncomputable def eX3_isOfKind_30 (n : Nat) (y1 : Int32) (y2 : Int32) (y3 : Int32) (z : mm_S) : Option mm_R := go_X3_isOfKind n 30 [(1, mm_I y1), (2, mm_I y2), (3, mm_I y3)] [] z
set_option maxRecDepth 100000 in
theorem qX3_isOfKind_0 (n : Nat) (x1 : Int32) (x2 : Int32) (z : mm_S) : eX3_isOfKind_0 (n + 1) x1 x2 z = (eX3_isOfKind_4 n x2 x1 0 z) := rfl
set_option maxRecDepth 100000 in
theorem qX3_isOfKind_4 (n : Nat) (y1 : Int32) (y2 : Int32) (y3 : Int32) (z : mm_S) : eX3_isOfKind_4 (n + 1) y1 y2 y3 z = (if 7 ≤ y3 then some (some (mm_I 0), z) else if y2 = (-1) then some (some (mm_I 0), z) else if y2 = y1 then some (some (mm_I 1), z) else eX3_isOfKind_30 n y1 (pX3_at14 47 y2) y3 z) := rfl
set_option maxRecDepth 100000 in
theorem qX3_isOfKind_30 (n : Nat) (y1 : Int32) (y2 : Int32) (y3 : Int32) (z : mm_S) : eX3_isOfKind_30 (n + 1) y1 y2 y3 z = (eX3_isOfKind_4 n y1 y2 (y3 + 1) z) := rfl
def rm_X3_isOfKind : Room := { frames := 1, cells := 0, slots := 0, locals := 21 }
noncomputable def f_X3_isOfKind (as : List mm_V) (z : mm_S) (o : mm_R) : Prop := (as.map mm_cat).sum ≤ 4 ∧ ∃ n, go_X3_isOfKind n 0 (mm_ar 0 as) [] z = some o
theorem M_X3_isOfKind : mm_M lyTX lyFA lenX snX 46 48 17 roX rsA nfA nmA ssX yX3_isOfKind cX3_isOfKind 4 (some .boolean) rm_X3_isOfKind f_X3_isOfKind :=
  mm_met (rt := 1) (by decide +kernel) ⟨fun h => absurd h (by decide), fun h => rfl, fun h => absurd h (by decide), fun h => absurd h (by decide)⟩ tbX3_isOfKind_ok hsnX okFX3 okLX3 okGX3 (fun _ _ _ _ => rfl) (fun _ _ _ _ => rfl) (fun _ h => absurd h List.not_mem_nil) (List.forall_mem_cons.mpr ⟨sS_X3_at14 (Or.inl lk_X3_165) rfl ⟨by decide, by decide⟩, fun _ h => absurd h List.not_mem_nil⟩)
noncomputable def sX3_isOfKind_30 (y1 : Int32) (y2 : Int32) (y3 : Int32) (z : mm_S) : Option ((Int32 × Int32 × Int32 × mm_S) ⊕ (Int32 × mm_S)) := some (.inl (y1, y2, (y3 + 1), z))
theorem kX3_isOfKind_30 (y1 : Int32) (y2 : Int32) (y3 : Int32) (z : mm_S) (oo : mm_R) : mm_Xs (sX3_isOfKind_30 y1 y2 y3 z) (mm_mt (fun x : Int32 × Int32 × Int32 × mm_S => ∃ n, eX3_isOfKind_4 n x.1 x.2.1 x.2.2.1 x.2.2.2 = some oo) (fun v => (fun v : Int32 × mm_S => ((some (mm_I v.1), v.2) : mm_R)) v = oo)) (fun n => eX3_isOfKind_30 n y1 y2 y3 z) oo :=
  xs_row (fun n => qX3_isOfKind_30 n y1 y2 y3 z) (xs_v fun hc => hc)
noncomputable def lX3_isOfKind_4 (s : Int32 × Int32 × Int32 × mm_S) : Option ((Int32 × Int32 × Int32 × mm_S) ⊕ (Int32 × mm_S)) := if 7 ≤ s.2.2.1 then some (.inr (0, s.2.2.2)) else if s.2.1 = (-1) then some (.inr (0, s.2.2.2)) else if s.2.1 = s.1 then some (.inr (1, s.2.2.2)) else (sX3_isOfKind_30 s.1 (pX3_at14 47 s.2.1) s.2.2.1 s.2.2.2)
noncomputable def sX3_isOfKind_4 (y1 : Int32) (y2 : Int32) (y3 : Int32) (z : mm_S) : Option (Int32 × mm_S) := mm_wh (lX3_isOfKind_4 ) mm_fu (y1, y2, y3, z)
theorem kX3_isOfKind_4 (y1 : Int32) (y2 : Int32) (y3 : Int32) (z : mm_S) (oo : mm_R) : mm_Xs (sX3_isOfKind_4 y1 y2 y3 z) (fun v => (fun v : Int32 × mm_S => ((some (mm_I v.1), v.2) : mm_R)) v = oo) (fun n => eX3_isOfKind_4 n y1 y2 y3 z) oo :=
  xs_wh (stp := lX3_isOfKind_4 ) (o := oo) (E := (fun (s : Int32 × Int32 × Int32 × mm_S) n => eX3_isOfKind_4 n s.1 s.2.1 s.2.2.1 s.2.2.2)) (C := (fun v => (fun v : Int32 × mm_S => ((some (mm_I v.1), v.2) : mm_R)) v = oo)) (fun s => xs_row (fun n => qX3_isOfKind_4 n s.1 s.2.1 s.2.2.1 s.2.2.2) (xs_if (xs_v fun hc => ⟨0, congrArg some hc⟩) (xs_if (xs_v fun hc => ⟨0, congrArg some hc⟩) (xs_if (xs_v fun hc => ⟨0, congrArg some hc⟩) (kX3_isOfKind_30 s.1 (pX3_at14 47 s.2.1) s.2.2.1 s.2.2.2 oo))))) mm_fu (y1, y2, y3, z)
noncomputable def sX3_isOfKind_0 (x1 : Int32) (x2 : Int32) (z : mm_S) : Option (Int32 × mm_S) := (sX3_isOfKind_4 x2 x1 0 z)
theorem kX3_isOfKind_0 (x1 : Int32) (x2 : Int32) (z : mm_S) (oo : mm_R) : mm_Xs (sX3_isOfKind_0 x1 x2 z) (fun v => (fun v : Int32 × mm_S => ((some (mm_I v.1), v.2) : mm_R)) v = oo) (fun n => eX3_isOfKind_0 n x1 x2 z) oo :=
  xs_row (fun n => qX3_isOfKind_0 n x1 x2 z) (kX3_isOfKind_4 x2 x1 0 z oo)
noncomputable def sX3_isOfKind (x1 : Int32) (x2 : Int32) (z : mm_S) : Option (Int32 × mm_S) := sX3_isOfKind_0 x1 x2 z
theorem sp_X3_isOfKind (x1 : Int32) (x2 : Int32) (z : mm_S) (hk : ∀ v ∈ [mm_I x1, mm_I x2], mm_ok 46 lyTX 48 17 v) (q : Int32 × mm_S) (hq : sX3_isOfKind x1 x2 z = some q) : f_X3_isOfKind [mm_I x1, mm_I x2] z (some (mm_I q.1), q.2) := ⟨Nat.le_of_ble_eq_true rfl, kX3_isOfKind_0 x1 x2 z _ q hq rfl⟩
noncomputable def clo_X3_isOfKind (as : List mm_V) (z : mm_S) (kk : Option mm_V → mm_S → Option mm_R) : Option mm_R := mm_pi as fun a0 as => mm_pi as fun a1 as => (match as with | [] => (sX3_isOfKind a0 a1 z).bind fun q => kk (some (mm_I q.1)) q.2 | _ => none)
theorem cs_X3_isOfKind : mm_cs lyTX 46 48 17 f_X3_isOfKind clo_X3_isOfKind := by
  intro as z K o hk h
  obtain ⟨a0, r0, rfl, g0⟩ := mm_pi_e h
  obtain ⟨a1, r1, rfl, g1⟩ := mm_pi_e g0
  rcases r1 with _ | ⟨u, w⟩
  rotate_left
  · cases g1
  obtain ⟨q, hq, hq2⟩ := Option.bind_eq_some_iff.mp g1
  exact ⟨_, _, sp_X3_isOfKind a0 a1 z hk q hq, fun v hv => by cases hv; exact Or.inl ⟨_, rfl⟩, hq2⟩
theorem sS_X3_isOfKind {own : String} {R : Room} {ar : Nat → Nat} {k : Nat} (hlink : Cond.methodLink own k yX3_isOfKind ∈ lw_gd ∨ ∃ host, (own, k, yX3_isOfKind, host) ∈ nmA) (har : ar k = 2) (hr : 2 ≤ R.frames ∧ 44 ≤ R.locals) : mm_okS lyTX lyFA lenX snX 46 48 17 roX rsA nfA nmA ssX own R ar k clo_X3_isOfKind :=
  Or.inl ⟨yX3_isOfKind, cX3_isOfKind, 4, some .boolean, rm_X3_isOfKind, f_X3_isOfKind, M_X3_isOfKind, cs_X3_isOfKind, hlink, ⟨ws_X3_isOfKind, wi_X3_isOfKind, wc_X3_isOfKind⟩, ⟨by decide +kernel, by decide +kernel, by rw [har]; decide +kernel⟩, ⟨rfl, rfl, hr.1, hr.2⟩⟩
