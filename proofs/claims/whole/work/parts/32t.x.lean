-- X2_endWord
noncomputable def lV_X2_endWord : List (Nat × (List mm_V → mm_S → (Option mm_V → mm_S → Option mm_R) → Option mm_R)) := []
noncomputable def mV_X2_endWord (k : Nat) (as : List mm_V) (z : mm_S) (kk : Option mm_V → mm_S → Option mm_R) : Option mm_R := match mm_at lV_X2_endWord k with
  | some f => f as z kk
  | none => none
noncomputable def arV_X2_endWord (k : Nat) : Nat := (mm_at [] k).getD 0
noncomputable def lS_X2_endWord : List (Nat × (List mm_V → mm_S → (Option mm_V → mm_S → Option mm_R) → Option mm_R)) := [(148, clo_X3_at), (155, clo_X2_isLetter)]
noncomputable def mS_X2_endWord (k : Nat) (as : List mm_V) (z : mm_S) (kk : Option mm_V → mm_S → Option mm_R) : Option mm_R := match mm_at lS_X2_endWord k with
  | some f => f as z kk
  | none => none
noncomputable def arS_X2_endWord (k : Nat) : Nat := (mm_at [(148, 2), (155, 1)] k).getD 0
def ct_X2_endWord : List (Nat × List Nat) := [(0, [0]), (22, [0]), (38, [0])]
noncomputable def go_X2_endWord : Nat → mm_K := mm_go (fun k => mm_at flX2 k) (fun k => mm_at clX2 k) (fun k => mm_at glX2 k) arV_X2_endWord arS_X2_endWord mV_X2_endWord mS_X2_endWord lenX roX snX 1 3 tbX2_endWord ct_X2_endWord
noncomputable def eX2_endWord_0 (n : Nat)  (z : mm_S) : Option mm_R := go_X2_endWord n 0 [(0, mm_P 2 37)] [] z
noncomputable def eX2_endWord_22 (n : Nat)  (w0 : Int32) (z : mm_S) : Option mm_R := go_X2_endWord n 22 [(0, mm_P 2 37)] [mm_I w0] z
noncomputable def eX2_endWord_38 (n : Nat)  (z : mm_S) : Option mm_R := go_X2_endWord n 38 [(0, mm_P 2 37)] [] z
set_option maxRecDepth 100000 in
theorem qX2_endWord_0 (n : Nat)  (z : mm_S) : eX2_endWord_0 (n + 1)  z = (if (z.1 37 1) ≤ (z.1 37 4) then some (none, z) else eX2_endWord_22 n (pX3_at 38 (z.1 37 4) z) z) := rfl
set_option maxRecDepth 100000 in
theorem qX2_endWord_22 (n : Nat)  (w0 : Int32) (z : mm_S) : eX2_endWord_22 (n + 1) w0 z = (if (pX2_isLetter w0 z) = 0 then some (none, z) else eX2_endWord_38 n  ((mm_ui z.1 37 4 ((z.1 37 4) + 1)), z.2)) := rfl
set_option maxRecDepth 100000 in
theorem qX2_endWord_38 (n : Nat)  (z : mm_S) : eX2_endWord_38 (n + 1)  z = (eX2_endWord_0 n  z) := rfl
def rm_X2_endWord : Room := { frames := 1, cells := 0, slots := 0, locals := 21 }
noncomputable def f_X2_endWord (as : List mm_V) (z : mm_S) (o : mm_R) : Prop := (as.map mm_cat).sum ≤ 1 ∧ ∃ n, go_X2_endWord n 0 (mm_ar 0 as) [] z = some o
theorem M_X2_endWord : mm_M lyTX lyFA lenX snX 46 48 17 roX rsA nfA nmA ssX yX2_endWord cX2_endWord 1 (none) rm_X2_endWord f_X2_endWord :=
  mm_met (rt := 3) (by decide +kernel) ⟨fun h => absurd h (by decide), fun h => absurd h (by decide), fun h => absurd h (by decide), fun h => rfl⟩ tbX2_endWord_ok hsnX okFX2 okLX2 okGX2 (fun _ _ _ _ => rfl) (fun _ _ _ _ => rfl) (fun _ h => absurd h List.not_mem_nil) (List.forall_mem_cons.mpr ⟨sS_X3_at (Or.inr ⟨_, ln_X2_148⟩) rfl ⟨by decide, by decide⟩, List.forall_mem_cons.mpr ⟨sS_X2_isLetter (Or.inl lk_X2_155) rfl ⟨by decide, by decide⟩, fun _ h => absurd h List.not_mem_nil⟩⟩)
noncomputable def sX2_endWord_38  (z : mm_S) : Option ((mm_S) ⊕ (mm_S)) := some (.inl z)
theorem kX2_endWord_38  (z : mm_S) (oo : mm_R) : mm_Xs (sX2_endWord_38  z) (mm_mt (fun x : mm_S => ∃ n, eX2_endWord_0 n  x = some oo) (fun v => (fun v : mm_S => ((none, v) : mm_R)) v = oo)) (fun n => eX2_endWord_38 n  z) oo :=
  xs_row (fun n => qX2_endWord_38 n z) (xs_v fun hc => hc)
noncomputable def sX2_endWord_22 (w0 : Int32) (z : mm_S) : Option ((mm_S) ⊕ (mm_S)) := if (pX2_isLetter w0 z) = 0 then some (.inr (z)) else (sX2_endWord_38 ((mm_ui z.1 37 4 ((z.1 37 4) + 1)), z.2))
theorem kX2_endWord_22 (w0 : Int32) (z : mm_S) (oo : mm_R) : mm_Xs (sX2_endWord_22 w0 z) (mm_mt (fun x : mm_S => ∃ n, eX2_endWord_0 n  x = some oo) (fun v => (fun v : mm_S => ((none, v) : mm_R)) v = oo)) (fun n => eX2_endWord_22 n w0 z) oo :=
  xs_row (fun n => qX2_endWord_22 n w0 z) (xs_if (xs_v fun hc => ⟨0, congrArg some hc⟩) (kX2_endWord_38 ((mm_ui z.1 37 4 ((z.1 37 4) + 1)), z.2) oo))
noncomputable def lX2_endWord_0 (s : mm_S) : Option ((mm_S) ⊕ (mm_S)) := if (s.1 37 1) ≤ (s.1 37 4) then some (.inr (s)) else (sX2_endWord_22 (pX3_at 38 (s.1 37 4) s) s)
noncomputable def sX2_endWord_0  (z : mm_S) : Option (mm_S) := mm_wh (lX2_endWord_0 ) mm_fu z
theorem kX2_endWord_0  (z : mm_S) (oo : mm_R) : mm_Xs (sX2_endWord_0  z) (fun v => (fun v : mm_S => ((none, v) : mm_R)) v = oo) (fun n => eX2_endWord_0 n  z) oo :=
  xs_wh (stp := lX2_endWord_0 ) (o := oo) (E := (fun (s : mm_S) n => eX2_endWord_0 n  s)) (C := (fun v => (fun v : mm_S => ((none, v) : mm_R)) v = oo)) (fun s => xs_row (fun n => qX2_endWord_0 n s) (xs_if (xs_v fun hc => ⟨0, congrArg some hc⟩) (kX2_endWord_22 (pX3_at 38 (s.1 37 4) s) s oo))) mm_fu z
noncomputable def sX2_endWord  (z : mm_S) : Option (mm_S) := sX2_endWord_0  z
theorem sp_X2_endWord  (z : mm_S) (hk : ∀ v ∈ [mm_P 2 37], mm_ok 46 lyTX 48 17 v) (q : mm_S) (hq : sX2_endWord  z = some q) : f_X2_endWord [mm_P 2 37] z (none, q) := ⟨Nat.le_of_ble_eq_true rfl, kX2_endWord_0  z _ q hq rfl⟩
noncomputable def clo_X2_endWord (as : List mm_V) (z : mm_S) (kk : Option mm_V → mm_S → Option mm_R) : Option mm_R := mm_pr as fun t o0 as => bif Nat.beq t 2 then (match as with | [] => (sX2_endWord z).bind fun q => kk none q | _ => none) else none
theorem cs_X2_endWord : mm_cs lyTX 46 48 17 f_X2_endWord clo_X2_endWord := by
  intro as z K o hk h
  obtain ⟨t0, o0, r0, rfl, g0⟩ := mm_pr_e h
  obtain ⟨b0, k0⟩ := mm_bif_e g0
  obtain rfl := Nat.eq_of_beq_eq_true b0
  rcases r0 with _ | ⟨u, w⟩
  rotate_left
  · cases k0
  obtain rfl : o0 = 37 := ok2 (hk (mm_P 2 o0) (by simp))
  obtain ⟨q, hq, hq2⟩ := Option.bind_eq_some_iff.mp k0
  exact ⟨_, _, sp_X2_endWord  z hk q hq, (fun v hv => by cases hv), hq2⟩
theorem sV_X2_endWord {own : String} {R : Room} {ar : Nat → Nat} {k : Nat} (hlink : Cond.methodLink own k yX2_endWord ∈ lw_gd ∨ ∃ host, (own, k, yX2_endWord, host) ∈ nmA) (har : ar k = 1) (hr : 2 ≤ R.frames ∧ 41 ≤ R.locals) : mm_okV lyTX lyFA lenX snX 46 48 17 roX rsA nfA nmA ssX own R ar k clo_X2_endWord := by
  refine ⟨yX2_endWord, cX2_endWord, 1, none, rm_X2_endWord, f_X2_endWord, 2, 0, (RX2, TX2, 6), M_X2_endWord, cs_X2_endWord, hlink, ⟨wv_X2_endWord, wz_X2_endWord, wi_X2_endWord, wc_X2_endWord⟩, ⟨by decide +kernel, by decide +kernel, by decide +kernel⟩, har, ⟨rfl, rfl, by decide⟩, ?_, ⟨rfl, rfl, hr.1, hr.2⟩⟩
  intro as z K o h
  obtain ⟨t0, o0, r0, rfl, g0⟩ := mm_pr_e h
  obtain ⟨b0, k0⟩ := mm_bif_e g0
  obtain rfl := Nat.eq_of_beq_eq_true b0
  exact ⟨_, _, rfl⟩
-- X2_isDigit
noncomputable def lV_X2_isDigit : List (Nat × (List mm_V → mm_S → (Option mm_V → mm_S → Option mm_R) → Option mm_R)) := []
noncomputable def mV_X2_isDigit (k : Nat) (as : List mm_V) (z : mm_S) (kk : Option mm_V → mm_S → Option mm_R) : Option mm_R := match mm_at lV_X2_isDigit k with
  | some f => f as z kk
  | none => none
noncomputable def arV_X2_isDigit (k : Nat) : Nat := (mm_at [] k).getD 0
noncomputable def lS_X2_isDigit : List (Nat × (List mm_V → mm_S → (Option mm_V → mm_S → Option mm_R) → Option mm_R)) := []
noncomputable def mS_X2_isDigit (k : Nat) (as : List mm_V) (z : mm_S) (kk : Option mm_V → mm_S → Option mm_R) : Option mm_R := match mm_at lS_X2_isDigit k with
  | some f => f as z kk
  | none => none
noncomputable def arS_X2_isDigit (k : Nat) : Nat := (mm_at [] k).getD 0
def ct_X2_isDigit : List (Nat × List Nat) := []
noncomputable def go_X2_isDigit : Nat → mm_K := mm_go (fun k => mm_at flX2 k) (fun k => mm_at clX2 k) (fun k => mm_at glX2 k) arV_X2_isDigit arS_X2_isDigit mV_X2_isDigit mS_X2_isDigit lenX roX snX 1 1 tbX2_isDigit ct_X2_isDigit
noncomputable def eX2_isDigit_0 (n : Nat) (x1 : Int32) (z : mm_S) : Option mm_R := go_X2_isDigit n 0 [(0, mm_I x1)] [] z
set_option maxRecDepth 100000 in
theorem qX2_isDigit_0 (n : Nat) (x1 : Int32) (z : mm_S) : eX2_isDigit_0 (n + 1) x1 z = (if x1 < 48 then some (some (mm_I 0), z) else if 57 < x1 then some (some (mm_I 0), z) else some (some (mm_I 1), z)) := rfl
def rm_X2_isDigit : Room := { frames := 0, cells := 0, slots := 0, locals := 0 }
noncomputable def f_X2_isDigit (as : List mm_V) (z : mm_S) (o : mm_R) : Prop := (as.map mm_cat).sum ≤ 1 ∧ ∃ n, go_X2_isDigit n 0 (mm_ar 0 as) [] z = some o
theorem M_X2_isDigit : mm_M lyTX lyFA lenX snX 46 48 17 roX rsA nfA nmA ssX yX2_isDigit cX2_isDigit 1 (some .boolean) rm_X2_isDigit f_X2_isDigit :=
  mm_met (rt := 1) (by decide +kernel) ⟨fun h => absurd h (by decide), fun h => rfl, fun h => absurd h (by decide), fun h => absurd h (by decide)⟩ tbX2_isDigit_ok hsnX okFX2 okLX2 okGX2 (fun _ _ _ _ => rfl) (fun _ _ _ _ => rfl) (fun _ h => absurd h List.not_mem_nil) (fun _ h => absurd h List.not_mem_nil)
noncomputable def pX2_isDigit (x1 : Int32) (z : mm_S) : Int32 := if x1 < 48 then 0 else if 57 < x1 then 0 else 1
theorem z1_X2_isDigit (x1 : Int32) (z : mm_S) : pX2_isDigit x1 z = 0 ∨ pX2_isDigit x1 z = 1 := (mm_i01 (Or.inl rfl) (mm_i01 (Or.inl rfl) (Or.inr rfl)))
theorem sp_X2_isDigit (x1 : Int32) (z : mm_S) (_ : ∀ v ∈ [mm_I x1], mm_ok 46 lyTX 48 17 v) : f_X2_isDigit [mm_I x1] z (some (mm_I (pX2_isDigit x1 z)), z) := ⟨Nat.le_of_ble_eq_true rfl, 1, (qX2_isDigit_0 0 x1 z).trans (mm_if (fun v => some (some (mm_I v), z)) rfl (mm_if (fun v => some (some (mm_I v), z)) rfl rfl))⟩
noncomputable def clo_X2_isDigit (as : List mm_V) (z : mm_S) (kk : Option mm_V → mm_S → Option mm_R) : Option mm_R := mm_pi as fun a0 as => (match as with | [] => kk (some (mm_I (pX2_isDigit a0 z))) z | _ => none)
theorem cs_X2_isDigit : mm_cs lyTX 46 48 17 f_X2_isDigit clo_X2_isDigit := by
  intro as z K o hk h
  obtain ⟨a0, r0, rfl, g0⟩ := mm_pi_e h
  rcases r0 with _ | ⟨u, w⟩
  rotate_left
  · cases g0
  exact ⟨_, _, sp_X2_isDigit a0 z hk, fun v hv => by cases hv; exact Or.inl ⟨_, rfl⟩, g0⟩
theorem sS_X2_isDigit {own : String} {R : Room} {ar : Nat → Nat} {k : Nat} (hlink : Cond.methodLink own k yX2_isDigit ∈ lw_gd ∨ ∃ host, (own, k, yX2_isDigit, host) ∈ nmA) (har : ar k = 1) (hr : 1 ≤ R.frames ∧ 20 ≤ R.locals) : mm_okS lyTX lyFA lenX snX 46 48 17 roX rsA nfA nmA ssX own R ar k clo_X2_isDigit :=
  Or.inl ⟨yX2_isDigit, cX2_isDigit, 1, some .boolean, rm_X2_isDigit, f_X2_isDigit, M_X2_isDigit, cs_X2_isDigit, hlink, ⟨ws_X2_isDigit, wi_X2_isDigit, wc_X2_isDigit⟩, ⟨by decide +kernel, by decide +kernel, by rw [har]; decide +kernel⟩, ⟨rfl, rfl, hr.1, hr.2⟩⟩
-- X2_endNumber
noncomputable def lV_X2_endNumber : List (Nat × (List mm_V → mm_S → (Option mm_V → mm_S → Option mm_R) → Option mm_R)) := []
noncomputable def mV_X2_endNumber (k : Nat) (as : List mm_V) (z : mm_S) (kk : Option mm_V → mm_S → Option mm_R) : Option mm_R := match mm_at lV_X2_endNumber k with
  | some f => f as z kk
  | none => none
noncomputable def arV_X2_endNumber (k : Nat) : Nat := (mm_at [] k).getD 0
noncomputable def lS_X2_endNumber : List (Nat × (List mm_V → mm_S → (Option mm_V → mm_S → Option mm_R) → Option mm_R)) := [(148, clo_X3_at), (161, clo_X2_isDigit), (167, mm_mn)]
noncomputable def mS_X2_endNumber (k : Nat) (as : List mm_V) (z : mm_S) (kk : Option mm_V → mm_S → Option mm_R) : Option mm_R := match mm_at lS_X2_endNumber k with
  | some f => f as z kk
  | none => none
noncomputable def arS_X2_endNumber (k : Nat) : Nat := (mm_at [(148, 2), (161, 1), (167, 2)] k).getD 0
def ct_X2_endNumber : List (Nat × List Nat) := [(5, [0]), (27, [0]), (67, [0]), (77, [0])]
noncomputable def go_X2_endNumber : Nat → mm_K := mm_go (fun k => mm_at flX2 k) (fun k => mm_at clX2 k) (fun k => mm_at glX2 k) arV_X2_endNumber arS_X2_endNumber mV_X2_endNumber mS_X2_endNumber lenX roX snX 2 3 tbX2_endNumber ct_X2_endNumber
noncomputable def eX2_endNumber_0 (n : Nat)  (z : mm_S) : Option mm_R := go_X2_endNumber n 0 [(0, mm_P 2 37)] [] z
noncomputable def eX2_endNumber_5 (n : Nat)  (z : mm_S) : Option mm_R := go_X2_endNumber n 5 [(0, mm_P 2 37)] [] z
noncomputable def eX2_endNumber_27 (n : Nat)  (w0 : Int32) (z : mm_S) : Option mm_R := go_X2_endNumber n 27 [(0, mm_P 2 37)] [mm_I w0] z
noncomputable def eX2_endNumber_67 (n : Nat)  (z : mm_S) : Option mm_R := go_X2_endNumber n 67 [(0, mm_P 2 37)] [] z
noncomputable def eX2_endNumber_77 (n : Nat)  (z : mm_S) : Option mm_R := go_X2_endNumber n 77 [(0, mm_P 2 37)] [] z
set_option maxRecDepth 100000 in
theorem qX2_endNumber_0 (n : Nat)  (z : mm_S) : eX2_endNumber_0 (n + 1)  z = (eX2_endNumber_5 n  ((mm_ui z.1 37 5 0), z.2)) := rfl
set_option maxRecDepth 100000 in
theorem qX2_endNumber_5 (n : Nat)  (z : mm_S) : eX2_endNumber_5 (n + 1)  z = (if (z.1 37 1) ≤ (z.1 37 4) then some (none, z) else eX2_endNumber_27 n (pX3_at 38 (z.1 37 4) z) z) := rfl
set_option maxRecDepth 100000 in
theorem qX2_endNumber_27 (n : Nat)  (w0 : Int32) (z : mm_S) : eX2_endNumber_27 (n + 1) w0 z = (if (pX2_isDigit w0 z) = 0 then some (none, z) else let u1 : mm_S := ((mm_ui z.1 37 5 (mm_min (((z.1 37 5) * 10) + ((pX3_at 38 (z.1 37 4) z) - 48)) 1000)), z.2); eX2_endNumber_67 n  u1) := rfl
set_option maxRecDepth 100000 in
theorem qX2_endNumber_67 (n : Nat)  (z : mm_S) : eX2_endNumber_67 (n + 1)  z = (eX2_endNumber_77 n  ((mm_ui z.1 37 4 ((z.1 37 4) + 1)), z.2)) := rfl
set_option maxRecDepth 100000 in
theorem qX2_endNumber_77 (n : Nat)  (z : mm_S) : eX2_endNumber_77 (n + 1)  z = (eX2_endNumber_5 n  z) := rfl
def rm_X2_endNumber : Room := { frames := 1, cells := 0, slots := 0, locals := 21 }
noncomputable def f_X2_endNumber (as : List mm_V) (z : mm_S) (o : mm_R) : Prop := (as.map mm_cat).sum ≤ 2 ∧ ∃ n, go_X2_endNumber n 0 (mm_ar 0 as) [] z = some o
theorem M_X2_endNumber : mm_M lyTX lyFA lenX snX 46 48 17 roX rsA nfA nmA ssX yX2_endNumber cX2_endNumber 2 (none) rm_X2_endNumber f_X2_endNumber :=
  mm_met (rt := 3) (by decide +kernel) ⟨fun h => absurd h (by decide), fun h => absurd h (by decide), fun h => absurd h (by decide), fun h => rfl⟩ tbX2_endNumber_ok hsnX okFX2 okLX2 okGX2 (fun _ _ _ _ => rfl) (fun _ _ _ _ => rfl) (fun _ h => absurd h List.not_mem_nil) (List.forall_mem_cons.mpr ⟨sS_X3_at (Or.inr ⟨_, ln_X2_148⟩) rfl ⟨by decide, by decide⟩, List.forall_mem_cons.mpr ⟨sS_X2_isDigit (Or.inl lk_X2_161) rfl ⟨by decide, by decide⟩, List.forall_mem_cons.mpr ⟨Or.inr (Or.inr ⟨Or.inr ⟨rfl, lk_X2_167, ws_min, wc_min⟩, wi_math, by decide, by decide, rfl⟩), fun _ h => absurd h List.not_mem_nil⟩⟩⟩)
noncomputable def sX2_endNumber_77  (z : mm_S) : Option ((mm_S) ⊕ (mm_S)) := some (.inl z)
theorem kX2_endNumber_77  (z : mm_S) (oo : mm_R) : mm_Xs (sX2_endNumber_77  z) (mm_mt (fun x : mm_S => ∃ n, eX2_endNumber_5 n  x = some oo) (fun v => (fun v : mm_S => ((none, v) : mm_R)) v = oo)) (fun n => eX2_endNumber_77 n  z) oo :=
  xs_row (fun n => qX2_endNumber_77 n z) (xs_v fun hc => hc)
noncomputable def sX2_endNumber_67  (z : mm_S) : Option ((mm_S) ⊕ (mm_S)) := (sX2_endNumber_77 ((mm_ui z.1 37 4 ((z.1 37 4) + 1)), z.2))
theorem kX2_endNumber_67  (z : mm_S) (oo : mm_R) : mm_Xs (sX2_endNumber_67  z) (mm_mt (fun x : mm_S => ∃ n, eX2_endNumber_5 n  x = some oo) (fun v => (fun v : mm_S => ((none, v) : mm_R)) v = oo)) (fun n => eX2_endNumber_67 n  z) oo :=
  xs_row (fun n => qX2_endNumber_67 n z) (kX2_endNumber_77 ((mm_ui z.1 37 4 ((z.1 37 4) + 1)), z.2) oo)
noncomputable def sX2_endNumber_27 (w0 : Int32) (z : mm_S) : Option ((mm_S) ⊕ (mm_S)) := if (pX2_isDigit w0 z) = 0 then some (.inr (z)) else let u1 : mm_S := ((mm_ui z.1 37 5 (mm_min (((z.1 37 5) * 10) + ((pX3_at 38 (z.1 37 4) z) - 48)) 1000)), z.2); (sX2_endNumber_67 u1)
theorem kX2_endNumber_27 (w0 : Int32) (z : mm_S) (oo : mm_R) : mm_Xs (sX2_endNumber_27 w0 z) (mm_mt (fun x : mm_S => ∃ n, eX2_endNumber_5 n  x = some oo) (fun v => (fun v : mm_S => ((none, v) : mm_R)) v = oo)) (fun n => eX2_endNumber_27 n w0 z) oo :=
  xs_row (fun n => qX2_endNumber_27 n w0 z) (xs_if (xs_v fun hc => ⟨0, congrArg some hc⟩) (xs_let (((mm_ui z.1 37 5 (mm_min (((z.1 37 5) * 10) + ((pX3_at 38 (z.1 37 4) z) - 48)) 1000)), z.2)) (S := fun (u1 : mm_S) => ((sX2_endNumber_67 u1) : Option ((mm_S) ⊕ (mm_S)))) (T := fun (u1 : mm_S) n => eX2_endNumber_67 n  u1) (fun u1 => (kX2_endNumber_67 u1 oo))))
noncomputable def lX2_endNumber_5 (s : mm_S) : Option ((mm_S) ⊕ (mm_S)) := if (s.1 37 1) ≤ (s.1 37 4) then some (.inr (s)) else (sX2_endNumber_27 (pX3_at 38 (s.1 37 4) s) s)
noncomputable def sX2_endNumber_5  (z : mm_S) : Option (mm_S) := mm_wh (lX2_endNumber_5 ) mm_fu z
theorem kX2_endNumber_5  (z : mm_S) (oo : mm_R) : mm_Xs (sX2_endNumber_5  z) (fun v => (fun v : mm_S => ((none, v) : mm_R)) v = oo) (fun n => eX2_endNumber_5 n  z) oo :=
  xs_wh (stp := lX2_endNumber_5 ) (o := oo) (E := (fun (s : mm_S) n => eX2_endNumber_5 n  s)) (C := (fun v => (fun v : mm_S => ((none, v) : mm_R)) v = oo)) (fun s => xs_row (fun n => qX2_endNumber_5 n s) (xs_if (xs_v fun hc => ⟨0, congrArg some hc⟩) (kX2_endNumber_27 (pX3_at 38 (s.1 37 4) s) s oo))) mm_fu z
noncomputable def sX2_endNumber_0  (z : mm_S) : Option (mm_S) := (sX2_endNumber_5 ((mm_ui z.1 37 5 0), z.2))
theorem kX2_endNumber_0  (z : mm_S) (oo : mm_R) : mm_Xs (sX2_endNumber_0  z) (fun v => (fun v : mm_S => ((none, v) : mm_R)) v = oo) (fun n => eX2_endNumber_0 n  z) oo :=
  xs_row (fun n => qX2_endNumber_0 n z) (kX2_endNumber_5 ((mm_ui z.1 37 5 0), z.2) oo)
noncomputable def sX2_endNumber  (z : mm_S) : Option (mm_S) := sX2_endNumber_0  z
theorem sp_X2_endNumber  (z : mm_S) (hk : ∀ v ∈ [mm_P 2 37], mm_ok 46 lyTX 48 17 v) (q : mm_S) (hq : sX2_endNumber  z = some q) : f_X2_endNumber [mm_P 2 37] z (none, q) := ⟨Nat.le_of_ble_eq_true rfl, kX2_endNumber_0  z _ q hq rfl⟩
noncomputable def clo_X2_endNumber (as : List mm_V) (z : mm_S) (kk : Option mm_V → mm_S → Option mm_R) : Option mm_R := mm_pr as fun t o0 as => bif Nat.beq t 2 then (match as with | [] => (sX2_endNumber z).bind fun q => kk none q | _ => none) else none
theorem cs_X2_endNumber : mm_cs lyTX 46 48 17 f_X2_endNumber clo_X2_endNumber := by
  intro as z K o hk h
  obtain ⟨t0, o0, r0, rfl, g0⟩ := mm_pr_e h
  obtain ⟨b0, k0⟩ := mm_bif_e g0
  obtain rfl := Nat.eq_of_beq_eq_true b0
  rcases r0 with _ | ⟨u, w⟩
  rotate_left
  · cases k0
  obtain rfl : o0 = 37 := ok2 (hk (mm_P 2 o0) (by simp))
  obtain ⟨q, hq, hq2⟩ := Option.bind_eq_some_iff.mp k0
  exact ⟨_, _, sp_X2_endNumber  z hk q hq, (fun v hv => by cases hv), hq2⟩
theorem sV_X2_endNumber {own : String} {R : Room} {ar : Nat → Nat} {k : Nat} (hlink : Cond.methodLink own k yX2_endNumber ∈ lw_gd ∨ ∃ host, (own, k, yX2_endNumber, host) ∈ nmA) (har : ar k = 1) (hr : 2 ≤ R.frames ∧ 42 ≤ R.locals) : mm_okV lyTX lyFA lenX snX 46 48 17 roX rsA nfA nmA ssX own R ar k clo_X2_endNumber := by
  refine ⟨yX2_endNumber, cX2_endNumber, 2, none, rm_X2_endNumber, f_X2_endNumber, 2, 0, (RX2, TX2, 6), M_X2_endNumber, cs_X2_endNumber, hlink, ⟨wv_X2_endNumber, wz_X2_endNumber, wi_X2_endNumber, wc_X2_endNumber⟩, ⟨by decide +kernel, by decide +kernel, by decide +kernel⟩, har, ⟨rfl, rfl, by decide⟩, ?_, ⟨rfl, rfl, hr.1, hr.2⟩⟩
  intro as z K o h
  obtain ⟨t0, o0, r0, rfl, g0⟩ := mm_pr_e h
  obtain ⟨b0, k0⟩ := mm_bif_e g0
  obtain rfl := Nat.eq_of_beq_eq_true b0
  exact ⟨_, _, rfl⟩
-- X2_nextToken
noncomputable def lV_X2_nextToken : List (Nat × (List mm_V → mm_S → (Option mm_V → mm_S → Option mm_R) → Option mm_R)) := [(158, clo_X2_endWord), (164, clo_X2_endNumber)]
noncomputable def mV_X2_nextToken (k : Nat) (as : List mm_V) (z : mm_S) (kk : Option mm_V → mm_S → Option mm_R) : Option mm_R := match mm_at lV_X2_nextToken k with
  | some f => f as z kk
  | none => none
noncomputable def arV_X2_nextToken (k : Nat) : Nat := (mm_at [(158, 1), (164, 1)] k).getD 0
noncomputable def lS_X2_nextToken : List (Nat × (List mm_V → mm_S → (Option mm_V → mm_S → Option mm_R) → Option mm_R)) := [(148, clo_X3_at), (155, clo_X2_isLetter), (161, clo_X2_isDigit)]
noncomputable def mS_X2_nextToken (k : Nat) (as : List mm_V) (z : mm_S) (kk : Option mm_V → mm_S → Option mm_R) : Option mm_R := match mm_at lS_X2_nextToken k with
  | some f => f as z kk
  | none => none
noncomputable def arS_X2_nextToken (k : Nat) : Nat := (mm_at [(148, 2), (155, 1), (161, 1)] k).getD 0
def ct_X2_nextToken : List (Nat × List Nat) := [(8, [0]), (45, [0]), (56, [0]), (68, [0, 1]), (84, []), (99, [0]), (103, []), (118, [0]), (122, []), (140, [0]), (150, [])]
noncomputable def go_X2_nextToken : Nat → mm_K := mm_go (fun k => mm_at flX2 k) (fun k => mm_at clX2 k) (fun k => mm_at glX2 k) arV_X2_nextToken arS_X2_nextToken mV_X2_nextToken mS_X2_nextToken lenX roX snX 2 3 tbX2_nextToken ct_X2_nextToken
noncomputable def eX2_nextToken_0 (n : Nat)  (z : mm_S) : Option mm_R := go_X2_nextToken n 0 [(0, mm_P 2 37)] [] z
noncomputable def eX2_nextToken_8 (n : Nat)  (z : mm_S) : Option mm_R := go_X2_nextToken n 8 [(0, mm_P 2 37)] [] z
noncomputable def eX2_nextToken_56 (n : Nat)  (z : mm_S) : Option mm_R := go_X2_nextToken n 56 [(0, mm_P 2 37)] [] z
noncomputable def eX2_nextToken_45 (n : Nat)  (z : mm_S) : Option mm_R := go_X2_nextToken n 45 [(0, mm_P 2 37)] [] z
noncomputable def eX2_nextToken_68 (n : Nat)  (y1 : Int32) (z : mm_S) : Option mm_R := go_X2_nextToken n 68 [(0, mm_P 2 37), (1, mm_I y1)] [] z
noncomputable def eX2_nextToken_140 (n : Nat)  (z : mm_S) : Option mm_R := go_X2_nextToken n 140 [(0, mm_P 2 37)] [] z
noncomputable def eX2_nextToken_118 (n : Nat)  (z : mm_S) : Option mm_R := go_X2_nextToken n 118 [(0, mm_P 2 37)] [] z
noncomputable def eX2_nextToken_99 (n : Nat)  (z : mm_S) : Option mm_R := go_X2_nextToken n 99 [(0, mm_P 2 37)] [] z
noncomputable def eX2_nextToken_84 (n : Nat)  (z : mm_S) : Option mm_R := go_X2_nextToken n 84 [] [] z
noncomputable def eX2_nextToken_150 (n : Nat)  (z : mm_S) : Option mm_R := go_X2_nextToken n 150 [] [] z
noncomputable def eX2_nextToken_122 (n : Nat)  (z : mm_S) : Option mm_R := go_X2_nextToken n 122 [] [] z
noncomputable def eX2_nextToken_103 (n : Nat)  (z : mm_S) : Option mm_R := go_X2_nextToken n 103 [] [] z
set_option maxRecDepth 100000 in
theorem qX2_nextToken_0 (n : Nat)  (z : mm_S) : eX2_nextToken_0 (n + 1)  z = (eX2_nextToken_8 n  ((mm_ui z.1 37 3 (z.1 37 4)), z.2)) := rfl
set_option maxRecDepth 100000 in
theorem qX2_nextToken_8 (n : Nat)  (z : mm_S) : eX2_nextToken_8 (n + 1)  z = (if (z.1 37 1) ≤ (z.1 37 3) then eX2_nextToken_56 n  ((mm_ui z.1 37 4 (z.1 37 3)), z.2) else if (pX3_at 38 (z.1 37 3) z) = 32 then eX2_nextToken_45 n  ((mm_ui z.1 37 3 ((z.1 37 3) + 1)), z.2) else eX2_nextToken_56 n  ((mm_ui z.1 37 4 (z.1 37 3)), z.2)) := rfl
set_option maxRecDepth 100000 in
theorem qX2_nextToken_56 (n : Nat)  (z : mm_S) : eX2_nextToken_56 (n + 1)  z = (eX2_nextToken_68 n (pX3_at 38 (z.1 37 3) z) z) := rfl
set_option maxRecDepth 100000 in
theorem qX2_nextToken_45 (n : Nat)  (z : mm_S) : eX2_nextToken_45 (n + 1)  z = (eX2_nextToken_8 n  z) := rfl
set_option maxRecDepth 100000 in
theorem qX2_nextToken_68 (n : Nat)  (y1 : Int32) (z : mm_S) : eX2_nextToken_68 (n + 1) y1 z = (if (z.1 37 3) < (z.1 37 1) then if (pX2_isLetter y1 z) = 0 then if (pX2_isDigit y1 z) = 0 then if y1 = 59 then eX2_nextToken_140 n  ((mm_ui z.1 37 2 3), z.2) else eX2_nextToken_140 n  ((mm_ui z.1 37 2 4), z.2) else eX2_nextToken_118 n  ((mm_ui z.1 37 2 2), z.2) else eX2_nextToken_99 n  ((mm_ui z.1 37 2 1), z.2) else eX2_nextToken_84 n  ((mm_ui z.1 37 2 0), z.2)) := rfl
set_option maxRecDepth 100000 in
theorem qX2_nextToken_140 (n : Nat)  (z : mm_S) : eX2_nextToken_140 (n + 1)  z = (eX2_nextToken_150 n  ((mm_ui z.1 37 4 ((z.1 37 3) + 1)), z.2)) := rfl
set_option maxRecDepth 100000 in
theorem qX2_nextToken_118 (n : Nat)  (z : mm_S) : eX2_nextToken_118 (n + 1)  z = ((sX2_endNumber  z).bind fun q1 => eX2_nextToken_122 n  q1) := rfl
set_option maxRecDepth 100000 in
theorem qX2_nextToken_99 (n : Nat)  (z : mm_S) : eX2_nextToken_99 (n + 1)  z = ((sX2_endWord  z).bind fun q2 => eX2_nextToken_103 n  q2) := rfl
set_option maxRecDepth 100000 in
theorem qX2_nextToken_84 (n : Nat)  (z : mm_S) : eX2_nextToken_84 (n + 1)  z = (eX2_nextToken_150 n  z) := rfl
set_option maxRecDepth 100000 in
theorem qX2_nextToken_150 (n : Nat)  (z : mm_S) : eX2_nextToken_150 (n + 1)  z = (some (none, z)) := rfl
set_option maxRecDepth 100000 in
theorem qX2_nextToken_122 (n : Nat)  (z : mm_S) : eX2_nextToken_122 (n + 1)  z = (eX2_nextToken_150 n  z) := rfl
set_option maxRecDepth 100000 in
theorem qX2_nextToken_103 (n : Nat)  (z : mm_S) : eX2_nextToken_103 (n + 1)  z = (eX2_nextToken_150 n  z) := rfl
def rm_X2_nextToken : Room := { frames := 2, cells := 0, slots := 0, locals := 42 }
noncomputable def f_X2_nextToken (as : List mm_V) (z : mm_S) (o : mm_R) : Prop := (as.map mm_cat).sum ≤ 2 ∧ ∃ n, go_X2_nextToken n 0 (mm_ar 0 as) [] z = some o
theorem M_X2_nextToken : mm_M lyTX lyFA lenX snX 46 48 17 roX rsA nfA nmA ssX yX2_nextToken cX2_nextToken 2 (none) rm_X2_nextToken f_X2_nextToken :=
  mm_met (rt := 3) (by decide +kernel) ⟨fun h => absurd h (by decide), fun h => absurd h (by decide), fun h => absurd h (by decide), fun h => rfl⟩ tbX2_nextToken_ok hsnX okFX2 okLX2 okGX2 (fun _ _ _ _ => rfl) (fun _ _ _ _ => rfl) (List.forall_mem_cons.mpr ⟨sV_X2_endWord (Or.inl lk_X2_158) rfl ⟨by decide, by decide⟩, List.forall_mem_cons.mpr ⟨sV_X2_endNumber (Or.inl lk_X2_164) rfl ⟨by decide, by decide⟩, fun _ h => absurd h List.not_mem_nil⟩⟩) (List.forall_mem_cons.mpr ⟨sS_X3_at (Or.inr ⟨_, ln_X2_148⟩) rfl ⟨by decide, by decide⟩, List.forall_mem_cons.mpr ⟨sS_X2_isLetter (Or.inl lk_X2_155) rfl ⟨by decide, by decide⟩, List.forall_mem_cons.mpr ⟨sS_X2_isDigit (Or.inl lk_X2_161) rfl ⟨by decide, by decide⟩, fun _ h => absurd h List.not_mem_nil⟩⟩⟩)
noncomputable def sX2_nextToken_45  (z : mm_S) : Option ((mm_S) ⊕ (mm_S)) := some (.inl z)
theorem kX2_nextToken_45  (z : mm_S) (oo : mm_R) : mm_Xs (sX2_nextToken_45  z) (mm_mt (fun x : mm_S => ∃ n, eX2_nextToken_8 n  x = some oo) (fun v => (fun v : mm_S => ((none, v) : mm_R)) v = oo)) (fun n => eX2_nextToken_45 n  z) oo :=
  xs_row (fun n => qX2_nextToken_45 n z) (xs_v fun hc => hc)
noncomputable def sX2_nextToken_150  (z : mm_S) : Option (mm_S) := some (z)
theorem kX2_nextToken_150  (z : mm_S) (oo : mm_R) : mm_Xs (sX2_nextToken_150  z) (fun v => (fun v : mm_S => ((none, v) : mm_R)) v = oo) (fun n => eX2_nextToken_150 n  z) oo :=
  xs_row (fun n => qX2_nextToken_150 n z) (xs_v fun hc => ⟨0, congrArg some hc⟩)
noncomputable def sX2_nextToken_84  (z : mm_S) : Option (mm_S) := (sX2_nextToken_150 z)
theorem kX2_nextToken_84  (z : mm_S) (oo : mm_R) : mm_Xs (sX2_nextToken_84  z) (fun v => (fun v : mm_S => ((none, v) : mm_R)) v = oo) (fun n => eX2_nextToken_84 n  z) oo :=
  xs_row (fun n => qX2_nextToken_84 n z) (kX2_nextToken_150 z oo)
noncomputable def sX2_nextToken_103  (z : mm_S) : Option (mm_S) := (sX2_nextToken_150 z)
theorem kX2_nextToken_103  (z : mm_S) (oo : mm_R) : mm_Xs (sX2_nextToken_103  z) (fun v => (fun v : mm_S => ((none, v) : mm_R)) v = oo) (fun n => eX2_nextToken_103 n  z) oo :=
  xs_row (fun n => qX2_nextToken_103 n z) (kX2_nextToken_150 z oo)
noncomputable def sX2_nextToken_99  (z : mm_S) : Option (mm_S) := (sX2_endWord  z).bind fun q2 => (sX2_nextToken_103 q2)
theorem kX2_nextToken_99  (z : mm_S) (oo : mm_R) : mm_Xs (sX2_nextToken_99  z) (fun v => (fun v : mm_S => ((none, v) : mm_R)) v = oo) (fun n => eX2_nextToken_99 n  z) oo :=
  xs_row (fun n => qX2_nextToken_99 n z) (xs_bd fun q2 => (kX2_nextToken_103 q2 oo))
noncomputable def sX2_nextToken_122  (z : mm_S) : Option (mm_S) := (sX2_nextToken_150 z)
theorem kX2_nextToken_122  (z : mm_S) (oo : mm_R) : mm_Xs (sX2_nextToken_122  z) (fun v => (fun v : mm_S => ((none, v) : mm_R)) v = oo) (fun n => eX2_nextToken_122 n  z) oo :=
  xs_row (fun n => qX2_nextToken_122 n z) (kX2_nextToken_150 z oo)
noncomputable def sX2_nextToken_118  (z : mm_S) : Option (mm_S) := (sX2_endNumber  z).bind fun q1 => (sX2_nextToken_122 q1)
theorem kX2_nextToken_118  (z : mm_S) (oo : mm_R) : mm_Xs (sX2_nextToken_118  z) (fun v => (fun v : mm_S => ((none, v) : mm_R)) v = oo) (fun n => eX2_nextToken_118 n  z) oo :=
  xs_row (fun n => qX2_nextToken_118 n z) (xs_bd fun q1 => (kX2_nextToken_122 q1 oo))
noncomputable def sX2_nextToken_140  (z : mm_S) : Option (mm_S) := (sX2_nextToken_150 ((mm_ui z.1 37 4 ((z.1 37 3) + 1)), z.2))
theorem kX2_nextToken_140  (z : mm_S) (oo : mm_R) : mm_Xs (sX2_nextToken_140  z) (fun v => (fun v : mm_S => ((none, v) : mm_R)) v = oo) (fun n => eX2_nextToken_140 n  z) oo :=
  xs_row (fun n => qX2_nextToken_140 n z) (kX2_nextToken_150 ((mm_ui z.1 37 4 ((z.1 37 3) + 1)), z.2) oo)
noncomputable def sX2_nextToken_68 (y1 : Int32) (z : mm_S) : Option (mm_S) := if (z.1 37 3) < (z.1 37 1) then if (pX2_isLetter y1 z) = 0 then if (pX2_isDigit y1 z) = 0 then if y1 = 59 then (sX2_nextToken_140 ((mm_ui z.1 37 2 3), z.2)) else (sX2_nextToken_140 ((mm_ui z.1 37 2 4), z.2)) else (sX2_nextToken_118 ((mm_ui z.1 37 2 2), z.2)) else (sX2_nextToken_99 ((mm_ui z.1 37 2 1), z.2)) else (sX2_nextToken_84 ((mm_ui z.1 37 2 0), z.2))
theorem kX2_nextToken_68 (y1 : Int32) (z : mm_S) (oo : mm_R) : mm_Xs (sX2_nextToken_68 y1 z) (fun v => (fun v : mm_S => ((none, v) : mm_R)) v = oo) (fun n => eX2_nextToken_68 n y1 z) oo :=
  xs_row (fun n => qX2_nextToken_68 n y1 z) (xs_if (xs_if (xs_if (xs_if (kX2_nextToken_140 ((mm_ui z.1 37 2 3), z.2) oo) (kX2_nextToken_140 ((mm_ui z.1 37 2 4), z.2) oo)) (kX2_nextToken_118 ((mm_ui z.1 37 2 2), z.2) oo)) (kX2_nextToken_99 ((mm_ui z.1 37 2 1), z.2) oo)) (kX2_nextToken_84 ((mm_ui z.1 37 2 0), z.2) oo))
noncomputable def sX2_nextToken_56  (z : mm_S) : Option (mm_S) := (sX2_nextToken_68 (pX3_at 38 (z.1 37 3) z) z)
theorem kX2_nextToken_56  (z : mm_S) (oo : mm_R) : mm_Xs (sX2_nextToken_56  z) (fun v => (fun v : mm_S => ((none, v) : mm_R)) v = oo) (fun n => eX2_nextToken_56 n  z) oo :=
  xs_row (fun n => qX2_nextToken_56 n z) (kX2_nextToken_68 (pX3_at 38 (z.1 37 3) z) z oo)
noncomputable def lX2_nextToken_8 (s : mm_S) : Option ((mm_S) ⊕ (mm_S)) := if (s.1 37 1) ≤ (s.1 37 3) then ((sX2_nextToken_56 ((mm_ui s.1 37 4 (s.1 37 3)), s.2)).map fun w => (Sum.inr w)) else if (pX3_at 38 (s.1 37 3) s) = 32 then (sX2_nextToken_45 ((mm_ui s.1 37 3 ((s.1 37 3) + 1)), s.2)) else ((sX2_nextToken_56 ((mm_ui s.1 37 4 (s.1 37 3)), s.2)).map fun w => (Sum.inr w))
noncomputable def sX2_nextToken_8  (z : mm_S) : Option (mm_S) := mm_wh (lX2_nextToken_8 ) mm_fu z
theorem kX2_nextToken_8  (z : mm_S) (oo : mm_R) : mm_Xs (sX2_nextToken_8  z) (fun v => (fun v : mm_S => ((none, v) : mm_R)) v = oo) (fun n => eX2_nextToken_8 n  z) oo :=
  xs_wh (stp := lX2_nextToken_8 ) (o := oo) (E := (fun (s : mm_S) n => eX2_nextToken_8 n  s)) (C := (fun v => (fun v : mm_S => ((none, v) : mm_R)) v = oo)) (fun s => xs_row (fun n => qX2_nextToken_8 n s) (xs_if (xs_map (f := fun w => (Sum.inr w)) (kX2_nextToken_56 ((mm_ui s.1 37 4 (s.1 37 3)), s.2) oo) (fun _ h => h)) (xs_if (kX2_nextToken_45 ((mm_ui s.1 37 3 ((s.1 37 3) + 1)), s.2) oo) (xs_map (f := fun w => (Sum.inr w)) (kX2_nextToken_56 ((mm_ui s.1 37 4 (s.1 37 3)), s.2) oo) (fun _ h => h))))) mm_fu z
noncomputable def sX2_nextToken_0  (z : mm_S) : Option (mm_S) := (sX2_nextToken_8 ((mm_ui z.1 37 3 (z.1 37 4)), z.2))
theorem kX2_nextToken_0  (z : mm_S) (oo : mm_R) : mm_Xs (sX2_nextToken_0  z) (fun v => (fun v : mm_S => ((none, v) : mm_R)) v = oo) (fun n => eX2_nextToken_0 n  z) oo :=
  xs_row (fun n => qX2_nextToken_0 n z) (kX2_nextToken_8 ((mm_ui z.1 37 3 (z.1 37 4)), z.2) oo)
noncomputable def sX2_nextToken  (z : mm_S) : Option (mm_S) := sX2_nextToken_0  z
theorem sp_X2_nextToken  (z : mm_S) (hk : ∀ v ∈ [mm_P 2 37], mm_ok 46 lyTX 48 17 v) (q : mm_S) (hq : sX2_nextToken  z = some q) : f_X2_nextToken [mm_P 2 37] z (none, q) := ⟨Nat.le_of_ble_eq_true rfl, kX2_nextToken_0  z _ q hq rfl⟩
noncomputable def clo_X2_nextToken (as : List mm_V) (z : mm_S) (kk : Option mm_V → mm_S → Option mm_R) : Option mm_R := mm_pr as fun t o0 as => bif Nat.beq t 2 then (match as with | [] => (sX2_nextToken z).bind fun q => kk none q | _ => none) else none
theorem cs_X2_nextToken : mm_cs lyTX 46 48 17 f_X2_nextToken clo_X2_nextToken := by
  intro as z K o hk h
  obtain ⟨t0, o0, r0, rfl, g0⟩ := mm_pr_e h
  obtain ⟨b0, k0⟩ := mm_bif_e g0
  obtain rfl := Nat.eq_of_beq_eq_true b0
  rcases r0 with _ | ⟨u, w⟩
  rotate_left
  · cases k0
  obtain rfl : o0 = 37 := ok2 (hk (mm_P 2 o0) (by simp))
  obtain ⟨q, hq, hq2⟩ := Option.bind_eq_some_iff.mp k0
  exact ⟨_, _, sp_X2_nextToken  z hk q hq, (fun v hv => by cases hv), hq2⟩
theorem sV_X2_nextToken {own : String} {R : Room} {ar : Nat → Nat} {k : Nat} (hlink : Cond.methodLink own k yX2_nextToken ∈ lw_gd ∨ ∃ host, (own, k, yX2_nextToken, host) ∈ nmA) (har : ar k = 1) (hr : 3 ≤ R.frames ∧ 63 ≤ R.locals) : mm_okV lyTX lyFA lenX snX 46 48 17 roX rsA nfA nmA ssX own R ar k clo_X2_nextToken := by
  refine ⟨yX2_nextToken, cX2_nextToken, 2, none, rm_X2_nextToken, f_X2_nextToken, 2, 0, (RX2, TX2, 6), M_X2_nextToken, cs_X2_nextToken, hlink, ⟨wv_X2_nextToken, wz_X2_nextToken, wi_X2_nextToken, wc_X2_nextToken⟩, ⟨by decide +kernel, by decide +kernel, by decide +kernel⟩, har, ⟨rfl, rfl, by decide⟩, ?_, ⟨rfl, rfl, hr.1, hr.2⟩⟩
  intro as z K o h
  obtain ⟨t0, o0, r0, rfl, g0⟩ := mm_pr_e h
  obtain ⟨b0, k0⟩ := mm_bif_e g0
  obtain rfl := Nat.eq_of_beq_eq_true b0
  exact ⟨_, _, rfl⟩
-- X2_isNumber
noncomputable def lV_X2_isNumber : List (Nat × (List mm_V → mm_S → (Option mm_V → mm_S → Option mm_R) → Option mm_R)) := []
noncomputable def mV_X2_isNumber (k : Nat) (as : List mm_V) (z : mm_S) (kk : Option mm_V → mm_S → Option mm_R) : Option mm_R := match mm_at lV_X2_isNumber k with
  | some f => f as z kk
  | none => none
noncomputable def arV_X2_isNumber (k : Nat) : Nat := (mm_at [] k).getD 0
noncomputable def lS_X2_isNumber : List (Nat × (List mm_V → mm_S → (Option mm_V → mm_S → Option mm_R) → Option mm_R)) := [(139, clo_X3_lies)]
noncomputable def mS_X2_isNumber (k : Nat) (as : List mm_V) (z : mm_S) (kk : Option mm_V → mm_S → Option mm_R) : Option mm_R := match mm_at lS_X2_isNumber k with
  | some f => f as z kk
  | none => none
noncomputable def arS_X2_isNumber (k : Nat) : Nat := (mm_at [(139, 3)] k).getD 0
def ct_X2_isNumber : List (Nat × List Nat) := []
noncomputable def go_X2_isNumber : Nat → mm_K := mm_go (fun k => mm_at flX2 k) (fun k => mm_at clX2 k) (fun k => mm_at glX2 k) arV_X2_isNumber arS_X2_isNumber mV_X2_isNumber mS_X2_isNumber lenX roX snX 3 1 tbX2_isNumber ct_X2_isNumber
noncomputable def eX2_isNumber_0 (n : Nat)  (x1 : Int32) (x2 : Int32) (z : mm_S) : Option mm_R := go_X2_isNumber n 0 [(0, mm_P 2 37), (1, mm_I x1), (2, mm_I x2)] [] z
set_option maxRecDepth 100000 in
theorem qX2_isNumber_0 (n : Nat)  (x1 : Int32) (x2 : Int32) (z : mm_S) : eX2_isNumber_0 (n + 1) x1 x2 z = (if (z.1 37 2) = 2 then if (pX3_lies (z.1 37 5) x1 x2) = 0 then some (some (mm_I 0), z) else some (some (mm_I 1), z) else some (some (mm_I 0), z)) := rfl
def rm_X2_isNumber : Room := { frames := 1, cells := 0, slots := 0, locals := 22 }
noncomputable def f_X2_isNumber (as : List mm_V) (z : mm_S) (o : mm_R) : Prop := (as.map mm_cat).sum ≤ 3 ∧ ∃ n, go_X2_isNumber n 0 (mm_ar 0 as) [] z = some o
theorem M_X2_isNumber : mm_M lyTX lyFA lenX snX 46 48 17 roX rsA nfA nmA ssX yX2_isNumber cX2_isNumber 3 (some .boolean) rm_X2_isNumber f_X2_isNumber :=
  mm_met (rt := 1) (by decide +kernel) ⟨fun h => absurd h (by decide), fun h => rfl, fun h => absurd h (by decide), fun h => absurd h (by decide)⟩ tbX2_isNumber_ok hsnX okFX2 okLX2 okGX2 (fun _ _ _ _ => rfl) (fun _ _ _ _ => rfl) (fun _ h => absurd h List.not_mem_nil) (List.forall_mem_cons.mpr ⟨sS_X3_lies (Or.inr ⟨_, ln_X2_139⟩) rfl ⟨by decide, by decide⟩, fun _ h => absurd h List.not_mem_nil⟩)
noncomputable def pX2_isNumber (x1 : Int32) (x2 : Int32) (z : mm_S) : Int32 := if (z.1 37 2) = 2 then if (pX3_lies (z.1 37 5) x1 x2) = 0 then 0 else 1 else 0
theorem z1_X2_isNumber (x1 : Int32) (x2 : Int32) (z : mm_S) : pX2_isNumber x1 x2 z = 0 ∨ pX2_isNumber x1 x2 z = 1 := (mm_i01 (mm_i01 (Or.inl rfl) (Or.inr rfl)) (Or.inl rfl))
theorem sp_X2_isNumber (x1 : Int32) (x2 : Int32) (z : mm_S) (_ : ∀ v ∈ [mm_P 2 37, mm_I x1, mm_I x2], mm_ok 46 lyTX 48 17 v) : f_X2_isNumber [mm_P 2 37, mm_I x1, mm_I x2] z (some (mm_I (pX2_isNumber x1 x2 z)), z) := ⟨Nat.le_of_ble_eq_true rfl, 1, (qX2_isNumber_0 0 x1 x2 z).trans (mm_if (fun v => some (some (mm_I v), z)) (mm_if (fun v => some (some (mm_I v), z)) rfl rfl) rfl)⟩
noncomputable def clo_X2_isNumber (as : List mm_V) (z : mm_S) (kk : Option mm_V → mm_S → Option mm_R) : Option mm_R := mm_pr as fun t o0 as => bif Nat.beq t 2 then mm_pi as fun a1 as => mm_pi as fun a2 as => (match as with | [] => kk (some (mm_I (pX2_isNumber a1 a2 z))) z | _ => none) else none
theorem cs_X2_isNumber : mm_cs lyTX 46 48 17 f_X2_isNumber clo_X2_isNumber := by
  intro as z K o hk h
  obtain ⟨t0, o0, r0, rfl, g0⟩ := mm_pr_e h
  obtain ⟨b0, k0⟩ := mm_bif_e g0
  obtain rfl := Nat.eq_of_beq_eq_true b0
  obtain ⟨a1, r1, rfl, g1⟩ := mm_pi_e k0
  obtain ⟨a2, r2, rfl, g2⟩ := mm_pi_e g1
  rcases r2 with _ | ⟨u, w⟩
  rotate_left
  · cases g2
  obtain rfl : o0 = 37 := ok2 (hk (mm_P 2 o0) (by simp))
  exact ⟨_, _, sp_X2_isNumber a1 a2 z hk, fun v hv => by cases hv; exact Or.inl ⟨_, rfl⟩, g2⟩
theorem sV_X2_isNumber {own : String} {R : Room} {ar : Nat → Nat} {k : Nat} (hlink : Cond.methodLink own k yX2_isNumber ∈ lw_gd ∨ ∃ host, (own, k, yX2_isNumber, host) ∈ nmA) (har : ar k = 3) (hr : 2 ≤ R.frames ∧ 44 ≤ R.locals) : mm_okV lyTX lyFA lenX snX 46 48 17 roX rsA nfA nmA ssX own R ar k clo_X2_isNumber := by
  refine ⟨yX2_isNumber, cX2_isNumber, 3, some .boolean, rm_X2_isNumber, f_X2_isNumber, 2, 2, (RX2, TX2, 6), M_X2_isNumber, cs_X2_isNumber, hlink, ⟨wv_X2_isNumber, wz_X2_isNumber, wi_X2_isNumber, wc_X2_isNumber⟩, ⟨by decide +kernel, by decide +kernel, by decide +kernel⟩, har, ⟨rfl, rfl, by decide⟩, ?_, ⟨rfl, rfl, hr.1, hr.2⟩⟩
  intro as z K o h
  obtain ⟨t0, o0, r0, rfl, g0⟩ := mm_pr_e h
  obtain ⟨b0, k0⟩ := mm_bif_e g0
  obtain rfl := Nat.eq_of_beq_eq_true b0
  exact ⟨_, _, rfl⟩
-- X2_readHeard
noncomputable def lV_X2_readHeard : List (Nat × (List mm_V → mm_S → (Option mm_V → mm_S → Option mm_R) → Option mm_R)) := [(26, clo_X2_nextToken), (74, clo_X2_isNumber), (102, clo_X0_addBook)]
noncomputable def mV_X2_readHeard (k : Nat) (as : List mm_V) (z : mm_S) (kk : Option mm_V → mm_S → Option mm_R) : Option mm_R := match mm_at lV_X2_readHeard k with
  | some f => f as z kk
  | none => none
noncomputable def arV_X2_readHeard (k : Nat) : Nat := (mm_at [(26, 1), (74, 3), (102, 4)] k).getD 0
noncomputable def lS_X2_readHeard : List (Nat × (List mm_V → mm_S → (Option mm_V → mm_S → Option mm_R) → Option mm_R)) := []
noncomputable def mS_X2_readHeard (k : Nat) (as : List mm_V) (z : mm_S) (kk : Option mm_V → mm_S → Option mm_R) : Option mm_R := match mm_at lS_X2_readHeard k with
  | some f => f as z kk
  | none => none
noncomputable def arS_X2_readHeard (k : Nat) : Nat := (mm_at [] k).getD 0
def ct_X2_readHeard : List (Nat × List Nat) := [(15, [0, 1]), (36, [0, 1, 2]), (57, [0, 1, 2, 3]), (79, [0]), (83, [])]
noncomputable def go_X2_readHeard : Nat → mm_K := mm_go (fun k => mm_at flX2 k) (fun k => mm_at clX2 k) (fun k => mm_at glX2 k) arV_X2_readHeard arS_X2_readHeard mV_X2_readHeard mS_X2_readHeard lenX roX snX 4 1 tbX2_readHeard ct_X2_readHeard
noncomputable def eX2_readHeard_0 (n : Nat)  (x1 : Nat) (z : mm_S) : Option mm_R := go_X2_readHeard n 0 [(0, mm_P 2 37), (1, mm_P 0 x1)] [] z
noncomputable def eX2_readHeard_15 (n : Nat)  (y1 : Nat) (z : mm_S) : Option mm_R := go_X2_readHeard n 15 [(0, mm_P 2 37), (1, mm_P 0 y1)] [] z
noncomputable def eX2_readHeard_36 (n : Nat)  (y1 : Nat) (y2 : Int32) (z : mm_S) : Option mm_R := go_X2_readHeard n 36 [(0, mm_P 2 37), (1, mm_P 0 y1), (2, mm_I y2)] [] z
noncomputable def eX2_readHeard_57 (n : Nat)  (y1 : Nat) (y2 : Int32) (y3 : Int32) (z : mm_S) : Option mm_R := go_X2_readHeard n 57 [(0, mm_P 2 37), (1, mm_P 0 y1), (2, mm_I y2), (3, mm_I y3)] [] z
noncomputable def eX2_readHeard_79 (n : Nat)  (z : mm_S) : Option mm_R := go_X2_readHeard n 79 [(0, mm_P 2 37)] [] z
noncomputable def eX2_readHeard_83 (n : Nat)  (z : mm_S) : Option mm_R := go_X2_readHeard n 83 [] [] z
set_option maxRecDepth 100000 in
theorem qX2_readHeard_0 (n : Nat)  (x1 : Nat) (z : mm_S) : eX2_readHeard_0 (n + 1) x1 z = (if (z.1 x1 10) < 8 then (sX2_nextToken  z).bind fun q1 => eX2_readHeard_15 n x1 q1 else some (some (mm_I 0), z)) := rfl
set_option maxRecDepth 100000 in
theorem qX2_readHeard_15 (n : Nat)  (y1 : Nat) (z : mm_S) : eX2_readHeard_15 (n + 1) y1 z = (if (pX2_isNumber 0 35 z) = 0 then some (some (mm_I 0), z) else (sX2_nextToken  z).bind fun q2 => eX2_readHeard_36 n y1 (z.1 37 5) q2) := rfl
set_option maxRecDepth 100000 in
theorem qX2_readHeard_36 (n : Nat)  (y1 : Nat) (y2 : Int32) (z : mm_S) : eX2_readHeard_36 (n + 1) y1 y2 z = (if (pX2_isNumber 0 35 z) = 0 then some (some (mm_I 0), z) else (sX2_nextToken  z).bind fun q3 => eX2_readHeard_57 n y1 y2 (z.1 37 5) q3) := rfl
set_option maxRecDepth 100000 in
theorem qX2_readHeard_57 (n : Nat)  (y1 : Nat) (y2 : Int32) (y3 : Int32) (z : mm_S) : eX2_readHeard_57 (n + 1) y1 y2 y3 z = (if (pX2_isNumber 0 99 z) = 0 then some (some (mm_I 0), z) else let u4 := (tX0_addBook y1 y2 y3 (z.1 37 5) z); eX2_readHeard_79 n  u4) := rfl
set_option maxRecDepth 100000 in
theorem qX2_readHeard_79 (n : Nat)  (z : mm_S) : eX2_readHeard_79 (n + 1)  z = ((sX2_nextToken  z).bind fun q5 => eX2_readHeard_83 n  q5) := rfl
set_option maxRecDepth 100000 in
theorem qX2_readHeard_83 (n : Nat)  (z : mm_S) : eX2_readHeard_83 (n + 1)  z = (some (some (mm_I 1), z)) := rfl
def rm_X2_readHeard : Room := { frames := 3, cells := 0, slots := 0, locals := 63 }
noncomputable def f_X2_readHeard (as : List mm_V) (z : mm_S) (o : mm_R) : Prop := (as.map mm_cat).sum ≤ 4 ∧ ∃ n, go_X2_readHeard n 0 (mm_ar 0 as) [] z = some o
theorem M_X2_readHeard : mm_M lyTX lyFA lenX snX 46 48 17 roX rsA nfA nmA ssX yX2_readHeard cX2_readHeard 4 (some .boolean) rm_X2_readHeard f_X2_readHeard :=
  mm_met (rt := 1) (by decide +kernel) ⟨fun h => absurd h (by decide), fun h => rfl, fun h => absurd h (by decide), fun h => absurd h (by decide)⟩ tbX2_readHeard_ok hsnX okFX2 okLX2 okGX2 (fun _ _ _ _ => rfl) (fun _ _ _ _ => rfl) (List.forall_mem_cons.mpr ⟨sV_X2_nextToken (Or.inl lk_X2_26) rfl ⟨by decide, by decide⟩, List.forall_mem_cons.mpr ⟨sV_X2_isNumber (Or.inl lk_X2_74) rfl ⟨by decide, by decide⟩, List.forall_mem_cons.mpr ⟨sV_X0_addBook (Or.inl lk_X2_102) rfl ⟨by decide, by decide⟩, fun _ h => absurd h List.not_mem_nil⟩⟩⟩) (fun _ h => absurd h List.not_mem_nil)
noncomputable def sX2_readHeard_83  (z : mm_S) : Option (Int32 × mm_S) := some (1, z)
theorem kX2_readHeard_83  (z : mm_S) (oo : mm_R) : mm_Xs (sX2_readHeard_83  z) (fun v => (fun v : Int32 × mm_S => ((some (mm_I v.1), v.2) : mm_R)) v = oo) (fun n => eX2_readHeard_83 n  z) oo :=
  xs_row (fun n => qX2_readHeard_83 n z) (xs_v fun hc => ⟨0, congrArg some hc⟩)
noncomputable def sX2_readHeard_79  (z : mm_S) : Option (Int32 × mm_S) := (sX2_nextToken  z).bind fun q5 => (sX2_readHeard_83 q5)
theorem kX2_readHeard_79  (z : mm_S) (oo : mm_R) : mm_Xs (sX2_readHeard_79  z) (fun v => (fun v : Int32 × mm_S => ((some (mm_I v.1), v.2) : mm_R)) v = oo) (fun n => eX2_readHeard_79 n  z) oo :=
  xs_row (fun n => qX2_readHeard_79 n z) (xs_bd fun q5 => (kX2_readHeard_83 q5 oo))
noncomputable def sX2_readHeard_57 (y1 : Nat) (y2 : Int32) (y3 : Int32) (z : mm_S) : Option (Int32 × mm_S) := if (pX2_isNumber 0 99 z) = 0 then some (0, z) else let u4 := (tX0_addBook y1 y2 y3 (z.1 37 5) z); (sX2_readHeard_79 u4)
theorem kX2_readHeard_57 (y1 : Nat) (y2 : Int32) (y3 : Int32) (z : mm_S) (oo : mm_R) : mm_Xs (sX2_readHeard_57 y1 y2 y3 z) (fun v => (fun v : Int32 × mm_S => ((some (mm_I v.1), v.2) : mm_R)) v = oo) (fun n => eX2_readHeard_57 n y1 y2 y3 z) oo :=
  xs_row (fun n => qX2_readHeard_57 n y1 y2 y3 z) (xs_if (xs_v fun hc => ⟨0, congrArg some hc⟩) (xs_let ((tX0_addBook y1 y2 y3 (z.1 37 5) z)) (S := fun (u4 : _) => ((sX2_readHeard_79 u4) : Option (Int32 × mm_S))) (T := fun (u4 : _) n => eX2_readHeard_79 n  u4) (fun u4 => (kX2_readHeard_79 u4 oo))))
noncomputable def sX2_readHeard_36 (y1 : Nat) (y2 : Int32) (z : mm_S) : Option (Int32 × mm_S) := if (pX2_isNumber 0 35 z) = 0 then some (0, z) else (sX2_nextToken  z).bind fun q3 => (sX2_readHeard_57 y1 y2 (z.1 37 5) q3)
theorem kX2_readHeard_36 (y1 : Nat) (y2 : Int32) (z : mm_S) (oo : mm_R) : mm_Xs (sX2_readHeard_36 y1 y2 z) (fun v => (fun v : Int32 × mm_S => ((some (mm_I v.1), v.2) : mm_R)) v = oo) (fun n => eX2_readHeard_36 n y1 y2 z) oo :=
  xs_row (fun n => qX2_readHeard_36 n y1 y2 z) (xs_if (xs_v fun hc => ⟨0, congrArg some hc⟩) (xs_bd fun q3 => (kX2_readHeard_57 y1 y2 (z.1 37 5) q3 oo)))
noncomputable def sX2_readHeard_15 (y1 : Nat) (z : mm_S) : Option (Int32 × mm_S) := if (pX2_isNumber 0 35 z) = 0 then some (0, z) else (sX2_nextToken  z).bind fun q2 => (sX2_readHeard_36 y1 (z.1 37 5) q2)
theorem kX2_readHeard_15 (y1 : Nat) (z : mm_S) (oo : mm_R) : mm_Xs (sX2_readHeard_15 y1 z) (fun v => (fun v : Int32 × mm_S => ((some (mm_I v.1), v.2) : mm_R)) v = oo) (fun n => eX2_readHeard_15 n y1 z) oo :=
  xs_row (fun n => qX2_readHeard_15 n y1 z) (xs_if (xs_v fun hc => ⟨0, congrArg some hc⟩) (xs_bd fun q2 => (kX2_readHeard_36 y1 (z.1 37 5) q2 oo)))
noncomputable def sX2_readHeard_0 (x1 : Nat) (z : mm_S) : Option (Int32 × mm_S) := if (z.1 x1 10) < 8 then (sX2_nextToken  z).bind fun q1 => (sX2_readHeard_15 x1 q1) else some (0, z)
theorem kX2_readHeard_0 (x1 : Nat) (z : mm_S) (oo : mm_R) : mm_Xs (sX2_readHeard_0 x1 z) (fun v => (fun v : Int32 × mm_S => ((some (mm_I v.1), v.2) : mm_R)) v = oo) (fun n => eX2_readHeard_0 n x1 z) oo :=
  xs_row (fun n => qX2_readHeard_0 n x1 z) (xs_if (xs_bd fun q1 => (kX2_readHeard_15 x1 q1 oo)) (xs_v fun hc => ⟨0, congrArg some hc⟩))
noncomputable def sX2_readHeard (x1 : Nat) (z : mm_S) : Option (Int32 × mm_S) := sX2_readHeard_0 x1 z
theorem sp_X2_readHeard (x1 : Nat) (z : mm_S) (hk : ∀ v ∈ [mm_P 2 37, mm_P 0 x1], mm_ok 46 lyTX 48 17 v) (q : Int32 × mm_S) (hq : sX2_readHeard x1 z = some q) : f_X2_readHeard [mm_P 2 37, mm_P 0 x1] z (some (mm_I q.1), q.2) := ⟨Nat.le_of_ble_eq_true rfl, kX2_readHeard_0 x1 z _ q hq rfl⟩
noncomputable def clo_X2_readHeard (as : List mm_V) (z : mm_S) (kk : Option mm_V → mm_S → Option mm_R) : Option mm_R := mm_pr as fun t o0 as => bif Nat.beq t 2 then mm_pr as fun t o1 as => bif Nat.beq t 0 then (match as with | [] => (sX2_readHeard o1 z).bind fun q => kk (some (mm_I q.1)) q.2 | _ => none) else none else none
theorem cs_X2_readHeard : mm_cs lyTX 46 48 17 f_X2_readHeard clo_X2_readHeard := by
  intro as z K o hk h
  obtain ⟨t0, o0, r0, rfl, g0⟩ := mm_pr_e h
  obtain ⟨b0, k0⟩ := mm_bif_e g0
  obtain rfl := Nat.eq_of_beq_eq_true b0
  obtain ⟨t1, o1, r1, rfl, g1⟩ := mm_pr_e k0
  obtain ⟨b1, k1⟩ := mm_bif_e g1
  obtain rfl := Nat.eq_of_beq_eq_true b1
  rcases r1 with _ | ⟨u, w⟩
  rotate_left
  · cases k1
  obtain rfl : o0 = 37 := ok2 (hk (mm_P 2 o0) (by simp))
  obtain ⟨q, hq, hq2⟩ := Option.bind_eq_some_iff.mp k1
  exact ⟨_, _, sp_X2_readHeard o1 z hk q hq, fun v hv => by cases hv; exact Or.inl ⟨_, rfl⟩, hq2⟩
theorem sV_X2_readHeard {own : String} {R : Room} {ar : Nat → Nat} {k : Nat} (hlink : Cond.methodLink own k yX2_readHeard ∈ lw_gd ∨ ∃ host, (own, k, yX2_readHeard, host) ∈ nmA) (har : ar k = 2) (hr : 4 ≤ R.frames ∧ 86 ≤ R.locals) : mm_okV lyTX lyFA lenX snX 46 48 17 roX rsA nfA nmA ssX own R ar k clo_X2_readHeard := by
  refine ⟨yX2_readHeard, cX2_readHeard, 4, some .boolean, rm_X2_readHeard, f_X2_readHeard, 2, 1, (RX2, TX2, 6), M_X2_readHeard, cs_X2_readHeard, hlink, ⟨wv_X2_readHeard, wz_X2_readHeard, wi_X2_readHeard, wc_X2_readHeard⟩, ⟨by decide +kernel, by decide +kernel, by decide +kernel⟩, har, ⟨rfl, rfl, by decide⟩, ?_, ⟨rfl, rfl, hr.1, hr.2⟩⟩
  intro as z K o h
  obtain ⟨t0, o0, r0, rfl, g0⟩ := mm_pr_e h
  obtain ⟨b0, k0⟩ := mm_bif_e g0
  obtain rfl := Nat.eq_of_beq_eq_true b0
  exact ⟨_, _, rfl⟩
-- X2_readUnsure
noncomputable def lV_X2_readUnsure : List (Nat × (List mm_V → mm_S → (Option mm_V → mm_S → Option mm_R) → Option mm_R)) := [(26, clo_X2_nextToken), (74, clo_X2_isNumber), (108, clo_X0_isUnsure), (112, clo_X0_addUnsure)]
noncomputable def mV_X2_readUnsure (k : Nat) (as : List mm_V) (z : mm_S) (kk : Option mm_V → mm_S → Option mm_R) : Option mm_R := match mm_at lV_X2_readUnsure k with
  | some f => f as z kk
  | none => none
noncomputable def arV_X2_readUnsure (k : Nat) : Nat := (mm_at [(26, 1), (74, 3), (108, 2), (112, 2)] k).getD 0
noncomputable def lS_X2_readUnsure : List (Nat × (List mm_V → mm_S → (Option mm_V → mm_S → Option mm_R) → Option mm_R)) := []
noncomputable def mS_X2_readUnsure (k : Nat) (as : List mm_V) (z : mm_S) (kk : Option mm_V → mm_S → Option mm_R) : Option mm_R := match mm_at lS_X2_readUnsure k with
  | some f => f as z kk
  | none => none
noncomputable def arS_X2_readUnsure (k : Nat) : Nat := (mm_at [] k).getD 0
def ct_X2_readUnsure : List (Nat × List Nat) := [(14, [0, 1]), (45, [0]), (49, [])]
noncomputable def go_X2_readUnsure : Nat → mm_K := mm_go (fun k => mm_at flX2 k) (fun k => mm_at clX2 k) (fun k => mm_at glX2 k) arV_X2_readUnsure arS_X2_readUnsure mV_X2_readUnsure mS_X2_readUnsure lenX roX snX 2 1 tbX2_readUnsure ct_X2_readUnsure
noncomputable def eX2_readUnsure_0 (n : Nat)  (x1 : Nat) (z : mm_S) : Option mm_R := go_X2_readUnsure n 0 [(0, mm_P 2 37), (1, mm_P 0 x1)] [] z
noncomputable def eX2_readUnsure_14 (n : Nat)  (y1 : Nat) (z : mm_S) : Option mm_R := go_X2_readUnsure n 14 [(0, mm_P 2 37), (1, mm_P 0 y1)] [] z
noncomputable def eX2_readUnsure_45 (n : Nat)  (z : mm_S) : Option mm_R := go_X2_readUnsure n 45 [(0, mm_P 2 37)] [] z
noncomputable def eX2_readUnsure_49 (n : Nat)  (z : mm_S) : Option mm_R := go_X2_readUnsure n 49 [] [] z
set_option maxRecDepth 100000 in
theorem qX2_readUnsure_0 (n : Nat)  (x1 : Nat) (z : mm_S) : eX2_readUnsure_0 (n + 1) x1 z = (if (z.1 x1 6) < 4 then (sX2_nextToken  z).bind fun q1 => eX2_readUnsure_14 n x1 q1 else some (some (mm_I 0), z)) := rfl
set_option maxRecDepth 100000 in
theorem qX2_readUnsure_14 (n : Nat)  (y1 : Nat) (z : mm_S) : eX2_readUnsure_14 (n + 1) y1 z = (if (pX2_isNumber 0 35 z) = 0 then some (some (mm_I 0), z) else if (pX0_isUnsure y1 (z.1 37 5) z) = 0 then let u2 := (tX0_addUnsure y1 (z.1 37 5) z); eX2_readUnsure_45 n  u2 else some (some (mm_I 0), z)) := rfl
set_option maxRecDepth 100000 in
theorem qX2_readUnsure_45 (n : Nat)  (z : mm_S) : eX2_readUnsure_45 (n + 1)  z = ((sX2_nextToken  z).bind fun q3 => eX2_readUnsure_49 n  q3) := rfl
set_option maxRecDepth 100000 in
theorem qX2_readUnsure_49 (n : Nat)  (z : mm_S) : eX2_readUnsure_49 (n + 1)  z = (some (some (mm_I 1), z)) := rfl
def rm_X2_readUnsure : Room := { frames := 3, cells := 0, slots := 0, locals := 63 }
noncomputable def f_X2_readUnsure (as : List mm_V) (z : mm_S) (o : mm_R) : Prop := (as.map mm_cat).sum ≤ 2 ∧ ∃ n, go_X2_readUnsure n 0 (mm_ar 0 as) [] z = some o
theorem M_X2_readUnsure : mm_M lyTX lyFA lenX snX 46 48 17 roX rsA nfA nmA ssX yX2_readUnsure cX2_readUnsure 2 (some .boolean) rm_X2_readUnsure f_X2_readUnsure :=
  mm_met (rt := 1) (by decide +kernel) ⟨fun h => absurd h (by decide), fun h => rfl, fun h => absurd h (by decide), fun h => absurd h (by decide)⟩ tbX2_readUnsure_ok hsnX okFX2 okLX2 okGX2 (fun _ _ _ _ => rfl) (fun _ _ _ _ => rfl) (List.forall_mem_cons.mpr ⟨sV_X2_nextToken (Or.inl lk_X2_26) rfl ⟨by decide, by decide⟩, List.forall_mem_cons.mpr ⟨sV_X2_isNumber (Or.inl lk_X2_74) rfl ⟨by decide, by decide⟩, List.forall_mem_cons.mpr ⟨sV_X0_isUnsure (Or.inl lk_X2_108) rfl ⟨by decide, by decide⟩, List.forall_mem_cons.mpr ⟨sV_X0_addUnsure (Or.inl lk_X2_112) rfl ⟨by decide, by decide⟩, fun _ h => absurd h List.not_mem_nil⟩⟩⟩⟩) (fun _ h => absurd h List.not_mem_nil)
noncomputable def sX2_readUnsure_49  (z : mm_S) : Option (Int32 × mm_S) := some (1, z)
theorem kX2_readUnsure_49  (z : mm_S) (oo : mm_R) : mm_Xs (sX2_readUnsure_49  z) (fun v => (fun v : Int32 × mm_S => ((some (mm_I v.1), v.2) : mm_R)) v = oo) (fun n => eX2_readUnsure_49 n  z) oo :=
  xs_row (fun n => qX2_readUnsure_49 n z) (xs_v fun hc => ⟨0, congrArg some hc⟩)
noncomputable def sX2_readUnsure_45  (z : mm_S) : Option (Int32 × mm_S) := (sX2_nextToken  z).bind fun q3 => (sX2_readUnsure_49 q3)
theorem kX2_readUnsure_45  (z : mm_S) (oo : mm_R) : mm_Xs (sX2_readUnsure_45  z) (fun v => (fun v : Int32 × mm_S => ((some (mm_I v.1), v.2) : mm_R)) v = oo) (fun n => eX2_readUnsure_45 n  z) oo :=
  xs_row (fun n => qX2_readUnsure_45 n z) (xs_bd fun q3 => (kX2_readUnsure_49 q3 oo))
noncomputable def sX2_readUnsure_14 (y1 : Nat) (z : mm_S) : Option (Int32 × mm_S) := if (pX2_isNumber 0 35 z) = 0 then some (0, z) else if (pX0_isUnsure y1 (z.1 37 5) z) = 0 then let u2 := (tX0_addUnsure y1 (z.1 37 5) z); (sX2_readUnsure_45 u2) else some (0, z)
theorem kX2_readUnsure_14 (y1 : Nat) (z : mm_S) (oo : mm_R) : mm_Xs (sX2_readUnsure_14 y1 z) (fun v => (fun v : Int32 × mm_S => ((some (mm_I v.1), v.2) : mm_R)) v = oo) (fun n => eX2_readUnsure_14 n y1 z) oo :=
  xs_row (fun n => qX2_readUnsure_14 n y1 z) (xs_if (xs_v fun hc => ⟨0, congrArg some hc⟩) (xs_if (xs_let ((tX0_addUnsure y1 (z.1 37 5) z)) (S := fun (u2 : _) => ((sX2_readUnsure_45 u2) : Option (Int32 × mm_S))) (T := fun (u2 : _) n => eX2_readUnsure_45 n  u2) (fun u2 => (kX2_readUnsure_45 u2 oo))) (xs_v fun hc => ⟨0, congrArg some hc⟩)))
noncomputable def sX2_readUnsure_0 (x1 : Nat) (z : mm_S) : Option (Int32 × mm_S) := if (z.1 x1 6) < 4 then (sX2_nextToken  z).bind fun q1 => (sX2_readUnsure_14 x1 q1) else some (0, z)
theorem kX2_readUnsure_0 (x1 : Nat) (z : mm_S) (oo : mm_R) : mm_Xs (sX2_readUnsure_0 x1 z) (fun v => (fun v : Int32 × mm_S => ((some (mm_I v.1), v.2) : mm_R)) v = oo) (fun n => eX2_readUnsure_0 n x1 z) oo :=
  xs_row (fun n => qX2_readUnsure_0 n x1 z) (xs_if (xs_bd fun q1 => (kX2_readUnsure_14 x1 q1 oo)) (xs_v fun hc => ⟨0, congrArg some hc⟩))
noncomputable def sX2_readUnsure (x1 : Nat) (z : mm_S) : Option (Int32 × mm_S) := sX2_readUnsure_0 x1 z
theorem sp_X2_readUnsure (x1 : Nat) (z : mm_S) (hk : ∀ v ∈ [mm_P 2 37, mm_P 0 x1], mm_ok 46 lyTX 48 17 v) (q : Int32 × mm_S) (hq : sX2_readUnsure x1 z = some q) : f_X2_readUnsure [mm_P 2 37, mm_P 0 x1] z (some (mm_I q.1), q.2) := ⟨Nat.le_of_ble_eq_true rfl, kX2_readUnsure_0 x1 z _ q hq rfl⟩
noncomputable def clo_X2_readUnsure (as : List mm_V) (z : mm_S) (kk : Option mm_V → mm_S → Option mm_R) : Option mm_R := mm_pr as fun t o0 as => bif Nat.beq t 2 then mm_pr as fun t o1 as => bif Nat.beq t 0 then (match as with | [] => (sX2_readUnsure o1 z).bind fun q => kk (some (mm_I q.1)) q.2 | _ => none) else none else none
theorem cs_X2_readUnsure : mm_cs lyTX 46 48 17 f_X2_readUnsure clo_X2_readUnsure := by
  intro as z K o hk h
  obtain ⟨t0, o0, r0, rfl, g0⟩ := mm_pr_e h
  obtain ⟨b0, k0⟩ := mm_bif_e g0
  obtain rfl := Nat.eq_of_beq_eq_true b0
  obtain ⟨t1, o1, r1, rfl, g1⟩ := mm_pr_e k0
  obtain ⟨b1, k1⟩ := mm_bif_e g1
  obtain rfl := Nat.eq_of_beq_eq_true b1
  rcases r1 with _ | ⟨u, w⟩
  rotate_left
  · cases k1
  obtain rfl : o0 = 37 := ok2 (hk (mm_P 2 o0) (by simp))
  obtain ⟨q, hq, hq2⟩ := Option.bind_eq_some_iff.mp k1
  exact ⟨_, _, sp_X2_readUnsure o1 z hk q hq, fun v hv => by cases hv; exact Or.inl ⟨_, rfl⟩, hq2⟩
theorem sV_X2_readUnsure {own : String} {R : Room} {ar : Nat → Nat} {k : Nat} (hlink : Cond.methodLink own k yX2_readUnsure ∈ lw_gd ∨ ∃ host, (own, k, yX2_readUnsure, host) ∈ nmA) (har : ar k = 2) (hr : 4 ≤ R.frames ∧ 84 ≤ R.locals) : mm_okV lyTX lyFA lenX snX 46 48 17 roX rsA nfA nmA ssX own R ar k clo_X2_readUnsure := by
  refine ⟨yX2_readUnsure, cX2_readUnsure, 2, some .boolean, rm_X2_readUnsure, f_X2_readUnsure, 2, 1, (RX2, TX2, 6), M_X2_readUnsure, cs_X2_readUnsure, hlink, ⟨wv_X2_readUnsure, wz_X2_readUnsure, wi_X2_readUnsure, wc_X2_readUnsure⟩, ⟨by decide +kernel, by decide +kernel, by decide +kernel⟩, har, ⟨rfl, rfl, by decide⟩, ?_, ⟨rfl, rfl, hr.1, hr.2⟩⟩
  intro as z K o h
  obtain ⟨t0, o0, r0, rfl, g0⟩ := mm_pr_e h
  obtain ⟨b0, k0⟩ := mm_bif_e g0
  obtain rfl := Nat.eq_of_beq_eq_true b0
  exact ⟨_, _, rfl⟩
