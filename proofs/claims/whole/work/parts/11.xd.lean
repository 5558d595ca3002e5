-- X0_addCrew
def lV_X0_addCrew : List (Nat × (List mm_V → mm_S → (Option mm_V → mm_S → Option mm_R) → Option mm_R)) := []
def mV_X0_addCrew (k : Nat) (as : List mm_V) (z : mm_S) (kk : Option mm_V → mm_S → Option mm_R) : Option mm_R := match mm_at lV_X0_addCrew k with
  | some f => f as z kk
  | none => none
def arV_X0_addCrew (k : Nat) : Nat := (mm_at [] k).getD 0
def lS_X0_addCrew : List (Nat × (List mm_V → mm_S → (Option mm_V → mm_S → Option mm_R) → Option mm_R)) := [(73, clo_X3_exchange)]
def mS_X0_addCrew (k : Nat) (as : List mm_V) (z : mm_S) (kk : Option mm_V → mm_S → Option mm_R) : Option mm_R := match mm_at lS_X0_addCrew k with
  | some f => f as z kk
  | none => none
def arS_X0_addCrew (k : Nat) : Nat := (mm_at [(73, 3)] k).getD 0
def ct_X0_addCrew : List (Nat × List Nat) := [(13, [0, 2, 3]), (26, [0, 3]), (39, [0]), (49, [])]
def go_X0_addCrew : Nat → mm_K := mm_go (fun k => mm_at flX0 k) (fun k => mm_at clX0 k) (fun k => mm_at glX0 k) arV_X0_addCrew arS_X0_addCrew mV_X0_addCrew mS_X0_addCrew lenX roX snX 4 3 tbX0_addCrew ct_X0_addCrew
def eX0_addCrew_0 (n : Nat) (o : Nat) (x1 : Int32) (x2 : Int32) (x3 : Int32) (z : mm_S) : Option mm_R := go_X0_addCrew n 0 [(0, mm_P 0 o), (1, mm_I x1), (2, mm_I x2), (3, mm_I x3)] [] z
def eX0_addCrew_13 (n : Nat) (o : Nat) (y2 : Int32) (y3 : Int32) (z : mm_S) : Option mm_R := go_X0_addCrew n 13 [(0, mm_P 0 o), (2, mm_I y2), (3, mm_I y3)] [] z
def eX0_addCrew_26 (n : Nat) (o : Nat) (y3 : Int32) (z : mm_S) : Option mm_R := go_X0_addCrew n 26 [(0, mm_P 0 o), (3, mm_I y3)] [] z
def eX0_addCrew_39 (n : Nat) (o : Nat) (z : mm_S) : Option mm_R := go_X0_addCrew n 39 [(0, mm_P 0 o)] [] z
def eX0_addCrew_49 (n : Nat)  (z : mm_S) : Option mm_R := go_X0_addCrew n 49 [] [] z
set_option maxRecDepth 100000 in
theorem qX0_addCrew_0_1 (n : Nat)  (x1 : Int32) (x2 : Int32) (x3 : Int32) (z : mm_S) : eX0_addCrew_0 (n + 1) 1 x1 x2 x3 z = (let u1 := (tX3_exchange 5 (z.1 1 4) x1 z); eX0_addCrew_13 n 1 x2 x3 u1.2) := rfl
set_option maxRecDepth 100000 in
theorem qX0_addCrew_13_1 (n : Nat)  (y2 : Int32) (y3 : Int32) (z : mm_S) : eX0_addCrew_13 (n + 1) 1 y2 y3 z = (let u2 := (tX3_exchange 6 (z.1 1 4) y2 z); eX0_addCrew_26 n 1 y3 u2.2) := rfl
set_option maxRecDepth 100000 in
theorem qX0_addCrew_26_1 (n : Nat)  (y3 : Int32) (z : mm_S) : eX0_addCrew_26 (n + 1) 1 y3 z = (let u3 := (tX3_exchange 7 (z.1 1 4) y3 z); eX0_addCrew_39 n 1 u3.2) := rfl
set_option maxRecDepth 100000 in
theorem qX0_addCrew_39_1 (n : Nat)  (z : mm_S) : eX0_addCrew_39 (n + 1) 1 z = (eX0_addCrew_49 n  ((mm_ui z.1 1 4 ((z.1 1 4) + 1)), z.2)) := rfl
set_option maxRecDepth 100000 in
theorem qX0_addCrew_49_1 (n : Nat)  (z : mm_S) : eX0_addCrew_49 (n + 1)  z = (some (none, z)) := rfl
set_option maxRecDepth 100000 in
theorem qX0_addCrew_0_13 (n : Nat)  (x1 : Int32) (x2 : Int32) (x3 : Int32) (z : mm_S) : eX0_addCrew_0 (n + 1) 13 x1 x2 x3 z = (let u1 := (tX3_exchange 17 (z.1 13 4) x1 z); eX0_addCrew_13 n 13 x2 x3 u1.2) := rfl
set_option maxRecDepth 100000 in
theorem qX0_addCrew_13_13 (n : Nat)  (y2 : Int32) (y3 : Int32) (z : mm_S) : eX0_addCrew_13 (n + 1) 13 y2 y3 z = (let u2 := (tX3_exchange 18 (z.1 13 4) y2 z); eX0_addCrew_26 n 13 y3 u2.2) := rfl
set_option maxRecDepth 100000 in
theorem qX0_addCrew_26_13 (n : Nat)  (y3 : Int32) (z : mm_S) : eX0_addCrew_26 (n + 1) 13 y3 z = (let u3 := (tX3_exchange 19 (z.1 13 4) y3 z); eX0_addCrew_39 n 13 u3.2) := rfl
set_option maxRecDepth 100000 in
theorem qX0_addCrew_39_13 (n : Nat)  (z : mm_S) : eX0_addCrew_39 (n + 1) 13 z = (eX0_addCrew_49 n  ((mm_ui z.1 13 4 ((z.1 13 4) + 1)), z.2)) := rfl
set_option maxRecDepth 100000 in
theorem qX0_addCrew_49_13 (n : Nat)  (z : mm_S) : eX0_addCrew_49 (n + 1)  z = (some (none, z)) := rfl
set_option maxRecDepth 100000 in
theorem qX0_addCrew_0_25 (n : Nat)  (x1 : Int32) (x2 : Int32) (x3 : Int32) (z : mm_S) : eX0_addCrew_0 (n + 1) 25 x1 x2 x3 z = (let u1 := (tX3_exchange 29 (z.1 25 4) x1 z); eX0_addCrew_13 n 25 x2 x3 u1.2) := rfl
set_option maxRecDepth 100000 in
theorem qX0_addCrew_13_25 (n : Nat)  (y2 : Int32) (y3 : Int32) (z : mm_S) : eX0_addCrew_13 (n + 1) 25 y2 y3 z = (let u2 := (tX3_exchange 30 (z.1 25 4) y2 z); eX0_addCrew_26 n 25 y3 u2.2) := rfl
set_option maxRecDepth 100000 in
theorem qX0_addCrew_26_25 (n : Nat)  (y3 : Int32) (z : mm_S) : eX0_addCrew_26 (n + 1) 25 y3 z = (let u3 := (tX3_exchange 31 (z.1 25 4) y3 z); eX0_addCrew_39 n 25 u3.2) := rfl
set_option maxRecDepth 100000 in
theorem qX0_addCrew_39_25 (n : Nat)  (z : mm_S) : eX0_addCrew_39 (n + 1) 25 z = (eX0_addCrew_49 n  ((mm_ui z.1 25 4 ((z.1 25 4) + 1)), z.2)) := rfl
set_option maxRecDepth 100000 in
theorem qX0_addCrew_49_25 (n : Nat)  (z : mm_S) : eX0_addCrew_49 (n + 1)  z = (some (none, z)) := rfl
def rm_X0_addCrew : Room := { frames := 1, cells := 0, slots := 0, locals := 23 }
def f_X0_addCrew (as : List mm_V) (z : mm_S) (o : mm_R) : Prop := (as.map mm_cat).sum ≤ 4 ∧ ∃ n, go_X0_addCrew n 0 (mm_ar 0 as) [] z = some o
theorem M_X0_addCrew : mm_M lyTX lyFA lenX snX 46 48 17 roX rsA nfA nmA ssX yX0_addCrew cX0_addCrew 4 (none) rm_X0_addCrew f_X0_addCrew :=
  mm_met (rt := 3) (by decide +kernel) ⟨fun h => absurd h (by decide), fun h => absurd h (by decide), fun h => absurd h (by decide), fun h => rfl⟩ tbX0_addCrew_ok hsnX okFX0 okLX0 okGX0 (fun _ _ _ _ => rfl) (fun _ _ _ _ => rfl) (fun _ h => absurd h List.not_mem_nil) (List.forall_mem_cons.mpr ⟨sS_X3_exchange (Or.inr ⟨_, ln_X0_73⟩) rfl ⟨by decide, by decide⟩, fun _ h => absurd h List.not_mem_nil⟩)
def tX0_addCrew_49  (z : mm_S) : mm_S := z
theorem kX0_addCrew_49 (n : Nat)  (z : mm_S) {o : Nat} (hk : mm_ok 46 lyTX 48 17 (mm_P 0 o)) : eX0_addCrew_49 (n + 1)  z = some (none, tX0_addCrew_49  z) := by
  rcases ok0 hk with rfl | rfl | rfl
  · exact (qX0_addCrew_49_1 (n + 0)  z).trans rfl
  · exact (qX0_addCrew_49_13 (n + 0)  z).trans rfl
  · exact (qX0_addCrew_49_25 (n + 0)  z).trans rfl
def tX0_addCrew_39 (o : Nat) (z : mm_S) : mm_S := (tX0_addCrew_49  ((mm_ui z.1 o 4 ((z.1 o 4) + 1)), z.2))
theorem kX0_addCrew_39 (n : Nat) (o : Nat) (z : mm_S) (hk : mm_ok 46 lyTX 48 17 (mm_P 0 o)) : eX0_addCrew_39 (n + 2) o z = some (none, tX0_addCrew_39 o z) := by
  rcases ok0 hk with rfl | rfl | rfl
  · exact (qX0_addCrew_39_1 (n + 1)  z).trans (kX0_addCrew_49 (n + 0)  ((mm_ui z.1 1 4 ((z.1 1 4) + 1)), z.2) hk)
  · exact (qX0_addCrew_39_13 (n + 1)  z).trans (kX0_addCrew_49 (n + 0)  ((mm_ui z.1 13 4 ((z.1 13 4) + 1)), z.2) hk)
  · exact (qX0_addCrew_39_25 (n + 1)  z).trans (kX0_addCrew_49 (n + 0)  ((mm_ui z.1 25 4 ((z.1 25 4) + 1)), z.2) hk)
def tX0_addCrew_26 (o : Nat) (y3 : Int32) (z : mm_S) : mm_S := let u3 := (tX3_exchange (o + 6) (z.1 o 4) y3 z); (tX0_addCrew_39 o u3.2)
theorem kX0_addCrew_26 (n : Nat) (o : Nat) (y3 : Int32) (z : mm_S) (hk : mm_ok 46 lyTX 48 17 (mm_P 0 o)) : eX0_addCrew_26 (n + 3) o y3 z = some (none, tX0_addCrew_26 o y3 z) := by
  rcases ok0 hk with rfl | rfl | rfl
  · exact (qX0_addCrew_26_1 (n + 2) y3 z).trans (let u3 := (tX3_exchange (1 + 6) (z.1 1 4) y3 z); (kX0_addCrew_39 (n + 0) 1 u3.2 hk))
  · exact (qX0_addCrew_26_13 (n + 2) y3 z).trans (let u3 := (tX3_exchange (13 + 6) (z.1 13 4) y3 z); (kX0_addCrew_39 (n + 0) 13 u3.2 hk))
  · exact (qX0_addCrew_26_25 (n + 2) y3 z).trans (let u3 := (tX3_exchange (25 + 6) (z.1 25 4) y3 z); (kX0_addCrew_39 (n + 0) 25 u3.2 hk))
def tX0_addCrew_13 (o : Nat) (y2 : Int32) (y3 : Int32) (z : mm_S) : mm_S := let u2 := (tX3_exchange (o + 5) (z.1 o 4) y2 z); (tX0_addCrew_26 o y3 u2.2)
theorem kX0_addCrew_13 (n : Nat) (o : Nat) (y2 : Int32) (y3 : Int32) (z : mm_S) (hk : mm_ok 46 lyTX 48 17 (mm_P 0 o)) : eX0_addCrew_13 (n + 4) o y2 y3 z = some (none, tX0_addCrew_13 o y2 y3 z) := by
  rcases ok0 hk with rfl | rfl | rfl
  · exact (qX0_addCrew_13_1 (n + 3) y2 y3 z).trans (let u2 := (tX3_exchange (1 + 5) (z.1 1 4) y2 z); (kX0_addCrew_26 (n + 0) 1 y3 u2.2 hk))
  · exact (qX0_addCrew_13_13 (n + 3) y2 y3 z).trans (let u2 := (tX3_exchange (13 + 5) (z.1 13 4) y2 z); (kX0_addCrew_26 (n + 0) 13 y3 u2.2 hk))
  · exact (qX0_addCrew_13_25 (n + 3) y2 y3 z).trans (let u2 := (tX3_exchange (25 + 5) (z.1 25 4) y2 z); (kX0_addCrew_26 (n + 0) 25 y3 u2.2 hk))
def tX0_addCrew (o : Nat) (x1 : Int32) (x2 : Int32) (x3 : Int32) (z : mm_S) : mm_S := let u1 := (tX3_exchange (o + 4) (z.1 o 4) x1 z); (tX0_addCrew_13 o x2 x3 u1.2)
theorem kX0_addCrew_0 (n : Nat) (o : Nat) (x1 : Int32) (x2 : Int32) (x3 : Int32) (z : mm_S) (hk : mm_ok 46 lyTX 48 17 (mm_P 0 o)) : eX0_addCrew_0 (n + 5) o x1 x2 x3 z = some (none, tX0_addCrew o x1 x2 x3 z) := by
  rcases ok0 hk with rfl | rfl | rfl
  · exact (qX0_addCrew_0_1 (n + 4) x1 x2 x3 z).trans (let u1 := (tX3_exchange (1 + 4) (z.1 1 4) x1 z); (kX0_addCrew_13 (n + 0) 1 x2 x3 u1.2 hk))
  · exact (qX0_addCrew_0_13 (n + 4) x1 x2 x3 z).trans (let u1 := (tX3_exchange (13 + 4) (z.1 13 4) x1 z); (kX0_addCrew_13 (n + 0) 13 x2 x3 u1.2 hk))
  · exact (qX0_addCrew_0_25 (n + 4) x1 x2 x3 z).trans (let u1 := (tX3_exchange (25 + 4) (z.1 25 4) x1 z); (kX0_addCrew_13 (n + 0) 25 x2 x3 u1.2 hk))
theorem sp_X0_addCrew (o : Nat) (x1 : Int32) (x2 : Int32) (x3 : Int32) (z : mm_S) (hk : ∀ v ∈ [mm_P 0 o, mm_I x1, mm_I x2, mm_I x3], mm_ok 46 lyTX 48 17 v) : f_X0_addCrew [mm_P 0 o, mm_I x1, mm_I x2, mm_I x3] z (none, tX0_addCrew o x1 x2 x3 z) := ⟨Nat.le_of_ble_eq_true rfl, 0 + 5, kX0_addCrew_0 0 o x1 x2 x3 z (hk (mm_P 0 o) (by simp))⟩
def clo_X0_addCrew (as : List mm_V) (z : mm_S) (kk : Option mm_V → mm_S → Option mm_R) : Option mm_R := mm_pr as fun t o0 as => bif Nat.beq t 0 then mm_pi as fun a1 as => mm_pi as fun a2 as => mm_pi as fun a3 as => (match as with | [] => kk none (tX0_addCrew o0 a1 a2 a3 z) | _ => none) else none
theorem cs_X0_addCrew : mm_cs lyTX 46 48 17 f_X0_addCrew clo_X0_addCrew := by
  intro as z K o hk h
  obtain ⟨t0, o0, r0, rfl, g0⟩ := mm_pr_e h
  obtain ⟨b0, k0⟩ := mm_bif_e g0
  obtain rfl := Nat.eq_of_beq_eq_true b0
  obtain ⟨a1, r1, rfl, g1⟩ := mm_pi_e k0
  obtain ⟨a2, r2, rfl, g2⟩ := mm_pi_e g1
  obtain ⟨a3, r3, rfl, g3⟩ := mm_pi_e g2
  rcases r3 with _ | ⟨u, w⟩
  rotate_left
  · cases g3
  exact ⟨_, _, sp_X0_addCrew o0 a1 a2 a3 z hk, (fun v hv => by cases hv), g3⟩
theorem sV_X0_addCrew {own : String} {R : Room} {ar : Nat → Nat} {k : Nat} (hlink : Cond.methodLink own k yX0_addCrew ∈ lw_gd ∨ ∃ host, (own, k, yX0_addCrew, host) ∈ nmA) (har : ar k = 4) (hr : 2 ≤ R.frames ∧ 46 ≤ R.locals) : mm_okV lyTX lyFA lenX snX 46 48 17 roX rsA nfA nmA ssX own R ar k clo_X0_addCrew := by
  refine ⟨yX0_addCrew, cX0_addCrew, 4, none, rm_X0_addCrew, f_X0_addCrew, 0, 3, (RX0, TX0, 14), M_X0_addCrew, cs_X0_addCrew, hlink, ⟨wv_X0_addCrew, wz_X0_addCrew, wi_X0_addCrew, wc_X0_addCrew⟩, ⟨by decide +kernel, by decide +kernel, by decide +kernel⟩, har, ⟨rfl, rfl, by decide⟩, ?_, ⟨rfl, rfl, hr.1, hr.2⟩⟩
  intro as z K o h
  obtain ⟨t0, o0, r0, rfl, g0⟩ := mm_pr_e h
  obtain ⟨b0, k0⟩ := mm_bif_e g0
  obtain rfl := Nat.eq_of_beq_eq_true b0
  exact ⟨_, _, rfl⟩
-- X0_addBook
def lV_X0_addBook : List (Nat × (List mm_V → mm_S → (Option mm_V → mm_S → Option mm_R) → Option mm_R)) := []
def mV_X0_addBook (k : Nat) (as : List mm_V) (z : mm_S) (kk : Option mm_V → mm_S → Option mm_R) : Option mm_R := match mm_at lV_X0_addBook k with
  | some f => f as z kk
  | none => none
def arV_X0_addBook (k : Nat) : Nat := (mm_at [] k).getD 0
def lS_X0_addBook : List (Nat × (List mm_V → mm_S → (Option mm_V → mm_S → Option mm_R) → Option mm_R)) := [(73, clo_X3_exchange)]
def mS_X0_addBook (k : Nat) (as : List mm_V) (z : mm_S) (kk : Option mm_V → mm_S → Option mm_R) : Option mm_R := match mm_at lS_X0_addBook k with
  | some f => f as z kk
  | none => none
def arS_X0_addBook (k : Nat) : Nat := (mm_at [(73, 3)] k).getD 0
def ct_X0_addBook : List (Nat × List Nat) := [(13, [0, 2, 3]), (26, [0, 3]), (39, [0]), (49, [])]
def go_X0_addBook : Nat → mm_K := mm_go (fun k => mm_at flX0 k) (fun k => mm_at clX0 k) (fun k => mm_at glX0 k) arV_X0_addBook arS_X0_addBook mV_X0_addBook mS_X0_addBook lenX roX snX 4 3 tbX0_addBook ct_X0_addBook
def eX0_addBook_0 (n : Nat) (o : Nat) (x1 : Int32) (x2 : Int32) (x3 : Int32) (z : mm_S) : Option mm_R := go_X0_addBook n 0 [(0, mm_P 0 o), (1, mm_I x1), (2, mm_I x2), (3, mm_I x3)] [] z
def eX0_addBook_13 (n : Nat) (o : Nat) (y2 : Int32) (y3 : Int32) (z : mm_S) : Option mm_R := go_X0_addBook n 13 [(0, mm_P 0 o), (2, mm_I y2), (3, mm_I y3)] [] z
def eX0_addBook_26 (n : Nat) (o : Nat) (y3 : Int32) (z : mm_S) : Option mm_R := go_X0_addBook n 26 [(0, mm_P 0 o), (3, mm_I y3)] [] z
def eX0_addBook_39 (n : Nat) (o : Nat) (z : mm_S) : Option mm_R := go_X0_addBook n 39 [(0, mm_P 0 o)] [] z
def eX0_addBook_49 (n : Nat)  (z : mm_S) : Option mm_R := go_X0_addBook n 49 [] [] z
set_option maxRecDepth 100000 in
theorem qX0_addBook_0_1 (n : Nat)  (x1 : Int32) (x2 : Int32) (x3 : Int32) (z : mm_S) : eX0_addBook_0 (n + 1) 1 x1 x2 x3 z = (let u1 := (tX3_exchange 9 (z.1 1 10) x1 z); eX0_addBook_13 n 1 x2 x3 u1.2) := rfl
set_option maxRecDepth 100000 in
theorem qX0_addBook_13_1 (n : Nat)  (y2 : Int32) (y3 : Int32) (z : mm_S) : eX0_addBook_13 (n + 1) 1 y2 y3 z = (let u2 := (tX3_exchange 10 (z.1 1 10) y2 z); eX0_addBook_26 n 1 y3 u2.2) := rfl
set_option maxRecDepth 100000 in
theorem qX0_addBook_26_1 (n : Nat)  (y3 : Int32) (z : mm_S) : eX0_addBook_26 (n + 1) 1 y3 z = (let u3 := (tX3_exchange 11 (z.1 1 10) y3 z); eX0_addBook_39 n 1 u3.2) := rfl
set_option maxRecDepth 100000 in
theorem qX0_addBook_39_1 (n : Nat)  (z : mm_S) : eX0_addBook_39 (n + 1) 1 z = (eX0_addBook_49 n  ((mm_ui z.1 1 10 ((z.1 1 10) + 1)), z.2)) := rfl
set_option maxRecDepth 100000 in
theorem qX0_addBook_49_1 (n : Nat)  (z : mm_S) : eX0_addBook_49 (n + 1)  z = (some (none, z)) := rfl
set_option maxRecDepth 100000 in
theorem qX0_addBook_0_13 (n : Nat)  (x1 : Int32) (x2 : Int32) (x3 : Int32) (z : mm_S) : eX0_addBook_0 (n + 1) 13 x1 x2 x3 z = (let u1 := (tX3_exchange 21 (z.1 13 10) x1 z); eX0_addBook_13 n 13 x2 x3 u1.2) := rfl
set_option maxRecDepth 100000 in
theorem qX0_addBook_13_13 (n : Nat)  (y2 : Int32) (y3 : Int32) (z : mm_S) : eX0_addBook_13 (n + 1) 13 y2 y3 z = (let u2 := (tX3_exchange 22 (z.1 13 10) y2 z); eX0_addBook_26 n 13 y3 u2.2) := rfl
set_option maxRecDepth 100000 in
theorem qX0_addBook_26_13 (n : Nat)  (y3 : Int32) (z : mm_S) : eX0_addBook_26 (n + 1) 13 y3 z = (let u3 := (tX3_exchange 23 (z.1 13 10) y3 z); eX0_addBook_39 n 13 u3.2) := rfl
set_option maxRecDepth 100000 in
theorem qX0_addBook_39_13 (n : Nat)  (z : mm_S) : eX0_addBook_39 (n + 1) 13 z = (eX0_addBook_49 n  ((mm_ui z.1 13 10 ((z.1 13 10) + 1)), z.2)) := rfl
set_option maxRecDepth 100000 in
theorem qX0_addBook_49_13 (n : Nat)  (z : mm_S) : eX0_addBook_49 (n + 1)  z = (some (none, z)) := rfl
set_option maxRecDepth 100000 in
theorem qX0_addBook_0_25 (n : Nat)  (x1 : Int32) (x2 : Int32) (x3 : Int32) (z : mm_S) : eX0_addBook_0 (n + 1) 25 x1 x2 x3 z = (let u1 := (tX3_exchange 33 (z.1 25 10) x1 z); eX0_addBook_13 n 25 x2 x3 u1.2) := rfl
set_option maxRecDepth 100000 in
theorem qX0_addBook_13_25 (n : Nat)  (y2 : Int32) (y3 : Int32) (z : mm_S) : eX0_addBook_13 (n + 1) 25 y2 y3 z = (let u2 := (tX3_exchange 34 (z.1 25 10) y2 z); eX0_addBook_26 n 25 y3 u2.2) := rfl
set_option maxRecDepth 100000 in
theorem qX0_addBook_26_25 (n : Nat)  (y3 : Int32) (z : mm_S) : eX0_addBook_26 (n + 1) 25 y3 z = (let u3 := (tX3_exchange 35 (z.1 25 10) y3 z); eX0_addBook_39 n 25 u3.2) := rfl
set_option maxRecDepth 100000 in
theorem qX0_addBook_39_25 (n : Nat)  (z : mm_S) : eX0_addBook_39 (n + 1) 25 z = (eX0_addBook_49 n  ((mm_ui z.1 25 10 ((z.1 25 10) + 1)), z.2)) := rfl
set_option maxRecDepth 100000 in
theorem qX0_addBook_49_25 (n : Nat)  (z : mm_S) : eX0_addBook_49 (n + 1)  z = (some (none, z)) := rfl
def rm_X0_addBook : Room := { frames := 1, cells := 0, slots := 0, locals := 23 }
def f_X0_addBook (as : List mm_V) (z : mm_S) (o : mm_R) : Prop := (as.map mm_cat).sum ≤ 4 ∧ ∃ n, go_X0_addBook n 0 (mm_ar 0 as) [] z = some o
theorem M_X0_addBook : mm_M lyTX lyFA lenX snX 46 48 17 roX rsA nfA nmA ssX yX0_addBook cX0_addBook 4 (none) rm_X0_addBook f_X0_addBook :=
  mm_met (rt := 3) (by decide +kernel) ⟨fun h => absurd h (by decide), fun h => absurd h (by decide), fun h => absurd h (by decide), fun h => rfl⟩ tbX0_addBook_ok hsnX okFX0 okLX0 okGX0 (fun _ _ _ _ => rfl) (fun _ _ _ _ => rfl) (fun _ h => absurd h List.not_mem_nil) (List.forall_mem_cons.mpr ⟨sS_X3_exchange (Or.inr ⟨_, ln_X0_73⟩) rfl ⟨by decide, by decide⟩, fun _ h => absurd h List.not_mem_nil⟩)
def tX0_addBook_49  (z : mm_S) : mm_S := z
theorem kX0_addBook_49 (n : Nat)  (z : mm_S) {o : Nat} (hk : mm_ok 46 lyTX 48 17 (mm_P 0 o)) : eX0_addBook_49 (n + 1)  z = some (none, tX0_addBook_49  z) := by
  rcases ok0 hk with rfl | rfl | rfl
  · exact (qX0_addBook_49_1 (n + 0)  z).trans rfl
  · exact (qX0_addBook_49_13 (n + 0)  z).trans rfl
  · exact (qX0_addBook_49_25 (n + 0)  z).trans rfl
def tX0_addBook_39 (o : Nat) (z : mm_S) : mm_S := (tX0_addBook_49  ((mm_ui z.1 o 10 ((z.1 o 10) + 1)), z.2))
theorem kX0_addBook_39 (n : Nat) (o : Nat) (z : mm_S) (hk : mm_ok 46 lyTX 48 17 (mm_P 0 o)) : eX0_addBook_39 (n + 2) o z = some (none, tX0_addBook_39 o z) := by
  rcases ok0 hk with rfl | rfl | rfl
  · exact (qX0_addBook_39_1 (n + 1)  z).trans (kX0_addBook_49 (n + 0)  ((mm_ui z.1 1 10 ((z.1 1 10) + 1)), z.2) hk)
  · exact (qX0_addBook_39_13 (n + 1)  z).trans (kX0_addBook_49 (n + 0)  ((mm_ui z.1 13 10 ((z.1 13 10) + 1)), z.2) hk)
  · exact (qX0_addBook_39_25 (n + 1)  z).trans (kX0_addBook_49 (n + 0)  ((mm_ui z.1 25 10 ((z.1 25 10) + 1)), z.2) hk)
def tX0_addBook_26 (o : Nat) (y3 : Int32) (z : mm_S) : mm_S := let u3 := (tX3_exchange (o + 10) (z.1 o 10) y3 z); (tX0_addBook_39 o u3.2)
theorem kX0_addBook_26 (n : Nat) (o : Nat) (y3 : Int32) (z : mm_S) (hk : mm_ok 46 lyTX 48 17 (mm_P 0 o)) : eX0_addBook_26 (n + 3) o y3 z = some (none, tX0_addBook_26 o y3 z) := by
  rcases ok0 hk with rfl | rfl | rfl
  · exact (qX0_addBook_26_1 (n + 2) y3 z).trans (let u3 := (tX3_exchange (1 + 10) (z.1 1 10) y3 z); (kX0_addBook_39 (n + 0) 1 u3.2 hk))
  · exact (qX0_addBook_26_13 (n + 2) y3 z).trans (let u3 := (tX3_exchange (13 + 10) (z.1 13 10) y3 z); (kX0_addBook_39 (n + 0) 13 u3.2 hk))
  · exact (qX0_addBook_26_25 (n + 2) y3 z).trans (let u3 := (tX3_exchange (25 + 10) (z.1 25 10) y3 z); (kX0_addBook_39 (n + 0) 25 u3.2 hk))
def tX0_addBook_13 (o : Nat) (y2 : Int32) (y3 : Int32) (z : mm_S) : mm_S := let u2 := (tX3_exchange (o + 9) (z.1 o 10) y2 z); (tX0_addBook_26 o y3 u2.2)
theorem kX0_addBook_13 (n : Nat) (o : Nat) (y2 : Int32) (y3 : Int32) (z : mm_S) (hk : mm_ok 46 lyTX 48 17 (mm_P 0 o)) : eX0_addBook_13 (n + 4) o y2 y3 z = some (none, tX0_addBook_13 o y2 y3 z) := by
  rcases ok0 hk with rfl | rfl | rfl
  · exact (qX0_addBook_13_1 (n + 3) y2 y3 z).trans (let u2 := (tX3_exchange (1 + 9) (z.1 1 10) y2 z); (kX0_addBook_26 (n + 0) 1 y3 u2.2 hk))
  · exact (qX0_addBook_13_13 (n + 3) y2 y3 z).trans (let u2 := (tX3_exchange (13 + 9) (z.1 13 10) y2 z); (kX0_addBook_26 (n + 0) 13 y3 u2.2 hk))
  · exact (qX0_addBook_13_25 (n + 3) y2 y3 z).trans (let u2 := (tX3_exchange (25 + 9) (z.1 25 10) y2 z); (kX0_addBook_26 (n + 0) 25 y3 u2.2 hk))
def tX0_addBook (o : Nat) (x1 : Int32) (x2 : Int32) (x3 : Int32) (z : mm_S) : mm_S := let u1 := (tX3_exchange (o + 8) (z.1 o 10) x1 z); (tX0_addBook_13 o x2 x3 u1.2)
theorem kX0_addBook_0 (n : Nat) (o : Nat) (x1 : Int32) (x2 : Int32) (x3 : Int32) (z : mm_S) (hk : mm_ok 46 lyTX 48 17 (mm_P 0 o)) : eX0_addBook_0 (n + 5) o x1 x2 x3 z = some (none, tX0_addBook o x1 x2 x3 z) := by
  rcases ok0 hk with rfl | rfl | rfl
  · exact (qX0_addBook_0_1 (n + 4) x1 x2 x3 z).trans (let u1 := (tX3_exchange (1 + 8) (z.1 1 10) x1 z); (kX0_addBook_13 (n + 0) 1 x2 x3 u1.2 hk))
  · exact (qX0_addBook_0_13 (n + 4) x1 x2 x3 z).trans (let u1 := (tX3_exchange (13 + 8) (z.1 13 10) x1 z); (kX0_addBook_13 (n + 0) 13 x2 x3 u1.2 hk))
  · exact (qX0_addBook_0_25 (n + 4) x1 x2 x3 z).trans (let u1 := (tX3_exchange (25 + 8) (z.1 25 10) x1 z); (kX0_addBook_13 (n + 0) 25 x2 x3 u1.2 hk))
theorem sp_X0_addBook (o : Nat) (x1 : Int32) (x2 : Int32) (x3 : Int32) (z : mm_S) (hk : ∀ v ∈ [mm_P 0 o, mm_I x1, mm_I x2, mm_I x3], mm_ok 46 lyTX 48 17 v) : f_X0_addBook [mm_P 0 o, mm_I x1, mm_I x2, mm_I x3] z (none, tX0_addBook o x1 x2 x3 z) := ⟨Nat.le_of_ble_eq_true rfl, 0 + 5, kX0_addBook_0 0 o x1 x2 x3 z (hk (mm_P 0 o) (by simp))⟩
def clo_X0_addBook (as : List mm_V) (z : mm_S) (kk : Option mm_V → mm_S → Option mm_R) : Option mm_R := mm_pr as fun t o0 as => bif Nat.beq t 0 then mm_pi as fun a1 as => mm_pi as fun a2 as => mm_pi as fun a3 as => (match as with | [] => kk none (tX0_addBook o0 a1 a2 a3 z) | _ => none) else none
theorem cs_X0_addBook : mm_cs lyTX 46 48 17 f_X0_addBook clo_X0_addBook := by
  intro as z K o hk h
  obtain ⟨t0, o0, r0, rfl, g0⟩ := mm_pr_e h
  obtain ⟨b0, k0⟩ := mm_bif_e g0
  obtain rfl := Nat.eq_of_beq_eq_true b0
  obtain ⟨a1, r1, rfl, g1⟩ := mm_pi_e k0
  obtain ⟨a2, r2, rfl, g2⟩ := mm_pi_e g1
  obtain ⟨a3, r3, rfl, g3⟩ := mm_pi_e g2
  rcases r3 with _ | ⟨u, w⟩
  rotate_left
  · cases g3
  exact ⟨_, _, sp_X0_addBook o0 a1 a2 a3 z hk, (fun v hv => by cases hv), g3⟩
theorem sV_X0_addBook {own : String} {R : Room} {ar : Nat → Nat} {k : Nat} (hlink : Cond.methodLink own k yX0_addBook ∈ lw_gd ∨ ∃ host, (own, k, yX0_addBook, host) ∈ nmA) (har : ar k = 4) (hr : 2 ≤ R.frames ∧ 46 ≤ R.locals) : mm_okV lyTX lyFA lenX snX 46 48 17 roX rsA nfA nmA ssX own R ar k clo_X0_addBook := by
  refine ⟨yX0_addBook, cX0_addBook, 4, none, rm_X0_addBook, f_X0_addBook, 0, 3, (RX0, TX0, 14), M_X0_addBook, cs_X0_addBook, hlink, ⟨wv_X0_addBook, wz_X0_addBook, wi_X0_addBook, wc_X0_addBook⟩, ⟨by decide +kernel, by decide +kernel, by decide +kernel⟩, har, ⟨rfl, rfl, by decide⟩, ?_, ⟨rfl, rfl, hr.1, hr.2⟩⟩
  intro as z K o h
  obtain ⟨t0, o0, r0, rfl, g0⟩ := mm_pr_e h
  obtain ⟨b0, k0⟩ := mm_bif_e g0
  obtain rfl := Nat.eq_of_beq_eq_true b0
  exact ⟨_, _, rfl⟩
-- X0_addUnsure
def lV_X0_addUnsure : List (Nat × (List mm_V → mm_S → (Option mm_V → mm_S → Option mm_R) → Option mm_R)) := []
def mV_X0_addUnsure (k : Nat) (as : List mm_V) (z : mm_S) (kk : Option mm_V → mm_S → Option mm_R) : Option mm_R := match mm_at lV_X0_addUnsure k with
  | some f => f as z kk
  | none => none
def arV_X0_addUnsure (k : Nat) : Nat := (mm_at [] k).getD 0
def lS_X0_addUnsure : List (Nat × (List mm_V → mm_S → (Option mm_V → mm_S → Option mm_R) → Option mm_R)) := [(73, clo_X3_exchange)]
def mS_X0_addUnsure (k : Nat) (as : List mm_V) (z : mm_S) (kk : Option mm_V → mm_S → Option mm_R) : Option mm_R := match mm_at lS_X0_addUnsure k with
  | some f => f as z kk
  | none => none
def arS_X0_addUnsure (k : Nat) : Nat := (mm_at [(73, 3)] k).getD 0
def ct_X0_addUnsure : List (Nat × List Nat) := [(13, [0]), (23, [])]
def go_X0_addUnsure : Nat → mm_K := mm_go (fun k => mm_at flX0 k) (fun k => mm_at clX0 k) (fun k => mm_at glX0 k) arV_X0_addUnsure arS_X0_addUnsure mV_X0_addUnsure mS_X0_addUnsure lenX roX snX 2 3 tbX0_addUnsure ct_X0_addUnsure
def eX0_addUnsure_0 (n : Nat) (o : Nat) (x1 : Int32) (z : mm_S) : Option mm_R := go_X0_addUnsure n 0 [(0, mm_P 0 o), (1, mm_I x1)] [] z
def eX0_addUnsure_13 (n : Nat) (o : Nat) (z : mm_S) : Option mm_R := go_X0_addUnsure n 13 [(0, mm_P 0 o)] [] z
def eX0_addUnsure_23 (n : Nat)  (z : mm_S) : Option mm_R := go_X0_addUnsure n 23 [] [] z
set_option maxRecDepth 100000 in
theorem qX0_addUnsure_0_1 (n : Nat)  (x1 : Int32) (z : mm_S) : eX0_addUnsure_0 (n + 1) 1 x1 z = (let u1 := (tX3_exchange 8 (z.1 1 6) x1 z); eX0_addUnsure_13 n 1 u1.2) := rfl
set_option maxRecDepth 100000 in
theorem qX0_addUnsure_13_1 (n : Nat)  (z : mm_S) : eX0_addUnsure_13 (n + 1) 1 z = (eX0_addUnsure_23 n  ((mm_ui z.1 1 6 ((z.1 1 6) + 1)), z.2)) := rfl
set_option maxRecDepth 100000 in
theorem qX0_addUnsure_23_1 (n : Nat)  (z : mm_S) : eX0_addUnsure_23 (n + 1)  z = (some (none, z)) := rfl
set_option maxRecDepth 100000 in
theorem qX0_addUnsure_0_13 (n : Nat)  (x1 : Int32) (z : mm_S) : eX0_addUnsure_0 (n + 1) 13 x1 z = (let u1 := (tX3_exchange 20 (z.1 13 6) x1 z); eX0_addUnsure_13 n 13 u1.2) := rfl
set_option maxRecDepth 100000 in
theorem qX0_addUnsure_13_13 (n : Nat)  (z : mm_S) : eX0_addUnsure_13 (n + 1) 13 z = (eX0_addUnsure_23 n  ((mm_ui z.1 13 6 ((z.1 13 6) + 1)), z.2)) := rfl
set_option maxRecDepth 100000 in
theorem qX0_addUnsure_23_13 (n : Nat)  (z : mm_S) : eX0_addUnsure_23 (n + 1)  z = (some (none, z)) := rfl
set_option maxRecDepth 100000 in
theorem qX0_addUnsure_0_25 (n : Nat)  (x1 : Int32) (z : mm_S) : eX0_addUnsure_0 (n + 1) 25 x1 z = (let u1 := (tX3_exchange 32 (z.1 25 6) x1 z); eX0_addUnsure_13 n 25 u1.2) := rfl
set_option maxRecDepth 100000 in
theorem qX0_addUnsure_13_25 (n : Nat)  (z : mm_S) : eX0_addUnsure_13 (n + 1) 25 z = (eX0_addUnsure_23 n  ((mm_ui z.1 25 6 ((z.1 25 6) + 1)), z.2)) := rfl
set_option maxRecDepth 100000 in
theorem qX0_addUnsure_23_25 (n : Nat)  (z : mm_S) : eX0_addUnsure_23 (n + 1)  z = (some (none, z)) := rfl
def rm_X0_addUnsure : Room := { frames := 1, cells := 0, slots := 0, locals := 23 }
def f_X0_addUnsure (as : List mm_V) (z : mm_S) (o : mm_R) : Prop := (as.map mm_cat).sum ≤ 2 ∧ ∃ n, go_X0_addUnsure n 0 (mm_ar 0 as) [] z = some o
theorem M_X0_addUnsure : mm_M lyTX lyFA lenX snX 46 48 17 roX rsA nfA nmA ssX yX0_addUnsure cX0_addUnsure 2 (none) rm_X0_addUnsure f_X0_addUnsure :=
  mm_met (rt := 3) (by decide +kernel) ⟨fun h => absurd h (by decide), fun h => absurd h (by decide), fun h => absurd h (by decide), fun h => rfl⟩ tbX0_addUnsure_ok hsnX okFX0 okLX0 okGX0 (fun _ _ _ _ => rfl) (fun _ _ _ _ => rfl) (fun _ h => absurd h List.not_mem_nil) (List.forall_mem_cons.mpr ⟨sS_X3_exchange (Or.inr ⟨_, ln_X0_73⟩) rfl ⟨by decide, by decide⟩, fun _ h => absurd h List.not_mem_nil⟩)
def tX0_addUnsure_23  (z : mm_S) : mm_S := z
theorem kX0_addUnsure_23 (n : Nat)  (z : mm_S) {o : Nat} (hk : mm_ok 46 lyTX 48 17 (mm_P 0 o)) : eX0_addUnsure_23 (n + 1)  z = some (none, tX0_addUnsure_23  z) := by
  rcases ok0 hk with rfl | rfl | rfl
  · exact (qX0_addUnsure_23_1 (n + 0)  z).trans rfl
  · exact (qX0_addUnsure_23_13 (n + 0)  z).trans rfl
  · exact (qX0_addUnsure_23_25 (n + 0)  z).trans rfl
def tX0_addUnsure_13 (o : Nat) (z : mm_S) : mm_S := (tX0_addUnsure_23  ((mm_ui z.1 o 6 ((z.1 o 6) + 1)), z.2))
theorem kX0_addUnsure_13 (n : Nat) (o : Nat) (z : mm_S) (hk : mm_ok 46 lyTX 48 17 (mm_P 0 o)) : eX0_addUnsure_13 (n + 2) o z = some (none, tX0_addUnsure_13 o z) := by
  rcases ok0 hk with rfl | rfl | rfl
  · exact (qX0_addUnsure_13_1 (n + 1)  z).trans (kX0_addUnsure_23 (n + 0)  ((mm_ui z.1 1 6 ((z.1 1 6) + 1)), z.2) hk)
  · exact (qX0_addUnsure_13_13 (n + 1)  z).trans (kX0_addUnsure_23 (n + 0)  ((mm_ui z.1 13 6 ((z.1 13 6) + 1)), z.2) hk)
  · exact (qX0_addUnsure_13_25 (n + 1)  z).trans (kX0_addUnsure_23 (n + 0)  ((mm_ui z.1 25 6 ((z.1 25 6) + 1)), z.2) hk)
def tX0_addUnsure (o : Nat) (x1 : Int32) (z : mm_S) : mm_S := let u1 := (tX3_exchange (o + 7) (z.1 o 6) x1 z); (tX0_addUnsure_13 o u1.2)
theorem kX0_addUnsure_0 (n : Nat) (o : Nat) (x1 : Int32) (z : mm_S) (hk : mm_ok 46 lyTX 48 17 (mm_P 0 o)) : eX0_addUnsure_0 (n + 3) o x1 z = some (none, tX0_addUnsure o x1 z) := by
  rcases ok0 hk with rfl | rfl | rfl
  · exact (qX0_addUnsure_0_1 (n + 2) x1 z).trans (let u1 := (tX3_exchange (1 + 7) (z.1 1 6) x1 z); (kX0_addUnsure_13 (n + 0) 1 u1.2 hk))
  · exact (qX0_addUnsure_0_13 (n + 2) x1 z).trans (let u1 := (tX3_exchange (13 + 7) (z.1 13 6) x1 z); (kX0_addUnsure_13 (n + 0) 13 u1.2 hk))
  · exact (qX0_addUnsure_0_25 (n + 2) x1 z).trans (let u1 := (tX3_exchange (25 + 7) (z.1 25 6) x1 z); (kX0_addUnsure_13 (n + 0) 25 u1.2 hk))
theorem sp_X0_addUnsure (o : Nat) (x1 : Int32) (z : mm_S) (hk : ∀ v ∈ [mm_P 0 o, mm_I x1], mm_ok 46 lyTX 48 17 v) : f_X0_addUnsure [mm_P 0 o, mm_I x1] z (none, tX0_addUnsure o x1 z) := ⟨Nat.le_of_ble_eq_true rfl, 0 + 3, kX0_addUnsure_0 0 o x1 z (hk (mm_P 0 o) (by simp))⟩
def clo_X0_addUnsure (as : List mm_V) (z : mm_S) (kk : Option mm_V → mm_S → Option mm_R) : Option mm_R := mm_pr as fun t o0 as => bif Nat.beq t 0 then mm_pi as fun a1 as => (match as with | [] => kk none (tX0_addUnsure o0 a1 z) | _ => none) else none
theorem cs_X0_addUnsure : mm_cs lyTX 46 48 17 f_X0_addUnsure clo_X0_addUnsure := by
  intro as z K o hk h
  obtain ⟨t0, o0, r0, rfl, g0⟩ := mm_pr_e h
  obtain ⟨b0, k0⟩ := mm_bif_e g0
  obtain rfl := Nat.eq_of_beq_eq_true b0
  obtain ⟨a1, r1, rfl, g1⟩ := mm_pi_e k0
  rcases r1 with _ | ⟨u, w⟩
  rotate_left
  · cases g1
  exact ⟨_, _, sp_X0_addUnsure o0 a1 z hk, (fun v hv => by cases hv), g1⟩
theorem sV_X0_addUnsure {own : String} {R : Room} {ar : Nat → Nat} {k : Nat} (hlink : Cond.methodLink own k yX0_addUnsure ∈ lw_gd ∨ ∃ host, (own, k, yX0_addUnsure, host) ∈ nmA) (har : ar k = 2) (hr : 2 ≤ R.frames ∧ 44 ≤ R.locals) : mm_okV lyTX lyFA lenX snX 46 48 17 roX rsA nfA nmA ssX own R ar k clo_X0_addUnsure := by
  refine ⟨yX0_addUnsure, cX0_addUnsure, 2, none, rm_X0_addUnsure, f_X0_addUnsure, 0, 1, (RX0, TX0, 14), M_X0_addUnsure, cs_X0_addUnsure, hlink, ⟨wv_X0_addUnsure, wz_X0_addUnsure, wi_X0_addUnsure, wc_X0_addUnsure⟩, ⟨by decide +kernel, by decide +kernel, by decide +kernel⟩, har, ⟨rfl, rfl, by decide⟩, ?_, ⟨rfl, rfl, hr.1, hr.2⟩⟩
  intro as z K o h
  obtain ⟨t0, o0, r0, rfl, g0⟩ := mm_pr_e h
  obtain ⟨b0, k0⟩ := mm_bif_e g0
  obtain rfl := Nat.eq_of_beq_eq_true b0
  exact ⟨_, _, rfl⟩
-- X0_draw
def lV_X0_draw : List (Nat × (List mm_V → mm_S → (Option mm_V → mm_S → Option mm_R) → Option mm_R)) := []
def mV_X0_draw (k : Nat) (as : List mm_V) (z : mm_S) (kk : Option mm_V → mm_S → Option mm_R) : Option mm_R := match mm_at lV_X0_draw k with
  | some f => f as z kk
  | none => none
def arV_X0_draw (k : Nat) : Nat := (mm_at [] k).getD 0
def lS_X0_draw : List (Nat × (List mm_V → mm_S → (Option mm_V → mm_S → Option mm_R) → Option mm_R)) := []
def mS_X0_draw (k : Nat) (as : List mm_V) (z : mm_S) (kk : Option mm_V → mm_S → Option mm_R) : Option mm_R := match mm_at lS_X0_draw k with
  | some f => f as z kk
  | none => none
def arS_X0_draw (k : Nat) : Nat := (mm_at [] k).getD 0
def ct_X0_draw : List (Nat × List Nat) := [(15, [0])]
def go_X0_draw : Nat → mm_K := mm_go (fun k => mm_at flX0 k) (fun k => mm_at clX0 k) (fun k => mm_at glX0 k) arV_X0_draw arS_X0_draw mV_X0_draw mS_X0_draw lenX roX snX 1 0 tbX0_draw ct_X0_draw
def eX0_draw_0 (n : Nat) (o : Nat) (z : mm_S) : Option mm_R := go_X0_draw n 0 [(0, mm_P 0 o)] [] z
def eX0_draw_15 (n : Nat) (o : Nat) (z : mm_S) : Option mm_R := go_X0_draw n 15 [(0, mm_P 0 o)] [] z
set_option maxRecDepth 100000 in
theorem qX0_draw_0_1 (n : Nat)  (z : mm_S) : eX0_draw_0 (n + 1) 1 z = (eX0_draw_15 n 1 ((mm_ui z.1 1 13 (((z.1 1 13) * 1103515245) + 12345)), z.2)) := rfl
set_option maxRecDepth 100000 in
theorem qX0_draw_15_1 (n : Nat)  (z : mm_S) : eX0_draw_15 (n + 1) 1 z = (some (some (mm_I (Int32.toUInt32 (z.1 1 13) >>> (Int32.toUInt32 8 &&& Int32.toUInt32 31)).toInt32), z)) := rfl
set_option maxRecDepth 100000 in
theorem qX0_draw_0_13 (n : Nat)  (z : mm_S) : eX0_draw_0 (n + 1) 13 z = (eX0_draw_15 n 13 ((mm_ui z.1 13 13 (((z.1 13 13) * 1103515245) + 12345)), z.2)) := rfl
set_option maxRecDepth 100000 in
theorem qX0_draw_15_13 (n : Nat)  (z : mm_S) : eX0_draw_15 (n + 1) 13 z = (some (some (mm_I (Int32.toUInt32 (z.1 13 13) >>> (Int32.toUInt32 8 &&& Int32.toUInt32 31)).toInt32), z)) := rfl
set_option maxRecDepth 100000 in
theorem qX0_draw_0_25 (n : Nat)  (z : mm_S) : eX0_draw_0 (n + 1) 25 z = (eX0_draw_15 n 25 ((mm_ui z.1 25 13 (((z.1 25 13) * 1103515245) + 12345)), z.2)) := rfl
set_option maxRecDepth 100000 in
theorem qX0_draw_15_25 (n : Nat)  (z : mm_S) : eX0_draw_15 (n + 1) 25 z = (some (some (mm_I (Int32.toUInt32 (z.1 25 13) >>> (Int32.toUInt32 8 &&& Int32.toUInt32 31)).toInt32), z)) := rfl
def rm_X0_draw : Room := { frames := 0, cells := 0, slots := 0, locals := 0 }
def f_X0_draw (as : List mm_V) (z : mm_S) (o : mm_R) : Prop := (as.map mm_cat).sum ≤ 1 ∧ ∃ n, go_X0_draw n 0 (mm_ar 0 as) [] z = some o
theorem M_X0_draw : mm_M lyTX lyFA lenX snX 46 48 17 roX rsA nfA nmA ssX yX0_draw cX0_draw 1 (some .int) rm_X0_draw f_X0_draw :=
  mm_met (rt := 0) (by decide +kernel) ⟨fun h => rfl, fun h => absurd h (by decide), fun h => absurd h (by decide), fun h => absurd h (by decide)⟩ tbX0_draw_ok hsnX okFX0 okLX0 okGX0 (fun _ _ _ _ => rfl) (fun _ _ _ _ => rfl) (fun _ h => absurd h List.not_mem_nil) (fun _ h => absurd h List.not_mem_nil)
def tX0_draw_15 (o : Nat) (z : mm_S) : Int32 × mm_S := ((Int32.toUInt32 (z.1 o 13) >>> (Int32.toUInt32 8 &&& Int32.toUInt32 31)).toInt32, z)
theorem kX0_draw_15 (n : Nat) (o : Nat) (z : mm_S) (hk : mm_ok 46 lyTX 48 17 (mm_P 0 o)) : eX0_draw_15 (n + 1) o z = some (some (mm_I (tX0_draw_15 o z).1), (tX0_draw_15 o z).2) := by
  rcases ok0 hk with rfl | rfl | rfl
  · exact (qX0_draw_15_1 (n + 0)  z).trans rfl
  · exact (qX0_draw_15_13 (n + 0)  z).trans rfl
  · exact (qX0_draw_15_25 (n + 0)  z).trans rfl
def tX0_draw (o : Nat) (z : mm_S) : Int32 × mm_S := (tX0_draw_15 o ((mm_ui z.1 o 13 (((z.1 o 13) * 1103515245) + 12345)), z.2))
theorem kX0_draw_0 (n : Nat) (o : Nat) (z : mm_S) (hk : mm_ok 46 lyTX 48 17 (mm_P 0 o)) : eX0_draw_0 (n + 2) o z = some (some (mm_I (tX0_draw o z).1), (tX0_draw o z).2) := by
  rcases ok0 hk with rfl | rfl | rfl
  · exact (qX0_draw_0_1 (n + 1)  z).trans (kX0_draw_15 (n + 0) 1 ((mm_ui z.1 1 13 (((z.1 1 13) * 1103515245) + 12345)), z.2) hk)
  · exact (qX0_draw_0_13 (n + 1)  z).trans (kX0_draw_15 (n + 0) 13 ((mm_ui z.1 13 13 (((z.1 13 13) * 1103515245) + 12345)), z.2) hk)
  · exact (qX0_draw_0_25 (n + 1)  z).trans (kX0_draw_15 (n + 0) 25 ((mm_ui z.1 25 13 (((z.1 25 13) * 1103515245) + 12345)), z.2) hk)
theorem sp_X0_draw (o : Nat) (z : mm_S) (hk : ∀ v ∈ [mm_P 0 o], mm_ok 46 lyTX 48 17 v) : f_X0_draw [mm_P 0 o] z (some (mm_I (tX0_draw o z).1), (tX0_draw o z).2) := ⟨Nat.le_of_ble_eq_true rfl, 0 + 2, kX0_draw_0 0 o z (hk (mm_P 0 o) (by simp))⟩
def clo_X0_draw (as : List mm_V) (z : mm_S) (kk : Option mm_V → mm_S → Option mm_R) : Option mm_R := mm_pr as fun t o0 as => bif Nat.beq t 0 then (match as with | [] => kk (some (mm_I (tX0_draw o0 z).1)) (tX0_draw o0 z).2 | _ => none) else none
theorem cs_X0_draw : mm_cs lyTX 46 48 17 f_X0_draw clo_X0_draw := by
  intro as z K o hk h
  obtain ⟨t0, o0, r0, rfl, g0⟩ := mm_pr_e h
  obtain ⟨b0, k0⟩ := mm_bif_e g0
  obtain rfl := Nat.eq_of_beq_eq_true b0
  rcases r0 with _ | ⟨u, w⟩
  rotate_left
  · cases k0
  exact ⟨_, _, sp_X0_draw o0 z hk, fun v hv => by cases hv; exact Or.inl ⟨_, rfl⟩, k0⟩
theorem sV_X0_draw {own : String} {R : Room} {ar : Nat → Nat} {k : Nat} (hlink : Cond.methodLink own k yX0_draw ∈ lw_gd ∨ ∃ host, (own, k, yX0_draw, host) ∈ nmA) (har : ar k = 1) (hr : 1 ≤ R.frames ∧ 20 ≤ R.locals) : mm_okV lyTX lyFA lenX snX 46 48 17 roX rsA nfA nmA ssX own R ar k clo_X0_draw := by
  refine ⟨yX0_draw, cX0_draw, 1, some .int, rm_X0_draw, f_X0_draw, 0, 0, (RX0, TX0, 14), M_X0_draw, cs_X0_draw, hlink, ⟨wv_X0_draw, wz_X0_draw, wi_X0_draw, wc_X0_draw⟩, ⟨by decide +kernel, by decide +kernel, by decide +kernel⟩, har, ⟨rfl, rfl, by decide⟩, ?_, ⟨rfl, rfl, hr.1, hr.2⟩⟩
  intro as z K o h
  obtain ⟨t0, o0, r0, rfl, g0⟩ := mm_pr_e h
  obtain ⟨b0, k0⟩ := mm_bif_e g0
  obtain rfl := Nat.eq_of_beq_eq_true b0
  exact ⟨_, _, rfl⟩
-- X0_goOneYear
def lV_X0_goOneYear : List (Nat × (List mm_V → mm_S → (Option mm_V → mm_S → Option mm_R) → Option mm_R)) := [(135, clo_X1_put), (144, clo_X0_draw)]
def mV_X0_goOneYear (k : Nat) (as : List mm_V) (z : mm_S) (kk : Option mm_V → mm_S → Option mm_R) : Option mm_R := match mm_at lV_X0_goOneYear k with
  | some f => f as z kk
  | none => none
def arV_X0_goOneYear (k : Nat) : Nat := (mm_at [(135, 3), (144, 1)] k).getD 0
def lS_X0_goOneYear : List (Nat × (List mm_V → mm_S → (Option mm_V → mm_S → Option mm_R) → Option mm_R)) := []
def mS_X0_goOneYear (k : Nat) (as : List mm_V) (z : mm_S) (kk : Option mm_V → mm_S → Option mm_R) : Option mm_R := match mm_at lS_X0_goOneYear k with
  | some f => f as z kk
  | none => none
def arS_X0_goOneYear (k : Nat) : Nat := (mm_at [] k).getD 0
def ct_X0_goOneYear : List (Nat × List Nat) := [(8, [0, 1]), (22, [0]), (32, [])]
def go_X0_goOneYear : Nat → mm_K := mm_go (fun k => mm_at flX0 k) (fun k => mm_at clX0 k) (fun k => mm_at glX0 k) arV_X0_goOneYear arS_X0_goOneYear mV_X0_goOneYear mS_X0_goOneYear lenX roX snX 2 3 tbX0_goOneYear ct_X0_goOneYear
def eX0_goOneYear_0 (n : Nat) (o : Nat) (z : mm_S) : Option mm_R := go_X0_goOneYear n 0 [(0, mm_P 0 o)] [] z
def eX0_goOneYear_8 (n : Nat) (o : Nat) (y1 : Int32) (z : mm_S) : Option mm_R := go_X0_goOneYear n 8 [(0, mm_P 0 o), (1, mm_I y1)] [] z
def eX0_goOneYear_22 (n : Nat) (o : Nat) (z : mm_S) : Option mm_R := go_X0_goOneYear n 22 [(0, mm_P 0 o)] [] z
def eX0_goOneYear_32 (n : Nat)  (z : mm_S) : Option mm_R := go_X0_goOneYear n 32 [] [] z
set_option maxRecDepth 100000 in
theorem qX0_goOneYear_0_1 (n : Nat)  (z : mm_S) : eX0_goOneYear_0 (n + 1) 1 z = (let u1 := (tX0_draw 1 z); eX0_goOneYear_8 n 1 (u1.1 - u1.1 / 36 * 36) u1.2) := rfl
set_option maxRecDepth 100000 in
theorem qX0_goOneYear_8_1 (n : Nat)  (y1 : Int32) (z : mm_S) : eX0_goOneYear_8 (n + 1) 1 y1 z = (let u2 := (tX0_draw 1 z); let u3 := (tX1_put 2 y1 (u2.1 - u2.1 / 5 * 5) u2.2); eX0_goOneYear_22 n 1 u3) := rfl
set_option maxRecDepth 100000 in
theorem qX0_goOneYear_22_1 (n : Nat)  (z : mm_S) : eX0_goOneYear_22 (n + 1) 1 z = (eX0_goOneYear_32 n  ((mm_ui z.1 1 12 ((z.1 1 12) + 1)), z.2)) := rfl
set_option maxRecDepth 100000 in
theorem qX0_goOneYear_32_1 (n : Nat)  (z : mm_S) : eX0_goOneYear_32 (n + 1)  z = (some (none, z)) := rfl
set_option maxRecDepth 100000 in
theorem qX0_goOneYear_0_13 (n : Nat)  (z : mm_S) : eX0_goOneYear_0 (n + 1) 13 z = (let u1 := (tX0_draw 13 z); eX0_goOneYear_8 n 13 (u1.1 - u1.1 / 36 * 36) u1.2) := rfl
set_option maxRecDepth 100000 in
theorem qX0_goOneYear_8_13 (n : Nat)  (y1 : Int32) (z : mm_S) : eX0_goOneYear_8 (n + 1) 13 y1 z = (let u2 := (tX0_draw 13 z); let u3 := (tX1_put 14 y1 (u2.1 - u2.1 / 5 * 5) u2.2); eX0_goOneYear_22 n 13 u3) := rfl
set_option maxRecDepth 100000 in
theorem qX0_goOneYear_22_13 (n : Nat)  (z : mm_S) : eX0_goOneYear_22 (n + 1) 13 z = (eX0_goOneYear_32 n  ((mm_ui z.1 13 12 ((z.1 13 12) + 1)), z.2)) := rfl
set_option maxRecDepth 100000 in
theorem qX0_goOneYear_32_13 (n : Nat)  (z : mm_S) : eX0_goOneYear_32 (n + 1)  z = (some (none, z)) := rfl
set_option maxRecDepth 100000 in
theorem qX0_goOneYear_0_25 (n : Nat)  (z : mm_S) : eX0_goOneYear_0 (n + 1) 25 z = (let u1 := (tX0_draw 25 z); eX0_goOneYear_8 n 25 (u1.1 - u1.1 / 36 * 36) u1.2) := rfl
set_option maxRecDepth 100000 in
theorem qX0_goOneYear_8_25 (n : Nat)  (y1 : Int32) (z : mm_S) : eX0_goOneYear_8 (n + 1) 25 y1 z = (let u2 := (tX0_draw 25 z); let u3 := (tX1_put 26 y1 (u2.1 - u2.1 / 5 * 5) u2.2); eX0_goOneYear_22 n 25 u3) := rfl
set_option maxRecDepth 100000 in
theorem qX0_goOneYear_22_25 (n : Nat)  (z : mm_S) : eX0_goOneYear_22 (n + 1) 25 z = (eX0_goOneYear_32 n  ((mm_ui z.1 25 12 ((z.1 25 12) + 1)), z.2)) := rfl
set_option maxRecDepth 100000 in
theorem qX0_goOneYear_32_25 (n : Nat)  (z : mm_S) : eX0_goOneYear_32 (n + 1)  z = (some (none, z)) := rfl
def rm_X0_goOneYear : Room := { frames := 3, cells := 0, slots := 0, locals := 65 }
def f_X0_goOneYear (as : List mm_V) (z : mm_S) (o : mm_R) : Prop := (as.map mm_cat).sum ≤ 2 ∧ ∃ n, go_X0_goOneYear n 0 (mm_ar 0 as) [] z = some o
theorem M_X0_goOneYear : mm_M lyTX lyFA lenX snX 46 48 17 roX rsA nfA nmA ssX yX0_goOneYear cX0_goOneYear 2 (none) rm_X0_goOneYear f_X0_goOneYear :=
  mm_met (rt := 3) (by decide +kernel) ⟨fun h => absurd h (by decide), fun h => absurd h (by decide), fun h => absurd h (by decide), fun h => rfl⟩ tbX0_goOneYear_ok hsnX okFX0 okLX0 okGX0 (fun _ _ _ _ => rfl) (fun _ _ _ _ => rfl) (List.forall_mem_cons.mpr ⟨sV_X1_put (Or.inl lk_X0_135) rfl ⟨by decide, by decide⟩, List.forall_mem_cons.mpr ⟨sV_X0_draw (Or.inl lk_X0_144) rfl ⟨by decide, by decide⟩, fun _ h => absurd h List.not_mem_nil⟩⟩) (fun _ h => absurd h List.not_mem_nil)
def tX0_goOneYear_32  (z : mm_S) : mm_S := z
theorem kX0_goOneYear_32 (n : Nat)  (z : mm_S) {o : Nat} (hk : mm_ok 46 lyTX 48 17 (mm_P 0 o)) : eX0_goOneYear_32 (n + 1)  z = some (none, tX0_goOneYear_32  z) := by
  rcases ok0 hk with rfl | rfl | rfl
  · exact (qX0_goOneYear_32_1 (n + 0)  z).trans rfl
  · exact (qX0_goOneYear_32_13 (n + 0)  z).trans rfl
  · exact (qX0_goOneYear_32_25 (n + 0)  z).trans rfl
def tX0_goOneYear_22 (o : Nat) (z : mm_S) : mm_S := (tX0_goOneYear_32  ((mm_ui z.1 o 12 ((z.1 o 12) + 1)), z.2))
theorem kX0_goOneYear_22 (n : Nat) (o : Nat) (z : mm_S) (hk : mm_ok 46 lyTX 48 17 (mm_P 0 o)) : eX0_goOneYear_22 (n + 2) o z = some (none, tX0_goOneYear_22 o z) := by
  rcases ok0 hk with rfl | rfl | rfl
  · exact (qX0_goOneYear_22_1 (n + 1)  z).trans (kX0_goOneYear_32 (n + 0)  ((mm_ui z.1 1 12 ((z.1 1 12) + 1)), z.2) hk)
  · exact (qX0_goOneYear_22_13 (n + 1)  z).trans (kX0_goOneYear_32 (n + 0)  ((mm_ui z.1 13 12 ((z.1 13 12) + 1)), z.2) hk)
  · exact (qX0_goOneYear_22_25 (n + 1)  z).trans (kX0_goOneYear_32 (n + 0)  ((mm_ui z.1 25 12 ((z.1 25 12) + 1)), z.2) hk)
def tX0_goOneYear_8 (o : Nat) (y1 : Int32) (z : mm_S) : mm_S := let u2 := (tX0_draw o z); let u3 := (tX1_put (o + 1) y1 (u2.1 - u2.1 / 5 * 5) u2.2); (tX0_goOneYear_22 o u3)
theorem kX0_goOneYear_8 (n : Nat) (o : Nat) (y1 : Int32) (z : mm_S) (hk : mm_ok 46 lyTX 48 17 (mm_P 0 o)) : eX0_goOneYear_8 (n + 3) o y1 z = some (none, tX0_goOneYear_8 o y1 z) := by
  rcases ok0 hk with rfl | rfl | rfl
  · exact (qX0_goOneYear_8_1 (n + 2) y1 z).trans (let u2 := (tX0_draw 1 z); (let u3 := (tX1_put (1 + 1) y1 (u2.1 - u2.1 / 5 * 5) u2.2); (kX0_goOneYear_22 (n + 0) 1 u3 hk)))
  · exact (qX0_goOneYear_8_13 (n + 2) y1 z).trans (let u2 := (tX0_draw 13 z); (let u3 := (tX1_put (13 + 1) y1 (u2.1 - u2.1 / 5 * 5) u2.2); (kX0_goOneYear_22 (n + 0) 13 u3 hk)))
  · exact (qX0_goOneYear_8_25 (n + 2) y1 z).trans (let u2 := (tX0_draw 25 z); (let u3 := (tX1_put (25 + 1) y1 (u2.1 - u2.1 / 5 * 5) u2.2); (kX0_goOneYear_22 (n + 0) 25 u3 hk)))
def tX0_goOneYear (o : Nat) (z : mm_S) : mm_S := let u1 := (tX0_draw o z); (tX0_goOneYear_8 o (u1.1 - u1.1 / 36 * 36) u1.2)
theorem kX0_goOneYear_0 (n : Nat) (o : Nat) (z : mm_S) (hk : mm_ok 46 lyTX 48 17 (mm_P 0 o)) : eX0_goOneYear_0 (n + 4) o z = some (none, tX0_goOneYear o z) := by
  rcases ok0 hk with rfl | rfl | rfl
  · exact (qX0_goOneYear_0_1 (n + 3)  z).trans (let u1 := (tX0_draw 1 z); (kX0_goOneYear_8 (n + 0) 1 (u1.1 - u1.1 / 36 * 36) u1.2 hk))
  · exact (qX0_goOneYear_0_13 (n + 3)  z).trans (let u1 := (tX0_draw 13 z); (kX0_goOneYear_8 (n + 0) 13 (u1.1 - u1.1 / 36 * 36) u1.2 hk))
  · exact (qX0_goOneYear_0_25 (n + 3)  z).trans (let u1 := (tX0_draw 25 z); (kX0_goOneYear_8 (n + 0) 25 (u1.1 - u1.1 / 36 * 36) u1.2 hk))
theorem sp_X0_goOneYear (o : Nat) (z : mm_S) (hk : ∀ v ∈ [mm_P 0 o], mm_ok 46 lyTX 48 17 v) : f_X0_goOneYear [mm_P 0 o] z (none, tX0_goOneYear o z) := ⟨Nat.le_of_ble_eq_true rfl, 0 + 4, kX0_goOneYear_0 0 o z (hk (mm_P 0 o) (by simp))⟩
def clo_X0_goOneYear (as : List mm_V) (z : mm_S) (kk : Option mm_V → mm_S → Option mm_R) : Option mm_R := mm_pr as fun t o0 as => bif Nat.beq t 0 then (match as with | [] => kk none (tX0_goOneYear o0 z) | _ => none) else none
theorem cs_X0_goOneYear : mm_cs lyTX 46 48 17 f_X0_goOneYear clo_X0_goOneYear := by
  intro as z K o hk h
  obtain ⟨t0, o0, r0, rfl, g0⟩ := mm_pr_e h
  obtain ⟨b0, k0⟩ := mm_bif_e g0
  obtain rfl := Nat.eq_of_beq_eq_true b0
  rcases r0 with _ | ⟨u, w⟩
  rotate_left
  · cases k0
  exact ⟨_, _, sp_X0_goOneYear o0 z hk, (fun v hv => by cases hv), k0⟩
theorem sV_X0_goOneYear {own : String} {R : Room} {ar : Nat → Nat} {k : Nat} (hlink : Cond.methodLink own k yX0_goOneYear ∈ lw_gd ∨ ∃ host, (own, k, yX0_goOneYear, host) ∈ nmA) (har : ar k = 1) (hr : 4 ≤ R.frames ∧ 86 ≤ R.locals) : mm_okV lyTX lyFA lenX snX 46 48 17 roX rsA nfA nmA ssX own R ar k clo_X0_goOneYear := by
  refine ⟨yX0_goOneYear, cX0_goOneYear, 2, none, rm_X0_goOneYear, f_X0_goOneYear, 0, 0, (RX0, TX0, 14), M_X0_goOneYear, cs_X0_goOneYear, hlink, ⟨wv_X0_goOneYear, wz_X0_goOneYear, wi_X0_goOneYear, wc_X0_goOneYear⟩, ⟨by decide +kernel, by decide +kernel, by decide +kernel⟩, har, ⟨rfl, rfl, by decide⟩, ?_, ⟨rfl, rfl, hr.1, hr.2⟩⟩
  intro as z K o h
  obtain ⟨t0, o0, r0, rfl, g0⟩ := mm_pr_e h
  obtain ⟨b0, k0⟩ := mm_bif_e g0
  obtain rfl := Nat.eq_of_beq_eq_true b0
  exact ⟨_, _, rfl⟩
-- X0_become
def lV_X0_become : List (Nat × (List mm_V → mm_S → (Option mm_V → mm_S → Option mm_R) → Option mm_R)) := [(53, clo_X1_becomeRock)]
def mV_X0_become (k : Nat) (as : List mm_V) (z : mm_S) (kk : Option mm_V → mm_S → Option mm_R) : Option mm_R := match mm_at lV_X0_become k with
  | some f => f as z kk
  | none => none
def arV_X0_become (k : Nat) : Nat := (mm_at [(53, 2)] k).getD 0
def lS_X0_become : List (Nat × (List mm_V → mm_S → (Option mm_V → mm_S → Option mm_R) → Option mm_R)) := [(57, clo_X3_copyRow)]
def mS_X0_become (k : Nat) (as : List mm_V) (z : mm_S) (kk : Option mm_V → mm_S → Option mm_R) : Option mm_R := match mm_at lS_X0_become k with
  | some f => f as z kk
  | none => none
def arS_X0_become (k : Nat) : Nat := (mm_at [(57, 2)] k).getD 0
def ct_X0_become : List (Nat × List Nat) := [(11, [0, 1]), (22, [0, 1]), (33, [0, 1]), (44, [0, 1]), (52, [0, 1]), (63, [0, 1]), (71, [0, 1]), (82, [0, 1]), (93, [0, 1]), (104, [0, 1]), (112, [0, 1]), (123, [0, 1]), (131, [0, 1]), (139, [])]
def go_X0_become : Nat → mm_K := mm_go (fun k => mm_at flX0 k) (fun k => mm_at clX0 k) (fun k => mm_at glX0 k) arV_X0_become arS_X0_become mV_X0_become mS_X0_become lenX roX snX 2 3 tbX0_become ct_X0_become
def eX0_become_0 (n : Nat) (o : Nat) (x1 : Nat) (z : mm_S) : Option mm_R := go_X0_become n 0 [(0, mm_P 0 o), (1, mm_P 0 x1)] [] z
def eX0_become_11 (n : Nat) (o : Nat) (y1 : Nat) (z : mm_S) : Option mm_R := go_X0_become n 11 [(0, mm_P 0 o), (1, mm_P 0 y1)] [] z
def eX0_become_22 (n : Nat) (o : Nat) (y1 : Nat) (z : mm_S) : Option mm_R := go_X0_become n 22 [(0, mm_P 0 o), (1, mm_P 0 y1)] [] z
def eX0_become_33 (n : Nat) (o : Nat) (y1 : Nat) (z : mm_S) : Option mm_R := go_X0_become n 33 [(0, mm_P 0 o), (1, mm_P 0 y1)] [] z
def eX0_become_44 (n : Nat) (o : Nat) (y1 : Nat) (z : mm_S) : Option mm_R := go_X0_become n 44 [(0, mm_P 0 o), (1, mm_P 0 y1)] [] z
def eX0_become_52 (n : Nat) (o : Nat) (y1 : Nat) (z : mm_S) : Option mm_R := go_X0_become n 52 [(0, mm_P 0 o), (1, mm_P 0 y1)] [] z
def eX0_become_63 (n : Nat) (o : Nat) (y1 : Nat) (z : mm_S) : Option mm_R := go_X0_become n 63 [(0, mm_P 0 o), (1, mm_P 0 y1)] [] z
def eX0_become_71 (n : Nat) (o : Nat) (y1 : Nat) (z : mm_S) : Option mm_R := go_X0_become n 71 [(0, mm_P 0 o), (1, mm_P 0 y1)] [] z
def eX0_become_82 (n : Nat) (o : Nat) (y1 : Nat) (z : mm_S) : Option mm_R := go_X0_become n 82 [(0, mm_P 0 o), (1, mm_P 0 y1)] [] z
def eX0_become_93 (n : Nat) (o : Nat) (y1 : Nat) (z : mm_S) : Option mm_R := go_X0_become n 93 [(0, mm_P 0 o), (1, mm_P 0 y1)] [] z
def eX0_become_104 (n : Nat) (o : Nat) (y1 : Nat) (z : mm_S) : Option mm_R := go_X0_become n 104 [(0, mm_P 0 o), (1, mm_P 0 y1)] [] z
def eX0_become_112 (n : Nat) (o : Nat) (y1 : Nat) (z : mm_S) : Option mm_R := go_X0_become n 112 [(0, mm_P 0 o), (1, mm_P 0 y1)] [] z
def eX0_become_123 (n : Nat) (o : Nat) (y1 : Nat) (z : mm_S) : Option mm_R := go_X0_become n 123 [(0, mm_P 0 o), (1, mm_P 0 y1)] [] z
def eX0_become_131 (n : Nat) (o : Nat) (y1 : Nat) (z : mm_S) : Option mm_R := go_X0_become n 131 [(0, mm_P 0 o), (1, mm_P 0 y1)] [] z
def eX0_become_139 (n : Nat)  (z : mm_S) : Option mm_R := go_X0_become n 139 [] [] z
set_option maxRecDepth 100000 in
theorem qX0_become_0_1 (n : Nat)  (x1 : Nat) (z : mm_S) : eX0_become_0 (n + 1) 1 x1 z = (let u1 := (tX1_becomeRock 2 (x1 + 1) z); eX0_become_11 n 1 x1 u1) := rfl
set_option maxRecDepth 100000 in
theorem qX0_become_11_1 (n : Nat)  (y1 : Nat) (z : mm_S) : eX0_become_11 (n + 1) 1 y1 z = (let u2 := (tX3_copyRow (y1 + 4) 5 z); eX0_become_22 n 1 y1 u2) := rfl
set_option maxRecDepth 100000 in
theorem qX0_become_22_1 (n : Nat)  (y1 : Nat) (z : mm_S) : eX0_become_22 (n + 1) 1 y1 z = (let u3 := (tX3_copyRow (y1 + 5) 6 z); eX0_become_33 n 1 y1 u3) := rfl
set_option maxRecDepth 100000 in
theorem qX0_become_33_1 (n : Nat)  (y1 : Nat) (z : mm_S) : eX0_become_33 (n + 1) 1 y1 z = (let u4 := (tX3_copyRow (y1 + 6) 7 z); eX0_become_44 n 1 y1 u4) := rfl
set_option maxRecDepth 100000 in
theorem qX0_become_44_1 (n : Nat)  (y1 : Nat) (z : mm_S) : eX0_become_44 (n + 1) 1 y1 z = (eX0_become_52 n 1 y1 ((mm_ui z.1 1 4 (z.1 y1 4)), z.2)) := rfl
set_option maxRecDepth 100000 in
theorem qX0_become_52_1 (n : Nat)  (y1 : Nat) (z : mm_S) : eX0_become_52 (n + 1) 1 y1 z = (let u5 := (tX3_copyRow (y1 + 7) 8 z); eX0_become_63 n 1 y1 u5) := rfl
set_option maxRecDepth 100000 in
theorem qX0_become_63_1 (n : Nat)  (y1 : Nat) (z : mm_S) : eX0_become_63 (n + 1) 1 y1 z = (eX0_become_71 n 1 y1 ((mm_ui z.1 1 6 (z.1 y1 6)), z.2)) := rfl
set_option maxRecDepth 100000 in
theorem qX0_become_71_1 (n : Nat)  (y1 : Nat) (z : mm_S) : eX0_become_71 (n + 1) 1 y1 z = (let u6 := (tX3_copyRow (y1 + 8) 9 z); eX0_become_82 n 1 y1 u6) := rfl
set_option maxRecDepth 100000 in
theorem qX0_become_82_1 (n : Nat)  (y1 : Nat) (z : mm_S) : eX0_become_82 (n + 1) 1 y1 z = (let u7 := (tX3_copyRow (y1 + 9) 10 z); eX0_become_93 n 1 y1 u7) := rfl
set_option maxRecDepth 100000 in
theorem qX0_become_93_1 (n : Nat)  (y1 : Nat) (z : mm_S) : eX0_become_93 (n + 1) 1 y1 z = (let u8 := (tX3_copyRow (y1 + 10) 11 z); eX0_become_104 n 1 y1 u8) := rfl
set_option maxRecDepth 100000 in
theorem qX0_become_104_1 (n : Nat)  (y1 : Nat) (z : mm_S) : eX0_become_104 (n + 1) 1 y1 z = (eX0_become_112 n 1 y1 ((mm_ui z.1 1 10 (z.1 y1 10)), z.2)) := rfl
set_option maxRecDepth 100000 in
theorem qX0_become_112_1 (n : Nat)  (y1 : Nat) (z : mm_S) : eX0_become_112 (n + 1) 1 y1 z = (let u9 := (tX3_copyRow (y1 + 11) 12 z); eX0_become_123 n 1 y1 u9) := rfl
set_option maxRecDepth 100000 in
theorem qX0_become_123_1 (n : Nat)  (y1 : Nat) (z : mm_S) : eX0_become_123 (n + 1) 1 y1 z = (eX0_become_131 n 1 y1 ((mm_ui z.1 1 12 (z.1 y1 12)), z.2)) := rfl
set_option maxRecDepth 100000 in
theorem qX0_become_131_1 (n : Nat)  (y1 : Nat) (z : mm_S) : eX0_become_131 (n + 1) 1 y1 z = (eX0_become_139 n  ((mm_ui z.1 1 13 (z.1 y1 13)), z.2)) := rfl
set_option maxRecDepth 100000 in
theorem qX0_become_139_1 (n : Nat)  (z : mm_S) : eX0_become_139 (n + 1)  z = (some (none, z)) := rfl
set_option maxRecDepth 100000 in
theorem qX0_become_0_13 (n : Nat)  (x1 : Nat) (z : mm_S) : eX0_become_0 (n + 1) 13 x1 z = (let u1 := (tX1_becomeRock 14 (x1 + 1) z); eX0_become_11 n 13 x1 u1) := rfl
set_option maxRecDepth 100000 in
theorem qX0_become_11_13 (n : Nat)  (y1 : Nat) (z : mm_S) : eX0_become_11 (n + 1) 13 y1 z = (let u2 := (tX3_copyRow (y1 + 4) 17 z); eX0_become_22 n 13 y1 u2) := rfl
set_option maxRecDepth 100000 in
theorem qX0_become_22_13 (n : Nat)  (y1 : Nat) (z : mm_S) : eX0_become_22 (n + 1) 13 y1 z = (let u3 := (tX3_copyRow (y1 + 5) 18 z); eX0_become_33 n 13 y1 u3) := rfl
set_option maxRecDepth 100000 in
theorem qX0_become_33_13 (n : Nat)  (y1 : Nat) (z : mm_S) : eX0_become_33 (n + 1) 13 y1 z = (let u4 := (tX3_copyRow (y1 + 6) 19 z); eX0_become_44 n 13 y1 u4) := rfl
set_option maxRecDepth 100000 in
theorem qX0_become_44_13 (n : Nat)  (y1 : Nat) (z : mm_S) : eX0_become_44 (n + 1) 13 y1 z = (eX0_become_52 n 13 y1 ((mm_ui z.1 13 4 (z.1 y1 4)), z.2)) := rfl
set_option maxRecDepth 100000 in
theorem qX0_become_52_13 (n : Nat)  (y1 : Nat) (z : mm_S) : eX0_become_52 (n + 1) 13 y1 z = (let u5 := (tX3_copyRow (y1 + 7) 20 z); eX0_become_63 n 13 y1 u5) := rfl
set_option maxRecDepth 100000 in
theorem qX0_become_63_13 (n : Nat)  (y1 : Nat) (z : mm_S) : eX0_become_63 (n + 1) 13 y1 z = (eX0_become_71 n 13 y1 ((mm_ui z.1 13 6 (z.1 y1 6)), z.2)) := rfl
set_option maxRecDepth 100000 in
theorem qX0_become_71_13 (n : Nat)  (y1 : Nat) (z : mm_S) : eX0_become_71 (n + 1) 13 y1 z = (let u6 := (tX3_copyRow (y1 + 8) 21 z); eX0_become_82 n 13 y1 u6) := rfl
set_option maxRecDepth 100000 in
theorem qX0_become_82_13 (n : Nat)  (y1 : Nat) (z : mm_S) : eX0_become_82 (n + 1) 13 y1 z = (let u7 := (tX3_copyRow (y1 + 9) 22 z); eX0_become_93 n 13 y1 u7) := rfl
set_option maxRecDepth 100000 in
theorem qX0_become_93_13 (n : Nat)  (y1 : Nat) (z : mm_S) : eX0_become_93 (n + 1) 13 y1 z = (let u8 := (tX3_copyRow (y1 + 10) 23 z); eX0_become_104 n 13 y1 u8) := rfl
set_option maxRecDepth 100000 in
theorem qX0_become_104_13 (n : Nat)  (y1 : Nat) (z : mm_S) : eX0_become_104 (n + 1) 13 y1 z = (eX0_become_112 n 13 y1 ((mm_ui z.1 13 10 (z.1 y1 10)), z.2)) := rfl
set_option maxRecDepth 100000 in
theorem qX0_become_112_13 (n : Nat)  (y1 : Nat) (z : mm_S) : eX0_become_112 (n + 1) 13 y1 z = (let u9 := (tX3_copyRow (y1 + 11) 24 z); eX0_become_123 n 13 y1 u9) := rfl
set_option maxRecDepth 100000 in
theorem qX0_become_123_13 (n : Nat)  (y1 : Nat) (z : mm_S) : eX0_become_123 (n + 1) 13 y1 z = (eX0_become_131 n 13 y1 ((mm_ui z.1 13 12 (z.1 y1 12)), z.2)) := rfl
set_option maxRecDepth 100000 in
theorem qX0_become_131_13 (n : Nat)  (y1 : Nat) (z : mm_S) : eX0_become_131 (n + 1) 13 y1 z = (eX0_become_139 n  ((mm_ui z.1 13 13 (z.1 y1 13)), z.2)) := rfl
set_option maxRecDepth 100000 in
theorem qX0_become_139_13 (n : Nat)  (z : mm_S) : eX0_become_139 (n + 1)  z = (some (none, z)) := rfl
set_option maxRecDepth 100000 in
theorem qX0_become_0_25 (n : Nat)  (x1 : Nat) (z : mm_S) : eX0_become_0 (n + 1) 25 x1 z = (let u1 := (tX1_becomeRock 26 (x1 + 1) z); eX0_become_11 n 25 x1 u1) := rfl
set_option maxRecDepth 100000 in
theorem qX0_become_11_25 (n : Nat)  (y1 : Nat) (z : mm_S) : eX0_become_11 (n + 1) 25 y1 z = (let u2 := (tX3_copyRow (y1 + 4) 29 z); eX0_become_22 n 25 y1 u2) := rfl
set_option maxRecDepth 100000 in
theorem qX0_become_22_25 (n : Nat)  (y1 : Nat) (z : mm_S) : eX0_become_22 (n + 1) 25 y1 z = (let u3 := (tX3_copyRow (y1 + 5) 30 z); eX0_become_33 n 25 y1 u3) := rfl
set_option maxRecDepth 100000 in
theorem qX0_become_33_25 (n : Nat)  (y1 : Nat) (z : mm_S) : eX0_become_33 (n + 1) 25 y1 z = (let u4 := (tX3_copyRow (y1 + 6) 31 z); eX0_become_44 n 25 y1 u4) := rfl
set_option maxRecDepth 100000 in
theorem qX0_become_44_25 (n : Nat)  (y1 : Nat) (z : mm_S) : eX0_become_44 (n + 1) 25 y1 z = (eX0_become_52 n 25 y1 ((mm_ui z.1 25 4 (z.1 y1 4)), z.2)) := rfl
set_option maxRecDepth 100000 in
theorem qX0_become_52_25 (n : Nat)  (y1 : Nat) (z : mm_S) : eX0_become_52 (n + 1) 25 y1 z = (let u5 := (tX3_copyRow (y1 + 7) 32 z); eX0_become_63 n 25 y1 u5) := rfl
set_option maxRecDepth 100000 in
theorem qX0_become_63_25 (n : Nat)  (y1 : Nat) (z : mm_S) : eX0_become_63 (n + 1) 25 y1 z = (eX0_become_71 n 25 y1 ((mm_ui z.1 25 6 (z.1 y1 6)), z.2)) := rfl
set_option maxRecDepth 100000 in
theorem qX0_become_71_25 (n : Nat)  (y1 : Nat) (z : mm_S) : eX0_become_71 (n + 1) 25 y1 z = (let u6 := (tX3_copyRow (y1 + 8) 33 z); eX0_become_82 n 25 y1 u6) := rfl
set_option maxRecDepth 100000 in
theorem qX0_become_82_25 (n : Nat)  (y1 : Nat) (z : mm_S) : eX0_become_82 (n + 1) 25 y1 z = (let u7 := (tX3_copyRow (y1 + 9) 34 z); eX0_become_93 n 25 y1 u7) := rfl
set_option maxRecDepth 100000 in
theorem qX0_become_93_25 (n : Nat)  (y1 : Nat) (z : mm_S) : eX0_become_93 (n + 1) 25 y1 z = (let u8 := (tX3_copyRow (y1 + 10) 35 z); eX0_become_104 n 25 y1 u8) := rfl
set_option maxRecDepth 100000 in
theorem qX0_become_104_25 (n : Nat)  (y1 : Nat) (z : mm_S) : eX0_become_104 (n + 1) 25 y1 z = (eX0_become_112 n 25 y1 ((mm_ui z.1 25 10 (z.1 y1 10)), z.2)) := rfl
set_option maxRecDepth 100000 in
theorem qX0_become_112_25 (n : Nat)  (y1 : Nat) (z : mm_S) : eX0_become_112 (n + 1) 25 y1 z = (let u9 := (tX3_copyRow (y1 + 11) 36 z); eX0_become_123 n 25 y1 u9) := rfl
set_option maxRecDepth 100000 in
theorem qX0_become_123_25 (n : Nat)  (y1 : Nat) (z : mm_S) : eX0_become_123 (n + 1) 25 y1 z = (eX0_become_131 n 25 y1 ((mm_ui z.1 25 12 (z.1 y1 12)), z.2)) := rfl
set_option maxRecDepth 100000 in
theorem qX0_become_131_25 (n : Nat)  (y1 : Nat) (z : mm_S) : eX0_become_131 (n + 1) 25 y1 z = (eX0_become_139 n  ((mm_ui z.1 25 13 (z.1 y1 13)), z.2)) := rfl
set_option maxRecDepth 100000 in
theorem qX0_become_139_25 (n : Nat)  (z : mm_S) : eX0_become_139 (n + 1)  z = (some (none, z)) := rfl
def rm_X0_become : Room := { frames := 2, cells := 0, slots := 0, locals := 47 }
def f_X0_become (as : List mm_V) (z : mm_S) (o : mm_R) : Prop := (as.map mm_cat).sum ≤ 2 ∧ ∃ n, go_X0_become n 0 (mm_ar 0 as) [] z = some o
theorem M_X0_become : mm_M lyTX lyFA lenX snX 46 48 17 roX rsA nfA nmA ssX yX0_become cX0_become 2 (none) rm_X0_become f_X0_become :=
  mm_met (rt := 3) (by decide +kernel) ⟨fun h => absurd h (by decide), fun h => absurd h (by decide), fun h => absurd h (by decide), fun h => rfl⟩ tbX0_become_ok hsnX okFX0 okLX0 okGX0 (fun _ _ _ _ => rfl) (fun _ _ _ _ => rfl) (List.forall_mem_cons.mpr ⟨sV_X1_becomeRock (Or.inl lk_X0_53) rfl ⟨by decide, by decide⟩, fun _ h => absurd h List.not_mem_nil⟩) (List.forall_mem_cons.mpr ⟨sS_X3_copyRow (Or.inr ⟨_, ln_X0_57⟩) rfl ⟨by decide, by decide⟩, fun _ h => absurd h List.not_mem_nil⟩)
def tX0_become_139  (z : mm_S) : mm_S := z
theorem kX0_become_139 (n : Nat)  (z : mm_S) {o : Nat} (hk : mm_ok 46 lyTX 48 17 (mm_P 0 o)) : eX0_become_139 (n + 1)  z = some (none, tX0_become_139  z) := by
  rcases ok0 hk with rfl | rfl | rfl
  · exact (qX0_become_139_1 (n + 0)  z).trans rfl
  · exact (qX0_become_139_13 (n + 0)  z).trans rfl
  · exact (qX0_become_139_25 (n + 0)  z).trans rfl
def tX0_become_131 (o : Nat) (y1 : Nat) (z : mm_S) : mm_S := (tX0_become_139  ((mm_ui z.1 o 13 (z.1 y1 13)), z.2))
theorem kX0_become_131 (n : Nat) (o : Nat) (y1 : Nat) (z : mm_S) (hk : mm_ok 46 lyTX 48 17 (mm_P 0 o)) : eX0_become_131 (n + 2) o y1 z = some (none, tX0_become_131 o y1 z) := by
  rcases ok0 hk with rfl | rfl | rfl
  · exact (qX0_become_131_1 (n + 1) y1 z).trans (kX0_become_139 (n + 0)  ((mm_ui z.1 1 13 (z.1 y1 13)), z.2) hk)
  · exact (qX0_become_131_13 (n + 1) y1 z).trans (kX0_become_139 (n + 0)  ((mm_ui z.1 13 13 (z.1 y1 13)), z.2) hk)
  · exact (qX0_become_131_25 (n + 1) y1 z).trans (kX0_become_139 (n + 0)  ((mm_ui z.1 25 13 (z.1 y1 13)), z.2) hk)
def tX0_become_123 (o : Nat) (y1 : Nat) (z : mm_S) : mm_S := (tX0_become_131 o y1 ((mm_ui z.1 o 12 (z.1 y1 12)), z.2))
theorem kX0_become_123 (n : Nat) (o : Nat) (y1 : Nat) (z : mm_S) (hk : mm_ok 46 lyTX 48 17 (mm_P 0 o)) : eX0_become_123 (n + 3) o y1 z = some (none, tX0_become_123 o y1 z) := by
  rcases ok0 hk with rfl | rfl | rfl
  · exact (qX0_become_123_1 (n + 2) y1 z).trans (kX0_become_131 (n + 0) 1 y1 ((mm_ui z.1 1 12 (z.1 y1 12)), z.2) hk)
  · exact (qX0_become_123_13 (n + 2) y1 z).trans (kX0_become_131 (n + 0) 13 y1 ((mm_ui z.1 13 12 (z.1 y1 12)), z.2) hk)
  · exact (qX0_become_123_25 (n + 2) y1 z).trans (kX0_become_131 (n + 0) 25 y1 ((mm_ui z.1 25 12 (z.1 y1 12)), z.2) hk)
def tX0_become_112 (o : Nat) (y1 : Nat) (z : mm_S) : mm_S := let u9 := (tX3_copyRow (y1 + 11) (o + 11) z); (tX0_become_123 o y1 u9)
theorem kX0_become_112 (n : Nat) (o : Nat) (y1 : Nat) (z : mm_S) (hk : mm_ok 46 lyTX 48 17 (mm_P 0 o)) : eX0_become_112 (n + 4) o y1 z = some (none, tX0_become_112 o y1 z) := by
  rcases ok0 hk with rfl | rfl | rfl
  · exact (qX0_become_112_1 (n + 3) y1 z).trans (let u9 := (tX3_copyRow (y1 + 11) (1 + 11) z); (kX0_become_123 (n + 0) 1 y1 u9 hk))
  · exact (qX0_become_112_13 (n + 3) y1 z).trans (let u9 := (tX3_copyRow (y1 + 11) (13 + 11) z); (kX0_become_123 (n + 0) 13 y1 u9 hk))
  · exact (qX0_become_112_25 (n + 3) y1 z).trans (let u9 := (tX3_copyRow (y1 + 11) (25 + 11) z); (kX0_become_123 (n + 0) 25 y1 u9 hk))
def tX0_become_104 (o : Nat) (y1 : Nat) (z : mm_S) : mm_S := (tX0_become_112 o y1 ((mm_ui z.1 o 10 (z.1 y1 10)), z.2))
theorem kX0_become_104 (n : Nat) (o : Nat) (y1 : Nat) (z : mm_S) (hk : mm_ok 46 lyTX 48 17 (mm_P 0 o)) : eX0_become_104 (n + 5) o y1 z = some (none, tX0_become_104 o y1 z) := by
  rcases ok0 hk with rfl | rfl | rfl
  · exact (qX0_become_104_1 (n + 4) y1 z).trans (kX0_become_112 (n + 0) 1 y1 ((mm_ui z.1 1 10 (z.1 y1 10)), z.2) hk)
  · exact (qX0_become_104_13 (n + 4) y1 z).trans (kX0_become_112 (n + 0) 13 y1 ((mm_ui z.1 13 10 (z.1 y1 10)), z.2) hk)
  · exact (qX0_become_104_25 (n + 4) y1 z).trans (kX0_become_112 (n + 0) 25 y1 ((mm_ui z.1 25 10 (z.1 y1 10)), z.2) hk)
def tX0_become_93 (o : Nat) (y1 : Nat) (z : mm_S) : mm_S := let u8 := (tX3_copyRow (y1 + 10) (o + 10) z); (tX0_become_104 o y1 u8)
theorem kX0_become_93 (n : Nat) (o : Nat) (y1 : Nat) (z : mm_S) (hk : mm_ok 46 lyTX 48 17 (mm_P 0 o)) : eX0_become_93 (n + 6) o y1 z = some (none, tX0_become_93 o y1 z) := by
  rcases ok0 hk with rfl | rfl | rfl
  · exact (qX0_become_93_1 (n + 5) y1 z).trans (let u8 := (tX3_copyRow (y1 + 10) (1 + 10) z); (kX0_become_104 (n + 0) 1 y1 u8 hk))
  · exact (qX0_become_93_13 (n + 5) y1 z).trans (let u8 := (tX3_copyRow (y1 + 10) (13 + 10) z); (kX0_become_104 (n + 0) 13 y1 u8 hk))
  · exact (qX0_become_93_25 (n + 5) y1 z).trans (let u8 := (tX3_copyRow (y1 + 10) (25 + 10) z); (kX0_become_104 (n + 0) 25 y1 u8 hk))
def tX0_become_82 (o : Nat) (y1 : Nat) (z : mm_S) : mm_S := let u7 := (tX3_copyRow (y1 + 9) (o + 9) z); (tX0_become_93 o y1 u7)
theorem kX0_become_82 (n : Nat) (o : Nat) (y1 : Nat) (z : mm_S) (hk : mm_ok 46 lyTX 48 17 (mm_P 0 o)) : eX0_become_82 (n + 7) o y1 z = some (none, tX0_become_82 o y1 z) := by
  rcases ok0 hk with rfl | rfl | rfl
  · exact (qX0_become_82_1 (n + 6) y1 z).trans (let u7 := (tX3_copyRow (y1 + 9) (1 + 9) z); (kX0_become_93 (n + 0) 1 y1 u7 hk))
  · exact (qX0_become_82_13 (n + 6) y1 z).trans (let u7 := (tX3_copyRow (y1 + 9) (13 + 9) z); (kX0_become_93 (n + 0) 13 y1 u7 hk))
  · exact (qX0_become_82_25 (n + 6) y1 z).trans (let u7 := (tX3_copyRow (y1 + 9) (25 + 9) z); (kX0_become_93 (n + 0) 25 y1 u7 hk))
def tX0_become_71 (o : Nat) (y1 : Nat) (z : mm_S) : mm_S := let u6 := (tX3_copyRow (y1 + 8) (o + 8) z); (tX0_become_82 o y1 u6)
theorem kX0_become_71 (n : Nat) (o : Nat) (y1 : Nat) (z : mm_S) (hk : mm_ok 46 lyTX 48 17 (mm_P 0 o)) : eX0_become_71 (n + 8) o y1 z = some (none, tX0_become_71 o y1 z) := by
  rcases ok0 hk with rfl | rfl | rfl
  · exact (qX0_become_71_1 (n + 7) y1 z).trans (let u6 := (tX3_copyRow (y1 + 8) (1 + 8) z); (kX0_become_82 (n + 0) 1 y1 u6 hk))
  · exact (qX0_become_71_13 (n + 7) y1 z).trans (let u6 := (tX3_copyRow (y1 + 8) (13 + 8) z); (kX0_become_82 (n + 0) 13 y1 u6 hk))
  · exact (qX0_become_71_25 (n + 7) y1 z).trans (let u6 := (tX3_copyRow (y1 + 8) (25 + 8) z); (kX0_become_82 (n + 0) 25 y1 u6 hk))
def tX0_become_63 (o : Nat) (y1 : Nat) (z : mm_S) : mm_S := (tX0_become_71 o y1 ((mm_ui z.1 o 6 (z.1 y1 6)), z.2))
theorem kX0_become_63 (n : Nat) (o : Nat) (y1 : Nat) (z : mm_S) (hk : mm_ok 46 lyTX 48 17 (mm_P 0 o)) : eX0_become_63 (n + 9) o y1 z = some (none, tX0_become_63 o y1 z) := by
  rcases ok0 hk with rfl | rfl | rfl
  · exact (qX0_become_63_1 (n + 8) y1 z).trans (kX0_become_71 (n + 0) 1 y1 ((mm_ui z.1 1 6 (z.1 y1 6)), z.2) hk)
  · exact (qX0_become_63_13 (n + 8) y1 z).trans (kX0_become_71 (n + 0) 13 y1 ((mm_ui z.1 13 6 (z.1 y1 6)), z.2) hk)
  · exact (qX0_become_63_25 (n + 8) y1 z).trans (kX0_become_71 (n + 0) 25 y1 ((mm_ui z.1 25 6 (z.1 y1 6)), z.2) hk)
def tX0_become_52 (o : Nat) (y1 : Nat) (z : mm_S) : mm_S := let u5 := (tX3_copyRow (y1 + 7) (o + 7) z); (tX0_become_63 o y1 u5)
theorem kX0_become_52 (n : Nat) (o : Nat) (y1 : Nat) (z : mm_S) (hk : mm_ok 46 lyTX 48 17 (mm_P 0 o)) : eX0_become_52 (n + 10) o y1 z = some (none, tX0_become_52 o y1 z) := by
  rcases ok0 hk with rfl | rfl | rfl
  · exact (qX0_become_52_1 (n + 9) y1 z).trans (let u5 := (tX3_copyRow (y1 + 7) (1 + 7) z); (kX0_become_63 (n + 0) 1 y1 u5 hk))
  · exact (qX0_become_52_13 (n + 9) y1 z).trans (let u5 := (tX3_copyRow (y1 + 7) (13 + 7) z); (kX0_become_63 (n + 0) 13 y1 u5 hk))
  · exact (qX0_become_52_25 (n + 9) y1 z).trans (let u5 := (tX3_copyRow (y1 + 7) (25 + 7) z); (kX0_become_63 (n + 0) 25 y1 u5 hk))
def tX0_become_44 (o : Nat) (y1 : Nat) (z : mm_S) : mm_S := (tX0_become_52 o y1 ((mm_ui z.1 o 4 (z.1 y1 4)), z.2))
theorem kX0_become_44 (n : Nat) (o : Nat) (y1 : Nat) (z : mm_S) (hk : mm_ok 46 lyTX 48 17 (mm_P 0 o)) : eX0_become_44 (n + 11) o y1 z = some (none, tX0_become_44 o y1 z) := by
  rcases ok0 hk with rfl | rfl | rfl
  · exact (qX0_become_44_1 (n + 10) y1 z).trans (kX0_become_52 (n + 0) 1 y1 ((mm_ui z.1 1 4 (z.1 y1 4)), z.2) hk)
  · exact (qX0_become_44_13 (n + 10) y1 z).trans (kX0_become_52 (n + 0) 13 y1 ((mm_ui z.1 13 4 (z.1 y1 4)), z.2) hk)
  · exact (qX0_become_44_25 (n + 10) y1 z).trans (kX0_become_52 (n + 0) 25 y1 ((mm_ui z.1 25 4 (z.1 y1 4)), z.2) hk)
def tX0_become_33 (o : Nat) (y1 : Nat) (z : mm_S) : mm_S := let u4 := (tX3_copyRow (y1 + 6) (o + 6) z); (tX0_become_44 o y1 u4)
theorem kX0_become_33 (n : Nat) (o : Nat) (y1 : Nat) (z : mm_S) (hk : mm_ok 46 lyTX 48 17 (mm_P 0 o)) : eX0_become_33 (n + 12) o y1 z = some (none, tX0_become_33 o y1 z) := by
  rcases ok0 hk with rfl | rfl | rfl
  · exact (qX0_become_33_1 (n + 11) y1 z).trans (let u4 := (tX3_copyRow (y1 + 6) (1 + 6) z); (kX0_become_44 (n + 0) 1 y1 u4 hk))
  · exact (qX0_become_33_13 (n + 11) y1 z).trans (let u4 := (tX3_copyRow (y1 + 6) (13 + 6) z); (kX0_become_44 (n + 0) 13 y1 u4 hk))
  · exact (qX0_become_33_25 (n + 11) y1 z).trans (let u4 := (tX3_copyRow (y1 + 6) (25 + 6) z); (kX0_become_44 (n + 0) 25 y1 u4 hk))
def tX0_become_22 (o : Nat) (y1 : Nat) (z : mm_S) : mm_S := let u3 := (tX3_copyRow (y1 + 5) (o + 5) z); (tX0_become_33 o y1 u3)
theorem kX0_become_22 (n : Nat) (o : Nat) (y1 : Nat) (z : mm_S) (hk : mm_ok 46 lyTX 48 17 (mm_P 0 o)) : eX0_become_22 (n + 13) o y1 z = some (none, tX0_become_22 o y1 z) := by
  rcases ok0 hk with rfl | rfl | rfl
  · exact (qX0_become_22_1 (n + 12) y1 z).trans (let u3 := (tX3_copyRow (y1 + 5) (1 + 5) z); (kX0_become_33 (n + 0) 1 y1 u3 hk))
  · exact (qX0_become_22_13 (n + 12) y1 z).trans (let u3 := (tX3_copyRow (y1 + 5) (13 + 5) z); (kX0_become_33 (n + 0) 13 y1 u3 hk))
  · exact (qX0_become_22_25 (n + 12) y1 z).trans (let u3 := (tX3_copyRow (y1 + 5) (25 + 5) z); (kX0_become_33 (n + 0) 25 y1 u3 hk))
def tX0_become_11 (o : Nat) (y1 : Nat) (z : mm_S) : mm_S := let u2 := (tX3_copyRow (y1 + 4) (o + 4) z); (tX0_become_22 o y1 u2)
theorem kX0_become_11 (n : Nat) (o : Nat) (y1 : Nat) (z : mm_S) (hk : mm_ok 46 lyTX 48 17 (mm_P 0 o)) : eX0_become_11 (n + 14) o y1 z = some (none, tX0_become_11 o y1 z) := by
  rcases ok0 hk with rfl | rfl | rfl
  · exact (qX0_become_11_1 (n + 13) y1 z).trans (let u2 := (tX3_copyRow (y1 + 4) (1 + 4) z); (kX0_become_22 (n + 0) 1 y1 u2 hk))
  · exact (qX0_become_11_13 (n + 13) y1 z).trans (let u2 := (tX3_copyRow (y1 + 4) (13 + 4) z); (kX0_become_22 (n + 0) 13 y1 u2 hk))
  · exact (qX0_become_11_25 (n + 13) y1 z).trans (let u2 := (tX3_copyRow (y1 + 4) (25 + 4) z); (kX0_become_22 (n + 0) 25 y1 u2 hk))
def tX0_become (o : Nat) (x1 : Nat) (z : mm_S) : mm_S := let u1 := (tX1_becomeRock (o + 1) (x1 + 1) z); (tX0_become_11 o x1 u1)
theorem kX0_become_0 (n : Nat) (o : Nat) (x1 : Nat) (z : mm_S) (hk : mm_ok 46 lyTX 48 17 (mm_P 0 o)) : eX0_become_0 (n + 15) o x1 z = some (none, tX0_become o x1 z) := by
  rcases ok0 hk with rfl | rfl | rfl
  · exact (qX0_become_0_1 (n + 14) x1 z).trans (let u1 := (tX1_becomeRock (1 + 1) (x1 + 1) z); (kX0_become_11 (n + 0) 1 x1 u1 hk))
  · exact (qX0_become_0_13 (n + 14) x1 z).trans (let u1 := (tX1_becomeRock (13 + 1) (x1 + 1) z); (kX0_become_11 (n + 0) 13 x1 u1 hk))
  · exact (qX0_become_0_25 (n + 14) x1 z).trans (let u1 := (tX1_becomeRock (25 + 1) (x1 + 1) z); (kX0_become_11 (n + 0) 25 x1 u1 hk))
theorem sp_X0_become (o : Nat) (x1 : Nat) (z : mm_S) (hk : ∀ v ∈ [mm_P 0 o, mm_P 0 x1], mm_ok 46 lyTX 48 17 v) : f_X0_become [mm_P 0 o, mm_P 0 x1] z (none, tX0_become o x1 z) := ⟨Nat.le_of_ble_eq_true rfl, 0 + 15, kX0_become_0 0 o x1 z (hk (mm_P 0 o) (by simp))⟩
def clo_X0_become (as : List mm_V) (z : mm_S) (kk : Option mm_V → mm_S → Option mm_R) : Option mm_R := mm_pr as fun t o0 as => bif Nat.beq t 0 then mm_pr as fun t o1 as => bif Nat.beq t 0 then (match as with | [] => kk none (tX0_become o0 o1 z) | _ => none) else none else none
theorem cs_X0_become : mm_cs lyTX 46 48 17 f_X0_become clo_X0_become := by
  intro as z K o hk h
  obtain ⟨t0, o0, r0, rfl, g0⟩ := mm_pr_e h
  obtain ⟨b0, k0⟩ := mm_bif_e g0
  obtain rfl := Nat.eq_of_beq_eq_true b0
  obtain ⟨t1, o1, r1, rfl, g1⟩ := mm_pr_e k0
  obtain ⟨b1, k1⟩ := mm_bif_e g1
  obtain rfl := Nat.eq_of_beq_eq_true b1
  rcases r1 with _ | ⟨u, w⟩
  rotate_left
  · cases k1
  exact ⟨_, _, sp_X0_become o0 o1 z hk, (fun v hv => by cases hv), k1⟩
theorem sV_X0_become {own : String} {R : Room} {ar : Nat → Nat} {k : Nat} (hlink : Cond.methodLink own k yX0_become ∈ lw_gd ∨ ∃ host, (own, k, yX0_become, host) ∈ nmA) (har : ar k = 2) (hr : 3 ≤ R.frames ∧ 68 ≤ R.locals) : mm_okV lyTX lyFA lenX snX 46 48 17 roX rsA nfA nmA ssX own R ar k clo_X0_become := by
  refine ⟨yX0_become, cX0_become, 2, none, rm_X0_become, f_X0_become, 0, 1, (RX0, TX0, 14), M_X0_become, cs_X0_become, hlink, ⟨wv_X0_become, wz_X0_become, wi_X0_become, wc_X0_become⟩, ⟨by decide +kernel, by decide +kernel, by decide +kernel⟩, har, ⟨rfl, rfl, by decide⟩, ?_, ⟨rfl, rfl, hr.1, hr.2⟩⟩
  intro as z K o h
  obtain ⟨t0, o0, r0, rfl, g0⟩ := mm_pr_e h
  obtain ⟨b0, k0⟩ := mm_bif_e g0
  obtain rfl := Nat.eq_of_beq_eq_true b0
  exact ⟨_, _, rfl⟩
