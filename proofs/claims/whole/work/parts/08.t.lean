theorem hsnX : ∀ k j, k < 46 → lyTX k = 13 → j < lenX k → snX k j < 17 := fun k j _ _ _ => by unfold snX; decide
theorem hsnM : ∀ k j, k < 22 → lyTM k = 13 → j < lenM k → snM k j < 17 := by
  intro k j h1 h2 h3
  have key : ∀ k, k < 22 → lyTM k = 13 → (k = 14 ∧ lenM k = 7) ∨ (k = 15 ∧ lenM k = 5) := by decide +kernel
  unfold snM
  rcases key k h1 h2 with ⟨h, h4⟩ | ⟨h, h4⟩
  · rw [if_pos h]; omega
  · rw [if_neg (by omega)]; omega
theorem mm_if {α β : Type} {c : Prop} [Decidable c] (f : α → β) {a b : α} {x y : β} (h1 : x = f a) (h2 : y = f b) : (if c then x else y) = f (if c then a else b) := by
  by_cases h : c
  · rw [if_pos h, if_pos h]; exact h1
  · rw [if_neg h, if_neg h]; exact h2
theorem mm_i01 {c : Prop} [Decidable c] {a b : Int32} (h1 : a = 0 ∨ a = 1) (h2 : b = 0 ∨ b = 1) : (if c then a else b) = 0 ∨ (if c then a else b) = 1 := by
  by_cases h : c
  · rw [if_pos h]; exact h1
  · rw [if_neg h]; exact h2
theorem mm_rt1 {v : Int32} (z : mm_S) (h : v = 0 ∨ v = 1) : mm_rt 1 v z = some (some (mm_I v), z) := by
  rcases h with rfl | rfl <;> rfl

-- X3_lies
def lV_X3_lies : List (Nat × (List mm_V → mm_S → (Option mm_V → mm_S → Option mm_R) → Option mm_R)) := []
def mV_X3_lies (k : Nat) (as : List mm_V) (z : mm_S) (kk : Option mm_V → mm_S → Option mm_R) : Option mm_R := match mm_at lV_X3_lies k with
  | some f => f as z kk
  | none => none
def arV_X3_lies (k : Nat) : Nat := (mm_at [] k).getD 0
def lS_X3_lies : List (Nat × (List mm_V → mm_S → (Option mm_V → mm_S → Option mm_R) → Option mm_R)) := []
def mS_X3_lies (k : Nat) (as : List mm_V) (z : mm_S) (kk : Option mm_V → mm_S → Option mm_R) : Option mm_R := match mm_at lS_X3_lies k with
  | some f => f as z kk
  | none => none
def arS_X3_lies (k : Nat) : Nat := (mm_at [] k).getD 0
def ct_X3_lies : List (Nat × List Nat) := []
def go_X3_lies : Nat → mm_K := mm_go (fun k => mm_at flX3 k) (fun k => mm_at clX3 k) (fun k => mm_at glX3 k) arV_X3_lies arS_X3_lies mV_X3_lies mS_X3_lies lenX roX snX 3 1 tbX3_lies ct_X3_lies
def eX3_lies_0 (n : Nat) (x1 : Int32) (x2 : Int32) (x3 : Int32) (z : mm_S) : Option mm_R := go_X3_lies n 0 [(0, mm_I x1), (1, mm_I x2), (2, mm_I x3)] [] z
set_option maxRecDepth 100000 in
theorem qX3_lies_0 (n : Nat) (x1 : Int32) (x2 : Int32) (x3 : Int32) (z : mm_S) : eX3_lies_0 (n + 1) x1 x2 x3 z = (if x1 < x2 then some (some (mm_I 0), z) else if x3 < x1 then some (some (mm_I 0), z) else some (some (mm_I 1), z)) := rfl
def rm_X3_lies : Room := { frames := 0, cells := 0, slots := 0, locals := 0 }
def f_X3_lies (as : List mm_V) (z : mm_S) (o : mm_R) : Prop := (as.map mm_cat).sum ≤ 3 ∧ ∃ n, go_X3_lies n 0 (mm_ar 0 as) [] z = some o
theorem M_X3_lies : mm_M lyTX lyFA lenX snX 46 48 17 roX rsA nfA nmA ssX yX3_lies cX3_lies 3 (some .boolean) rm_X3_lies f_X3_lies :=
  mm_met (rt := 1) (by decide +kernel) ⟨fun h => absurd h (by decide), fun h => rfl, fun h => absurd h (by decide), fun h => absurd h (by decide)⟩ tbX3_lies_ok hsnX okFX3 okLX3 okGX3 (fun _ _ _ _ => rfl) (fun _ _ _ _ => rfl) (fun _ h => absurd h List.not_mem_nil) (fun _ h => absurd h List.not_mem_nil)
def pX3_lies (x1 : Int32) (x2 : Int32) (x3 : Int32) : Int32 := if x1 < x2 then 0 else if x3 < x1 then 0 else 1
theorem z1_X3_lies (x1 : Int32) (x2 : Int32) (x3 : Int32) : pX3_lies x1 x2 x3 = 0 ∨ pX3_lies x1 x2 x3 = 1 := (mm_i01 (Or.inl rfl) (mm_i01 (Or.inl rfl) (Or.inr rfl)))
theorem sp_X3_lies (x1 : Int32) (x2 : Int32) (x3 : Int32) (z : mm_S) : f_X3_lies [mm_I x1, mm_I x2, mm_I x3] z (some (mm_I (pX3_lies x1 x2 x3)), z) := ⟨Nat.le_of_ble_eq_true rfl, 1, (qX3_lies_0 0 x1 x2 x3 z).trans (mm_if (fun v => some (some (mm_I v), z)) rfl (mm_if (fun v => some (some (mm_I v), z)) rfl rfl))⟩
def clo_X3_lies (as : List mm_V) (z : mm_S) (kk : Option mm_V → mm_S → Option mm_R) : Option mm_R := mm_pi as fun a0 as => mm_pi as fun a1 as => mm_pi as fun a2 as => (match as with | [] => kk (some (mm_I (pX3_lies a0 a1 a2))) z | _ => none)
theorem cs_X3_lies : mm_cs f_X3_lies clo_X3_lies := by
  intro as z K o h
  obtain ⟨a0, r0, rfl, g0⟩ := mm_pi_e h
  obtain ⟨a1, r1, rfl, g1⟩ := mm_pi_e g0
  obtain ⟨a2, r2, rfl, g2⟩ := mm_pi_e g1
  rcases r2 with _ | ⟨u, w⟩
  rotate_left
  · cases g2
  exact ⟨_, _, sp_X3_lies a0 a1 a2 z, fun v hv => by cases hv; exact Or.inl ⟨_, rfl⟩, g2⟩
theorem sS_X3_lies {own : String} {R : Room} {ar : Nat → Nat} {k : Nat} (hlink : Cond.methodLink own k yX3_lies ∈ lw_gd ∨ ∃ host, (own, k, yX3_lies, host) ∈ nmA) (har : ar k = 3) (hr : 1 ≤ R.frames ∧ 22 ≤ R.locals) : mm_okS lyTX lyFA lenX snX 46 48 17 roX rsA nfA nmA ssX own R ar k clo_X3_lies :=
  Or.inl ⟨yX3_lies, cX3_lies, 3, some .boolean, rm_X3_lies, f_X3_lies, M_X3_lies, cs_X3_lies, hlink, ⟨ws_X3_lies, wi_X3_lies, wc_X3_lies⟩, ⟨by decide +kernel, by decide +kernel, by rw [har]; decide +kernel⟩, ⟨rfl, rfl, hr.1, hr.2⟩⟩
-- X3_isCell
def lV_X3_isCell : List (Nat × (List mm_V → mm_S → (Option mm_V → mm_S → Option mm_R) → Option mm_R)) := []
def mV_X3_isCell (k : Nat) (as : List mm_V) (z : mm_S) (kk : Option mm_V → mm_S → Option mm_R) : Option mm_R := match mm_at lV_X3_isCell k with
  | some f => f as z kk
  | none => none
def arV_X3_isCell (k : Nat) : Nat := (mm_at [] k).getD 0
def lS_X3_isCell : List (Nat × (List mm_V → mm_S → (Option mm_V → mm_S → Option mm_R) → Option mm_R)) := [(118, clo_X3_lies)]
def mS_X3_isCell (k : Nat) (as : List mm_V) (z : mm_S) (kk : Option mm_V → mm_S → Option mm_R) : Option mm_R := match mm_at lS_X3_isCell k with
  | some f => f as z kk
  | none => none
def arS_X3_isCell (k : Nat) : Nat := (mm_at [(118, 3)] k).getD 0
def ct_X3_isCell : List (Nat × List Nat) := []
def go_X3_isCell : Nat → mm_K := mm_go (fun k => mm_at flX3 k) (fun k => mm_at clX3 k) (fun k => mm_at glX3 k) arV_X3_isCell arS_X3_isCell mV_X3_isCell mS_X3_isCell lenX roX snX 1 1 tbX3_isCell ct_X3_isCell
def eX3_isCell_0 (n : Nat) (x1 : Int32) (z : mm_S) : Option mm_R := go_X3_isCell n 0 [(0, mm_I x1)] [] z
set_option maxRecDepth 100000 in
theorem qX3_isCell_0 (n : Nat) (x1 : Int32) (z : mm_S) : eX3_isCell_0 (n + 1) x1 z = (mm_rt 1 (pX3_lies x1 0 35) z) := rfl
def rm_X3_isCell : Room := { frames := 1, cells := 0, slots := 0, locals := 22 }
def f_X3_isCell (as : List mm_V) (z : mm_S) (o : mm_R) : Prop := (as.map mm_cat).sum ≤ 1 ∧ ∃ n, go_X3_isCell n 0 (mm_ar 0 as) [] z = some o
theorem M_X3_isCell : mm_M lyTX lyFA lenX snX 46 48 17 roX rsA nfA nmA ssX yX3_isCell cX3_isCell 1 (some .boolean) rm_X3_isCell f_X3_isCell :=
  mm_met (rt := 1) (by decide +kernel) ⟨fun h => absurd h (by decide), fun h => rfl, fun h => absurd h (by decide), fun h => absurd h (by decide)⟩ tbX3_isCell_ok hsnX okFX3 okLX3 okGX3 (fun _ _ _ _ => rfl) (fun _ _ _ _ => rfl) (fun _ h => absurd h List.not_mem_nil) (List.forall_mem_cons.mpr ⟨sS_X3_lies (Or.inl lk_X3_118) rfl ⟨by decide, by decide⟩, fun _ h => absurd h List.not_mem_nil⟩)
def pX3_isCell (x1 : Int32) : Int32 := (pX3_lies x1 0 35)
theorem z1_X3_isCell (x1 : Int32) : pX3_isCell x1 = 0 ∨ pX3_isCell x1 = 1 := (z1_X3_lies x1 0 35)
theorem sp_X3_isCell (x1 : Int32) (z : mm_S) : f_X3_isCell [mm_I x1] z (some (mm_I (pX3_isCell x1)), z) := ⟨Nat.le_of_ble_eq_true rfl, 1, (qX3_isCell_0 0 x1 z).trans (mm_rt1 z (z1_X3_lies x1 0 35))⟩
def clo_X3_isCell (as : List mm_V) (z : mm_S) (kk : Option mm_V → mm_S → Option mm_R) : Option mm_R := mm_pi as fun a0 as => (match as with | [] => kk (some (mm_I (pX3_isCell a0))) z | _ => none)
theorem cs_X3_isCell : mm_cs f_X3_isCell clo_X3_isCell := by
  intro as z K o h
  obtain ⟨a0, r0, rfl, g0⟩ := mm_pi_e h
  rcases r0 with _ | ⟨u, w⟩
  rotate_left
  · cases g0
  exact ⟨_, _, sp_X3_isCell a0 z, fun v hv => by cases hv; exact Or.inl ⟨_, rfl⟩, g0⟩
theorem sS_X3_isCell {own : String} {R : Room} {ar : Nat → Nat} {k : Nat} (hlink : Cond.methodLink own k yX3_isCell ∈ lw_gd ∨ ∃ host, (own, k, yX3_isCell, host) ∈ nmA) (har : ar k = 1) (hr : 2 ≤ R.frames ∧ 42 ≤ R.locals) : mm_okS lyTX lyFA lenX snX 46 48 17 roX rsA nfA nmA ssX own R ar k clo_X3_isCell :=
  Or.inl ⟨yX3_isCell, cX3_isCell, 1, some .boolean, rm_X3_isCell, f_X3_isCell, M_X3_isCell, cs_X3_isCell, hlink, ⟨ws_X3_isCell, wi_X3_isCell, wc_X3_isCell⟩, ⟨by decide +kernel, by decide +kernel, by rw [har]; decide +kernel⟩, ⟨rfl, rfl, hr.1, hr.2⟩⟩
-- X3_isStuff
def lV_X3_isStuff : List (Nat × (List mm_V → mm_S → (Option mm_V → mm_S → Option mm_R) → Option mm_R)) := []
def mV_X3_isStuff (k : Nat) (as : List mm_V) (z : mm_S) (kk : Option mm_V → mm_S → Option mm_R) : Option mm_R := match mm_at lV_X3_isStuff k with
  | some f => f as z kk
  | none => none
def arV_X3_isStuff (k : Nat) : Nat := (mm_at [] k).getD 0
def lS_X3_isStuff : List (Nat × (List mm_V → mm_S → (Option mm_V → mm_S → Option mm_R) → Option mm_R)) := [(118, clo_X3_lies)]
def mS_X3_isStuff (k : Nat) (as : List mm_V) (z : mm_S) (kk : Option mm_V → mm_S → Option mm_R) : Option mm_R := match mm_at lS_X3_isStuff k with
  | some f => f as z kk
  | none => none
def arS_X3_isStuff (k : Nat) : Nat := (mm_at [(118, 3)] k).getD 0
def ct_X3_isStuff : List (Nat × List Nat) := []
def go_X3_isStuff : Nat → mm_K := mm_go (fun k => mm_at flX3 k) (fun k => mm_at clX3 k) (fun k => mm_at glX3 k) arV_X3_isStuff arS_X3_isStuff mV_X3_isStuff mS_X3_isStuff lenX roX snX 1 1 tbX3_isStuff ct_X3_isStuff
def eX3_isStuff_0 (n : Nat) (x1 : Int32) (z : mm_S) : Option mm_R := go_X3_isStuff n 0 [(0, mm_I x1)] [] z
set_option maxRecDepth 100000 in
theorem qX3_isStuff_0 (n : Nat) (x1 : Int32) (z : mm_S) : eX3_isStuff_0 (n + 1) x1 z = (mm_rt 1 (pX3_lies x1 0 4) z) := rfl
def rm_X3_isStuff : Room := { frames := 1, cells := 0, slots := 0, locals := 22 }
def f_X3_isStuff (as : List mm_V) (z : mm_S) (o : mm_R) : Prop := (as.map mm_cat).sum ≤ 1 ∧ ∃ n, go_X3_isStuff n 0 (mm_ar 0 as) [] z = some o
theorem M_X3_isStuff : mm_M lyTX lyFA lenX snX 46 48 17 roX rsA nfA nmA ssX yX3_isStuff cX3_isStuff 1 (some .boolean) rm_X3_isStuff f_X3_isStuff :=
  mm_met (rt := 1) (by decide +kernel) ⟨fun h => absurd h (by decide), fun h => rfl, fun h => absurd h (by decide), fun h => absurd h (by decide)⟩ tbX3_isStuff_ok hsnX okFX3 okLX3 okGX3 (fun _ _ _ _ => rfl) (fun _ _ _ _ => rfl) (fun _ h => absurd h List.not_mem_nil) (List.forall_mem_cons.mpr ⟨sS_X3_lies (Or.inl lk_X3_118) rfl ⟨by decide, by decide⟩, fun _ h => absurd h List.not_mem_nil⟩)
def pX3_isStuff (x1 : Int32) : Int32 := (pX3_lies x1 0 4)
theorem z1_X3_isStuff (x1 : Int32) : pX3_isStuff x1 = 0 ∨ pX3_isStuff x1 = 1 := (z1_X3_lies x1 0 4)
theorem sp_X3_isStuff (x1 : Int32) (z : mm_S) : f_X3_isStuff [mm_I x1] z (some (mm_I (pX3_isStuff x1)), z) := ⟨Nat.le_of_ble_eq_true rfl, 1, (qX3_isStuff_0 0 x1 z).trans (mm_rt1 z (z1_X3_lies x1 0 4))⟩
def clo_X3_isStuff (as : List mm_V) (z : mm_S) (kk : Option mm_V → mm_S → Option mm_R) : Option mm_R := mm_pi as fun a0 as => (match as with | [] => kk (some (mm_I (pX3_isStuff a0))) z | _ => none)
theorem cs_X3_isStuff : mm_cs f_X3_isStuff clo_X3_isStuff := by
  intro as z K o h
  obtain ⟨a0, r0, rfl, g0⟩ := mm_pi_e h
  rcases r0 with _ | ⟨u, w⟩
  rotate_left
  · cases g0
  exact ⟨_, _, sp_X3_isStuff a0 z, fun v hv => by cases hv; exact Or.inl ⟨_, rfl⟩, g0⟩
theorem sS_X3_isStuff {own : String} {R : Room} {ar : Nat → Nat} {k : Nat} (hlink : Cond.methodLink own k yX3_isStuff ∈ lw_gd ∨ ∃ host, (own, k, yX3_isStuff, host) ∈ nmA) (har : ar k = 1) (hr : 2 ≤ R.frames ∧ 42 ≤ R.locals) : mm_okS lyTX lyFA lenX snX 46 48 17 roX rsA nfA nmA ssX own R ar k clo_X3_isStuff :=
  Or.inl ⟨yX3_isStuff, cX3_isStuff, 1, some .boolean, rm_X3_isStuff, f_X3_isStuff, M_X3_isStuff, cs_X3_isStuff, hlink, ⟨ws_X3_isStuff, wi_X3_isStuff, wc_X3_isStuff⟩, ⟨by decide +kernel, by decide +kernel, by rw [har]; decide +kernel⟩, ⟨rfl, rfl, hr.1, hr.2⟩⟩
-- X3_isKind
def lV_X3_isKind : List (Nat × (List mm_V → mm_S → (Option mm_V → mm_S → Option mm_R) → Option mm_R)) := []
def mV_X3_isKind (k : Nat) (as : List mm_V) (z : mm_S) (kk : Option mm_V → mm_S → Option mm_R) : Option mm_R := match mm_at lV_X3_isKind k with
  | some f => f as z kk
  | none => none
def arV_X3_isKind (k : Nat) : Nat := (mm_at [] k).getD 0
def lS_X3_isKind : List (Nat × (List mm_V → mm_S → (Option mm_V → mm_S → Option mm_R) → Option mm_R)) := [(118, clo_X3_lies)]
def mS_X3_isKind (k : Nat) (as : List mm_V) (z : mm_S) (kk : Option mm_V → mm_S → Option mm_R) : Option mm_R := match mm_at lS_X3_isKind k with
  | some f => f as z kk
  | none => none
def arS_X3_isKind (k : Nat) : Nat := (mm_at [(118, 3)] k).getD 0
def ct_X3_isKind : List (Nat × List Nat) := []
def go_X3_isKind : Nat → mm_K := mm_go (fun k => mm_at flX3 k) (fun k => mm_at clX3 k) (fun k => mm_at glX3 k) arV_X3_isKind arS_X3_isKind mV_X3_isKind mS_X3_isKind lenX roX snX 1 1 tbX3_isKind ct_X3_isKind
def eX3_isKind_0 (n : Nat) (x1 : Int32) (z : mm_S) : Option mm_R := go_X3_isKind n 0 [(0, mm_I x1)] [] z
set_option maxRecDepth 100000 in
theorem qX3_isKind_0 (n : Nat) (x1 : Int32) (z : mm_S) : eX3_isKind_0 (n + 1) x1 z = (mm_rt 1 (pX3_lies x1 0 6) z) := rfl
def rm_X3_isKind : Room := { frames := 1, cells := 0, slots := 0, locals := 22 }
def f_X3_isKind (as : List mm_V) (z : mm_S) (o : mm_R) : Prop := (as.map mm_cat).sum ≤ 1 ∧ ∃ n, go_X3_isKind n 0 (mm_ar 0 as) [] z = some o
theorem M_X3_isKind : mm_M lyTX lyFA lenX snX 46 48 17 roX rsA nfA nmA ssX yX3_isKind cX3_isKind 1 (some .boolean) rm_X3_isKind f_X3_isKind :=
  mm_met (rt := 1) (by decide +kernel) ⟨fun h => absurd h (by decide), fun h => rfl, fun h => absurd h (by decide), fun h => absurd h (by decide)⟩ tbX3_isKind_ok hsnX okFX3 okLX3 okGX3 (fun _ _ _ _ => rfl) (fun _ _ _ _ => rfl) (fun _ h => absurd h List.not_mem_nil) (List.forall_mem_cons.mpr ⟨sS_X3_lies (Or.inl lk_X3_118) rfl ⟨by decide, by decide⟩, fun _ h => absurd h List.not_mem_nil⟩)
def pX3_isKind (x1 : Int32) : Int32 := (pX3_lies x1 0 6)
theorem z1_X3_isKind (x1 : Int32) : pX3_isKind x1 = 0 ∨ pX3_isKind x1 = 1 := (z1_X3_lies x1 0 6)
theorem sp_X3_isKind (x1 : Int32) (z : mm_S) : f_X3_isKind [mm_I x1] z (some (mm_I (pX3_isKind x1)), z) := ⟨Nat.le_of_ble_eq_true rfl, 1, (qX3_isKind_0 0 x1 z).trans (mm_rt1 z (z1_X3_lies x1 0 6))⟩
def clo_X3_isKind (as : List mm_V) (z : mm_S) (kk : Option mm_V → mm_S → Option mm_R) : Option mm_R := mm_pi as fun a0 as => (match as with | [] => kk (some (mm_I (pX3_isKind a0))) z | _ => none)
theorem cs_X3_isKind : mm_cs f_X3_isKind clo_X3_isKind := by
  intro as z K o h
  obtain ⟨a0, r0, rfl, g0⟩ := mm_pi_e h
  rcases r0 with _ | ⟨u, w⟩
  rotate_left
  · cases g0
  exact ⟨_, _, sp_X3_isKind a0 z, fun v hv => by cases hv; exact Or.inl ⟨_, rfl⟩, g0⟩
theorem sS_X3_isKind {own : String} {R : Room} {ar : Nat → Nat} {k : Nat} (hlink : Cond.methodLink own k yX3_isKind ∈ lw_gd ∨ ∃ host, (own, k, yX3_isKind, host) ∈ nmA) (har : ar k = 1) (hr : 2 ≤ R.frames ∧ 42 ≤ R.locals) : mm_okS lyTX lyFA lenX snX 46 48 17 roX rsA nfA nmA ssX own R ar k clo_X3_isKind :=
  Or.inl ⟨yX3_isKind, cX3_isKind, 1, some .boolean, rm_X3_isKind, f_X3_isKind, M_X3_isKind, cs_X3_isKind, hlink, ⟨ws_X3_isKind, wi_X3_isKind, wc_X3_isKind⟩, ⟨by decide +kernel, by decide +kernel, by rw [har]; decide +kernel⟩, ⟨rfl, rfl, hr.1, hr.2⟩⟩
-- X3_isSpot
def lV_X3_isSpot : List (Nat × (List mm_V → mm_S → (Option mm_V → mm_S → Option mm_R) → Option mm_R)) := []
def mV_X3_isSpot (k : Nat) (as : List mm_V) (z : mm_S) (kk : Option mm_V → mm_S → Option mm_R) : Option mm_R := match mm_at lV_X3_isSpot k with
  | some f => f as z kk
  | none => none
def arV_X3_isSpot (k : Nat) : Nat := (mm_at [] k).getD 0
def lS_X3_isSpot : List (Nat × (List mm_V → mm_S → (Option mm_V → mm_S → Option mm_R) → Option mm_R)) := [(118, clo_X3_lies)]
def mS_X3_isSpot (k : Nat) (as : List mm_V) (z : mm_S) (kk : Option mm_V → mm_S → Option mm_R) : Option mm_R := match mm_at lS_X3_isSpot k with
  | some f => f as z kk
  | none => none
def arS_X3_isSpot (k : Nat) : Nat := (mm_at [(118, 3)] k).getD 0
def ct_X3_isSpot : List (Nat × List Nat) := []
def go_X3_isSpot : Nat → mm_K := mm_go (fun k => mm_at flX3 k) (fun k => mm_at clX3 k) (fun k => mm_at glX3 k) arV_X3_isSpot arS_X3_isSpot mV_X3_isSpot mS_X3_isSpot lenX roX snX 1 1 tbX3_isSpot ct_X3_isSpot
def eX3_isSpot_0 (n : Nat) (x1 : Int32) (z : mm_S) : Option mm_R := go_X3_isSpot n 0 [(0, mm_I x1)] [] z
set_option maxRecDepth 100000 in
theorem qX3_isSpot_0 (n : Nat) (x1 : Int32) (z : mm_S) : eX3_isSpot_0 (n + 1) x1 z = (mm_rt 1 (pX3_lies x1 0 9) z) := rfl
def rm_X3_isSpot : Room := { frames := 1, cells := 0, slots := 0, locals := 22 }
def f_X3_isSpot (as : List mm_V) (z : mm_S) (o : mm_R) : Prop := (as.map mm_cat).sum ≤ 1 ∧ ∃ n, go_X3_isSpot n 0 (mm_ar 0 as) [] z = some o
theorem M_X3_isSpot : mm_M lyTX lyFA lenX snX 46 48 17 roX rsA nfA nmA ssX yX3_isSpot cX3_isSpot 1 (some .boolean) rm_X3_isSpot f_X3_isSpot :=
  mm_met (rt := 1) (by decide +kernel) ⟨fun h => absurd h (by decide), fun h => rfl, fun h => absurd h (by decide), fun h => absurd h (by decide)⟩ tbX3_isSpot_ok hsnX okFX3 okLX3 okGX3 (fun _ _ _ _ => rfl) (fun _ _ _ _ => rfl) (fun _ h => absurd h List.not_mem_nil) (List.forall_mem_cons.mpr ⟨sS_X3_lies (Or.inl lk_X3_118) rfl ⟨by decide, by decide⟩, fun _ h => absurd h List.not_mem_nil⟩)
def pX3_isSpot (x1 : Int32) : Int32 := (pX3_lies x1 0 9)
theorem z1_X3_isSpot (x1 : Int32) : pX3_isSpot x1 = 0 ∨ pX3_isSpot x1 = 1 := (z1_X3_lies x1 0 9)
theorem sp_X3_isSpot (x1 : Int32) (z : mm_S) : f_X3_isSpot [mm_I x1] z (some (mm_I (pX3_isSpot x1)), z) := ⟨Nat.le_of_ble_eq_true rfl, 1, (qX3_isSpot_0 0 x1 z).trans (mm_rt1 z (z1_X3_lies x1 0 9))⟩
def clo_X3_isSpot (as : List mm_V) (z : mm_S) (kk : Option mm_V → mm_S → Option mm_R) : Option mm_R := mm_pi as fun a0 as => (match as with | [] => kk (some (mm_I (pX3_isSpot a0))) z | _ => none)
theorem cs_X3_isSpot : mm_cs f_X3_isSpot clo_X3_isSpot := by
  intro as z K o h
  obtain ⟨a0, r0, rfl, g0⟩ := mm_pi_e h
  rcases r0 with _ | ⟨u, w⟩
  rotate_left
  · cases g0
  exact ⟨_, _, sp_X3_isSpot a0 z, fun v hv => by cases hv; exact Or.inl ⟨_, rfl⟩, g0⟩
theorem sS_X3_isSpot {own : String} {R : Room} {ar : Nat → Nat} {k : Nat} (hlink : Cond.methodLink own k yX3_isSpot ∈ lw_gd ∨ ∃ host, (own, k, yX3_isSpot, host) ∈ nmA) (har : ar k = 1) (hr : 2 ≤ R.frames ∧ 42 ≤ R.locals) : mm_okS lyTX lyFA lenX snX 46 48 17 roX rsA nfA nmA ssX own R ar k clo_X3_isSpot :=
  Or.inl ⟨yX3_isSpot, cX3_isSpot, 1, some .boolean, rm_X3_isSpot, f_X3_isSpot, M_X3_isSpot, cs_X3_isSpot, hlink, ⟨ws_X3_isSpot, wi_X3_isSpot, wc_X3_isSpot⟩, ⟨by decide +kernel, by decide +kernel, by rw [har]; decide +kernel⟩, ⟨rfl, rfl, hr.1, hr.2⟩⟩
-- X3_isSheet
def lV_X3_isSheet : List (Nat × (List mm_V → mm_S → (Option mm_V → mm_S → Option mm_R) → Option mm_R)) := []
def mV_X3_isSheet (k : Nat) (as : List mm_V) (z : mm_S) (kk : Option mm_V → mm_S → Option mm_R) : Option mm_R := match mm_at lV_X3_isSheet k with
  | some f => f as z kk
  | none => none
def arV_X3_isSheet (k : Nat) : Nat := (mm_at [] k).getD 0
def lS_X3_isSheet : List (Nat × (List mm_V → mm_S → (Option mm_V → mm_S → Option mm_R) → Option mm_R)) := [(118, clo_X3_lies)]
def mS_X3_isSheet (k : Nat) (as : List mm_V) (z : mm_S) (kk : Option mm_V → mm_S → Option mm_R) : Option mm_R := match mm_at lS_X3_isSheet k with
  | some f => f as z kk
  | none => none
def arS_X3_isSheet (k : Nat) : Nat := (mm_at [(118, 3)] k).getD 0
def ct_X3_isSheet : List (Nat × List Nat) := []
def go_X3_isSheet : Nat → mm_K := mm_go (fun k => mm_at flX3 k) (fun k => mm_at clX3 k) (fun k => mm_at glX3 k) arV_X3_isSheet arS_X3_isSheet mV_X3_isSheet mS_X3_isSheet lenX roX snX 1 1 tbX3_isSheet ct_X3_isSheet
def eX3_isSheet_0 (n : Nat) (x1 : Int32) (z : mm_S) : Option mm_R := go_X3_isSheet n 0 [(0, mm_I x1)] [] z
set_option maxRecDepth 100000 in
theorem qX3_isSheet_0 (n : Nat) (x1 : Int32) (z : mm_S) : eX3_isSheet_0 (n + 1) x1 z = (mm_rt 1 (pX3_lies x1 0 3) z) := rfl
def rm_X3_isSheet : Room := { frames := 1, cells := 0, slots := 0, locals := 22 }
def f_X3_isSheet (as : List mm_V) (z : mm_S) (o : mm_R) : Prop := (as.map mm_cat).sum ≤ 1 ∧ ∃ n, go_X3_isSheet n 0 (mm_ar 0 as) [] z = some o
theorem M_X3_isSheet : mm_M lyTX lyFA lenX snX 46 48 17 roX rsA nfA nmA ssX yX3_isSheet cX3_isSheet 1 (some .boolean) rm_X3_isSheet f_X3_isSheet :=
  mm_met (rt := 1) (by decide +kernel) ⟨fun h => absurd h (by decide), fun h => rfl, fun h => absurd h (by decide), fun h => absurd h (by decide)⟩ tbX3_isSheet_ok hsnX okFX3 okLX3 okGX3 (fun _ _ _ _ => rfl) (fun _ _ _ _ => rfl) (fun _ h => absurd h List.not_mem_nil) (List.forall_mem_cons.mpr ⟨sS_X3_lies (Or.inl lk_X3_118) rfl ⟨by decide, by decide⟩, fun _ h => absurd h List.not_mem_nil⟩)
def pX3_isSheet (x1 : Int32) : Int32 := (pX3_lies x1 0 3)
theorem z1_X3_isSheet (x1 : Int32) : pX3_isSheet x1 = 0 ∨ pX3_isSheet x1 = 1 := (z1_X3_lies x1 0 3)
theorem sp_X3_isSheet (x1 : Int32) (z : mm_S) : f_X3_isSheet [mm_I x1] z (some (mm_I (pX3_isSheet x1)), z) := ⟨Nat.le_of_ble_eq_true rfl, 1, (qX3_isSheet_0 0 x1 z).trans (mm_rt1 z (z1_X3_lies x1 0 3))⟩
def clo_X3_isSheet (as : List mm_V) (z : mm_S) (kk : Option mm_V → mm_S → Option mm_R) : Option mm_R := mm_pi as fun a0 as => (match as with | [] => kk (some (mm_I (pX3_isSheet a0))) z | _ => none)
theorem cs_X3_isSheet : mm_cs f_X3_isSheet clo_X3_isSheet := by
  intro as z K o h
  obtain ⟨a0, r0, rfl, g0⟩ := mm_pi_e h
  rcases r0 with _ | ⟨u, w⟩
  rotate_left
  · cases g0
  exact ⟨_, _, sp_X3_isSheet a0 z, fun v hv => by cases hv; exact Or.inl ⟨_, rfl⟩, g0⟩
theorem sS_X3_isSheet {own : String} {R : Room} {ar : Nat → Nat} {k : Nat} (hlink : Cond.methodLink own k yX3_isSheet ∈ lw_gd ∨ ∃ host, (own, k, yX3_isSheet, host) ∈ nmA) (har : ar k = 1) (hr : 2 ≤ R.frames ∧ 42 ≤ R.locals) : mm_okS lyTX lyFA lenX snX 46 48 17 roX rsA nfA nmA ssX own R ar k clo_X3_isSheet :=
  Or.inl ⟨yX3_isSheet, cX3_isSheet, 1, some .boolean, rm_X3_isSheet, f_X3_isSheet, M_X3_isSheet, cs_X3_isSheet, hlink, ⟨ws_X3_isSheet, wi_X3_isSheet, wc_X3_isSheet⟩, ⟨by decide +kernel, by decide +kernel, by rw [har]; decide +kernel⟩, ⟨rfl, rfl, hr.1, hr.2⟩⟩
-- X3_besides
def lV_X3_besides : List (Nat × (List mm_V → mm_S → (Option mm_V → mm_S → Option mm_R) → Option mm_R)) := []
def mV_X3_besides (k : Nat) (as : List mm_V) (z : mm_S) (kk : Option mm_V → mm_S → Option mm_R) : Option mm_R := match mm_at lV_X3_besides k with
  | some f => f as z kk
  | none => none
def arV_X3_besides (k : Nat) : Nat := (mm_at [] k).getD 0
def lS_X3_besides : List (Nat × (List mm_V → mm_S → (Option mm_V → mm_S → Option mm_R) → Option mm_R)) := []
def mS_X3_besides (k : Nat) (as : List mm_V) (z : mm_S) (kk : Option mm_V → mm_S → Option mm_R) : Option mm_R := match mm_at lS_X3_besides k with
  | some f => f as z kk
  | none => none
def arS_X3_besides (k : Nat) : Nat := (mm_at [] k).getD 0
def ct_X3_besides : List (Nat × List Nat) := []
def go_X3_besides : Nat → mm_K := mm_go (fun k => mm_at flX3 k) (fun k => mm_at clX3 k) (fun k => mm_at glX3 k) arV_X3_besides arS_X3_besides mV_X3_besides mS_X3_besides lenX roX snX 10 2 tbX3_besides ct_X3_besides
def eX3_besides_0 (n : Nat) (x1 : Int64) (z : mm_S) : Option mm_R := go_X3_besides n 0 [(0, mm_J x1)] [] z
set_option maxRecDepth 100000 in
theorem qX3_besides_0 (n : Nat) (x1 : Int64) (z : mm_S) : eX3_besides_0 (n + 1) x1 z = (some (some (mm_J (((((x1 <<< (Int32.toInt64 6 &&& 63)) &&& 68719476735) ||| (Int64.toUInt64 x1 >>> (Int64.toUInt64 (Int32.toInt64 6) &&& Int64.toUInt64 63)).toInt64) ||| ((x1 &&& (-34905131041)) <<< (Int32.toInt64 1 &&& 63))) ||| (Int64.toUInt64 (x1 &&& (-1090785346)) >>> (Int64.toUInt64 (Int32.toInt64 1) &&& Int64.toUInt64 63)).toInt64)), z)) := rfl
def rm_X3_besides : Room := { frames := 0, cells := 0, slots := 0, locals := 0 }
def f_X3_besides (as : List mm_V) (z : mm_S) (o : mm_R) : Prop := (as.map mm_cat).sum ≤ 10 ∧ ∃ n, go_X3_besides n 0 (mm_ar 0 as) [] z = some o
theorem M_X3_besides : mm_M lyTX lyFA lenX snX 46 48 17 roX rsA nfA nmA ssX yX3_besides cX3_besides 10 (some .long) rm_X3_besides f_X3_besides :=
  mm_met (rt := 2) (by decide +kernel) ⟨fun h => absurd h (by decide), fun h => absurd h (by decide), fun h => rfl, fun h => absurd h (by decide)⟩ tbX3_besides_ok hsnX okFX3 okLX3 okGX3 (fun _ _ _ _ => rfl) (fun _ _ _ _ => rfl) (fun _ h => absurd h List.not_mem_nil) (fun _ h => absurd h List.not_mem_nil)
def pX3_besides (x1 : Int64) : Int64 := (((((x1 <<< (Int32.toInt64 6 &&& 63)) &&& 68719476735) ||| (Int64.toUInt64 x1 >>> (Int64.toUInt64 (Int32.toInt64 6) &&& Int64.toUInt64 63)).toInt64) ||| ((x1 &&& (-34905131041)) <<< (Int32.toInt64 1 &&& 63))) ||| (Int64.toUInt64 (x1 &&& (-1090785346)) >>> (Int64.toUInt64 (Int32.toInt64 1) &&& Int64.toUInt64 63)).toInt64)
theorem sp_X3_besides (x1 : Int64) (z : mm_S) : f_X3_besides [mm_J x1] z (some (mm_J (pX3_besides x1)), z) := ⟨Nat.le_of_ble_eq_true rfl, 1, (qX3_besides_0 0 x1 z).trans rfl⟩
def clo_X3_besides (as : List mm_V) (z : mm_S) (kk : Option mm_V → mm_S → Option mm_R) : Option mm_R := mm_pj as fun a0 as => (match as with | [] => kk (some (mm_J (pX3_besides a0))) z | _ => none)
theorem cs_X3_besides : mm_cs f_X3_besides clo_X3_besides := by
  intro as z K o h
  obtain ⟨a0, r0, rfl, g0⟩ := mm_pj_e h
  rcases r0 with _ | ⟨u, w⟩
  rotate_left
  · cases g0
  exact ⟨_, _, sp_X3_besides a0 z, fun v hv => by cases hv; exact Or.inr ⟨_, rfl⟩, g0⟩
theorem sS_X3_besides {own : String} {R : Room} {ar : Nat → Nat} {k : Nat} (hlink : Cond.methodLink own k yX3_besides ∈ lw_gd ∨ ∃ host, (own, k, yX3_besides, host) ∈ nmA) (har : ar k = 1) (hr : 1 ≤ R.frames ∧ 29 ≤ R.locals) : mm_okS lyTX lyFA lenX snX 46 48 17 roX rsA nfA nmA ssX own R ar k clo_X3_besides :=
  Or.inl ⟨yX3_besides, cX3_besides, 10, some .long, rm_X3_besides, f_X3_besides, M_X3_besides, cs_X3_besides, hlink, ⟨ws_X3_besides, wi_X3_besides, wc_X3_besides⟩, ⟨by decide +kernel, by decide +kernel, by rw [har]; decide +kernel⟩, ⟨rfl, rfl, hr.1, hr.2⟩⟩
-- X3_setOf
def lV_X3_setOf : List (Nat × (List mm_V → mm_S → (Option mm_V → mm_S → Option mm_R) → Option mm_R)) := []
def mV_X3_setOf (k : Nat) (as : List mm_V) (z : mm_S) (kk : Option mm_V → mm_S → Option mm_R) : Option mm_R := match mm_at lV_X3_setOf k with
  | some f => f as z kk
  | none => none
def arV_X3_setOf (k : Nat) : Nat := (mm_at [] k).getD 0
def lS_X3_setOf : List (Nat × (List mm_V → mm_S → (Option mm_V → mm_S → Option mm_R) → Option mm_R)) := []
def mS_X3_setOf (k : Nat) (as : List mm_V) (z : mm_S) (kk : Option mm_V → mm_S → Option mm_R) : Option mm_R := match mm_at lS_X3_setOf k with
  | some f => f as z kk
  | none => none
def arS_X3_setOf (k : Nat) : Nat := (mm_at [] k).getD 0
def ct_X3_setOf : List (Nat × List Nat) := []
def go_X3_setOf : Nat → mm_K := mm_go (fun k => mm_at flX3 k) (fun k => mm_at clX3 k) (fun k => mm_at glX3 k) arV_X3_setOf arS_X3_setOf mV_X3_setOf mS_X3_setOf lenX roX snX 1 2 tbX3_setOf ct_X3_setOf
def eX3_setOf_0 (n : Nat) (x1 : Int32) (z : mm_S) : Option mm_R := go_X3_setOf n 0 [(0, mm_I x1)] [] z
set_option maxRecDepth 100000 in
theorem qX3_setOf_0 (n : Nat) (x1 : Int32) (z : mm_S) : eX3_setOf_0 (n + 1) x1 z = (some (some (mm_J (1 <<< (Int32.toInt64 x1 &&& 63))), z)) := rfl
def rm_X3_setOf : Room := { frames := 0, cells := 0, slots := 0, locals := 0 }
def f_X3_setOf (as : List mm_V) (z : mm_S) (o : mm_R) : Prop := (as.map mm_cat).sum ≤ 1 ∧ ∃ n, go_X3_setOf n 0 (mm_ar 0 as) [] z = some o
theorem M_X3_setOf : mm_M lyTX lyFA lenX snX 46 48 17 roX rsA nfA nmA ssX yX3_setOf cX3_setOf 1 (some .long) rm_X3_setOf f_X3_setOf :=
  mm_met (rt := 2) (by decide +kernel) ⟨fun h => absurd h (by decide), fun h => absurd h (by decide), fun h => rfl, fun h => absurd h (by decide)⟩ tbX3_setOf_ok hsnX okFX3 okLX3 okGX3 (fun _ _ _ _ => rfl) (fun _ _ _ _ => rfl) (fun _ h => absurd h List.not_mem_nil) (fun _ h => absurd h List.not_mem_nil)
def pX3_setOf (x1 : Int32) : Int64 := (1 <<< (Int32.toInt64 x1 &&& 63))
theorem sp_X3_setOf (x1 : Int32) (z : mm_S) : f_X3_setOf [mm_I x1] z (some (mm_J (pX3_setOf x1)), z) := ⟨Nat.le_of_ble_eq_true rfl, 1, (qX3_setOf_0 0 x1 z).trans rfl⟩
def clo_X3_setOf (as : List mm_V) (z : mm_S) (kk : Option mm_V → mm_S → Option mm_R) : Option mm_R := mm_pi as fun a0 as => (match as with | [] => kk (some (mm_J (pX3_setOf a0))) z | _ => none)
theorem cs_X3_setOf : mm_cs f_X3_setOf clo_X3_setOf := by
  intro as z K o h
  obtain ⟨a0, r0, rfl, g0⟩ := mm_pi_e h
  rcases r0 with _ | ⟨u, w⟩
  rotate_left
  · cases g0
  exact ⟨_, _, sp_X3_setOf a0 z, fun v hv => by cases hv; exact Or.inr ⟨_, rfl⟩, g0⟩
theorem sS_X3_setOf {own : String} {R : Room} {ar : Nat → Nat} {k : Nat} (hlink : Cond.methodLink own k yX3_setOf ∈ lw_gd ∨ ∃ host, (own, k, yX3_setOf, host) ∈ nmA) (har : ar k = 1) (hr : 1 ≤ R.frames ∧ 20 ≤ R.locals) : mm_okS lyTX lyFA lenX snX 46 48 17 roX rsA nfA nmA ssX own R ar k clo_X3_setOf :=
  Or.inl ⟨yX3_setOf, cX3_setOf, 1, some .long, rm_X3_setOf, f_X3_setOf, M_X3_setOf, cs_X3_setOf, hlink, ⟨ws_X3_setOf, wi_X3_setOf, wc_X3_setOf⟩, ⟨by decide +kernel, by decide +kernel, by rw [har]; decide +kernel⟩, ⟨rfl, rfl, hr.1, hr.2⟩⟩
-- X3_has
def lV_X3_has : List (Nat × (List mm_V → mm_S → (Option mm_V → mm_S → Option mm_R) → Option mm_R)) := []
def mV_X3_has (k : Nat) (as : List mm_V) (z : mm_S) (kk : Option mm_V → mm_S → Option mm_R) : Option mm_R := match mm_at lV_X3_has k with
  | some f => f as z kk
  | none => none
def arV_X3_has (k : Nat) : Nat := (mm_at [] k).getD 0
def lS_X3_has : List (Nat × (List mm_V → mm_S → (Option mm_V → mm_S → Option mm_R) → Option mm_R)) := []
def mS_X3_has (k : Nat) (as : List mm_V) (z : mm_S) (kk : Option mm_V → mm_S → Option mm_R) : Option mm_R := match mm_at lS_X3_has k with
  | some f => f as z kk
  | none => none
def arS_X3_has (k : Nat) : Nat := (mm_at [] k).getD 0
def ct_X3_has : List (Nat × List Nat) := []
def go_X3_has : Nat → mm_K := mm_go (fun k => mm_at flX3 k) (fun k => mm_at clX3 k) (fun k => mm_at glX3 k) arV_X3_has arS_X3_has mV_X3_has mS_X3_has lenX roX snX 3 1 tbX3_has ct_X3_has
def eX3_has_0 (n : Nat) (x1 : Int64) (x2 : Int32) (z : mm_S) : Option mm_R := go_X3_has n 0 [(0, mm_J x1), (2, mm_I x2)] [] z
set_option maxRecDepth 100000 in
theorem qX3_has_0 (n : Nat) (x1 : Int64) (x2 : Int32) (z : mm_S) : eX3_has_0 (n + 1) x1 x2 z = (if (lg_cmp ((Int64.toUInt64 x1 >>> (Int64.toUInt64 (Int32.toInt64 x2) &&& Int64.toUInt64 63)).toInt64 &&& 1) 0) = 0 then some (some (mm_I 0), z) else some (some (mm_I 1), z)) := rfl
def rm_X3_has : Room := { frames := 0, cells := 0, slots := 0, locals := 0 }
def f_X3_has (as : List mm_V) (z : mm_S) (o : mm_R) : Prop := (as.map mm_cat).sum ≤ 3 ∧ ∃ n, go_X3_has n 0 (mm_ar 0 as) [] z = some o
theorem M_X3_has : mm_M lyTX lyFA lenX snX 46 48 17 roX rsA nfA nmA ssX yX3_has cX3_has 3 (some .boolean) rm_X3_has f_X3_has :=
  mm_met (rt := 1) (by decide +kernel) ⟨fun h => absurd h (by decide), fun h => rfl, fun h => absurd h (by decide), fun h => absurd h (by decide)⟩ tbX3_has_ok hsnX okFX3 okLX3 okGX3 (fun _ _ _ _ => rfl) (fun _ _ _ _ => rfl) (fun _ h => absurd h List.not_mem_nil) (fun _ h => absurd h List.not_mem_nil)
def pX3_has (x1 : Int64) (x2 : Int32) : Int32 := if (lg_cmp ((Int64.toUInt64 x1 >>> (Int64.toUInt64 (Int32.toInt64 x2) &&& Int64.toUInt64 63)).toInt64 &&& 1) 0) = 0 then 0 else 1
theorem z1_X3_has (x1 : Int64) (x2 : Int32) : pX3_has x1 x2 = 0 ∨ pX3_has x1 x2 = 1 := (mm_i01 (Or.inl rfl) (Or.inr rfl))
theorem sp_X3_has (x1 : Int64) (x2 : Int32) (z : mm_S) : f_X3_has [mm_J x1, mm_I x2] z (some (mm_I (pX3_has x1 x2)), z) := ⟨Nat.le_of_ble_eq_true rfl, 1, (qX3_has_0 0 x1 x2 z).trans (mm_if (fun v => some (some (mm_I v), z)) rfl rfl)⟩
def clo_X3_has (as : List mm_V) (z : mm_S) (kk : Option mm_V → mm_S → Option mm_R) : Option mm_R := mm_pj as fun a0 as => mm_pi as fun a1 as => (match as with | [] => kk (some (mm_I (pX3_has a0 a1))) z | _ => none)
theorem cs_X3_has : mm_cs f_X3_has clo_X3_has := by
  intro as z K o h
  obtain ⟨a0, r0, rfl, g0⟩ := mm_pj_e h
  obtain ⟨a1, r1, rfl, g1⟩ := mm_pi_e g0
  rcases r1 with _ | ⟨u, w⟩
  rotate_left
  · cases g1
  exact ⟨_, _, sp_X3_has a0 a1 z, fun v hv => by cases hv; exact Or.inl ⟨_, rfl⟩, g1⟩
theorem sS_X3_has {own : String} {R : Room} {ar : Nat → Nat} {k : Nat} (hlink : Cond.methodLink own k yX3_has ∈ lw_gd ∨ ∃ host, (own, k, yX3_has, host) ∈ nmA) (har : ar k = 2) (hr : 1 ≤ R.frames ∧ 22 ≤ R.locals) : mm_okS lyTX lyFA lenX snX 46 48 17 roX rsA nfA nmA ssX own R ar k clo_X3_has :=
  Or.inl ⟨yX3_has, cX3_has, 3, some .boolean, rm_X3_has, f_X3_has, M_X3_has, cs_X3_has, hlink, ⟨ws_X3_has, wi_X3_has, wc_X3_has⟩, ⟨by decide +kernel, by decide +kernel, by rw [har]; decide +kernel⟩, ⟨rfl, rfl, hr.1, hr.2⟩⟩
-- X3_carriesAs
def lV_X3_carriesAs : List (Nat × (List mm_V → mm_S → (Option mm_V → mm_S → Option mm_R) → Option mm_R)) := []
def mV_X3_carriesAs (k : Nat) (as : List mm_V) (z : mm_S) (kk : Option mm_V → mm_S → Option mm_R) : Option mm_R := match mm_at lV_X3_carriesAs k with
  | some f => f as z kk
  | none => none
def arV_X3_carriesAs (k : Nat) : Nat := (mm_at [] k).getD 0
def lS_X3_carriesAs : List (Nat × (List mm_V → mm_S → (Option mm_V → mm_S → Option mm_R) → Option mm_R)) := []
def mS_X3_carriesAs (k : Nat) (as : List mm_V) (z : mm_S) (kk : Option mm_V → mm_S → Option mm_R) : Option mm_R := match mm_at lS_X3_carriesAs k with
  | some f => f as z kk
  | none => none
def arS_X3_carriesAs (k : Nat) : Nat := (mm_at [] k).getD 0
def ct_X3_carriesAs : List (Nat × List Nat) := []
def go_X3_carriesAs : Nat → mm_K := mm_go (fun k => mm_at flX3 k) (fun k => mm_at clX3 k) (fun k => mm_at glX3 k) arV_X3_carriesAs arS_X3_carriesAs mV_X3_carriesAs mS_X3_carriesAs lenX roX snX 5 0 tbX3_carriesAs ct_X3_carriesAs
def eX3_carriesAs_0 (n : Nat) (x1 : Int32) (x2 : Int32) (z : mm_S) : Option mm_R := go_X3_carriesAs n 0 [(0, mm_I x1), (1, mm_I x2)] [] z
set_option maxRecDepth 100000 in
theorem qX3_carriesAs_0 (n : Nat) (x1 : Int32) (x2 : Int32) (z : mm_S) : eX3_carriesAs_0 (n + 1) x1 x2 z = (if x1 = 1 then some (some (mm_I (2 * (4 * x2))), z) else if x1 = 2 then some (some (mm_I ((2 * (4 * x2)) + 5)), z) else if x1 = 3 then some (some (mm_I (((2 * (4 * x2)) + 5) + x2)), z) else if x1 = 4 then some (some (mm_I ((4 * x2) / 2)), z) else if x1 = 5 then some (some (mm_I 0), z) else some (some (mm_I (4 * x2)), z)) := rfl
def rm_X3_carriesAs : Room := { frames := 0, cells := 0, slots := 0, locals := 0 }
def f_X3_carriesAs (as : List mm_V) (z : mm_S) (o : mm_R) : Prop := (as.map mm_cat).sum ≤ 5 ∧ ∃ n, go_X3_carriesAs n 0 (mm_ar 0 as) [] z = some o
theorem M_X3_carriesAs : mm_M lyTX lyFA lenX snX 46 48 17 roX rsA nfA nmA ssX yX3_carriesAs cX3_carriesAs 5 (some .int) rm_X3_carriesAs f_X3_carriesAs :=
  mm_met (rt := 0) (by decide +kernel) ⟨fun h => rfl, fun h => absurd h (by decide), fun h => absurd h (by decide), fun h => absurd h (by decide)⟩ tbX3_carriesAs_ok hsnX okFX3 okLX3 okGX3 (fun _ _ _ _ => rfl) (fun _ _ _ _ => rfl) (fun _ h => absurd h List.not_mem_nil) (fun _ h => absurd h List.not_mem_nil)
def pX3_carriesAs (x1 : Int32) (x2 : Int32) : Int32 := if x1 = 1 then (2 * (4 * x2)) else if x1 = 2 then ((2 * (4 * x2)) + 5) else if x1 = 3 then (((2 * (4 * x2)) + 5) + x2) else if x1 = 4 then ((4 * x2) / 2) else if x1 = 5 then 0 else (4 * x2)
theorem sp_X3_carriesAs (x1 : Int32) (x2 : Int32) (z : mm_S) : f_X3_carriesAs [mm_I x1, mm_I x2] z (some (mm_I (pX3_carriesAs x1 x2)), z) := ⟨Nat.le_of_ble_eq_true rfl, 1, (qX3_carriesAs_0 0 x1 x2 z).trans (mm_if (fun v => some (some (mm_I v), z)) rfl (mm_if (fun v => some (some (mm_I v), z)) rfl (mm_if (fun v => some (some (mm_I v), z)) rfl (mm_if (fun v => some (some (mm_I v), z)) rfl (mm_if (fun v => some (some (mm_I v), z)) rfl rfl)))))⟩
def clo_X3_carriesAs (as : List mm_V) (z : mm_S) (kk : Option mm_V → mm_S → Option mm_R) : Option mm_R := mm_pi as fun a0 as => mm_pi as fun a1 as => (match as with | [] => kk (some (mm_I (pX3_carriesAs a0 a1))) z | _ => none)
theorem cs_X3_carriesAs : mm_cs f_X3_carriesAs clo_X3_carriesAs := by
  intro as z K o h
  obtain ⟨a0, r0, rfl, g0⟩ := mm_pi_e h
  obtain ⟨a1, r1, rfl, g1⟩ := mm_pi_e g0
  rcases r1 with _ | ⟨u, w⟩
  rotate_left
  · cases g1
  exact ⟨_, _, sp_X3_carriesAs a0 a1 z, fun v hv => by cases hv; exact Or.inl ⟨_, rfl⟩, g1⟩
theorem sS_X3_carriesAs {own : String} {R : Room} {ar : Nat → Nat} {k : Nat} (hlink : Cond.methodLink own k yX3_carriesAs ∈ lw_gd ∨ ∃ host, (own, k, yX3_carriesAs, host) ∈ nmA) (har : ar k = 2) (hr : 1 ≤ R.frames ∧ 24 ≤ R.locals) : mm_okS lyTX lyFA lenX snX 46 48 17 roX rsA nfA nmA ssX own R ar k clo_X3_carriesAs :=
  Or.inl ⟨yX3_carriesAs, cX3_carriesAs, 5, some .int, rm_X3_carriesAs, f_X3_carriesAs, M_X3_carriesAs, cs_X3_carriesAs, hlink, ⟨ws_X3_carriesAs, wi_X3_carriesAs, wc_X3_carriesAs⟩, ⟨by decide +kernel, by decide +kernel, by rw [har]; decide +kernel⟩, ⟨rfl, rfl, hr.1, hr.2⟩⟩
-- X3_startsAs
def lV_X3_startsAs : List (Nat × (List mm_V → mm_S → (Option mm_V → mm_S → Option mm_R) → Option mm_R)) := []
def mV_X3_startsAs (k : Nat) (as : List mm_V) (z : mm_S) (kk : Option mm_V → mm_S → Option mm_R) : Option mm_R := match mm_at lV_X3_startsAs k with
  | some f => f as z kk
  | none => none
def arV_X3_startsAs (k : Nat) : Nat := (mm_at [] k).getD 0
def lS_X3_startsAs : List (Nat × (List mm_V → mm_S → (Option mm_V → mm_S → Option mm_R) → Option mm_R)) := []
def mS_X3_startsAs (k : Nat) (as : List mm_V) (z : mm_S) (kk : Option mm_V → mm_S → Option mm_R) : Option mm_R := match mm_at lS_X3_startsAs k with
  | some f => f as z kk
  | none => none
def arS_X3_startsAs (k : Nat) : Nat := (mm_at [] k).getD 0
def ct_X3_startsAs : List (Nat × List Nat) := []
def go_X3_startsAs : Nat → mm_K := mm_go (fun k => mm_at flX3 k) (fun k => mm_at clX3 k) (fun k => mm_at glX3 k) arV_X3_startsAs arS_X3_startsAs mV_X3_startsAs mS_X3_startsAs lenX roX snX 1 0 tbX3_startsAs ct_X3_startsAs
def eX3_startsAs_0 (n : Nat) (x1 : Int32) (z : mm_S) : Option mm_R := go_X3_startsAs n 0 [(0, mm_I x1)] [] z
set_option maxRecDepth 100000 in
theorem qX3_startsAs_0 (n : Nat) (x1 : Int32) (z : mm_S) : eX3_startsAs_0 (n + 1) x1 z = (if x1 = 2 then some (some (mm_I 1), z) else if x1 = 3 then some (some (mm_I 2), z) else if x1 = 4 then some (some (mm_I 2), z) else if x1 = 5 then some (some (mm_I 2), z) else some (some (mm_I 0), z)) := rfl
def rm_X3_startsAs : Room := { frames := 0, cells := 0, slots := 0, locals := 0 }
def f_X3_startsAs (as : List mm_V) (z : mm_S) (o : mm_R) : Prop := (as.map mm_cat).sum ≤ 1 ∧ ∃ n, go_X3_startsAs n 0 (mm_ar 0 as) [] z = some o
theorem M_X3_startsAs : mm_M lyTX lyFA lenX snX 46 48 17 roX rsA nfA nmA ssX yX3_startsAs cX3_startsAs 1 (some .int) rm_X3_startsAs f_X3_startsAs :=
  mm_met (rt := 0) (by decide +kernel) ⟨fun h => rfl, fun h => absurd h (by decide), fun h => absurd h (by decide), fun h => absurd h (by decide)⟩ tbX3_startsAs_ok hsnX okFX3 okLX3 okGX3 (fun _ _ _ _ => rfl) (fun _ _ _ _ => rfl) (fun _ h => absurd h List.not_mem_nil) (fun _ h => absurd h List.not_mem_nil)
def pX3_startsAs (x1 : Int32) : Int32 := if x1 = 2 then 1 else if x1 = 3 then 2 else if x1 = 4 then 2 else if x1 = 5 then 2 else 0
theorem sp_X3_startsAs (x1 : Int32) (z : mm_S) : f_X3_startsAs [mm_I x1] z (some (mm_I (pX3_startsAs x1)), z) := ⟨Nat.le_of_ble_eq_true rfl, 1, (qX3_startsAs_0 0 x1 z).trans (mm_if (fun v => some (some (mm_I v), z)) rfl (mm_if (fun v => some (some (mm_I v), z)) rfl (mm_if (fun v => some (some (mm_I v), z)) rfl (mm_if (fun v => some (some (mm_I v), z)) rfl rfl))))⟩
def clo_X3_startsAs (as : List mm_V) (z : mm_S) (kk : Option mm_V → mm_S → Option mm_R) : Option mm_R := mm_pi as fun a0 as => (match as with | [] => kk (some (mm_I (pX3_startsAs a0))) z | _ => none)
theorem cs_X3_startsAs : mm_cs f_X3_startsAs clo_X3_startsAs := by
  intro as z K o h
  obtain ⟨a0, r0, rfl, g0⟩ := mm_pi_e h
  rcases r0 with _ | ⟨u, w⟩
  rotate_left
  · cases g0
  exact ⟨_, _, sp_X3_startsAs a0 z, fun v hv => by cases hv; exact Or.inl ⟨_, rfl⟩, g0⟩
theorem sS_X3_startsAs {own : String} {R : Room} {ar : Nat → Nat} {k : Nat} (hlink : Cond.methodLink own k yX3_startsAs ∈ lw_gd ∨ ∃ host, (own, k, yX3_startsAs, host) ∈ nmA) (har : ar k = 1) (hr : 1 ≤ R.frames ∧ 20 ≤ R.locals) : mm_okS lyTX lyFA lenX snX 46 48 17 roX rsA nfA nmA ssX own R ar k clo_X3_startsAs :=
  Or.inl ⟨yX3_startsAs, cX3_startsAs, 1, some .int, rm_X3_startsAs, f_X3_startsAs, M_X3_startsAs, cs_X3_startsAs, hlink, ⟨ws_X3_startsAs, wi_X3_startsAs, wc_X3_startsAs⟩, ⟨by decide +kernel, by decide +kernel, by rw [har]; decide +kernel⟩, ⟨rfl, rfl, hr.1, hr.2⟩⟩
-- X3_hearsByAs
def lV_X3_hearsByAs : List (Nat × (List mm_V → mm_S → (Option mm_V → mm_S → Option mm_R) → Option mm_R)) := []
def mV_X3_hearsByAs (k : Nat) (as : List mm_V) (z : mm_S) (kk : Option mm_V → mm_S → Option mm_R) : Option mm_R := match mm_at lV_X3_hearsByAs k with
  | some f => f as z kk
  | none => none
def arV_X3_hearsByAs (k : Nat) : Nat := (mm_at [] k).getD 0
def lS_X3_hearsByAs : List (Nat × (List mm_V → mm_S → (Option mm_V → mm_S → Option mm_R) → Option mm_R)) := []
def mS_X3_hearsByAs (k : Nat) (as : List mm_V) (z : mm_S) (kk : Option mm_V → mm_S → Option mm_R) : Option mm_R := match mm_at lS_X3_hearsByAs k with
  | some f => f as z kk
  | none => none
def arS_X3_hearsByAs (k : Nat) : Nat := (mm_at [] k).getD 0
def ct_X3_hearsByAs : List (Nat × List Nat) := []
def go_X3_hearsByAs : Nat → mm_K := mm_go (fun k => mm_at flX3 k) (fun k => mm_at clX3 k) (fun k => mm_at glX3 k) arV_X3_hearsByAs arS_X3_hearsByAs mV_X3_hearsByAs mS_X3_hearsByAs lenX roX snX 1 0 tbX3_hearsByAs ct_X3_hearsByAs
def eX3_hearsByAs_0 (n : Nat) (x1 : Int32) (z : mm_S) : Option mm_R := go_X3_hearsByAs n 0 [(0, mm_I x1)] [] z
set_option maxRecDepth 100000 in
theorem qX3_hearsByAs_0 (n : Nat) (x1 : Int32) (z : mm_S) : eX3_hearsByAs_0 (n + 1) x1 z = (if x1 = 3 then some (some (mm_I 40), z) else if x1 = 4 then some (some (mm_I 30), z) else if x1 = 5 then some (some (mm_I 30), z) else if x1 = 6 then some (some (mm_I (-1)), z) else some (some (mm_I 60), z)) := rfl
def rm_X3_hearsByAs : Room := { frames := 0, cells := 0, slots := 0, locals := 0 }
def f_X3_hearsByAs (as : List mm_V) (z : mm_S) (o : mm_R) : Prop := (as.map mm_cat).sum ≤ 1 ∧ ∃ n, go_X3_hearsByAs n 0 (mm_ar 0 as) [] z = some o
theorem M_X3_hearsByAs : mm_M lyTX lyFA lenX snX 46 48 17 roX rsA nfA nmA ssX yX3_hearsByAs cX3_hearsByAs 1 (some .int) rm_X3_hearsByAs f_X3_hearsByAs :=
  mm_met (rt := 0) (by decide +kernel) ⟨fun h => rfl, fun h => absurd h (by decide), fun h => absurd h (by decide), fun h => absurd h (by decide)⟩ tbX3_hearsByAs_ok hsnX okFX3 okLX3 okGX3 (fun _ _ _ _ => rfl) (fun _ _ _ _ => rfl) (fun _ h => absurd h List.not_mem_nil) (fun _ h => absurd h List.not_mem_nil)
def pX3_hearsByAs (x1 : Int32) : Int32 := if x1 = 3 then 40 else if x1 = 4 then 30 else if x1 = 5 then 30 else if x1 = 6 then (-1) else 60
theorem sp_X3_hearsByAs (x1 : Int32) (z : mm_S) : f_X3_hearsByAs [mm_I x1] z (some (mm_I (pX3_hearsByAs x1)), z) := ⟨Nat.le_of_ble_eq_true rfl, 1, (qX3_hearsByAs_0 0 x1 z).trans (mm_if (fun v => some (some (mm_I v), z)) rfl (mm_if (fun v => some (some (mm_I v), z)) rfl (mm_if (fun v => some (some (mm_I v), z)) rfl (mm_if (fun v => some (some (mm_I v), z)) rfl rfl))))⟩
def clo_X3_hearsByAs (as : List mm_V) (z : mm_S) (kk : Option mm_V → mm_S → Option mm_R) : Option mm_R := mm_pi as fun a0 as => (match as with | [] => kk (some (mm_I (pX3_hearsByAs a0))) z | _ => none)
theorem cs_X3_hearsByAs : mm_cs f_X3_hearsByAs clo_X3_hearsByAs := by
  intro as z K o h
  obtain ⟨a0, r0, rfl, g0⟩ := mm_pi_e h
  rcases r0 with _ | ⟨u, w⟩
  rotate_left
  · cases g0
  exact ⟨_, _, sp_X3_hearsByAs a0 z, fun v hv => by cases hv; exact Or.inl ⟨_, rfl⟩, g0⟩
theorem sS_X3_hearsByAs {own : String} {R : Room} {ar : Nat → Nat} {k : Nat} (hlink : Cond.methodLink own k yX3_hearsByAs ∈ lw_gd ∨ ∃ host, (own, k, yX3_hearsByAs, host) ∈ nmA) (har : ar k = 1) (hr : 1 ≤ R.frames ∧ 20 ≤ R.locals) : mm_okS lyTX lyFA lenX snX 46 48 17 roX rsA nfA nmA ssX own R ar k clo_X3_hearsByAs :=
  Or.inl ⟨yX3_hearsByAs, cX3_hearsByAs, 1, some .int, rm_X3_hearsByAs, f_X3_hearsByAs, M_X3_hearsByAs, cs_X3_hearsByAs, hlink, ⟨ws_X3_hearsByAs, wi_X3_hearsByAs, wc_X3_hearsByAs⟩, ⟨by decide +kernel, by decide +kernel, by rw [har]; decide +kernel⟩, ⟨rfl, rfl, hr.1, hr.2⟩⟩
-- X3_lowestBits
def lV_X3_lowestBits : List (Nat × (List mm_V → mm_S → (Option mm_V → mm_S → Option mm_R) → Option mm_R)) := []
def mV_X3_lowestBits (k : Nat) (as : List mm_V) (z : mm_S) (kk : Option mm_V → mm_S → Option mm_R) : Option mm_R := match mm_at lV_X3_lowestBits k with
  | some f => f as z kk
  | none => none
def arV_X3_lowestBits (k : Nat) : Nat := (mm_at [] k).getD 0
def lS_X3_lowestBits : List (Nat × (List mm_V → mm_S → (Option mm_V → mm_S → Option mm_R) → Option mm_R)) := []
def mS_X3_lowestBits (k : Nat) (as : List mm_V) (z : mm_S) (kk : Option mm_V → mm_S → Option mm_R) : Option mm_R := match mm_at lS_X3_lowestBits k with
  | some f => f as z kk
  | none => none
def arS_X3_lowestBits (k : Nat) : Nat := (mm_at [] k).getD 0
def ct_X3_lowestBits : List (Nat × List Nat) := []
def go_X3_lowestBits : Nat → mm_K := mm_go (fun k => mm_at flX3 k) (fun k => mm_at clX3 k) (fun k => mm_at glX3 k) arV_X3_lowestBits arS_X3_lowestBits mV_X3_lowestBits mS_X3_lowestBits lenX roX snX 2 0 tbX3_lowestBits ct_X3_lowestBits
def eX3_lowestBits_0 (n : Nat) (x1 : Int32) (x2 : Int32) (z : mm_S) : Option mm_R := go_X3_lowestBits n 0 [(0, mm_I x1), (1, mm_I x2)] [] z
set_option maxRecDepth 100000 in
theorem qX3_lowestBits_0 (n : Nat) (x1 : Int32) (x2 : Int32) (z : mm_S) : eX3_lowestBits_0 (n + 1) x1 x2 z = (if x2 = 8 then some (some (mm_I (Int32.toInt8 x1).toInt32), z) else if x2 = 16 then some (some (mm_I (Int32.toInt16 x1).toInt32), z) else some (some (mm_I x1), z)) := rfl
def rm_X3_lowestBits : Room := { frames := 0, cells := 0, slots := 0, locals := 0 }
def f_X3_lowestBits (as : List mm_V) (z : mm_S) (o : mm_R) : Prop := (as.map mm_cat).sum ≤ 2 ∧ ∃ n, go_X3_lowestBits n 0 (mm_ar 0 as) [] z = some o
theorem M_X3_lowestBits : mm_M lyTX lyFA lenX snX 46 48 17 roX rsA nfA nmA ssX yX3_lowestBits cX3_lowestBits 2 (some .int) rm_X3_lowestBits f_X3_lowestBits :=
  mm_met (rt := 0) (by decide +kernel) ⟨fun h => rfl, fun h => absurd h (by decide), fun h => absurd h (by decide), fun h => absurd h (by decide)⟩ tbX3_lowestBits_ok hsnX okFX3 okLX3 okGX3 (fun _ _ _ _ => rfl) (fun _ _ _ _ => rfl) (fun _ h => absurd h List.not_mem_nil) (fun _ h => absurd h List.not_mem_nil)
def pX3_lowestBits (x1 : Int32) (x2 : Int32) : Int32 := if x2 = 8 then (Int32.toInt8 x1).toInt32 else if x2 = 16 then (Int32.toInt16 x1).toInt32 else x1
theorem sp_X3_lowestBits (x1 : Int32) (x2 : Int32) (z : mm_S) : f_X3_lowestBits [mm_I x1, mm_I x2] z (some (mm_I (pX3_lowestBits x1 x2)), z) := ⟨Nat.le_of_ble_eq_true rfl, 1, (qX3_lowestBits_0 0 x1 x2 z).trans (mm_if (fun v => some (some (mm_I v), z)) rfl (mm_if (fun v => some (some (mm_I v), z)) rfl rfl))⟩
def clo_X3_lowestBits (as : List mm_V) (z : mm_S) (kk : Option mm_V → mm_S → Option mm_R) : Option mm_R := mm_pi as fun a0 as => mm_pi as fun a1 as => (match as with | [] => kk (some (mm_I (pX3_lowestBits a0 a1))) z | _ => none)
theorem cs_X3_lowestBits : mm_cs f_X3_lowestBits clo_X3_lowestBits := by
  intro as z K o h
  obtain ⟨a0, r0, rfl, g0⟩ := mm_pi_e h
  obtain ⟨a1, r1, rfl, g1⟩ := mm_pi_e g0
  rcases r1 with _ | ⟨u, w⟩
  rotate_left
  · cases g1
  exact ⟨_, _, sp_X3_lowestBits a0 a1 z, fun v hv => by cases hv; exact Or.inl ⟨_, rfl⟩, g1⟩
theorem sS_X3_lowestBits {own : String} {R : Room} {ar : Nat → Nat} {k : Nat} (hlink : Cond.methodLink own k yX3_lowestBits ∈ lw_gd ∨ ∃ host, (own, k, yX3_lowestBits, host) ∈ nmA) (har : ar k = 2) (hr : 1 ≤ R.frames ∧ 21 ≤ R.locals) : mm_okS lyTX lyFA lenX snX 46 48 17 roX rsA nfA nmA ssX own R ar k clo_X3_lowestBits :=
  Or.inl ⟨yX3_lowestBits, cX3_lowestBits, 2, some .int, rm_X3_lowestBits, f_X3_lowestBits, M_X3_lowestBits, cs_X3_lowestBits, hlink, ⟨ws_X3_lowestBits, wi_X3_lowestBits, wc_X3_lowestBits⟩, ⟨by decide +kernel, by decide +kernel, by rw [har]; decide +kernel⟩, ⟨rfl, rfl, hr.1, hr.2⟩⟩
