abbrev mm_max (x y : Int32) : Int32 := if x < y then y else x
abbrev mm_min (x y : Int32) : Int32 := if y < x then y else x
theorem hsnX : ∀ k j, k < 46 → lyTX k = 13 → j < lenX k → snX k j < 17 := fun k j _ _ _ => by unfold snX; decide
theorem hsnM : ∀ k j, k < 22 → lyTM k = 13 → j < lenM k → snM k j < 17 := by
  intro k j h1 h2 h3
  have key : ∀ k, k < 22 → lyTM k = 13 → (k = 14 ∧ lenM k = 7) ∨ (k = 15 ∧ lenM k = 5) := by decide +kernel
  unfold snM
  rcases key k h1 h2 with ⟨h, h4⟩ | ⟨h, h4⟩
  · rw [if_pos h]; omega
  · rw [if_neg (by omega)]; omega
theorem ok0 {o : Nat} (h : mm_ok 46 lyTX 48 17 (mm_P 0 o)) : o = 1 ∨ o = 13 ∨ o = 25 := by
  have key : ∀ o, o < 46 → lyTX o = 0 → o = 1 ∨ o = 13 ∨ o = 25 := by decide +kernel
  rcases h with h | h | h
  · exact absurd h.1 (by simp)
  · exact absurd h.1 (by simp)
  · exact key o h.2.2.1 h.2.2.2
theorem ok1 {o : Nat} (h : mm_ok 46 lyTX 48 17 (mm_P 1 o)) : o = 2 ∨ o = 14 ∨ o = 26 := by
  have key : ∀ o, o < 46 → lyTX o = 1 → o = 2 ∨ o = 14 ∨ o = 26 := by decide +kernel
  rcases h with h | h | h
  · exact absurd h.1 (by simp)
  · exact absurd h.1 (by simp)
  · exact key o h.2.2.1 h.2.2.2
theorem ok2 {o : Nat} (h : mm_ok 46 lyTX 48 17 (mm_P 2 o)) : o = 37 := by
  have key : ∀ o, o < 46 → lyTX o = 2 → o = 37 := by decide +kernel
  rcases h with h | h | h
  · exact absurd h.1 (by simp)
  · exact absurd h.1 (by simp)
  · exact key o h.2.2.1 h.2.2.2
theorem ok3 {o : Nat} (h : mm_ok 46 lyTX 48 17 (mm_P 3 o)) : o = 0 := by
  have key : ∀ o, o < 46 → lyTX o = 3 → o = 0 := by decide +kernel
  rcases h with h | h | h
  · exact absurd h.1 (by simp)
  · exact absurd h.1 (by simp)
  · exact key o h.2.2.1 h.2.2.2
theorem ok4 {o : Nat} (h : mm_ok 22 lyTM 22 17 (mm_P 4 o)) : o = 0 := by
  have key : ∀ o, o < 22 → lyTM o = 4 → o = 0 := by decide +kernel
  rcases h with h | h | h
  · exact absurd h.1 (by simp)
  · exact absurd h.1 (by simp)
  · exact key o h.2.2.1 h.2.2.2
theorem mm_if {α β : Type} {c : Prop} [Decidable c] (f : α → β) {a b : α} {x y : β} (h1 : x = f a) (h2 : y = f b) : (if c then x else y) = f (if c then a else b) := by
  by_cases h : c
  · rw [if_pos h, if_pos h]; exact h1
  · rw [if_neg h, if_neg h]; exact h2
theorem mm_i01 {c : Prop} [Decidable c] {a b : Int32} (h1 : a = 0 ∨ a = 1) (h2 : b = 0 ∨ b = 1) : (if c then a else b) = 0 ∨ (if c then a else b) = 1 := by
  by_cases h : c
  · rw [if_pos h]; exact h1
  · rw [if_neg h]; exact h2
theorem mm_rt1 {v : Int32} (z : mm_S) (h : v = 0 ∨ v = 1) : mm_rt 1 v z = some (some (mm_I v), z) := by
  rcases h with rfl | rfl <;> rfl

-- X3_lies
def lV_X3_lies : List (Nat × (List mm_V → mm_S → (Option mm_V → mm_S → Option mm_R) → Option mm_R)) := []
def mV_X3_lies (k : Nat) (as : List mm_V) (z : mm_S) (kk : Option mm_V → mm_S → Option mm_R) : Option mm_R := match mm_at lV_X3_lies k with
  | some f => f as z kk
  | none => none
def arV_X3_lies (k : Nat) : Nat := (mm_at [] k).getD 0
def lS_X3_lies : List (Nat × (List mm_V → mm_S → (Option mm_V → mm_S → Option mm_R) → Option mm_R)) := []
def mS_X3_lies (k : Nat) (as : List mm_V) (z : mm_S) (kk : Option mm_V → mm_S → Option mm_R) : Option mm_R := match mm_at lS_X3_lies k with
  | some f => f as z kk
  | none => none
def arS_X3_lies (k : Nat) : Nat := (mm_at [] k).getD 0
def ct_X3_lies : List (Nat × List Nat) := []
def go_X3_lies : Nat → mm_K := mm_go (fun k => mm_at flX3 k) (fun k => mm_at clX3 k) (fun k => mm_at glX3 k) arV_X3_lies arS_X3_lies mV_X3_lies mS_X3_lies lenX roX snX 3 1 tbX3_lies ct_X3_lies
def eX3_lies_0 (n : Nat) (x1 : Int32) (x2 : Int32) (x3 : Int32) (z : mm_S) : Option mm_R := go_X3_lies n 0 [(0, mm_I x1), (1, mm_I x2), (2, mm_I x3)] [] z
set_option maxRecDepth 100000 in
theorem qX3_lies_0 (n : Nat) (x1 : Int32) (x2 : Int32) (x3 : Int32) (z : mm_S) : eX3_lies_0 (n + 1) x1 x2 x3 z = (if x1 < x2 then some (some (mm_I 0), z) else if x3 < x1 then some (some (mm_I 0), z) else some (some (mm_I 1), z)) := rfl
def rm_X3_lies : Room := { frames := 0, cells := 0, slots := 0, locals := 0 }
def f_X3_lies (as : List mm_V) (z : mm_S) (o : mm_R) : Prop := (as.map mm_cat).sum ≤ 3 ∧ ∃ n, go_X3_lies n 0 (mm_ar 0 as) [] z = some o
theorem M_X3_lies : mm_M lyTX lyFA lenX snX 46 48 17 roX rsA nfA nmA ssX yX3_lies cX3_lies 3 (some .boolean) rm_X3_lies f_X3_lies :=
  mm_met (rt := 1) (by decide +kernel) ⟨fun h => absurd h (by decide), fun h => rfl, fun h => absurd h (by decide), fun h => absurd h (by decide)⟩ tbX3_lies_ok hsnX okFX3 okLX3 okGX3 (fun _ _ _ _ => rfl) (fun _ _ _ _ => rfl) (fun _ h => absurd h List.not_mem_nil) (fun _ h => absurd h List.not_mem_nil)
def pX3_lies (x1 : Int32) (x2 : Int32) (x3 : Int32) : Int32 := if x1 < x2 then 0 else if x3 < x1 then 0 else 1
theorem z1_X3_lies (x1 : Int32) (x2 : Int32) (x3 : Int32) : pX3_lies x1 x2 x3 = 0 ∨ pX3_lies x1 x2 x3 = 1 := (mm_i01 (Or.inl rfl) (mm_i01 (Or.inl rfl) (Or.inr rfl)))
theorem sp_X3_lies (x1 : Int32) (x2 : Int32) (x3 : Int32) (z : mm_S) (_ : ∀ v ∈ [mm_I x1, mm_I x2, mm_I x3], mm_ok 46 lyTX 48 17 v) : f_X3_lies [mm_I x1, mm_I x2, mm_I x3] z (some (mm_I (pX3_lies x1 x2 x3)), z) := ⟨Nat.le_of_ble_eq_true rfl, 1, (qX3_lies_0 0 x1 x2 x3 z).trans (mm_if (fun v => some (some (mm_I v), z)) rfl (mm_if (fun v => some (some (mm_I v), z)) rfl rfl))⟩
def clo_X3_lies (as : List mm_V) (z : mm_S) (kk : Option mm_V → mm_S → Option mm_R) : Option mm_R := mm_pi as fun a0 as => mm_pi as fun a1 as => mm_pi as fun a2 as => (match as with | [] => kk (some (mm_I (pX3_lies a0 a1 a2))) z | _ => none)
theorem cs_X3_lies : mm_cs lyTX 46 48 17 f_X3_lies clo_X3_lies := by
  intro as z K o hk h
  obtain ⟨a0, r0, rfl, g0⟩ := mm_pi_e h
  obtain ⟨a1, r1, rfl, g1⟩ := mm_pi_e g0
  obtain ⟨a2, r2, rfl, g2⟩ := mm_pi_e g1
  rcases r2 with _ | ⟨u, w⟩
  rotate_left
  · cases g2
  exact ⟨_, _, sp_X3_lies a0 a1 a2 z hk, fun v hv => by cases hv; exact Or.inl ⟨_, rfl⟩, g2⟩
theorem sS_X3_lies {own : String} {R : Room} {ar : Nat → Nat} {k : Nat} (hlink : Cond.methodLink own k yX3_lies ∈ lw_gd ∨ ∃ host, (own, k, yX3_lies, host) ∈ nmA) (har : ar k = 3) (hr : 1 ≤ R.frames ∧ 22 ≤ R.locals) : mm_okS lyTX lyFA lenX snX 46 48 17 roX rsA nfA nmA ssX own R ar k clo_X3_lies :=
  Or.inl ⟨yX3_lies, cX3_lies, 3, some .boolean, rm_X3_lies, f_X3_lies, M_X3_lies, cs_X3_lies, hlink, ⟨ws_X3_lies, wi_X3_lies, wc_X3_lies⟩, ⟨by decide +kernel, by decide +kernel, by rw [har]; decide +kernel⟩, ⟨rfl, rfl, hr.1, hr.2⟩⟩
-- X3_isCell
def lV_X3_isCell : List (Nat × (List mm_V → mm_S → (Option mm_V → mm_S → Option mm_R) → Option mm_R)) := []
def mV_X3_isCell (k : Nat) (as : List mm_V) (z : mm_S) (kk : Option mm_V → mm_S → Option mm_R) : Option mm_R := match mm_at lV_X3_isCell k with
  | some f => f as z kk
  | none => none
def arV_X3_isCell (k : Nat) : Nat := (mm_at [] k).getD 0
def lS_X3_isCell : List (Nat × (List mm_V → mm_S → (Option mm_V → mm_S → Option mm_R) → Option mm_R)) := [(118, clo_X3_lies)]
def mS_X3_isCell (k : Nat) (as : List mm_V) (z : mm_S) (kk : Option mm_V → mm_S → Option mm_R) : Option mm_R := match mm_at lS_X3_isCell k with
  | some f => f as z kk
  | none => none
def arS_X3_isCell (k : Nat) : Nat := (mm_at [(118, 3)] k).getD 0
def ct_X3_isCell : List (Nat × List Nat) := []
def go_X3_isCell : Nat → mm_K := mm_go (fun k => mm_at flX3 k) (fun k => mm_at clX3 k) (fun k => mm_at glX3 k) arV_X3_isCell arS_X3_isCell mV_X3_isCell mS_X3_isCell lenX roX snX 1 1 tbX3_isCell ct_X3_isCell
def eX3_isCell_0 (n : Nat) (x1 : Int32) (z : mm_S) : Option mm_R := go_X3_isCell n 0 [(0, mm_I x1)] [] z
set_option maxRecDepth 100000 in
theorem qX3_isCell_0 (n : Nat) (x1 : Int32) (z : mm_S) : eX3_isCell_0 (n + 1) x1 z = (mm_rt 1 (pX3_lies x1 0 35) z) := rfl
def rm_X3_isCell : Room := { frames := 1, cells := 0, slots := 0, locals := 22 }
def f_X3_isCell (as : List mm_V) (z : mm_S) (o : mm_R) : Prop := (as.map mm_cat).sum ≤ 1 ∧ ∃ n, go_X3_isCell n 0 (mm_ar 0 as) [] z = some o
theorem M_X3_isCell : mm_M lyTX lyFA lenX snX 46 48 17 roX rsA nfA nmA ssX yX3_isCell cX3_isCell 1 (some .boolean) rm_X3_isCell f_X3_isCell :=
  mm_met (rt := 1) (by decide +kernel) ⟨fun h => absurd h (by decide), fun h => rfl, fun h => absurd h (by decide), fun h => absurd h (by decide)⟩ tbX3_isCell_ok hsnX okFX3 okLX3 okGX3 (fun _ _ _ _ => rfl) (fun _ _ _ _ => rfl) (fun _ h => absurd h List.not_mem_nil) (List.forall_mem_cons.mpr ⟨sS_X3_lies (Or.inl lk_X3_118) rfl ⟨by decide, by decide⟩, fun _ h => absurd h List.not_mem_nil⟩)
def pX3_isCell (x1 : Int32) : Int32 := (pX3_lies x1 0 35)
theorem z1_X3_isCell (x1 : Int32) : pX3_isCell x1 = 0 ∨ pX3_isCell x1 = 1 := (z1_X3_lies x1 0 35)
theorem sp_X3_isCell (x1 : Int32) (z : mm_S) (_ : ∀ v ∈ [mm_I x1], mm_ok 46 lyTX 48 17 v) : f_X3_isCell [mm_I x1] z (some (mm_I (pX3_isCell x1)), z) := ⟨Nat.le_of_ble_eq_true rfl, 1, (qX3_isCell_0 0 x1 z).trans (mm_rt1 z (z1_X3_lies x1 0 35))⟩
def clo_X3_isCell (as : List mm_V) (z : mm_S) (kk : Option mm_V → mm_S → Option mm_R) : Option mm_R := mm_pi as fun a0 as => (match as with | [] => kk (some (mm_I (pX3_isCell a0))) z | _ => none)
theorem cs_X3_isCell : mm_cs lyTX 46 48 17 f_X3_isCell clo_X3_isCell := by
  intro as z K o hk h
  obtain ⟨a0, r0, rfl, g0⟩ := mm_pi_e h
  rcases r0 with _ | ⟨u, w⟩
  rotate_left
  · cases g0
  exact ⟨_, _, sp_X3_isCell a0 z hk, fun v hv => by cases hv; exact Or.inl ⟨_, rfl⟩, g0⟩
theorem sS_X3_isCell {own : String} {R : Room} {ar : Nat → Nat} {k : Nat} (hlink : Cond.methodLink own k yX3_isCell ∈ lw_gd ∨ ∃ host, (own, k, yX3_isCell, host) ∈ nmA) (har : ar k = 1) (hr : 2 ≤ R.frames ∧ 42 ≤ R.locals) : mm_okS lyTX lyFA lenX snX 46 48 17 roX rsA nfA nmA ssX own R ar k clo_X3_isCell :=
  Or.inl ⟨yX3_isCell, cX3_isCell, 1, some .boolean, rm_X3_isCell, f_X3_isCell, M_X3_isCell, cs_X3_isCell, hlink, ⟨ws_X3_isCell, wi_X3_isCell, wc_X3_isCell⟩, ⟨by decide +kernel, by decide +kernel, by rw [har]; decide +kernel⟩, ⟨rfl, rfl, hr.1, hr.2⟩⟩
-- X3_isStuff
def lV_X3_isStuff : List (Nat × (List mm_V → mm_S → (Option mm_V → mm_S → Option mm_R) → Option mm_R)) := []
def mV_X3_isStuff (k : Nat) (as : List mm_V) (z : mm_S) (kk : Option mm_V → mm_S → Option mm_R) : Option mm_R := match mm_at lV_X3_isStuff k with
  | some f => f as z kk
  | none => none
def arV_X3_isStuff (k : Nat) : Nat := (mm_at [] k).getD 0
def lS_X3_isStuff : List (Nat × (List mm_V → mm_S → (Option mm_V → mm_S → Option mm_R) → Option mm_R)) := [(118, clo_X3_lies)]
def mS_X3_isStuff (k : Nat) (as : List mm_V) (z : mm_S) (kk : Option mm_V → mm_S → Option mm_R) : Option mm_R := match mm_at lS_X3_isStuff k with
  | some f => f as z kk
  | none => none
def arS_X3_isStuff (k : Nat) : Nat := (mm_at [(118, 3)] k).getD 0
def ct_X3_isStuff : List (Nat × List Nat) := []
def go_X3_isStuff : Nat → mm_K := mm_go (fun k => mm_at flX3 k) (fun k => mm_at clX3 k) (fun k => mm_at glX3 k) arV_X3_isStuff arS_X3_isStuff mV_X3_isStuff mS_X3_isStuff lenX roX snX 1 1 tbX3_isStuff ct_X3_isStuff
def eX3_isStuff_0 (n : Nat) (x1 : Int32) (z : mm_S) : Option mm_R := go_X3_isStuff n 0 [(0, mm_I x1)] [] z
set_option maxRecDepth 100000 in
theorem qX3_isStuff_0 (n : Nat) (x1 : Int32) (z : mm_S) : eX3_isStuff_0 (n + 1) x1 z = (mm_rt 1 (pX3_lies x1 0 4) z) := rfl
def rm_X3_isStuff : Room := { frames := 1, cells := 0, slots := 0, locals := 22 }
def f_X3_isStuff (as : List mm_V) (z : mm_S) (o : mm_R) : Prop := (as.map mm_cat).sum ≤ 1 ∧ ∃ n, go_X3_isStuff n 0 (mm_ar 0 as) [] z = some o
theorem M_X3_isStuff : mm_M lyTX lyFA lenX snX 46 48 17 roX rsA nfA nmA ssX yX3_isStuff cX3_isStuff 1 (some .boolean) rm_X3_isStuff f_X3_isStuff :=
  mm_met (rt := 1) (by decide +kernel) ⟨fun h => absurd h (by decide), fun h => rfl, fun h => absurd h (by decide), fun h => absurd h (by decide)⟩ tbX3_isStuff_ok hsnX okFX3 okLX3 okGX3 (fun _ _ _ _ => rfl) (fun _ _ _ _ => rfl) (fun _ h => absurd h List.not_mem_nil) (List.forall_mem_cons.mpr ⟨sS_X3_lies (Or.inl lk_X3_118) rfl ⟨by decide, by decide⟩, fun _ h => absurd h List.not_mem_nil⟩)
def pX3_isStuff (x1 : Int32) : Int32 := (pX3_lies x1 0 4)
theorem z1_X3_isStuff (x1 : Int32) : pX3_isStuff x1 = 0 ∨ pX3_isStuff x1 = 1 := (z1_X3_lies x1 0 4)
theorem sp_X3_isStuff (x1 : Int32) (z : mm_S) (_ : ∀ v ∈ [mm_I x1], mm_ok 46 lyTX 48 17 v) : f_X3_isStuff [mm_I x1] z (some (mm_I (pX3_isStuff x1)), z) := ⟨Nat.le_of_ble_eq_true rfl, 1, (qX3_isStuff_0 0 x1 z).trans (mm_rt1 z (z1_X3_lies x1 0 4))⟩
def clo_X3_isStuff (as : List mm_V) (z : mm_S) (kk : Option mm_V → mm_S → Option mm_R) : Option mm_R := mm_pi as fun a0 as => (match as with | [] => kk (some (mm_I (pX3_isStuff a0))) z | _ => none)
theorem cs_X3_isStuff : mm_cs lyTX 46 48 17 f_X3_isStuff clo_X3_isStuff := by
  intro as z K o hk h
  obtain ⟨a0, r0, rfl, g0⟩ := mm_pi_e h
  rcases r0 with _ | ⟨u, w⟩
  rotate_left
  · cases g0
  exact ⟨_, _, sp_X3_isStuff a0 z hk, fun v hv => by cases hv; exact Or.inl ⟨_, rfl⟩, g0⟩
theorem sS_X3_isStuff {own : String} {R : Room} {ar : Nat → Nat} {k : Nat} (hlink : Cond.methodLink own k yX3_isStuff ∈ lw_gd ∨ ∃ host, (own, k, yX3_isStuff, host) ∈ nmA) (har : ar k = 1) (hr : 2 ≤ R.frames ∧ 42 ≤ R.locals) : mm_okS lyTX lyFA lenX snX 46 48 17 roX rsA nfA nmA ssX own R ar k clo_X3_isStuff :=
  Or.inl ⟨yX3_isStuff, cX3_isStuff, 1, some .boolean, rm_X3_isStuff, f_X3_isStuff, M_X3_isStuff, cs_X3_isStuff, hlink, ⟨ws_X3_isStuff, wi_X3_isStuff, wc_X3_isStuff⟩, ⟨by decide +kernel, by decide +kernel, by rw [har]; decide +kernel⟩, ⟨rfl, rfl, hr.1, hr.2⟩⟩
-- X3_isKind
def lV_X3_isKind : List (Nat × (List mm_V → mm_S → (Option mm_V → mm_S → Option mm_R) → Option mm_R)) := []
def mV_X3_isKind (k : Nat) (as : List mm_V) (z : mm_S) (kk : Option mm_V → mm_S → Option mm_R) : Option mm_R := match mm_at lV_X3_isKind k with
  | some f => f as z kk
  | none => none
def arV_X3_isKind (k : Nat) : Nat := (mm_at [] k).getD 0
def lS_X3_isKind : List (Nat × (List mm_V → mm_S → (Option mm_V → mm_S → Option mm_R) → Option mm_R)) := [(118, clo_X3_lies)]
def mS_X3_isKind (k : Nat) (as : List mm_V) (z : mm_S) (kk : Option mm_V → mm_S → Option mm_R) : Option mm_R := match mm_at lS_X3_isKind k with
  | some f => f as z kk
  | none => none
def arS_X3_isKind (k : Nat) : Nat := (mm_at [(118, 3)] k).getD 0
def ct_X3_isKind : List (Nat × List Nat) := []
def go_X3_isKind : Nat → mm_K := mm_go (fun k => mm_at flX3 k) (fun k => mm_at clX3 k) (fun k => mm_at glX3 k) arV_X3_isKind arS_X3_isKind mV_X3_isKind mS_X3_isKind lenX roX snX 1 1 tbX3_isKind ct_X3_isKind
def eX3_isKind_0 (n : Nat) (x1 : Int32) (z : mm_S) : Option mm_R := go_X3_isKind n 0 [(0, mm_I x1)] [] z
set_option maxRecDepth 100000 in
theorem qX3_isKind_0 (n : Nat) (x1 : Int32) (z : mm_S) : eX3_isKind_0 (n + 1) x1 z = (mm_rt 1 (pX3_lies x1 0 6) z) := rfl
def rm_X3_isKind : Room := { frames := 1, cells := 0, slots := 0, locals := 22 }
def f_X3_isKind (as : List mm_V) (z : mm_S) (o : mm_R) : Prop := (as.map mm_cat).sum ≤ 1 ∧ ∃ n, go_X3_isKind n 0 (mm_ar 0 as) [] z = some o
theorem M_X3_isKind : mm_M lyTX lyFA lenX snX 46 48 17 roX rsA nfA nmA ssX yX3_isKind cX3_isKind 1 (some .boolean) rm_X3_isKind f_X3_isKind :=
  mm_met (rt := 1) (by decide +kernel) ⟨fun h => absurd h (by decide), fun h => rfl, fun h => absurd h (by decide), fun h => absurd h (by decide)⟩ tbX3_isKind_ok hsnX okFX3 okLX3 okGX3 (fun _ _ _ _ => rfl) (fun _ _ _ _ => rfl) (fun _ h => absurd h List.not_mem_nil) (List.forall_mem_cons.mpr ⟨sS_X3_lies (Or.inl lk_X3_118) rfl ⟨by decide, by decide⟩, fun _ h => absurd h List.not_mem_nil⟩)
def pX3_isKind (x1 : Int32) : Int32 := (pX3_lies x1 0 6)
theorem z1_X3_isKind (x1 : Int32) : pX3_isKind x1 = 0 ∨ pX3_isKind x1 = 1 := (z1_X3_lies x1 0 6)
theorem sp_X3_isKind (x1 : Int32) (z : mm_S) (_ : ∀ v ∈ [mm_I x1], mm_ok 46 lyTX 48 17 v) : f_X3_isKind [mm_I x1] z (some (mm_I (pX3_isKind x1)), z) := ⟨Nat.le_of_ble_eq_true rfl, 1, (qX3_isKind_0 0 x1 z).trans (mm_rt1 z (z1_X3_lies x1 0 6))⟩
def clo_X3_isKind (as : List mm_V) (z : mm_S) (kk : Option mm_V → mm_S → Option mm_R) : Option mm_R := mm_pi as fun a0 as => (match as with | [] => kk (some (mm_I (pX3_isKind a0))) z | _ => none)
theorem cs_X3_isKind : mm_cs lyTX 46 48 17 f_X3_isKind clo_X3_isKind := by
  intro as z K o hk h
  obtain ⟨a0, r0, rfl, g0⟩ := mm_pi_e h
  rcases r0 with _ | ⟨u, w⟩
  rotate_left
  · cases g0
  exact ⟨_, _, sp_X3_isKind a0 z hk, fun v hv => by cases hv; exact Or.inl ⟨_, rfl⟩, g0⟩
theorem sS_X3_isKind {own : String} {R : Room} {ar : Nat → Nat} {k : Nat} (hlink : Cond.methodLink own k yX3_isKind ∈ lw_gd ∨ ∃ host, (own, k, yX3_isKind, host) ∈ nmA) (har : ar k = 1) (hr : 2 ≤ R.frames ∧ 42 ≤ R.locals) : mm_okS lyTX lyFA lenX snX 46 48 17 roX rsA nfA nmA ssX own R ar k clo_X3_isKind :=
  Or.inl ⟨yX3_isKind, cX3_isKind, 1, some .boolean, rm_X3_isKind, f_X3_isKind, M_X3_isKind, cs_X3_isKind, hlink, ⟨ws_X3_isKind, wi_X3_isKind, wc_X3_isKind⟩, ⟨by decide +kernel, by decide +kernel, by rw [har]; decide +kernel⟩, ⟨rfl, rfl, hr.1, hr.2⟩⟩
-- X3_isSpot
def lV_X3_isSpot : List (Nat × (List mm_V → mm_S → (Option mm_V → mm_S → Option mm_R) → Option mm_R)) := []
def mV_X3_isSpot (k : Nat) (as : List mm_V) (z : mm_S) (kk : Option mm_V → mm_S → Option mm_R) : Option mm_R := match mm_at lV_X3_isSpot k with
  | some f => f as z kk
  | none => none
def arV_X3_isSpot (k : Nat) : Nat := (mm_at [] k).getD 0
def lS_X3_isSpot : List (Nat × (List mm_V → mm_S → (Option mm_V → mm_S → Option mm_R) → Option mm_R)) := [(118, clo_X3_lies)]
def mS_X3_isSpot (k : Nat) (as : List mm_V) (z : mm_S) (kk : Option mm_V → mm_S → Option mm_R) : Option mm_R := match mm_at lS_X3_isSpot k with
  | some f => f as z kk
  | none => none
def arS_X3_isSpot (k : Nat) : Nat := (mm_at [(118, 3)] k).getD 0
def ct_X3_isSpot : List (Nat × List Nat) := []
def go_X3_isSpot : Nat → mm_K := mm_go (fun k => mm_at flX3 k) (fun k => mm_at clX3 k) (fun k => mm_at glX3 k) arV_X3_isSpot arS_X3_isSpot mV_X3_isSpot mS_X3_isSpot lenX roX snX 1 1 tbX3_isSpot ct_X3_isSpot
def eX3_isSpot_0 (n : Nat) (x1 : Int32) (z : mm_S) : Option mm_R := go_X3_isSpot n 0 [(0, mm_I x1)] [] z
set_option maxRecDepth 100000 in
theorem qX3_isSpot_0 (n : Nat) (x1 : Int32) (z : mm_S) : eX3_isSpot_0 (n + 1) x1 z = (mm_rt 1 (pX3_lies x1 0 9) z) := rfl
def rm_X3_isSpot : Room := { frames := 1, cells := 0, slots := 0, locals := 22 }
def f_X3_isSpot (as : List mm_V) (z : mm_S) (o : mm_R) : Prop := (as.map mm_cat).sum ≤ 1 ∧ ∃ n, go_X3_isSpot n 0 (mm_ar 0 as) [] z = some o
theorem M_X3_isSpot : mm_M lyTX lyFA lenX snX 46 48 17 roX rsA nfA nmA ssX yX3_isSpot cX3_isSpot 1 (some .boolean) rm_X3_isSpot f_X3_isSpot :=
  mm_met (rt := 1) (by decide +kernel) ⟨fun h => absurd h (by decide), fun h => rfl, fun h => absurd h (by decide), fun h => absurd h (by decide)⟩ tbX3_isSpot_ok hsnX okFX3 okLX3 okGX3 (fun _ _ _ _ => rfl) (fun _ _ _ _ => rfl) (fun _ h => absurd h List.not_mem_nil) (List.forall_mem_cons.mpr ⟨sS_X3_lies (Or.inl lk_X3_118) rfl ⟨by decide, by decide⟩, fun _ h => absurd h List.not_mem_nil⟩)
def pX3_isSpot (x1 : Int32) : Int32 := (pX3_lies x1 0 9)
theorem z1_X3_isSpot (x1 : Int32) : pX3_isSpot x1 = 0 ∨ pX3_isSpot x1 = 1 := (z1_X3_lies x1 0 9)
theorem sp_X3_isSpot (x1 : Int32) (z : mm_S) (_ : ∀ v ∈ [mm_I x1], mm_ok 46 lyTX 48 17 v) : f_X3_isSpot [mm_I x1] z (some (mm_I (pX3_isSpot x1)), z) := ⟨Nat.le_of_ble_eq_true rfl, 1, (qX3_isSpot_0 0 x1 z).trans (mm_rt1 z (z1_X3_lies x1 0 9))⟩
def clo_X3_isSpot (as : List mm_V) (z : mm_S) (kk : Option mm_V → mm_S → Option mm_R) : Option mm_R := mm_pi as fun a0 as => (match as with | [] => kk (some (mm_I (pX3_isSpot a0))) z | _ => none)
theorem cs_X3_isSpot : mm_cs lyTX 46 48 17 f_X3_isSpot clo_X3_isSpot := by
  intro as z K o hk h
  obtain ⟨a0, r0, rfl, g0⟩ := mm_pi_e h
  rcases r0 with _ | ⟨u, w⟩
  rotate_left
  · cases g0
  exact ⟨_, _, sp_X3_isSpot a0 z hk, fun v hv => by cases hv; exact Or.inl ⟨_, rfl⟩, g0⟩
theorem sS_X3_isSpot {own : String} {R : Room} {ar : Nat → Nat} {k : Nat} (hlink : Cond.methodLink own k yX3_isSpot ∈ lw_gd ∨ ∃ host, (own, k, yX3_isSpot, host) ∈ nmA) (har : ar k = 1) (hr : 2 ≤ R.frames ∧ 42 ≤ R.locals) : mm_okS lyTX lyFA lenX snX 46 48 17 roX rsA nfA nmA ssX own R ar k clo_X3_isSpot :=
  Or.inl ⟨yX3_isSpot, cX3_isSpot, 1, some .boolean, rm_X3_isSpot, f_X3_isSpot, M_X3_isSpot, cs_X3_isSpot, hlink, ⟨ws_X3_isSpot, wi_X3_isSpot, wc_X3_isSpot⟩, ⟨by decide +kernel, by decide +kernel, by rw [har]; decide +kernel⟩, ⟨rfl, rfl, hr.1, hr.2⟩⟩
-- X3_isSheet
def lV_X3_isSheet : List (Nat × (List mm_V → mm_S → (Option mm_V → mm_S → Option mm_R) → Option mm_R)) := []
def mV_X3_isSheet (k : Nat) (as : List mm_V) (z : mm_S) (kk : Option mm_V → mm_S → Option mm_R) : Option mm_R := match mm_at lV_X3_isSheet k with
  | some f => f as z kk
  | none => none
def arV_X3_isSheet (k : Nat) : Nat := (mm_at [] k).getD 0
def lS_X3_isSheet : List (Nat × (List mm_V → mm_S → (Option mm_V → mm_S → Option mm_R) → Option mm_R)) := [(118, clo_X3_lies)]
def mS_X3_isSheet (k : Nat) (as : List mm_V) (z : mm_S) (kk : Option mm_V → mm_S → Option mm_R) : Option mm_R := match mm_at lS_X3_isSheet k with
  | some f => f as z kk
  | none => none
def arS_X3_isSheet (k : Nat) : Nat := (mm_at [(118, 3)] k).getD 0
def ct_X3_isSheet : List (Nat × List Nat) := []
def go_X3_isSheet : Nat → mm_K := mm_go (fun k => mm_at flX3 k) (fun k => mm_at clX3 k) (fun k => mm_at glX3 k) arV_X3_isSheet arS_X3_isSheet mV_X3_isSheet mS_X3_isSheet lenX roX snX 1 1 tbX3_isSheet ct_X3_isSheet
def eX3_isSheet_0 (n : Nat) (x1 : Int32) (z : mm_S) : Option mm_R := go_X3_isSheet n 0 [(0, mm_I x1)] [] z
set_option maxRecDepth 100000 in
theorem qX3_isSheet_0 (n : Nat) (x1 : Int32) (z : mm_S) : eX3_isSheet_0 (n + 1) x1 z = (mm_rt 1 (pX3_lies x1 0 3) z) := rfl
def rm_X3_isSheet : Room := { frames := 1, cells := 0, slots := 0, locals := 22 }
def f_X3_isSheet (as : List mm_V) (z : mm_S) (o : mm_R) : Prop := (as.map mm_cat).sum ≤ 1 ∧ ∃ n, go_X3_isSheet n 0 (mm_ar 0 as) [] z = some o
theorem M_X3_isSheet : mm_M lyTX lyFA lenX snX 46 48 17 roX rsA nfA nmA ssX yX3_isSheet cX3_isSheet 1 (some .boolean) rm_X3_isSheet f_X3_isSheet :=
  mm_met (rt := 1) (by decide +kernel) ⟨fun h => absurd h (by decide), fun h => rfl, fun h => absurd h (by decide), fun h => absurd h (by decide)⟩ tbX3_isSheet_ok hsnX okFX3 okLX3 okGX3 (fun _ _ _ _ => rfl) (fun _ _ _ _ => rfl) (fun _ h => absurd h List.not_mem_nil) (List.forall_mem_cons.mpr ⟨sS_X3_lies (Or.inl lk_X3_118) rfl ⟨by decide, by decide⟩, fun _ h => absurd h List.not_mem_nil⟩)
def pX3_isSheet (x1 : Int32) : Int32 := (pX3_lies x1 0 3)
theorem z1_X3_isSheet (x1 : Int32) : pX3_isSheet x1 = 0 ∨ pX3_isSheet x1 = 1 := (z1_X3_lies x1 0 3)
theorem sp_X3_isSheet (x1 : Int32) (z : mm_S) (_ : ∀ v ∈ [mm_I x1], mm_ok 46 lyTX 48 17 v) : f_X3_isSheet [mm_I x1] z (some (mm_I (pX3_isSheet x1)), z) := ⟨Nat.le_of_ble_eq_true rfl, 1, (qX3_isSheet_0 0 x1 z).trans (mm_rt1 z (z1_X3_lies x1 0 3))⟩
def clo_X3_isSheet (as : List mm_V) (z : mm_S) (kk : Option mm_V → mm_S → Option mm_R) : Option mm_R := mm_pi as fun a0 as => (match as with | [] => kk (some (mm_I (pX3_isSheet a0))) z | _ => none)
theorem cs_X3_isSheet : mm_cs lyTX 46 48 17 f_X3_isSheet clo_X3_isSheet := by
  intro as z K o hk h
  obtain ⟨a0, r0, rfl, g0⟩ := mm_pi_e h
  rcases r0 with _ | ⟨u, w⟩
  rotate_left
  · cases g0
  exact ⟨_, _, sp_X3_isSheet a0 z hk, fun v hv => by cases hv; exact Or.inl ⟨_, rfl⟩, g0⟩
theorem sS_X3_isSheet {own : String} {R : Room} {ar : Nat → Nat} {k : Nat} (hlink : Cond.methodLink own k yX3_isSheet ∈ lw_gd ∨ ∃ host, (own, k, yX3_isSheet, host) ∈ nmA) (har : ar k = 1) (hr : 2 ≤ R.frames ∧ 42 ≤ R.locals) : mm_okS lyTX lyFA lenX snX 46 48 17 roX rsA nfA nmA ssX own R ar k clo_X3_isSheet :=
  Or.inl ⟨yX3_isSheet, cX3_isSheet, 1, some .boolean, rm_X3_isSheet, f_X3_isSheet, M_X3_isSheet, cs_X3_isSheet, hlink, ⟨ws_X3_isSheet, wi_X3_isSheet, wc_X3_isSheet⟩, ⟨by decide +kernel, by decide +kernel, by rw [har]; decide +kernel⟩, ⟨rfl, rfl, hr.1, hr.2⟩⟩
-- X3_besides
def lV_X3_besides : List (Nat × (List mm_V → mm_S → (Option mm_V → mm_S → Option mm_R) → Option mm_R)) := []
def mV_X3_besides (k : Nat) (as : List mm_V) (z : mm_S) (kk : Option mm_V → mm_S → Option mm_R) : Option mm_R := match mm_at lV_X3_besides k with
  | some f => f as z kk
  | none => none
def arV_X3_besides (k : Nat) : Nat := (mm_at [] k).getD 0
def lS_X3_besides : List (Nat × (List mm_V → mm_S → (Option mm_V → mm_S → Option mm_R) → Option mm_R)) := []
def mS_X3_besides (k : Nat) (as : List mm_V) (z : mm_S) (kk : Option mm_V → mm_S → Option mm_R) : Option mm_R := match mm_at lS_X3_besides k with
  | some f => f as z kk
  | none => none
def arS_X3_besides (k : Nat) : Nat := (mm_at [] k).getD 0
def ct_X3_besides : List (Nat × List Nat) := []
def go_X3_besides : Nat → mm_K := mm_go (fun k => mm_at flX3 k) (fun k => mm_at clX3 k) (fun k => mm_at glX3 k) arV_X3_besides arS_X3_besides mV_X3_besides mS_X3_besides lenX roX snX 10 2 tbX3_besides ct_X3_besides
def eX3_besides_0 (n : Nat) (x1 : Int64) (z : mm_S) : Option mm_R := go_X3_besides n 0 [(0, mm_J x1)] [] z
set_option maxRecDepth 100000 in
theorem qX3_besides_0 (n : Nat) (x1 : Int64) (z : mm_S) : eX3_besides_0 (n + 1) x1 z = (let v1 : Int64 := ((x1 <<< (Int32.toInt64 6 &&& 63)) &&& 68719476735); let v2 : Int64 := (Int64.toUInt64 x1 >>> (Int64.toUInt64 (Int32.toInt64 6) &&& Int64.toUInt64 63)).toInt64; let v3 : Int64 := ((x1 &&& (-34905131041)) <<< (Int32.toInt64 1 &&& 63)); let v4 : Int64 := (Int64.toUInt64 (x1 &&& (-1090785346)) >>> (Int64.toUInt64 (Int32.toInt64 1) &&& Int64.toUInt64 63)).toInt64; some (some (mm_J (((v1 ||| v2) ||| v3) ||| v4)), z)) := rfl
def rm_X3_besides : Room := { frames := 0, cells := 0, slots := 0, locals := 0 }
def f_X3_besides (as : List mm_V) (z : mm_S) (o : mm_R) : Prop := (as.map mm_cat).sum ≤ 10 ∧ ∃ n, go_X3_besides n 0 (mm_ar 0 as) [] z = some o
theorem M_X3_besides : mm_M lyTX lyFA lenX snX 46 48 17 roX rsA nfA nmA ssX yX3_besides cX3_besides 10 (some .long) rm_X3_besides f_X3_besides :=
  mm_met (rt := 2) (by decide +kernel) ⟨fun h => absurd h (by decide), fun h => absurd h (by decide), fun h => rfl, fun h => absurd h (by decide)⟩ tbX3_besides_ok hsnX okFX3 okLX3 okGX3 (fun _ _ _ _ => rfl) (fun _ _ _ _ => rfl) (fun _ h => absurd h List.not_mem_nil) (fun _ h => absurd h List.not_mem_nil)
def pX3_besides (x1 : Int64) : Int64 := let v1 : Int64 := ((x1 <<< (Int32.toInt64 6 &&& 63)) &&& 68719476735); let v2 : Int64 := (Int64.toUInt64 x1 >>> (Int64.toUInt64 (Int32.toInt64 6) &&& Int64.toUInt64 63)).toInt64; let v3 : Int64 := ((x1 &&& (-34905131041)) <<< (Int32.toInt64 1 &&& 63)); let v4 : Int64 := (Int64.toUInt64 (x1 &&& (-1090785346)) >>> (Int64.toUInt64 (Int32.toInt64 1) &&& Int64.toUInt64 63)).toInt64; (((v1 ||| v2) ||| v3) ||| v4)
theorem sp_X3_besides (x1 : Int64) (z : mm_S) (_ : ∀ v ∈ [mm_J x1], mm_ok 46 lyTX 48 17 v) : f_X3_besides [mm_J x1] z (some (mm_J (pX3_besides x1)), z) := ⟨Nat.le_of_ble_eq_true rfl, 1, (qX3_besides_0 0 x1 z).trans rfl⟩
def clo_X3_besides (as : List mm_V) (z : mm_S) (kk : Option mm_V → mm_S → Option mm_R) : Option mm_R := mm_pj as fun a0 as => (match as with | [] => kk (some (mm_J (pX3_besides a0))) z | _ => none)
theorem cs_X3_besides : mm_cs lyTX 46 48 17 f_X3_besides clo_X3_besides := by
  intro as z K o hk h
  obtain ⟨a0, r0, rfl, g0⟩ := mm_pj_e h
  rcases r0 with _ | ⟨u, w⟩
  rotate_left
  · cases g0
  exact ⟨_, _, sp_X3_besides a0 z hk, fun v hv => by cases hv; exact Or.inr ⟨_, rfl⟩, g0⟩
theorem sS_X3_besides {own : String} {R : Room} {ar : Nat → Nat} {k : Nat} (hlink : Cond.methodLink own k yX3_besides ∈ lw_gd ∨ ∃ host, (own, k, yX3_besides, host) ∈ nmA) (har : ar k = 1) (hr : 1 ≤ R.frames ∧ 29 ≤ R.locals) : mm_okS lyTX lyFA lenX snX 46 48 17 roX rsA nfA nmA ssX own R ar k clo_X3_besides :=
  Or.inl ⟨yX3_besides, cX3_besides, 10, some .long, rm_X3_besides, f_X3_besides, M_X3_besides, cs_X3_besides, hlink, ⟨ws_X3_besides, wi_X3_besides, wc_X3_besides⟩, ⟨by decide +kernel, by decide +kernel, by rw [har]; decide +kernel⟩, ⟨rfl, rfl, hr.1, hr.2⟩⟩
-- X3_setOf
def lV_X3_setOf : List (Nat × (List mm_V → mm_S → (Option mm_V → mm_S → Option mm_R) → Option mm_R)) := []
def mV_X3_setOf (k : Nat) (as : List mm_V) (z : mm_S) (kk : Option mm_V → mm_S → Option mm_R) : Option mm_R := match mm_at lV_X3_setOf k with
  | some f => f as z kk
  | none => none
def arV_X3_setOf (k : Nat) : Nat := (mm_at [] k).getD 0
def lS_X3_setOf : List (Nat × (List mm_V → mm_S → (Option mm_V → mm_S → Option mm_R) → Option mm_R)) := []
def mS_X3_setOf (k : Nat) (as : List mm_V) (z : mm_S) (kk : Option mm_V → mm_S → Option mm_R) : Option mm_R := match mm_at lS_X3_setOf k with
  | some f => f as z kk
  | none => none
def arS_X3_setOf (k : Nat) : Nat := (mm_at [] k).getD 0
def ct_X3_setOf : List (Nat × List Nat) := []
def go_X3_setOf : Nat → mm_K := mm_go (fun k => mm_at flX3 k) (fun k => mm_at clX3 k) (fun k => mm_at glX3 k) arV_X3_setOf arS_X3_setOf mV_X3_setOf mS_X3_setOf lenX roX snX 1 2 tbX3_setOf ct_X3_setOf
def eX3_setOf_0 (n : Nat) (x1 : Int32) (z : mm_S) : Option mm_R := go_X3_setOf n 0 [(0, mm_I x1)] [] z
set_option maxRecDepth 100000 in
theorem qX3_setOf_0 (n : Nat) (x1 : Int32) (z : mm_S) : eX3_setOf_0 (n + 1) x1 z = (some (some (mm_J (1 <<< (Int32.toInt64 x1 &&& 63))), z)) := rfl
def rm_X3_setOf : Room := { frames := 0, cells := 0, slots := 0, locals := 0 }
def f_X3_setOf (as : List mm_V) (z : mm_S) (o : mm_R) : Prop := (as.map mm_cat).sum ≤ 1 ∧ ∃ n, go_X3_setOf n 0 (mm_ar 0 as) [] z = some o
theorem M_X3_setOf : mm_M lyTX lyFA lenX snX 46 48 17 roX rsA nfA nmA ssX yX3_setOf cX3_setOf 1 (some .long) rm_X3_setOf f_X3_setOf :=
  mm_met (rt := 2) (by decide +kernel) ⟨fun h => absurd h (by decide), fun h => absurd h (by decide), fun h => rfl, fun h => absurd h (by decide)⟩ tbX3_setOf_ok hsnX okFX3 okLX3 okGX3 (fun _ _ _ _ => rfl) (fun _ _ _ _ => rfl) (fun _ h => absurd h List.not_mem_nil) (fun _ h => absurd h List.not_mem_nil)
def pX3_setOf (x1 : Int32) : Int64 := (1 <<< (Int32.toInt64 x1 &&& 63))
theorem sp_X3_setOf (x1 : Int32) (z : mm_S) (_ : ∀ v ∈ [mm_I x1], mm_ok 46 lyTX 48 17 v) : f_X3_setOf [mm_I x1] z (some (mm_J (pX3_setOf x1)), z) := ⟨Nat.le_of_ble_eq_true rfl, 1, (qX3_setOf_0 0 x1 z).trans rfl⟩
def clo_X3_setOf (as : List mm_V) (z : mm_S) (kk : Option mm_V → mm_S → Option mm_R) : Option mm_R := mm_pi as fun a0 as => (match as with | [] => kk (some (mm_J (pX3_setOf a0))) z | _ => none)
theorem cs_X3_setOf : mm_cs lyTX 46 48 17 f_X3_setOf clo_X3_setOf := by
  intro as z K o hk h
  obtain ⟨a0, r0, rfl, g0⟩ := mm_pi_e h
  rcases r0 with _ | ⟨u, w⟩
  rotate_left
  · cases g0
  exact ⟨_, _, sp_X3_setOf a0 z hk, fun v hv => by cases hv; exact Or.inr ⟨_, rfl⟩, g0⟩
theorem sS_X3_setOf {own : String} {R : Room} {ar : Nat → Nat} {k : Nat} (hlink : Cond.methodLink own k yX3_setOf ∈ lw_gd ∨ ∃ host, (own, k, yX3_setOf, host) ∈ nmA) (har : ar k = 1) (hr : 1 ≤ R.frames ∧ 20 ≤ R.locals) : mm_okS lyTX lyFA lenX snX 46 48 17 roX rsA nfA nmA ssX own R ar k clo_X3_setOf :=
  Or.inl ⟨yX3_setOf, cX3_setOf, 1, some .long, rm_X3_setOf, f_X3_setOf, M_X3_setOf, cs_X3_setOf, hlink, ⟨ws_X3_setOf, wi_X3_setOf, wc_X3_setOf⟩, ⟨by decide +kernel, by decide +kernel, by rw [har]; decide +kernel⟩, ⟨rfl, rfl, hr.1, hr.2⟩⟩
-- X3_has
def lV_X3_has : List (Nat × (List mm_V → mm_S → (Option mm_V → mm_S → Option mm_R) → Option mm_R)) := []
def mV_X3_has (k : Nat) (as : List mm_V) (z : mm_S) (kk : Option mm_V → mm_S → Option mm_R) : Option mm_R := match mm_at lV_X3_has k with
  | some f => f as z kk
  | none => none
def arV_X3_has (k : Nat) : Nat := (mm_at [] k).getD 0
def lS_X3_has : List (Nat × (List mm_V → mm_S → (Option mm_V → mm_S → Option mm_R) → Option mm_R)) := []
def mS_X3_has (k : Nat) (as : List mm_V) (z : mm_S) (kk : Option mm_V → mm_S → Option mm_R) : Option mm_R := match mm_at lS_X3_has k with
  | some f => f as z kk
  | none => none
def arS_X3_has (k : Nat) : Nat := (mm_at [] k).getD 0
def ct_X3_has : List (Nat × List Nat) := []
def go_X3_has : Nat → mm_K := mm_go (fun k => mm_at flX3 k) (fun k => mm_at clX3 k) (fun k => mm_at glX3 k) arV_X3_has arS_X3_has mV_X3_has mS_X3_has lenX roX snX 3 1 tbX3_has ct_X3_has
def eX3_has_0 (n : Nat) (x1 : Int64) (x2 : Int32) (z : mm_S) : Option mm_R := go_X3_has n 0 [(0, mm_J x1), (2, mm_I x2)] [] z
set_option maxRecDepth 100000 in
theorem qX3_has_0 (n : Nat) (x1 : Int64) (x2 : Int32) (z : mm_S) : eX3_has_0 (n + 1) x1 x2 z = (if (lg_cmp ((Int64.toUInt64 x1 >>> (Int64.toUInt64 (Int32.toInt64 x2) &&& Int64.toUInt64 63)).toInt64 &&& 1) 0) = 0 then some (some (mm_I 0), z) else some (some (mm_I 1), z)) := rfl
def rm_X3_has : Room := { frames := 0, cells := 0, slots := 0, locals := 0 }
def f_X3_has (as : List mm_V) (z : mm_S) (o : mm_R) : Prop := (as.map mm_cat).sum ≤ 3 ∧ ∃ n, go_X3_has n 0 (mm_ar 0 as) [] z = some o
theorem M_X3_has : mm_M lyTX lyFA lenX snX 46 48 17 roX rsA nfA nmA ssX yX3_has cX3_has 3 (some .boolean) rm_X3_has f_X3_has :=
  mm_met (rt := 1) (by decide +kernel) ⟨fun h => absurd h (by decide), fun h => rfl, fun h => absurd h (by decide), fun h => absurd h (by decide)⟩ tbX3_has_ok hsnX okFX3 okLX3 okGX3 (fun _ _ _ _ => rfl) (fun _ _ _ _ => rfl) (fun _ h => absurd h List.not_mem_nil) (fun _ h => absurd h List.not_mem_nil)
def pX3_has (x1 : Int64) (x2 : Int32) : Int32 := if (lg_cmp ((Int64.toUInt64 x1 >>> (Int64.toUInt64 (Int32.toInt64 x2) &&& Int64.toUInt64 63)).toInt64 &&& 1) 0) = 0 then 0 else 1
theorem z1_X3_has (x1 : Int64) (x2 : Int32) : pX3_has x1 x2 = 0 ∨ pX3_has x1 x2 = 1 := (mm_i01 (Or.inl rfl) (Or.inr rfl))
theorem sp_X3_has (x1 : Int64) (x2 : Int32) (z : mm_S) (_ : ∀ v ∈ [mm_J x1, mm_I x2], mm_ok 46 lyTX 48 17 v) : f_X3_has [mm_J x1, mm_I x2] z (some (mm_I (pX3_has x1 x2)), z) := ⟨Nat.le_of_ble_eq_true rfl, 1, (qX3_has_0 0 x1 x2 z).trans (mm_if (fun v => some (some (mm_I v), z)) rfl rfl)⟩
def clo_X3_has (as : List mm_V) (z : mm_S) (kk : Option mm_V → mm_S → Option mm_R) : Option mm_R := mm_pj as fun a0 as => mm_pi as fun a1 as => (match as with | [] => kk (some (mm_I (pX3_has a0 a1))) z | _ => none)
theorem cs_X3_has : mm_cs lyTX 46 48 17 f_X3_has clo_X3_has := by
  intro as z K o hk h
  obtain ⟨a0, r0, rfl, g0⟩ := mm_pj_e h
  obtain ⟨a1, r1, rfl, g1⟩ := mm_pi_e g0
  rcases r1 with _ | ⟨u, w⟩
  rotate_left
  · cases g1
  exact ⟨_, _, sp_X3_has a0 a1 z hk, fun v hv => by cases hv; exact Or.inl ⟨_, rfl⟩, g1⟩
theorem sS_X3_has {own : String} {R : Room} {ar : Nat → Nat} {k : Nat} (hlink : Cond.methodLink own k yX3_has ∈ lw_gd ∨ ∃ host, (own, k, yX3_has, host) ∈ nmA) (har : ar k = 2) (hr : 1 ≤ R.frames ∧ 22 ≤ R.locals) : mm_okS lyTX lyFA lenX snX 46 48 17 roX rsA nfA nmA ssX own R ar k clo_X3_has :=
  Or.inl ⟨yX3_has, cX3_has, 3, some .boolean, rm_X3_has, f_X3_has, M_X3_has, cs_X3_has, hlink, ⟨ws_X3_has, wi_X3_has, wc_X3_has⟩, ⟨by decide +kernel, by decide +kernel, by rw [har]; decide +kernel⟩, ⟨rfl, rfl, hr.1, hr.2⟩⟩
-- X3_carriesAs
def lV_X3_carriesAs : List (Nat × (List mm_V → mm_S → (Option mm_V → mm_S → Option mm_R) → Option mm_R)) := []
def mV_X3_carriesAs (k : Nat) (as : List mm_V) (z : mm_S) (kk : Option mm_V → mm_S → Option mm_R) : Option mm_R := match mm_at lV_X3_carriesAs k with
  | some f => f as z kk
  | none => none
def arV_X3_carriesAs (k : Nat) : Nat := (mm_at [] k).getD 0
def lS_X3_carriesAs : List (Nat × (List mm_V → mm_S → (Option mm_V → mm_S → Option mm_R) → Option mm_R)) := []
def mS_X3_carriesAs (k : Nat) (as : List mm_V) (z : mm_S) (kk : Option mm_V → mm_S → Option mm_R) : Option mm_R := match mm_at lS_X3_carriesAs k with
  | some f => f as z kk
  | none => none
def arS_X3_carriesAs (k : Nat) : Nat := (mm_at [] k).getD 0
def ct_X3_carriesAs : List (Nat × List Nat) := []
def go_X3_carriesAs : Nat → mm_K := mm_go (fun k => mm_at flX3 k) (fun k => mm_at clX3 k) (fun k => mm_at glX3 k) arV_X3_carriesAs arS_X3_carriesAs mV_X3_carriesAs mS_X3_carriesAs lenX roX snX 5 0 tbX3_carriesAs ct_X3_carriesAs
def eX3_carriesAs_0 (n : Nat) (x1 : Int32) (x2 : Int32) (z : mm_S) : Option mm_R := go_X3_carriesAs n 0 [(0, mm_I x1), (1, mm_I x2)] [] z
set_option maxRecDepth 100000 in
theorem qX3_carriesAs_0 (n : Nat) (x1 : Int32) (x2 : Int32) (z : mm_S) : eX3_carriesAs_0 (n + 1) x1 x2 z = (if x1 = 1 then some (some (mm_I (2 * (4 * x2))), z) else if x1 = 2 then some (some (mm_I ((2 * (4 * x2)) + 5)), z) else if x1 = 3 then some (some (mm_I (((2 * (4 * x2)) + 5) + x2)), z) else if x1 = 4 then some (some (mm_I ((4 * x2) / 2)), z) else if x1 = 5 then some (some (mm_I 0), z) else some (some (mm_I (4 * x2)), z)) := rfl
def rm_X3_carriesAs : Room := { frames := 0, cells := 0, slots := 0, locals := 0 }
def f_X3_carriesAs (as : List mm_V) (z : mm_S) (o : mm_R) : Prop := (as.map mm_cat).sum ≤ 5 ∧ ∃ n, go_X3_carriesAs n 0 (mm_ar 0 as) [] z = some o
theorem M_X3_carriesAs : mm_M lyTX lyFA lenX snX 46 48 17 roX rsA nfA nmA ssX yX3_carriesAs cX3_carriesAs 5 (some .int) rm_X3_carriesAs f_X3_carriesAs :=
  mm_met (rt := 0) (by decide +kernel) ⟨fun h => rfl, fun h => absurd h (by decide), fun h => absurd h (by decide), fun h => absurd h (by decide)⟩ tbX3_carriesAs_ok hsnX okFX3 okLX3 okGX3 (fun _ _ _ _ => rfl) (fun _ _ _ _ => rfl) (fun _ h => absurd h List.not_mem_nil) (fun _ h => absurd h List.not_mem_nil)
def pX3_carriesAs (x1 : Int32) (x2 : Int32) : Int32 := if x1 = 1 then (2 * (4 * x2)) else if x1 = 2 then ((2 * (4 * x2)) + 5) else if x1 = 3 then (((2 * (4 * x2)) + 5) + x2) else if x1 = 4 then ((4 * x2) / 2) else if x1 = 5 then 0 else (4 * x2)
theorem sp_X3_carriesAs (x1 : Int32) (x2 : Int32) (z : mm_S) (_ : ∀ v ∈ [mm_I x1, mm_I x2], mm_ok 46 lyTX 48 17 v) : f_X3_carriesAs [mm_I x1, mm_I x2] z (some (mm_I (pX3_carriesAs x1 x2)), z) := ⟨Nat.le_of_ble_eq_true rfl, 1, (qX3_carriesAs_0 0 x1 x2 z).trans (mm_if (fun v => some (some (mm_I v), z)) rfl (mm_if (fun v => some (some (mm_I v), z)) rfl (mm_if (fun v => some (some (mm_I v), z)) rfl (mm_if (fun v => some (some (mm_I v), z)) rfl (mm_if (fun v => some (some (mm_I v), z)) rfl rfl)))))⟩
def clo_X3_carriesAs (as : List mm_V) (z : mm_S) (kk : Option mm_V → mm_S → Option mm_R) : Option mm_R := mm_pi as fun a0 as => mm_pi as fun a1 as => (match as with | [] => kk (some (mm_I (pX3_carriesAs a0 a1))) z | _ => none)
theorem cs_X3_carriesAs : mm_cs lyTX 46 48 17 f_X3_carriesAs clo_X3_carriesAs := by
  intro as z K o hk h
  obtain ⟨a0, r0, rfl, g0⟩ := mm_pi_e h
  obtain ⟨a1, r1, rfl, g1⟩ := mm_pi_e g0
  rcases r1 with _ | ⟨u, w⟩
  rotate_left
  · cases g1
  exact ⟨_, _, sp_X3_carriesAs a0 a1 z hk, fun v hv => by cases hv; exact Or.inl ⟨_, rfl⟩, g1⟩
theorem sS_X3_carriesAs {own : String} {R : Room} {ar : Nat → Nat} {k : Nat} (hlink : Cond.methodLink own k yX3_carriesAs ∈ lw_gd ∨ ∃ host, (own, k, yX3_carriesAs, host) ∈ nmA) (har : ar k = 2) (hr : 1 ≤ R.frames ∧ 24 ≤ R.locals) : mm_okS lyTX lyFA lenX snX 46 48 17 roX rsA nfA nmA ssX own R ar k clo_X3_carriesAs :=
  Or.inl ⟨yX3_carriesAs, cX3_carriesAs, 5, some .int, rm_X3_carriesAs, f_X3_carriesAs, M_X3_carriesAs, cs_X3_carriesAs, hlink, ⟨ws_X3_carriesAs, wi_X3_carriesAs, wc_X3_carriesAs⟩, ⟨by decide +kernel, by decide +kernel, by rw [har]; decide +kernel⟩, ⟨rfl, rfl, hr.1, hr.2⟩⟩
-- X3_startsAs
def lV_X3_startsAs : List (Nat × (List mm_V → mm_S → (Option mm_V → mm_S → Option mm_R) → Option mm_R)) := []
def mV_X3_startsAs (k : Nat) (as : List mm_V) (z : mm_S) (kk : Option mm_V → mm_S → Option mm_R) : Option mm_R := match mm_at lV_X3_startsAs k with
  | some f => f as z kk
  | none => none
def arV_X3_startsAs (k : Nat) : Nat := (mm_at [] k).getD 0
def lS_X3_startsAs : List (Nat × (List mm_V → mm_S → (Option mm_V → mm_S → Option mm_R) → Option mm_R)) := []
def mS_X3_startsAs (k : Nat) (as : List mm_V) (z : mm_S) (kk : Option mm_V → mm_S → Option mm_R) : Option mm_R := match mm_at lS_X3_startsAs k with
  | some f => f as z kk
  | none => none
def arS_X3_startsAs (k : Nat) : Nat := (mm_at [] k).getD 0
def ct_X3_startsAs : List (Nat × List Nat) := []
def go_X3_startsAs : Nat → mm_K := mm_go (fun k => mm_at flX3 k) (fun k => mm_at clX3 k) (fun k => mm_at glX3 k) arV_X3_startsAs arS_X3_startsAs mV_X3_startsAs mS_X3_startsAs lenX roX snX 1 0 tbX3_startsAs ct_X3_startsAs
def eX3_startsAs_0 (n : Nat) (x1 : Int32) (z : mm_S) : Option mm_R := go_X3_startsAs n 0 [(0, mm_I x1)] [] z
set_option maxRecDepth 100000 in
theorem qX3_startsAs_0 (n : Nat) (x1 : Int32) (z : mm_S) : eX3_startsAs_0 (n + 1) x1 z = (if x1 = 2 then some (some (mm_I 1), z) else if x1 = 3 then some (some (mm_I 2), z) else if x1 = 4 then some (some (mm_I 2), z) else if x1 = 5 then some (some (mm_I 2), z) else some (some (mm_I 0), z)) := rfl
def rm_X3_startsAs : Room := { frames := 0, cells := 0, slots := 0, locals := 0 }
def f_X3_startsAs (as : List mm_V) (z : mm_S) (o : mm_R) : Prop := (as.map mm_cat).sum ≤ 1 ∧ ∃ n, go_X3_startsAs n 0 (mm_ar 0 as) [] z = some o
theorem M_X3_startsAs : mm_M lyTX lyFA lenX snX 46 48 17 roX rsA nfA nmA ssX yX3_startsAs cX3_startsAs 1 (some .int) rm_X3_startsAs f_X3_startsAs :=
  mm_met (rt := 0) (by decide +kernel) ⟨fun h => rfl, fun h => absurd h (by decide), fun h => absurd h (by decide), fun h => absurd h (by decide)⟩ tbX3_startsAs_ok hsnX okFX3 okLX3 okGX3 (fun _ _ _ _ => rfl) (fun _ _ _ _ => rfl) (fun _ h => absurd h List.not_mem_nil) (fun _ h => absurd h List.not_mem_nil)
def pX3_startsAs (x1 : Int32) : Int32 := if x1 = 2 then 1 else if x1 = 3 then 2 else if x1 = 4 then 2 else if x1 = 5 then 2 else 0
theorem sp_X3_startsAs (x1 : Int32) (z : mm_S) (_ : ∀ v ∈ [mm_I x1], mm_ok 46 lyTX 48 17 v) : f_X3_startsAs [mm_I x1] z (some (mm_I (pX3_startsAs x1)), z) := ⟨Nat.le_of_ble_eq_true rfl, 1, (qX3_startsAs_0 0 x1 z).trans (mm_if (fun v => some (some (mm_I v), z)) rfl (mm_if (fun v => some (some (mm_I v), z)) rfl (mm_if (fun v => some (some (mm_I v), z)) rfl (mm_if (fun v => some (some (mm_I v), z)) rfl rfl))))⟩
def clo_X3_startsAs (as : List mm_V) (z : mm_S) (kk : Option mm_V → mm_S → Option mm_R) : Option mm_R := mm_pi as fun a0 as => (match as with | [] => kk (some (mm_I (pX3_startsAs a0))) z | _ => none)
theorem cs_X3_startsAs : mm_cs lyTX 46 48 17 f_X3_startsAs clo_X3_startsAs := by
  intro as z K o hk h
  obtain ⟨a0, r0, rfl, g0⟩ := mm_pi_e h
  rcases r0 with _ | ⟨u, w⟩
  rotate_left
  · cases g0
  exact ⟨_, _, sp_X3_startsAs a0 z hk, fun v hv => by cases hv; exact Or.inl ⟨_, rfl⟩, g0⟩
theorem sS_X3_startsAs {own : String} {R : Room} {ar : Nat → Nat} {k : Nat} (hlink : Cond.methodLink own k yX3_startsAs ∈ lw_gd ∨ ∃ host, (own, k, yX3_startsAs, host) ∈ nmA) (har : ar k = 1) (hr : 1 ≤ R.frames ∧ 20 ≤ R.locals) : mm_okS lyTX lyFA lenX snX 46 48 17 roX rsA nfA nmA ssX own R ar k clo_X3_startsAs :=
  Or.inl ⟨yX3_startsAs, cX3_startsAs, 1, some .int, rm_X3_startsAs, f_X3_startsAs, M_X3_startsAs, cs_X3_startsAs, hlink, ⟨ws_X3_startsAs, wi_X3_startsAs, wc_X3_startsAs⟩, ⟨by decide +kernel, by decide +kernel, by rw [har]; decide +kernel⟩, ⟨rfl, rfl, hr.1, hr.2⟩⟩
-- X3_hearsByAs
def lV_X3_hearsByAs : List (Nat × (List mm_V → mm_S → (Option mm_V → mm_S → Option mm_R) → Option mm_R)) := []
def mV_X3_hearsByAs (k : Nat) (as : List mm_V) (z : mm_S) (kk : Option mm_V → mm_S → Option mm_R) : Option mm_R := match mm_at lV_X3_hearsByAs k with
  | some f => f as z kk
  | none => none
def arV_X3_hearsByAs (k : Nat) : Nat := (mm_at [] k).getD 0
def lS_X3_hearsByAs : List (Nat × (List mm_V → mm_S → (Option mm_V → mm_S → Option mm_R) → Option mm_R)) := []
def mS_X3_hearsByAs (k : Nat) (as : List mm_V) (z : mm_S) (kk : Option mm_V → mm_S → Option mm_R) : Option mm_R := match mm_at lS_X3_hearsByAs k with
  | some f => f as z kk
  | none => none
def arS_X3_hearsByAs (k : Nat) : Nat := (mm_at [] k).getD 0
def ct_X3_hearsByAs : List (Nat × List Nat) := []
def go_X3_hearsByAs : Nat → mm_K := mm_go (fun k => mm_at flX3 k) (fun k => mm_at clX3 k) (fun k => mm_at glX3 k) arV_X3_hearsByAs arS_X3_hearsByAs mV_X3_hearsByAs mS_X3_hearsByAs lenX roX snX 1 0 tbX3_hearsByAs ct_X3_hearsByAs
def eX3_hearsByAs_0 (n : Nat) (x1 : Int32) (z : mm_S) : Option mm_R := go_X3_hearsByAs n 0 [(0, mm_I x1)] [] z
set_option maxRecDepth 100000 in
theorem qX3_hearsByAs_0 (n : Nat) (x1 : Int32) (z : mm_S) : eX3_hearsByAs_0 (n + 1) x1 z = (if x1 = 3 then some (some (mm_I 40), z) else if x1 = 4 then some (some (mm_I 30), z) else if x1 = 5 then some (some (mm_I 30), z) else if x1 = 6 then some (some (mm_I (-1)), z) else some (some (mm_I 60), z)) := rfl
def rm_X3_hearsByAs : Room := { frames := 0, cells := 0, slots := 0, locals := 0 }
def f_X3_hearsByAs (as : List mm_V) (z : mm_S) (o : mm_R) : Prop := (as.map mm_cat).sum ≤ 1 ∧ ∃ n, go_X3_hearsByAs n 0 (mm_ar 0 as) [] z = some o
theorem M_X3_hearsByAs : mm_M lyTX lyFA lenX snX 46 48 17 roX rsA nfA nmA ssX yX3_hearsByAs cX3_hearsByAs 1 (some .int) rm_X3_hearsByAs f_X3_hearsByAs :=
  mm_met (rt := 0) (by decide +kernel) ⟨fun h => rfl, fun h => absurd h (by decide), fun h => absurd h (by decide), fun h => absurd h (by decide)⟩ tbX3_hearsByAs_ok hsnX okFX3 okLX3 okGX3 (fun _ _ _ _ => rfl) (fun _ _ _ _ => rfl) (fun _ h => absurd h List.not_mem_nil) (fun _ h => absurd h List.not_mem_nil)
def pX3_hearsByAs (x1 : Int32) : Int32 := if x1 = 3 then 40 else if x1 = 4 then 30 else if x1 = 5 then 30 else if x1 = 6 then (-1) else 60
theorem sp_X3_hearsByAs (x1 : Int32) (z : mm_S) (_ : ∀ v ∈ [mm_I x1], mm_ok 46 lyTX 48 17 v) : f_X3_hearsByAs [mm_I x1] z (some (mm_I (pX3_hearsByAs x1)), z) := ⟨Nat.le_of_ble_eq_true rfl, 1, (qX3_hearsByAs_0 0 x1 z).trans (mm_if (fun v => some (some (mm_I v), z)) rfl (mm_if (fun v => some (some (mm_I v), z)) rfl (mm_if (fun v => some (some (mm_I v), z)) rfl (mm_if (fun v => some (some (mm_I v), z)) rfl rfl))))⟩
def clo_X3_hearsByAs (as : List mm_V) (z : mm_S) (kk : Option mm_V → mm_S → Option mm_R) : Option mm_R := mm_pi as fun a0 as => (match as with | [] => kk (some (mm_I (pX3_hearsByAs a0))) z | _ => none)
theorem cs_X3_hearsByAs : mm_cs lyTX 46 48 17 f_X3_hearsByAs clo_X3_hearsByAs := by
  intro as z K o hk h
  obtain ⟨a0, r0, rfl, g0⟩ := mm_pi_e h
  rcases r0 with _ | ⟨u, w⟩
  rotate_left
  · cases g0
  exact ⟨_, _, sp_X3_hearsByAs a0 z hk, fun v hv => by cases hv; exact Or.inl ⟨_, rfl⟩, g0⟩
theorem sS_X3_hearsByAs {own : String} {R : Room} {ar : Nat → Nat} {k : Nat} (hlink : Cond.methodLink own k yX3_hearsByAs ∈ lw_gd ∨ ∃ host, (own, k, yX3_hearsByAs, host) ∈ nmA) (har : ar k = 1) (hr : 1 ≤ R.frames ∧ 20 ≤ R.locals) : mm_okS lyTX lyFA lenX snX 46 48 17 roX rsA nfA nmA ssX own R ar k clo_X3_hearsByAs :=
  Or.inl ⟨yX3_hearsByAs, cX3_hearsByAs, 1, some .int, rm_X3_hearsByAs, f_X3_hearsByAs, M_X3_hearsByAs, cs_X3_hearsByAs, hlink, ⟨ws_X3_hearsByAs, wi_X3_hearsByAs, wc_X3_hearsByAs⟩, ⟨by decide +kernel, by decide +kernel, by rw [har]; decide +kernel⟩, ⟨rfl, rfl, hr.1, hr.2⟩⟩
-- X3_lowestBits
def lV_X3_lowestBits : List (Nat × (List mm_V → mm_S → (Option mm_V → mm_S → Option mm_R) → Option mm_R)) := []
def mV_X3_lowestBits (k : Nat) (as : List mm_V) (z : mm_S) (kk : Option mm_V → mm_S → Option mm_R) : Option mm_R := match mm_at lV_X3_lowestBits k with
  | some f => f as z kk
  | none => none
def arV_X3_lowestBits (k : Nat) : Nat := (mm_at [] k).getD 0
def lS_X3_lowestBits : List (Nat × (List mm_V → mm_S → (Option mm_V → mm_S → Option mm_R) → Option mm_R)) := []
def mS_X3_lowestBits (k : Nat) (as : List mm_V) (z : mm_S) (kk : Option mm_V → mm_S → Option mm_R) : Option mm_R := match mm_at lS_X3_lowestBits k with
  | some f => f as z kk
  | none => none
def arS_X3_lowestBits (k : Nat) : Nat := (mm_at [] k).getD 0
def ct_X3_lowestBits : List (Nat × List Nat) := []
def go_X3_lowestBits : Nat → mm_K := mm_go (fun k => mm_at flX3 k) (fun k => mm_at clX3 k) (fun k => mm_at glX3 k) arV_X3_lowestBits arS_X3_lowestBits mV_X3_lowestBits mS_X3_lowestBits lenX roX snX 2 0 tbX3_lowestBits ct_X3_lowestBits
def eX3_lowestBits_0 (n : Nat) (x1 : Int32) (x2 : Int32) (z : mm_S) : Option mm_R := go_X3_lowestBits n 0 [(0, mm_I x1), (1, mm_I x2)] [] z
set_option maxRecDepth 100000 in
theorem qX3_lowestBits_0 (n : Nat) (x1 : Int32) (x2 : Int32) (z : mm_S) : eX3_lowestBits_0 (n + 1) x1 x2 z = (if x2 = 8 then some (some (mm_I (Int32.toInt8 x1).toInt32), z) else if x2 = 16 then some (some (mm_I (Int32.toInt16 x1).toInt32), z) else some (some (mm_I x1), z)) := rfl
def rm_X3_lowestBits : Room := { frames := 0, cells := 0, slots := 0, locals := 0 }
def f_X3_lowestBits (as : List mm_V) (z : mm_S) (o : mm_R) : Prop := (as.map mm_cat).sum ≤ 2 ∧ ∃ n, go_X3_lowestBits n 0 (mm_ar 0 as) [] z = some o
theorem M_X3_lowestBits : mm_M lyTX lyFA lenX snX 46 48 17 roX rsA nfA nmA ssX yX3_lowestBits cX3_lowestBits 2 (some .int) rm_X3_lowestBits f_X3_lowestBits :=
  mm_met (rt := 0) (by decide +kernel) ⟨fun h => rfl, fun h => absurd h (by decide), fun h => absurd h (by decide), fun h => absurd h (by decide)⟩ tbX3_lowestBits_ok hsnX okFX3 okLX3 okGX3 (fun _ _ _ _ => rfl) (fun _ _ _ _ => rfl) (fun _ h => absurd h List.not_mem_nil) (fun _ h => absurd h List.not_mem_nil)
def pX3_lowestBits (x1 : Int32) (x2 : Int32) : Int32 := if x2 = 8 then (Int32.toInt8 x1).toInt32 else if x2 = 16 then (Int32.toInt16 x1).toInt32 else x1
theorem sp_X3_lowestBits (x1 : Int32) (x2 : Int32) (z : mm_S) (_ : ∀ v ∈ [mm_I x1, mm_I x2], mm_ok 46 lyTX 48 17 v) : f_X3_lowestBits [mm_I x1, mm_I x2] z (some (mm_I (pX3_lowestBits x1 x2)), z) := ⟨Nat.le_of_ble_eq_true rfl, 1, (qX3_lowestBits_0 0 x1 x2 z).trans (mm_if (fun v => some (some (mm_I v), z)) rfl (mm_if (fun v => some (some (mm_I v), z)) rfl rfl))⟩
def clo_X3_lowestBits (as : List mm_V) (z : mm_S) (kk : Option mm_V → mm_S → Option mm_R) : Option mm_R := mm_pi as fun a0 as => mm_pi as fun a1 as => (match as with | [] => kk (some (mm_I (pX3_lowestBits a0 a1))) z | _ => none)
theorem cs_X3_lowestBits : mm_cs lyTX 46 48 17 f_X3_lowestBits clo_X3_lowestBits := by
  intro as z K o hk h
  obtain ⟨a0, r0, rfl, g0⟩ := mm_pi_e h
  obtain ⟨a1, r1, rfl, g1⟩ := mm_pi_e g0
  rcases r1 with _ | ⟨u, w⟩
  rotate_left
  · cases g1
  exact ⟨_, _, sp_X3_lowestBits a0 a1 z hk, fun v hv => by cases hv; exact Or.inl ⟨_, rfl⟩, g1⟩
theorem sS_X3_lowestBits {own : String} {R : Room} {ar : Nat → Nat} {k : Nat} (hlink : Cond.methodLink own k yX3_lowestBits ∈ lw_gd ∨ ∃ host, (own, k, yX3_lowestBits, host) ∈ nmA) (har : ar k = 2) (hr : 1 ≤ R.frames ∧ 21 ≤ R.locals) : mm_okS lyTX lyFA lenX snX 46 48 17 roX rsA nfA nmA ssX own R ar k clo_X3_lowestBits :=
  Or.inl ⟨yX3_lowestBits, cX3_lowestBits, 2, some .int, rm_X3_lowestBits, f_X3_lowestBits, M_X3_lowestBits, cs_X3_lowestBits, hlink, ⟨ws_X3_lowestBits, wi_X3_lowestBits, wc_X3_lowestBits⟩, ⟨by decide +kernel, by decide +kernel, by rw [har]; decide +kernel⟩, ⟨rfl, rfl, hr.1, hr.2⟩⟩
-- X3_at
def lV_X3_at : List (Nat × (List mm_V → mm_S → (Option mm_V → mm_S → Option mm_R) → Option mm_R)) := []
def mV_X3_at (k : Nat) (as : List mm_V) (z : mm_S) (kk : Option mm_V → mm_S → Option mm_R) : Option mm_R := match mm_at lV_X3_at k with
  | some f => f as z kk
  | none => none
def arV_X3_at (k : Nat) : Nat := (mm_at [] k).getD 0
def lS_X3_at : List (Nat × (List mm_V → mm_S → (Option mm_V → mm_S → Option mm_R) → Option mm_R)) := []
def mS_X3_at (k : Nat) (as : List mm_V) (z : mm_S) (kk : Option mm_V → mm_S → Option mm_R) : Option mm_R := match mm_at lS_X3_at k with
  | some f => f as z kk
  | none => none
def arS_X3_at (k : Nat) : Nat := (mm_at [] k).getD 0
def ct_X3_at : List (Nat × List Nat) := []
def go_X3_at : Nat → mm_K := mm_go (fun k => mm_at flX3 k) (fun k => mm_at clX3 k) (fun k => mm_at glX3 k) arV_X3_at arS_X3_at mV_X3_at mS_X3_at lenX roX snX 2 0 tbX3_at ct_X3_at
def eX3_at_0 (n : Nat) (x1 : Nat) (x2 : Int32) (z : mm_S) : Option mm_R := go_X3_at n 0 [(0, mm_P 10 x1), (1, mm_I x2)] [] z
set_option maxRecDepth 100000 in
theorem qX3_at_0 (n : Nat) (x1 : Nat) (x2 : Int32) (z : mm_S) : eX3_at_0 (n + 1) x1 x2 z = (if x2 < 0 then some (some (mm_I 0), z) else if (Int32.ofNat (lenX x1)) ≤ x2 then some (some (mm_I 0), z) else if x2 < 0 ∨ lenX x1 ≤ Int32.toNatClampNeg x2 then none else some (some (mm_I (z.1 x1 (Int32.toNatClampNeg x2))), z)) := rfl
def rm_X3_at : Room := { frames := 0, cells := 0, slots := 0, locals := 0 }
def f_X3_at (as : List mm_V) (z : mm_S) (o : mm_R) : Prop := (as.map mm_cat).sum ≤ 2 ∧ ∃ n, go_X3_at n 0 (mm_ar 0 as) [] z = some o
theorem M_X3_at : mm_M lyTX lyFA lenX snX 46 48 17 roX rsA nfA nmA ssX yX3_at cX3_at 2 (some .int) rm_X3_at f_X3_at :=
  mm_met (rt := 0) (by decide +kernel) ⟨fun h => rfl, fun h => absurd h (by decide), fun h => absurd h (by decide), fun h => absurd h (by decide)⟩ tbX3_at_ok hsnX okFX3 okLX3 okGX3 (fun _ _ _ _ => rfl) (fun _ _ _ _ => rfl) (fun _ h => absurd h List.not_mem_nil) (fun _ h => absurd h List.not_mem_nil)
def pX3_at (k : Nat) (i : Int32) (z : mm_S) : Int32 := if i < 0 then 0 else if Int32.ofNat (lenX k) ≤ i then 0 else z.1 k i.toNatClampNeg
theorem lenX_lt (k : Nat) : lenX k < 2 ^ 31 := by
  by_cases h : k < 48
  · have key : ∀ k, k < 48 → lenX k < 2 ^ 31 := by decide +kernel
    exact key k h
  · have e : lenX k = 0 := by
      unfold lenX
      rw [List.getD_eq_getElem?_getD, List.getElem?_eq_none (by simp; omega)]
      rfl
    rw [e]
    decide
theorem mm_ing {i : Int32} {n : Nat} (hn : n < 2 ^ 31) (h0 : ¬ i < 0) (h1 : ¬ Int32.ofNat n ≤ i) : ¬ (i < 0 ∨ n ≤ i.toNatClampNeg) := by
  intro h
  rcases h with h | h
  · exact h0 h
  · obtain ⟨j, hj, rfl⟩ := nI_of h0
    rw [nI_clamp hj] at h
    exact h1 (nI_le h hj)
theorem sp_X3_at (k : Nat) (i : Int32) (z : mm_S) (_ : ∀ v ∈ [mm_P 10 k, mm_I i], mm_ok 46 lyTX 48 17 v) : f_X3_at [mm_P 10 k, mm_I i] z (some (mm_I (pX3_at k i z)), z) := by
  refine ⟨Nat.le_of_ble_eq_true rfl, 1, (qX3_at_0 0 k i z).trans ?_⟩
  unfold pX3_at
  by_cases h0 : i < 0
  · rw [if_pos h0, if_pos h0]
  · rw [if_neg h0, if_neg h0]
    by_cases h1 : Int32.ofNat (lenX k) ≤ i
    · rw [if_pos h1, if_pos h1]
    · rw [if_neg h1, if_neg h1, if_neg (mm_ing (lenX_lt k) h0 h1)]
def clo_X3_at (as : List mm_V) (z : mm_S) (kk : Option mm_V → mm_S → Option mm_R) : Option mm_R := mm_pr as fun t o0 as => bif Nat.beq t 10 then mm_pi as fun a1 as => (match as with | [] => kk (some (mm_I (pX3_at o0 a1 z))) z | _ => none) else none
theorem cs_X3_at : mm_cs lyTX 46 48 17 f_X3_at clo_X3_at := by
  intro as z K o hk h
  obtain ⟨t0, o0, r0, rfl, g0⟩ := mm_pr_e h
  obtain ⟨b0, k0⟩ := mm_bif_e g0
  obtain rfl := Nat.eq_of_beq_eq_true b0
  obtain ⟨a1, r1, rfl, g1⟩ := mm_pi_e k0
  rcases r1 with _ | ⟨u, w⟩
  rotate_left
  · cases g1
  exact ⟨_, _, sp_X3_at o0 a1 z hk, fun v hv => by cases hv; exact Or.inl ⟨_, rfl⟩, g1⟩
theorem sS_X3_at {own : String} {R : Room} {ar : Nat → Nat} {k : Nat} (hlink : Cond.methodLink own k yX3_at ∈ lw_gd ∨ ∃ host, (own, k, yX3_at, host) ∈ nmA) (har : ar k = 2) (hr : 1 ≤ R.frames ∧ 21 ≤ R.locals) : mm_okS lyTX lyFA lenX snX 46 48 17 roX rsA nfA nmA ssX own R ar k clo_X3_at :=
  Or.inl ⟨yX3_at, cX3_at, 2, some .int, rm_X3_at, f_X3_at, M_X3_at, cs_X3_at, hlink, ⟨ws_X3_at, wi_X3_at, wc_X3_at⟩, ⟨by decide +kernel, by decide +kernel, by rw [har]; decide +kernel⟩, ⟨rfl, rfl, hr.1, hr.2⟩⟩
-- X3_at14
def eX3_at14_0 (n : Nat) (x1 : Nat) (x2 : Int32) (z : mm_S) : Option mm_R := go_X3_at n 0 [(0, mm_P 14 x1), (1, mm_I x2)] [] z
set_option maxRecDepth 100000 in
theorem qX3_at14_0 (n : Nat) (x1 : Nat) (x2 : Int32) (z : mm_S) : eX3_at14_0 (n + 1) x1 x2 z = (if x2 < 0 then some (some (mm_I 0), z) else if (Int32.ofNat (lenX x1)) ≤ x2 then some (some (mm_I 0), z) else if x2 < 0 ∨ lenX x1 ≤ Int32.toNatClampNeg x2 then none else some (some (mm_I (roX x1 (Int32.toNatClampNeg x2))), z)) := rfl
def pX3_at14 (k : Nat) (i : Int32) : Int32 := if i < 0 then 0 else if Int32.ofNat (lenX k) ≤ i then 0 else roX k i.toNatClampNeg
theorem sp_X3_at14 (k : Nat) (i : Int32) (z : mm_S) (_ : ∀ v ∈ [mm_P 14 k, mm_I i], mm_ok 46 lyTX 48 17 v) : f_X3_at [mm_P 14 k, mm_I i] z (some (mm_I (pX3_at14 k i)), z) := by
  refine ⟨Nat.le_of_ble_eq_true rfl, 1, (qX3_at14_0 0 k i z).trans ?_⟩
  unfold pX3_at14
  by_cases h0 : i < 0
  · rw [if_pos h0, if_pos h0]
  · rw [if_neg h0, if_neg h0]
    by_cases h1 : Int32.ofNat (lenX k) ≤ i
    · rw [if_pos h1, if_pos h1]
    · rw [if_neg h1, if_neg h1, if_neg (mm_ing (lenX_lt k) h0 h1)]
def clo_X3_at14 (as : List mm_V) (z : mm_S) (kk : Option mm_V → mm_S → Option mm_R) : Option mm_R := mm_pr as fun t o0 as => bif Nat.beq t 14 then mm_pi as fun a1 as => (match as with | [] => kk (some (mm_I (pX3_at14 o0 a1))) z | _ => none) else none
theorem cs_X3_at14 : mm_cs lyTX 46 48 17 f_X3_at clo_X3_at14 := by
  intro as z K o hk h
  obtain ⟨t0, o0, r0, rfl, g0⟩ := mm_pr_e h
  obtain ⟨b0, k0⟩ := mm_bif_e g0
  obtain rfl := Nat.eq_of_beq_eq_true b0
  obtain ⟨a1, r1, rfl, g1⟩ := mm_pi_e k0
  rcases r1 with _ | ⟨u, w⟩
  rotate_left
  · cases g1
  exact ⟨_, _, sp_X3_at14 o0 a1 z hk, fun v hv => by cases hv; exact Or.inl ⟨_, rfl⟩, g1⟩
theorem sS_X3_at14 {own : String} {R : Room} {ar : Nat → Nat} {k : Nat} (hlink : Cond.methodLink own k yX3_at ∈ lw_gd ∨ ∃ host, (own, k, yX3_at, host) ∈ nmA) (har : ar k = 2) (hr : 1 ≤ R.frames ∧ 21 ≤ R.locals) : mm_okS lyTX lyFA lenX snX 46 48 17 roX rsA nfA nmA ssX own R ar k clo_X3_at14 :=
  Or.inl ⟨yX3_at, cX3_at, 2, some .int, rm_X3_at, f_X3_at, M_X3_at, cs_X3_at14, hlink, ⟨ws_X3_at, wi_X3_at, wc_X3_at⟩, ⟨by decide +kernel, by decide +kernel, by rw [har]; decide +kernel⟩, ⟨rfl, rfl, hr.1, hr.2⟩⟩
-- X3_exchange
def lV_X3_exchange : List (Nat × (List mm_V → mm_S → (Option mm_V → mm_S → Option mm_R) → Option mm_R)) := []
def mV_X3_exchange (k : Nat) (as : List mm_V) (z : mm_S) (kk : Option mm_V → mm_S → Option mm_R) : Option mm_R := match mm_at lV_X3_exchange k with
  | some f => f as z kk
  | none => none
def arV_X3_exchange (k : Nat) : Nat := (mm_at [] k).getD 0
def lS_X3_exchange : List (Nat × (List mm_V → mm_S → (Option mm_V → mm_S → Option mm_R) → Option mm_R)) := []
def mS_X3_exchange (k : Nat) (as : List mm_V) (z : mm_S) (kk : Option mm_V → mm_S → Option mm_R) : Option mm_R := match mm_at lS_X3_exchange k with
  | some f => f as z kk
  | none => none
def arS_X3_exchange (k : Nat) : Nat := (mm_at [] k).getD 0
def ct_X3_exchange : List (Nat × List Nat) := []
def go_X3_exchange : Nat → mm_K := mm_go (fun k => mm_at flX3 k) (fun k => mm_at clX3 k) (fun k => mm_at glX3 k) arV_X3_exchange arS_X3_exchange mV_X3_exchange mS_X3_exchange lenX roX snX 4 0 tbX3_exchange ct_X3_exchange
def eX3_exchange_0 (n : Nat) (x1 : Nat) (x2 : Int32) (x3 : Int32) (z : mm_S) : Option mm_R := go_X3_exchange n 0 [(0, mm_P 10 x1), (1, mm_I x2), (2, mm_I x3)] [] z
set_option maxRecDepth 100000 in
theorem qX3_exchange_0 (n : Nat) (x1 : Nat) (x2 : Int32) (x3 : Int32) (z : mm_S) : eX3_exchange_0 (n + 1) x1 x2 x3 z = (if x2 < 0 then some (some (mm_I 0), z) else if x2 < (Int32.ofNat (lenX x1)) then if x2 < 0 ∨ lenX x1 ≤ Int32.toNatClampNeg x2 then none else if x2 < 0 ∨ lenX x1 ≤ Int32.toNatClampNeg x2 then none else some (some (mm_I (z.1 x1 (Int32.toNatClampNeg x2))), ((mm_ui z.1 x1 (Int32.toNatClampNeg x2) x3), z.2)) else some (some (mm_I 0), z)) := rfl
def rm_X3_exchange : Room := { frames := 0, cells := 0, slots := 0, locals := 0 }
def f_X3_exchange (as : List mm_V) (z : mm_S) (o : mm_R) : Prop := (as.map mm_cat).sum ≤ 4 ∧ ∃ n, go_X3_exchange n 0 (mm_ar 0 as) [] z = some o
theorem M_X3_exchange : mm_M lyTX lyFA lenX snX 46 48 17 roX rsA nfA nmA ssX yX3_exchange cX3_exchange 4 (some .int) rm_X3_exchange f_X3_exchange :=
  mm_met (rt := 0) (by decide +kernel) ⟨fun h => rfl, fun h => absurd h (by decide), fun h => absurd h (by decide), fun h => absurd h (by decide)⟩ tbX3_exchange_ok hsnX okFX3 okLX3 okGX3 (fun _ _ _ _ => rfl) (fun _ _ _ _ => rfl) (fun _ h => absurd h List.not_mem_nil) (fun _ h => absurd h List.not_mem_nil)
def tX3_exchange (k : Nat) (i v : Int32) (z : mm_S) : Int32 × mm_S := if i < 0 then (0, z) else if i < Int32.ofNat (lenX k) then (z.1 k i.toNatClampNeg, (mm_ui z.1 k i.toNatClampNeg v, z.2)) else (0, z)
theorem sp_X3_exchange (k : Nat) (i v : Int32) (z : mm_S) (_ : ∀ u ∈ [mm_P 10 k, mm_I i, mm_I v], mm_ok 46 lyTX 48 17 u) : f_X3_exchange [mm_P 10 k, mm_I i, mm_I v] z (some (mm_I (tX3_exchange k i v z).1), (tX3_exchange k i v z).2) := by
  refine ⟨Nat.le_of_ble_eq_true rfl, 1, (qX3_exchange_0 0 k i v z).trans ?_⟩
  unfold tX3_exchange
  by_cases h0 : i < 0
  · rw [if_pos h0, if_pos h0]
  · rw [if_neg h0, if_neg h0]
    by_cases h1 : i < Int32.ofNat (lenX k)
    · have hg := mm_ing (lenX_lt k) h0 (Int32.not_le.mpr h1)
      rw [if_pos h1, if_pos h1, if_neg hg, if_neg hg]
    · rw [if_neg h1, if_neg h1]
def clo_X3_exchange (as : List mm_V) (z : mm_S) (kk : Option mm_V → mm_S → Option mm_R) : Option mm_R := mm_pr as fun t o0 as => bif Nat.beq t 10 then mm_pi as fun a1 as => mm_pi as fun a2 as => (match as with | [] => kk (some (mm_I (tX3_exchange o0 a1 a2 z).1)) (tX3_exchange o0 a1 a2 z).2 | _ => none) else none
theorem cs_X3_exchange : mm_cs lyTX 46 48 17 f_X3_exchange clo_X3_exchange := by
  intro as z K o hk h
  obtain ⟨t0, o0, r0, rfl, g0⟩ := mm_pr_e h
  obtain ⟨b0, k0⟩ := mm_bif_e g0
  obtain rfl := Nat.eq_of_beq_eq_true b0
  obtain ⟨a1, r1, rfl, g1⟩ := mm_pi_e k0
  obtain ⟨a2, r2, rfl, g2⟩ := mm_pi_e g1
  rcases r2 with _ | ⟨u, w⟩
  rotate_left
  · cases g2
  exact ⟨_, _, sp_X3_exchange o0 a1 a2 z hk, fun v hv => by cases hv; exact Or.inl ⟨_, rfl⟩, g2⟩
theorem sS_X3_exchange {own : String} {R : Room} {ar : Nat → Nat} {k : Nat} (hlink : Cond.methodLink own k yX3_exchange ∈ lw_gd ∨ ∃ host, (own, k, yX3_exchange, host) ∈ nmA) (har : ar k = 3) (hr : 1 ≤ R.frames ∧ 23 ≤ R.locals) : mm_okS lyTX lyFA lenX snX 46 48 17 roX rsA nfA nmA ssX own R ar k clo_X3_exchange :=
  Or.inl ⟨yX3_exchange, cX3_exchange, 4, some .int, rm_X3_exchange, f_X3_exchange, M_X3_exchange, cs_X3_exchange, hlink, ⟨ws_X3_exchange, wi_X3_exchange, wc_X3_exchange⟩, ⟨by decide +kernel, by decide +kernel, by rw [har]; decide +kernel⟩, ⟨rfl, rfl, hr.1, hr.2⟩⟩
-- X3_bitsAt
def lV_X3_bitsAt : List (Nat × (List mm_V → mm_S → (Option mm_V → mm_S → Option mm_R) → Option mm_R)) := []
def mV_X3_bitsAt (k : Nat) (as : List mm_V) (z : mm_S) (kk : Option mm_V → mm_S → Option mm_R) : Option mm_R := match mm_at lV_X3_bitsAt k with
  | some f => f as z kk
  | none => none
def arV_X3_bitsAt (k : Nat) : Nat := (mm_at [] k).getD 0
def lS_X3_bitsAt : List (Nat × (List mm_V → mm_S → (Option mm_V → mm_S → Option mm_R) → Option mm_R)) := []
def mS_X3_bitsAt (k : Nat) (as : List mm_V) (z : mm_S) (kk : Option mm_V → mm_S → Option mm_R) : Option mm_R := match mm_at lS_X3_bitsAt k with
  | some f => f as z kk
  | none => none
def arS_X3_bitsAt (k : Nat) : Nat := (mm_at [] k).getD 0
def ct_X3_bitsAt : List (Nat × List Nat) := []
def go_X3_bitsAt : Nat → mm_K := mm_go (fun k => mm_at flX3 k) (fun k => mm_at clX3 k) (fun k => mm_at glX3 k) arV_X3_bitsAt arS_X3_bitsAt mV_X3_bitsAt mS_X3_bitsAt lenX roX snX 2 2 tbX3_bitsAt ct_X3_bitsAt
def eX3_bitsAt_0 (n : Nat) (x1 : Nat) (x2 : Int32) (z : mm_S) : Option mm_R := go_X3_bitsAt n 0 [(0, mm_P 11 x1), (1, mm_I x2)] [] z
set_option maxRecDepth 100000 in
theorem qX3_bitsAt_0 (n : Nat) (x1 : Nat) (x2 : Int32) (z : mm_S) : eX3_bitsAt_0 (n + 1) x1 x2 z = (if x2 < 0 then some (some (mm_J 0), z) else if (Int32.ofNat (lenX x1)) ≤ x2 then some (some (mm_J 0), z) else if x2 < 0 ∨ lenX x1 ≤ Int32.toNatClampNeg x2 then none else some (some (mm_J (z.2 x1 (Int32.toNatClampNeg x2))), z)) := rfl
def rm_X3_bitsAt : Room := { frames := 0, cells := 0, slots := 0, locals := 0 }
def f_X3_bitsAt (as : List mm_V) (z : mm_S) (o : mm_R) : Prop := (as.map mm_cat).sum ≤ 2 ∧ ∃ n, go_X3_bitsAt n 0 (mm_ar 0 as) [] z = some o
theorem M_X3_bitsAt : mm_M lyTX lyFA lenX snX 46 48 17 roX rsA nfA nmA ssX yX3_bitsAt cX3_bitsAt 2 (some .long) rm_X3_bitsAt f_X3_bitsAt :=
  mm_met (rt := 2) (by decide +kernel) ⟨fun h => absurd h (by decide), fun h => absurd h (by decide), fun h => rfl, fun h => absurd h (by decide)⟩ tbX3_bitsAt_ok hsnX okFX3 okLX3 okGX3 (fun _ _ _ _ => rfl) (fun _ _ _ _ => rfl) (fun _ h => absurd h List.not_mem_nil) (fun _ h => absurd h List.not_mem_nil)
def pX3_bitsAt (k : Nat) (i : Int32) (z : mm_S) : Int64 := if i < 0 then 0 else if Int32.ofNat (lenX k) ≤ i then 0 else z.2 k i.toNatClampNeg
theorem sp_X3_bitsAt (k : Nat) (i : Int32) (z : mm_S) (_ : ∀ v ∈ [mm_P 11 k, mm_I i], mm_ok 46 lyTX 48 17 v) : f_X3_bitsAt [mm_P 11 k, mm_I i] z (some (mm_J (pX3_bitsAt k i z)), z) := by
  refine ⟨Nat.le_of_ble_eq_true rfl, 1, (qX3_bitsAt_0 0 k i z).trans ?_⟩
  unfold pX3_bitsAt
  by_cases h0 : i < 0
  · rw [if_pos h0, if_pos h0]
  · rw [if_neg h0, if_neg h0]
    by_cases h1 : Int32.ofNat (lenX k) ≤ i
    · rw [if_pos h1, if_pos h1]
    · rw [if_neg h1, if_neg h1, if_neg (mm_ing (lenX_lt k) h0 h1)]
/-- within a row, what stands there -/
theorem bits_in {k : Nat} {i : Int32} (z : mm_S) (h : ¬ (i < 0 ∨ lenX k ≤ i.toNatClampNeg)) : pX3_bitsAt k i z = z.2 k i.toNatClampNeg := by
  have h0 : ¬ i < 0 := fun q => h (Or.inl q)
  unfold pX3_bitsAt
  rw [if_neg h0, if_neg]
  intro h1
  obtain ⟨j, hj, rfl⟩ := nI_of h0
  rw [nI_clamp hj] at h
  exact nI_ge (Nat.not_le.mp fun q => h (Or.inr q)) (lenX_lt k) h1
theorem bits_N {k j : Nat} (z : mm_S) (h : j < lenX k) : pX3_bitsAt k (nI j) z = z.2 k j := by
  have hb := lenX_lt k
  rw [bits_in z (nI_in h hb), nI_clamp (by omega)]
def clo_X3_bitsAt (as : List mm_V) (z : mm_S) (kk : Option mm_V → mm_S → Option mm_R) : Option mm_R := mm_pr as fun t o0 as => bif Nat.beq t 11 then mm_pi as fun a1 as => (match as with | [] => kk (some (mm_J (pX3_bitsAt o0 a1 z))) z | _ => none) else none
theorem cs_X3_bitsAt : mm_cs lyTX 46 48 17 f_X3_bitsAt clo_X3_bitsAt := by
  intro as z K o hk h
  obtain ⟨t0, o0, r0, rfl, g0⟩ := mm_pr_e h
  obtain ⟨b0, k0⟩ := mm_bif_e g0
  obtain rfl := Nat.eq_of_beq_eq_true b0
  obtain ⟨a1, r1, rfl, g1⟩ := mm_pi_e k0
  rcases r1 with _ | ⟨u, w⟩
  rotate_left
  · cases g1
  exact ⟨_, _, sp_X3_bitsAt o0 a1 z hk, fun v hv => by cases hv; exact Or.inr ⟨_, rfl⟩, g1⟩
theorem sS_X3_bitsAt {own : String} {R : Room} {ar : Nat → Nat} {k : Nat} (hlink : Cond.methodLink own k yX3_bitsAt ∈ lw_gd ∨ ∃ host, (own, k, yX3_bitsAt, host) ∈ nmA) (har : ar k = 2) (hr : 1 ≤ R.frames ∧ 21 ≤ R.locals) : mm_okS lyTX lyFA lenX snX 46 48 17 roX rsA nfA nmA ssX own R ar k clo_X3_bitsAt :=
  Or.inl ⟨yX3_bitsAt, cX3_bitsAt, 2, some .long, rm_X3_bitsAt, f_X3_bitsAt, M_X3_bitsAt, cs_X3_bitsAt, hlink, ⟨ws_X3_bitsAt, wi_X3_bitsAt, wc_X3_bitsAt⟩, ⟨by decide +kernel, by decide +kernel, by rw [har]; decide +kernel⟩, ⟨rfl, rfl, hr.1, hr.2⟩⟩
-- X3_putBits
def lV_X3_putBits : List (Nat × (List mm_V → mm_S → (Option mm_V → mm_S → Option mm_R) → Option mm_R)) := []
def mV_X3_putBits (k : Nat) (as : List mm_V) (z : mm_S) (kk : Option mm_V → mm_S → Option mm_R) : Option mm_R := match mm_at lV_X3_putBits k with
  | some f => f as z kk
  | none => none
def arV_X3_putBits (k : Nat) : Nat := (mm_at [] k).getD 0
def lS_X3_putBits : List (Nat × (List mm_V → mm_S → (Option mm_V → mm_S → Option mm_R) → Option mm_R)) := []
def mS_X3_putBits (k : Nat) (as : List mm_V) (z : mm_S) (kk : Option mm_V → mm_S → Option mm_R) : Option mm_R := match mm_at lS_X3_putBits k with
  | some f => f as z kk
  | none => none
def arS_X3_putBits (k : Nat) : Nat := (mm_at [] k).getD 0
def ct_X3_putBits : List (Nat × List Nat) := []
def go_X3_putBits : Nat → mm_K := mm_go (fun k => mm_at flX3 k) (fun k => mm_at clX3 k) (fun k => mm_at glX3 k) arV_X3_putBits arS_X3_putBits mV_X3_putBits mS_X3_putBits lenX roX snX 4 3 tbX3_putBits ct_X3_putBits
def eX3_putBits_0 (n : Nat) (x1 : Nat) (x2 : Int32) (x3 : Int64) (z : mm_S) : Option mm_R := go_X3_putBits n 0 [(0, mm_P 11 x1), (1, mm_I x2), (2, mm_J x3)] [] z
set_option maxRecDepth 100000 in
theorem qX3_putBits_0 (n : Nat) (x1 : Nat) (x2 : Int32) (x3 : Int64) (z : mm_S) : eX3_putBits_0 (n + 1) x1 x2 x3 z = (if x2 < 0 then some (none, z) else if (Int32.ofNat (lenX x1)) ≤ x2 then some (none, z) else if x2 < 0 ∨ lenX x1 ≤ Int32.toNatClampNeg x2 then none else some (none, (z.1, (mm_ul z.2 x1 (Int32.toNatClampNeg x2) x3)))) := rfl
def rm_X3_putBits : Room := { frames := 0, cells := 0, slots := 0, locals := 0 }
def f_X3_putBits (as : List mm_V) (z : mm_S) (o : mm_R) : Prop := (as.map mm_cat).sum ≤ 4 ∧ ∃ n, go_X3_putBits n 0 (mm_ar 0 as) [] z = some o
theorem M_X3_putBits : mm_M lyTX lyFA lenX snX 46 48 17 roX rsA nfA nmA ssX yX3_putBits cX3_putBits 4 (none) rm_X3_putBits f_X3_putBits :=
  mm_met (rt := 3) (by decide +kernel) ⟨fun h => absurd h (by decide), fun h => absurd h (by decide), fun h => absurd h (by decide), fun h => rfl⟩ tbX3_putBits_ok hsnX okFX3 okLX3 okGX3 (fun _ _ _ _ => rfl) (fun _ _ _ _ => rfl) (fun _ h => absurd h List.not_mem_nil) (fun _ h => absurd h List.not_mem_nil)
def tX3_putBits (k : Nat) (i : Int32) (v : Int64) (z : mm_S) : mm_S := if i < 0 then z else if i < Int32.ofNat (lenX k) then (z.1, mm_ul z.2 k i.toNatClampNeg v) else z
theorem sp_X3_putBits (k : Nat) (i : Int32) (v : Int64) (z : mm_S) (_ : ∀ u ∈ [mm_P 11 k, mm_I i, mm_J v], mm_ok 46 lyTX 48 17 u) : f_X3_putBits [mm_P 11 k, mm_I i, mm_J v] z (none, tX3_putBits k i v z) := by
  refine ⟨Nat.le_of_ble_eq_true rfl, 1, (qX3_putBits_0 0 k i v z).trans ?_⟩
  unfold tX3_putBits
  by_cases h0 : i < 0
  · rw [if_pos h0, if_pos h0]
  · rw [if_neg h0, if_neg h0]
    by_cases h1 : i < Int32.ofNat (lenX k)
    · rw [if_pos h1, if_neg (Int32.not_le.mpr h1), if_neg (mm_ing (lenX_lt k) h0 (Int32.not_le.mpr h1))]
    · rw [if_neg h1, if_pos (Int32.not_lt.mp h1)]
/-- within a row, it is put there -/
theorem putb_in {k : Nat} {i : Int32} (v : Int64) (z : mm_S) (h : ¬ (i < 0 ∨ lenX k ≤ i.toNatClampNeg)) : tX3_putBits k i v z = (z.1, mm_ul z.2 k i.toNatClampNeg v) := by
  have h0 : ¬ i < 0 := fun q => h (Or.inl q)
  unfold tX3_putBits
  rw [if_neg h0, if_pos]
  refine Int32.not_le.mp fun h1 => ?_
  obtain ⟨j, hj, rfl⟩ := nI_of h0
  rw [nI_clamp hj] at h
  exact nI_ge (Nat.not_le.mp fun q => h (Or.inr q)) (lenX_lt k) h1
theorem putb_N {k j : Nat} (v : Int64) (z : mm_S) (h : j < lenX k) : tX3_putBits k (nI j) v z = (z.1, mm_ul z.2 k j v) := by
  have hb := lenX_lt k
  rw [putb_in v z (nI_in h hb), nI_clamp (by omega)]
def clo_X3_putBits (as : List mm_V) (z : mm_S) (kk : Option mm_V → mm_S → Option mm_R) : Option mm_R := mm_pr as fun t o0 as => bif Nat.beq t 11 then mm_pi as fun a1 as => mm_pj as fun a2 as => (match as with | [] => kk none (tX3_putBits o0 a1 a2 z) | _ => none) else none
theorem cs_X3_putBits : mm_cs lyTX 46 48 17 f_X3_putBits clo_X3_putBits := by
  intro as z K o hk h
  obtain ⟨t0, o0, r0, rfl, g0⟩ := mm_pr_e h
  obtain ⟨b0, k0⟩ := mm_bif_e g0
  obtain rfl := Nat.eq_of_beq_eq_true b0
  obtain ⟨a1, r1, rfl, g1⟩ := mm_pi_e k0
  obtain ⟨a2, r2, rfl, g2⟩ := mm_pj_e g1
  rcases r2 with _ | ⟨u, w⟩
  rotate_left
  · cases g2
  exact ⟨_, _, sp_X3_putBits o0 a1 a2 z hk, (fun v hv => by cases hv), g2⟩
theorem sS_X3_putBits {own : String} {R : Room} {ar : Nat → Nat} {k : Nat} (hlink : Cond.methodLink own k yX3_putBits ∈ lw_gd ∨ ∃ host, (own, k, yX3_putBits, host) ∈ nmA) (har : ar k = 3) (hr : 1 ≤ R.frames ∧ 23 ≤ R.locals) : mm_okS lyTX lyFA lenX snX 46 48 17 roX rsA nfA nmA ssX own R ar k clo_X3_putBits :=
  Or.inl ⟨yX3_putBits, cX3_putBits, 4, none, rm_X3_putBits, f_X3_putBits, M_X3_putBits, cs_X3_putBits, hlink, ⟨ws_X3_putBits, wi_X3_putBits, wc_X3_putBits⟩, ⟨by decide +kernel, by decide +kernel, by rw [har]; decide +kernel⟩, ⟨rfl, rfl, hr.1, hr.2⟩⟩
-- J13_bitCount_95d88
def lV_J13_bitCount_95d88 : List (Nat × (List mm_V → mm_S → (Option mm_V → mm_S → Option mm_R) → Option mm_R)) := []
def mV_J13_bitCount_95d88 (k : Nat) (as : List mm_V) (z : mm_S) (kk : Option mm_V → mm_S → Option mm_R) : Option mm_R := match mm_at lV_J13_bitCount_95d88 k with
  | some f => f as z kk
  | none => none
def arV_J13_bitCount_95d88 (k : Nat) : Nat := (mm_at [] k).getD 0
def lS_J13_bitCount_95d88 : List (Nat × (List mm_V → mm_S → (Option mm_V → mm_S → Option mm_R) → Option mm_R)) := []
def mS_J13_bitCount_95d88 (k : Nat) (as : List mm_V) (z : mm_S) (kk : Option mm_V → mm_S → Option mm_R) : Option mm_R := match mm_at lS_J13_bitCount_95d88 k with
  | some f => f as z kk
  | none => none
def arS_J13_bitCount_95d88 (k : Nat) : Nat := (mm_at [] k).getD 0
def ct_J13_bitCount_95d88 : List (Nat × List Nat) := []
def go_J13_bitCount_95d88 : Nat → mm_K := mm_go (fun k => mm_at flJ13 k) (fun k => mm_at clJ13 k) (fun k => mm_at glJ13 k) arV_J13_bitCount_95d88 arS_J13_bitCount_95d88 mV_J13_bitCount_95d88 mS_J13_bitCount_95d88 lenX roX snX 2 0 tbJ13_bitCount_95d88 ct_J13_bitCount_95d88
def eJ13_bitCount_95d88_0 (n : Nat) (x1 : Int64) (z : mm_S) : Option mm_R := go_J13_bitCount_95d88 n 0 [(0, mm_J x1)] [] z
set_option maxRecDepth 100000 in
theorem qJ13_bitCount_95d88_0 (n : Nat) (x1 : Int64) (z : mm_S) : eJ13_bitCount_95d88_0 (n + 1) x1 z = (let v1 : Int64 := (x1 - ((Int64.toUInt64 x1 >>> (Int64.toUInt64 (Int32.toInt64 1) &&& Int64.toUInt64 63)).toInt64 &&& 6148914691236517205)); let v2 : Int64 := ((v1 &&& 3689348814741910323) + ((Int64.toUInt64 v1 >>> (Int64.toUInt64 (Int32.toInt64 2) &&& Int64.toUInt64 63)).toInt64 &&& 3689348814741910323)); let v3 : Int64 := ((v2 + (Int64.toUInt64 v2 >>> (Int64.toUInt64 (Int32.toInt64 4) &&& Int64.toUInt64 63)).toInt64) &&& 1085102592571150095); let v4 : Int64 := (v3 + (Int64.toUInt64 v3 >>> (Int64.toUInt64 (Int32.toInt64 8) &&& Int64.toUInt64 63)).toInt64); let v5 : Int64 := (v4 + (Int64.toUInt64 v4 >>> (Int64.toUInt64 (Int32.toInt64 16) &&& Int64.toUInt64 63)).toInt64); let v6 : Int64 := (v5 + (Int64.toUInt64 v5 >>> (Int64.toUInt64 (Int32.toInt64 32) &&& Int64.toUInt64 63)).toInt64); some (some (mm_I ((Int64.toInt32 v6) &&& 127)), z)) := rfl
def rm_J13_bitCount_95d88 : Room := { frames := 0, cells := 0, slots := 0, locals := 0 }
def f_J13_bitCount_95d88 (as : List mm_V) (z : mm_S) (o : mm_R) : Prop := (as.map mm_cat).sum ≤ 2 ∧ ∃ n, go_J13_bitCount_95d88 n 0 (mm_ar 0 as) [] z = some o
theorem M_J13_bitCount_95d88 : mm_M lyTX lyFA lenX snX 46 48 17 roX rsA nfA nmA ssX yJ13_bitCount_95d88 cJ13_bitCount_95d88 2 (some .int) rm_J13_bitCount_95d88 f_J13_bitCount_95d88 :=
  mm_met (rt := 0) (by decide +kernel) ⟨fun h => rfl, fun h => absurd h (by decide), fun h => absurd h (by decide), fun h => absurd h (by decide)⟩ tbJ13_bitCount_95d88_ok hsnX (fun _ h => absurd h List.not_mem_nil) okLJ13 (fun _ h => absurd h List.not_mem_nil) (fun _ _ _ _ => rfl) (fun _ _ _ _ => rfl) (fun _ h => absurd h List.not_mem_nil) (fun _ h => absurd h List.not_mem_nil)
def pJ13_bitCount_95d88 (x1 : Int64) : Int32 := let v1 : Int64 := (x1 - ((Int64.toUInt64 x1 >>> (Int64.toUInt64 (Int32.toInt64 1) &&& Int64.toUInt64 63)).toInt64 &&& 6148914691236517205)); let v2 : Int64 := ((v1 &&& 3689348814741910323) + ((Int64.toUInt64 v1 >>> (Int64.toUInt64 (Int32.toInt64 2) &&& Int64.toUInt64 63)).toInt64 &&& 3689348814741910323)); let v3 : Int64 := ((v2 + (Int64.toUInt64 v2 >>> (Int64.toUInt64 (Int32.toInt64 4) &&& Int64.toUInt64 63)).toInt64) &&& 1085102592571150095); let v4 : Int64 := (v3 + (Int64.toUInt64 v3 >>> (Int64.toUInt64 (Int32.toInt64 8) &&& Int64.toUInt64 63)).toInt64); let v5 : Int64 := (v4 + (Int64.toUInt64 v4 >>> (Int64.toUInt64 (Int32.toInt64 16) &&& Int64.toUInt64 63)).toInt64); let v6 : Int64 := (v5 + (Int64.toUInt64 v5 >>> (Int64.toUInt64 (Int32.toInt64 32) &&& Int64.toUInt64 63)).toInt64); ((Int64.toInt32 v6) &&& 127)
theorem sp_J13_bitCount_95d88 (x1 : Int64) (z : mm_S) (_ : ∀ v ∈ [mm_J x1], mm_ok 46 lyTX 48 17 v) : f_J13_bitCount_95d88 [mm_J x1] z (some (mm_I (pJ13_bitCount_95d88 x1)), z) := ⟨Nat.le_of_ble_eq_true rfl, 1, (qJ13_bitCount_95d88_0 0 x1 z).trans rfl⟩
def clo_J13_bitCount_95d88 (as : List mm_V) (z : mm_S) (kk : Option mm_V → mm_S → Option mm_R) : Option mm_R := mm_pj as fun a0 as => (match as with | [] => kk (some (mm_I (pJ13_bitCount_95d88 a0))) z | _ => none)
theorem cs_J13_bitCount_95d88 : mm_cs lyTX 46 48 17 f_J13_bitCount_95d88 clo_J13_bitCount_95d88 := by
  intro as z K o hk h
  obtain ⟨a0, r0, rfl, g0⟩ := mm_pj_e h
  rcases r0 with _ | ⟨u, w⟩
  rotate_left
  · cases g0
  exact ⟨_, _, sp_J13_bitCount_95d88 a0 z hk, fun v hv => by cases hv; exact Or.inl ⟨_, rfl⟩, g0⟩
theorem sS_J13_bitCount_95d88 {own : String} {R : Room} {ar : Nat → Nat} {k : Nat} (hlink : Cond.methodLink own k yJ13_bitCount_95d88 ∈ lw_gd ∨ ∃ host, (own, k, yJ13_bitCount_95d88, host) ∈ nmA) (har : ar k = 1) (hr : 1 ≤ R.frames ∧ 21 ≤ R.locals) : mm_okS lyTX lyFA lenX snX 46 48 17 roX rsA nfA nmA ssX own R ar k clo_J13_bitCount_95d88 :=
  Or.inl ⟨yJ13_bitCount_95d88, cJ13_bitCount_95d88, 2, some .int, rm_J13_bitCount_95d88, f_J13_bitCount_95d88, M_J13_bitCount_95d88, cs_J13_bitCount_95d88, hlink, ⟨ws_J13_bitCount_95d88, wi_J13_bitCount_95d88, wc_J13_bitCount_95d88⟩, ⟨by decide +kernel, by decide +kernel, by rw [har]; decide +kernel⟩, ⟨rfl, rfl, hr.1, hr.2⟩⟩
-- X0_kindOf
def lV_X0_kindOf : List (Nat × (List mm_V → mm_S → (Option mm_V → mm_S → Option mm_R) → Option mm_R)) := []
def mV_X0_kindOf (k : Nat) (as : List mm_V) (z : mm_S) (kk : Option mm_V → mm_S → Option mm_R) : Option mm_R := match mm_at lV_X0_kindOf k with
  | some f => f as z kk
  | none => none
def arV_X0_kindOf (k : Nat) : Nat := (mm_at [] k).getD 0
def lS_X0_kindOf : List (Nat × (List mm_V → mm_S → (Option mm_V → mm_S → Option mm_R) → Option mm_R)) := [(77, clo_X3_at)]
def mS_X0_kindOf (k : Nat) (as : List mm_V) (z : mm_S) (kk : Option mm_V → mm_S → Option mm_R) : Option mm_R := match mm_at lS_X0_kindOf k with
  | some f => f as z kk
  | none => none
def arS_X0_kindOf (k : Nat) : Nat := (mm_at [(77, 2)] k).getD 0
def ct_X0_kindOf : List (Nat × List Nat) := []
def go_X0_kindOf : Nat → mm_K := mm_go (fun k => mm_at flX0 k) (fun k => mm_at clX0 k) (fun k => mm_at glX0 k) arV_X0_kindOf arS_X0_kindOf mV_X0_kindOf mS_X0_kindOf lenX roX snX 2 0 tbX0_kindOf ct_X0_kindOf
def eX0_kindOf_0 (n : Nat) (o : Nat) (x1 : Int32) (z : mm_S) : Option mm_R := go_X0_kindOf n 0 [(0, mm_P 0 o), (1, mm_I x1)] [] z
set_option maxRecDepth 100000 in
theorem qX0_kindOf_0_1 (n : Nat)  (x1 : Int32) (z : mm_S) : eX0_kindOf_0 (n + 1) 1 x1 z = (some (some (mm_I (pX3_at 5 x1 z)), z)) := rfl
set_option maxRecDepth 100000 in
theorem qX0_kindOf_0_13 (n : Nat)  (x1 : Int32) (z : mm_S) : eX0_kindOf_0 (n + 1) 13 x1 z = (some (some (mm_I (pX3_at 17 x1 z)), z)) := rfl
set_option maxRecDepth 100000 in
theorem qX0_kindOf_0_25 (n : Nat)  (x1 : Int32) (z : mm_S) : eX0_kindOf_0 (n + 1) 25 x1 z = (some (some (mm_I (pX3_at 29 x1 z)), z)) := rfl
def rm_X0_kindOf : Room := { frames := 1, cells := 0, slots := 0, locals := 21 }
def f_X0_kindOf (as : List mm_V) (z : mm_S) (o : mm_R) : Prop := (as.map mm_cat).sum ≤ 2 ∧ ∃ n, go_X0_kindOf n 0 (mm_ar 0 as) [] z = some o
theorem M_X0_kindOf : mm_M lyTX lyFA lenX snX 46 48 17 roX rsA nfA nmA ssX yX0_kindOf cX0_kindOf 2 (some .int) rm_X0_kindOf f_X0_kindOf :=
  mm_met (rt := 0) (by decide +kernel) ⟨fun h => rfl, fun h => absurd h (by decide), fun h => absurd h (by decide), fun h => absurd h (by decide)⟩ tbX0_kindOf_ok hsnX okFX0 okLX0 okGX0 (fun _ _ _ _ => rfl) (fun _ _ _ _ => rfl) (fun _ h => absurd h List.not_mem_nil) (List.forall_mem_cons.mpr ⟨sS_X3_at (Or.inr ⟨_, ln_X0_77⟩) rfl ⟨by decide, by decide⟩, fun _ h => absurd h List.not_mem_nil⟩)
def pX0_kindOf (o : Nat) (x1 : Int32) (z : mm_S) : Int32 := (pX3_at (o + 4) x1 z)
theorem sp_X0_kindOf (o : Nat) (x1 : Int32) (z : mm_S) (hk : ∀ v ∈ [mm_P 0 o, mm_I x1], mm_ok 46 lyTX 48 17 v) : f_X0_kindOf [mm_P 0 o, mm_I x1] z (some (mm_I (pX0_kindOf o x1 z)), z) := by
  refine ⟨Nat.le_of_ble_eq_true rfl, 1, ?_⟩
  rcases ok0 (hk (mm_P 0 o) (by simp)) with rfl | rfl | rfl
  · exact (qX0_kindOf_0_1 0 x1 z).trans rfl
  · exact (qX0_kindOf_0_13 0 x1 z).trans rfl
  · exact (qX0_kindOf_0_25 0 x1 z).trans rfl
def clo_X0_kindOf (as : List mm_V) (z : mm_S) (kk : Option mm_V → mm_S → Option mm_R) : Option mm_R := mm_pr as fun t o0 as => bif Nat.beq t 0 then mm_pi as fun a1 as => (match as with | [] => kk (some (mm_I (pX0_kindOf o0 a1 z))) z | _ => none) else none
theorem cs_X0_kindOf : mm_cs lyTX 46 48 17 f_X0_kindOf clo_X0_kindOf := by
  intro as z K o hk h
  obtain ⟨t0, o0, r0, rfl, g0⟩ := mm_pr_e h
  obtain ⟨b0, k0⟩ := mm_bif_e g0
  obtain rfl := Nat.eq_of_beq_eq_true b0
  obtain ⟨a1, r1, rfl, g1⟩ := mm_pi_e k0
  rcases r1 with _ | ⟨u, w⟩
  rotate_left
  · cases g1
  exact ⟨_, _, sp_X0_kindOf o0 a1 z hk, fun v hv => by cases hv; exact Or.inl ⟨_, rfl⟩, g1⟩
theorem sV_X0_kindOf {own : String} {R : Room} {ar : Nat → Nat} {k : Nat} (hlink : Cond.methodLink own k yX0_kindOf ∈ lw_gd ∨ ∃ host, (own, k, yX0_kindOf, host) ∈ nmA) (har : ar k = 2) (hr : 2 ≤ R.frames ∧ 42 ≤ R.locals) : mm_okV lyTX lyFA lenX snX 46 48 17 roX rsA nfA nmA ssX own R ar k clo_X0_kindOf := by
  refine ⟨yX0_kindOf, cX0_kindOf, 2, some .int, rm_X0_kindOf, f_X0_kindOf, 0, 1, (RX0, TX0, 14), M_X0_kindOf, cs_X0_kindOf, hlink, ⟨wv_X0_kindOf, wz_X0_kindOf, wi_X0_kindOf, wc_X0_kindOf⟩, ⟨by decide +kernel, by decide +kernel, by decide +kernel⟩, har, ⟨rfl, rfl, by decide⟩, ?_, ⟨rfl, rfl, hr.1, hr.2⟩⟩
  intro as z K o h
  obtain ⟨t0, o0, r0, rfl, g0⟩ := mm_pr_e h
  obtain ⟨b0, k0⟩ := mm_bif_e g0
  obtain rfl := Nat.eq_of_beq_eq_true b0
  exact ⟨_, _, rfl⟩
-- X0_placeOf
def lV_X0_placeOf : List (Nat × (List mm_V → mm_S → (Option mm_V → mm_S → Option mm_R) → Option mm_R)) := []
def mV_X0_placeOf (k : Nat) (as : List mm_V) (z : mm_S) (kk : Option mm_V → mm_S → Option mm_R) : Option mm_R := match mm_at lV_X0_placeOf k with
  | some f => f as z kk
  | none => none
def arV_X0_placeOf (k : Nat) : Nat := (mm_at [] k).getD 0
def lS_X0_placeOf : List (Nat × (List mm_V → mm_S → (Option mm_V → mm_S → Option mm_R) → Option mm_R)) := [(77, clo_X3_at)]
def mS_X0_placeOf (k : Nat) (as : List mm_V) (z : mm_S) (kk : Option mm_V → mm_S → Option mm_R) : Option mm_R := match mm_at lS_X0_placeOf k with
  | some f => f as z kk
  | none => none
def arS_X0_placeOf (k : Nat) : Nat := (mm_at [(77, 2)] k).getD 0
def ct_X0_placeOf : List (Nat × List Nat) := []
def go_X0_placeOf : Nat → mm_K := mm_go (fun k => mm_at flX0 k) (fun k => mm_at clX0 k) (fun k => mm_at glX0 k) arV_X0_placeOf arS_X0_placeOf mV_X0_placeOf mS_X0_placeOf lenX roX snX 2 0 tbX0_placeOf ct_X0_placeOf
def eX0_placeOf_0 (n : Nat) (o : Nat) (x1 : Int32) (z : mm_S) : Option mm_R := go_X0_placeOf n 0 [(0, mm_P 0 o), (1, mm_I x1)] [] z
set_option maxRecDepth 100000 in
theorem qX0_placeOf_0_1 (n : Nat)  (x1 : Int32) (z : mm_S) : eX0_placeOf_0 (n + 1) 1 x1 z = (some (some (mm_I (pX3_at 6 x1 z)), z)) := rfl
set_option maxRecDepth 100000 in
theorem qX0_placeOf_0_13 (n : Nat)  (x1 : Int32) (z : mm_S) : eX0_placeOf_0 (n + 1) 13 x1 z = (some (some (mm_I (pX3_at 18 x1 z)), z)) := rfl
set_option maxRecDepth 100000 in
theorem qX0_placeOf_0_25 (n : Nat)  (x1 : Int32) (z : mm_S) : eX0_placeOf_0 (n + 1) 25 x1 z = (some (some (mm_I (pX3_at 30 x1 z)), z)) := rfl
def rm_X0_placeOf : Room := { frames := 1, cells := 0, slots := 0, locals := 21 }
def f_X0_placeOf (as : List mm_V) (z : mm_S) (o : mm_R) : Prop := (as.map mm_cat).sum ≤ 2 ∧ ∃ n, go_X0_placeOf n 0 (mm_ar 0 as) [] z = some o
theorem M_X0_placeOf : mm_M lyTX lyFA lenX snX 46 48 17 roX rsA nfA nmA ssX yX0_placeOf cX0_placeOf 2 (some .int) rm_X0_placeOf f_X0_placeOf :=
  mm_met (rt := 0) (by decide +kernel) ⟨fun h => rfl, fun h => absurd h (by decide), fun h => absurd h (by decide), fun h => absurd h (by decide)⟩ tbX0_placeOf_ok hsnX okFX0 okLX0 okGX0 (fun _ _ _ _ => rfl) (fun _ _ _ _ => rfl) (fun _ h => absurd h List.not_mem_nil) (List.forall_mem_cons.mpr ⟨sS_X3_at (Or.inr ⟨_, ln_X0_77⟩) rfl ⟨by decide, by decide⟩, fun _ h => absurd h List.not_mem_nil⟩)
def pX0_placeOf (o : Nat) (x1 : Int32) (z : mm_S) : Int32 := (pX3_at (o + 5) x1 z)
theorem sp_X0_placeOf (o : Nat) (x1 : Int32) (z : mm_S) (hk : ∀ v ∈ [mm_P 0 o, mm_I x1], mm_ok 46 lyTX 48 17 v) : f_X0_placeOf [mm_P 0 o, mm_I x1] z (some (mm_I (pX0_placeOf o x1 z)), z) := by
  refine ⟨Nat.le_of_ble_eq_true rfl, 1, ?_⟩
  rcases ok0 (hk (mm_P 0 o) (by simp)) with rfl | rfl | rfl
  · exact (qX0_placeOf_0_1 0 x1 z).trans rfl
  · exact (qX0_placeOf_0_13 0 x1 z).trans rfl
  · exact (qX0_placeOf_0_25 0 x1 z).trans rfl
def clo_X0_placeOf (as : List mm_V) (z : mm_S) (kk : Option mm_V → mm_S → Option mm_R) : Option mm_R := mm_pr as fun t o0 as => bif Nat.beq t 0 then mm_pi as fun a1 as => (match as with | [] => kk (some (mm_I (pX0_placeOf o0 a1 z))) z | _ => none) else none
theorem cs_X0_placeOf : mm_cs lyTX 46 48 17 f_X0_placeOf clo_X0_placeOf := by
  intro as z K o hk h
  obtain ⟨t0, o0, r0, rfl, g0⟩ := mm_pr_e h
  obtain ⟨b0, k0⟩ := mm_bif_e g0
  obtain rfl := Nat.eq_of_beq_eq_true b0
  obtain ⟨a1, r1, rfl, g1⟩ := mm_pi_e k0
  rcases r1 with _ | ⟨u, w⟩
  rotate_left
  · cases g1
  exact ⟨_, _, sp_X0_placeOf o0 a1 z hk, fun v hv => by cases hv; exact Or.inl ⟨_, rfl⟩, g1⟩
theorem sV_X0_placeOf {own : String} {R : Room} {ar : Nat → Nat} {k : Nat} (hlink : Cond.methodLink own k yX0_placeOf ∈ lw_gd ∨ ∃ host, (own, k, yX0_placeOf, host) ∈ nmA) (har : ar k = 2) (hr : 2 ≤ R.frames ∧ 42 ≤ R.locals) : mm_okV lyTX lyFA lenX snX 46 48 17 roX rsA nfA nmA ssX own R ar k clo_X0_placeOf := by
  refine ⟨yX0_placeOf, cX0_placeOf, 2, some .int, rm_X0_placeOf, f_X0_placeOf, 0, 1, (RX0, TX0, 14), M_X0_placeOf, cs_X0_placeOf, hlink, ⟨wv_X0_placeOf, wz_X0_placeOf, wi_X0_placeOf, wc_X0_placeOf⟩, ⟨by decide +kernel, by decide +kernel, by decide +kernel⟩, har, ⟨rfl, rfl, by decide⟩, ?_, ⟨rfl, rfl, hr.1, hr.2⟩⟩
  intro as z K o h
  obtain ⟨t0, o0, r0, rfl, g0⟩ := mm_pr_e h
  obtain ⟨b0, k0⟩ := mm_bif_e g0
  obtain rfl := Nat.eq_of_beq_eq_true b0
  exact ⟨_, _, rfl⟩
-- X0_forceOf
def lV_X0_forceOf : List (Nat × (List mm_V → mm_S → (Option mm_V → mm_S → Option mm_R) → Option mm_R)) := []
def mV_X0_forceOf (k : Nat) (as : List mm_V) (z : mm_S) (kk : Option mm_V → mm_S → Option mm_R) : Option mm_R := match mm_at lV_X0_forceOf k with
  | some f => f as z kk
  | none => none
def arV_X0_forceOf (k : Nat) : Nat := (mm_at [] k).getD 0
def lS_X0_forceOf : List (Nat × (List mm_V → mm_S → (Option mm_V → mm_S → Option mm_R) → Option mm_R)) := [(77, clo_X3_at)]
def mS_X0_forceOf (k : Nat) (as : List mm_V) (z : mm_S) (kk : Option mm_V → mm_S → Option mm_R) : Option mm_R := match mm_at lS_X0_forceOf k with
  | some f => f as z kk
  | none => none
def arS_X0_forceOf (k : Nat) : Nat := (mm_at [(77, 2)] k).getD 0
def ct_X0_forceOf : List (Nat × List Nat) := []
def go_X0_forceOf : Nat → mm_K := mm_go (fun k => mm_at flX0 k) (fun k => mm_at clX0 k) (fun k => mm_at glX0 k) arV_X0_forceOf arS_X0_forceOf mV_X0_forceOf mS_X0_forceOf lenX roX snX 2 0 tbX0_forceOf ct_X0_forceOf
def eX0_forceOf_0 (n : Nat) (o : Nat) (x1 : Int32) (z : mm_S) : Option mm_R := go_X0_forceOf n 0 [(0, mm_P 0 o), (1, mm_I x1)] [] z
set_option maxRecDepth 100000 in
theorem qX0_forceOf_0_1 (n : Nat)  (x1 : Int32) (z : mm_S) : eX0_forceOf_0 (n + 1) 1 x1 z = (some (some (mm_I (pX3_at 7 x1 z)), z)) := rfl
set_option maxRecDepth 100000 in
theorem qX0_forceOf_0_13 (n : Nat)  (x1 : Int32) (z : mm_S) : eX0_forceOf_0 (n + 1) 13 x1 z = (some (some (mm_I (pX3_at 19 x1 z)), z)) := rfl
set_option maxRecDepth 100000 in
theorem qX0_forceOf_0_25 (n : Nat)  (x1 : Int32) (z : mm_S) : eX0_forceOf_0 (n + 1) 25 x1 z = (some (some (mm_I (pX3_at 31 x1 z)), z)) := rfl
def rm_X0_forceOf : Room := { frames := 1, cells := 0, slots := 0, locals := 21 }
def f_X0_forceOf (as : List mm_V) (z : mm_S) (o : mm_R) : Prop := (as.map mm_cat).sum ≤ 2 ∧ ∃ n, go_X0_forceOf n 0 (mm_ar 0 as) [] z = some o
theorem M_X0_forceOf : mm_M lyTX lyFA lenX snX 46 48 17 roX rsA nfA nmA ssX yX0_forceOf cX0_forceOf 2 (some .int) rm_X0_forceOf f_X0_forceOf :=
  mm_met (rt := 0) (by decide +kernel) ⟨fun h => rfl, fun h => absurd h (by decide), fun h => absurd h (by decide), fun h => absurd h (by decide)⟩ tbX0_forceOf_ok hsnX okFX0 okLX0 okGX0 (fun _ _ _ _ => rfl) (fun _ _ _ _ => rfl) (fun _ h => absurd h List.not_mem_nil) (List.forall_mem_cons.mpr ⟨sS_X3_at (Or.inr ⟨_, ln_X0_77⟩) rfl ⟨by decide, by decide⟩, fun _ h => absurd h List.not_mem_nil⟩)
def pX0_forceOf (o : Nat) (x1 : Int32) (z : mm_S) : Int32 := (pX3_at (o + 6) x1 z)
theorem sp_X0_forceOf (o : Nat) (x1 : Int32) (z : mm_S) (hk : ∀ v ∈ [mm_P 0 o, mm_I x1], mm_ok 46 lyTX 48 17 v) : f_X0_forceOf [mm_P 0 o, mm_I x1] z (some (mm_I (pX0_forceOf o x1 z)), z) := by
  refine ⟨Nat.le_of_ble_eq_true rfl, 1, ?_⟩
  rcases ok0 (hk (mm_P 0 o) (by simp)) with rfl | rfl | rfl
  · exact (qX0_forceOf_0_1 0 x1 z).trans rfl
  · exact (qX0_forceOf_0_13 0 x1 z).trans rfl
  · exact (qX0_forceOf_0_25 0 x1 z).trans rfl
def clo_X0_forceOf (as : List mm_V) (z : mm_S) (kk : Option mm_V → mm_S → Option mm_R) : Option mm_R := mm_pr as fun t o0 as => bif Nat.beq t 0 then mm_pi as fun a1 as => (match as with | [] => kk (some (mm_I (pX0_forceOf o0 a1 z))) z | _ => none) else none
theorem cs_X0_forceOf : mm_cs lyTX 46 48 17 f_X0_forceOf clo_X0_forceOf := by
  intro as z K o hk h
  obtain ⟨t0, o0, r0, rfl, g0⟩ := mm_pr_e h
  obtain ⟨b0, k0⟩ := mm_bif_e g0
  obtain rfl := Nat.eq_of_beq_eq_true b0
  obtain ⟨a1, r1, rfl, g1⟩ := mm_pi_e k0
  rcases r1 with _ | ⟨u, w⟩
  rotate_left
  · cases g1
  exact ⟨_, _, sp_X0_forceOf o0 a1 z hk, fun v hv => by cases hv; exact Or.inl ⟨_, rfl⟩, g1⟩
theorem sV_X0_forceOf {own : String} {R : Room} {ar : Nat → Nat} {k : Nat} (hlink : Cond.methodLink own k yX0_forceOf ∈ lw_gd ∨ ∃ host, (own, k, yX0_forceOf, host) ∈ nmA) (har : ar k = 2) (hr : 2 ≤ R.frames ∧ 42 ≤ R.locals) : mm_okV lyTX lyFA lenX snX 46 48 17 roX rsA nfA nmA ssX own R ar k clo_X0_forceOf := by
  refine ⟨yX0_forceOf, cX0_forceOf, 2, some .int, rm_X0_forceOf, f_X0_forceOf, 0, 1, (RX0, TX0, 14), M_X0_forceOf, cs_X0_forceOf, hlink, ⟨wv_X0_forceOf, wz_X0_forceOf, wi_X0_forceOf, wc_X0_forceOf⟩, ⟨by decide +kernel, by decide +kernel, by decide +kernel⟩, har, ⟨rfl, rfl, by decide⟩, ?_, ⟨rfl, rfl, hr.1, hr.2⟩⟩
  intro as z K o h
  obtain ⟨t0, o0, r0, rfl, g0⟩ := mm_pr_e h
  obtain ⟨b0, k0⟩ := mm_bif_e g0
  obtain rfl := Nat.eq_of_beq_eq_true b0
  exact ⟨_, _, rfl⟩
-- X0_carriesOf
def lV_X0_carriesOf : List (Nat × (List mm_V → mm_S → (Option mm_V → mm_S → Option mm_R) → Option mm_R)) := [(81, clo_X0_kindOf), (85, clo_X0_forceOf)]
def mV_X0_carriesOf (k : Nat) (as : List mm_V) (z : mm_S) (kk : Option mm_V → mm_S → Option mm_R) : Option mm_R := match mm_at lV_X0_carriesOf k with
  | some f => f as z kk
  | none => none
def arV_X0_carriesOf (k : Nat) : Nat := (mm_at [(81, 2), (85, 2)] k).getD 0
def lS_X0_carriesOf : List (Nat × (List mm_V → mm_S → (Option mm_V → mm_S → Option mm_R) → Option mm_R)) := [(88, clo_X3_carriesAs)]
def mS_X0_carriesOf (k : Nat) (as : List mm_V) (z : mm_S) (kk : Option mm_V → mm_S → Option mm_R) : Option mm_R := match mm_at lS_X0_carriesOf k with
  | some f => f as z kk
  | none => none
def arS_X0_carriesOf (k : Nat) : Nat := (mm_at [(88, 2)] k).getD 0
def ct_X0_carriesOf : List (Nat × List Nat) := []
def go_X0_carriesOf : Nat → mm_K := mm_go (fun k => mm_at flX0 k) (fun k => mm_at clX0 k) (fun k => mm_at glX0 k) arV_X0_carriesOf arS_X0_carriesOf mV_X0_carriesOf mS_X0_carriesOf lenX roX snX 2 0 tbX0_carriesOf ct_X0_carriesOf
def eX0_carriesOf_0 (n : Nat) (o : Nat) (x1 : Int32) (z : mm_S) : Option mm_R := go_X0_carriesOf n 0 [(0, mm_P 0 o), (1, mm_I x1)] [] z
set_option maxRecDepth 100000 in
theorem qX0_carriesOf_0_1 (n : Nat)  (x1 : Int32) (z : mm_S) : eX0_carriesOf_0 (n + 1) 1 x1 z = (some (some (mm_I (pX3_carriesAs (pX0_kindOf 1 x1 z) (pX0_forceOf 1 x1 z))), z)) := rfl
set_option maxRecDepth 100000 in
theorem qX0_carriesOf_0_13 (n : Nat)  (x1 : Int32) (z : mm_S) : eX0_carriesOf_0 (n + 1) 13 x1 z = (some (some (mm_I (pX3_carriesAs (pX0_kindOf 13 x1 z) (pX0_forceOf 13 x1 z))), z)) := rfl
set_option maxRecDepth 100000 in
theorem qX0_carriesOf_0_25 (n : Nat)  (x1 : Int32) (z : mm_S) : eX0_carriesOf_0 (n + 1) 25 x1 z = (some (some (mm_I (pX3_carriesAs (pX0_kindOf 25 x1 z) (pX0_forceOf 25 x1 z))), z)) := rfl
def rm_X0_carriesOf : Room := { frames := 2, cells := 0, slots := 0, locals := 42 }
def f_X0_carriesOf (as : List mm_V) (z : mm_S) (o : mm_R) : Prop := (as.map mm_cat).sum ≤ 2 ∧ ∃ n, go_X0_carriesOf n 0 (mm_ar 0 as) [] z = some o
theorem M_X0_carriesOf : mm_M lyTX lyFA lenX snX 46 48 17 roX rsA nfA nmA ssX yX0_carriesOf cX0_carriesOf 2 (some .int) rm_X0_carriesOf f_X0_carriesOf :=
  mm_met (rt := 0) (by decide +kernel) ⟨fun h => rfl, fun h => absurd h (by decide), fun h => absurd h (by decide), fun h => absurd h (by decide)⟩ tbX0_carriesOf_ok hsnX okFX0 okLX0 okGX0 (fun _ _ _ _ => rfl) (fun _ _ _ _ => rfl) (List.forall_mem_cons.mpr ⟨sV_X0_kindOf (Or.inl lk_X0_81) rfl ⟨by decide, by decide⟩, List.forall_mem_cons.mpr ⟨sV_X0_forceOf (Or.inl lk_X0_85) rfl ⟨by decide, by decide⟩, fun _ h => absurd h List.not_mem_nil⟩⟩) (List.forall_mem_cons.mpr ⟨sS_X3_carriesAs (Or.inr ⟨_, ln_X0_88⟩) rfl ⟨by decide, by decide⟩, fun _ h => absurd h List.not_mem_nil⟩)
def pX0_carriesOf (o : Nat) (x1 : Int32) (z : mm_S) : Int32 := (pX3_carriesAs (pX0_kindOf o x1 z) (pX0_forceOf o x1 z))
theorem sp_X0_carriesOf (o : Nat) (x1 : Int32) (z : mm_S) (hk : ∀ v ∈ [mm_P 0 o, mm_I x1], mm_ok 46 lyTX 48 17 v) : f_X0_carriesOf [mm_P 0 o, mm_I x1] z (some (mm_I (pX0_carriesOf o x1 z)), z) := by
  refine ⟨Nat.le_of_ble_eq_true rfl, 1, ?_⟩
  rcases ok0 (hk (mm_P 0 o) (by simp)) with rfl | rfl | rfl
  · exact (qX0_carriesOf_0_1 0 x1 z).trans rfl
  · exact (qX0_carriesOf_0_13 0 x1 z).trans rfl
  · exact (qX0_carriesOf_0_25 0 x1 z).trans rfl
def clo_X0_carriesOf (as : List mm_V) (z : mm_S) (kk : Option mm_V → mm_S → Option mm_R) : Option mm_R := mm_pr as fun t o0 as => bif Nat.beq t 0 then mm_pi as fun a1 as => (match as with | [] => kk (some (mm_I (pX0_carriesOf o0 a1 z))) z | _ => none) else none
theorem cs_X0_carriesOf : mm_cs lyTX 46 48 17 f_X0_carriesOf clo_X0_carriesOf := by
  intro as z K o hk h
  obtain ⟨t0, o0, r0, rfl, g0⟩ := mm_pr_e h
  obtain ⟨b0, k0⟩ := mm_bif_e g0
  obtain rfl := Nat.eq_of_beq_eq_true b0
  obtain ⟨a1, r1, rfl, g1⟩ := mm_pi_e k0
  rcases r1 with _ | ⟨u, w⟩
  rotate_left
  · cases g1
  exact ⟨_, _, sp_X0_carriesOf o0 a1 z hk, fun v hv => by cases hv; exact Or.inl ⟨_, rfl⟩, g1⟩
theorem sV_X0_carriesOf {own : String} {R : Room} {ar : Nat → Nat} {k : Nat} (hlink : Cond.methodLink own k yX0_carriesOf ∈ lw_gd ∨ ∃ host, (own, k, yX0_carriesOf, host) ∈ nmA) (har : ar k = 2) (hr : 3 ≤ R.frames ∧ 63 ≤ R.locals) : mm_okV lyTX lyFA lenX snX 46 48 17 roX rsA nfA nmA ssX own R ar k clo_X0_carriesOf := by
  refine ⟨yX0_carriesOf, cX0_carriesOf, 2, some .int, rm_X0_carriesOf, f_X0_carriesOf, 0, 1, (RX0, TX0, 14), M_X0_carriesOf, cs_X0_carriesOf, hlink, ⟨wv_X0_carriesOf, wz_X0_carriesOf, wi_X0_carriesOf, wc_X0_carriesOf⟩, ⟨by decide +kernel, by decide +kernel, by decide +kernel⟩, har, ⟨rfl, rfl, by decide⟩, ?_, ⟨rfl, rfl, hr.1, hr.2⟩⟩
  intro as z K o h
  obtain ⟨t0, o0, r0, rfl, g0⟩ := mm_pr_e h
  obtain ⟨b0, k0⟩ := mm_bif_e g0
  obtain rfl := Nat.eq_of_beq_eq_true b0
  exact ⟨_, _, rfl⟩
-- X1_cellsOf
def lV_X1_cellsOf : List (Nat × (List mm_V → mm_S → (Option mm_V → mm_S → Option mm_R) → Option mm_R)) := []
def mV_X1_cellsOf (k : Nat) (as : List mm_V) (z : mm_S) (kk : Option mm_V → mm_S → Option mm_R) : Option mm_R := match mm_at lV_X1_cellsOf k with
  | some f => f as z kk
  | none => none
def arV_X1_cellsOf (k : Nat) : Nat := (mm_at [] k).getD 0
def lS_X1_cellsOf : List (Nat × (List mm_V → mm_S → (Option mm_V → mm_S → Option mm_R) → Option mm_R)) := [(36, clo_X3_bitsAt)]
def mS_X1_cellsOf (k : Nat) (as : List mm_V) (z : mm_S) (kk : Option mm_V → mm_S → Option mm_R) : Option mm_R := match mm_at lS_X1_cellsOf k with
  | some f => f as z kk
  | none => none
def arS_X1_cellsOf (k : Nat) : Nat := (mm_at [(36, 2)] k).getD 0
def ct_X1_cellsOf : List (Nat × List Nat) := []
def go_X1_cellsOf : Nat → mm_K := mm_go (fun k => mm_at flX1 k) (fun k => mm_at clX1 k) (fun k => mm_at glX1 k) arV_X1_cellsOf arS_X1_cellsOf mV_X1_cellsOf mS_X1_cellsOf lenX roX snX 2 2 tbX1_cellsOf ct_X1_cellsOf
def eX1_cellsOf_0 (n : Nat) (o : Nat) (x1 : Int32) (z : mm_S) : Option mm_R := go_X1_cellsOf n 0 [(0, mm_P 1 o), (1, mm_I x1)] [] z
set_option maxRecDepth 100000 in
theorem qX1_cellsOf_0_2 (n : Nat)  (x1 : Int32) (z : mm_S) : eX1_cellsOf_0 (n + 1) 2 x1 z = (some (some (mm_J (pX3_bitsAt 3 x1 z)), z)) := rfl
set_option maxRecDepth 100000 in
theorem qX1_cellsOf_0_14 (n : Nat)  (x1 : Int32) (z : mm_S) : eX1_cellsOf_0 (n + 1) 14 x1 z = (some (some (mm_J (pX3_bitsAt 15 x1 z)), z)) := rfl
set_option maxRecDepth 100000 in
theorem qX1_cellsOf_0_26 (n : Nat)  (x1 : Int32) (z : mm_S) : eX1_cellsOf_0 (n + 1) 26 x1 z = (some (some (mm_J (pX3_bitsAt 27 x1 z)), z)) := rfl
def rm_X1_cellsOf : Room := { frames := 1, cells := 0, slots := 0, locals := 21 }
def f_X1_cellsOf (as : List mm_V) (z : mm_S) (o : mm_R) : Prop := (as.map mm_cat).sum ≤ 2 ∧ ∃ n, go_X1_cellsOf n 0 (mm_ar 0 as) [] z = some o
theorem M_X1_cellsOf : mm_M lyTX lyFA lenX snX 46 48 17 roX rsA nfA nmA ssX yX1_cellsOf cX1_cellsOf 2 (some .long) rm_X1_cellsOf f_X1_cellsOf :=
  mm_met (rt := 2) (by decide +kernel) ⟨fun h => absurd h (by decide), fun h => absurd h (by decide), fun h => rfl, fun h => absurd h (by decide)⟩ tbX1_cellsOf_ok hsnX okFX1 okLX1 okGX1 (fun _ _ _ _ => rfl) (fun _ _ _ _ => rfl) (fun _ h => absurd h List.not_mem_nil) (List.forall_mem_cons.mpr ⟨sS_X3_bitsAt (Or.inr ⟨_, ln_X1_36⟩) rfl ⟨by decide, by decide⟩, fun _ h => absurd h List.not_mem_nil⟩)
def pX1_cellsOf (o : Nat) (i : Int32) (z : mm_S) : Int64 := if i < 0 then 0 else if 5 ≤ i then 0 else z.2 (o + 1) i.toNatClampNeg
/-- how long a rock's rows are -/
theorem ok1_l {o : Nat} (h : mm_ok 46 lyTX 48 17 (mm_P 1 o)) : lenX (o + 1) = 5 ∧ lenX (o + 2) = 8 := by
  rcases ok1 h with rfl | rfl | rfl <;> exact ⟨by decide +kernel, by decide +kernel⟩
theorem bits_5 {k : Nat} (hk : lenX k = 5) (i : Int32) (z : mm_S) : pX3_bitsAt k i z = if i < 0 then 0 else if 5 ≤ i then 0 else z.2 k i.toNatClampNeg := by
  have e : pX3_bitsAt k i z = if i < 0 then 0 else if Int32.ofNat (lenX k) ≤ i then 0 else z.2 k i.toNatClampNeg := rfl
  rw [hk] at e
  exact e
theorem sp_X1_cellsOf (o : Nat) (i : Int32) (z : mm_S) (hk : ∀ u ∈ [mm_P 1 o, mm_I i], mm_ok 46 lyTX 48 17 u) : f_X1_cellsOf [mm_P 1 o, mm_I i] z (some (mm_J (pX1_cellsOf o i z)), z) := by
  refine ⟨Nat.le_of_ble_eq_true rfl, 1, ?_⟩
  have key : (some (some (mm_J (pX3_bitsAt (o + 1) i z)), z) : Option mm_R) = some (some (mm_J (pX1_cellsOf o i z)), z) := by
    rw [bits_5 (ok1_l (hk (mm_P 1 o) (by simp))).1]
    rfl
  rcases ok1 (hk (mm_P 1 o) (by simp)) with rfl | rfl | rfl
  · exact (qX1_cellsOf_0_2 0 i z).trans key
  · exact (qX1_cellsOf_0_14 0 i z).trans key
  · exact (qX1_cellsOf_0_26 0 i z).trans key
def clo_X1_cellsOf (as : List mm_V) (z : mm_S) (kk : Option mm_V → mm_S → Option mm_R) : Option mm_R := mm_pr as fun t o0 as => bif Nat.beq t 1 then mm_pi as fun a1 as => (match as with | [] => kk (some (mm_J (pX1_cellsOf o0 a1 z))) z | _ => none) else none
theorem cs_X1_cellsOf : mm_cs lyTX 46 48 17 f_X1_cellsOf clo_X1_cellsOf := by
  intro as z K o hk h
  obtain ⟨t0, o0, r0, rfl, g0⟩ := mm_pr_e h
  obtain ⟨b0, k0⟩ := mm_bif_e g0
  obtain rfl := Nat.eq_of_beq_eq_true b0
  obtain ⟨a1, r1, rfl, g1⟩ := mm_pi_e k0
  rcases r1 with _ | ⟨u, w⟩
  rotate_left
  · cases g1
  exact ⟨_, _, sp_X1_cellsOf o0 a1 z hk, fun v hv => by cases hv; exact Or.inr ⟨_, rfl⟩, g1⟩
theorem sV_X1_cellsOf {own : String} {R : Room} {ar : Nat → Nat} {k : Nat} (hlink : Cond.methodLink own k yX1_cellsOf ∈ lw_gd ∨ ∃ host, (own, k, yX1_cellsOf, host) ∈ nmA) (har : ar k = 2) (hr : 2 ≤ R.frames ∧ 42 ≤ R.locals) : mm_okV lyTX lyFA lenX snX 46 48 17 roX rsA nfA nmA ssX own R ar k clo_X1_cellsOf := by
  refine ⟨yX1_cellsOf, cX1_cellsOf, 2, some .long, rm_X1_cellsOf, f_X1_cellsOf, 1, 1, (RX1, TX1, 4), M_X1_cellsOf, cs_X1_cellsOf, hlink, ⟨wv_X1_cellsOf, wz_X1_cellsOf, wi_X1_cellsOf, wc_X1_cellsOf⟩, ⟨by decide +kernel, by decide +kernel, by decide +kernel⟩, har, ⟨rfl, rfl, by decide⟩, ?_, ⟨rfl, rfl, hr.1, hr.2⟩⟩
  intro as z K o h
  obtain ⟨t0, o0, r0, rfl, g0⟩ := mm_pr_e h
  obtain ⟨b0, k0⟩ := mm_bif_e g0
  obtain rfl := Nat.eq_of_beq_eq_true b0
  exact ⟨_, _, rfl⟩
-- X1_stuffAt
def lV_X1_stuffAt : List (Nat × (List mm_V → mm_S → (Option mm_V → mm_S → Option mm_R) → Option mm_R)) := []
def mV_X1_stuffAt (k : Nat) (as : List mm_V) (z : mm_S) (kk : Option mm_V → mm_S → Option mm_R) : Option mm_R := match mm_at lV_X1_stuffAt k with
  | some f => f as z kk
  | none => none
def arV_X1_stuffAt (k : Nat) : Nat := (mm_at [] k).getD 0
def lS_X1_stuffAt : List (Nat × (List mm_V → mm_S → (Option mm_V → mm_S → Option mm_R) → Option mm_R)) := [(36, clo_X3_bitsAt), (40, clo_X3_has)]
def mS_X1_stuffAt (k : Nat) (as : List mm_V) (z : mm_S) (kk : Option mm_V → mm_S → Option mm_R) : Option mm_R := match mm_at lS_X1_stuffAt k with
  | some f => f as z kk
  | none => none
def arS_X1_stuffAt (k : Nat) : Nat := (mm_at [(36, 2), (40, 2)] k).getD 0
def ct_X1_stuffAt : List (Nat × List Nat) := [(2, [0, 1, 2])]
def go_X1_stuffAt : Nat → mm_K := mm_go (fun k => mm_at flX1 k) (fun k => mm_at clX1 k) (fun k => mm_at glX1 k) arV_X1_stuffAt arS_X1_stuffAt mV_X1_stuffAt mS_X1_stuffAt lenX roX snX 3 0 tbX1_stuffAt ct_X1_stuffAt
def eX1_stuffAt_0 (n : Nat) (o : Nat) (x1 : Int32) (z : mm_S) : Option mm_R := go_X1_stuffAt n 0 [(0, mm_P 1 o), (1, mm_I x1)] [] z
def eX1_stuffAt_2 (n : Nat) (o : Nat) (y1 : Int32) (y2 : Int32) (z : mm_S) : Option mm_R := go_X1_stuffAt n 2 [(0, mm_P 1 o), (1, mm_I y1), (2, mm_I y2)] [] z
set_option maxRecDepth 100000 in
theorem qX1_stuffAt_0_2 (n : Nat)  (x1 : Int32) (z : mm_S) : eX1_stuffAt_0 (n + 1) 2 x1 z = (eX1_stuffAt_2 n 2 x1 0 z) := rfl
set_option maxRecDepth 100000 in
theorem qX1_stuffAt_2_2 (n : Nat)  (y1 : Int32) (y2 : Int32) (z : mm_S) : eX1_stuffAt_2 (n + 1) 2 y1 y2 z = (if 5 ≤ y2 then some (some (mm_I 0), z) else if (pX3_has (pX3_bitsAt 3 y2 z) y1) = 0 then eX1_stuffAt_2 n 2 y1 (y2 + 1) z else some (some (mm_I y2), z)) := rfl
set_option maxRecDepth 100000 in
theorem qX1_stuffAt_0_14 (n : Nat)  (x1 : Int32) (z : mm_S) : eX1_stuffAt_0 (n + 1) 14 x1 z = (eX1_stuffAt_2 n 14 x1 0 z) := rfl
set_option maxRecDepth 100000 in
theorem qX1_stuffAt_2_14 (n : Nat)  (y1 : Int32) (y2 : Int32) (z : mm_S) : eX1_stuffAt_2 (n + 1) 14 y1 y2 z = (if 5 ≤ y2 then some (some (mm_I 0), z) else if (pX3_has (pX3_bitsAt 15 y2 z) y1) = 0 then eX1_stuffAt_2 n 14 y1 (y2 + 1) z else some (some (mm_I y2), z)) := rfl
set_option maxRecDepth 100000 in
theorem qX1_stuffAt_0_26 (n : Nat)  (x1 : Int32) (z : mm_S) : eX1_stuffAt_0 (n + 1) 26 x1 z = (eX1_stuffAt_2 n 26 x1 0 z) := rfl
set_option maxRecDepth 100000 in
theorem qX1_stuffAt_2_26 (n : Nat)  (y1 : Int32) (y2 : Int32) (z : mm_S) : eX1_stuffAt_2 (n + 1) 26 y1 y2 z = (if 5 ≤ y2 then some (some (mm_I 0), z) else if (pX3_has (pX3_bitsAt 27 y2 z) y1) = 0 then eX1_stuffAt_2 n 26 y1 (y2 + 1) z else some (some (mm_I y2), z)) := rfl
def rm_X1_stuffAt : Room := { frames := 1, cells := 0, slots := 0, locals := 22 }
def f_X1_stuffAt (as : List mm_V) (z : mm_S) (o : mm_R) : Prop := (as.map mm_cat).sum ≤ 3 ∧ ∃ n, go_X1_stuffAt n 0 (mm_ar 0 as) [] z = some o
theorem M_X1_stuffAt : mm_M lyTX lyFA lenX snX 46 48 17 roX rsA nfA nmA ssX yX1_stuffAt cX1_stuffAt 3 (some .int) rm_X1_stuffAt f_X1_stuffAt :=
  mm_met (rt := 0) (by decide +kernel) ⟨fun h => rfl, fun h => absurd h (by decide), fun h => absurd h (by decide), fun h => absurd h (by decide)⟩ tbX1_stuffAt_ok hsnX okFX1 okLX1 okGX1 (fun _ _ _ _ => rfl) (fun _ _ _ _ => rfl) (fun _ h => absurd h List.not_mem_nil) (List.forall_mem_cons.mpr ⟨sS_X3_bitsAt (Or.inr ⟨_, ln_X1_36⟩) rfl ⟨by decide, by decide⟩, List.forall_mem_cons.mpr ⟨sS_X3_has (Or.inr ⟨_, ln_X1_40⟩) rfl ⟨by decide, by decide⟩, fun _ h => absurd h List.not_mem_nil⟩⟩)
def st_at (f : Nat → Int64) (c : Int32) : Nat → Nat → Int32
  | 0, _ => 0
  | k + 1, j => if pX3_has (f j) c = 0 then st_at f c k (j + 1) else nI j
def pX1_stuffAt (o : Nat) (c : Int32) (z : mm_S) : Int32 := st_at (z.2 (o + 1)) c 5 0
theorem sp_X1_stuffAt (o : Nat) (c : Int32) (z : mm_S) (hk : ∀ u ∈ [mm_P 1 o, mm_I c], mm_ok 46 lyTX 48 17 u) : f_X1_stuffAt [mm_P 1 o, mm_I c] z (some (mm_I (pX1_stuffAt o c z)), z) := by
  have hl := (ok1_l (hk (mm_P 1 o) (by simp))).1
  have key : ∀ k j : Nat, j + k = 5 → eX1_stuffAt_2 (k + 1) o c (nI j) z = some (some (mm_I (st_at (z.2 (o + 1)) c k j)), z) := by
    intro k
    induction k with
    | zero =>
      intro j hj
      obtain rfl : j = 5 := by omega
      rcases ok1 (hk (mm_P 1 o) (by simp)) with rfl | rfl | rfl
      · exact (qX1_stuffAt_2_2 0 c (nI 5) z).trans (if_pos (by decide))
      · exact (qX1_stuffAt_2_14 0 c (nI 5) z).trans (if_pos (by decide))
      · exact (qX1_stuffAt_2_26 0 c (nI 5) z).trans (if_pos (by decide))
    | succ k ih =>
      intro j hj
      have hj5 : ¬ (5 : Int32) ≤ nI j := nI_ge (b := 5) (by omega) (by decide)
      have hb : pX3_bitsAt (o + 1) (nI j) z = z.2 (o + 1) j := bits_N z (by omega)
      have fin : (if (5 : Int32) ≤ nI j then some (some (mm_I 0), z) else if pX3_has (pX3_bitsAt (o + 1) (nI j) z) c = 0 then eX1_stuffAt_2 (k + 1) o c (nI j + 1) z else some (some (mm_I (nI j)), z)) = some (some (mm_I (st_at (z.2 (o + 1)) c (k + 1) j)), z) := by
        rw [if_neg hj5, hb, nI_1, ih (j + 1) (by omega)]
        simp only [st_at]
        by_cases h : pX3_has (z.2 (o + 1) j) c = 0
        · rw [if_pos h, if_pos h]
        · rw [if_neg h, if_neg h]
      rcases ok1 (hk (mm_P 1 o) (by simp)) with rfl | rfl | rfl
      · exact (qX1_stuffAt_2_2 (k + 1) c (nI j) z).trans fin
      · exact (qX1_stuffAt_2_14 (k + 1) c (nI j) z).trans fin
      · exact (qX1_stuffAt_2_26 (k + 1) c (nI j) z).trans fin
  have k0 := key 5 0 rfl
  refine ⟨Nat.le_of_ble_eq_true rfl, 7, ?_⟩
  rcases ok1 (hk (mm_P 1 o) (by simp)) with rfl | rfl | rfl
  · exact (qX1_stuffAt_0_2 6 c z).trans k0
  · exact (qX1_stuffAt_0_14 6 c z).trans k0
  · exact (qX1_stuffAt_0_26 6 c z).trans k0
def clo_X1_stuffAt (as : List mm_V) (z : mm_S) (kk : Option mm_V → mm_S → Option mm_R) : Option mm_R := mm_pr as fun t o0 as => bif Nat.beq t 1 then mm_pi as fun a1 as => (match as with | [] => kk (some (mm_I (pX1_stuffAt o0 a1 z))) z | _ => none) else none
theorem cs_X1_stuffAt : mm_cs lyTX 46 48 17 f_X1_stuffAt clo_X1_stuffAt := by
  intro as z K o hk h
  obtain ⟨t0, o0, r0, rfl, g0⟩ := mm_pr_e h
  obtain ⟨b0, k0⟩ := mm_bif_e g0
  obtain rfl := Nat.eq_of_beq_eq_true b0
  obtain ⟨a1, r1, rfl, g1⟩ := mm_pi_e k0
  rcases r1 with _ | ⟨u, w⟩
  rotate_left
  · cases g1
  exact ⟨_, _, sp_X1_stuffAt o0 a1 z hk, fun v hv => by cases hv; exact Or.inl ⟨_, rfl⟩, g1⟩
theorem sV_X1_stuffAt {own : String} {R : Room} {ar : Nat → Nat} {k : Nat} (hlink : Cond.methodLink own k yX1_stuffAt ∈ lw_gd ∨ ∃ host, (own, k, yX1_stuffAt, host) ∈ nmA) (har : ar k = 2) (hr : 2 ≤ R.frames ∧ 44 ≤ R.locals) : mm_okV lyTX lyFA lenX snX 46 48 17 roX rsA nfA nmA ssX own R ar k clo_X1_stuffAt := by
  refine ⟨yX1_stuffAt, cX1_stuffAt, 3, some .int, rm_X1_stuffAt, f_X1_stuffAt, 1, 1, (RX1, TX1, 4), M_X1_stuffAt, cs_X1_stuffAt, hlink, ⟨wv_X1_stuffAt, wz_X1_stuffAt, wi_X1_stuffAt, wc_X1_stuffAt⟩, ⟨by decide +kernel, by decide +kernel, by decide +kernel⟩, har, ⟨rfl, rfl, by decide⟩, ?_, ⟨rfl, rfl, hr.1, hr.2⟩⟩
  intro as z K o h
  obtain ⟨t0, o0, r0, rfl, g0⟩ := mm_pr_e h
  obtain ⟨b0, k0⟩ := mm_bif_e g0
  obtain rfl := Nat.eq_of_beq_eq_true b0
  exact ⟨_, _, rfl⟩
-- X1_paceOf
def lV_X1_paceOf : List (Nat × (List mm_V → mm_S → (Option mm_V → mm_S → Option mm_R) → Option mm_R)) := [(48, clo_X1_stuffAt)]
def mV_X1_paceOf (k : Nat) (as : List mm_V) (z : mm_S) (kk : Option mm_V → mm_S → Option mm_R) : Option mm_R := match mm_at lV_X1_paceOf k with
  | some f => f as z kk
  | none => none
def arV_X1_paceOf (k : Nat) : Nat := (mm_at [(48, 2)] k).getD 0
def lS_X1_paceOf : List (Nat × (List mm_V → mm_S → (Option mm_V → mm_S → Option mm_R) → Option mm_R)) := [(52, clo_X3_at14)]
def mS_X1_paceOf (k : Nat) (as : List mm_V) (z : mm_S) (kk : Option mm_V → mm_S → Option mm_R) : Option mm_R := match mm_at lS_X1_paceOf k with
  | some f => f as z kk
  | none => none
def arS_X1_paceOf (k : Nat) : Nat := (mm_at [(52, 2)] k).getD 0
def ct_X1_paceOf : List (Nat × List Nat) := []
def go_X1_paceOf : Nat → mm_K := mm_go (fun k => mm_at flX1 k) (fun k => mm_at clX1 k) (fun k => mm_at glX1 k) arV_X1_paceOf arS_X1_paceOf mV_X1_paceOf mS_X1_paceOf lenX roX snX 2 0 tbX1_paceOf ct_X1_paceOf
def eX1_paceOf_0 (n : Nat) (o : Nat) (x1 : Int32) (z : mm_S) : Option mm_R := go_X1_paceOf n 0 [(0, mm_P 1 o), (1, mm_I x1)] [] z
set_option maxRecDepth 100000 in
theorem qX1_paceOf_0_2 (n : Nat)  (x1 : Int32) (z : mm_S) : eX1_paceOf_0 (n + 1) 2 x1 z = (some (some (mm_I (pX3_at14 46 (pX1_stuffAt 2 x1 z))), z)) := rfl
set_option maxRecDepth 100000 in
theorem qX1_paceOf_0_14 (n : Nat)  (x1 : Int32) (z : mm_S) : eX1_paceOf_0 (n + 1) 14 x1 z = (some (some (mm_I (pX3_at14 46 (pX1_stuffAt 14 x1 z))), z)) := rfl
set_option maxRecDepth 100000 in
theorem qX1_paceOf_0_26 (n : Nat)  (x1 : Int32) (z : mm_S) : eX1_paceOf_0 (n + 1) 26 x1 z = (some (some (mm_I (pX3_at14 46 (pX1_stuffAt 26 x1 z))), z)) := rfl
def rm_X1_paceOf : Room := { frames := 2, cells := 0, slots := 0, locals := 44 }
def f_X1_paceOf (as : List mm_V) (z : mm_S) (o : mm_R) : Prop := (as.map mm_cat).sum ≤ 2 ∧ ∃ n, go_X1_paceOf n 0 (mm_ar 0 as) [] z = some o
theorem M_X1_paceOf : mm_M lyTX lyFA lenX snX 46 48 17 roX rsA nfA nmA ssX yX1_paceOf cX1_paceOf 2 (some .int) rm_X1_paceOf f_X1_paceOf :=
  mm_met (rt := 0) (by decide +kernel) ⟨fun h => rfl, fun h => absurd h (by decide), fun h => absurd h (by decide), fun h => absurd h (by decide)⟩ tbX1_paceOf_ok hsnX okFX1 okLX1 okGX1 (fun _ _ _ _ => rfl) (fun _ _ _ _ => rfl) (List.forall_mem_cons.mpr ⟨sV_X1_stuffAt (Or.inl lk_X1_48) rfl ⟨by decide, by decide⟩, fun _ h => absurd h List.not_mem_nil⟩) (List.forall_mem_cons.mpr ⟨sS_X3_at14 (Or.inr ⟨_, ln_X1_52⟩) rfl ⟨by decide, by decide⟩, fun _ h => absurd h List.not_mem_nil⟩)
def pX1_paceOf (o : Nat) (x1 : Int32) (z : mm_S) : Int32 := (pX3_at14 46 (pX1_stuffAt o x1 z))
theorem sp_X1_paceOf (o : Nat) (x1 : Int32) (z : mm_S) (hk : ∀ v ∈ [mm_P 1 o, mm_I x1], mm_ok 46 lyTX 48 17 v) : f_X1_paceOf [mm_P 1 o, mm_I x1] z (some (mm_I (pX1_paceOf o x1 z)), z) := by
  refine ⟨Nat.le_of_ble_eq_true rfl, 1, ?_⟩
  rcases ok1 (hk (mm_P 1 o) (by simp)) with rfl | rfl | rfl
  · exact (qX1_paceOf_0_2 0 x1 z).trans rfl
  · exact (qX1_paceOf_0_14 0 x1 z).trans rfl
  · exact (qX1_paceOf_0_26 0 x1 z).trans rfl
def clo_X1_paceOf (as : List mm_V) (z : mm_S) (kk : Option mm_V → mm_S → Option mm_R) : Option mm_R := mm_pr as fun t o0 as => bif Nat.beq t 1 then mm_pi as fun a1 as => (match as with | [] => kk (some (mm_I (pX1_paceOf o0 a1 z))) z | _ => none) else none
theorem cs_X1_paceOf : mm_cs lyTX 46 48 17 f_X1_paceOf clo_X1_paceOf := by
  intro as z K o hk h
  obtain ⟨t0, o0, r0, rfl, g0⟩ := mm_pr_e h
  obtain ⟨b0, k0⟩ := mm_bif_e g0
  obtain rfl := Nat.eq_of_beq_eq_true b0
  obtain ⟨a1, r1, rfl, g1⟩ := mm_pi_e k0
  rcases r1 with _ | ⟨u, w⟩
  rotate_left
  · cases g1
  exact ⟨_, _, sp_X1_paceOf o0 a1 z hk, fun v hv => by cases hv; exact Or.inl ⟨_, rfl⟩, g1⟩
theorem sV_X1_paceOf {own : String} {R : Room} {ar : Nat → Nat} {k : Nat} (hlink : Cond.methodLink own k yX1_paceOf ∈ lw_gd ∨ ∃ host, (own, k, yX1_paceOf, host) ∈ nmA) (har : ar k = 2) (hr : 3 ≤ R.frames ∧ 65 ≤ R.locals) : mm_okV lyTX lyFA lenX snX 46 48 17 roX rsA nfA nmA ssX own R ar k clo_X1_paceOf := by
  refine ⟨yX1_paceOf, cX1_paceOf, 2, some .int, rm_X1_paceOf, f_X1_paceOf, 1, 1, (RX1, TX1, 4), M_X1_paceOf, cs_X1_paceOf, hlink, ⟨wv_X1_paceOf, wz_X1_paceOf, wi_X1_paceOf, wc_X1_paceOf⟩, ⟨by decide +kernel, by decide +kernel, by decide +kernel⟩, har, ⟨rfl, rfl, by decide⟩, ?_, ⟨rfl, rfl, hr.1, hr.2⟩⟩
  intro as z K o h
  obtain ⟨t0, o0, r0, rfl, g0⟩ := mm_pr_e h
  obtain ⟨b0, k0⟩ := mm_bif_e g0
  obtain rfl := Nat.eq_of_beq_eq_true b0
  exact ⟨_, _, rfl⟩
-- X1_dryCells
def lV_X1_dryCells : List (Nat × (List mm_V → mm_S → (Option mm_V → mm_S → Option mm_R) → Option mm_R)) := [(69, clo_X1_cellsOf)]
def mV_X1_dryCells (k : Nat) (as : List mm_V) (z : mm_S) (kk : Option mm_V → mm_S → Option mm_R) : Option mm_R := match mm_at lV_X1_dryCells k with
  | some f => f as z kk
  | none => none
def arV_X1_dryCells (k : Nat) : Nat := (mm_at [(69, 2)] k).getD 0
def lS_X1_dryCells : List (Nat × (List mm_V → mm_S → (Option mm_V → mm_S → Option mm_R) → Option mm_R)) := [(72, clo_X3_besides)]
def mS_X1_dryCells (k : Nat) (as : List mm_V) (z : mm_S) (kk : Option mm_V → mm_S → Option mm_R) : Option mm_R := match mm_at lS_X1_dryCells k with
  | some f => f as z kk
  | none => none
def arS_X1_dryCells (k : Nat) : Nat := (mm_at [(72, 1)] k).getD 0
def ct_X1_dryCells : List (Nat × List Nat) := []
def go_X1_dryCells : Nat → mm_K := mm_go (fun k => mm_at flX1 k) (fun k => mm_at clX1 k) (fun k => mm_at glX1 k) arV_X1_dryCells arS_X1_dryCells mV_X1_dryCells mS_X1_dryCells lenX roX snX 3 2 tbX1_dryCells ct_X1_dryCells
def eX1_dryCells_0 (n : Nat) (o : Nat) (z : mm_S) : Option mm_R := go_X1_dryCells n 0 [(0, mm_P 1 o)] [] z
set_option maxRecDepth 100000 in
theorem qX1_dryCells_0_2 (n : Nat)  (z : mm_S) : eX1_dryCells_0 (n + 1) 2 z = (some (some (mm_J (68719476735 &&& (((pX1_cellsOf 2 3 z) ||| (pX3_besides (pX1_cellsOf 2 3 z))) ^^^ (-1)))), z)) := rfl
set_option maxRecDepth 100000 in
theorem qX1_dryCells_0_14 (n : Nat)  (z : mm_S) : eX1_dryCells_0 (n + 1) 14 z = (some (some (mm_J (68719476735 &&& (((pX1_cellsOf 14 3 z) ||| (pX3_besides (pX1_cellsOf 14 3 z))) ^^^ (-1)))), z)) := rfl
set_option maxRecDepth 100000 in
theorem qX1_dryCells_0_26 (n : Nat)  (z : mm_S) : eX1_dryCells_0 (n + 1) 26 z = (some (some (mm_J (68719476735 &&& (((pX1_cellsOf 26 3 z) ||| (pX3_besides (pX1_cellsOf 26 3 z))) ^^^ (-1)))), z)) := rfl
def rm_X1_dryCells : Room := { frames := 2, cells := 0, slots := 0, locals := 42 }
def f_X1_dryCells (as : List mm_V) (z : mm_S) (o : mm_R) : Prop := (as.map mm_cat).sum ≤ 3 ∧ ∃ n, go_X1_dryCells n 0 (mm_ar 0 as) [] z = some o
theorem M_X1_dryCells : mm_M lyTX lyFA lenX snX 46 48 17 roX rsA nfA nmA ssX yX1_dryCells cX1_dryCells 3 (some .long) rm_X1_dryCells f_X1_dryCells :=
  mm_met (rt := 2) (by decide +kernel) ⟨fun h => absurd h (by decide), fun h => absurd h (by decide), fun h => rfl, fun h => absurd h (by decide)⟩ tbX1_dryCells_ok hsnX okFX1 okLX1 okGX1 (fun _ _ _ _ => rfl) (fun _ _ _ _ => rfl) (List.forall_mem_cons.mpr ⟨sV_X1_cellsOf (Or.inl lk_X1_69) rfl ⟨by decide, by decide⟩, fun _ h => absurd h List.not_mem_nil⟩) (List.forall_mem_cons.mpr ⟨sS_X3_besides (Or.inr ⟨_, ln_X1_72⟩) rfl ⟨by decide, by decide⟩, fun _ h => absurd h List.not_mem_nil⟩)
def pX1_dryCells (o : Nat) (z : mm_S) : Int64 := (68719476735 &&& (((pX1_cellsOf o 3 z) ||| (pX3_besides (pX1_cellsOf o 3 z))) ^^^ (-1)))
theorem sp_X1_dryCells (o : Nat) (z : mm_S) (hk : ∀ v ∈ [mm_P 1 o], mm_ok 46 lyTX 48 17 v) : f_X1_dryCells [mm_P 1 o] z (some (mm_J (pX1_dryCells o z)), z) := by
  refine ⟨Nat.le_of_ble_eq_true rfl, 1, ?_⟩
  rcases ok1 (hk (mm_P 1 o) (by simp)) with rfl | rfl | rfl
  · exact (qX1_dryCells_0_2 0  z).trans rfl
  · exact (qX1_dryCells_0_14 0  z).trans rfl
  · exact (qX1_dryCells_0_26 0  z).trans rfl
def clo_X1_dryCells (as : List mm_V) (z : mm_S) (kk : Option mm_V → mm_S → Option mm_R) : Option mm_R := mm_pr as fun t o0 as => bif Nat.beq t 1 then (match as with | [] => kk (some (mm_J (pX1_dryCells o0 z))) z | _ => none) else none
theorem cs_X1_dryCells : mm_cs lyTX 46 48 17 f_X1_dryCells clo_X1_dryCells := by
  intro as z K o hk h
  obtain ⟨t0, o0, r0, rfl, g0⟩ := mm_pr_e h
  obtain ⟨b0, k0⟩ := mm_bif_e g0
  obtain rfl := Nat.eq_of_beq_eq_true b0
  rcases r0 with _ | ⟨u, w⟩
  rotate_left
  · cases k0
  exact ⟨_, _, sp_X1_dryCells o0 z hk, fun v hv => by cases hv; exact Or.inr ⟨_, rfl⟩, k0⟩
theorem sV_X1_dryCells {own : String} {R : Room} {ar : Nat → Nat} {k : Nat} (hlink : Cond.methodLink own k yX1_dryCells ∈ lw_gd ∨ ∃ host, (own, k, yX1_dryCells, host) ∈ nmA) (har : ar k = 1) (hr : 3 ≤ R.frames ∧ 64 ≤ R.locals) : mm_okV lyTX lyFA lenX snX 46 48 17 roX rsA nfA nmA ssX own R ar k clo_X1_dryCells := by
  refine ⟨yX1_dryCells, cX1_dryCells, 3, some .long, rm_X1_dryCells, f_X1_dryCells, 1, 0, (RX1, TX1, 4), M_X1_dryCells, cs_X1_dryCells, hlink, ⟨wv_X1_dryCells, wz_X1_dryCells, wi_X1_dryCells, wc_X1_dryCells⟩, ⟨by decide +kernel, by decide +kernel, by decide +kernel⟩, har, ⟨rfl, rfl, by decide⟩, ?_, ⟨rfl, rfl, hr.1, hr.2⟩⟩
  intro as z K o h
  obtain ⟨t0, o0, r0, rfl, g0⟩ := mm_pr_e h
  obtain ⟨b0, k0⟩ := mm_bif_e g0
  obtain rfl := Nat.eq_of_beq_eq_true b0
  exact ⟨_, _, rfl⟩
-- X0_holes
def lV_X0_holes : List (Nat × (List mm_V → mm_S → (Option mm_V → mm_S → Option mm_R) → Option mm_R)) := [(92, clo_X1_cellsOf)]
def mV_X0_holes (k : Nat) (as : List mm_V) (z : mm_S) (kk : Option mm_V → mm_S → Option mm_R) : Option mm_R := match mm_at lV_X0_holes k with
  | some f => f as z kk
  | none => none
def arV_X0_holes (k : Nat) : Nat := (mm_at [(92, 2)] k).getD 0
def lS_X0_holes : List (Nat × (List mm_V → mm_S → (Option mm_V → mm_S → Option mm_R) → Option mm_R)) := [(96, clo_J13_bitCount_95d88)]
def mS_X0_holes (k : Nat) (as : List mm_V) (z : mm_S) (kk : Option mm_V → mm_S → Option mm_R) : Option mm_R := match mm_at lS_X0_holes k with
  | some f => f as z kk
  | none => none
def arS_X0_holes (k : Nat) : Nat := (mm_at [(96, 1)] k).getD 0
def ct_X0_holes : List (Nat × List Nat) := []
def go_X0_holes : Nat → mm_K := mm_go (fun k => mm_at flX0 k) (fun k => mm_at clX0 k) (fun k => mm_at glX0 k) arV_X0_holes arS_X0_holes mV_X0_holes mS_X0_holes lenX roX snX 1 0 tbX0_holes ct_X0_holes
def eX0_holes_0 (n : Nat) (o : Nat) (z : mm_S) : Option mm_R := go_X0_holes n 0 [(0, mm_P 0 o)] [] z
set_option maxRecDepth 100000 in
theorem qX0_holes_0_1 (n : Nat)  (z : mm_S) : eX0_holes_0 (n + 1) 1 z = (some (some (mm_I (pJ13_bitCount_95d88 (pX1_cellsOf 2 2 z))), z)) := rfl
set_option maxRecDepth 100000 in
theorem qX0_holes_0_13 (n : Nat)  (z : mm_S) : eX0_holes_0 (n + 1) 13 z = (some (some (mm_I (pJ13_bitCount_95d88 (pX1_cellsOf 14 2 z))), z)) := rfl
set_option maxRecDepth 100000 in
theorem qX0_holes_0_25 (n : Nat)  (z : mm_S) : eX0_holes_0 (n + 1) 25 z = (some (some (mm_I (pJ13_bitCount_95d88 (pX1_cellsOf 26 2 z))), z)) := rfl
def rm_X0_holes : Room := { frames := 2, cells := 0, slots := 0, locals := 42 }
def f_X0_holes (as : List mm_V) (z : mm_S) (o : mm_R) : Prop := (as.map mm_cat).sum ≤ 1 ∧ ∃ n, go_X0_holes n 0 (mm_ar 0 as) [] z = some o
theorem M_X0_holes : mm_M lyTX lyFA lenX snX 46 48 17 roX rsA nfA nmA ssX yX0_holes cX0_holes 1 (some .int) rm_X0_holes f_X0_holes :=
  mm_met (rt := 0) (by decide +kernel) ⟨fun h => rfl, fun h => absurd h (by decide), fun h => absurd h (by decide), fun h => absurd h (by decide)⟩ tbX0_holes_ok hsnX okFX0 okLX0 okGX0 (fun _ _ _ _ => rfl) (fun _ _ _ _ => rfl) (List.forall_mem_cons.mpr ⟨sV_X1_cellsOf (Or.inl lk_X0_92) rfl ⟨by decide, by decide⟩, fun _ h => absurd h List.not_mem_nil⟩) (List.forall_mem_cons.mpr ⟨sS_J13_bitCount_95d88 (Or.inl lk_X0_96) rfl ⟨by decide, by decide⟩, fun _ h => absurd h List.not_mem_nil⟩)
def pX0_holes (o : Nat) (z : mm_S) : Int32 := (pJ13_bitCount_95d88 (pX1_cellsOf (o + 1) 2 z))
theorem sp_X0_holes (o : Nat) (z : mm_S) (hk : ∀ v ∈ [mm_P 0 o], mm_ok 46 lyTX 48 17 v) : f_X0_holes [mm_P 0 o] z (some (mm_I (pX0_holes o z)), z) := by
  refine ⟨Nat.le_of_ble_eq_true rfl, 1, ?_⟩
  rcases ok0 (hk (mm_P 0 o) (by simp)) with rfl | rfl | rfl
  · exact (qX0_holes_0_1 0  z).trans rfl
  · exact (qX0_holes_0_13 0  z).trans rfl
  · exact (qX0_holes_0_25 0  z).trans rfl
def clo_X0_holes (as : List mm_V) (z : mm_S) (kk : Option mm_V → mm_S → Option mm_R) : Option mm_R := mm_pr as fun t o0 as => bif Nat.beq t 0 then (match as with | [] => kk (some (mm_I (pX0_holes o0 z))) z | _ => none) else none
theorem cs_X0_holes : mm_cs lyTX 46 48 17 f_X0_holes clo_X0_holes := by
  intro as z K o hk h
  obtain ⟨t0, o0, r0, rfl, g0⟩ := mm_pr_e h
  obtain ⟨b0, k0⟩ := mm_bif_e g0
  obtain rfl := Nat.eq_of_beq_eq_true b0
  rcases r0 with _ | ⟨u, w⟩
  rotate_left
  · cases k0
  exact ⟨_, _, sp_X0_holes o0 z hk, fun v hv => by cases hv; exact Or.inl ⟨_, rfl⟩, k0⟩
theorem sV_X0_holes {own : String} {R : Room} {ar : Nat → Nat} {k : Nat} (hlink : Cond.methodLink own k yX0_holes ∈ lw_gd ∨ ∃ host, (own, k, yX0_holes, host) ∈ nmA) (har : ar k = 1) (hr : 3 ≤ R.frames ∧ 62 ≤ R.locals) : mm_okV lyTX lyFA lenX snX 46 48 17 roX rsA nfA nmA ssX own R ar k clo_X0_holes := by
  refine ⟨yX0_holes, cX0_holes, 1, some .int, rm_X0_holes, f_X0_holes, 0, 0, (RX0, TX0, 14), M_X0_holes, cs_X0_holes, hlink, ⟨wv_X0_holes, wz_X0_holes, wi_X0_holes, wc_X0_holes⟩, ⟨by decide +kernel, by decide +kernel, by decide +kernel⟩, har, ⟨rfl, rfl, by decide⟩, ?_, ⟨rfl, rfl, hr.1, hr.2⟩⟩
  intro as z K o h
  obtain ⟨t0, o0, r0, rfl, g0⟩ := mm_pr_e h
  obtain ⟨b0, k0⟩ := mm_bif_e g0
  obtain rfl := Nat.eq_of_beq_eq_true b0
  exact ⟨_, _, rfl⟩
-- X0_heardBy
def lV_X0_heardBy : List (Nat × (List mm_V → mm_S → (Option mm_V → mm_S → Option mm_R) → Option mm_R)) := [(81, clo_X0_kindOf), (115, clo_X0_carriesOf)]
def mV_X0_heardBy (k : Nat) (as : List mm_V) (z : mm_S) (kk : Option mm_V → mm_S → Option mm_R) : Option mm_R := match mm_at lV_X0_heardBy k with
  | some f => f as z kk
  | none => none
def arV_X0_heardBy (k : Nat) : Nat := (mm_at [(81, 2), (115, 2)] k).getD 0
def lS_X0_heardBy : List (Nat × (List mm_V → mm_S → (Option mm_V → mm_S → Option mm_R) → Option mm_R)) := [(118, clo_X3_startsAs)]
def mS_X0_heardBy (k : Nat) (as : List mm_V) (z : mm_S) (kk : Option mm_V → mm_S → Option mm_R) : Option mm_R := match mm_at lS_X0_heardBy k with
  | some f => f as z kk
  | none => none
def arS_X0_heardBy (k : Nat) : Nat := (mm_at [(118, 1)] k).getD 0
def ct_X0_heardBy : List (Nat × List Nat) := []
def go_X0_heardBy : Nat → mm_K := mm_go (fun k => mm_at flX0 k) (fun k => mm_at clX0 k) (fun k => mm_at glX0 k) arV_X0_heardBy arS_X0_heardBy mV_X0_heardBy mS_X0_heardBy lenX roX snX 3 0 tbX0_heardBy ct_X0_heardBy
def eX0_heardBy_0 (n : Nat) (o : Nat) (x1 : Int32) (x2 : Int32) (z : mm_S) : Option mm_R := go_X0_heardBy n 0 [(0, mm_P 0 o), (1, mm_I x1), (2, mm_I x2)] [] z
set_option maxRecDepth 100000 in
theorem qX0_heardBy_0_1 (n : Nat)  (x1 : Int32) (x2 : Int32) (z : mm_S) : eX0_heardBy_0 (n + 1) 1 x1 x2 z = (if x2 = (-1) then some (some (mm_I (-1)), z) else if x2 ≤ (pX0_carriesOf 1 x1 z) then some (some (mm_I (x2 + (pX3_startsAs (pX0_kindOf 1 x1 z)))), z) else some (some (mm_I (-1)), z)) := rfl
set_option maxRecDepth 100000 in
theorem qX0_heardBy_0_13 (n : Nat)  (x1 : Int32) (x2 : Int32) (z : mm_S) : eX0_heardBy_0 (n + 1) 13 x1 x2 z = (if x2 = (-1) then some (some (mm_I (-1)), z) else if x2 ≤ (pX0_carriesOf 13 x1 z) then some (some (mm_I (x2 + (pX3_startsAs (pX0_kindOf 13 x1 z)))), z) else some (some (mm_I (-1)), z)) := rfl
set_option maxRecDepth 100000 in
theorem qX0_heardBy_0_25 (n : Nat)  (x1 : Int32) (x2 : Int32) (z : mm_S) : eX0_heardBy_0 (n + 1) 25 x1 x2 z = (if x2 = (-1) then some (some (mm_I (-1)), z) else if x2 ≤ (pX0_carriesOf 25 x1 z) then some (some (mm_I (x2 + (pX3_startsAs (pX0_kindOf 25 x1 z)))), z) else some (some (mm_I (-1)), z)) := rfl
def rm_X0_heardBy : Room := { frames := 3, cells := 0, slots := 0, locals := 63 }
def f_X0_heardBy (as : List mm_V) (z : mm_S) (o : mm_R) : Prop := (as.map mm_cat).sum ≤ 3 ∧ ∃ n, go_X0_heardBy n 0 (mm_ar 0 as) [] z = some o
theorem M_X0_heardBy : mm_M lyTX lyFA lenX snX 46 48 17 roX rsA nfA nmA ssX yX0_heardBy cX0_heardBy 3 (some .int) rm_X0_heardBy f_X0_heardBy :=
  mm_met (rt := 0) (by decide +kernel) ⟨fun h => rfl, fun h => absurd h (by decide), fun h => absurd h (by decide), fun h => absurd h (by decide)⟩ tbX0_heardBy_ok hsnX okFX0 okLX0 okGX0 (fun _ _ _ _ => rfl) (fun _ _ _ _ => rfl) (List.forall_mem_cons.mpr ⟨sV_X0_kindOf (Or.inl lk_X0_81) rfl ⟨by decide, by decide⟩, List.forall_mem_cons.mpr ⟨sV_X0_carriesOf (Or.inl lk_X0_115) rfl ⟨by decide, by decide⟩, fun _ h => absurd h List.not_mem_nil⟩⟩) (List.forall_mem_cons.mpr ⟨sS_X3_startsAs (Or.inr ⟨_, ln_X0_118⟩) rfl ⟨by decide, by decide⟩, fun _ h => absurd h List.not_mem_nil⟩)
def pX0_heardBy (o : Nat) (x1 : Int32) (x2 : Int32) (z : mm_S) : Int32 := if x2 = (-1) then (-1) else if x2 ≤ (pX0_carriesOf o x1 z) then (x2 + (pX3_startsAs (pX0_kindOf o x1 z))) else (-1)
theorem sp_X0_heardBy (o : Nat) (x1 : Int32) (x2 : Int32) (z : mm_S) (hk : ∀ v ∈ [mm_P 0 o, mm_I x1, mm_I x2], mm_ok 46 lyTX 48 17 v) : f_X0_heardBy [mm_P 0 o, mm_I x1, mm_I x2] z (some (mm_I (pX0_heardBy o x1 x2 z)), z) := by
  refine ⟨Nat.le_of_ble_eq_true rfl, 1, ?_⟩
  rcases ok0 (hk (mm_P 0 o) (by simp)) with rfl | rfl | rfl
  · exact (qX0_heardBy_0_1 0 x1 x2 z).trans (mm_if (fun v => some (some (mm_I v), z)) rfl (mm_if (fun v => some (some (mm_I v), z)) rfl rfl))
  · exact (qX0_heardBy_0_13 0 x1 x2 z).trans (mm_if (fun v => some (some (mm_I v), z)) rfl (mm_if (fun v => some (some (mm_I v), z)) rfl rfl))
  · exact (qX0_heardBy_0_25 0 x1 x2 z).trans (mm_if (fun v => some (some (mm_I v), z)) rfl (mm_if (fun v => some (some (mm_I v), z)) rfl rfl))
def clo_X0_heardBy (as : List mm_V) (z : mm_S) (kk : Option mm_V → mm_S → Option mm_R) : Option mm_R := mm_pr as fun t o0 as => bif Nat.beq t 0 then mm_pi as fun a1 as => mm_pi as fun a2 as => (match as with | [] => kk (some (mm_I (pX0_heardBy o0 a1 a2 z))) z | _ => none) else none
theorem cs_X0_heardBy : mm_cs lyTX 46 48 17 f_X0_heardBy clo_X0_heardBy := by
  intro as z K o hk h
  obtain ⟨t0, o0, r0, rfl, g0⟩ := mm_pr_e h
  obtain ⟨b0, k0⟩ := mm_bif_e g0
  obtain rfl := Nat.eq_of_beq_eq_true b0
  obtain ⟨a1, r1, rfl, g1⟩ := mm_pi_e k0
  obtain ⟨a2, r2, rfl, g2⟩ := mm_pi_e g1
  rcases r2 with _ | ⟨u, w⟩
  rotate_left
  · cases g2
  exact ⟨_, _, sp_X0_heardBy o0 a1 a2 z hk, fun v hv => by cases hv; exact Or.inl ⟨_, rfl⟩, g2⟩
theorem sV_X0_heardBy {own : String} {R : Room} {ar : Nat → Nat} {k : Nat} (hlink : Cond.methodLink own k yX0_heardBy ∈ lw_gd ∨ ∃ host, (own, k, yX0_heardBy, host) ∈ nmA) (har : ar k = 3) (hr : 4 ≤ R.frames ∧ 85 ≤ R.locals) : mm_okV lyTX lyFA lenX snX 46 48 17 roX rsA nfA nmA ssX own R ar k clo_X0_heardBy := by
  refine ⟨yX0_heardBy, cX0_heardBy, 3, some .int, rm_X0_heardBy, f_X0_heardBy, 0, 2, (RX0, TX0, 14), M_X0_heardBy, cs_X0_heardBy, hlink, ⟨wv_X0_heardBy, wz_X0_heardBy, wi_X0_heardBy, wc_X0_heardBy⟩, ⟨by decide +kernel, by decide +kernel, by decide +kernel⟩, har, ⟨rfl, rfl, by decide⟩, ?_, ⟨rfl, rfl, hr.1, hr.2⟩⟩
  intro as z K o h
  obtain ⟨t0, o0, r0, rfl, g0⟩ := mm_pr_e h
  obtain ⟨b0, k0⟩ := mm_bif_e g0
  obtain rfl := Nat.eq_of_beq_eq_true b0
  exact ⟨_, _, rfl⟩
-- X3_moveNumbers
def lV_X3_moveNumbers : List (Nat × (List mm_V → mm_S → (Option mm_V → mm_S → Option mm_R) → Option mm_R)) := []
def mV_X3_moveNumbers (k : Nat) (as : List mm_V) (z : mm_S) (kk : Option mm_V → mm_S → Option mm_R) : Option mm_R := match mm_at lV_X3_moveNumbers k with
  | some f => f as z kk
  | none => none
def arV_X3_moveNumbers (k : Nat) : Nat := (mm_at [] k).getD 0
def lS_X3_moveNumbers : List (Nat × (List mm_V → mm_S → (Option mm_V → mm_S → Option mm_R) → Option mm_R)) := [(118, clo_X3_lies), (361, (mm_ci lenX))]
def mS_X3_moveNumbers (k : Nat) (as : List mm_V) (z : mm_S) (kk : Option mm_V → mm_S → Option mm_R) : Option mm_R := match mm_at lS_X3_moveNumbers k with
  | some f => f as z kk
  | none => none
def arS_X3_moveNumbers (k : Nat) : Nat := (mm_at [(118, 3), (361, 5)] k).getD 0
def ct_X3_moveNumbers : List (Nat × List Nat) := []
def go_X3_moveNumbers : Nat → mm_K := mm_go (fun k => mm_at flX3 k) (fun k => mm_at clX3 k) (fun k => mm_at glX3 k) arV_X3_moveNumbers arS_X3_moveNumbers mV_X3_moveNumbers mS_X3_moveNumbers lenX roX snX 4 3 tbX3_moveNumbers ct_X3_moveNumbers
def eX3_moveNumbers_0 (n : Nat) (x1 : Nat) (x2 : Int32) (x3 : Int32) (x4 : Int32) (z : mm_S) : Option mm_R := go_X3_moveNumbers n 0 [(0, mm_P 10 x1), (1, mm_I x2), (2, mm_I x3), (3, mm_I x4)] [] z
set_option maxRecDepth 100000 in
theorem qX3_moveNumbers_0 (n : Nat) (x1 : Nat) (x2 : Int32) (x3 : Int32) (x4 : Int32) (z : mm_S) : eX3_moveNumbers_0 (n + 1) x1 x2 x3 x4 z = (if x4 < 0 then some (none, z) else if (pX3_lies x2 0 ((Int32.ofNat (lenX x1)) - x4)) = 0 then some (none, z) else if (pX3_lies x3 0 ((Int32.ofNat (lenX x1)) - x4)) = 0 then some (none, z) else if (x2 : Int32) < 0 ∨ (x3 : Int32) < 0 ∨ (x4 : Int32) < 0 ∨ lenX x1 < Int32.toNatClampNeg x2 + Int32.toNatClampNeg x4 ∨ lenX x1 < Int32.toNatClampNeg x3 + Int32.toNatClampNeg x4 then none else let u1 : mm_S := (mm_cp z.1 x1 x1 (Int32.toNatClampNeg x2) (Int32.toNatClampNeg x3) (Int32.toNatClampNeg x4), z.2); some (none, u1)) := rfl
def rm_X3_moveNumbers : Room := { frames := 1, cells := 0, slots := 0, locals := 26 }
def f_X3_moveNumbers (as : List mm_V) (z : mm_S) (o : mm_R) : Prop := (as.map mm_cat).sum ≤ 4 ∧ ∃ n, go_X3_moveNumbers n 0 (mm_ar 0 as) [] z = some o
theorem M_X3_moveNumbers : mm_M lyTX lyFA lenX snX 46 48 17 roX rsA nfA nmA ssX yX3_moveNumbers cX3_moveNumbers 4 (none) rm_X3_moveNumbers f_X3_moveNumbers :=
  mm_met (rt := 3) (by decide +kernel) ⟨fun h => absurd h (by decide), fun h => absurd h (by decide), fun h => absurd h (by decide), fun h => rfl⟩ tbX3_moveNumbers_ok hsnX okFX3 okLX3 okGX3 (fun _ _ _ _ => rfl) (fun _ _ _ _ => rfl) (fun _ h => absurd h List.not_mem_nil) (List.forall_mem_cons.mpr ⟨sS_X3_lies (Or.inl lk_X3_118) rfl ⟨by decide, by decide⟩, List.forall_mem_cons.mpr ⟨Or.inr (Or.inl ⟨Or.inl rfl, lk_X3_361, wn_copy, ws_copy, wi_copy, by decide, by decide, rfl⟩), fun _ h => absurd h List.not_mem_nil⟩⟩)
def tX3_moveNumbers (k : Nat) (f t n : Int32) (z : mm_S) : mm_S := if n < 0 then z else if pX3_lies f 0 (Int32.ofNat (lenX k) - n) = 0 then z else if pX3_lies t 0 (Int32.ofNat (lenX k) - n) = 0 then z else (mm_cp z.1 k k f.toNatClampNeg t.toNatClampNeg n.toNatClampNeg, z.2)
theorem lies_sub {f n : Int32} {L : Nat} (hL : L < 2 ^ 31) (hn : ¬ n < 0) (h : ¬ pX3_lies f 0 (Int32.ofNat L - n) = 0) : ¬ f < 0 ∧ f.toNatClampNeg + n.toNatClampNeg ≤ L := by
  unfold pX3_lies at h
  by_cases h1 : f < 0
  · exact absurd (if_pos h1) h
  · rw [if_neg h1] at h
    by_cases h2 : Int32.ofNat L - n < f
    · exact absurd (if_pos h2) h
    · refine ⟨h1, ?_⟩
      obtain ⟨a, ha, rfl⟩ := nI_of hn
      obtain ⟨b, hb, rfl⟩ := nI_of h1
      rw [nI_clamp ha, nI_clamp hb]
      have h3 := Int32.le_iff_toInt_le.mp (Int32.not_lt.mp h2)
      have h4 : (nI L - nI a).toInt = (L : Int) - a := by
        rw [Int32.toInt_sub, nI_toInt hL, nI_toInt ha]
        exact Int.bmod_eq_of_le (by omega) (by omega)
      have h5 : (nI b).toInt ≤ (nI L - nI a).toInt := h3
      rw [nI_toInt hb, h4] at h5
      omega
theorem sp_X3_moveNumbers (k : Nat) (f t n : Int32) (z : mm_S) (_ : ∀ u ∈ [mm_P 10 k, mm_I f, mm_I t, mm_I n], mm_ok 46 lyTX 48 17 u) : f_X3_moveNumbers [mm_P 10 k, mm_I f, mm_I t, mm_I n] z (none, tX3_moveNumbers k f t n z) := by
  refine ⟨Nat.le_of_ble_eq_true rfl, 1, (qX3_moveNumbers_0 0 k f t n z).trans ?_⟩
  unfold tX3_moveNumbers
  by_cases h0 : n < 0
  · rw [if_pos h0, if_pos h0]
  · rw [if_neg h0, if_neg h0]
    by_cases h1 : pX3_lies f 0 (Int32.ofNat (lenX k) - n) = 0
    · rw [if_pos h1, if_pos h1]
    · rw [if_neg h1, if_neg h1]
      by_cases h2 : pX3_lies t 0 (Int32.ofNat (lenX k) - n) = 0
      · rw [if_pos h2, if_pos h2]
      · obtain ⟨a1, a2⟩ := lies_sub (lenX_lt k) h0 h1
        obtain ⟨b1, b2⟩ := lies_sub (lenX_lt k) h0 h2
        have g : ¬ (f < 0 ∨ t < 0 ∨ n < 0 ∨ lenX k < f.toNatClampNeg + n.toNatClampNeg ∨ lenX k < t.toNatClampNeg + n.toNatClampNeg) := by
          rintro (q | q | q | q | q)
          · exact a1 q
          · exact b1 q
          · exact h0 q
          · omega
          · omega
        rw [if_neg h2, if_neg h2, if_neg g]
def clo_X3_moveNumbers (as : List mm_V) (z : mm_S) (kk : Option mm_V → mm_S → Option mm_R) : Option mm_R := mm_pr as fun t o0 as => bif Nat.beq t 10 then mm_pi as fun a1 as => mm_pi as fun a2 as => mm_pi as fun a3 as => (match as with | [] => kk none (tX3_moveNumbers o0 a1 a2 a3 z) | _ => none) else none
theorem cs_X3_moveNumbers : mm_cs lyTX 46 48 17 f_X3_moveNumbers clo_X3_moveNumbers := by
  intro as z K o hk h
  obtain ⟨t0, o0, r0, rfl, g0⟩ := mm_pr_e h
  obtain ⟨b0, k0⟩ := mm_bif_e g0
  obtain rfl := Nat.eq_of_beq_eq_true b0
  obtain ⟨a1, r1, rfl, g1⟩ := mm_pi_e k0
  obtain ⟨a2, r2, rfl, g2⟩ := mm_pi_e g1
  obtain ⟨a3, r3, rfl, g3⟩ := mm_pi_e g2
  rcases r3 with _ | ⟨u, w⟩
  rotate_left
  · cases g3
  exact ⟨_, _, sp_X3_moveNumbers o0 a1 a2 a3 z hk, (fun v hv => by cases hv), g3⟩
theorem sS_X3_moveNumbers {own : String} {R : Room} {ar : Nat → Nat} {k : Nat} (hlink : Cond.methodLink own k yX3_moveNumbers ∈ lw_gd ∨ ∃ host, (own, k, yX3_moveNumbers, host) ∈ nmA) (har : ar k = 4) (hr : 2 ≤ R.frames ∧ 49 ≤ R.locals) : mm_okS lyTX lyFA lenX snX 46 48 17 roX rsA nfA nmA ssX own R ar k clo_X3_moveNumbers :=
  Or.inl ⟨yX3_moveNumbers, cX3_moveNumbers, 4, none, rm_X3_moveNumbers, f_X3_moveNumbers, M_X3_moveNumbers, cs_X3_moveNumbers, hlink, ⟨ws_X3_moveNumbers, wi_X3_moveNumbers, wc_X3_moveNumbers⟩, ⟨by decide +kernel, by decide +kernel, by rw [har]; decide +kernel⟩, ⟨rfl, rfl, hr.1, hr.2⟩⟩
