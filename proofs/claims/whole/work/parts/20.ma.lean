-- X4_within
def lV_X4_within : List (Nat × (List mm_V → mm_S → (Option mm_V → mm_S → Option mm_R) → Option mm_R)) := []
def mV_X4_within (k : Nat) (as : List mm_V) (z : mm_S) (kk : Option mm_V → mm_S → Option mm_R) : Option mm_R := match mm_at lV_X4_within k with
  | some f => f as z kk
  | none => none
def arV_X4_within (k : Nat) : Nat := (mm_at [] k).getD 0
def lS_X4_within : List (Nat × (List mm_V → mm_S → (Option mm_V → mm_S → Option mm_R) → Option mm_R)) := []
def mS_X4_within (k : Nat) (as : List mm_V) (z : mm_S) (kk : Option mm_V → mm_S → Option mm_R) : Option mm_R := match mm_at lS_X4_within k with
  | some f => f as z kk
  | none => none
def arS_X4_within (k : Nat) : Nat := (mm_at [] k).getD 0
def ct_X4_within : List (Nat × List Nat) := []
def go_X4_within : Nat → mm_K := mm_go (fun k => mm_at flX4 k) (fun k => mm_at clX4 k) (fun k => mm_at glX4 k) arV_X4_within arS_X4_within mV_X4_within mS_X4_within lenM roM snM 3 1 tbX4_within ct_X4_within
def eX4_within_0 (n : Nat) (x1 : Int32) (x2 : Int32) (x3 : Int32) (z : mm_S) : Option mm_R := go_X4_within n 0 [(0, mm_I x1), (1, mm_I x2), (2, mm_I x3)] [] z
set_option maxRecDepth 100000 in
theorem qX4_within_0 (n : Nat) (x1 : Int32) (x2 : Int32) (x3 : Int32) (z : mm_S) : eX4_within_0 (n + 1) x1 x2 x3 z = (if x1 < x2 then some (some (mm_I 0), z) else if x3 < x1 then some (some (mm_I 0), z) else some (some (mm_I 1), z)) := rfl
def rm_X4_within : Room := { frames := 0, cells := 0, slots := 0, locals := 0 }
def f_X4_within (as : List mm_V) (z : mm_S) (o : mm_R) : Prop := (as.map mm_cat).sum ≤ 3 ∧ ∃ n, go_X4_within n 0 (mm_ar 0 as) [] z = some o
theorem M_X4_within : mm_M lyTM lyFA lenM snM 22 22 17 roM rsA nfA nmA [] yX4_within cX4_within 3 (some .boolean) rm_X4_within f_X4_within :=
  mm_met (rt := 1) (by decide +kernel) ⟨fun h => absurd h (by decide), fun h => rfl, fun h => absurd h (by decide), fun h => absurd h (by decide)⟩ tbX4_within_ok hsnM okFX4 okLX4 (fun _ h => absurd h List.not_mem_nil) (fun _ _ _ _ => rfl) (fun _ _ _ _ => rfl) (fun _ h => absurd h List.not_mem_nil) (fun _ h => absurd h List.not_mem_nil)
def pX4_within (x1 : Int32) (x2 : Int32) (x3 : Int32) : Int32 := if x1 < x2 then 0 else if x3 < x1 then 0 else 1
theorem z1_X4_within (x1 : Int32) (x2 : Int32) (x3 : Int32) : pX4_within x1 x2 x3 = 0 ∨ pX4_within x1 x2 x3 = 1 := (mm_i01 (Or.inl rfl) (mm_i01 (Or.inl rfl) (Or.inr rfl)))
theorem sp_X4_within (x1 : Int32) (x2 : Int32) (x3 : Int32) (z : mm_S) (_ : ∀ v ∈ [mm_I x1, mm_I x2, mm_I x3], mm_ok 22 lyTM 22 17 v) : f_X4_within [mm_I x1, mm_I x2, mm_I x3] z (some (mm_I (pX4_within x1 x2 x3)), z) := ⟨Nat.le_of_ble_eq_true rfl, 1, (qX4_within_0 0 x1 x2 x3 z).trans (mm_if (fun v => some (some (mm_I v), z)) rfl (mm_if (fun v => some (some (mm_I v), z)) rfl rfl))⟩
def clo_X4_within (as : List mm_V) (z : mm_S) (kk : Option mm_V → mm_S → Option mm_R) : Option mm_R := mm_pi as fun a0 as => mm_pi as fun a1 as => mm_pi as fun a2 as => (match as with | [] => kk (some (mm_I (pX4_within a0 a1 a2))) z | _ => none)
theorem cs_X4_within : mm_cs lyTM 22 22 17 f_X4_within clo_X4_within := by
  intro as z K o hk h
  obtain ⟨a0, r0, rfl, g0⟩ := mm_pi_e h
  obtain ⟨a1, r1, rfl, g1⟩ := mm_pi_e g0
  obtain ⟨a2, r2, rfl, g2⟩ := mm_pi_e g1
  rcases r2 with _ | ⟨u, w⟩
  rotate_left
  · cases g2
  exact ⟨_, _, sp_X4_within a0 a1 a2 z hk, fun v hv => by cases hv; exact Or.inl ⟨_, rfl⟩, g2⟩
theorem sS_X4_within {own : String} {R : Room} {ar : Nat → Nat} {k : Nat} (hlink : Cond.methodLink own k yX4_within ∈ lw_gd ∨ ∃ host, (own, k, yX4_within, host) ∈ nmA) (har : ar k = 3) (hr : 1 ≤ R.frames ∧ 22 ≤ R.locals) : mm_okS lyTM lyFA lenM snM 22 22 17 roM rsA nfA nmA [] own R ar k clo_X4_within :=
  Or.inl ⟨yX4_within, cX4_within, 3, some .boolean, rm_X4_within, f_X4_within, M_X4_within, cs_X4_within, hlink, ⟨ws_X4_within, wi_X4_within, wc_X4_within⟩, ⟨by decide +kernel, by decide +kernel, by rw [har]; decide +kernel⟩, ⟨rfl, rfl, hr.1, hr.2⟩⟩
-- X4_isCell
def lV_X4_isCell : List (Nat × (List mm_V → mm_S → (Option mm_V → mm_S → Option mm_R) → Option mm_R)) := []
def mV_X4_isCell (k : Nat) (as : List mm_V) (z : mm_S) (kk : Option mm_V → mm_S → Option mm_R) : Option mm_R := match mm_at lV_X4_isCell k with
  | some f => f as z kk
  | none => none
def arV_X4_isCell (k : Nat) : Nat := (mm_at [] k).getD 0
def lS_X4_isCell : List (Nat × (List mm_V → mm_S → (Option mm_V → mm_S → Option mm_R) → Option mm_R)) := [(106, clo_X4_within)]
def mS_X4_isCell (k : Nat) (as : List mm_V) (z : mm_S) (kk : Option mm_V → mm_S → Option mm_R) : Option mm_R := match mm_at lS_X4_isCell k with
  | some f => f as z kk
  | none => none
def arS_X4_isCell (k : Nat) : Nat := (mm_at [(106, 3)] k).getD 0
def ct_X4_isCell : List (Nat × List Nat) := []
def go_X4_isCell : Nat → mm_K := mm_go (fun k => mm_at flX4 k) (fun k => mm_at clX4 k) (fun k => mm_at glX4 k) arV_X4_isCell arS_X4_isCell mV_X4_isCell mS_X4_isCell lenM roM snM 1 1 tbX4_isCell ct_X4_isCell
def eX4_isCell_0 (n : Nat) (x1 : Int32) (z : mm_S) : Option mm_R := go_X4_isCell n 0 [(0, mm_I x1)] [] z
set_option maxRecDepth 100000 in
theorem qX4_isCell_0 (n : Nat) (x1 : Int32) (z : mm_S) : eX4_isCell_0 (n + 1) x1 z = (mm_rt 1 (pX4_within x1 0 35) z) := rfl
def rm_X4_isCell : Room := { frames := 1, cells := 0, slots := 0, locals := 22 }
def f_X4_isCell (as : List mm_V) (z : mm_S) (o : mm_R) : Prop := (as.map mm_cat).sum ≤ 1 ∧ ∃ n, go_X4_isCell n 0 (mm_ar 0 as) [] z = some o
theorem M_X4_isCell : mm_M lyTM lyFA lenM snM 22 22 17 roM rsA nfA nmA [] yX4_isCell cX4_isCell 1 (some .boolean) rm_X4_isCell f_X4_isCell :=
  mm_met (rt := 1) (by decide +kernel) ⟨fun h => absurd h (by decide), fun h => rfl, fun h => absurd h (by decide), fun h => absurd h (by decide)⟩ tbX4_isCell_ok hsnM okFX4 okLX4 (fun _ h => absurd h List.not_mem_nil) (fun _ _ _ _ => rfl) (fun _ _ _ _ => rfl) (fun _ h => absurd h List.not_mem_nil) (List.forall_mem_cons.mpr ⟨sS_X4_within (Or.inl lk_X4_106) rfl ⟨by decide, by decide⟩, fun _ h => absurd h List.not_mem_nil⟩)
def pX4_isCell (x1 : Int32) : Int32 := (pX4_within x1 0 35)
theorem z1_X4_isCell (x1 : Int32) : pX4_isCell x1 = 0 ∨ pX4_isCell x1 = 1 := (z1_X4_within x1 0 35)
theorem sp_X4_isCell (x1 : Int32) (z : mm_S) (_ : ∀ v ∈ [mm_I x1], mm_ok 22 lyTM 22 17 v) : f_X4_isCell [mm_I x1] z (some (mm_I (pX4_isCell x1)), z) := ⟨Nat.le_of_ble_eq_true rfl, 1, (qX4_isCell_0 0 x1 z).trans (mm_rt1 z (z1_X4_within x1 0 35))⟩
def clo_X4_isCell (as : List mm_V) (z : mm_S) (kk : Option mm_V → mm_S → Option mm_R) : Option mm_R := mm_pi as fun a0 as => (match as with | [] => kk (some (mm_I (pX4_isCell a0))) z | _ => none)
theorem cs_X4_isCell : mm_cs lyTM 22 22 17 f_X4_isCell clo_X4_isCell := by
  intro as z K o hk h
  obtain ⟨a0, r0, rfl, g0⟩ := mm_pi_e h
  rcases r0 with _ | ⟨u, w⟩
  rotate_left
  · cases g0
  exact ⟨_, _, sp_X4_isCell a0 z hk, fun v hv => by cases hv; exact Or.inl ⟨_, rfl⟩, g0⟩
theorem sS_X4_isCell {own : String} {R : Room} {ar : Nat → Nat} {k : Nat} (hlink : Cond.methodLink own k yX4_isCell ∈ lw_gd ∨ ∃ host, (own, k, yX4_isCell, host) ∈ nmA) (har : ar k = 1) (hr : 2 ≤ R.frames ∧ 42 ≤ R.locals) : mm_okS lyTM lyFA lenM snM 22 22 17 roM rsA nfA nmA [] own R ar k clo_X4_isCell :=
  Or.inl ⟨yX4_isCell, cX4_isCell, 1, some .boolean, rm_X4_isCell, f_X4_isCell, M_X4_isCell, cs_X4_isCell, hlink, ⟨ws_X4_isCell, wi_X4_isCell, wc_X4_isCell⟩, ⟨by decide +kernel, by decide +kernel, by rw [har]; decide +kernel⟩, ⟨rfl, rfl, hr.1, hr.2⟩⟩
-- X4_isStuff
def lV_X4_isStuff : List (Nat × (List mm_V → mm_S → (Option mm_V → mm_S → Option mm_R) → Option mm_R)) := []
def mV_X4_isStuff (k : Nat) (as : List mm_V) (z : mm_S) (kk : Option mm_V → mm_S → Option mm_R) : Option mm_R := match mm_at lV_X4_isStuff k with
  | some f => f as z kk
  | none => none
def arV_X4_isStuff (k : Nat) : Nat := (mm_at [] k).getD 0
def lS_X4_isStuff : List (Nat × (List mm_V → mm_S → (Option mm_V → mm_S → Option mm_R) → Option mm_R)) := [(106, clo_X4_within)]
def mS_X4_isStuff (k : Nat) (as : List mm_V) (z : mm_S) (kk : Option mm_V → mm_S → Option mm_R) : Option mm_R := match mm_at lS_X4_isStuff k with
  | some f => f as z kk
  | none => none
def arS_X4_isStuff (k : Nat) : Nat := (mm_at [(106, 3)] k).getD 0
def ct_X4_isStuff : List (Nat × List Nat) := []
def go_X4_isStuff : Nat → mm_K := mm_go (fun k => mm_at flX4 k) (fun k => mm_at clX4 k) (fun k => mm_at glX4 k) arV_X4_isStuff arS_X4_isStuff mV_X4_isStuff mS_X4_isStuff lenM roM snM 1 1 tbX4_isStuff ct_X4_isStuff
def eX4_isStuff_0 (n : Nat) (x1 : Int32) (z : mm_S) : Option mm_R := go_X4_isStuff n 0 [(0, mm_I x1)] [] z
set_option maxRecDepth 100000 in
theorem qX4_isStuff_0 (n : Nat) (x1 : Int32) (z : mm_S) : eX4_isStuff_0 (n + 1) x1 z = (mm_rt 1 (pX4_within x1 0 4) z) := rfl
def rm_X4_isStuff : Room := { frames := 1, cells := 0, slots := 0, locals := 22 }
def f_X4_isStuff (as : List mm_V) (z : mm_S) (o : mm_R) : Prop := (as.map mm_cat).sum ≤ 1 ∧ ∃ n, go_X4_isStuff n 0 (mm_ar 0 as) [] z = some o
theorem M_X4_isStuff : mm_M lyTM lyFA lenM snM 22 22 17 roM rsA nfA nmA [] yX4_isStuff cX4_isStuff 1 (some .boolean) rm_X4_isStuff f_X4_isStuff :=
  mm_met (rt := 1) (by decide +kernel) ⟨fun h => absurd h (by decide), fun h => rfl, fun h => absurd h (by decide), fun h => absurd h (by decide)⟩ tbX4_isStuff_ok hsnM okFX4 okLX4 (fun _ h => absurd h List.not_mem_nil) (fun _ _ _ _ => rfl) (fun _ _ _ _ => rfl) (fun _ h => absurd h List.not_mem_nil) (List.forall_mem_cons.mpr ⟨sS_X4_within (Or.inl lk_X4_106) rfl ⟨by decide, by decide⟩, fun _ h => absurd h List.not_mem_nil⟩)
def pX4_isStuff (x1 : Int32) : Int32 := (pX4_within x1 0 4)
theorem z1_X4_isStuff (x1 : Int32) : pX4_isStuff x1 = 0 ∨ pX4_isStuff x1 = 1 := (z1_X4_within x1 0 4)
theorem sp_X4_isStuff (x1 : Int32) (z : mm_S) (_ : ∀ v ∈ [mm_I x1], mm_ok 22 lyTM 22 17 v) : f_X4_isStuff [mm_I x1] z (some (mm_I (pX4_isStuff x1)), z) := ⟨Nat.le_of_ble_eq_true rfl, 1, (qX4_isStuff_0 0 x1 z).trans (mm_rt1 z (z1_X4_within x1 0 4))⟩
def clo_X4_isStuff (as : List mm_V) (z : mm_S) (kk : Option mm_V → mm_S → Option mm_R) : Option mm_R := mm_pi as fun a0 as => (match as with | [] => kk (some (mm_I (pX4_isStuff a0))) z | _ => none)
theorem cs_X4_isStuff : mm_cs lyTM 22 22 17 f_X4_isStuff clo_X4_isStuff := by
  intro as z K o hk h
  obtain ⟨a0, r0, rfl, g0⟩ := mm_pi_e h
  rcases r0 with _ | ⟨u, w⟩
  rotate_left
  · cases g0
  exact ⟨_, _, sp_X4_isStuff a0 z hk, fun v hv => by cases hv; exact Or.inl ⟨_, rfl⟩, g0⟩
theorem sS_X4_isStuff {own : String} {R : Room} {ar : Nat → Nat} {k : Nat} (hlink : Cond.methodLink own k yX4_isStuff ∈ lw_gd ∨ ∃ host, (own, k, yX4_isStuff, host) ∈ nmA) (har : ar k = 1) (hr : 2 ≤ R.frames ∧ 42 ≤ R.locals) : mm_okS lyTM lyFA lenM snM 22 22 17 roM rsA nfA nmA [] own R ar k clo_X4_isStuff :=
  Or.inl ⟨yX4_isStuff, cX4_isStuff, 1, some .boolean, rm_X4_isStuff, f_X4_isStuff, M_X4_isStuff, cs_X4_isStuff, hlink, ⟨ws_X4_isStuff, wi_X4_isStuff, wc_X4_isStuff⟩, ⟨by decide +kernel, by decide +kernel, by rw [har]; decide +kernel⟩, ⟨rfl, rfl, hr.1, hr.2⟩⟩
-- X4_isKind
def lV_X4_isKind : List (Nat × (List mm_V → mm_S → (Option mm_V → mm_S → Option mm_R) → Option mm_R)) := []
def mV_X4_isKind (k : Nat) (as : List mm_V) (z : mm_S) (kk : Option mm_V → mm_S → Option mm_R) : Option mm_R := match mm_at lV_X4_isKind k with
  | some f => f as z kk
  | none => none
def arV_X4_isKind (k : Nat) : Nat := (mm_at [] k).getD 0
def lS_X4_isKind : List (Nat × (List mm_V → mm_S → (Option mm_V → mm_S → Option mm_R) → Option mm_R)) := [(106, clo_X4_within)]
def mS_X4_isKind (k : Nat) (as : List mm_V) (z : mm_S) (kk : Option mm_V → mm_S → Option mm_R) : Option mm_R := match mm_at lS_X4_isKind k with
  | some f => f as z kk
  | none => none
def arS_X4_isKind (k : Nat) : Nat := (mm_at [(106, 3)] k).getD 0
def ct_X4_isKind : List (Nat × List Nat) := []
def go_X4_isKind : Nat → mm_K := mm_go (fun k => mm_at flX4 k) (fun k => mm_at clX4 k) (fun k => mm_at glX4 k) arV_X4_isKind arS_X4_isKind mV_X4_isKind mS_X4_isKind lenM roM snM 1 1 tbX4_isKind ct_X4_isKind
def eX4_isKind_0 (n : Nat) (x1 : Int32) (z : mm_S) : Option mm_R := go_X4_isKind n 0 [(0, mm_I x1)] [] z
set_option maxRecDepth 100000 in
theorem qX4_isKind_0 (n : Nat) (x1 : Int32) (z : mm_S) : eX4_isKind_0 (n + 1) x1 z = (mm_rt 1 (pX4_within x1 0 6) z) := rfl
def rm_X4_isKind : Room := { frames := 1, cells := 0, slots := 0, locals := 22 }
def f_X4_isKind (as : List mm_V) (z : mm_S) (o : mm_R) : Prop := (as.map mm_cat).sum ≤ 1 ∧ ∃ n, go_X4_isKind n 0 (mm_ar 0 as) [] z = some o
theorem M_X4_isKind : mm_M lyTM lyFA lenM snM 22 22 17 roM rsA nfA nmA [] yX4_isKind cX4_isKind 1 (some .boolean) rm_X4_isKind f_X4_isKind :=
  mm_met (rt := 1) (by decide +kernel) ⟨fun h => absurd h (by decide), fun h => rfl, fun h => absurd h (by decide), fun h => absurd h (by decide)⟩ tbX4_isKind_ok hsnM okFX4 okLX4 (fun _ h => absurd h List.not_mem_nil) (fun _ _ _ _ => rfl) (fun _ _ _ _ => rfl) (fun _ h => absurd h List.not_mem_nil) (List.forall_mem_cons.mpr ⟨sS_X4_within (Or.inl lk_X4_106) rfl ⟨by decide, by decide⟩, fun _ h => absurd h List.not_mem_nil⟩)
def pX4_isKind (x1 : Int32) : Int32 := (pX4_within x1 0 6)
theorem z1_X4_isKind (x1 : Int32) : pX4_isKind x1 = 0 ∨ pX4_isKind x1 = 1 := (z1_X4_within x1 0 6)
theorem sp_X4_isKind (x1 : Int32) (z : mm_S) (_ : ∀ v ∈ [mm_I x1], mm_ok 22 lyTM 22 17 v) : f_X4_isKind [mm_I x1] z (some (mm_I (pX4_isKind x1)), z) := ⟨Nat.le_of_ble_eq_true rfl, 1, (qX4_isKind_0 0 x1 z).trans (mm_rt1 z (z1_X4_within x1 0 6))⟩
def clo_X4_isKind (as : List mm_V) (z : mm_S) (kk : Option mm_V → mm_S → Option mm_R) : Option mm_R := mm_pi as fun a0 as => (match as with | [] => kk (some (mm_I (pX4_isKind a0))) z | _ => none)
theorem cs_X4_isKind : mm_cs lyTM 22 22 17 f_X4_isKind clo_X4_isKind := by
  intro as z K o hk h
  obtain ⟨a0, r0, rfl, g0⟩ := mm_pi_e h
  rcases r0 with _ | ⟨u, w⟩
  rotate_left
  · cases g0
  exact ⟨_, _, sp_X4_isKind a0 z hk, fun v hv => by cases hv; exact Or.inl ⟨_, rfl⟩, g0⟩
theorem sS_X4_isKind {own : String} {R : Room} {ar : Nat → Nat} {k : Nat} (hlink : Cond.methodLink own k yX4_isKind ∈ lw_gd ∨ ∃ host, (own, k, yX4_isKind, host) ∈ nmA) (har : ar k = 1) (hr : 2 ≤ R.frames ∧ 42 ≤ R.locals) : mm_okS lyTM lyFA lenM snM 22 22 17 roM rsA nfA nmA [] own R ar k clo_X4_isKind :=
  Or.inl ⟨yX4_isKind, cX4_isKind, 1, some .boolean, rm_X4_isKind, f_X4_isKind, M_X4_isKind, cs_X4_isKind, hlink, ⟨ws_X4_isKind, wi_X4_isKind, wc_X4_isKind⟩, ⟨by decide +kernel, by decide +kernel, by rw [har]; decide +kernel⟩, ⟨rfl, rfl, hr.1, hr.2⟩⟩
-- X4_isSpot
def lV_X4_isSpot : List (Nat × (List mm_V → mm_S → (Option mm_V → mm_S → Option mm_R) → Option mm_R)) := []
def mV_X4_isSpot (k : Nat) (as : List mm_V) (z : mm_S) (kk : Option mm_V → mm_S → Option mm_R) : Option mm_R := match mm_at lV_X4_isSpot k with
  | some f => f as z kk
  | none => none
def arV_X4_isSpot (k : Nat) : Nat := (mm_at [] k).getD 0
def lS_X4_isSpot : List (Nat × (List mm_V → mm_S → (Option mm_V → mm_S → Option mm_R) → Option mm_R)) := [(106, clo_X4_within)]
def mS_X4_isSpot (k : Nat) (as : List mm_V) (z : mm_S) (kk : Option mm_V → mm_S → Option mm_R) : Option mm_R := match mm_at lS_X4_isSpot k with
  | some f => f as z kk
  | none => none
def arS_X4_isSpot (k : Nat) : Nat := (mm_at [(106, 3)] k).getD 0
def ct_X4_isSpot : List (Nat × List Nat) := []
def go_X4_isSpot : Nat → mm_K := mm_go (fun k => mm_at flX4 k) (fun k => mm_at clX4 k) (fun k => mm_at glX4 k) arV_X4_isSpot arS_X4_isSpot mV_X4_isSpot mS_X4_isSpot lenM roM snM 1 1 tbX4_isSpot ct_X4_isSpot
def eX4_isSpot_0 (n : Nat) (x1 : Int32) (z : mm_S) : Option mm_R := go_X4_isSpot n 0 [(0, mm_I x1)] [] z
set_option maxRecDepth 100000 in
theorem qX4_isSpot_0 (n : Nat) (x1 : Int32) (z : mm_S) : eX4_isSpot_0 (n + 1) x1 z = (mm_rt 1 (pX4_within x1 0 9) z) := rfl
def rm_X4_isSpot : Room := { frames := 1, cells := 0, slots := 0, locals := 22 }
def f_X4_isSpot (as : List mm_V) (z : mm_S) (o : mm_R) : Prop := (as.map mm_cat).sum ≤ 1 ∧ ∃ n, go_X4_isSpot n 0 (mm_ar 0 as) [] z = some o
theorem M_X4_isSpot : mm_M lyTM lyFA lenM snM 22 22 17 roM rsA nfA nmA [] yX4_isSpot cX4_isSpot 1 (some .boolean) rm_X4_isSpot f_X4_isSpot :=
  mm_met (rt := 1) (by decide +kernel) ⟨fun h => absurd h (by decide), fun h => rfl, fun h => absurd h (by decide), fun h => absurd h (by decide)⟩ tbX4_isSpot_ok hsnM okFX4 okLX4 (fun _ h => absurd h List.not_mem_nil) (fun _ _ _ _ => rfl) (fun _ _ _ _ => rfl) (fun _ h => absurd h List.not_mem_nil) (List.forall_mem_cons.mpr ⟨sS_X4_within (Or.inl lk_X4_106) rfl ⟨by decide, by decide⟩, fun _ h => absurd h List.not_mem_nil⟩)
def pX4_isSpot (x1 : Int32) : Int32 := (pX4_within x1 0 9)
theorem z1_X4_isSpot (x1 : Int32) : pX4_isSpot x1 = 0 ∨ pX4_isSpot x1 = 1 := (z1_X4_within x1 0 9)
theorem sp_X4_isSpot (x1 : Int32) (z : mm_S) (_ : ∀ v ∈ [mm_I x1], mm_ok 22 lyTM 22 17 v) : f_X4_isSpot [mm_I x1] z (some (mm_I (pX4_isSpot x1)), z) := ⟨Nat.le_of_ble_eq_true rfl, 1, (qX4_isSpot_0 0 x1 z).trans (mm_rt1 z (z1_X4_within x1 0 9))⟩
def clo_X4_isSpot (as : List mm_V) (z : mm_S) (kk : Option mm_V → mm_S → Option mm_R) : Option mm_R := mm_pi as fun a0 as => (match as with | [] => kk (some (mm_I (pX4_isSpot a0))) z | _ => none)
theorem cs_X4_isSpot : mm_cs lyTM 22 22 17 f_X4_isSpot clo_X4_isSpot := by
  intro as z K o hk h
  obtain ⟨a0, r0, rfl, g0⟩ := mm_pi_e h
  rcases r0 with _ | ⟨u, w⟩
  rotate_left
  · cases g0
  exact ⟨_, _, sp_X4_isSpot a0 z hk, fun v hv => by cases hv; exact Or.inl ⟨_, rfl⟩, g0⟩
theorem sS_X4_isSpot {own : String} {R : Room} {ar : Nat → Nat} {k : Nat} (hlink : Cond.methodLink own k yX4_isSpot ∈ lw_gd ∨ ∃ host, (own, k, yX4_isSpot, host) ∈ nmA) (har : ar k = 1) (hr : 2 ≤ R.frames ∧ 42 ≤ R.locals) : mm_okS lyTM lyFA lenM snM 22 22 17 roM rsA nfA nmA [] own R ar k clo_X4_isSpot :=
  Or.inl ⟨yX4_isSpot, cX4_isSpot, 1, some .boolean, rm_X4_isSpot, f_X4_isSpot, M_X4_isSpot, cs_X4_isSpot, hlink, ⟨ws_X4_isSpot, wi_X4_isSpot, wc_X4_isSpot⟩, ⟨by decide +kernel, by decide +kernel, by rw [har]; decide +kernel⟩, ⟨rfl, rfl, hr.1, hr.2⟩⟩
-- X4_isSheet
def lV_X4_isSheet : List (Nat × (List mm_V → mm_S → (Option mm_V → mm_S → Option mm_R) → Option mm_R)) := []
def mV_X4_isSheet (k : Nat) (as : List mm_V) (z : mm_S) (kk : Option mm_V → mm_S → Option mm_R) : Option mm_R := match mm_at lV_X4_isSheet k with
  | some f => f as z kk
  | none => none
def arV_X4_isSheet (k : Nat) : Nat := (mm_at [] k).getD 0
def lS_X4_isSheet : List (Nat × (List mm_V → mm_S → (Option mm_V → mm_S → Option mm_R) → Option mm_R)) := [(106, clo_X4_within)]
def mS_X4_isSheet (k : Nat) (as : List mm_V) (z : mm_S) (kk : Option mm_V → mm_S → Option mm_R) : Option mm_R := match mm_at lS_X4_isSheet k with
  | some f => f as z kk
  | none => none
def arS_X4_isSheet (k : Nat) : Nat := (mm_at [(106, 3)] k).getD 0
def ct_X4_isSheet : List (Nat × List Nat) := []
def go_X4_isSheet : Nat → mm_K := mm_go (fun k => mm_at flX4 k) (fun k => mm_at clX4 k) (fun k => mm_at glX4 k) arV_X4_isSheet arS_X4_isSheet mV_X4_isSheet mS_X4_isSheet lenM roM snM 1 1 tbX4_isSheet ct_X4_isSheet
def eX4_isSheet_0 (n : Nat) (x1 : Int32) (z : mm_S) : Option mm_R := go_X4_isSheet n 0 [(0, mm_I x1)] [] z
set_option maxRecDepth 100000 in
theorem qX4_isSheet_0 (n : Nat) (x1 : Int32) (z : mm_S) : eX4_isSheet_0 (n + 1) x1 z = (mm_rt 1 (pX4_within x1 0 3) z) := rfl
def rm_X4_isSheet : Room := { frames := 1, cells := 0, slots := 0, locals := 22 }
def f_X4_isSheet (as : List mm_V) (z : mm_S) (o : mm_R) : Prop := (as.map mm_cat).sum ≤ 1 ∧ ∃ n, go_X4_isSheet n 0 (mm_ar 0 as) [] z = some o
theorem M_X4_isSheet : mm_M lyTM lyFA lenM snM 22 22 17 roM rsA nfA nmA [] yX4_isSheet cX4_isSheet 1 (some .boolean) rm_X4_isSheet f_X4_isSheet :=
  mm_met (rt := 1) (by decide +kernel) ⟨fun h => absurd h (by decide), fun h => rfl, fun h => absurd h (by decide), fun h => absurd h (by decide)⟩ tbX4_isSheet_ok hsnM okFX4 okLX4 (fun _ h => absurd h List.not_mem_nil) (fun _ _ _ _ => rfl) (fun _ _ _ _ => rfl) (fun _ h => absurd h List.not_mem_nil) (List.forall_mem_cons.mpr ⟨sS_X4_within (Or.inl lk_X4_106) rfl ⟨by decide, by decide⟩, fun _ h => absurd h List.not_mem_nil⟩)
def pX4_isSheet (x1 : Int32) : Int32 := (pX4_within x1 0 3)
theorem z1_X4_isSheet (x1 : Int32) : pX4_isSheet x1 = 0 ∨ pX4_isSheet x1 = 1 := (z1_X4_within x1 0 3)
theorem sp_X4_isSheet (x1 : Int32) (z : mm_S) (_ : ∀ v ∈ [mm_I x1], mm_ok 22 lyTM 22 17 v) : f_X4_isSheet [mm_I x1] z (some (mm_I (pX4_isSheet x1)), z) := ⟨Nat.le_of_ble_eq_true rfl, 1, (qX4_isSheet_0 0 x1 z).trans (mm_rt1 z (z1_X4_within x1 0 3))⟩
def clo_X4_isSheet (as : List mm_V) (z : mm_S) (kk : Option mm_V → mm_S → Option mm_R) : Option mm_R := mm_pi as fun a0 as => (match as with | [] => kk (some (mm_I (pX4_isSheet a0))) z | _ => none)
theorem cs_X4_isSheet : mm_cs lyTM 22 22 17 f_X4_isSheet clo_X4_isSheet := by
  intro as z K o hk h
  obtain ⟨a0, r0, rfl, g0⟩ := mm_pi_e h
  rcases r0 with _ | ⟨u, w⟩
  rotate_left
  · cases g0
  exact ⟨_, _, sp_X4_isSheet a0 z hk, fun v hv => by cases hv; exact Or.inl ⟨_, rfl⟩, g0⟩
theorem sS_X4_isSheet {own : String} {R : Room} {ar : Nat → Nat} {k : Nat} (hlink : Cond.methodLink own k yX4_isSheet ∈ lw_gd ∨ ∃ host, (own, k, yX4_isSheet, host) ∈ nmA) (har : ar k = 1) (hr : 2 ≤ R.frames ∧ 42 ≤ R.locals) : mm_okS lyTM lyFA lenM snM 22 22 17 roM rsA nfA nmA [] own R ar k clo_X4_isSheet :=
  Or.inl ⟨yX4_isSheet, cX4_isSheet, 1, some .boolean, rm_X4_isSheet, f_X4_isSheet, M_X4_isSheet, cs_X4_isSheet, hlink, ⟨ws_X4_isSheet, wi_X4_isSheet, wc_X4_isSheet⟩, ⟨by decide +kernel, by decide +kernel, by rw [har]; decide +kernel⟩, ⟨rfl, rfl, hr.1, hr.2⟩⟩
-- X4_at
def lV_X4_at : List (Nat × (List mm_V → mm_S → (Option mm_V → mm_S → Option mm_R) → Option mm_R)) := []
def mV_X4_at (k : Nat) (as : List mm_V) (z : mm_S) (kk : Option mm_V → mm_S → Option mm_R) : Option mm_R := match mm_at lV_X4_at k with
  | some f => f as z kk
  | none => none
def arV_X4_at (k : Nat) : Nat := (mm_at [] k).getD 0
def lS_X4_at : List (Nat × (List mm_V → mm_S → (Option mm_V → mm_S → Option mm_R) → Option mm_R)) := []
def mS_X4_at (k : Nat) (as : List mm_V) (z : mm_S) (kk : Option mm_V → mm_S → Option mm_R) : Option mm_R := match mm_at lS_X4_at k with
  | some f => f as z kk
  | none => none
def arS_X4_at (k : Nat) : Nat := (mm_at [] k).getD 0
def ct_X4_at : List (Nat × List Nat) := []
def go_X4_at : Nat → mm_K := mm_go (fun k => mm_at flX4 k) (fun k => mm_at clX4 k) (fun k => mm_at glX4 k) arV_X4_at arS_X4_at mV_X4_at mS_X4_at lenM roM snM 2 0 tbX4_at ct_X4_at
def eX4_at_0 (n : Nat) (x1 : Int32) (x2 : Int32) (z : mm_S) : Option mm_R := go_X4_at n 0 [(0, mm_I x1), (1, mm_I x2)] [] z
set_option maxRecDepth 100000 in
theorem qX4_at_0 (n : Nat) (x1 : Int32) (x2 : Int32) (z : mm_S) : eX4_at_0 (n + 1) x1 x2 z = (some (some (mm_I ((51 + (3 * x1)) + x2)), z)) := rfl
def rm_X4_at : Room := { frames := 0, cells := 0, slots := 0, locals := 0 }
def f_X4_at (as : List mm_V) (z : mm_S) (o : mm_R) : Prop := (as.map mm_cat).sum ≤ 2 ∧ ∃ n, go_X4_at n 0 (mm_ar 0 as) [] z = some o
theorem M_X4_at : mm_M lyTM lyFA lenM snM 22 22 17 roM rsA nfA nmA [] yX4_at cX4_at 2 (some .int) rm_X4_at f_X4_at :=
  mm_met (rt := 0) (by decide +kernel) ⟨fun h => rfl, fun h => absurd h (by decide), fun h => absurd h (by decide), fun h => absurd h (by decide)⟩ tbX4_at_ok hsnM okFX4 okLX4 (fun _ h => absurd h List.not_mem_nil) (fun _ _ _ _ => rfl) (fun _ _ _ _ => rfl) (fun _ h => absurd h List.not_mem_nil) (fun _ h => absurd h List.not_mem_nil)
def pX4_at (x1 : Int32) (x2 : Int32) : Int32 := ((51 + (3 * x1)) + x2)
theorem sp_X4_at (x1 : Int32) (x2 : Int32) (z : mm_S) (_ : ∀ v ∈ [mm_I x1, mm_I x2], mm_ok 22 lyTM 22 17 v) : f_X4_at [mm_I x1, mm_I x2] z (some (mm_I (pX4_at x1 x2)), z) := ⟨Nat.le_of_ble_eq_true rfl, 1, (qX4_at_0 0 x1 x2 z).trans rfl⟩
def clo_X4_at (as : List mm_V) (z : mm_S) (kk : Option mm_V → mm_S → Option mm_R) : Option mm_R := mm_pi as fun a0 as => mm_pi as fun a1 as => (match as with | [] => kk (some (mm_I (pX4_at a0 a1))) z | _ => none)
theorem cs_X4_at : mm_cs lyTM 22 22 17 f_X4_at clo_X4_at := by
  intro as z K o hk h
  obtain ⟨a0, r0, rfl, g0⟩ := mm_pi_e h
  obtain ⟨a1, r1, rfl, g1⟩ := mm_pi_e g0
  rcases r1 with _ | ⟨u, w⟩
  rotate_left
  · cases g1
  exact ⟨_, _, sp_X4_at a0 a1 z hk, fun v hv => by cases hv; exact Or.inl ⟨_, rfl⟩, g1⟩
theorem sS_X4_at {own : String} {R : Room} {ar : Nat → Nat} {k : Nat} (hlink : Cond.methodLink own k yX4_at ∈ lw_gd ∨ ∃ host, (own, k, yX4_at, host) ∈ nmA) (har : ar k = 2) (hr : 1 ≤ R.frames ∧ 21 ≤ R.locals) : mm_okS lyTM lyFA lenM snM 22 22 17 roM rsA nfA nmA [] own R ar k clo_X4_at :=
  Or.inl ⟨yX4_at, cX4_at, 2, some .int, rm_X4_at, f_X4_at, M_X4_at, cs_X4_at, hlink, ⟨ws_X4_at, wi_X4_at, wc_X4_at⟩, ⟨by decide +kernel, by decide +kernel, by rw [har]; decide +kernel⟩, ⟨rfl, rfl, hr.1, hr.2⟩⟩
-- X4_above
def lV_X4_above : List (Nat × (List mm_V → mm_S → (Option mm_V → mm_S → Option mm_R) → Option mm_R)) := []
def mV_X4_above (k : Nat) (as : List mm_V) (z : mm_S) (kk : Option mm_V → mm_S → Option mm_R) : Option mm_R := match mm_at lV_X4_above k with
  | some f => f as z kk
  | none => none
def arV_X4_above (k : Nat) : Nat := (mm_at [] k).getD 0
def lS_X4_above : List (Nat × (List mm_V → mm_S → (Option mm_V → mm_S → Option mm_R) → Option mm_R)) := []
def mS_X4_above (k : Nat) (as : List mm_V) (z : mm_S) (kk : Option mm_V → mm_S → Option mm_R) : Option mm_R := match mm_at lS_X4_above k with
  | some f => f as z kk
  | none => none
def arS_X4_above (k : Nat) : Nat := (mm_at [] k).getD 0
def ct_X4_above : List (Nat × List Nat) := []
def go_X4_above : Nat → mm_K := mm_go (fun k => mm_at flX4 k) (fun k => mm_at clX4 k) (fun k => mm_at glX4 k) arV_X4_above arS_X4_above mV_X4_above mS_X4_above lenM roM snM 1 0 tbX4_above ct_X4_above
def eX4_above_0 (n : Nat) (x1 : Int32) (z : mm_S) : Option mm_R := go_X4_above n 0 [(0, mm_I x1)] [] z
set_option maxRecDepth 100000 in
theorem qX4_above_0 (n : Nat) (x1 : Int32) (z : mm_S) : eX4_above_0 (n + 1) x1 z = (if x1 = 0 then some (some (mm_I (-1)), z) else if x1 = 2 then some (some (mm_I 1), z) else if x1 = 3 then some (some (mm_I 2), z) else if x1 = 5 then some (some (mm_I 4), z) else some (some (mm_I 0), z)) := rfl
def rm_X4_above : Room := { frames := 0, cells := 0, slots := 0, locals := 0 }
def f_X4_above (as : List mm_V) (z : mm_S) (o : mm_R) : Prop := (as.map mm_cat).sum ≤ 1 ∧ ∃ n, go_X4_above n 0 (mm_ar 0 as) [] z = some o
theorem M_X4_above : mm_M lyTM lyFA lenM snM 22 22 17 roM rsA nfA nmA [] yX4_above cX4_above 1 (some .int) rm_X4_above f_X4_above :=
  mm_met (rt := 0) (by decide +kernel) ⟨fun h => rfl, fun h => absurd h (by decide), fun h => absurd h (by decide), fun h => absurd h (by decide)⟩ tbX4_above_ok hsnM okFX4 okLX4 (fun _ h => absurd h List.not_mem_nil) (fun _ _ _ _ => rfl) (fun _ _ _ _ => rfl) (fun _ h => absurd h List.not_mem_nil) (fun _ h => absurd h List.not_mem_nil)
def pX4_above (x1 : Int32) : Int32 := if x1 = 0 then (-1) else if x1 = 2 then 1 else if x1 = 3 then 2 else if x1 = 5 then 4 else 0
theorem sp_X4_above (x1 : Int32) (z : mm_S) (_ : ∀ v ∈ [mm_I x1], mm_ok 22 lyTM 22 17 v) : f_X4_above [mm_I x1] z (some (mm_I (pX4_above x1)), z) := ⟨Nat.le_of_ble_eq_true rfl, 1, (qX4_above_0 0 x1 z).trans (mm_if (fun v => some (some (mm_I v), z)) rfl (mm_if (fun v => some (some (mm_I v), z)) rfl (mm_if (fun v => some (some (mm_I v), z)) rfl (mm_if (fun v => some (some (mm_I v), z)) rfl rfl))))⟩
def clo_X4_above (as : List mm_V) (z : mm_S) (kk : Option mm_V → mm_S → Option mm_R) : Option mm_R := mm_pi as fun a0 as => (match as with | [] => kk (some (mm_I (pX4_above a0))) z | _ => none)
theorem cs_X4_above : mm_cs lyTM 22 22 17 f_X4_above clo_X4_above := by
  intro as z K o hk h
  obtain ⟨a0, r0, rfl, g0⟩ := mm_pi_e h
  rcases r0 with _ | ⟨u, w⟩
  rotate_left
  · cases g0
  exact ⟨_, _, sp_X4_above a0 z hk, fun v hv => by cases hv; exact Or.inl ⟨_, rfl⟩, g0⟩
theorem sS_X4_above {own : String} {R : Room} {ar : Nat → Nat} {k : Nat} (hlink : Cond.methodLink own k yX4_above ∈ lw_gd ∨ ∃ host, (own, k, yX4_above, host) ∈ nmA) (har : ar k = 1) (hr : 1 ≤ R.frames ∧ 20 ≤ R.locals) : mm_okS lyTM lyFA lenM snM 22 22 17 roM rsA nfA nmA [] own R ar k clo_X4_above :=
  Or.inl ⟨yX4_above, cX4_above, 1, some .int, rm_X4_above, f_X4_above, M_X4_above, cs_X4_above, hlink, ⟨ws_X4_above, wi_X4_above, wc_X4_above⟩, ⟨by decide +kernel, by decide +kernel, by rw [har]; decide +kernel⟩, ⟨rfl, rfl, hr.1, hr.2⟩⟩
-- X4_pace
def lV_X4_pace : List (Nat × (List mm_V → mm_S → (Option mm_V → mm_S → Option mm_R) → Option mm_R)) := []
def mV_X4_pace (k : Nat) (as : List mm_V) (z : mm_S) (kk : Option mm_V → mm_S → Option mm_R) : Option mm_R := match mm_at lV_X4_pace k with
  | some f => f as z kk
  | none => none
def arV_X4_pace (k : Nat) : Nat := (mm_at [] k).getD 0
def lS_X4_pace : List (Nat × (List mm_V → mm_S → (Option mm_V → mm_S → Option mm_R) → Option mm_R)) := []
def mS_X4_pace (k : Nat) (as : List mm_V) (z : mm_S) (kk : Option mm_V → mm_S → Option mm_R) : Option mm_R := match mm_at lS_X4_pace k with
  | some f => f as z kk
  | none => none
def arS_X4_pace (k : Nat) : Nat := (mm_at [] k).getD 0
def ct_X4_pace : List (Nat × List Nat) := []
def go_X4_pace : Nat → mm_K := mm_go (fun k => mm_at flX4 k) (fun k => mm_at clX4 k) (fun k => mm_at glX4 k) arV_X4_pace arS_X4_pace mV_X4_pace mS_X4_pace lenM roM snM 1 0 tbX4_pace ct_X4_pace
def eX4_pace_0 (n : Nat) (x1 : Int32) (z : mm_S) : Option mm_R := go_X4_pace n 0 [(0, mm_I x1)] [] z
set_option maxRecDepth 100000 in
theorem qX4_pace_0 (n : Nat) (x1 : Int32) (z : mm_S) : eX4_pace_0 (n + 1) x1 z = (if x1 = 0 then some (some (mm_I 2), z) else if x1 = 1 then some (some (mm_I 6), z) else if x1 = 3 then some (some (mm_I 3), z) else some (some (mm_I 1), z)) := rfl
def rm_X4_pace : Room := { frames := 0, cells := 0, slots := 0, locals := 0 }
def f_X4_pace (as : List mm_V) (z : mm_S) (o : mm_R) : Prop := (as.map mm_cat).sum ≤ 1 ∧ ∃ n, go_X4_pace n 0 (mm_ar 0 as) [] z = some o
theorem M_X4_pace : mm_M lyTM lyFA lenM snM 22 22 17 roM rsA nfA nmA [] yX4_pace cX4_pace 1 (some .int) rm_X4_pace f_X4_pace :=
  mm_met (rt := 0) (by decide +kernel) ⟨fun h => rfl, fun h => absurd h (by decide), fun h => absurd h (by decide), fun h => absurd h (by decide)⟩ tbX4_pace_ok hsnM okFX4 okLX4 (fun _ h => absurd h List.not_mem_nil) (fun _ _ _ _ => rfl) (fun _ _ _ _ => rfl) (fun _ h => absurd h List.not_mem_nil) (fun _ h => absurd h List.not_mem_nil)
def pX4_pace (x1 : Int32) : Int32 := if x1 = 0 then 2 else if x1 = 1 then 6 else if x1 = 3 then 3 else 1
theorem sp_X4_pace (x1 : Int32) (z : mm_S) (_ : ∀ v ∈ [mm_I x1], mm_ok 22 lyTM 22 17 v) : f_X4_pace [mm_I x1] z (some (mm_I (pX4_pace x1)), z) := ⟨Nat.le_of_ble_eq_true rfl, 1, (qX4_pace_0 0 x1 z).trans (mm_if (fun v => some (some (mm_I v), z)) rfl (mm_if (fun v => some (some (mm_I v), z)) rfl (mm_if (fun v => some (some (mm_I v), z)) rfl rfl)))⟩
def clo_X4_pace (as : List mm_V) (z : mm_S) (kk : Option mm_V → mm_S → Option mm_R) : Option mm_R := mm_pi as fun a0 as => (match as with | [] => kk (some (mm_I (pX4_pace a0))) z | _ => none)
theorem cs_X4_pace : mm_cs lyTM 22 22 17 f_X4_pace clo_X4_pace := by
  intro as z K o hk h
  obtain ⟨a0, r0, rfl, g0⟩ := mm_pi_e h
  rcases r0 with _ | ⟨u, w⟩
  rotate_left
  · cases g0
  exact ⟨_, _, sp_X4_pace a0 z hk, fun v hv => by cases hv; exact Or.inl ⟨_, rfl⟩, g0⟩
theorem sS_X4_pace {own : String} {R : Room} {ar : Nat → Nat} {k : Nat} (hlink : Cond.methodLink own k yX4_pace ∈ lw_gd ∨ ∃ host, (own, k, yX4_pace, host) ∈ nmA) (har : ar k = 1) (hr : 1 ≤ R.frames ∧ 20 ≤ R.locals) : mm_okS lyTM lyFA lenM snM 22 22 17 roM rsA nfA nmA [] own R ar k clo_X4_pace :=
  Or.inl ⟨yX4_pace, cX4_pace, 1, some .int, rm_X4_pace, f_X4_pace, M_X4_pace, cs_X4_pace, hlink, ⟨ws_X4_pace, wi_X4_pace, wc_X4_pace⟩, ⟨by decide +kernel, by decide +kernel, by rw [har]; decide +kernel⟩, ⟨rfl, rfl, hr.1, hr.2⟩⟩
-- X4_cutTo
def lV_X4_cutTo : List (Nat × (List mm_V → mm_S → (Option mm_V → mm_S → Option mm_R) → Option mm_R)) := []
def mV_X4_cutTo (k : Nat) (as : List mm_V) (z : mm_S) (kk : Option mm_V → mm_S → Option mm_R) : Option mm_R := match mm_at lV_X4_cutTo k with
  | some f => f as z kk
  | none => none
def arV_X4_cutTo (k : Nat) : Nat := (mm_at [] k).getD 0
def lS_X4_cutTo : List (Nat × (List mm_V → mm_S → (Option mm_V → mm_S → Option mm_R) → Option mm_R)) := []
def mS_X4_cutTo (k : Nat) (as : List mm_V) (z : mm_S) (kk : Option mm_V → mm_S → Option mm_R) : Option mm_R := match mm_at lS_X4_cutTo k with
  | some f => f as z kk
  | none => none
def arS_X4_cutTo (k : Nat) : Nat := (mm_at [] k).getD 0
def ct_X4_cutTo : List (Nat × List Nat) := []
def go_X4_cutTo : Nat → mm_K := mm_go (fun k => mm_at flX4 k) (fun k => mm_at clX4 k) (fun k => mm_at glX4 k) arV_X4_cutTo arS_X4_cutTo mV_X4_cutTo mS_X4_cutTo lenM roM snM 2 0 tbX4_cutTo ct_X4_cutTo
def eX4_cutTo_0 (n : Nat) (x1 : Int32) (x2 : Int32) (z : mm_S) : Option mm_R := go_X4_cutTo n 0 [(0, mm_I x1), (1, mm_I x2)] [] z
set_option maxRecDepth 100000 in
theorem qX4_cutTo_0 (n : Nat) (x1 : Int32) (x2 : Int32) (z : mm_S) : eX4_cutTo_0 (n + 1) x1 x2 z = (if x2 = 8 then some (some (mm_I (Int32.toInt8 x1).toInt32), z) else if x2 = 16 then some (some (mm_I (Int32.toInt16 x1).toInt32), z) else some (some (mm_I x1), z)) := rfl
def rm_X4_cutTo : Room := { frames := 0, cells := 0, slots := 0, locals := 0 }
def f_X4_cutTo (as : List mm_V) (z : mm_S) (o : mm_R) : Prop := (as.map mm_cat).sum ≤ 2 ∧ ∃ n, go_X4_cutTo n 0 (mm_ar 0 as) [] z = some o
theorem M_X4_cutTo : mm_M lyTM lyFA lenM snM 22 22 17 roM rsA nfA nmA [] yX4_cutTo cX4_cutTo 2 (some .int) rm_X4_cutTo f_X4_cutTo :=
  mm_met (rt := 0) (by decide +kernel) ⟨fun h => rfl, fun h => absurd h (by decide), fun h => absurd h (by decide), fun h => absurd h (by decide)⟩ tbX4_cutTo_ok hsnM okFX4 okLX4 (fun _ h => absurd h List.not_mem_nil) (fun _ _ _ _ => rfl) (fun _ _ _ _ => rfl) (fun _ h => absurd h List.not_mem_nil) (fun _ h => absurd h List.not_mem_nil)
def pX4_cutTo (x1 : Int32) (x2 : Int32) : Int32 := if x2 = 8 then (Int32.toInt8 x1).toInt32 else if x2 = 16 then (Int32.toInt16 x1).toInt32 else x1
theorem sp_X4_cutTo (x1 : Int32) (x2 : Int32) (z : mm_S) (_ : ∀ v ∈ [mm_I x1, mm_I x2], mm_ok 22 lyTM 22 17 v) : f_X4_cutTo [mm_I x1, mm_I x2] z (some (mm_I (pX4_cutTo x1 x2)), z) := ⟨Nat.le_of_ble_eq_true rfl, 1, (qX4_cutTo_0 0 x1 x2 z).trans (mm_if (fun v => some (some (mm_I v), z)) rfl (mm_if (fun v => some (some (mm_I v), z)) rfl rfl))⟩
def clo_X4_cutTo (as : List mm_V) (z : mm_S) (kk : Option mm_V → mm_S → Option mm_R) : Option mm_R := mm_pi as fun a0 as => mm_pi as fun a1 as => (match as with | [] => kk (some (mm_I (pX4_cutTo a0 a1))) z | _ => none)
theorem cs_X4_cutTo : mm_cs lyTM 22 22 17 f_X4_cutTo clo_X4_cutTo := by
  intro as z K o hk h
  obtain ⟨a0, r0, rfl, g0⟩ := mm_pi_e h
  obtain ⟨a1, r1, rfl, g1⟩ := mm_pi_e g0
  rcases r1 with _ | ⟨u, w⟩
  rotate_left
  · cases g1
  exact ⟨_, _, sp_X4_cutTo a0 a1 z hk, fun v hv => by cases hv; exact Or.inl ⟨_, rfl⟩, g1⟩
theorem sS_X4_cutTo {own : String} {R : Room} {ar : Nat → Nat} {k : Nat} (hlink : Cond.methodLink own k yX4_cutTo ∈ lw_gd ∨ ∃ host, (own, k, yX4_cutTo, host) ∈ nmA) (har : ar k = 2) (hr : 1 ≤ R.frames ∧ 21 ≤ R.locals) : mm_okS lyTM lyFA lenM snM 22 22 17 roM rsA nfA nmA [] own R ar k clo_X4_cutTo :=
  Or.inl ⟨yX4_cutTo, cX4_cutTo, 2, some .int, rm_X4_cutTo, f_X4_cutTo, M_X4_cutTo, cs_X4_cutTo, hlink, ⟨ws_X4_cutTo, wi_X4_cutTo, wc_X4_cutTo⟩, ⟨by decide +kernel, by decide +kernel, by rw [har]; decide +kernel⟩, ⟨rfl, rfl, hr.1, hr.2⟩⟩
-- X4_beside
def lV_X4_beside : List (Nat × (List mm_V → mm_S → (Option mm_V → mm_S → Option mm_R) → Option mm_R)) := []
def mV_X4_beside (k : Nat) (as : List mm_V) (z : mm_S) (kk : Option mm_V → mm_S → Option mm_R) : Option mm_R := match mm_at lV_X4_beside k with
  | some f => f as z kk
  | none => none
def arV_X4_beside (k : Nat) : Nat := (mm_at [] k).getD 0
def lS_X4_beside : List (Nat × (List mm_V → mm_S → (Option mm_V → mm_S → Option mm_R) → Option mm_R)) := [(106, clo_X4_within)]
def mS_X4_beside (k : Nat) (as : List mm_V) (z : mm_S) (kk : Option mm_V → mm_S → Option mm_R) : Option mm_R := match mm_at lS_X4_beside k with
  | some f => f as z kk
  | none => none
def arS_X4_beside (k : Nat) : Nat := (mm_at [(106, 3)] k).getD 0
def ct_X4_beside : List (Nat × List Nat) := []
def go_X4_beside : Nat → mm_K := mm_go (fun k => mm_at flX4 k) (fun k => mm_at clX4 k) (fun k => mm_at glX4 k) arV_X4_beside arS_X4_beside mV_X4_beside mS_X4_beside lenM roM snM 4 0 tbX4_beside ct_X4_beside
def eX4_beside_0 (n : Nat) (x1 : Int32) (x2 : Int32) (z : mm_S) : Option mm_R := go_X4_beside n 0 [(0, mm_I x1), (1, mm_I x2)] [] z
set_option maxRecDepth 100000 in
theorem qX4_beside_0 (n : Nat) (x1 : Int32) (x2 : Int32) (z : mm_S) : eX4_beside_0 (n + 1) x1 x2 z = (if x2 = 0 then if x2 = 2 then if (pX4_within ((x1 / 6) + (-1)) 0 5) = 0 then some (some (mm_I (-1)), z) else if (pX4_within ((x1 - x1 / 6 * 6) + (-1)) 0 5) = 0 then some (some (mm_I (-1)), z) else some (some (mm_I ((6 * ((x1 / 6) + (-1))) + ((x1 - x1 / 6 * 6) + (-1)))), z) else if x2 = 3 then if (pX4_within ((x1 / 6) + (-1)) 0 5) = 0 then some (some (mm_I (-1)), z) else if (pX4_within ((x1 - x1 / 6 * 6) + 1) 0 5) = 0 then some (some (mm_I (-1)), z) else some (some (mm_I ((6 * ((x1 / 6) + (-1))) + ((x1 - x1 / 6 * 6) + 1))), z) else if (pX4_within ((x1 / 6) + (-1)) 0 5) = 0 then some (some (mm_I (-1)), z) else if (pX4_within ((x1 - x1 / 6 * 6) + 0) 0 5) = 0 then some (some (mm_I (-1)), z) else some (some (mm_I ((6 * ((x1 / 6) + (-1))) + ((x1 - x1 / 6 * 6) + 0))), z) else if x2 = 1 then if x2 = 2 then if (pX4_within ((x1 / 6) + 1) 0 5) = 0 then some (some (mm_I (-1)), z) else if (pX4_within ((x1 - x1 / 6 * 6) + (-1)) 0 5) = 0 then some (some (mm_I (-1)), z) else some (some (mm_I ((6 * ((x1 / 6) + 1)) + ((x1 - x1 / 6 * 6) + (-1)))), z) else if x2 = 3 then if (pX4_within ((x1 / 6) + 1) 0 5) = 0 then some (some (mm_I (-1)), z) else if (pX4_within ((x1 - x1 / 6 * 6) + 1) 0 5) = 0 then some (some (mm_I (-1)), z) else some (some (mm_I ((6 * ((x1 / 6) + 1)) + ((x1 - x1 / 6 * 6) + 1))), z) else if (pX4_within ((x1 / 6) + 1) 0 5) = 0 then some (some (mm_I (-1)), z) else if (pX4_within ((x1 - x1 / 6 * 6) + 0) 0 5) = 0 then some (some (mm_I (-1)), z) else some (some (mm_I ((6 * ((x1 / 6) + 1)) + ((x1 - x1 / 6 * 6) + 0))), z) else if x2 = 2 then if (pX4_within ((x1 / 6) + 0) 0 5) = 0 then some (some (mm_I (-1)), z) else if (pX4_within ((x1 - x1 / 6 * 6) + (-1)) 0 5) = 0 then some (some (mm_I (-1)), z) else some (some (mm_I ((6 * ((x1 / 6) + 0)) + ((x1 - x1 / 6 * 6) + (-1)))), z) else if x2 = 3 then if (pX4_within ((x1 / 6) + 0) 0 5) = 0 then some (some (mm_I (-1)), z) else if (pX4_within ((x1 - x1 / 6 * 6) + 1) 0 5) = 0 then some (some (mm_I (-1)), z) else some (some (mm_I ((6 * ((x1 / 6) + 0)) + ((x1 - x1 / 6 * 6) + 1))), z) else if (pX4_within ((x1 / 6) + 0) 0 5) = 0 then some (some (mm_I (-1)), z) else if (pX4_within ((x1 - x1 / 6 * 6) + 0) 0 5) = 0 then some (some (mm_I (-1)), z) else some (some (mm_I ((6 * ((x1 / 6) + 0)) + ((x1 - x1 / 6 * 6) + 0))), z)) := rfl
def rm_X4_beside : Room := { frames := 1, cells := 0, slots := 0, locals := 22 }
def f_X4_beside (as : List mm_V) (z : mm_S) (o : mm_R) : Prop := (as.map mm_cat).sum ≤ 4 ∧ ∃ n, go_X4_beside n 0 (mm_ar 0 as) [] z = some o
theorem M_X4_beside : mm_M lyTM lyFA lenM snM 22 22 17 roM rsA nfA nmA [] yX4_beside cX4_beside 4 (some .int) rm_X4_beside f_X4_beside :=
  mm_met (rt := 0) (by decide +kernel) ⟨fun h => rfl, fun h => absurd h (by decide), fun h => absurd h (by decide), fun h => absurd h (by decide)⟩ tbX4_beside_ok hsnM okFX4 okLX4 (fun _ h => absurd h List.not_mem_nil) (fun _ _ _ _ => rfl) (fun _ _ _ _ => rfl) (fun _ h => absurd h List.not_mem_nil) (List.forall_mem_cons.mpr ⟨sS_X4_within (Or.inl lk_X4_106) rfl ⟨by decide, by decide⟩, fun _ h => absurd h List.not_mem_nil⟩)
def pX4_beside (x1 : Int32) (x2 : Int32) : Int32 := if x2 = 0 then if x2 = 2 then if (pX4_within ((x1 / 6) + (-1)) 0 5) = 0 then (-1) else if (pX4_within ((x1 - x1 / 6 * 6) + (-1)) 0 5) = 0 then (-1) else ((6 * ((x1 / 6) + (-1))) + ((x1 - x1 / 6 * 6) + (-1))) else if x2 = 3 then if (pX4_within ((x1 / 6) + (-1)) 0 5) = 0 then (-1) else if (pX4_within ((x1 - x1 / 6 * 6) + 1) 0 5) = 0 then (-1) else ((6 * ((x1 / 6) + (-1))) + ((x1 - x1 / 6 * 6) + 1)) else if (pX4_within ((x1 / 6) + (-1)) 0 5) = 0 then (-1) else if (pX4_within ((x1 - x1 / 6 * 6) + 0) 0 5) = 0 then (-1) else ((6 * ((x1 / 6) + (-1))) + ((x1 - x1 / 6 * 6) + 0)) else if x2 = 1 then if x2 = 2 then if (pX4_within ((x1 / 6) + 1) 0 5) = 0 then (-1) else if (pX4_within ((x1 - x1 / 6 * 6) + (-1)) 0 5) = 0 then (-1) else ((6 * ((x1 / 6) + 1)) + ((x1 - x1 / 6 * 6) + (-1))) else if x2 = 3 then if (pX4_within ((x1 / 6) + 1) 0 5) = 0 then (-1) else if (pX4_within ((x1 - x1 / 6 * 6) + 1) 0 5) = 0 then (-1) else ((6 * ((x1 / 6) + 1)) + ((x1 - x1 / 6 * 6) + 1)) else if (pX4_within ((x1 / 6) + 1) 0 5) = 0 then (-1) else if (pX4_within ((x1 - x1 / 6 * 6) + 0) 0 5) = 0 then (-1) else ((6 * ((x1 / 6) + 1)) + ((x1 - x1 / 6 * 6) + 0)) else if x2 = 2 then if (pX4_within ((x1 / 6) + 0) 0 5) = 0 then (-1) else if (pX4_within ((x1 - x1 / 6 * 6) + (-1)) 0 5) = 0 then (-1) else ((6 * ((x1 / 6) + 0)) + ((x1 - x1 / 6 * 6) + (-1))) else if x2 = 3 then if (pX4_within ((x1 / 6) + 0) 0 5) = 0 then (-1) else if (pX4_within ((x1 - x1 / 6 * 6) + 1) 0 5) = 0 then (-1) else ((6 * ((x1 / 6) + 0)) + ((x1 - x1 / 6 * 6) + 1)) else if (pX4_within ((x1 / 6) + 0) 0 5) = 0 then (-1) else if (pX4_within ((x1 - x1 / 6 * 6) + 0) 0 5) = 0 then (-1) else ((6 * ((x1 / 6) + 0)) + ((x1 - x1 / 6 * 6) + 0))
theorem sp_X4_beside (x1 : Int32) (x2 : Int32) (z : mm_S) (_ : ∀ v ∈ [mm_I x1, mm_I x2], mm_ok 22 lyTM 22 17 v) : f_X4_beside [mm_I x1, mm_I x2] z (some (mm_I (pX4_beside x1 x2)), z) := ⟨Nat.le_of_ble_eq_true rfl, 1, (qX4_beside_0 0 x1 x2 z).trans (mm_if (fun v => some (some (mm_I v), z)) (mm_if (fun v => some (some (mm_I v), z)) (mm_if (fun v => some (some (mm_I v), z)) rfl (mm_if (fun v => some (some (mm_I v), z)) rfl rfl)) (mm_if (fun v => some (some (mm_I v), z)) (mm_if (fun v => some (some (mm_I v), z)) rfl (mm_if (fun v => some (some (mm_I v), z)) rfl rfl)) (mm_if (fun v => some (some (mm_I v), z)) rfl (mm_if (fun v => some (some (mm_I v), z)) rfl rfl)))) (mm_if (fun v => some (some (mm_I v), z)) (mm_if (fun v => some (some (mm_I v), z)) (mm_if (fun v => some (some (mm_I v), z)) rfl (mm_if (fun v => some (some (mm_I v), z)) rfl rfl)) (mm_if (fun v => some (some (mm_I v), z)) (mm_if (fun v => some (some (mm_I v), z)) rfl (mm_if (fun v => some (some (mm_I v), z)) rfl rfl)) (mm_if (fun v => some (some (mm_I v), z)) rfl (mm_if (fun v => some (some (mm_I v), z)) rfl rfl)))) (mm_if (fun v => some (some (mm_I v), z)) (mm_if (fun v => some (some (mm_I v), z)) rfl (mm_if (fun v => some (some (mm_I v), z)) rfl rfl)) (mm_if (fun v => some (some (mm_I v), z)) (mm_if (fun v => some (some (mm_I v), z)) rfl (mm_if (fun v => some (some (mm_I v), z)) rfl rfl)) (mm_if (fun v => some (some (mm_I v), z)) rfl (mm_if (fun v => some (some (mm_I v), z)) rfl rfl))))))⟩
def clo_X4_beside (as : List mm_V) (z : mm_S) (kk : Option mm_V → mm_S → Option mm_R) : Option mm_R := mm_pi as fun a0 as => mm_pi as fun a1 as => (match as with | [] => kk (some (mm_I (pX4_beside a0 a1))) z | _ => none)
theorem cs_X4_beside : mm_cs lyTM 22 22 17 f_X4_beside clo_X4_beside := by
  intro as z K o hk h
  obtain ⟨a0, r0, rfl, g0⟩ := mm_pi_e h
  obtain ⟨a1, r1, rfl, g1⟩ := mm_pi_e g0
  rcases r1 with _ | ⟨u, w⟩
  rotate_left
  · cases g1
  exact ⟨_, _, sp_X4_beside a0 a1 z hk, fun v hv => by cases hv; exact Or.inl ⟨_, rfl⟩, g1⟩
theorem sS_X4_beside {own : String} {R : Room} {ar : Nat → Nat} {k : Nat} (hlink : Cond.methodLink own k yX4_beside ∈ lw_gd ∨ ∃ host, (own, k, yX4_beside, host) ∈ nmA) (har : ar k = 2) (hr : 2 ≤ R.frames ∧ 45 ≤ R.locals) : mm_okS lyTM lyFA lenM snM 22 22 17 roM rsA nfA nmA [] own R ar k clo_X4_beside :=
  Or.inl ⟨yX4_beside, cX4_beside, 4, some .int, rm_X4_beside, f_X4_beside, M_X4_beside, cs_X4_beside, hlink, ⟨ws_X4_beside, wi_X4_beside, wc_X4_beside⟩, ⟨by decide +kernel, by decide +kernel, by rw [har]; decide +kernel⟩, ⟨rfl, rfl, hr.1, hr.2⟩⟩
-- X4_finding
def lV_X4_finding : List (Nat × (List mm_V → mm_S → (Option mm_V → mm_S → Option mm_R) → Option mm_R)) := []
def mV_X4_finding (k : Nat) (as : List mm_V) (z : mm_S) (kk : Option mm_V → mm_S → Option mm_R) : Option mm_R := match mm_at lV_X4_finding k with
  | some f => f as z kk
  | none => none
def arV_X4_finding (k : Nat) : Nat := (mm_at [] k).getD 0
def lS_X4_finding : List (Nat × (List mm_V → mm_S → (Option mm_V → mm_S → Option mm_R) → Option mm_R)) := []
def mS_X4_finding (k : Nat) (as : List mm_V) (z : mm_S) (kk : Option mm_V → mm_S → Option mm_R) : Option mm_R := match mm_at lS_X4_finding k with
  | some f => f as z kk
  | none => none
def arS_X4_finding (k : Nat) : Nat := (mm_at [] k).getD 0
def ct_X4_finding : List (Nat × List Nat) := [(15, [0, 1]), (25, [1])]
def go_X4_finding : Nat → mm_K := mm_go (fun k => mm_at flX4 k) (fun k => mm_at clX4 k) (fun k => mm_at glX4 k) arV_X4_finding arS_X4_finding mV_X4_finding mS_X4_finding lenM roM snM 2 0 tbX4_finding ct_X4_finding
def eX4_finding_0 (n : Nat)  (x1 : Int32) (z : mm_S) : Option mm_R := go_X4_finding n 0 [(0, mm_P 4 0), (1, mm_I x1)] [] z
def eX4_finding_15 (n : Nat)  (y1 : Int32) (z : mm_S) : Option mm_R := go_X4_finding n 15 [(0, mm_P 4 0), (1, mm_I y1)] [] z
def eX4_finding_25 (n : Nat) (y1 : Int32) (z : mm_S) : Option mm_R := go_X4_finding n 25 [(1, mm_I y1)] [] z
set_option maxRecDepth 100000 in
theorem qX4_finding_0 (n : Nat)  (x1 : Int32) (z : mm_S) : eX4_finding_0 (n + 1) x1 z = (if (((-1000001) - x1) + 1) < 0 ∨ 8 ≤ Int32.toNatClampNeg (((-1000001) - x1) + 1) then none else if (((-1000001) - x1) + 1) < 0 ∨ 8 ≤ Int32.toNatClampNeg (((-1000001) - x1) + 1) then none else let u1 : mm_S := ((mm_ui z.1 4 (Int32.toNatClampNeg (((-1000001) - x1) + 1)) ((z.1 4 (Int32.toNatClampNeg (((-1000001) - x1) + 1))) + 1)), z.2); eX4_finding_15 n x1 u1) := rfl
set_option maxRecDepth 100000 in
theorem qX4_finding_15 (n : Nat)  (y1 : Int32) (z : mm_S) : eX4_finding_15 (n + 1) y1 z = (eX4_finding_25 n y1 ((mm_ui z.1 4 0 ((z.1 4 0) + 1)), z.2)) := rfl
set_option maxRecDepth 100000 in
theorem qX4_finding_25 (n : Nat) (y1 : Int32) (z : mm_S) : eX4_finding_25 (n + 1) y1 z = (some (some (mm_I y1), z)) := rfl
def rm_X4_finding : Room := { frames := 0, cells := 0, slots := 0, locals := 0 }
def f_X4_finding (as : List mm_V) (z : mm_S) (o : mm_R) : Prop := (as.map mm_cat).sum ≤ 2 ∧ ∃ n, go_X4_finding n 0 (mm_ar 0 as) [] z = some o
theorem M_X4_finding : mm_M lyTM lyFA lenM snM 22 22 17 roM rsA nfA nmA [] yX4_finding cX4_finding 2 (some .int) rm_X4_finding f_X4_finding :=
  mm_met (rt := 0) (by decide +kernel) ⟨fun h => rfl, fun h => absurd h (by decide), fun h => absurd h (by decide), fun h => absurd h (by decide)⟩ tbX4_finding_ok hsnM okFX4 okLX4 (fun _ h => absurd h List.not_mem_nil) (fun _ _ _ _ => rfl) (fun _ _ _ _ => rfl) (fun _ h => absurd h List.not_mem_nil) (fun _ h => absurd h List.not_mem_nil)
def sX4_finding_25 (y1 : Int32) (z : mm_S) : Option (Int32 × mm_S) := some (y1, z)
theorem kX4_finding_25 (n : Nat) (y1 : Int32) (z : mm_S) : eX4_finding_25 (n + 1) y1 z = (sX4_finding_25 y1 z).map (fun v => (some (mm_I v.1), v.2)) := (qX4_finding_25 (n + 0) y1 z).trans rfl
def sX4_finding_15 (y1 : Int32) (z : mm_S) : Option (Int32 × mm_S) := (sX4_finding_25 y1 ((mm_ui z.1 4 0 ((z.1 4 0) + 1)), z.2))
theorem kX4_finding_15 (n : Nat) (y1 : Int32) (z : mm_S) : eX4_finding_15 (n + 2) y1 z = (sX4_finding_15 y1 z).map (fun v => (some (mm_I v.1), v.2)) := (qX4_finding_15 (n + 1) y1 z).trans (kX4_finding_25 (n + 0) y1 ((mm_ui z.1 4 0 ((z.1 4 0) + 1)), z.2))
def sX4_finding (x1 : Int32) (z : mm_S) : Option (Int32 × mm_S) := if (((-1000001) - x1) + 1) < 0 ∨ 8 ≤ Int32.toNatClampNeg (((-1000001) - x1) + 1) then none else if (((-1000001) - x1) + 1) < 0 ∨ 8 ≤ Int32.toNatClampNeg (((-1000001) - x1) + 1) then none else let u1 : mm_S := ((mm_ui z.1 4 (Int32.toNatClampNeg (((-1000001) - x1) + 1)) ((z.1 4 (Int32.toNatClampNeg (((-1000001) - x1) + 1))) + 1)), z.2); (sX4_finding_15 x1 u1)
theorem kX4_finding_0 (n : Nat) (x1 : Int32) (z : mm_S) : eX4_finding_0 (n + 3) x1 z = (sX4_finding x1 z).map (fun v => (some (mm_I v.1), v.2)) := (qX4_finding_0 (n + 2) x1 z).trans (mm_if (Option.map (fun v : Int32 × mm_S => (some (mm_I v.1), v.2))) rfl (mm_if (Option.map (fun v : Int32 × mm_S => (some (mm_I v.1), v.2))) rfl (let u1 : mm_S := ((mm_ui z.1 4 (Int32.toNatClampNeg (((-1000001) - x1) + 1)) ((z.1 4 (Int32.toNatClampNeg (((-1000001) - x1) + 1))) + 1)), z.2); (kX4_finding_15 (n + 0) x1 u1))))
theorem sp_X4_finding (x1 : Int32) (z : mm_S) (hk : ∀ v ∈ [mm_P 4 0, mm_I x1], mm_ok 22 lyTM 22 17 v) (q : (Int32 × mm_S)) (hq : sX4_finding x1 z = some q) : f_X4_finding [mm_P 4 0, mm_I x1] z (some (mm_I q.1), q.2) := ⟨Nat.le_of_ble_eq_true rfl, 0 + 3, (kX4_finding_0 0 x1 z).trans (by rw [hq]; rfl)⟩
def clo_X4_finding (as : List mm_V) (z : mm_S) (kk : Option mm_V → mm_S → Option mm_R) : Option mm_R := mm_pr as fun t o0 as => bif Nat.beq t 4 then mm_pi as fun a1 as => (match as with | [] => (sX4_finding a1 z).bind fun q => kk (some (mm_I q.1)) q.2 | _ => none) else none
theorem cs_X4_finding : mm_cs lyTM 22 22 17 f_X4_finding clo_X4_finding := by
  intro as z K o hk h
  obtain ⟨t0, o0, r0, rfl, g0⟩ := mm_pr_e h
  obtain ⟨b0, k0⟩ := mm_bif_e g0
  obtain rfl := Nat.eq_of_beq_eq_true b0
  obtain ⟨a1, r1, rfl, g1⟩ := mm_pi_e k0
  rcases r1 with _ | ⟨u, w⟩
  rotate_left
  · cases g1
  obtain rfl : o0 = 0 := ok4 (hk (mm_P 4 o0) (by simp))
  obtain ⟨q, hq, hq2⟩ := Option.bind_eq_some_iff.mp g1
  exact ⟨_, _, sp_X4_finding a1 z hk q hq, fun v hv => by cases hv; exact Or.inl ⟨_, rfl⟩, hq2⟩
theorem sV_X4_finding {own : String} {R : Room} {ar : Nat → Nat} {k : Nat} (hlink : Cond.methodLink own k yX4_finding ∈ lw_gd ∨ ∃ host, (own, k, yX4_finding, host) ∈ nmA) (har : ar k = 2) (hr : 1 ≤ R.frames ∧ 21 ≤ R.locals) : mm_okV lyTM lyFA lenM snM 22 22 17 roM rsA nfA nmA [] own R ar k clo_X4_finding := by
  refine ⟨yX4_finding, cX4_finding, 2, some .int, rm_X4_finding, f_X4_finding, 4, 1, (RX4, TX4, 36), M_X4_finding, cs_X4_finding, hlink, ⟨wv_X4_finding, wz_X4_finding, wi_X4_finding, wc_X4_finding⟩, ⟨by decide +kernel, by decide +kernel, by decide +kernel⟩, har, ⟨rfl, rfl, by decide⟩, ?_, ⟨rfl, rfl, hr.1, hr.2⟩⟩
  intro as z K o h
  obtain ⟨t0, o0, r0, rfl, g0⟩ := mm_pr_e h
  obtain ⟨b0, k0⟩ := mm_bif_e g0
  obtain rfl := Nat.eq_of_beq_eq_true b0
  exact ⟨_, _, rfl⟩
-- X4_become
def lV_X4_become : List (Nat × (List mm_V → mm_S → (Option mm_V → mm_S → Option mm_R) → Option mm_R)) := []
def mV_X4_become (k : Nat) (as : List mm_V) (z : mm_S) (kk : Option mm_V → mm_S → Option mm_R) : Option mm_R := match mm_at lV_X4_become k with
  | some f => f as z kk
  | none => none
def arV_X4_become (k : Nat) : Nat := (mm_at [] k).getD 0
def lS_X4_become : List (Nat × (List mm_V → mm_S → (Option mm_V → mm_S → Option mm_R) → Option mm_R)) := []
def mS_X4_become (k : Nat) (as : List mm_V) (z : mm_S) (kk : Option mm_V → mm_S → Option mm_R) : Option mm_R := match mm_at lS_X4_become k with
  | some f => f as z kk
  | none => none
def arS_X4_become (k : Nat) : Nat := (mm_at [] k).getD 0
def ct_X4_become : List (Nat × List Nat) := [(14, [3])]
def go_X4_become : Nat → mm_K := mm_go (fun k => mm_at flX4 k) (fun k => mm_at clX4 k) (fun k => mm_at glX4 k) arV_X4_become arS_X4_become mV_X4_become mS_X4_become lenM roM snM 4 0 tbX4_become ct_X4_become
def eX4_become_0 (n : Nat)  (x1 : Int32) (x2 : Int32) (z : mm_S) : Option mm_R := go_X4_become n 0 [(0, mm_P 4 0), (1, mm_I x1), (2, mm_I x2)] [] z
def eX4_become_14 (n : Nat) (y3 : Int32) (z : mm_S) : Option mm_R := go_X4_become n 14 [(3, mm_I y3)] [] z
set_option maxRecDepth 100000 in
theorem qX4_become_0 (n : Nat)  (x1 : Int32) (x2 : Int32) (z : mm_S) : eX4_become_0 (n + 1) x1 x2 z = (if x1 < 0 ∨ 97 ≤ Int32.toNatClampNeg x1 then none else if x1 < 0 ∨ 97 ≤ Int32.toNatClampNeg x1 then none else eX4_become_14 n (z.1 1 (Int32.toNatClampNeg x1)) ((mm_ui z.1 1 (Int32.toNatClampNeg x1) x2), z.2)) := rfl
set_option maxRecDepth 100000 in
theorem qX4_become_14 (n : Nat) (y3 : Int32) (z : mm_S) : eX4_become_14 (n + 1) y3 z = (some (some (mm_I y3), z)) := rfl
def rm_X4_become : Room := { frames := 0, cells := 0, slots := 0, locals := 0 }
def f_X4_become (as : List mm_V) (z : mm_S) (o : mm_R) : Prop := (as.map mm_cat).sum ≤ 4 ∧ ∃ n, go_X4_become n 0 (mm_ar 0 as) [] z = some o
theorem M_X4_become : mm_M lyTM lyFA lenM snM 22 22 17 roM rsA nfA nmA [] yX4_become cX4_become 4 (some .int) rm_X4_become f_X4_become :=
  mm_met (rt := 0) (by decide +kernel) ⟨fun h => rfl, fun h => absurd h (by decide), fun h => absurd h (by decide), fun h => absurd h (by decide)⟩ tbX4_become_ok hsnM okFX4 okLX4 (fun _ h => absurd h List.not_mem_nil) (fun _ _ _ _ => rfl) (fun _ _ _ _ => rfl) (fun _ h => absurd h List.not_mem_nil) (fun _ h => absurd h List.not_mem_nil)
def sX4_become_14 (y3 : Int32) (z : mm_S) : Option (Int32 × mm_S) := some (y3, z)
theorem kX4_become_14 (n : Nat) (y3 : Int32) (z : mm_S) : eX4_become_14 (n + 1) y3 z = (sX4_become_14 y3 z).map (fun v => (some (mm_I v.1), v.2)) := (qX4_become_14 (n + 0) y3 z).trans rfl
def sX4_become (x1 : Int32) (x2 : Int32) (z : mm_S) : Option (Int32 × mm_S) := if x1 < 0 ∨ 97 ≤ Int32.toNatClampNeg x1 then none else if x1 < 0 ∨ 97 ≤ Int32.toNatClampNeg x1 then none else (sX4_become_14 (z.1 1 (Int32.toNatClampNeg x1)) ((mm_ui z.1 1 (Int32.toNatClampNeg x1) x2), z.2))
theorem kX4_become_0 (n : Nat) (x1 : Int32) (x2 : Int32) (z : mm_S) : eX4_become_0 (n + 2) x1 x2 z = (sX4_become x1 x2 z).map (fun v => (some (mm_I v.1), v.2)) := (qX4_become_0 (n + 1) x1 x2 z).trans (mm_if (Option.map (fun v : Int32 × mm_S => (some (mm_I v.1), v.2))) rfl (mm_if (Option.map (fun v : Int32 × mm_S => (some (mm_I v.1), v.2))) rfl (kX4_become_14 (n + 0) (z.1 1 (Int32.toNatClampNeg x1)) ((mm_ui z.1 1 (Int32.toNatClampNeg x1) x2), z.2))))
theorem sp_X4_become (x1 : Int32) (x2 : Int32) (z : mm_S) (hk : ∀ v ∈ [mm_P 4 0, mm_I x1, mm_I x2], mm_ok 22 lyTM 22 17 v) (q : (Int32 × mm_S)) (hq : sX4_become x1 x2 z = some q) : f_X4_become [mm_P 4 0, mm_I x1, mm_I x2] z (some (mm_I q.1), q.2) := ⟨Nat.le_of_ble_eq_true rfl, 0 + 2, (kX4_become_0 0 x1 x2 z).trans (by rw [hq]; rfl)⟩
def clo_X4_become (as : List mm_V) (z : mm_S) (kk : Option mm_V → mm_S → Option mm_R) : Option mm_R := mm_pr as fun t o0 as => bif Nat.beq t 4 then mm_pi as fun a1 as => mm_pi as fun a2 as => (match as with | [] => (sX4_become a1 a2 z).bind fun q => kk (some (mm_I q.1)) q.2 | _ => none) else none
theorem cs_X4_become : mm_cs lyTM 22 22 17 f_X4_become clo_X4_become := by
  intro as z K o hk h
  obtain ⟨t0, o0, r0, rfl, g0⟩ := mm_pr_e h
  obtain ⟨b0, k0⟩ := mm_bif_e g0
  obtain rfl := Nat.eq_of_beq_eq_true b0
  obtain ⟨a1, r1, rfl, g1⟩ := mm_pi_e k0
  obtain ⟨a2, r2, rfl, g2⟩ := mm_pi_e g1
  rcases r2 with _ | ⟨u, w⟩
  rotate_left
  · cases g2
  obtain rfl : o0 = 0 := ok4 (hk (mm_P 4 o0) (by simp))
  obtain ⟨q, hq, hq2⟩ := Option.bind_eq_some_iff.mp g2
  exact ⟨_, _, sp_X4_become a1 a2 z hk q hq, fun v hv => by cases hv; exact Or.inl ⟨_, rfl⟩, hq2⟩
theorem sV_X4_become {own : String} {R : Room} {ar : Nat → Nat} {k : Nat} (hlink : Cond.methodLink own k yX4_become ∈ lw_gd ∨ ∃ host, (own, k, yX4_become, host) ∈ nmA) (har : ar k = 3) (hr : 1 ≤ R.frames ∧ 23 ≤ R.locals) : mm_okV lyTM lyFA lenM snM 22 22 17 roM rsA nfA nmA [] own R ar k clo_X4_become := by
  refine ⟨yX4_become, cX4_become, 4, some .int, rm_X4_become, f_X4_become, 4, 2, (RX4, TX4, 36), M_X4_become, cs_X4_become, hlink, ⟨wv_X4_become, wz_X4_become, wi_X4_become, wc_X4_become⟩, ⟨by decide +kernel, by decide +kernel, by decide +kernel⟩, har, ⟨rfl, rfl, by decide⟩, ?_, ⟨rfl, rfl, hr.1, hr.2⟩⟩
  intro as z K o h
  obtain ⟨t0, o0, r0, rfl, g0⟩ := mm_pr_e h
  obtain ⟨b0, k0⟩ := mm_bif_e g0
  obtain rfl := Nat.eq_of_beq_eq_true b0
  exact ⟨_, _, rfl⟩
-- X4_isCrew
def lV_X4_isCrew : List (Nat × (List mm_V → mm_S → (Option mm_V → mm_S → Option mm_R) → Option mm_R)) := []
def mV_X4_isCrew (k : Nat) (as : List mm_V) (z : mm_S) (kk : Option mm_V → mm_S → Option mm_R) : Option mm_R := match mm_at lV_X4_isCrew k with
  | some f => f as z kk
  | none => none
def arV_X4_isCrew (k : Nat) : Nat := (mm_at [] k).getD 0
def lS_X4_isCrew : List (Nat × (List mm_V → mm_S → (Option mm_V → mm_S → Option mm_R) → Option mm_R)) := [(106, clo_X4_within)]
def mS_X4_isCrew (k : Nat) (as : List mm_V) (z : mm_S) (kk : Option mm_V → mm_S → Option mm_R) : Option mm_R := match mm_at lS_X4_isCrew k with
  | some f => f as z kk
  | none => none
def arS_X4_isCrew (k : Nat) : Nat := (mm_at [(106, 3)] k).getD 0
def ct_X4_isCrew : List (Nat × List Nat) := []
def go_X4_isCrew : Nat → mm_K := mm_go (fun k => mm_at flX4 k) (fun k => mm_at clX4 k) (fun k => mm_at glX4 k) arV_X4_isCrew arS_X4_isCrew mV_X4_isCrew mS_X4_isCrew lenM roM snM 2 1 tbX4_isCrew ct_X4_isCrew
def eX4_isCrew_0 (n : Nat)  (x1 : Int32) (z : mm_S) : Option mm_R := go_X4_isCrew n 0 [(0, mm_P 4 0), (1, mm_I x1)] [] z
set_option maxRecDepth 100000 in
theorem qX4_isCrew_0 (n : Nat)  (x1 : Int32) (z : mm_S) : eX4_isCrew_0 (n + 1) x1 z = (mm_rt 1 (pX4_within x1 0 ((z.1 1 1) - 1)) z) := rfl
def rm_X4_isCrew : Room := { frames := 1, cells := 0, slots := 0, locals := 22 }
def f_X4_isCrew (as : List mm_V) (z : mm_S) (o : mm_R) : Prop := (as.map mm_cat).sum ≤ 2 ∧ ∃ n, go_X4_isCrew n 0 (mm_ar 0 as) [] z = some o
theorem M_X4_isCrew : mm_M lyTM lyFA lenM snM 22 22 17 roM rsA nfA nmA [] yX4_isCrew cX4_isCrew 2 (some .boolean) rm_X4_isCrew f_X4_isCrew :=
  mm_met (rt := 1) (by decide +kernel) ⟨fun h => absurd h (by decide), fun h => rfl, fun h => absurd h (by decide), fun h => absurd h (by decide)⟩ tbX4_isCrew_ok hsnM okFX4 okLX4 (fun _ h => absurd h List.not_mem_nil) (fun _ _ _ _ => rfl) (fun _ _ _ _ => rfl) (fun _ h => absurd h List.not_mem_nil) (List.forall_mem_cons.mpr ⟨sS_X4_within (Or.inl lk_X4_106) rfl ⟨by decide, by decide⟩, fun _ h => absurd h List.not_mem_nil⟩)
def pX4_isCrew (x1 : Int32) (z : mm_S) : Int32 := (pX4_within x1 0 ((z.1 1 1) - 1))
theorem z1_X4_isCrew (x1 : Int32) (z : mm_S) : pX4_isCrew x1 z = 0 ∨ pX4_isCrew x1 z = 1 := (z1_X4_within x1 0 ((z.1 1 1) - 1))
theorem sp_X4_isCrew (x1 : Int32) (z : mm_S) (_ : ∀ v ∈ [mm_P 4 0, mm_I x1], mm_ok 22 lyTM 22 17 v) : f_X4_isCrew [mm_P 4 0, mm_I x1] z (some (mm_I (pX4_isCrew x1 z)), z) := ⟨Nat.le_of_ble_eq_true rfl, 1, (qX4_isCrew_0 0 x1 z).trans (mm_rt1 z (z1_X4_within x1 0 ((z.1 1 1) - 1)))⟩
def clo_X4_isCrew (as : List mm_V) (z : mm_S) (kk : Option mm_V → mm_S → Option mm_R) : Option mm_R := mm_pr as fun t o0 as => bif Nat.beq t 4 then mm_pi as fun a1 as => (match as with | [] => kk (some (mm_I (pX4_isCrew a1 z))) z | _ => none) else none
theorem cs_X4_isCrew : mm_cs lyTM 22 22 17 f_X4_isCrew clo_X4_isCrew := by
  intro as z K o hk h
  obtain ⟨t0, o0, r0, rfl, g0⟩ := mm_pr_e h
  obtain ⟨b0, k0⟩ := mm_bif_e g0
  obtain rfl := Nat.eq_of_beq_eq_true b0
  obtain ⟨a1, r1, rfl, g1⟩ := mm_pi_e k0
  rcases r1 with _ | ⟨u, w⟩
  rotate_left
  · cases g1
  obtain rfl : o0 = 0 := ok4 (hk (mm_P 4 o0) (by simp))
  exact ⟨_, _, sp_X4_isCrew a1 z hk, fun v hv => by cases hv; exact Or.inl ⟨_, rfl⟩, g1⟩
theorem sV_X4_isCrew {own : String} {R : Room} {ar : Nat → Nat} {k : Nat} (hlink : Cond.methodLink own k yX4_isCrew ∈ lw_gd ∨ ∃ host, (own, k, yX4_isCrew, host) ∈ nmA) (har : ar k = 2) (hr : 2 ≤ R.frames ∧ 43 ≤ R.locals) : mm_okV lyTM lyFA lenM snM 22 22 17 roM rsA nfA nmA [] own R ar k clo_X4_isCrew := by
  refine ⟨yX4_isCrew, cX4_isCrew, 2, some .boolean, rm_X4_isCrew, f_X4_isCrew, 4, 1, (RX4, TX4, 36), M_X4_isCrew, cs_X4_isCrew, hlink, ⟨wv_X4_isCrew, wz_X4_isCrew, wi_X4_isCrew, wc_X4_isCrew⟩, ⟨by decide +kernel, by decide +kernel, by decide +kernel⟩, har, ⟨rfl, rfl, by decide⟩, ?_, ⟨rfl, rfl, hr.1, hr.2⟩⟩
  intro as z K o h
  obtain ⟨t0, o0, r0, rfl, g0⟩ := mm_pr_e h
  obtain ⟨b0, k0⟩ := mm_bif_e g0
  obtain rfl := Nat.eq_of_beq_eq_true b0
  exact ⟨_, _, rfl⟩
-- X4_crewIs
def lV_X4_crewIs : List (Nat × (List mm_V → mm_S → (Option mm_V → mm_S → Option mm_R) → Option mm_R)) := []
def mV_X4_crewIs (k : Nat) (as : List mm_V) (z : mm_S) (kk : Option mm_V → mm_S → Option mm_R) : Option mm_R := match mm_at lV_X4_crewIs k with
  | some f => f as z kk
  | none => none
def arV_X4_crewIs (k : Nat) : Nat := (mm_at [] k).getD 0
def lS_X4_crewIs : List (Nat × (List mm_V → mm_S → (Option mm_V → mm_S → Option mm_R) → Option mm_R)) := [(110, clo_X4_at)]
def mS_X4_crewIs (k : Nat) (as : List mm_V) (z : mm_S) (kk : Option mm_V → mm_S → Option mm_R) : Option mm_R := match mm_at lS_X4_crewIs k with
  | some f => f as z kk
  | none => none
def arS_X4_crewIs (k : Nat) : Nat := (mm_at [(110, 2)] k).getD 0
def ct_X4_crewIs : List (Nat × List Nat) := []
def go_X4_crewIs : Nat → mm_K := mm_go (fun k => mm_at flX4 k) (fun k => mm_at clX4 k) (fun k => mm_at glX4 k) arV_X4_crewIs arS_X4_crewIs mV_X4_crewIs mS_X4_crewIs lenM roM snM 3 0 tbX4_crewIs ct_X4_crewIs
def eX4_crewIs_0 (n : Nat)  (x1 : Int32) (x2 : Int32) (z : mm_S) : Option mm_R := go_X4_crewIs n 0 [(0, mm_P 4 0), (1, mm_I x1), (2, mm_I x2)] [] z
set_option maxRecDepth 100000 in
theorem qX4_crewIs_0 (n : Nat)  (x1 : Int32) (x2 : Int32) (z : mm_S) : eX4_crewIs_0 (n + 1) x1 x2 z = (if (pX4_at x1 x2) < 0 ∨ 97 ≤ Int32.toNatClampNeg (pX4_at x1 x2) then none else some (some (mm_I (z.1 1 (Int32.toNatClampNeg (pX4_at x1 x2)))), z)) := rfl
def rm_X4_crewIs : Room := { frames := 1, cells := 0, slots := 0, locals := 21 }
def f_X4_crewIs (as : List mm_V) (z : mm_S) (o : mm_R) : Prop := (as.map mm_cat).sum ≤ 3 ∧ ∃ n, go_X4_crewIs n 0 (mm_ar 0 as) [] z = some o
theorem M_X4_crewIs : mm_M lyTM lyFA lenM snM 22 22 17 roM rsA nfA nmA [] yX4_crewIs cX4_crewIs 3 (some .int) rm_X4_crewIs f_X4_crewIs :=
  mm_met (rt := 0) (by decide +kernel) ⟨fun h => rfl, fun h => absurd h (by decide), fun h => absurd h (by decide), fun h => absurd h (by decide)⟩ tbX4_crewIs_ok hsnM okFX4 okLX4 (fun _ h => absurd h List.not_mem_nil) (fun _ _ _ _ => rfl) (fun _ _ _ _ => rfl) (fun _ h => absurd h List.not_mem_nil) (List.forall_mem_cons.mpr ⟨sS_X4_at (Or.inl lk_X4_110) rfl ⟨by decide, by decide⟩, fun _ h => absurd h List.not_mem_nil⟩)
def sX4_crewIs (x1 : Int32) (x2 : Int32) (z : mm_S) : Option (Int32 × mm_S) := if (pX4_at x1 x2) < 0 ∨ 97 ≤ Int32.toNatClampNeg (pX4_at x1 x2) then none else some ((z.1 1 (Int32.toNatClampNeg (pX4_at x1 x2))), z)
theorem kX4_crewIs_0 (n : Nat) (x1 : Int32) (x2 : Int32) (z : mm_S) : eX4_crewIs_0 (n + 1) x1 x2 z = (sX4_crewIs x1 x2 z).map (fun v => (some (mm_I v.1), v.2)) := (qX4_crewIs_0 (n + 0) x1 x2 z).trans (mm_if (Option.map (fun v : Int32 × mm_S => (some (mm_I v.1), v.2))) rfl rfl)
theorem sp_X4_crewIs (x1 : Int32) (x2 : Int32) (z : mm_S) (hk : ∀ v ∈ [mm_P 4 0, mm_I x1, mm_I x2], mm_ok 22 lyTM 22 17 v) (q : (Int32 × mm_S)) (hq : sX4_crewIs x1 x2 z = some q) : f_X4_crewIs [mm_P 4 0, mm_I x1, mm_I x2] z (some (mm_I q.1), q.2) := ⟨Nat.le_of_ble_eq_true rfl, 0 + 1, (kX4_crewIs_0 0 x1 x2 z).trans (by rw [hq]; rfl)⟩
def clo_X4_crewIs (as : List mm_V) (z : mm_S) (kk : Option mm_V → mm_S → Option mm_R) : Option mm_R := mm_pr as fun t o0 as => bif Nat.beq t 4 then mm_pi as fun a1 as => mm_pi as fun a2 as => (match as with | [] => (sX4_crewIs a1 a2 z).bind fun q => kk (some (mm_I q.1)) q.2 | _ => none) else none
theorem cs_X4_crewIs : mm_cs lyTM 22 22 17 f_X4_crewIs clo_X4_crewIs := by
  intro as z K o hk h
  obtain ⟨t0, o0, r0, rfl, g0⟩ := mm_pr_e h
  obtain ⟨b0, k0⟩ := mm_bif_e g0
  obtain rfl := Nat.eq_of_beq_eq_true b0
  obtain ⟨a1, r1, rfl, g1⟩ := mm_pi_e k0
  obtain ⟨a2, r2, rfl, g2⟩ := mm_pi_e g1
  rcases r2 with _ | ⟨u, w⟩
  rotate_left
  · cases g2
  obtain rfl : o0 = 0 := ok4 (hk (mm_P 4 o0) (by simp))
  obtain ⟨q, hq, hq2⟩ := Option.bind_eq_some_iff.mp g2
  exact ⟨_, _, sp_X4_crewIs a1 a2 z hk q hq, fun v hv => by cases hv; exact Or.inl ⟨_, rfl⟩, hq2⟩
theorem sV_X4_crewIs {own : String} {R : Room} {ar : Nat → Nat} {k : Nat} (hlink : Cond.methodLink own k yX4_crewIs ∈ lw_gd ∨ ∃ host, (own, k, yX4_crewIs, host) ∈ nmA) (har : ar k = 3) (hr : 2 ≤ R.frames ∧ 43 ≤ R.locals) : mm_okV lyTM lyFA lenM snM 22 22 17 roM rsA nfA nmA [] own R ar k clo_X4_crewIs := by
  refine ⟨yX4_crewIs, cX4_crewIs, 3, some .int, rm_X4_crewIs, f_X4_crewIs, 4, 2, (RX4, TX4, 36), M_X4_crewIs, cs_X4_crewIs, hlink, ⟨wv_X4_crewIs, wz_X4_crewIs, wi_X4_crewIs, wc_X4_crewIs⟩, ⟨by decide +kernel, by decide +kernel, by decide +kernel⟩, har, ⟨rfl, rfl, by decide⟩, ?_, ⟨rfl, rfl, hr.1, hr.2⟩⟩
  intro as z K o h
  obtain ⟨t0, o0, r0, rfl, g0⟩ := mm_pr_e h
  obtain ⟨b0, k0⟩ := mm_bif_e g0
  obtain rfl := Nat.eq_of_beq_eq_true b0
  exact ⟨_, _, rfl⟩
-- X4_stuffIs
def lV_X4_stuffIs : List (Nat × (List mm_V → mm_S → (Option mm_V → mm_S → Option mm_R) → Option mm_R)) := []
def mV_X4_stuffIs (k : Nat) (as : List mm_V) (z : mm_S) (kk : Option mm_V → mm_S → Option mm_R) : Option mm_R := match mm_at lV_X4_stuffIs k with
  | some f => f as z kk
  | none => none
def arV_X4_stuffIs (k : Nat) : Nat := (mm_at [] k).getD 0
def lS_X4_stuffIs : List (Nat × (List mm_V → mm_S → (Option mm_V → mm_S → Option mm_R) → Option mm_R)) := []
def mS_X4_stuffIs (k : Nat) (as : List mm_V) (z : mm_S) (kk : Option mm_V → mm_S → Option mm_R) : Option mm_R := match mm_at lS_X4_stuffIs k with
  | some f => f as z kk
  | none => none
def arS_X4_stuffIs (k : Nat) : Nat := (mm_at [] k).getD 0
def ct_X4_stuffIs : List (Nat × List Nat) := []
def go_X4_stuffIs : Nat → mm_K := mm_go (fun k => mm_at flX4 k) (fun k => mm_at clX4 k) (fun k => mm_at glX4 k) arV_X4_stuffIs arS_X4_stuffIs mV_X4_stuffIs mS_X4_stuffIs lenM roM snM 2 0 tbX4_stuffIs ct_X4_stuffIs
def eX4_stuffIs_0 (n : Nat)  (x1 : Int32) (z : mm_S) : Option mm_R := go_X4_stuffIs n 0 [(0, mm_P 4 0), (1, mm_I x1)] [] z
set_option maxRecDepth 100000 in
theorem qX4_stuffIs_0 (n : Nat)  (x1 : Int32) (z : mm_S) : eX4_stuffIs_0 (n + 1) x1 z = (if (15 + x1) < 0 ∨ 97 ≤ Int32.toNatClampNeg (15 + x1) then none else some (some (mm_I (z.1 1 (Int32.toNatClampNeg (15 + x1)))), z)) := rfl
def rm_X4_stuffIs : Room := { frames := 0, cells := 0, slots := 0, locals := 0 }
def f_X4_stuffIs (as : List mm_V) (z : mm_S) (o : mm_R) : Prop := (as.map mm_cat).sum ≤ 2 ∧ ∃ n, go_X4_stuffIs n 0 (mm_ar 0 as) [] z = some o
theorem M_X4_stuffIs : mm_M lyTM lyFA lenM snM 22 22 17 roM rsA nfA nmA [] yX4_stuffIs cX4_stuffIs 2 (some .int) rm_X4_stuffIs f_X4_stuffIs :=
  mm_met (rt := 0) (by decide +kernel) ⟨fun h => rfl, fun h => absurd h (by decide), fun h => absurd h (by decide), fun h => absurd h (by decide)⟩ tbX4_stuffIs_ok hsnM okFX4 okLX4 (fun _ h => absurd h List.not_mem_nil) (fun _ _ _ _ => rfl) (fun _ _ _ _ => rfl) (fun _ h => absurd h List.not_mem_nil) (fun _ h => absurd h List.not_mem_nil)
def sX4_stuffIs (x1 : Int32) (z : mm_S) : Option (Int32 × mm_S) := if (15 + x1) < 0 ∨ 97 ≤ Int32.toNatClampNeg (15 + x1) then none else some ((z.1 1 (Int32.toNatClampNeg (15 + x1))), z)
theorem kX4_stuffIs_0 (n : Nat) (x1 : Int32) (z : mm_S) : eX4_stuffIs_0 (n + 1) x1 z = (sX4_stuffIs x1 z).map (fun v => (some (mm_I v.1), v.2)) := (qX4_stuffIs_0 (n + 0) x1 z).trans (mm_if (Option.map (fun v : Int32 × mm_S => (some (mm_I v.1), v.2))) rfl rfl)
theorem sp_X4_stuffIs (x1 : Int32) (z : mm_S) (hk : ∀ v ∈ [mm_P 4 0, mm_I x1], mm_ok 22 lyTM 22 17 v) (q : (Int32 × mm_S)) (hq : sX4_stuffIs x1 z = some q) : f_X4_stuffIs [mm_P 4 0, mm_I x1] z (some (mm_I q.1), q.2) := ⟨Nat.le_of_ble_eq_true rfl, 0 + 1, (kX4_stuffIs_0 0 x1 z).trans (by rw [hq]; rfl)⟩
def clo_X4_stuffIs (as : List mm_V) (z : mm_S) (kk : Option mm_V → mm_S → Option mm_R) : Option mm_R := mm_pr as fun t o0 as => bif Nat.beq t 4 then mm_pi as fun a1 as => (match as with | [] => (sX4_stuffIs a1 z).bind fun q => kk (some (mm_I q.1)) q.2 | _ => none) else none
theorem cs_X4_stuffIs : mm_cs lyTM 22 22 17 f_X4_stuffIs clo_X4_stuffIs := by
  intro as z K o hk h
  obtain ⟨t0, o0, r0, rfl, g0⟩ := mm_pr_e h
  obtain ⟨b0, k0⟩ := mm_bif_e g0
  obtain rfl := Nat.eq_of_beq_eq_true b0
  obtain ⟨a1, r1, rfl, g1⟩ := mm_pi_e k0
  rcases r1 with _ | ⟨u, w⟩
  rotate_left
  · cases g1
  obtain rfl : o0 = 0 := ok4 (hk (mm_P 4 o0) (by simp))
  obtain ⟨q, hq, hq2⟩ := Option.bind_eq_some_iff.mp g1
  exact ⟨_, _, sp_X4_stuffIs a1 z hk q hq, fun v hv => by cases hv; exact Or.inl ⟨_, rfl⟩, hq2⟩
theorem sV_X4_stuffIs {own : String} {R : Room} {ar : Nat → Nat} {k : Nat} (hlink : Cond.methodLink own k yX4_stuffIs ∈ lw_gd ∨ ∃ host, (own, k, yX4_stuffIs, host) ∈ nmA) (har : ar k = 2) (hr : 1 ≤ R.frames ∧ 21 ≤ R.locals) : mm_okV lyTM lyFA lenM snM 22 22 17 roM rsA nfA nmA [] own R ar k clo_X4_stuffIs := by
  refine ⟨yX4_stuffIs, cX4_stuffIs, 2, some .int, rm_X4_stuffIs, f_X4_stuffIs, 4, 1, (RX4, TX4, 36), M_X4_stuffIs, cs_X4_stuffIs, hlink, ⟨wv_X4_stuffIs, wz_X4_stuffIs, wi_X4_stuffIs, wc_X4_stuffIs⟩, ⟨by decide +kernel, by decide +kernel, by decide +kernel⟩, har, ⟨rfl, rfl, by decide⟩, ?_, ⟨rfl, rfl, hr.1, hr.2⟩⟩
  intro as z K o h
  obtain ⟨t0, o0, r0, rfl, g0⟩ := mm_pr_e h
  obtain ⟨b0, k0⟩ := mm_bif_e g0
  obtain rfl := Nat.eq_of_beq_eq_true b0
  exact ⟨_, _, rfl⟩
-- X4_comes
def lV_X4_comes : List (Nat × (List mm_V → mm_S → (Option mm_V → mm_S → Option mm_R) → Option mm_R)) := []
def mV_X4_comes (k : Nat) (as : List mm_V) (z : mm_S) (kk : Option mm_V → mm_S → Option mm_R) : Option mm_R := match mm_at lV_X4_comes k with
  | some f => f as z kk
  | none => none
def arV_X4_comes (k : Nat) : Nat := (mm_at [] k).getD 0
def lS_X4_comes : List (Nat × (List mm_V → mm_S → (Option mm_V → mm_S → Option mm_R) → Option mm_R)) := [(110, clo_X4_at)]
def mS_X4_comes (k : Nat) (as : List mm_V) (z : mm_S) (kk : Option mm_V → mm_S → Option mm_R) : Option mm_R := match mm_at lS_X4_comes k with
  | some f => f as z kk
  | none => none
def arS_X4_comes (k : Nat) : Nat := (mm_at [(110, 2)] k).getD 0
def ct_X4_comes : List (Nat × List Nat) := [(20, [0, 2, 3, 4]), (32, [0, 3, 4]), (44, [0, 4]), (54, [4])]
def go_X4_comes : Nat → mm_K := mm_go (fun k => mm_at flX4 k) (fun k => mm_at clX4 k) (fun k => mm_at glX4 k) arV_X4_comes arS_X4_comes mV_X4_comes mS_X4_comes lenM roM snM 5 0 tbX4_comes ct_X4_comes
def eX4_comes_0 (n : Nat)  (x1 : Int32) (x2 : Int32) (x3 : Int32) (z : mm_S) : Option mm_R := go_X4_comes n 0 [(0, mm_P 4 0), (1, mm_I x1), (2, mm_I x2), (3, mm_I x3)] [] z
def eX4_comes_20 (n : Nat)  (y2 : Int32) (y3 : Int32) (y4 : Int32) (z : mm_S) : Option mm_R := go_X4_comes n 20 [(0, mm_P 4 0), (2, mm_I y2), (3, mm_I y3), (4, mm_I y4)] [] z
def eX4_comes_32 (n : Nat)  (y3 : Int32) (y4 : Int32) (z : mm_S) : Option mm_R := go_X4_comes n 32 [(0, mm_P 4 0), (3, mm_I y3), (4, mm_I y4)] [] z
def eX4_comes_44 (n : Nat)  (y4 : Int32) (z : mm_S) : Option mm_R := go_X4_comes n 44 [(0, mm_P 4 0), (4, mm_I y4)] [] z
def eX4_comes_54 (n : Nat) (y4 : Int32) (z : mm_S) : Option mm_R := go_X4_comes n 54 [(4, mm_I y4)] [] z
set_option maxRecDepth 100000 in
theorem qX4_comes_0 (n : Nat)  (x1 : Int32) (x2 : Int32) (x3 : Int32) (z : mm_S) : eX4_comes_0 (n + 1) x1 x2 x3 z = (if (pX4_at (z.1 1 1) 0) < 0 ∨ 97 ≤ Int32.toNatClampNeg (pX4_at (z.1 1 1) 0) then none else eX4_comes_20 n x2 x3 (z.1 1 1) ((mm_ui z.1 1 (Int32.toNatClampNeg (pX4_at (z.1 1 1) 0)) x1), z.2)) := rfl
set_option maxRecDepth 100000 in
theorem qX4_comes_20 (n : Nat)  (y2 : Int32) (y3 : Int32) (y4 : Int32) (z : mm_S) : eX4_comes_20 (n + 1) y2 y3 y4 z = (if (pX4_at y4 1) < 0 ∨ 97 ≤ Int32.toNatClampNeg (pX4_at y4 1) then none else eX4_comes_32 n y3 y4 ((mm_ui z.1 1 (Int32.toNatClampNeg (pX4_at y4 1)) y2), z.2)) := rfl
set_option maxRecDepth 100000 in
theorem qX4_comes_32 (n : Nat)  (y3 : Int32) (y4 : Int32) (z : mm_S) : eX4_comes_32 (n + 1) y3 y4 z = (if (pX4_at y4 2) < 0 ∨ 97 ≤ Int32.toNatClampNeg (pX4_at y4 2) then none else eX4_comes_44 n y4 ((mm_ui z.1 1 (Int32.toNatClampNeg (pX4_at y4 2)) y3), z.2)) := rfl
set_option maxRecDepth 100000 in
theorem qX4_comes_44 (n : Nat)  (y4 : Int32) (z : mm_S) : eX4_comes_44 (n + 1) y4 z = (eX4_comes_54 n y4 ((mm_ui z.1 1 1 ((z.1 1 1) + 1)), z.2)) := rfl
set_option maxRecDepth 100000 in
theorem qX4_comes_54 (n : Nat) (y4 : Int32) (z : mm_S) : eX4_comes_54 (n + 1) y4 z = (some (some (mm_I y4), z)) := rfl
def rm_X4_comes : Room := { frames := 1, cells := 0, slots := 0, locals := 21 }
def f_X4_comes (as : List mm_V) (z : mm_S) (o : mm_R) : Prop := (as.map mm_cat).sum ≤ 5 ∧ ∃ n, go_X4_comes n 0 (mm_ar 0 as) [] z = some o
theorem M_X4_comes : mm_M lyTM lyFA lenM snM 22 22 17 roM rsA nfA nmA [] yX4_comes cX4_comes 5 (some .int) rm_X4_comes f_X4_comes :=
  mm_met (rt := 0) (by decide +kernel) ⟨fun h => rfl, fun h => absurd h (by decide), fun h => absurd h (by decide), fun h => absurd h (by decide)⟩ tbX4_comes_ok hsnM okFX4 okLX4 (fun _ h => absurd h List.not_mem_nil) (fun _ _ _ _ => rfl) (fun _ _ _ _ => rfl) (fun _ h => absurd h List.not_mem_nil) (List.forall_mem_cons.mpr ⟨sS_X4_at (Or.inl lk_X4_110) rfl ⟨by decide, by decide⟩, fun _ h => absurd h List.not_mem_nil⟩)
def sX4_comes_54 (y4 : Int32) (z : mm_S) : Option (Int32 × mm_S) := some (y4, z)
theorem kX4_comes_54 (n : Nat) (y4 : Int32) (z : mm_S) : eX4_comes_54 (n + 1) y4 z = (sX4_comes_54 y4 z).map (fun v => (some (mm_I v.1), v.2)) := (qX4_comes_54 (n + 0) y4 z).trans rfl
def sX4_comes_44 (y4 : Int32) (z : mm_S) : Option (Int32 × mm_S) := (sX4_comes_54 y4 ((mm_ui z.1 1 1 ((z.1 1 1) + 1)), z.2))
theorem kX4_comes_44 (n : Nat) (y4 : Int32) (z : mm_S) : eX4_comes_44 (n + 2) y4 z = (sX4_comes_44 y4 z).map (fun v => (some (mm_I v.1), v.2)) := (qX4_comes_44 (n + 1) y4 z).trans (kX4_comes_54 (n + 0) y4 ((mm_ui z.1 1 1 ((z.1 1 1) + 1)), z.2))
def sX4_comes_32 (y3 : Int32) (y4 : Int32) (z : mm_S) : Option (Int32 × mm_S) := if (pX4_at y4 2) < 0 ∨ 97 ≤ Int32.toNatClampNeg (pX4_at y4 2) then none else (sX4_comes_44 y4 ((mm_ui z.1 1 (Int32.toNatClampNeg (pX4_at y4 2)) y3), z.2))
theorem kX4_comes_32 (n : Nat) (y3 : Int32) (y4 : Int32) (z : mm_S) : eX4_comes_32 (n + 3) y3 y4 z = (sX4_comes_32 y3 y4 z).map (fun v => (some (mm_I v.1), v.2)) := (qX4_comes_32 (n + 2) y3 y4 z).trans (mm_if (Option.map (fun v : Int32 × mm_S => (some (mm_I v.1), v.2))) rfl (kX4_comes_44 (n + 0) y4 ((mm_ui z.1 1 (Int32.toNatClampNeg (pX4_at y4 2)) y3), z.2)))
def sX4_comes_20 (y2 : Int32) (y3 : Int32) (y4 : Int32) (z : mm_S) : Option (Int32 × mm_S) := if (pX4_at y4 1) < 0 ∨ 97 ≤ Int32.toNatClampNeg (pX4_at y4 1) then none else (sX4_comes_32 y3 y4 ((mm_ui z.1 1 (Int32.toNatClampNeg (pX4_at y4 1)) y2), z.2))
theorem kX4_comes_20 (n : Nat) (y2 : Int32) (y3 : Int32) (y4 : Int32) (z : mm_S) : eX4_comes_20 (n + 4) y2 y3 y4 z = (sX4_comes_20 y2 y3 y4 z).map (fun v => (some (mm_I v.1), v.2)) := (qX4_comes_20 (n + 3) y2 y3 y4 z).trans (mm_if (Option.map (fun v : Int32 × mm_S => (some (mm_I v.1), v.2))) rfl (kX4_comes_32 (n + 0) y3 y4 ((mm_ui z.1 1 (Int32.toNatClampNeg (pX4_at y4 1)) y2), z.2)))
def sX4_comes (x1 : Int32) (x2 : Int32) (x3 : Int32) (z : mm_S) : Option (Int32 × mm_S) := if (pX4_at (z.1 1 1) 0) < 0 ∨ 97 ≤ Int32.toNatClampNeg (pX4_at (z.1 1 1) 0) then none else (sX4_comes_20 x2 x3 (z.1 1 1) ((mm_ui z.1 1 (Int32.toNatClampNeg (pX4_at (z.1 1 1) 0)) x1), z.2))
theorem kX4_comes_0 (n : Nat) (x1 : Int32) (x2 : Int32) (x3 : Int32) (z : mm_S) : eX4_comes_0 (n + 5) x1 x2 x3 z = (sX4_comes x1 x2 x3 z).map (fun v => (some (mm_I v.1), v.2)) := (qX4_comes_0 (n + 4) x1 x2 x3 z).trans (mm_if (Option.map (fun v : Int32 × mm_S => (some (mm_I v.1), v.2))) rfl (kX4_comes_20 (n + 0) x2 x3 (z.1 1 1) ((mm_ui z.1 1 (Int32.toNatClampNeg (pX4_at (z.1 1 1) 0)) x1), z.2)))
theorem sp_X4_comes (x1 : Int32) (x2 : Int32) (x3 : Int32) (z : mm_S) (hk : ∀ v ∈ [mm_P 4 0, mm_I x1, mm_I x2, mm_I x3], mm_ok 22 lyTM 22 17 v) (q : (Int32 × mm_S)) (hq : sX4_comes x1 x2 x3 z = some q) : f_X4_comes [mm_P 4 0, mm_I x1, mm_I x2, mm_I x3] z (some (mm_I q.1), q.2) := ⟨Nat.le_of_ble_eq_true rfl, 0 + 5, (kX4_comes_0 0 x1 x2 x3 z).trans (by rw [hq]; rfl)⟩
def clo_X4_comes (as : List mm_V) (z : mm_S) (kk : Option mm_V → mm_S → Option mm_R) : Option mm_R := mm_pr as fun t o0 as => bif Nat.beq t 4 then mm_pi as fun a1 as => mm_pi as fun a2 as => mm_pi as fun a3 as => (match as with | [] => (sX4_comes a1 a2 a3 z).bind fun q => kk (some (mm_I q.1)) q.2 | _ => none) else none
theorem cs_X4_comes : mm_cs lyTM 22 22 17 f_X4_comes clo_X4_comes := by
  intro as z K o hk h
  obtain ⟨t0, o0, r0, rfl, g0⟩ := mm_pr_e h
  obtain ⟨b0, k0⟩ := mm_bif_e g0
  obtain rfl := Nat.eq_of_beq_eq_true b0
  obtain ⟨a1, r1, rfl, g1⟩ := mm_pi_e k0
  obtain ⟨a2, r2, rfl, g2⟩ := mm_pi_e g1
  obtain ⟨a3, r3, rfl, g3⟩ := mm_pi_e g2
  rcases r3 with _ | ⟨u, w⟩
  rotate_left
  · cases g3
  obtain rfl : o0 = 0 := ok4 (hk (mm_P 4 o0) (by simp))
  obtain ⟨q, hq, hq2⟩ := Option.bind_eq_some_iff.mp g3
  exact ⟨_, _, sp_X4_comes a1 a2 a3 z hk q hq, fun v hv => by cases hv; exact Or.inl ⟨_, rfl⟩, hq2⟩
theorem sV_X4_comes {own : String} {R : Room} {ar : Nat → Nat} {k : Nat} (hlink : Cond.methodLink own k yX4_comes ∈ lw_gd ∨ ∃ host, (own, k, yX4_comes, host) ∈ nmA) (har : ar k = 4) (hr : 2 ≤ R.frames ∧ 45 ≤ R.locals) : mm_okV lyTM lyFA lenM snM 22 22 17 roM rsA nfA nmA [] own R ar k clo_X4_comes := by
  refine ⟨yX4_comes, cX4_comes, 5, some .int, rm_X4_comes, f_X4_comes, 4, 3, (RX4, TX4, 36), M_X4_comes, cs_X4_comes, hlink, ⟨wv_X4_comes, wz_X4_comes, wi_X4_comes, wc_X4_comes⟩, ⟨by decide +kernel, by decide +kernel, by decide +kernel⟩, har, ⟨rfl, rfl, by decide⟩, ?_, ⟨rfl, rfl, hr.1, hr.2⟩⟩
  intro as z K o h
  obtain ⟨t0, o0, r0, rfl, g0⟩ := mm_pr_e h
  obtain ⟨b0, k0⟩ := mm_bif_e g0
  obtain rfl := Nat.eq_of_beq_eq_true b0
  exact ⟨_, _, rfl⟩
-- X4_stuff
def lV_X4_stuff : List (Nat × (List mm_V → mm_S → (Option mm_V → mm_S → Option mm_R) → Option mm_R)) := [(121, clo_X4_become), (124, clo_X4_finding)]
def mV_X4_stuff (k : Nat) (as : List mm_V) (z : mm_S) (kk : Option mm_V → mm_S → Option mm_R) : Option mm_R := match mm_at lV_X4_stuff k with
  | some f => f as z kk
  | none => none
def arV_X4_stuff (k : Nat) : Nat := (mm_at [(121, 3), (124, 2)] k).getD 0
def lS_X4_stuff : List (Nat × (List mm_V → mm_S → (Option mm_V → mm_S → Option mm_R) → Option mm_R)) := [(114, clo_X4_isCell), (118, clo_X4_isStuff)]
def mS_X4_stuff (k : Nat) (as : List mm_V) (z : mm_S) (kk : Option mm_V → mm_S → Option mm_R) : Option mm_R := match mm_at lS_X4_stuff k with
  | some f => f as z kk
  | none => none
def arS_X4_stuff (k : Nat) : Nat := (mm_at [(114, 1), (118, 1)] k).getD 0
def ct_X4_stuff : List (Nat × List Nat) := [(26, [0])]
def go_X4_stuff : Nat → mm_K := mm_go (fun k => mm_at flX4 k) (fun k => mm_at clX4 k) (fun k => mm_at glX4 k) arV_X4_stuff arS_X4_stuff mV_X4_stuff mS_X4_stuff lenM roM snM 3 0 tbX4_stuff ct_X4_stuff
def eX4_stuff_0 (n : Nat)  (x1 : Int32) (x2 : Int32) (z : mm_S) : Option mm_R := go_X4_stuff n 0 [(0, mm_P 4 0), (1, mm_I x1), (2, mm_I x2)] [] z
def eX4_stuff_26 (n : Nat)  (z : mm_S) : Option mm_R := go_X4_stuff n 26 [(0, mm_P 4 0)] [] z
set_option maxRecDepth 100000 in
theorem qX4_stuff_0 (n : Nat)  (x1 : Int32) (x2 : Int32) (z : mm_S) : eX4_stuff_0 (n + 1) x1 x2 z = (if (pX4_isCell x1) = 0 then eX4_stuff_26 n  z else if (pX4_isStuff x2) = 0 then eX4_stuff_26 n  z else (sX4_become (15 + x1) x2 z).bind fun q1 => some (some (mm_I q1.1), q1.2)) := rfl
set_option maxRecDepth 100000 in
theorem qX4_stuff_26 (n : Nat)  (z : mm_S) : eX4_stuff_26 (n + 1)  z = ((sX4_finding (-1000001) z).bind fun q2 => some (some (mm_I q2.1), q2.2)) := rfl
def rm_X4_stuff : Room := { frames := 2, cells := 0, slots := 0, locals := 42 }
def f_X4_stuff (as : List mm_V) (z : mm_S) (o : mm_R) : Prop := (as.map mm_cat).sum ≤ 3 ∧ ∃ n, go_X4_stuff n 0 (mm_ar 0 as) [] z = some o
theorem M_X4_stuff : mm_M lyTM lyFA lenM snM 22 22 17 roM rsA nfA nmA [] yX4_stuff cX4_stuff 3 (some .int) rm_X4_stuff f_X4_stuff :=
  mm_met (rt := 0) (by decide +kernel) ⟨fun h => rfl, fun h => absurd h (by decide), fun h => absurd h (by decide), fun h => absurd h (by decide)⟩ tbX4_stuff_ok hsnM okFX4 okLX4 (fun _ h => absurd h List.not_mem_nil) (fun _ _ _ _ => rfl) (fun _ _ _ _ => rfl) (List.forall_mem_cons.mpr ⟨sV_X4_become (Or.inl lk_X4_121) rfl ⟨by decide, by decide⟩, List.forall_mem_cons.mpr ⟨sV_X4_finding (Or.inl lk_X4_124) rfl ⟨by decide, by decide⟩, fun _ h => absurd h List.not_mem_nil⟩⟩) (List.forall_mem_cons.mpr ⟨sS_X4_isCell (Or.inl lk_X4_114) rfl ⟨by decide, by decide⟩, List.forall_mem_cons.mpr ⟨sS_X4_isStuff (Or.inl lk_X4_118) rfl ⟨by decide, by decide⟩, fun _ h => absurd h List.not_mem_nil⟩⟩)
def sX4_stuff_26  (z : mm_S) : Option (Int32 × mm_S) := (sX4_finding (-1000001) z).bind fun q2 => some (q2.1, q2.2)
theorem kX4_stuff_26 (n : Nat)  (z : mm_S) : eX4_stuff_26 (n + 1)  z = (sX4_stuff_26  z).map (fun v => (some (mm_I v.1), v.2)) := (qX4_stuff_26 (n + 0)  z).trans (mm_bd (fun q2 => rfl))
def sX4_stuff (x1 : Int32) (x2 : Int32) (z : mm_S) : Option (Int32 × mm_S) := if (pX4_isCell x1) = 0 then (sX4_stuff_26  z) else if (pX4_isStuff x2) = 0 then (sX4_stuff_26  z) else (sX4_become (15 + x1) x2 z).bind fun q1 => some (q1.1, q1.2)
theorem kX4_stuff_0 (n : Nat) (x1 : Int32) (x2 : Int32) (z : mm_S) : eX4_stuff_0 (n + 2) x1 x2 z = (sX4_stuff x1 x2 z).map (fun v => (some (mm_I v.1), v.2)) := (qX4_stuff_0 (n + 1) x1 x2 z).trans (mm_if (Option.map (fun v : Int32 × mm_S => (some (mm_I v.1), v.2))) (kX4_stuff_26 (n + 0)  z) (mm_if (Option.map (fun v : Int32 × mm_S => (some (mm_I v.1), v.2))) (kX4_stuff_26 (n + 0)  z) (mm_bd (fun q1 => rfl))))
theorem sp_X4_stuff (x1 : Int32) (x2 : Int32) (z : mm_S) (hk : ∀ v ∈ [mm_P 4 0, mm_I x1, mm_I x2], mm_ok 22 lyTM 22 17 v) (q : (Int32 × mm_S)) (hq : sX4_stuff x1 x2 z = some q) : f_X4_stuff [mm_P 4 0, mm_I x1, mm_I x2] z (some (mm_I q.1), q.2) := ⟨Nat.le_of_ble_eq_true rfl, 0 + 2, (kX4_stuff_0 0 x1 x2 z).trans (by rw [hq]; rfl)⟩
def clo_X4_stuff (as : List mm_V) (z : mm_S) (kk : Option mm_V → mm_S → Option mm_R) : Option mm_R := mm_pr as fun t o0 as => bif Nat.beq t 4 then mm_pi as fun a1 as => mm_pi as fun a2 as => (match as with | [] => (sX4_stuff a1 a2 z).bind fun q => kk (some (mm_I q.1)) q.2 | _ => none) else none
theorem cs_X4_stuff : mm_cs lyTM 22 22 17 f_X4_stuff clo_X4_stuff := by
  intro as z K o hk h
  obtain ⟨t0, o0, r0, rfl, g0⟩ := mm_pr_e h
  obtain ⟨b0, k0⟩ := mm_bif_e g0
  obtain rfl := Nat.eq_of_beq_eq_true b0
  obtain ⟨a1, r1, rfl, g1⟩ := mm_pi_e k0
  obtain ⟨a2, r2, rfl, g2⟩ := mm_pi_e g1
  rcases r2 with _ | ⟨u, w⟩
  rotate_left
  · cases g2
  obtain rfl : o0 = 0 := ok4 (hk (mm_P 4 o0) (by simp))
  obtain ⟨q, hq, hq2⟩ := Option.bind_eq_some_iff.mp g2
  exact ⟨_, _, sp_X4_stuff a1 a2 z hk q hq, fun v hv => by cases hv; exact Or.inl ⟨_, rfl⟩, hq2⟩
theorem sV_X4_stuff {own : String} {R : Room} {ar : Nat → Nat} {k : Nat} (hlink : Cond.methodLink own k yX4_stuff ∈ lw_gd ∨ ∃ host, (own, k, yX4_stuff, host) ∈ nmA) (har : ar k = 3) (hr : 3 ≤ R.frames ∧ 64 ≤ R.locals) : mm_okV lyTM lyFA lenM snM 22 22 17 roM rsA nfA nmA [] own R ar k clo_X4_stuff := by
  refine ⟨yX4_stuff, cX4_stuff, 3, some .int, rm_X4_stuff, f_X4_stuff, 4, 2, (RX4, TX4, 36), M_X4_stuff, cs_X4_stuff, hlink, ⟨wv_X4_stuff, wz_X4_stuff, wi_X4_stuff, wc_X4_stuff⟩, ⟨by decide +kernel, by decide +kernel, by decide +kernel⟩, har, ⟨rfl, rfl, by decide⟩, ?_, ⟨rfl, rfl, hr.1, hr.2⟩⟩
  intro as z K o h
  obtain ⟨t0, o0, r0, rfl, g0⟩ := mm_pr_e h
  obtain ⟨b0, k0⟩ := mm_bif_e g0
  obtain rfl := Nat.eq_of_beq_eq_true b0
  exact ⟨_, _, rfl⟩
-- X4_crew
def lV_X4_crew : List (Nat × (List mm_V → mm_S → (Option mm_V → mm_S → Option mm_R) → Option mm_R)) := [(124, clo_X4_finding), (132, clo_X4_comes)]
def mV_X4_crew (k : Nat) (as : List mm_V) (z : mm_S) (kk : Option mm_V → mm_S → Option mm_R) : Option mm_R := match mm_at lV_X4_crew k with
  | some f => f as z kk
  | none => none
def arV_X4_crew (k : Nat) : Nat := (mm_at [(124, 2), (132, 4)] k).getD 0
def lS_X4_crew : List (Nat × (List mm_V → mm_S → (Option mm_V → mm_S → Option mm_R) → Option mm_R)) := [(114, clo_X4_isCell), (128, clo_X4_isKind)]
def mS_X4_crew (k : Nat) (as : List mm_V) (z : mm_S) (kk : Option mm_V → mm_S → Option mm_R) : Option mm_R := match mm_at lS_X4_crew k with
  | some f => f as z kk
  | none => none
def arS_X4_crew (k : Nat) : Nat := (mm_at [(114, 1), (128, 1)] k).getD 0
def ct_X4_crew : List (Nat × List Nat) := [(21, [0, 1, 2]), (41, [0, 1, 2])]
def go_X4_crew : Nat → mm_K := mm_go (fun k => mm_at flX4 k) (fun k => mm_at clX4 k) (fun k => mm_at glX4 k) arV_X4_crew arS_X4_crew mV_X4_crew mS_X4_crew lenM roM snM 3 0 tbX4_crew ct_X4_crew
def eX4_crew_0 (n : Nat)  (x1 : Int32) (x2 : Int32) (z : mm_S) : Option mm_R := go_X4_crew n 0 [(0, mm_P 4 0), (1, mm_I x1), (2, mm_I x2)] [] z
def eX4_crew_21 (n : Nat)  (y1 : Int32) (y2 : Int32) (z : mm_S) : Option mm_R := go_X4_crew n 21 [(0, mm_P 4 0), (1, mm_I y1), (2, mm_I y2)] [] z
def eX4_crew_41 (n : Nat)  (y1 : Int32) (y2 : Int32) (z : mm_S) : Option mm_R := go_X4_crew n 41 [(0, mm_P 4 0), (1, mm_I y1), (2, mm_I y2)] [] z
set_option maxRecDepth 100000 in
theorem qX4_crew_0 (n : Nat)  (x1 : Int32) (x2 : Int32) (z : mm_S) : eX4_crew_0 (n + 1) x1 x2 z = (if (pX4_isKind x1) = 0 then (sX4_finding (-1000001) z).bind fun q1 => some (some (mm_I q1.1), q1.2) else if (pX4_isCell x2) = 0 then (sX4_finding (-1000001) z).bind fun q2 => some (some (mm_I q2.1), q2.2) else eX4_crew_21 n x1 x2 z) := rfl
set_option maxRecDepth 100000 in
theorem qX4_crew_21 (n : Nat)  (y1 : Int32) (y2 : Int32) (z : mm_S) : eX4_crew_21 (n + 1) y1 y2 z = (if (z.1 1 1) = 6 then (sX4_finding (-1000002) z).bind fun q3 => some (some (mm_I q3.1), q3.2) else eX4_crew_41 n y1 y2 z) := rfl
set_option maxRecDepth 100000 in
theorem qX4_crew_41 (n : Nat)  (y1 : Int32) (y2 : Int32) (z : mm_S) : eX4_crew_41 (n + 1) y1 y2 z = ((sX4_comes y1 y2 6 z).bind fun q4 => some (some (mm_I q4.1), q4.2)) := rfl
def rm_X4_crew : Room := { frames := 2, cells := 0, slots := 0, locals := 45 }
def f_X4_crew (as : List mm_V) (z : mm_S) (o : mm_R) : Prop := (as.map mm_cat).sum ≤ 3 ∧ ∃ n, go_X4_crew n 0 (mm_ar 0 as) [] z = some o
theorem M_X4_crew : mm_M lyTM lyFA lenM snM 22 22 17 roM rsA nfA nmA [] yX4_crew cX4_crew 3 (some .int) rm_X4_crew f_X4_crew :=
  mm_met (rt := 0) (by decide +kernel) ⟨fun h => rfl, fun h => absurd h (by decide), fun h => absurd h (by decide), fun h => absurd h (by decide)⟩ tbX4_crew_ok hsnM okFX4 okLX4 (fun _ h => absurd h List.not_mem_nil) (fun _ _ _ _ => rfl) (fun _ _ _ _ => rfl) (List.forall_mem_cons.mpr ⟨sV_X4_finding (Or.inl lk_X4_124) rfl ⟨by decide, by decide⟩, List.forall_mem_cons.mpr ⟨sV_X4_comes (Or.inl lk_X4_132) rfl ⟨by decide, by decide⟩, fun _ h => absurd h List.not_mem_nil⟩⟩) (List.forall_mem_cons.mpr ⟨sS_X4_isCell (Or.inl lk_X4_114) rfl ⟨by decide, by decide⟩, List.forall_mem_cons.mpr ⟨sS_X4_isKind (Or.inl lk_X4_128) rfl ⟨by decide, by decide⟩, fun _ h => absurd h List.not_mem_nil⟩⟩)
def sX4_crew_41 (y1 : Int32) (y2 : Int32) (z : mm_S) : Option (Int32 × mm_S) := (sX4_comes y1 y2 6 z).bind fun q4 => some (q4.1, q4.2)
theorem kX4_crew_41 (n : Nat) (y1 : Int32) (y2 : Int32) (z : mm_S) : eX4_crew_41 (n + 1) y1 y2 z = (sX4_crew_41 y1 y2 z).map (fun v => (some (mm_I v.1), v.2)) := (qX4_crew_41 (n + 0) y1 y2 z).trans (mm_bd (fun q4 => rfl))
def sX4_crew_21 (y1 : Int32) (y2 : Int32) (z : mm_S) : Option (Int32 × mm_S) := if (z.1 1 1) = 6 then (sX4_finding (-1000002) z).bind fun q3 => some (q3.1, q3.2) else (sX4_crew_41 y1 y2 z)
theorem kX4_crew_21 (n : Nat) (y1 : Int32) (y2 : Int32) (z : mm_S) : eX4_crew_21 (n + 2) y1 y2 z = (sX4_crew_21 y1 y2 z).map (fun v => (some (mm_I v.1), v.2)) := (qX4_crew_21 (n + 1) y1 y2 z).trans (mm_if (Option.map (fun v : Int32 × mm_S => (some (mm_I v.1), v.2))) (mm_bd (fun q3 => rfl)) (kX4_crew_41 (n + 0) y1 y2 z))
def sX4_crew (x1 : Int32) (x2 : Int32) (z : mm_S) : Option (Int32 × mm_S) := if (pX4_isKind x1) = 0 then (sX4_finding (-1000001) z).bind fun q1 => some (q1.1, q1.2) else if (pX4_isCell x2) = 0 then (sX4_finding (-1000001) z).bind fun q2 => some (q2.1, q2.2) else (sX4_crew_21 x1 x2 z)
theorem kX4_crew_0 (n : Nat) (x1 : Int32) (x2 : Int32) (z : mm_S) : eX4_crew_0 (n + 3) x1 x2 z = (sX4_crew x1 x2 z).map (fun v => (some (mm_I v.1), v.2)) := (qX4_crew_0 (n + 2) x1 x2 z).trans (mm_if (Option.map (fun v : Int32 × mm_S => (some (mm_I v.1), v.2))) (mm_bd (fun q1 => rfl)) (mm_if (Option.map (fun v : Int32 × mm_S => (some (mm_I v.1), v.2))) (mm_bd (fun q2 => rfl)) (kX4_crew_21 (n + 0) x1 x2 z)))
theorem sp_X4_crew (x1 : Int32) (x2 : Int32) (z : mm_S) (hk : ∀ v ∈ [mm_P 4 0, mm_I x1, mm_I x2], mm_ok 22 lyTM 22 17 v) (q : (Int32 × mm_S)) (hq : sX4_crew x1 x2 z = some q) : f_X4_crew [mm_P 4 0, mm_I x1, mm_I x2] z (some (mm_I q.1), q.2) := ⟨Nat.le_of_ble_eq_true rfl, 0 + 3, (kX4_crew_0 0 x1 x2 z).trans (by rw [hq]; rfl)⟩
def clo_X4_crew (as : List mm_V) (z : mm_S) (kk : Option mm_V → mm_S → Option mm_R) : Option mm_R := mm_pr as fun t o0 as => bif Nat.beq t 4 then mm_pi as fun a1 as => mm_pi as fun a2 as => (match as with | [] => (sX4_crew a1 a2 z).bind fun q => kk (some (mm_I q.1)) q.2 | _ => none) else none
theorem cs_X4_crew : mm_cs lyTM 22 22 17 f_X4_crew clo_X4_crew := by
  intro as z K o hk h
  obtain ⟨t0, o0, r0, rfl, g0⟩ := mm_pr_e h
  obtain ⟨b0, k0⟩ := mm_bif_e g0
  obtain rfl := Nat.eq_of_beq_eq_true b0
  obtain ⟨a1, r1, rfl, g1⟩ := mm_pi_e k0
  obtain ⟨a2, r2, rfl, g2⟩ := mm_pi_e g1
  rcases r2 with _ | ⟨u, w⟩
  rotate_left
  · cases g2
  obtain rfl : o0 = 0 := ok4 (hk (mm_P 4 o0) (by simp))
  obtain ⟨q, hq, hq2⟩ := Option.bind_eq_some_iff.mp g2
  exact ⟨_, _, sp_X4_crew a1 a2 z hk q hq, fun v hv => by cases hv; exact Or.inl ⟨_, rfl⟩, hq2⟩
theorem sV_X4_crew {own : String} {R : Room} {ar : Nat → Nat} {k : Nat} (hlink : Cond.methodLink own k yX4_crew ∈ lw_gd ∨ ∃ host, (own, k, yX4_crew, host) ∈ nmA) (har : ar k = 3) (hr : 3 ≤ R.frames ∧ 67 ≤ R.locals) : mm_okV lyTM lyFA lenM snM 22 22 17 roM rsA nfA nmA [] own R ar k clo_X4_crew := by
  refine ⟨yX4_crew, cX4_crew, 3, some .int, rm_X4_crew, f_X4_crew, 4, 2, (RX4, TX4, 36), M_X4_crew, cs_X4_crew, hlink, ⟨wv_X4_crew, wz_X4_crew, wi_X4_crew, wc_X4_crew⟩, ⟨by decide +kernel, by decide +kernel, by decide +kernel⟩, har, ⟨rfl, rfl, by decide⟩, ?_, ⟨rfl, rfl, hr.1, hr.2⟩⟩
  intro as z K o h
  obtain ⟨t0, o0, r0, rfl, g0⟩ := mm_pr_e h
  obtain ⟨b0, k0⟩ := mm_bif_e g0
  obtain rfl := Nat.eq_of_beq_eq_true b0
  exact ⟨_, _, rfl⟩
-- X4_isHole
def lV_X4_isHole : List (Nat × (List mm_V → mm_S → (Option mm_V → mm_S → Option mm_R) → Option mm_R)) := [(158, clo_X4_stuffIs)]
def mV_X4_isHole (k : Nat) (as : List mm_V) (z : mm_S) (kk : Option mm_V → mm_S → Option mm_R) : Option mm_R := match mm_at lV_X4_isHole k with
  | some f => f as z kk
  | none => none
def arV_X4_isHole (k : Nat) : Nat := (mm_at [(158, 2)] k).getD 0
def lS_X4_isHole : List (Nat × (List mm_V → mm_S → (Option mm_V → mm_S → Option mm_R) → Option mm_R)) := []
def mS_X4_isHole (k : Nat) (as : List mm_V) (z : mm_S) (kk : Option mm_V → mm_S → Option mm_R) : Option mm_R := match mm_at lS_X4_isHole k with
  | some f => f as z kk
  | none => none
def arS_X4_isHole (k : Nat) : Nat := (mm_at [] k).getD 0
def ct_X4_isHole : List (Nat × List Nat) := [(9, [])]
def go_X4_isHole : Nat → mm_K := mm_go (fun k => mm_at flX4 k) (fun k => mm_at clX4 k) (fun k => mm_at glX4 k) arV_X4_isHole arS_X4_isHole mV_X4_isHole mS_X4_isHole lenM roM snM 2 1 tbX4_isHole ct_X4_isHole
def eX4_isHole_0 (n : Nat)  (x1 : Int32) (z : mm_S) : Option mm_R := go_X4_isHole n 0 [(0, mm_P 4 0), (1, mm_I x1)] [] z
def eX4_isHole_9 (n : Nat)  (z : mm_S) : Option mm_R := go_X4_isHole n 9 [] [] z
set_option maxRecDepth 100000 in
theorem qX4_isHole_0 (n : Nat)  (x1 : Int32) (z : mm_S) : eX4_isHole_0 (n + 1) x1 z = ((sX4_stuffIs x1 z).bind fun q1 => if q1.1 = 2 then eX4_isHole_9 n  q1.2 else some (some (mm_I 0), q1.2)) := rfl
set_option maxRecDepth 100000 in
theorem qX4_isHole_9 (n : Nat)  (z : mm_S) : eX4_isHole_9 (n + 1)  z = (some (some (mm_I 1), z)) := rfl
def rm_X4_isHole : Room := { frames := 1, cells := 0, slots := 0, locals := 21 }
def f_X4_isHole (as : List mm_V) (z : mm_S) (o : mm_R) : Prop := (as.map mm_cat).sum ≤ 2 ∧ ∃ n, go_X4_isHole n 0 (mm_ar 0 as) [] z = some o
theorem M_X4_isHole : mm_M lyTM lyFA lenM snM 22 22 17 roM rsA nfA nmA [] yX4_isHole cX4_isHole 2 (some .boolean) rm_X4_isHole f_X4_isHole :=
  mm_met (rt := 1) (by decide +kernel) ⟨fun h => absurd h (by decide), fun h => rfl, fun h => absurd h (by decide), fun h => absurd h (by decide)⟩ tbX4_isHole_ok hsnM okFX4 okLX4 (fun _ h => absurd h List.not_mem_nil) (fun _ _ _ _ => rfl) (fun _ _ _ _ => rfl) (List.forall_mem_cons.mpr ⟨sV_X4_stuffIs (Or.inl lk_X4_158) rfl ⟨by decide, by decide⟩, fun _ h => absurd h List.not_mem_nil⟩) (fun _ h => absurd h List.not_mem_nil)
def sX4_isHole_9  (z : mm_S) : Option (Int32 × mm_S) := some (1, z)
theorem kX4_isHole_9 (n : Nat)  (z : mm_S) : eX4_isHole_9 (n + 1)  z = (sX4_isHole_9  z).map (fun v => (some (mm_I v.1), v.2)) := (qX4_isHole_9 (n + 0)  z).trans rfl
def sX4_isHole (x1 : Int32) (z : mm_S) : Option (Int32 × mm_S) := (sX4_stuffIs x1 z).bind fun q1 => if q1.1 = 2 then (sX4_isHole_9  q1.2) else some (0, q1.2)
theorem kX4_isHole_0 (n : Nat) (x1 : Int32) (z : mm_S) : eX4_isHole_0 (n + 2) x1 z = (sX4_isHole x1 z).map (fun v => (some (mm_I v.1), v.2)) := (qX4_isHole_0 (n + 1) x1 z).trans (mm_bd (fun q1 => (mm_if (Option.map (fun v : Int32 × mm_S => (some (mm_I v.1), v.2))) (kX4_isHole_9 (n + 0)  q1.2) rfl)))
theorem sp_X4_isHole (x1 : Int32) (z : mm_S) (hk : ∀ v ∈ [mm_P 4 0, mm_I x1], mm_ok 22 lyTM 22 17 v) (q : (Int32 × mm_S)) (hq : sX4_isHole x1 z = some q) : f_X4_isHole [mm_P 4 0, mm_I x1] z (some (mm_I q.1), q.2) := ⟨Nat.le_of_ble_eq_true rfl, 0 + 2, (kX4_isHole_0 0 x1 z).trans (by rw [hq]; rfl)⟩
def clo_X4_isHole (as : List mm_V) (z : mm_S) (kk : Option mm_V → mm_S → Option mm_R) : Option mm_R := mm_pr as fun t o0 as => bif Nat.beq t 4 then mm_pi as fun a1 as => (match as with | [] => (sX4_isHole a1 z).bind fun q => kk (some (mm_I q.1)) q.2 | _ => none) else none
theorem cs_X4_isHole : mm_cs lyTM 22 22 17 f_X4_isHole clo_X4_isHole := by
  intro as z K o hk h
  obtain ⟨t0, o0, r0, rfl, g0⟩ := mm_pr_e h
  obtain ⟨b0, k0⟩ := mm_bif_e g0
  obtain rfl := Nat.eq_of_beq_eq_true b0
  obtain ⟨a1, r1, rfl, g1⟩ := mm_pi_e k0
  rcases r1 with _ | ⟨u, w⟩
  rotate_left
  · cases g1
  obtain rfl : o0 = 0 := ok4 (hk (mm_P 4 o0) (by simp))
  obtain ⟨q, hq, hq2⟩ := Option.bind_eq_some_iff.mp g1
  exact ⟨_, _, sp_X4_isHole a1 z hk q hq, fun v hv => by cases hv; exact Or.inl ⟨_, rfl⟩, hq2⟩
theorem sV_X4_isHole {own : String} {R : Room} {ar : Nat → Nat} {k : Nat} (hlink : Cond.methodLink own k yX4_isHole ∈ lw_gd ∨ ∃ host, (own, k, yX4_isHole, host) ∈ nmA) (har : ar k = 2) (hr : 2 ≤ R.frames ∧ 42 ≤ R.locals) : mm_okV lyTM lyFA lenM snM 22 22 17 roM rsA nfA nmA [] own R ar k clo_X4_isHole := by
  refine ⟨yX4_isHole, cX4_isHole, 2, some .boolean, rm_X4_isHole, f_X4_isHole, 4, 1, (RX4, TX4, 36), M_X4_isHole, cs_X4_isHole, hlink, ⟨wv_X4_isHole, wz_X4_isHole, wi_X4_isHole, wc_X4_isHole⟩, ⟨by decide +kernel, by decide +kernel, by decide +kernel⟩, har, ⟨rfl, rfl, by decide⟩, ?_, ⟨rfl, rfl, hr.1, hr.2⟩⟩
  intro as z K o h
  obtain ⟨t0, o0, r0, rfl, g0⟩ := mm_pr_e h
  obtain ⟨b0, k0⟩ := mm_bif_e g0
  obtain rfl := Nat.eq_of_beq_eq_true b0
  exact ⟨_, _, rfl⟩
-- X4_carries
def lV_X4_carries : List (Nat × (List mm_V → mm_S → (Option mm_V → mm_S → Option mm_R) → Option mm_R)) := [(139, clo_X4_crewIs)]
def mV_X4_carries (k : Nat) (as : List mm_V) (z : mm_S) (kk : Option mm_V → mm_S → Option mm_R) : Option mm_R := match mm_at lV_X4_carries k with
  | some f => f as z kk
  | none => none
def arV_X4_carries (k : Nat) : Nat := (mm_at [(139, 3)] k).getD 0
def lS_X4_carries : List (Nat × (List mm_V → mm_S → (Option mm_V → mm_S → Option mm_R) → Option mm_R)) := []
def mS_X4_carries (k : Nat) (as : List mm_V) (z : mm_S) (kk : Option mm_V → mm_S → Option mm_R) : Option mm_R := match mm_at lS_X4_carries k with
  | some f => f as z kk
  | none => none
def arS_X4_carries (k : Nat) : Nat := (mm_at [] k).getD 0
def ct_X4_carries : List (Nat × List Nat) := [(7, [0, 1, 2])]
def go_X4_carries : Nat → mm_K := mm_go (fun k => mm_at flX4 k) (fun k => mm_at clX4 k) (fun k => mm_at glX4 k) arV_X4_carries arS_X4_carries mV_X4_carries mS_X4_carries lenM roM snM 3 0 tbX4_carries ct_X4_carries
def eX4_carries_0 (n : Nat)  (x1 : Int32) (z : mm_S) : Option mm_R := go_X4_carries n 0 [(0, mm_P 4 0), (1, mm_I x1)] [] z
def eX4_carries_7 (n : Nat)  (y1 : Int32) (y2 : Int32) (z : mm_S) : Option mm_R := go_X4_carries n 7 [(0, mm_P 4 0), (1, mm_I y1), (2, mm_I y2)] [] z
set_option maxRecDepth 100000 in
theorem qX4_carries_0 (n : Nat)  (x1 : Int32) (z : mm_S) : eX4_carries_0 (n + 1) x1 z = ((sX4_crewIs x1 2 z).bind fun q1 => eX4_carries_7 n x1 q1.1 q1.2) := rfl
set_option maxRecDepth 100000 in
theorem qX4_carries_7 (n : Nat)  (y1 : Int32) (y2 : Int32) (z : mm_S) : eX4_carries_7 (n + 1) y1 y2 z = ((sX4_crewIs y1 0 z).bind fun q2 => if q2.1 = 1 then some (some (mm_I (8 * y2)), q2.2) else if q2.1 = 2 then some (some (mm_I ((8 * y2) + 5)), q2.2) else if q2.1 = 3 then some (some (mm_I ((9 * y2) + 5)), q2.2) else if q2.1 = 4 then some (some (mm_I (2 * y2)), q2.2) else if q2.1 = 5 then some (some (mm_I 0), q2.2) else some (some (mm_I (4 * y2)), q2.2)) := rfl
def rm_X4_carries : Room := { frames := 2, cells := 0, slots := 0, locals := 43 }
def f_X4_carries (as : List mm_V) (z : mm_S) (o : mm_R) : Prop := (as.map mm_cat).sum ≤ 3 ∧ ∃ n, go_X4_carries n 0 (mm_ar 0 as) [] z = some o
theorem M_X4_carries : mm_M lyTM lyFA lenM snM 22 22 17 roM rsA nfA nmA [] yX4_carries cX4_carries 3 (some .int) rm_X4_carries f_X4_carries :=
  mm_met (rt := 0) (by decide +kernel) ⟨fun h => rfl, fun h => absurd h (by decide), fun h => absurd h (by decide), fun h => absurd h (by decide)⟩ tbX4_carries_ok hsnM okFX4 okLX4 (fun _ h => absurd h List.not_mem_nil) (fun _ _ _ _ => rfl) (fun _ _ _ _ => rfl) (List.forall_mem_cons.mpr ⟨sV_X4_crewIs (Or.inl lk_X4_139) rfl ⟨by decide, by decide⟩, fun _ h => absurd h List.not_mem_nil⟩) (fun _ h => absurd h List.not_mem_nil)
def sX4_carries_7 (y1 : Int32) (y2 : Int32) (z : mm_S) : Option (Int32 × mm_S) := (sX4_crewIs y1 0 z).bind fun q2 => if q2.1 = 1 then some ((8 * y2), q2.2) else if q2.1 = 2 then some (((8 * y2) + 5), q2.2) else if q2.1 = 3 then some (((9 * y2) + 5), q2.2) else if q2.1 = 4 then some ((2 * y2), q2.2) else if q2.1 = 5 then some (0, q2.2) else some ((4 * y2), q2.2)
theorem kX4_carries_7 (n : Nat) (y1 : Int32) (y2 : Int32) (z : mm_S) : eX4_carries_7 (n + 1) y1 y2 z = (sX4_carries_7 y1 y2 z).map (fun v => (some (mm_I v.1), v.2)) := (qX4_carries_7 (n + 0) y1 y2 z).trans (mm_bd (fun q2 => (mm_if (Option.map (fun v : Int32 × mm_S => (some (mm_I v.1), v.2))) rfl (mm_if (Option.map (fun v : Int32 × mm_S => (some (mm_I v.1), v.2))) rfl (mm_if (Option.map (fun v : Int32 × mm_S => (some (mm_I v.1), v.2))) rfl (mm_if (Option.map (fun v : Int32 × mm_S => (some (mm_I v.1), v.2))) rfl (mm_if (Option.map (fun v : Int32 × mm_S => (some (mm_I v.1), v.2))) rfl rfl)))))))
def sX4_carries (x1 : Int32) (z : mm_S) : Option (Int32 × mm_S) := (sX4_crewIs x1 2 z).bind fun q1 => (sX4_carries_7 x1 q1.1 q1.2)
theorem kX4_carries_0 (n : Nat) (x1 : Int32) (z : mm_S) : eX4_carries_0 (n + 2) x1 z = (sX4_carries x1 z).map (fun v => (some (mm_I v.1), v.2)) := (qX4_carries_0 (n + 1) x1 z).trans (mm_bd (fun q1 => (kX4_carries_7 (n + 0) x1 q1.1 q1.2)))
theorem sp_X4_carries (x1 : Int32) (z : mm_S) (hk : ∀ v ∈ [mm_P 4 0, mm_I x1], mm_ok 22 lyTM 22 17 v) (q : (Int32 × mm_S)) (hq : sX4_carries x1 z = some q) : f_X4_carries [mm_P 4 0, mm_I x1] z (some (mm_I q.1), q.2) := ⟨Nat.le_of_ble_eq_true rfl, 0 + 2, (kX4_carries_0 0 x1 z).trans (by rw [hq]; rfl)⟩
def clo_X4_carries (as : List mm_V) (z : mm_S) (kk : Option mm_V → mm_S → Option mm_R) : Option mm_R := mm_pr as fun t o0 as => bif Nat.beq t 4 then mm_pi as fun a1 as => (match as with | [] => (sX4_carries a1 z).bind fun q => kk (some (mm_I q.1)) q.2 | _ => none) else none
theorem cs_X4_carries : mm_cs lyTM 22 22 17 f_X4_carries clo_X4_carries := by
  intro as z K o hk h
  obtain ⟨t0, o0, r0, rfl, g0⟩ := mm_pr_e h
  obtain ⟨b0, k0⟩ := mm_bif_e g0
  obtain rfl := Nat.eq_of_beq_eq_true b0
  obtain ⟨a1, r1, rfl, g1⟩ := mm_pi_e k0
  rcases r1 with _ | ⟨u, w⟩
  rotate_left
  · cases g1
  obtain rfl : o0 = 0 := ok4 (hk (mm_P 4 o0) (by simp))
  obtain ⟨q, hq, hq2⟩ := Option.bind_eq_some_iff.mp g1
  exact ⟨_, _, sp_X4_carries a1 z hk q hq, fun v hv => by cases hv; exact Or.inl ⟨_, rfl⟩, hq2⟩
theorem sV_X4_carries {own : String} {R : Room} {ar : Nat → Nat} {k : Nat} (hlink : Cond.methodLink own k yX4_carries ∈ lw_gd ∨ ∃ host, (own, k, yX4_carries, host) ∈ nmA) (har : ar k = 2) (hr : 3 ≤ R.frames ∧ 65 ≤ R.locals) : mm_okV lyTM lyFA lenM snM 22 22 17 roM rsA nfA nmA [] own R ar k clo_X4_carries := by
  refine ⟨yX4_carries, cX4_carries, 3, some .int, rm_X4_carries, f_X4_carries, 4, 1, (RX4, TX4, 36), M_X4_carries, cs_X4_carries, hlink, ⟨wv_X4_carries, wz_X4_carries, wi_X4_carries, wc_X4_carries⟩, ⟨by decide +kernel, by decide +kernel, by decide +kernel⟩, har, ⟨rfl, rfl, by decide⟩, ?_, ⟨rfl, rfl, hr.1, hr.2⟩⟩
  intro as z K o h
  obtain ⟨t0, o0, r0, rfl, g0⟩ := mm_pr_e h
  obtain ⟨b0, k0⟩ := mm_bif_e g0
  obtain rfl := Nat.eq_of_beq_eq_true b0
  exact ⟨_, _, rfl⟩
-- X4_getsUnsure
def lV_X4_getsUnsure : List (Nat × (List mm_V → mm_S → (Option mm_V → mm_S → Option mm_R) → Option mm_R)) := []
def mV_X4_getsUnsure (k : Nat) (as : List mm_V) (z : mm_S) (kk : Option mm_V → mm_S → Option mm_R) : Option mm_R := match mm_at lV_X4_getsUnsure k with
  | some f => f as z kk
  | none => none
def arV_X4_getsUnsure (k : Nat) : Nat := (mm_at [] k).getD 0
def lS_X4_getsUnsure : List (Nat × (List mm_V → mm_S → (Option mm_V → mm_S → Option mm_R) → Option mm_R)) := []
def mS_X4_getsUnsure (k : Nat) (as : List mm_V) (z : mm_S) (kk : Option mm_V → mm_S → Option mm_R) : Option mm_R := match mm_at lS_X4_getsUnsure k with
  | some f => f as z kk
  | none => none
def arS_X4_getsUnsure (k : Nat) : Nat := (mm_at [] k).getD 0
def ct_X4_getsUnsure : List (Nat × List Nat) := [(15, [0]), (25, [0])]
def go_X4_getsUnsure : Nat → mm_K := mm_go (fun k => mm_at flX4 k) (fun k => mm_at clX4 k) (fun k => mm_at glX4 k) arV_X4_getsUnsure arS_X4_getsUnsure mV_X4_getsUnsure mS_X4_getsUnsure lenM roM snM 2 0 tbX4_getsUnsure ct_X4_getsUnsure
def eX4_getsUnsure_0 (n : Nat)  (x1 : Int32) (z : mm_S) : Option mm_R := go_X4_getsUnsure n 0 [(0, mm_P 4 0), (1, mm_I x1)] [] z
def eX4_getsUnsure_15 (n : Nat)  (z : mm_S) : Option mm_R := go_X4_getsUnsure n 15 [(0, mm_P 4 0)] [] z
def eX4_getsUnsure_25 (n : Nat)  (z : mm_S) : Option mm_R := go_X4_getsUnsure n 25 [(0, mm_P 4 0)] [] z
set_option maxRecDepth 100000 in
theorem qX4_getsUnsure_0 (n : Nat)  (x1 : Int32) (z : mm_S) : eX4_getsUnsure_0 (n + 1) x1 z = (if (69 + (z.1 1 3)) < 0 ∨ 97 ≤ Int32.toNatClampNeg (69 + (z.1 1 3)) then none else eX4_getsUnsure_15 n  ((mm_ui z.1 1 (Int32.toNatClampNeg (69 + (z.1 1 3))) x1), z.2)) := rfl
set_option maxRecDepth 100000 in
theorem qX4_getsUnsure_15 (n : Nat)  (z : mm_S) : eX4_getsUnsure_15 (n + 1)  z = (eX4_getsUnsure_25 n  ((mm_ui z.1 1 3 ((z.1 1 3) + 1)), z.2)) := rfl
set_option maxRecDepth 100000 in
theorem qX4_getsUnsure_25 (n : Nat)  (z : mm_S) : eX4_getsUnsure_25 (n + 1)  z = (some (some (mm_I (z.1 1 3)), z)) := rfl
def rm_X4_getsUnsure : Room := { frames := 0, cells := 0, slots := 0, locals := 0 }
def f_X4_getsUnsure (as : List mm_V) (z : mm_S) (o : mm_R) : Prop := (as.map mm_cat).sum ≤ 2 ∧ ∃ n, go_X4_getsUnsure n 0 (mm_ar 0 as) [] z = some o
theorem M_X4_getsUnsure : mm_M lyTM lyFA lenM snM 22 22 17 roM rsA nfA nmA [] yX4_getsUnsure cX4_getsUnsure 2 (some .int) rm_X4_getsUnsure f_X4_getsUnsure :=
  mm_met (rt := 0) (by decide +kernel) ⟨fun h => rfl, fun h => absurd h (by decide), fun h => absurd h (by decide), fun h => absurd h (by decide)⟩ tbX4_getsUnsure_ok hsnM okFX4 okLX4 (fun _ h => absurd h List.not_mem_nil) (fun _ _ _ _ => rfl) (fun _ _ _ _ => rfl) (fun _ h => absurd h List.not_mem_nil) (fun _ h => absurd h List.not_mem_nil)
def sX4_getsUnsure_25  (z : mm_S) : Option (Int32 × mm_S) := some ((z.1 1 3), z)
theorem kX4_getsUnsure_25 (n : Nat)  (z : mm_S) : eX4_getsUnsure_25 (n + 1)  z = (sX4_getsUnsure_25  z).map (fun v => (some (mm_I v.1), v.2)) := (qX4_getsUnsure_25 (n + 0)  z).trans rfl
def sX4_getsUnsure_15  (z : mm_S) : Option (Int32 × mm_S) := (sX4_getsUnsure_25  ((mm_ui z.1 1 3 ((z.1 1 3) + 1)), z.2))
theorem kX4_getsUnsure_15 (n : Nat)  (z : mm_S) : eX4_getsUnsure_15 (n + 2)  z = (sX4_getsUnsure_15  z).map (fun v => (some (mm_I v.1), v.2)) := (qX4_getsUnsure_15 (n + 1)  z).trans (kX4_getsUnsure_25 (n + 0)  ((mm_ui z.1 1 3 ((z.1 1 3) + 1)), z.2))
def sX4_getsUnsure (x1 : Int32) (z : mm_S) : Option (Int32 × mm_S) := if (69 + (z.1 1 3)) < 0 ∨ 97 ≤ Int32.toNatClampNeg (69 + (z.1 1 3)) then none else (sX4_getsUnsure_15  ((mm_ui z.1 1 (Int32.toNatClampNeg (69 + (z.1 1 3))) x1), z.2))
theorem kX4_getsUnsure_0 (n : Nat) (x1 : Int32) (z : mm_S) : eX4_getsUnsure_0 (n + 3) x1 z = (sX4_getsUnsure x1 z).map (fun v => (some (mm_I v.1), v.2)) := (qX4_getsUnsure_0 (n + 2) x1 z).trans (mm_if (Option.map (fun v : Int32 × mm_S => (some (mm_I v.1), v.2))) rfl (kX4_getsUnsure_15 (n + 0)  ((mm_ui z.1 1 (Int32.toNatClampNeg (69 + (z.1 1 3))) x1), z.2)))
theorem sp_X4_getsUnsure (x1 : Int32) (z : mm_S) (hk : ∀ v ∈ [mm_P 4 0, mm_I x1], mm_ok 22 lyTM 22 17 v) (q : (Int32 × mm_S)) (hq : sX4_getsUnsure x1 z = some q) : f_X4_getsUnsure [mm_P 4 0, mm_I x1] z (some (mm_I q.1), q.2) := ⟨Nat.le_of_ble_eq_true rfl, 0 + 3, (kX4_getsUnsure_0 0 x1 z).trans (by rw [hq]; rfl)⟩
def clo_X4_getsUnsure (as : List mm_V) (z : mm_S) (kk : Option mm_V → mm_S → Option mm_R) : Option mm_R := mm_pr as fun t o0 as => bif Nat.beq t 4 then mm_pi as fun a1 as => (match as with | [] => (sX4_getsUnsure a1 z).bind fun q => kk (some (mm_I q.1)) q.2 | _ => none) else none
theorem cs_X4_getsUnsure : mm_cs lyTM 22 22 17 f_X4_getsUnsure clo_X4_getsUnsure := by
  intro as z K o hk h
  obtain ⟨t0, o0, r0, rfl, g0⟩ := mm_pr_e h
  obtain ⟨b0, k0⟩ := mm_bif_e g0
  obtain rfl := Nat.eq_of_beq_eq_true b0
  obtain ⟨a1, r1, rfl, g1⟩ := mm_pi_e k0
  rcases r1 with _ | ⟨u, w⟩
  rotate_left
  · cases g1
  obtain rfl : o0 = 0 := ok4 (hk (mm_P 4 o0) (by simp))
  obtain ⟨q, hq, hq2⟩ := Option.bind_eq_some_iff.mp g1
  exact ⟨_, _, sp_X4_getsUnsure a1 z hk q hq, fun v hv => by cases hv; exact Or.inl ⟨_, rfl⟩, hq2⟩
theorem sV_X4_getsUnsure {own : String} {R : Room} {ar : Nat → Nat} {k : Nat} (hlink : Cond.methodLink own k yX4_getsUnsure ∈ lw_gd ∨ ∃ host, (own, k, yX4_getsUnsure, host) ∈ nmA) (har : ar k = 2) (hr : 1 ≤ R.frames ∧ 21 ≤ R.locals) : mm_okV lyTM lyFA lenM snM 22 22 17 roM rsA nfA nmA [] own R ar k clo_X4_getsUnsure := by
  refine ⟨yX4_getsUnsure, cX4_getsUnsure, 2, some .int, rm_X4_getsUnsure, f_X4_getsUnsure, 4, 1, (RX4, TX4, 36), M_X4_getsUnsure, cs_X4_getsUnsure, hlink, ⟨wv_X4_getsUnsure, wz_X4_getsUnsure, wi_X4_getsUnsure, wc_X4_getsUnsure⟩, ⟨by decide +kernel, by decide +kernel, by decide +kernel⟩, har, ⟨rfl, rfl, by decide⟩, ?_, ⟨rfl, rfl, hr.1, hr.2⟩⟩
  intro as z K o h
  obtain ⟨t0, o0, r0, rfl, g0⟩ := mm_pr_e h
  obtain ⟨b0, k0⟩ := mm_bif_e g0
  obtain rfl := Nat.eq_of_beq_eq_true b0
  exact ⟨_, _, rfl⟩
-- X4_sure
def lV_X4_sure : List (Nat × (List mm_V → mm_S → (Option mm_V → mm_S → Option mm_R) → Option mm_R)) := [(121, clo_X4_become)]
def mV_X4_sure (k : Nat) (as : List mm_V) (z : mm_S) (kk : Option mm_V → mm_S → Option mm_R) : Option mm_R := match mm_at lV_X4_sure k with
  | some f => f as z kk
  | none => none
def arV_X4_sure (k : Nat) : Nat := (mm_at [(121, 3)] k).getD 0
def lS_X4_sure : List (Nat × (List mm_V → mm_S → (Option mm_V → mm_S → Option mm_R) → Option mm_R)) := []
def mS_X4_sure (k : Nat) (as : List mm_V) (z : mm_S) (kk : Option mm_V → mm_S → Option mm_R) : Option mm_R := match mm_at lS_X4_sure k with
  | some f => f as z kk
  | none => none
def arS_X4_sure (k : Nat) : Nat := (mm_at [] k).getD 0
def ct_X4_sure : List (Nat × List Nat) := []
def go_X4_sure : Nat → mm_K := mm_go (fun k => mm_at flX4 k) (fun k => mm_at clX4 k) (fun k => mm_at glX4 k) arV_X4_sure arS_X4_sure mV_X4_sure mS_X4_sure lenM roM snM 1 0 tbX4_sure ct_X4_sure
def eX4_sure_0 (n : Nat)  (z : mm_S) : Option mm_R := go_X4_sure n 0 [(0, mm_P 4 0)] [] z
set_option maxRecDepth 100000 in
theorem qX4_sure_0 (n : Nat)  (z : mm_S) : eX4_sure_0 (n + 1)  z = ((sX4_become 3 0 z).bind fun q1 => some (some (mm_I q1.1), q1.2)) := rfl
def rm_X4_sure : Room := { frames := 1, cells := 0, slots := 0, locals := 23 }
def f_X4_sure (as : List mm_V) (z : mm_S) (o : mm_R) : Prop := (as.map mm_cat).sum ≤ 1 ∧ ∃ n, go_X4_sure n 0 (mm_ar 0 as) [] z = some o
theorem M_X4_sure : mm_M lyTM lyFA lenM snM 22 22 17 roM rsA nfA nmA [] yX4_sure cX4_sure 1 (some .int) rm_X4_sure f_X4_sure :=
  mm_met (rt := 0) (by decide +kernel) ⟨fun h => rfl, fun h => absurd h (by decide), fun h => absurd h (by decide), fun h => absurd h (by decide)⟩ tbX4_sure_ok hsnM okFX4 okLX4 (fun _ h => absurd h List.not_mem_nil) (fun _ _ _ _ => rfl) (fun _ _ _ _ => rfl) (List.forall_mem_cons.mpr ⟨sV_X4_become (Or.inl lk_X4_121) rfl ⟨by decide, by decide⟩, fun _ h => absurd h List.not_mem_nil⟩) (fun _ h => absurd h List.not_mem_nil)
def sX4_sure  (z : mm_S) : Option (Int32 × mm_S) := (sX4_become 3 0 z).bind fun q1 => some (q1.1, q1.2)
theorem kX4_sure_0 (n : Nat)  (z : mm_S) : eX4_sure_0 (n + 1)  z = (sX4_sure  z).map (fun v => (some (mm_I v.1), v.2)) := (qX4_sure_0 (n + 0)  z).trans (mm_bd (fun q1 => rfl))
theorem sp_X4_sure  (z : mm_S) (hk : ∀ v ∈ [mm_P 4 0], mm_ok 22 lyTM 22 17 v) (q : (Int32 × mm_S)) (hq : sX4_sure  z = some q) : f_X4_sure [mm_P 4 0] z (some (mm_I q.1), q.2) := ⟨Nat.le_of_ble_eq_true rfl, 0 + 1, (kX4_sure_0 0  z).trans (by rw [hq]; rfl)⟩
def clo_X4_sure (as : List mm_V) (z : mm_S) (kk : Option mm_V → mm_S → Option mm_R) : Option mm_R := mm_pr as fun t o0 as => bif Nat.beq t 4 then (match as with | [] => (sX4_sure z).bind fun q => kk (some (mm_I q.1)) q.2 | _ => none) else none
theorem cs_X4_sure : mm_cs lyTM 22 22 17 f_X4_sure clo_X4_sure := by
  intro as z K o hk h
  obtain ⟨t0, o0, r0, rfl, g0⟩ := mm_pr_e h
  obtain ⟨b0, k0⟩ := mm_bif_e g0
  obtain rfl := Nat.eq_of_beq_eq_true b0
  rcases r0 with _ | ⟨u, w⟩
  rotate_left
  · cases k0
  obtain rfl : o0 = 0 := ok4 (hk (mm_P 4 o0) (by simp))
  obtain ⟨q, hq, hq2⟩ := Option.bind_eq_some_iff.mp k0
  exact ⟨_, _, sp_X4_sure  z hk q hq, fun v hv => by cases hv; exact Or.inl ⟨_, rfl⟩, hq2⟩
theorem sV_X4_sure {own : String} {R : Room} {ar : Nat → Nat} {k : Nat} (hlink : Cond.methodLink own k yX4_sure ∈ lw_gd ∨ ∃ host, (own, k, yX4_sure, host) ∈ nmA) (har : ar k = 1) (hr : 2 ≤ R.frames ∧ 43 ≤ R.locals) : mm_okV lyTM lyFA lenM snM 22 22 17 roM rsA nfA nmA [] own R ar k clo_X4_sure := by
  refine ⟨yX4_sure, cX4_sure, 1, some .int, rm_X4_sure, f_X4_sure, 4, 0, (RX4, TX4, 36), M_X4_sure, cs_X4_sure, hlink, ⟨wv_X4_sure, wz_X4_sure, wi_X4_sure, wc_X4_sure⟩, ⟨by decide +kernel, by decide +kernel, by decide +kernel⟩, har, ⟨rfl, rfl, by decide⟩, ?_, ⟨rfl, rfl, hr.1, hr.2⟩⟩
  intro as z K o h
  obtain ⟨t0, o0, r0, rfl, g0⟩ := mm_pr_e h
  obtain ⟨b0, k0⟩ := mm_bif_e g0
  obtain rfl := Nat.eq_of_beq_eq_true b0
  exact ⟨_, _, rfl⟩
-- X4_told
def lV_X4_told : List (Nat × (List mm_V → mm_S → (Option mm_V → mm_S → Option mm_R) → Option mm_R)) := [(124, clo_X4_finding)]
def mV_X4_told (k : Nat) (as : List mm_V) (z : mm_S) (kk : Option mm_V → mm_S → Option mm_R) : Option mm_R := match mm_at lV_X4_told k with
  | some f => f as z kk
  | none => none
def arV_X4_told (k : Nat) : Nat := (mm_at [(124, 2)] k).getD 0
def lS_X4_told : List (Nat × (List mm_V → mm_S → (Option mm_V → mm_S → Option mm_R) → Option mm_R)) := []
def mS_X4_told (k : Nat) (as : List mm_V) (z : mm_S) (kk : Option mm_V → mm_S → Option mm_R) : Option mm_R := match mm_at lS_X4_told k with
  | some f => f as z kk
  | none => none
def arS_X4_told (k : Nat) : Nat := (mm_at [] k).getD 0
def ct_X4_told : List (Nat × List Nat) := [(20, [1])]
def go_X4_told : Nat → mm_K := mm_go (fun k => mm_at flX4 k) (fun k => mm_at clX4 k) (fun k => mm_at glX4 k) arV_X4_told arS_X4_told mV_X4_told mS_X4_told lenM roM snM 2 0 tbX4_told ct_X4_told
def eX4_told_0 (n : Nat)  (x1 : Int32) (z : mm_S) : Option mm_R := go_X4_told n 0 [(0, mm_P 4 0), (1, mm_I x1)] [] z
def eX4_told_20 (n : Nat) (y1 : Int32) (z : mm_S) : Option mm_R := go_X4_told n 20 [(1, mm_I y1)] [] z
set_option maxRecDepth 100000 in
theorem qX4_told_0 (n : Nat)  (x1 : Int32) (z : mm_S) : eX4_told_0 (n + 1) x1 z = (if x1 < 0 then (sX4_finding (-1000004) z).bind fun q1 => some (some (mm_I q1.1), q1.2) else if x1 < 10000 then eX4_told_20 n x1 z else (sX4_finding (-1000004) z).bind fun q2 => some (some (mm_I q2.1), q2.2)) := rfl
set_option maxRecDepth 100000 in
theorem qX4_told_20 (n : Nat) (y1 : Int32) (z : mm_S) : eX4_told_20 (n + 1) y1 z = (some (some (mm_I y1), z)) := rfl
def rm_X4_told : Room := { frames := 1, cells := 0, slots := 0, locals := 21 }
def f_X4_told (as : List mm_V) (z : mm_S) (o : mm_R) : Prop := (as.map mm_cat).sum ≤ 2 ∧ ∃ n, go_X4_told n 0 (mm_ar 0 as) [] z = some o
theorem M_X4_told : mm_M lyTM lyFA lenM snM 22 22 17 roM rsA nfA nmA [] yX4_told cX4_told 2 (some .int) rm_X4_told f_X4_told :=
  mm_met (rt := 0) (by decide +kernel) ⟨fun h => rfl, fun h => absurd h (by decide), fun h => absurd h (by decide), fun h => absurd h (by decide)⟩ tbX4_told_ok hsnM okFX4 okLX4 (fun _ h => absurd h List.not_mem_nil) (fun _ _ _ _ => rfl) (fun _ _ _ _ => rfl) (List.forall_mem_cons.mpr ⟨sV_X4_finding (Or.inl lk_X4_124) rfl ⟨by decide, by decide⟩, fun _ h => absurd h List.not_mem_nil⟩) (fun _ h => absurd h List.not_mem_nil)
def sX4_told_20 (y1 : Int32) (z : mm_S) : Option (Int32 × mm_S) := some (y1, z)
theorem kX4_told_20 (n : Nat) (y1 : Int32) (z : mm_S) : eX4_told_20 (n + 1) y1 z = (sX4_told_20 y1 z).map (fun v => (some (mm_I v.1), v.2)) := (qX4_told_20 (n + 0) y1 z).trans rfl
def sX4_told (x1 : Int32) (z : mm_S) : Option (Int32 × mm_S) := if x1 < 0 then (sX4_finding (-1000004) z).bind fun q1 => some (q1.1, q1.2) else if x1 < 10000 then (sX4_told_20 x1 z) else (sX4_finding (-1000004) z).bind fun q2 => some (q2.1, q2.2)
theorem kX4_told_0 (n : Nat) (x1 : Int32) (z : mm_S) : eX4_told_0 (n + 2) x1 z = (sX4_told x1 z).map (fun v => (some (mm_I v.1), v.2)) := (qX4_told_0 (n + 1) x1 z).trans (mm_if (Option.map (fun v : Int32 × mm_S => (some (mm_I v.1), v.2))) (mm_bd (fun q1 => rfl)) (mm_if (Option.map (fun v : Int32 × mm_S => (some (mm_I v.1), v.2))) (kX4_told_20 (n + 0) x1 z) (mm_bd (fun q2 => rfl))))
theorem sp_X4_told (x1 : Int32) (z : mm_S) (hk : ∀ v ∈ [mm_P 4 0, mm_I x1], mm_ok 22 lyTM 22 17 v) (q : (Int32 × mm_S)) (hq : sX4_told x1 z = some q) : f_X4_told [mm_P 4 0, mm_I x1] z (some (mm_I q.1), q.2) := ⟨Nat.le_of_ble_eq_true rfl, 0 + 2, (kX4_told_0 0 x1 z).trans (by rw [hq]; rfl)⟩
def clo_X4_told (as : List mm_V) (z : mm_S) (kk : Option mm_V → mm_S → Option mm_R) : Option mm_R := mm_pr as fun t o0 as => bif Nat.beq t 4 then mm_pi as fun a1 as => (match as with | [] => (sX4_told a1 z).bind fun q => kk (some (mm_I q.1)) q.2 | _ => none) else none
theorem cs_X4_told : mm_cs lyTM 22 22 17 f_X4_told clo_X4_told := by
  intro as z K o hk h
  obtain ⟨t0, o0, r0, rfl, g0⟩ := mm_pr_e h
  obtain ⟨b0, k0⟩ := mm_bif_e g0
  obtain rfl := Nat.eq_of_beq_eq_true b0
  obtain ⟨a1, r1, rfl, g1⟩ := mm_pi_e k0
  rcases r1 with _ | ⟨u, w⟩
  rotate_left
  · cases g1
  obtain rfl : o0 = 0 := ok4 (hk (mm_P 4 o0) (by simp))
  obtain ⟨q, hq, hq2⟩ := Option.bind_eq_some_iff.mp g1
  exact ⟨_, _, sp_X4_told a1 z hk q hq, fun v hv => by cases hv; exact Or.inl ⟨_, rfl⟩, hq2⟩
theorem sV_X4_told {own : String} {R : Room} {ar : Nat → Nat} {k : Nat} (hlink : Cond.methodLink own k yX4_told ∈ lw_gd ∨ ∃ host, (own, k, yX4_told, host) ∈ nmA) (har : ar k = 2) (hr : 2 ≤ R.frames ∧ 42 ≤ R.locals) : mm_okV lyTM lyFA lenM snM 22 22 17 roM rsA nfA nmA [] own R ar k clo_X4_told := by
  refine ⟨yX4_told, cX4_told, 2, some .int, rm_X4_told, f_X4_told, 4, 1, (RX4, TX4, 36), M_X4_told, cs_X4_told, hlink, ⟨wv_X4_told, wz_X4_told, wi_X4_told, wc_X4_told⟩, ⟨by decide +kernel, by decide +kernel, by decide +kernel⟩, har, ⟨rfl, rfl, by decide⟩, ?_, ⟨rfl, rfl, hr.1, hr.2⟩⟩
  intro as z K o h
  obtain ⟨t0, o0, r0, rfl, g0⟩ := mm_pr_e h
  obtain ⟨b0, k0⟩ := mm_bif_e g0
  obtain rfl := Nat.eq_of_beq_eq_true b0
  exact ⟨_, _, rfl⟩
