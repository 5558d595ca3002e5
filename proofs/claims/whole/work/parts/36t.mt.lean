-- X4_isWord
noncomputable def lV_X4_isWord : List (Nat × (List mm_V → mm_S → (Option mm_V → mm_S → Option mm_R) → Option mm_R)) := [(323, clo_J0_length_8abf5), (326, clo_J0_charAt_5068e)]
noncomputable def mV_X4_isWord (k : Nat) (as : List mm_V) (z : mm_S) (kk : Option mm_V → mm_S → Option mm_R) : Option mm_R := match mm_at lV_X4_isWord k with
  | some f => f as z kk
  | none => none
noncomputable def arV_X4_isWord (k : Nat) : Nat := (mm_at [(323, 1), (326, 2)] k).getD 0
noncomputable def lS_X4_isWord : List (Nat × (List mm_V → mm_S → (Option mm_V → mm_S → Option mm_R) → Option mm_R)) := []
noncomputable def mS_X4_isWord (k : Nat) (as : List mm_V) (z : mm_S) (kk : Option mm_V → mm_S → Option mm_R) : Option mm_R := match mm_at lS_X4_isWord k with
  | some f => f as z kk
  | none => none
noncomputable def arS_X4_isWord (k : Nat) : Nat := (mm_at [] k).getD 0
def ct_X4_isWord : List (Nat × List Nat) := [(32, [0, 1, 2, 3]), (63, [0, 1, 3])]
noncomputable def go_X4_isWord : Nat → mm_K := mm_go (fun k => mm_at flX4 k) (fun k => mm_at clX4 k) (fun k => mm_at glX4 k) arV_X4_isWord arS_X4_isWord mV_X4_isWord mS_X4_isWord lenM roM snM 4 1 tbX4_isWord ct_X4_isWord
noncomputable def eX4_isWord_0 (n : Nat)  (x1 : Nat) (z : mm_S) : Option mm_R := go_X4_isWord n 0 [(0, mm_P 4 0), (1, mm_P 20 x1)] [] z
noncomputable def eX4_isWord_32 (n : Nat)  (y1 : Nat) (y2 : Int32) (y3 : Int32) (z : mm_S) : Option mm_R := go_X4_isWord n 32 [(0, mm_P 4 0), (1, mm_P 20 y1), (2, mm_I y2), (3, mm_I y3)] [] z
noncomputable def eX4_isWord_63 (n : Nat)  (y1 : Nat) (y3 : Int32) (z : mm_S) : Option mm_R := go_X4_isWord n 63 [(0, mm_P 4 0), (1, mm_P 20 y1), (3, mm_I y3)] [] z
set_option maxRecDepth 100000 in
theorem qX4_isWord_0 (n : Nat)  (x1 : Nat) (z : mm_S) : eX4_isWord_0 (n + 1) x1 z = (if (z.1 0 21) = 1 then if ((z.1 0 20) - (z.1 0 19)) = (tx_len x1) then eX4_isWord_32 n x1 1 0 z else eX4_isWord_32 n x1 0 0 z else eX4_isWord_32 n x1 0 0 z) := rfl
set_option maxRecDepth 100000 in
theorem qX4_isWord_32 (n : Nat)  (y1 : Nat) (y2 : Int32) (y3 : Int32) (z : mm_S) : eX4_isWord_32 (n + 1) y1 y2 y3 z = (if (tx_len y1) ≤ y3 then mm_rt 1 y2 z else if y2 = 0 then mm_rt 1 y2 z else if ((z.1 0 19) + y3) < 0 ∨ 120 ≤ Int32.toNatClampNeg ((z.1 0 19) + y3) then none else (tx_at y1 y3 z).bind fun q1 => if (z.1 13 (Int32.toNatClampNeg ((z.1 0 19) + y3))) = q1.1 then eX4_isWord_63 n y1 y3 q1.2 else eX4_isWord_32 n y1 0 (y3 + 1) q1.2) := rfl
set_option maxRecDepth 100000 in
theorem qX4_isWord_63 (n : Nat)  (y1 : Nat) (y3 : Int32) (z : mm_S) : eX4_isWord_63 (n + 1) y1 y3 z = (eX4_isWord_32 n y1 1 (y3 + 1) z) := rfl
def rm_X4_isWord : Room := { frames := 4, cells := 0, slots := 0, locals := 85 }
noncomputable def f_X4_isWord (as : List mm_V) (z : mm_S) (o : mm_R) : Prop := (as.map mm_cat).sum ≤ 4 ∧ ∃ n, go_X4_isWord n 0 (mm_ar 0 as) [] z = some o
theorem M_X4_isWord : mm_M lyTM lyFA lenM snM 22 22 17 roM rsA nfA nmA [] yX4_isWord cX4_isWord 4 (some .boolean) rm_X4_isWord f_X4_isWord :=
  mm_mett (rt := 1) (by decide +kernel) ⟨fun h => absurd h (by decide), fun h => rfl, fun h => absurd h (by decide), fun h => absurd h (by decide)⟩ tbX4_isWord_ok hsnM okFX4 okLX4 (fun _ h => absurd h List.not_mem_nil) (fun _ _ _ _ => rfl) (fun _ _ _ _ => rfl) (List.forall_mem_cons.mpr ⟨Or.inr (sT_J0_length_8abf5 lk_X4_323 rfl ⟨by decide, by decide⟩), List.forall_mem_cons.mpr ⟨Or.inr (sT_J0_charAt_5068e lk_X4_326 rfl ⟨by decide, by decide⟩), fun _ h => absurd h List.not_mem_nil⟩⟩) (fun _ h => absurd h List.not_mem_nil)
noncomputable def sX4_isWord_63 (y1 : Nat) (y3 : Int32) (z : mm_S) : Option ((Nat × Int32 × Int32 × mm_S) ⊕ (Int32 × mm_S)) := some (.inl (y1, 1, (y3 + 1), z))
theorem kX4_isWord_63 (y1 : Nat) (y3 : Int32) (z : mm_S) (oo : mm_R) : mm_Xs (sX4_isWord_63 y1 y3 z) (mm_mt (fun x : Nat × Int32 × Int32 × mm_S => ∃ n, eX4_isWord_32 n x.1 x.2.1 x.2.2.1 x.2.2.2 = some oo) (fun v => (fun v : Int32 × mm_S => ((some (mm_I v.1), v.2) : mm_R)) v = oo)) (fun n => eX4_isWord_63 n y1 y3 z) oo :=
  xs_row (fun n => qX4_isWord_63 n y1 y3 z) (xs_v fun hc => hc)
noncomputable def lX4_isWord_32 (s : Nat × Int32 × Int32 × mm_S) : Option ((Nat × Int32 × Int32 × mm_S) ⊕ (Int32 × mm_S)) := if (tx_len s.1) ≤ s.2.2.1 then if s.2.1 = 0 then some (.inr (0, s.2.2.2)) else if s.2.1 = 1 then some (.inr (1, s.2.2.2)) else none else if s.2.1 = 0 then if s.2.1 = 0 then some (.inr (0, s.2.2.2)) else if s.2.1 = 1 then some (.inr (1, s.2.2.2)) else none else if ((s.2.2.2.1 0 19) + s.2.2.1) < 0 ∨ 120 ≤ Int32.toNatClampNeg ((s.2.2.2.1 0 19) + s.2.2.1) then none else (tx_at s.1 s.2.2.1 s.2.2.2).bind fun q1 => if (s.2.2.2.1 13 (Int32.toNatClampNeg ((s.2.2.2.1 0 19) + s.2.2.1))) = q1.1 then (sX4_isWord_63 s.1 s.2.2.1 q1.2) else some (.inl (s.1, 0, (s.2.2.1 + 1), q1.2))
noncomputable def sX4_isWord_32 (y1 : Nat) (y2 : Int32) (y3 : Int32) (z : mm_S) : Option (Int32 × mm_S) := mm_wh (lX4_isWord_32 ) mm_fu (y1, y2, y3, z)
theorem kX4_isWord_32 (y1 : Nat) (y2 : Int32) (y3 : Int32) (z : mm_S) (oo : mm_R) : mm_Xs (sX4_isWord_32 y1 y2 y3 z) (fun v => (fun v : Int32 × mm_S => ((some (mm_I v.1), v.2) : mm_R)) v = oo) (fun n => eX4_isWord_32 n y1 y2 y3 z) oo :=
  xs_wh (stp := lX4_isWord_32 ) (o := oo) (E := (fun (s : Nat × Int32 × Int32 × mm_S) n => eX4_isWord_32 n s.1 s.2.1 s.2.2.1 s.2.2.2)) (C := (fun v => (fun v : Int32 × mm_S => ((some (mm_I v.1), v.2) : mm_R)) v = oo)) (fun s => xs_row (fun n => qX4_isWord_32 n s.1 s.2.1 s.2.2.1 s.2.2.2) (xs_if (xs_if (X := fun _ => some (some (mm_I 0), s.2.2.2)) (Y := fun _ => if s.2.1 = 1 then some (some (mm_I 1), s.2.2.2) else none) (xs_v fun hc => ⟨0, congrArg some hc⟩) (xs_if (X := fun _ => some (some (mm_I 1), s.2.2.2)) (Y := fun _ => none) (xs_v fun hc => ⟨0, congrArg some hc⟩) xs_n)) (xs_if (xs_if (X := fun _ => some (some (mm_I 0), s.2.2.2)) (Y := fun _ => if s.2.1 = 1 then some (some (mm_I 1), s.2.2.2) else none) (xs_v fun hc => ⟨0, congrArg some hc⟩) (xs_if (X := fun _ => some (some (mm_I 1), s.2.2.2)) (Y := fun _ => none) (xs_v fun hc => ⟨0, congrArg some hc⟩) xs_n)) (xs_if xs_n (xs_bd fun q1 => (xs_if (kX4_isWord_63 s.1 s.2.2.1 q1.2 oo) (xs_v fun hc => hc))))))) mm_fu (y1, y2, y3, z)
noncomputable def sX4_isWord_0 (x1 : Nat) (z : mm_S) : Option (Int32 × mm_S) := if (z.1 0 21) = 1 then if ((z.1 0 20) - (z.1 0 19)) = (tx_len x1) then (sX4_isWord_32 x1 1 0 z) else (sX4_isWord_32 x1 0 0 z) else (sX4_isWord_32 x1 0 0 z)
theorem kX4_isWord_0 (x1 : Nat) (z : mm_S) (oo : mm_R) : mm_Xs (sX4_isWord_0 x1 z) (fun v => (fun v : Int32 × mm_S => ((some (mm_I v.1), v.2) : mm_R)) v = oo) (fun n => eX4_isWord_0 n x1 z) oo :=
  xs_row (fun n => qX4_isWord_0 n x1 z) (xs_if (xs_if (kX4_isWord_32 x1 1 0 z oo) (kX4_isWord_32 x1 0 0 z oo)) (kX4_isWord_32 x1 0 0 z oo))
noncomputable def sX4_isWord (x1 : Nat) (z : mm_S) : Option (Int32 × mm_S) := sX4_isWord_0 x1 z
theorem sp_X4_isWord (x1 : Nat) (z : mm_S) (hk : ∀ v ∈ [mm_P 4 0, mm_P 20 x1], mm_ok 22 lyTM 22 17 v) (q : Int32 × mm_S) (hq : sX4_isWord x1 z = some q) : f_X4_isWord [mm_P 4 0, mm_P 20 x1] z (some (mm_I q.1), q.2) := ⟨Nat.le_of_ble_eq_true rfl, kX4_isWord_0 x1 z _ q hq rfl⟩
noncomputable def clo_X4_isWord (as : List mm_V) (z : mm_S) (kk : Option mm_V → mm_S → Option mm_R) : Option mm_R := mm_pr as fun t o0 as => bif Nat.beq t 4 then mm_pr as fun t o1 as => bif Nat.beq t 20 then (match as with | [] => (sX4_isWord o1 z).bind fun q => kk (some (mm_I q.1)) q.2 | _ => none) else none else none
theorem cs_X4_isWord : mm_cs lyTM 22 22 17 f_X4_isWord clo_X4_isWord := by
  intro as z K o hk h
  obtain ⟨t0, o0, r0, rfl, g0⟩ := mm_pr_e h
  obtain ⟨b0, k0⟩ := mm_bif_e g0
  obtain rfl := Nat.eq_of_beq_eq_true b0
  obtain ⟨t1, o1, r1, rfl, g1⟩ := mm_pr_e k0
  obtain ⟨b1, k1⟩ := mm_bif_e g1
  obtain rfl := Nat.eq_of_beq_eq_true b1
  rcases r1 with _ | ⟨u, w⟩
  rotate_left
  · cases k1
  obtain rfl : o0 = 0 := ok4 (hk (mm_P 4 o0) (by simp))
  obtain ⟨q, hq, hq2⟩ := Option.bind_eq_some_iff.mp k1
  exact ⟨_, _, sp_X4_isWord o1 z hk q hq, fun v hv => by cases hv; exact Or.inl ⟨_, rfl⟩, hq2⟩
theorem sV_X4_isWord {own : String} {R : Room} {ar : Nat → Nat} {k : Nat} (hlink : Cond.methodLink own k yX4_isWord ∈ lw_gd ∨ ∃ host, (own, k, yX4_isWord, host) ∈ nmA) (har : ar k = 2) (hr : 5 ≤ R.frames ∧ 108 ≤ R.locals) : mm_okV lyTM lyFA lenM snM 22 22 17 roM rsA nfA nmA [] own R ar k clo_X4_isWord := by
  refine ⟨yX4_isWord, cX4_isWord, 4, some .boolean, rm_X4_isWord, f_X4_isWord, 4, 1, (RX4, TX4, 36), M_X4_isWord, cs_X4_isWord, hlink, ⟨wv_X4_isWord, wz_X4_isWord, wi_X4_isWord, wc_X4_isWord⟩, ⟨by decide +kernel, by decide +kernel, by decide +kernel⟩, har, ⟨rfl, rfl, by decide⟩, ?_, ⟨rfl, rfl, hr.1, hr.2⟩⟩
  intro as z K o h
  obtain ⟨t0, o0, r0, rfl, g0⟩ := mm_pr_e h
  obtain ⟨b0, k0⟩ := mm_bif_e g0
  obtain rfl := Nat.eq_of_beq_eq_true b0
  exact ⟨_, _, rfl⟩
-- X4_oneOf
noncomputable def lV_X4_oneOf : List (Nat × (List mm_V → mm_S → (Option mm_V → mm_S → Option mm_R) → Option mm_R)) := [(344, clo_X4_isWord)]
noncomputable def mV_X4_oneOf (k : Nat) (as : List mm_V) (z : mm_S) (kk : Option mm_V → mm_S → Option mm_R) : Option mm_R := match mm_at lV_X4_oneOf k with
  | some f => f as z kk
  | none => none
noncomputable def arV_X4_oneOf (k : Nat) : Nat := (mm_at [(344, 2)] k).getD 0
noncomputable def lS_X4_oneOf : List (Nat × (List mm_V → mm_S → (Option mm_V → mm_S → Option mm_R) → Option mm_R)) := []
noncomputable def mS_X4_oneOf (k : Nat) (as : List mm_V) (z : mm_S) (kk : Option mm_V → mm_S → Option mm_R) : Option mm_R := match mm_at lS_X4_oneOf k with
  | some f => f as z kk
  | none => none
noncomputable def arS_X4_oneOf (k : Nat) : Nat := (mm_at [] k).getD 0
def ct_X4_oneOf : List (Nat × List Nat) := [(4, [0, 1, 2, 3]), (20, [0, 1, 3])]
noncomputable def go_X4_oneOf : Nat → mm_K := mm_go (fun k => mm_at flX4 k) (fun k => mm_at clX4 k) (fun k => mm_at glX4 k) arV_X4_oneOf arS_X4_oneOf mV_X4_oneOf mS_X4_oneOf lenM roM snM 4 0 tbX4_oneOf ct_X4_oneOf
noncomputable def eX4_oneOf_0 (n : Nat)  (x1 : Nat) (z : mm_S) : Option mm_R := go_X4_oneOf n 0 [(0, mm_P 4 0), (1, mm_P 13 x1)] [] z
noncomputable def eX4_oneOf_4 (n : Nat)  (y1 : Nat) (y2 : Int32) (y3 : Int32) (z : mm_S) : Option mm_R := go_X4_oneOf n 4 [(0, mm_P 4 0), (1, mm_P 13 y1), (2, mm_I y2), (3, mm_I y3)] [] z
noncomputable def eX4_oneOf_20 (n : Nat)  (y1 : Nat) (y3 : Int32) (z : mm_S) : Option mm_R := go_X4_oneOf n 20 [(0, mm_P 4 0), (1, mm_P 13 y1), (3, mm_I y3)] [] z
set_option maxRecDepth 100000 in
theorem qX4_oneOf_0 (n : Nat)  (x1 : Nat) (z : mm_S) : eX4_oneOf_0 (n + 1) x1 z = (eX4_oneOf_4 n x1 (-1) 0 z) := rfl
set_option maxRecDepth 100000 in
theorem qX4_oneOf_4 (n : Nat)  (y1 : Nat) (y2 : Int32) (y3 : Int32) (z : mm_S) : eX4_oneOf_4 (n + 1) y1 y2 y3 z = (if (Int32.ofNat (lenM y1)) ≤ y3 then some (some (mm_I y2), z) else if y3 < 0 ∨ lenM y1 ≤ Int32.toNatClampNeg y3 then none else (sX4_isWord (snM y1 (Int32.toNatClampNeg y3)) z).bind fun q1 => if q1.1 = 0 then eX4_oneOf_4 n y1 y2 (y3 + 1) q1.2 else eX4_oneOf_20 n y1 y3 q1.2) := rfl
set_option maxRecDepth 100000 in
theorem qX4_oneOf_20 (n : Nat)  (y1 : Nat) (y3 : Int32) (z : mm_S) : eX4_oneOf_20 (n + 1) y1 y3 z = (eX4_oneOf_4 n y1 y3 (y3 + 1) z) := rfl
def rm_X4_oneOf : Room := { frames := 5, cells := 0, slots := 0, locals := 108 }
noncomputable def f_X4_oneOf (as : List mm_V) (z : mm_S) (o : mm_R) : Prop := (as.map mm_cat).sum ≤ 4 ∧ ∃ n, go_X4_oneOf n 0 (mm_ar 0 as) [] z = some o
theorem M_X4_oneOf : mm_M lyTM lyFA lenM snM 22 22 17 roM rsA nfA nmA [] yX4_oneOf cX4_oneOf 4 (some .int) rm_X4_oneOf f_X4_oneOf :=
  mm_met (rt := 0) (by decide +kernel) ⟨fun h => rfl, fun h => absurd h (by decide), fun h => absurd h (by decide), fun h => absurd h (by decide)⟩ tbX4_oneOf_ok hsnM okFX4 okLX4 (fun _ h => absurd h List.not_mem_nil) (fun _ _ _ _ => rfl) (fun _ _ _ _ => rfl) (List.forall_mem_cons.mpr ⟨sV_X4_isWord (Or.inl lk_X4_344) rfl ⟨by decide, by decide⟩, fun _ h => absurd h List.not_mem_nil⟩) (fun _ h => absurd h List.not_mem_nil)
noncomputable def sX4_oneOf_20 (y1 : Nat) (y3 : Int32) (z : mm_S) : Option ((Nat × Int32 × Int32 × mm_S) ⊕ (Int32 × mm_S)) := some (.inl (y1, y3, (y3 + 1), z))
theorem kX4_oneOf_20 (y1 : Nat) (y3 : Int32) (z : mm_S) (oo : mm_R) : mm_Xs (sX4_oneOf_20 y1 y3 z) (mm_mt (fun x : Nat × Int32 × Int32 × mm_S => ∃ n, eX4_oneOf_4 n x.1 x.2.1 x.2.2.1 x.2.2.2 = some oo) (fun v => (fun v : Int32 × mm_S => ((some (mm_I v.1), v.2) : mm_R)) v = oo)) (fun n => eX4_oneOf_20 n y1 y3 z) oo :=
  xs_row (fun n => qX4_oneOf_20 n y1 y3 z) (xs_v fun hc => hc)
noncomputable def lX4_oneOf_4 (s : Nat × Int32 × Int32 × mm_S) : Option ((Nat × Int32 × Int32 × mm_S) ⊕ (Int32 × mm_S)) := if (Int32.ofNat (lenM s.1)) ≤ s.2.2.1 then some (.inr (s.2.1, s.2.2.2)) else if s.2.2.1 < 0 ∨ lenM s.1 ≤ Int32.toNatClampNeg s.2.2.1 then none else (sX4_isWord (snM s.1 (Int32.toNatClampNeg s.2.2.1)) s.2.2.2).bind fun q1 => if q1.1 = 0 then some (.inl (s.1, s.2.1, (s.2.2.1 + 1), q1.2)) else (sX4_oneOf_20 s.1 s.2.2.1 q1.2)
noncomputable def sX4_oneOf_4 (y1 : Nat) (y2 : Int32) (y3 : Int32) (z : mm_S) : Option (Int32 × mm_S) := mm_wh (lX4_oneOf_4 ) mm_fu (y1, y2, y3, z)
theorem kX4_oneOf_4 (y1 : Nat) (y2 : Int32) (y3 : Int32) (z : mm_S) (oo : mm_R) : mm_Xs (sX4_oneOf_4 y1 y2 y3 z) (fun v => (fun v : Int32 × mm_S => ((some (mm_I v.1), v.2) : mm_R)) v = oo) (fun n => eX4_oneOf_4 n y1 y2 y3 z) oo :=
  xs_wh (stp := lX4_oneOf_4 ) (o := oo) (E := (fun (s : Nat × Int32 × Int32 × mm_S) n => eX4_oneOf_4 n s.1 s.2.1 s.2.2.1 s.2.2.2)) (C := (fun v => (fun v : Int32 × mm_S => ((some (mm_I v.1), v.2) : mm_R)) v = oo)) (fun s => xs_row (fun n => qX4_oneOf_4 n s.1 s.2.1 s.2.2.1 s.2.2.2) (xs_if (xs_v fun hc => ⟨0, congrArg some hc⟩) (xs_if xs_n (xs_bd fun q1 => (xs_if (xs_v fun hc => hc) (kX4_oneOf_20 s.1 s.2.2.1 q1.2 oo)))))) mm_fu (y1, y2, y3, z)
noncomputable def sX4_oneOf_0 (x1 : Nat) (z : mm_S) : Option (Int32 × mm_S) := (sX4_oneOf_4 x1 (-1) 0 z)
theorem kX4_oneOf_0 (x1 : Nat) (z : mm_S) (oo : mm_R) : mm_Xs (sX4_oneOf_0 x1 z) (fun v => (fun v : Int32 × mm_S => ((some (mm_I v.1), v.2) : mm_R)) v = oo) (fun n => eX4_oneOf_0 n x1 z) oo :=
  xs_row (fun n => qX4_oneOf_0 n x1 z) (kX4_oneOf_4 x1 (-1) 0 z oo)
noncomputable def sX4_oneOf (x1 : Nat) (z : mm_S) : Option (Int32 × mm_S) := sX4_oneOf_0 x1 z
theorem sp_X4_oneOf (x1 : Nat) (z : mm_S) (hk : ∀ v ∈ [mm_P 4 0, mm_P 13 x1], mm_ok 22 lyTM 22 17 v) (q : Int32 × mm_S) (hq : sX4_oneOf x1 z = some q) : f_X4_oneOf [mm_P 4 0, mm_P 13 x1] z (some (mm_I q.1), q.2) := ⟨Nat.le_of_ble_eq_true rfl, kX4_oneOf_0 x1 z _ q hq rfl⟩
noncomputable def clo_X4_oneOf (as : List mm_V) (z : mm_S) (kk : Option mm_V → mm_S → Option mm_R) : Option mm_R := mm_pr as fun t o0 as => bif Nat.beq t 4 then mm_pr as fun t o1 as => bif Nat.beq t 13 then (match as with | [] => (sX4_oneOf o1 z).bind fun q => kk (some (mm_I q.1)) q.2 | _ => none) else none else none
theorem cs_X4_oneOf : mm_cs lyTM 22 22 17 f_X4_oneOf clo_X4_oneOf := by
  intro as z K o hk h
  obtain ⟨t0, o0, r0, rfl, g0⟩ := mm_pr_e h
  obtain ⟨b0, k0⟩ := mm_bif_e g0
  obtain rfl := Nat.eq_of_beq_eq_true b0
  obtain ⟨t1, o1, r1, rfl, g1⟩ := mm_pr_e k0
  obtain ⟨b1, k1⟩ := mm_bif_e g1
  obtain rfl := Nat.eq_of_beq_eq_true b1
  rcases r1 with _ | ⟨u, w⟩
  rotate_left
  · cases k1
  obtain rfl : o0 = 0 := ok4 (hk (mm_P 4 o0) (by simp))
  obtain ⟨q, hq, hq2⟩ := Option.bind_eq_some_iff.mp k1
  exact ⟨_, _, sp_X4_oneOf o1 z hk q hq, fun v hv => by cases hv; exact Or.inl ⟨_, rfl⟩, hq2⟩
theorem sV_X4_oneOf {own : String} {R : Room} {ar : Nat → Nat} {k : Nat} (hlink : Cond.methodLink own k yX4_oneOf ∈ lw_gd ∨ ∃ host, (own, k, yX4_oneOf, host) ∈ nmA) (har : ar k = 2) (hr : 6 ≤ R.frames ∧ 131 ≤ R.locals) : mm_okV lyTM lyFA lenM snM 22 22 17 roM rsA nfA nmA [] own R ar k clo_X4_oneOf := by
  refine ⟨yX4_oneOf, cX4_oneOf, 4, some .int, rm_X4_oneOf, f_X4_oneOf, 4, 1, (RX4, TX4, 36), M_X4_oneOf, cs_X4_oneOf, hlink, ⟨wv_X4_oneOf, wz_X4_oneOf, wi_X4_oneOf, wc_X4_oneOf⟩, ⟨by decide +kernel, by decide +kernel, by decide +kernel⟩, har, ⟨rfl, rfl, by decide⟩, ?_, ⟨rfl, rfl, hr.1, hr.2⟩⟩
  intro as z K o h
  obtain ⟨t0, o0, r0, rfl, g0⟩ := mm_pr_e h
  obtain ⟨b0, k0⟩ := mm_bif_e g0
  obtain rfl := Nat.eq_of_beq_eq_true b0
  exact ⟨_, _, rfl⟩
-- X4_isNext
noncomputable def lV_X4_isNext : List (Nat × (List mm_V → mm_S → (Option mm_V → mm_S → Option mm_R) → Option mm_R)) := [(337, clo_X4_must), (344, clo_X4_isWord)]
noncomputable def mV_X4_isNext (k : Nat) (as : List mm_V) (z : mm_S) (kk : Option mm_V → mm_S → Option mm_R) : Option mm_R := match mm_at lV_X4_isNext k with
  | some f => f as z kk
  | none => none
noncomputable def arV_X4_isNext (k : Nat) : Nat := (mm_at [(337, 2), (344, 2)] k).getD 0
noncomputable def lS_X4_isNext : List (Nat × (List mm_V → mm_S → (Option mm_V → mm_S → Option mm_R) → Option mm_R)) := []
noncomputable def mS_X4_isNext (k : Nat) (as : List mm_V) (z : mm_S) (kk : Option mm_V → mm_S → Option mm_R) : Option mm_R := match mm_at lS_X4_isNext k with
  | some f => f as z kk
  | none => none
noncomputable def arS_X4_isNext (k : Nat) : Nat := (mm_at [] k).getD 0
def ct_X4_isNext : List (Nat × List Nat) := [(15, [0]), (30, [2])]
noncomputable def go_X4_isNext : Nat → mm_K := mm_go (fun k => mm_at flX4 k) (fun k => mm_at clX4 k) (fun k => mm_at glX4 k) arV_X4_isNext arS_X4_isNext mV_X4_isNext mS_X4_isNext lenM roM snM 3 1 tbX4_isNext ct_X4_isNext
noncomputable def eX4_isNext_0 (n : Nat)  (x1 : Nat) (z : mm_S) : Option mm_R := go_X4_isNext n 0 [(0, mm_P 4 0), (1, mm_P 20 x1)] [] z
noncomputable def eX4_isNext_30 (n : Nat) (y2 : Int32) (z : mm_S) : Option mm_R := go_X4_isNext n 30 [(2, mm_I y2)] [] z
noncomputable def eX4_isNext_15 (n : Nat)  (z : mm_S) : Option mm_R := go_X4_isNext n 15 [(0, mm_P 4 0)] [] z
set_option maxRecDepth 100000 in
theorem qX4_isNext_0 (n : Nat)  (x1 : Nat) (z : mm_S) : eX4_isNext_0 (n + 1) x1 z = (if (z.1 0 23) = 0 then (sX4_isWord x1 z).bind fun q1 => if q1.1 = 0 then eX4_isNext_30 n 0 q1.2 else eX4_isNext_15 n  q1.2 else eX4_isNext_30 n 0 z) := rfl
set_option maxRecDepth 100000 in
theorem qX4_isNext_30 (n : Nat) (y2 : Int32) (z : mm_S) : eX4_isNext_30 (n + 1) y2 z = (mm_rt 1 y2 z) := rfl
set_option maxRecDepth 100000 in
theorem qX4_isNext_15 (n : Nat)  (z : mm_S) : eX4_isNext_15 (n + 1)  z = ((sX4_must 1 z).bind fun q2 => eX4_isNext_30 n 1 q2) := rfl
def rm_X4_isNext : Room := { frames := 5, cells := 0, slots := 0, locals := 108 }
noncomputable def f_X4_isNext (as : List mm_V) (z : mm_S) (o : mm_R) : Prop := (as.map mm_cat).sum ≤ 3 ∧ ∃ n, go_X4_isNext n 0 (mm_ar 0 as) [] z = some o
theorem M_X4_isNext : mm_M lyTM lyFA lenM snM 22 22 17 roM rsA nfA nmA [] yX4_isNext cX4_isNext 3 (some .boolean) rm_X4_isNext f_X4_isNext :=
  mm_met (rt := 1) (by decide +kernel) ⟨fun h => absurd h (by decide), fun h => rfl, fun h => absurd h (by decide), fun h => absurd h (by decide)⟩ tbX4_isNext_ok hsnM okFX4 okLX4 (fun _ h => absurd h List.not_mem_nil) (fun _ _ _ _ => rfl) (fun _ _ _ _ => rfl) (List.forall_mem_cons.mpr ⟨sV_X4_must (Or.inl lk_X4_337) rfl ⟨by decide, by decide⟩, List.forall_mem_cons.mpr ⟨sV_X4_isWord (Or.inl lk_X4_344) rfl ⟨by decide, by decide⟩, fun _ h => absurd h List.not_mem_nil⟩⟩) (fun _ h => absurd h List.not_mem_nil)
noncomputable def sX4_isNext_30 (y2 : Int32) (z : mm_S) : Option (Int32 × mm_S) := if y2 = 0 then some (0, z) else if y2 = 1 then some (1, z) else none
theorem kX4_isNext_30 (y2 : Int32) (z : mm_S) (oo : mm_R) : mm_Xs (sX4_isNext_30 y2 z) (fun v => (fun v : Int32 × mm_S => ((some (mm_I v.1), v.2) : mm_R)) v = oo) (fun n => eX4_isNext_30 n y2 z) oo :=
  xs_row (fun n => qX4_isNext_30 n y2 z) (xs_if (X := fun _ => some (some (mm_I 0), z)) (Y := fun _ => if y2 = 1 then some (some (mm_I 1), z) else none) (xs_v fun hc => ⟨0, congrArg some hc⟩) (xs_if (X := fun _ => some (some (mm_I 1), z)) (Y := fun _ => none) (xs_v fun hc => ⟨0, congrArg some hc⟩) xs_n))
noncomputable def sX4_isNext_15  (z : mm_S) : Option (Int32 × mm_S) := (sX4_must 1 z).bind fun q2 => (sX4_isNext_30 1 q2)
theorem kX4_isNext_15  (z : mm_S) (oo : mm_R) : mm_Xs (sX4_isNext_15  z) (fun v => (fun v : Int32 × mm_S => ((some (mm_I v.1), v.2) : mm_R)) v = oo) (fun n => eX4_isNext_15 n  z) oo :=
  xs_row (fun n => qX4_isNext_15 n z) (xs_bd fun q2 => (kX4_isNext_30 1 q2 oo))
noncomputable def sX4_isNext_0 (x1 : Nat) (z : mm_S) : Option (Int32 × mm_S) := if (z.1 0 23) = 0 then (sX4_isWord x1 z).bind fun q1 => if q1.1 = 0 then (sX4_isNext_30 0 q1.2) else (sX4_isNext_15 q1.2) else (sX4_isNext_30 0 z)
theorem kX4_isNext_0 (x1 : Nat) (z : mm_S) (oo : mm_R) : mm_Xs (sX4_isNext_0 x1 z) (fun v => (fun v : Int32 × mm_S => ((some (mm_I v.1), v.2) : mm_R)) v = oo) (fun n => eX4_isNext_0 n x1 z) oo :=
  xs_row (fun n => qX4_isNext_0 n x1 z) (xs_if (xs_bd fun q1 => (xs_if (kX4_isNext_30 0 q1.2 oo) (kX4_isNext_15 q1.2 oo))) (kX4_isNext_30 0 z oo))
noncomputable def sX4_isNext (x1 : Nat) (z : mm_S) : Option (Int32 × mm_S) := sX4_isNext_0 x1 z
theorem sp_X4_isNext (x1 : Nat) (z : mm_S) (hk : ∀ v ∈ [mm_P 4 0, mm_P 20 x1], mm_ok 22 lyTM 22 17 v) (q : Int32 × mm_S) (hq : sX4_isNext x1 z = some q) : f_X4_isNext [mm_P 4 0, mm_P 20 x1] z (some (mm_I q.1), q.2) := ⟨Nat.le_of_ble_eq_true rfl, kX4_isNext_0 x1 z _ q hq rfl⟩
noncomputable def clo_X4_isNext (as : List mm_V) (z : mm_S) (kk : Option mm_V → mm_S → Option mm_R) : Option mm_R := mm_pr as fun t o0 as => bif Nat.beq t 4 then mm_pr as fun t o1 as => bif Nat.beq t 20 then (match as with | [] => (sX4_isNext o1 z).bind fun q => kk (some (mm_I q.1)) q.2 | _ => none) else none else none
theorem cs_X4_isNext : mm_cs lyTM 22 22 17 f_X4_isNext clo_X4_isNext := by
  intro as z K o hk h
  obtain ⟨t0, o0, r0, rfl, g0⟩ := mm_pr_e h
  obtain ⟨b0, k0⟩ := mm_bif_e g0
  obtain rfl := Nat.eq_of_beq_eq_true b0
  obtain ⟨t1, o1, r1, rfl, g1⟩ := mm_pr_e k0
  obtain ⟨b1, k1⟩ := mm_bif_e g1
  obtain rfl := Nat.eq_of_beq_eq_true b1
  rcases r1 with _ | ⟨u, w⟩
  rotate_left
  · cases k1
  obtain rfl : o0 = 0 := ok4 (hk (mm_P 4 o0) (by simp))
  obtain ⟨q, hq, hq2⟩ := Option.bind_eq_some_iff.mp k1
  exact ⟨_, _, sp_X4_isNext o1 z hk q hq, fun v hv => by cases hv; exact Or.inl ⟨_, rfl⟩, hq2⟩
theorem sV_X4_isNext {own : String} {R : Room} {ar : Nat → Nat} {k : Nat} (hlink : Cond.methodLink own k yX4_isNext ∈ lw_gd ∨ ∃ host, (own, k, yX4_isNext, host) ∈ nmA) (har : ar k = 2) (hr : 6 ≤ R.frames ∧ 130 ≤ R.locals) : mm_okV lyTM lyFA lenM snM 22 22 17 roM rsA nfA nmA [] own R ar k clo_X4_isNext := by
  refine ⟨yX4_isNext, cX4_isNext, 3, some .boolean, rm_X4_isNext, f_X4_isNext, 4, 1, (RX4, TX4, 36), M_X4_isNext, cs_X4_isNext, hlink, ⟨wv_X4_isNext, wz_X4_isNext, wi_X4_isNext, wc_X4_isNext⟩, ⟨by decide +kernel, by decide +kernel, by decide +kernel⟩, har, ⟨rfl, rfl, by decide⟩, ?_, ⟨rfl, rfl, hr.1, hr.2⟩⟩
  intro as z K o h
  obtain ⟨t0, o0, r0, rfl, g0⟩ := mm_pr_e h
  obtain ⟨b0, k0⟩ := mm_bif_e g0
  obtain rfl := Nat.eq_of_beq_eq_true b0
  exact ⟨_, _, rfl⟩
-- X4_readUnsure
noncomputable def lV_X4_readUnsure : List (Nat × (List mm_V → mm_S → (Option mm_V → mm_S → Option mm_R) → Option mm_R)) := [(337, clo_X4_must), (344, clo_X4_isWord), (353, clo_X4_item)]
noncomputable def mV_X4_readUnsure (k : Nat) (as : List mm_V) (z : mm_S) (kk : Option mm_V → mm_S → Option mm_R) : Option mm_R := match mm_at lV_X4_readUnsure k with
  | some f => f as z kk
  | none => none
noncomputable def arV_X4_readUnsure (k : Nat) : Nat := (mm_at [(337, 2), (344, 2), (353, 5)] k).getD 0
noncomputable def lS_X4_readUnsure : List (Nat × (List mm_V → mm_S → (Option mm_V → mm_S → Option mm_R) → Option mm_R)) := []
noncomputable def mS_X4_readUnsure (k : Nat) (as : List mm_V) (z : mm_S) (kk : Option mm_V → mm_S → Option mm_R) : Option mm_R := match mm_at lS_X4_readUnsure k with
  | some f => f as z kk
  | none => none
noncomputable def arS_X4_readUnsure (k : Nat) : Nat := (mm_at [] k).getD 0
def ct_X4_readUnsure : List (Nat × List Nat) := [(27, [0]), (55, [0, 1, 2, 3]), (112, [0, 2]), (129, [0, 2]), (139, [0, 2]), (148, [])]
noncomputable def go_X4_readUnsure : Nat → mm_K := mm_go (fun k => mm_at flX4 k) (fun k => mm_at clX4 k) (fun k => mm_at glX4 k) arV_X4_readUnsure arS_X4_readUnsure mV_X4_readUnsure mS_X4_readUnsure lenM roM snM 4 3 tbX4_readUnsure ct_X4_readUnsure
noncomputable def eX4_readUnsure_0 (n : Nat)  (z : mm_S) : Option mm_R := go_X4_readUnsure n 0 [(0, mm_P 4 0)] [] z
noncomputable def eX4_readUnsure_27 (n : Nat)  (z : mm_S) : Option mm_R := go_X4_readUnsure n 27 [(0, mm_P 4 0)] [] z
noncomputable def eX4_readUnsure_55 (n : Nat)  (y1 : Int32) (y2 : Int32) (y3 : Int32) (z : mm_S) : Option mm_R := go_X4_readUnsure n 55 [(0, mm_P 4 0), (1, mm_I y1), (2, mm_I y2), (3, mm_I y3)] [] z
noncomputable def eX4_readUnsure_112 (n : Nat)  (y2 : Int32) (z : mm_S) : Option mm_R := go_X4_readUnsure n 112 [(0, mm_P 4 0), (2, mm_I y2)] [] z
noncomputable def eX4_readUnsure_148 (n : Nat)  (z : mm_S) : Option mm_R := go_X4_readUnsure n 148 [] [] z
noncomputable def eX4_readUnsure_129 (n : Nat)  (y2 : Int32) (z : mm_S) : Option mm_R := go_X4_readUnsure n 129 [(0, mm_P 4 0), (2, mm_I y2)] [] z
noncomputable def eX4_readUnsure_139 (n : Nat)  (y2 : Int32) (z : mm_S) : Option mm_R := go_X4_readUnsure n 139 [(0, mm_P 4 0), (2, mm_I y2)] [] z
set_option maxRecDepth 100000 in
theorem qX4_readUnsure_0 (n : Nat)  (z : mm_S) : eX4_readUnsure_0 (n + 1)  z = ((sX4_isWord 13 z).bind fun q1 => if q1.1 = 0 then (sX4_must 0 q1.2).bind fun q2 => eX4_readUnsure_27 n  q2 else if 4 ≤ (q1.2.1 0 30) then (sX4_must 0 q1.2).bind fun q3 => eX4_readUnsure_27 n  q3 else (sX4_must 1 q1.2).bind fun q4 => eX4_readUnsure_27 n  q4) := rfl
set_option maxRecDepth 100000 in
theorem qX4_readUnsure_27 (n : Nat)  (z : mm_S) : eX4_readUnsure_27 (n + 1)  z = (if (z.1 0 23) = 0 then if (z.1 0 21) = 2 then eX4_readUnsure_55 n 0 (z.1 0 22) 0 z else eX4_readUnsure_55 n 0 (-1) 0 z else eX4_readUnsure_55 n 0 (-1) 0 z) := rfl
set_option maxRecDepth 100000 in
theorem qX4_readUnsure_55 (n : Nat)  (y1 : Int32) (y2 : Int32) (y3 : Int32) (z : mm_S) : eX4_readUnsure_55 (n + 1) y1 y2 y3 z = (if (z.1 0 30) ≤ y3 then if y1 = 0 then if y2 < 0 then (sX4_must 0 z).bind fun q6 => eX4_readUnsure_112 n y2 q6 else if 36 ≤ y2 then (sX4_must 0 z).bind fun q7 => eX4_readUnsure_112 n y2 q7 else (sX4_must 1 z).bind fun q8 => eX4_readUnsure_112 n y2 q8 else (sX4_must 0 z).bind fun q5 => eX4_readUnsure_112 n y2 q5 else if y1 = 0 then if y3 < 0 ∨ 4 ≤ Int32.toNatClampNeg y3 then none else if (z.1 17 (Int32.toNatClampNeg y3)) = y2 then eX4_readUnsure_55 n 1 y2 (y3 + 1) z else eX4_readUnsure_55 n 0 y2 (y3 + 1) z else eX4_readUnsure_55 n 1 y2 (y3 + 1) z) := rfl
set_option maxRecDepth 100000 in
theorem qX4_readUnsure_112 (n : Nat)  (y2 : Int32) (z : mm_S) : eX4_readUnsure_112 (n + 1) y2 z = (if (z.1 0 23) = 0 then if (z.1 0 30) < 0 ∨ 4 ≤ Int32.toNatClampNeg (z.1 0 30) then none else eX4_readUnsure_129 n y2 ((mm_ui z.1 17 (Int32.toNatClampNeg (z.1 0 30)) y2), z.2) else eX4_readUnsure_148 n  z) := rfl
set_option maxRecDepth 100000 in
theorem qX4_readUnsure_148 (n : Nat)  (z : mm_S) : eX4_readUnsure_148 (n + 1)  z = (some (none, z)) := rfl
set_option maxRecDepth 100000 in
theorem qX4_readUnsure_129 (n : Nat)  (y2 : Int32) (z : mm_S) : eX4_readUnsure_129 (n + 1) y2 z = (eX4_readUnsure_139 n y2 ((mm_ui z.1 0 30 ((z.1 0 30) + 1)), z.2)) := rfl
set_option maxRecDepth 100000 in
theorem qX4_readUnsure_139 (n : Nat)  (y2 : Int32) (z : mm_S) : eX4_readUnsure_139 (n + 1) y2 z = ((sX4_item 21 y2 0 0 z).bind fun q9 => eX4_readUnsure_148 n  q9) := rfl
def rm_X4_readUnsure : Room := { frames := 5, cells := 0, slots := 0, locals := 108 }
noncomputable def f_X4_readUnsure (as : List mm_V) (z : mm_S) (o : mm_R) : Prop := (as.map mm_cat).sum ≤ 4 ∧ ∃ n, go_X4_readUnsure n 0 (mm_ar 0 as) [] z = some o
theorem M_X4_readUnsure : mm_M lyTM lyFA lenM snM 22 22 17 roM rsA nfA nmA [] yX4_readUnsure cX4_readUnsure 4 (none) rm_X4_readUnsure f_X4_readUnsure :=
  mm_met (rt := 3) (by decide +kernel) ⟨fun h => absurd h (by decide), fun h => absurd h (by decide), fun h => absurd h (by decide), fun h => rfl⟩ tbX4_readUnsure_ok hsnM okFX4 okLX4 (fun _ h => absurd h List.not_mem_nil) (fun _ _ _ _ => rfl) (fun _ _ _ _ => rfl) (List.forall_mem_cons.mpr ⟨sV_X4_must (Or.inl lk_X4_337) rfl ⟨by decide, by decide⟩, List.forall_mem_cons.mpr ⟨sV_X4_isWord (Or.inl lk_X4_344) rfl ⟨by decide, by decide⟩, List.forall_mem_cons.mpr ⟨sV_X4_item (Or.inl lk_X4_353) rfl ⟨by decide, by decide⟩, fun _ h => absurd h List.not_mem_nil⟩⟩⟩) (fun _ h => absurd h List.not_mem_nil)
noncomputable def sX4_readUnsure_148  (z : mm_S) : Option (mm_S) := some (z)
theorem kX4_readUnsure_148  (z : mm_S) (oo : mm_R) : mm_Xs (sX4_readUnsure_148  z) (fun v => (fun v : mm_S => ((none, v) : mm_R)) v = oo) (fun n => eX4_readUnsure_148 n  z) oo :=
  xs_row (fun n => qX4_readUnsure_148 n z) (xs_v fun hc => ⟨0, congrArg some hc⟩)
noncomputable def sX4_readUnsure_139 (y2 : Int32) (z : mm_S) : Option (mm_S) := (sX4_item 21 y2 0 0 z).bind fun q9 => (sX4_readUnsure_148 q9)
theorem kX4_readUnsure_139 (y2 : Int32) (z : mm_S) (oo : mm_R) : mm_Xs (sX4_readUnsure_139 y2 z) (fun v => (fun v : mm_S => ((none, v) : mm_R)) v = oo) (fun n => eX4_readUnsure_139 n y2 z) oo :=
  xs_row (fun n => qX4_readUnsure_139 n y2 z) (xs_bd fun q9 => (kX4_readUnsure_148 q9 oo))
noncomputable def sX4_readUnsure_129 (y2 : Int32) (z : mm_S) : Option (mm_S) := (sX4_readUnsure_139 y2 ((mm_ui z.1 0 30 ((z.1 0 30) + 1)), z.2))
theorem kX4_readUnsure_129 (y2 : Int32) (z : mm_S) (oo : mm_R) : mm_Xs (sX4_readUnsure_129 y2 z) (fun v => (fun v : mm_S => ((none, v) : mm_R)) v = oo) (fun n => eX4_readUnsure_129 n y2 z) oo :=
  xs_row (fun n => qX4_readUnsure_129 n y2 z) (kX4_readUnsure_139 y2 ((mm_ui z.1 0 30 ((z.1 0 30) + 1)), z.2) oo)
noncomputable def sX4_readUnsure_112 (y2 : Int32) (z : mm_S) : Option (mm_S) := if (z.1 0 23) = 0 then if (z.1 0 30) < 0 ∨ 4 ≤ Int32.toNatClampNeg (z.1 0 30) then none else (sX4_readUnsure_129 y2 ((mm_ui z.1 17 (Int32.toNatClampNeg (z.1 0 30)) y2), z.2)) else (sX4_readUnsure_148 z)
theorem kX4_readUnsure_112 (y2 : Int32) (z : mm_S) (oo : mm_R) : mm_Xs (sX4_readUnsure_112 y2 z) (fun v => (fun v : mm_S => ((none, v) : mm_R)) v = oo) (fun n => eX4_readUnsure_112 n y2 z) oo :=
  xs_row (fun n => qX4_readUnsure_112 n y2 z) (xs_if (xs_if xs_n (kX4_readUnsure_129 y2 ((mm_ui z.1 17 (Int32.toNatClampNeg (z.1 0 30)) y2), z.2) oo)) (kX4_readUnsure_148 z oo))
noncomputable def lX4_readUnsure_55 (s : Int32 × Int32 × Int32 × mm_S) : Option ((Int32 × Int32 × Int32 × mm_S) ⊕ (mm_S)) := if (s.2.2.2.1 0 30) ≤ s.2.2.1 then if s.1 = 0 then if s.2.1 < 0 then (sX4_must 0 s.2.2.2).bind fun q6 => ((sX4_readUnsure_112 s.2.1 q6).map fun w => (Sum.inr w)) else if 36 ≤ s.2.1 then (sX4_must 0 s.2.2.2).bind fun q7 => ((sX4_readUnsure_112 s.2.1 q7).map fun w => (Sum.inr w)) else (sX4_must 1 s.2.2.2).bind fun q8 => ((sX4_readUnsure_112 s.2.1 q8).map fun w => (Sum.inr w)) else (sX4_must 0 s.2.2.2).bind fun q5 => ((sX4_readUnsure_112 s.2.1 q5).map fun w => (Sum.inr w)) else if s.1 = 0 then if s.2.2.1 < 0 ∨ 4 ≤ Int32.toNatClampNeg s.2.2.1 then none else if (s.2.2.2.1 17 (Int32.toNatClampNeg s.2.2.1)) = s.2.1 then some (.inl (1, s.2.1, (s.2.2.1 + 1), s.2.2.2)) else some (.inl (0, s.2.1, (s.2.2.1 + 1), s.2.2.2)) else some (.inl (1, s.2.1, (s.2.2.1 + 1), s.2.2.2))
noncomputable def sX4_readUnsure_55 (y1 : Int32) (y2 : Int32) (y3 : Int32) (z : mm_S) : Option (mm_S) := mm_wh (lX4_readUnsure_55 ) mm_fu (y1, y2, y3, z)
theorem kX4_readUnsure_55 (y1 : Int32) (y2 : Int32) (y3 : Int32) (z : mm_S) (oo : mm_R) : mm_Xs (sX4_readUnsure_55 y1 y2 y3 z) (fun v => (fun v : mm_S => ((none, v) : mm_R)) v = oo) (fun n => eX4_readUnsure_55 n y1 y2 y3 z) oo :=
  xs_wh (stp := lX4_readUnsure_55 ) (o := oo) (E := (fun (s : Int32 × Int32 × Int32 × mm_S) n => eX4_readUnsure_55 n s.1 s.2.1 s.2.2.1 s.2.2.2)) (C := (fun v => (fun v : mm_S => ((none, v) : mm_R)) v = oo)) (fun s => xs_row (fun n => qX4_readUnsure_55 n s.1 s.2.1 s.2.2.1 s.2.2.2) (xs_if (xs_if (xs_if (xs_bd fun q6 => (xs_map (f := fun w => (Sum.inr w)) (kX4_readUnsure_112 s.2.1 q6 oo) (fun _ h => h))) (xs_if (xs_bd fun q7 => (xs_map (f := fun w => (Sum.inr w)) (kX4_readUnsure_112 s.2.1 q7 oo) (fun _ h => h))) (xs_bd fun q8 => (xs_map (f := fun w => (Sum.inr w)) (kX4_readUnsure_112 s.2.1 q8 oo) (fun _ h => h))))) (xs_bd fun q5 => (xs_map (f := fun w => (Sum.inr w)) (kX4_readUnsure_112 s.2.1 q5 oo) (fun _ h => h)))) (xs_if (xs_if xs_n (xs_if (xs_v fun hc => hc) (xs_v fun hc => hc))) (xs_v fun hc => hc)))) mm_fu (y1, y2, y3, z)
noncomputable def sX4_readUnsure_27  (z : mm_S) : Option (mm_S) := if (z.1 0 23) = 0 then if (z.1 0 21) = 2 then (sX4_readUnsure_55 0 (z.1 0 22) 0 z) else (sX4_readUnsure_55 0 (-1) 0 z) else (sX4_readUnsure_55 0 (-1) 0 z)
theorem kX4_readUnsure_27  (z : mm_S) (oo : mm_R) : mm_Xs (sX4_readUnsure_27  z) (fun v => (fun v : mm_S => ((none, v) : mm_R)) v = oo) (fun n => eX4_readUnsure_27 n  z) oo :=
  xs_row (fun n => qX4_readUnsure_27 n z) (xs_if (xs_if (kX4_readUnsure_55 0 (z.1 0 22) 0 z oo) (kX4_readUnsure_55 0 (-1) 0 z oo)) (kX4_readUnsure_55 0 (-1) 0 z oo))
noncomputable def sX4_readUnsure_0  (z : mm_S) : Option (mm_S) := (sX4_isWord 13 z).bind fun q1 => if q1.1 = 0 then (sX4_must 0 q1.2).bind fun q2 => (sX4_readUnsure_27 q2) else if 4 ≤ (q1.2.1 0 30) then (sX4_must 0 q1.2).bind fun q3 => (sX4_readUnsure_27 q3) else (sX4_must 1 q1.2).bind fun q4 => (sX4_readUnsure_27 q4)
theorem kX4_readUnsure_0  (z : mm_S) (oo : mm_R) : mm_Xs (sX4_readUnsure_0  z) (fun v => (fun v : mm_S => ((none, v) : mm_R)) v = oo) (fun n => eX4_readUnsure_0 n  z) oo :=
  xs_row (fun n => qX4_readUnsure_0 n z) (xs_bd fun q1 => (xs_if (xs_bd fun q2 => (kX4_readUnsure_27 q2 oo)) (xs_if (xs_bd fun q3 => (kX4_readUnsure_27 q3 oo)) (xs_bd fun q4 => (kX4_readUnsure_27 q4 oo)))))
noncomputable def sX4_readUnsure  (z : mm_S) : Option (mm_S) := sX4_readUnsure_0  z
theorem sp_X4_readUnsure  (z : mm_S) (hk : ∀ v ∈ [mm_P 4 0], mm_ok 22 lyTM 22 17 v) (q : mm_S) (hq : sX4_readUnsure  z = some q) : f_X4_readUnsure [mm_P 4 0] z (none, q) := ⟨Nat.le_of_ble_eq_true rfl, kX4_readUnsure_0  z _ q hq rfl⟩
noncomputable def clo_X4_readUnsure (as : List mm_V) (z : mm_S) (kk : Option mm_V → mm_S → Option mm_R) : Option mm_R := mm_pr as fun t o0 as => bif Nat.beq t 4 then (match as with | [] => (sX4_readUnsure z).bind fun q => kk none q | _ => none) else none
theorem cs_X4_readUnsure : mm_cs lyTM 22 22 17 f_X4_readUnsure clo_X4_readUnsure := by
  intro as z K o hk h
  obtain ⟨t0, o0, r0, rfl, g0⟩ := mm_pr_e h
  obtain ⟨b0, k0⟩ := mm_bif_e g0
  obtain rfl := Nat.eq_of_beq_eq_true b0
  rcases r0 with _ | ⟨u, w⟩
  rotate_left
  · cases k0
  obtain rfl : o0 = 0 := ok4 (hk (mm_P 4 o0) (by simp))
  obtain ⟨q, hq, hq2⟩ := Option.bind_eq_some_iff.mp k0
  exact ⟨_, _, sp_X4_readUnsure  z hk q hq, (fun v hv => by cases hv), hq2⟩
theorem sV_X4_readUnsure {own : String} {R : Room} {ar : Nat → Nat} {k : Nat} (hlink : Cond.methodLink own k yX4_readUnsure ∈ lw_gd ∨ ∃ host, (own, k, yX4_readUnsure, host) ∈ nmA) (har : ar k = 1) (hr : 6 ≤ R.frames ∧ 131 ≤ R.locals) : mm_okV lyTM lyFA lenM snM 22 22 17 roM rsA nfA nmA [] own R ar k clo_X4_readUnsure := by
  refine ⟨yX4_readUnsure, cX4_readUnsure, 4, none, rm_X4_readUnsure, f_X4_readUnsure, 4, 0, (RX4, TX4, 36), M_X4_readUnsure, cs_X4_readUnsure, hlink, ⟨wv_X4_readUnsure, wz_X4_readUnsure, wi_X4_readUnsure, wc_X4_readUnsure⟩, ⟨by decide +kernel, by decide +kernel, by decide +kernel⟩, har, ⟨rfl, rfl, by decide⟩, ?_, ⟨rfl, rfl, hr.1, hr.2⟩⟩
  intro as z K o h
  obtain ⟨t0, o0, r0, rfl, g0⟩ := mm_pr_e h
  obtain ⟨b0, k0⟩ := mm_bif_e g0
  obtain rfl := Nat.eq_of_beq_eq_true b0
  exact ⟨_, _, rfl⟩
-- X4_readItem
noncomputable def lV_X4_readItem : List (Nat × (List mm_V → mm_S → (Option mm_V → mm_S → Option mm_R) → Option mm_R)) := [(337, clo_X4_must), (344, clo_X4_isWord), (353, clo_X4_item), (357, clo_X4_oneOf), (365, clo_X4_isNext), (368, clo_X4_number), (380, clo_X4_readUnsure)]
noncomputable def mV_X4_readItem (k : Nat) (as : List mm_V) (z : mm_S) (kk : Option mm_V → mm_S → Option mm_R) : Option mm_R := match mm_at lV_X4_readItem k with
  | some f => f as z kk
  | none => none
noncomputable def arV_X4_readItem (k : Nat) : Nat := (mm_at [(337, 2), (344, 2), (353, 5), (357, 2), (365, 2), (368, 3), (380, 1)] k).getD 0
noncomputable def lS_X4_readItem : List (Nat × (List mm_V → mm_S → (Option mm_V → mm_S → Option mm_R) → Option mm_R)) := []
noncomputable def mS_X4_readItem (k : Nat) (as : List mm_V) (z : mm_S) (kk : Option mm_V → mm_S → Option mm_R) : Option mm_R := match mm_at lS_X4_readItem k with
  | some f => f as z kk
  | none => none
noncomputable def arS_X4_readItem (k : Nat) : Nat := (mm_at [] k).getD 0
def ct_X4_readItem : List (Nat × List Nat) := [(9, [0, 1]), (18, [0, 1, 2]), (40, [0, 1]), (50, [0, 1]), (60, [0, 1]), (70, [0, 1]), (101, []), (113, [0, 2]), (121, [0, 2, 3]), (152, []), (165, [0]), (183, [0]), (193, [0]), (201, [0, 3]), (210, [0, 3, 4]), (226, []), (233, [])]
noncomputable def go_X4_readItem : Nat → mm_K := mm_go (fun k => mm_at flX4 k) (fun k => mm_at clX4 k) (fun k => mm_at glX4 k) arV_X4_readItem arS_X4_readItem mV_X4_readItem mS_X4_readItem lenM roM snM 5 3 tbX4_readItem ct_X4_readItem
noncomputable def eX4_readItem_0 (n : Nat)  (z : mm_S) : Option mm_R := go_X4_readItem n 0 [(0, mm_P 4 0)] [] z
noncomputable def eX4_readItem_9 (n : Nat)  (y1 : Int32) (z : mm_S) : Option mm_R := go_X4_readItem n 9 [(0, mm_P 4 0), (1, mm_I y1)] [] z
noncomputable def eX4_readItem_18 (n : Nat)  (y1 : Int32) (y2 : Int32) (z : mm_S) : Option mm_R := go_X4_readItem n 18 [(0, mm_P 4 0), (1, mm_I y1), (2, mm_I y2)] [] z
noncomputable def eX4_readItem_233 (n : Nat)  (z : mm_S) : Option mm_R := go_X4_readItem n 233 [] [] z
noncomputable def eX4_readItem_165 (n : Nat)  (z : mm_S) : Option mm_R := go_X4_readItem n 165 [(0, mm_P 4 0)] [] z
noncomputable def eX4_readItem_113 (n : Nat)  (y2 : Int32) (z : mm_S) : Option mm_R := go_X4_readItem n 113 [(0, mm_P 4 0), (2, mm_I y2)] [] z
noncomputable def eX4_readItem_40 (n : Nat)  (y1 : Int32) (z : mm_S) : Option mm_R := go_X4_readItem n 40 [(0, mm_P 4 0), (1, mm_I y1)] [] z
noncomputable def eX4_readItem_183 (n : Nat)  (z : mm_S) : Option mm_R := go_X4_readItem n 183 [(0, mm_P 4 0)] [] z
noncomputable def eX4_readItem_121 (n : Nat)  (y2 : Int32) (y3 : Int32) (z : mm_S) : Option mm_R := go_X4_readItem n 121 [(0, mm_P 4 0), (2, mm_I y2), (3, mm_I y3)] [] z
noncomputable def eX4_readItem_50 (n : Nat)  (y1 : Int32) (z : mm_S) : Option mm_R := go_X4_readItem n 50 [(0, mm_P 4 0), (1, mm_I y1)] [] z
noncomputable def eX4_readItem_193 (n : Nat)  (z : mm_S) : Option mm_R := go_X4_readItem n 193 [(0, mm_P 4 0)] [] z
noncomputable def eX4_readItem_152 (n : Nat)  (z : mm_S) : Option mm_R := go_X4_readItem n 152 [] [] z
noncomputable def eX4_readItem_70 (n : Nat)  (y1 : Int32) (z : mm_S) : Option mm_R := go_X4_readItem n 70 [(0, mm_P 4 0), (1, mm_I y1)] [] z
noncomputable def eX4_readItem_60 (n : Nat)  (y1 : Int32) (z : mm_S) : Option mm_R := go_X4_readItem n 60 [(0, mm_P 4 0), (1, mm_I y1)] [] z
noncomputable def eX4_readItem_201 (n : Nat)  (y3 : Int32) (z : mm_S) : Option mm_R := go_X4_readItem n 201 [(0, mm_P 4 0), (3, mm_I y3)] [] z
noncomputable def eX4_readItem_101 (n : Nat)  (z : mm_S) : Option mm_R := go_X4_readItem n 101 [] [] z
noncomputable def eX4_readItem_210 (n : Nat)  (y3 : Int32) (y4 : Int32) (z : mm_S) : Option mm_R := go_X4_readItem n 210 [(0, mm_P 4 0), (3, mm_I y3), (4, mm_I y4)] [] z
noncomputable def eX4_readItem_226 (n : Nat)  (z : mm_S) : Option mm_R := go_X4_readItem n 226 [] [] z
set_option maxRecDepth 100000 in
theorem qX4_readItem_0 (n : Nat)  (z : mm_S) : eX4_readItem_0 (n + 1)  z = ((sX4_oneOf 14 z).bind fun q1 => eX4_readItem_9 n q1.1 q1.2) := rfl
set_option maxRecDepth 100000 in
theorem qX4_readItem_9 (n : Nat)  (y1 : Int32) (z : mm_S) : eX4_readItem_9 (n + 1) y1 z = ((sX4_oneOf 15 z).bind fun q2 => eX4_readItem_18 n y1 q2.1 q2.2) := rfl
set_option maxRecDepth 100000 in
theorem qX4_readItem_18 (n : Nat)  (y1 : Int32) (y2 : Int32) (z : mm_S) : eX4_readItem_18 (n + 1) y1 y2 z = (if y1 < 0 then if y2 < 0 then (sX4_isWord 12 z).bind fun q3 => if q3.1 = 0 then (sX4_readUnsure  q3.2).bind fun q4 => eX4_readItem_233 n  q4 else eX4_readItem_165 n  q3.2 else (sX4_must 1 z).bind fun q5 => eX4_readItem_113 n y2 q5 else if 6 ≤ (z.1 0 28) then (sX4_must 0 z).bind fun q6 => eX4_readItem_40 n y1 q6 else (sX4_must 1 z).bind fun q7 => eX4_readItem_40 n y1 q7) := rfl
set_option maxRecDepth 100000 in
theorem qX4_readItem_233 (n : Nat)  (z : mm_S) : eX4_readItem_233 (n + 1)  z = (some (none, z)) := rfl
set_option maxRecDepth 100000 in
theorem qX4_readItem_165 (n : Nat)  (z : mm_S) : eX4_readItem_165 (n + 1)  z = (if 8 ≤ (z.1 0 29) then (sX4_must 0 z).bind fun q8 => eX4_readItem_183 n  q8 else (sX4_must 1 z).bind fun q9 => eX4_readItem_183 n  q9) := rfl
set_option maxRecDepth 100000 in
theorem qX4_readItem_113 (n : Nat)  (y2 : Int32) (z : mm_S) : eX4_readItem_113 (n + 1) y2 z = ((sX4_number 0 35 z).bind fun q10 => eX4_readItem_121 n y2 q10.1 q10.2) := rfl
set_option maxRecDepth 100000 in
theorem qX4_readItem_40 (n : Nat)  (y1 : Int32) (z : mm_S) : eX4_readItem_40 (n + 1) y1 z = (eX4_readItem_50 n y1 ((mm_ui z.1 0 28 ((z.1 0 28) + 1)), z.2)) := rfl
set_option maxRecDepth 100000 in
theorem qX4_readItem_183 (n : Nat)  (z : mm_S) : eX4_readItem_183 (n + 1)  z = (eX4_readItem_193 n  ((mm_ui z.1 0 29 ((z.1 0 29) + 1)), z.2)) := rfl
set_option maxRecDepth 100000 in
theorem qX4_readItem_121 (n : Nat)  (y2 : Int32) (y3 : Int32) (z : mm_S) : eX4_readItem_121 (n + 1) y2 y3 z = ((sX4_isNext 16 z).bind fun q11 => if q11.1 = 0 then (sX4_item (10 + y2) y3 y3 0 q11.2).bind fun q12 => eX4_readItem_152 n  q12 else (sX4_number y3 35 q11.2).bind fun q13 => (sX4_item (10 + y2) y3 q13.1 0 q13.2).bind fun q14 => eX4_readItem_152 n  q14) := rfl
set_option maxRecDepth 100000 in
theorem qX4_readItem_50 (n : Nat)  (y1 : Int32) (z : mm_S) : eX4_readItem_50 (n + 1) y1 z = ((sX4_isNext 14 z).bind fun q15 => if q15.1 = 0 then eX4_readItem_70 n y1 q15.2 else eX4_readItem_60 n y1 q15.2) := rfl
set_option maxRecDepth 100000 in
theorem qX4_readItem_193 (n : Nat)  (z : mm_S) : eX4_readItem_193 (n + 1)  z = ((sX4_number 0 35 z).bind fun q16 => eX4_readItem_201 n q16.1 q16.2) := rfl
set_option maxRecDepth 100000 in
theorem qX4_readItem_152 (n : Nat)  (z : mm_S) : eX4_readItem_152 (n + 1)  z = (eX4_readItem_233 n  z) := rfl
set_option maxRecDepth 100000 in
theorem qX4_readItem_70 (n : Nat)  (y1 : Int32) (z : mm_S) : eX4_readItem_70 (n + 1) y1 z = ((sX4_isNext 15 z).bind fun q17 => if q17.1 = 0 then (sX4_item y1 0 6 0 q17.2).bind fun q18 => eX4_readItem_101 n  q18 else (sX4_number 1 20 q17.2).bind fun q19 => (sX4_item y1 0 q19.1 0 q19.2).bind fun q20 => eX4_readItem_101 n  q20) := rfl
set_option maxRecDepth 100000 in
theorem qX4_readItem_60 (n : Nat)  (y1 : Int32) (z : mm_S) : eX4_readItem_60 (n + 1) y1 z = ((sX4_number 0 35 z).bind fun q21 => (sX4_isNext 15 q21.2).bind fun q22 => if q22.1 = 0 then (sX4_item y1 q21.1 6 0 q22.2).bind fun q23 => eX4_readItem_101 n  q23 else (sX4_number 1 20 q22.2).bind fun q24 => (sX4_item y1 q21.1 q24.1 0 q24.2).bind fun q25 => eX4_readItem_101 n  q25) := rfl
set_option maxRecDepth 100000 in
theorem qX4_readItem_201 (n : Nat)  (y3 : Int32) (z : mm_S) : eX4_readItem_201 (n + 1) y3 z = ((sX4_number 0 35 z).bind fun q26 => eX4_readItem_210 n y3 q26.1 q26.2) := rfl
set_option maxRecDepth 100000 in
theorem qX4_readItem_101 (n : Nat)  (z : mm_S) : eX4_readItem_101 (n + 1)  z = (eX4_readItem_233 n  z) := rfl
set_option maxRecDepth 100000 in
theorem qX4_readItem_210 (n : Nat)  (y3 : Int32) (y4 : Int32) (z : mm_S) : eX4_readItem_210 (n + 1) y3 y4 z = ((sX4_number 0 99 z).bind fun q27 => (sX4_item 20 y3 y4 q27.1 q27.2).bind fun q28 => eX4_readItem_226 n  q28) := rfl
set_option maxRecDepth 100000 in
theorem qX4_readItem_226 (n : Nat)  (z : mm_S) : eX4_readItem_226 (n + 1)  z = (eX4_readItem_233 n  z) := rfl
def rm_X4_readItem : Room := { frames := 6, cells := 0, slots := 0, locals := 131 }
noncomputable def f_X4_readItem (as : List mm_V) (z : mm_S) (o : mm_R) : Prop := (as.map mm_cat).sum ≤ 5 ∧ ∃ n, go_X4_readItem n 0 (mm_ar 0 as) [] z = some o
theorem M_X4_readItem : mm_M lyTM lyFA lenM snM 22 22 17 roM rsA nfA nmA [] yX4_readItem cX4_readItem 5 (none) rm_X4_readItem f_X4_readItem :=
  mm_met (rt := 3) (by decide +kernel) ⟨fun h => absurd h (by decide), fun h => absurd h (by decide), fun h => absurd h (by decide), fun h => rfl⟩ tbX4_readItem_ok hsnM okFX4 okLX4 (fun _ h => absurd h List.not_mem_nil) (fun _ _ _ _ => rfl) (fun _ _ _ _ => rfl) (List.forall_mem_cons.mpr ⟨sV_X4_must (Or.inl lk_X4_337) rfl ⟨by decide, by decide⟩, List.forall_mem_cons.mpr ⟨sV_X4_isWord (Or.inl lk_X4_344) rfl ⟨by decide, by decide⟩, List.forall_mem_cons.mpr ⟨sV_X4_item (Or.inl lk_X4_353) rfl ⟨by decide, by decide⟩, List.forall_mem_cons.mpr ⟨sV_X4_oneOf (Or.inl lk_X4_357) rfl ⟨by decide, by decide⟩, List.forall_mem_cons.mpr ⟨sV_X4_isNext (Or.inl lk_X4_365) rfl ⟨by decide, by decide⟩, List.forall_mem_cons.mpr ⟨sV_X4_number (Or.inl lk_X4_368) rfl ⟨by decide, by decide⟩, List.forall_mem_cons.mpr ⟨sV_X4_readUnsure (Or.inl lk_X4_380) rfl ⟨by decide, by decide⟩, fun _ h => absurd h List.not_mem_nil⟩⟩⟩⟩⟩⟩⟩) (fun _ h => absurd h List.not_mem_nil)
noncomputable def sX4_readItem_233  (z : mm_S) : Option (mm_S) := some (z)
theorem kX4_readItem_233  (z : mm_S) (oo : mm_R) : mm_Xs (sX4_readItem_233  z) (fun v => (fun v : mm_S => ((none, v) : mm_R)) v = oo) (fun n => eX4_readItem_233 n  z) oo :=
  xs_row (fun n => qX4_readItem_233 n z) (xs_v fun hc => ⟨0, congrArg some hc⟩)
noncomputable def sX4_readItem_101  (z : mm_S) : Option (mm_S) := (sX4_readItem_233 z)
theorem kX4_readItem_101  (z : mm_S) (oo : mm_R) : mm_Xs (sX4_readItem_101  z) (fun v => (fun v : mm_S => ((none, v) : mm_R)) v = oo) (fun n => eX4_readItem_101 n  z) oo :=
  xs_row (fun n => qX4_readItem_101 n z) (kX4_readItem_233 z oo)
noncomputable def sX4_readItem_60 (y1 : Int32) (z : mm_S) : Option (mm_S) := (sX4_number 0 35 z).bind fun q21 => (sX4_isNext 15 q21.2).bind fun q22 => if q22.1 = 0 then (sX4_item y1 q21.1 6 0 q22.2).bind fun q23 => (sX4_readItem_101 q23) else (sX4_number 1 20 q22.2).bind fun q24 => (sX4_item y1 q21.1 q24.1 0 q24.2).bind fun q25 => (sX4_readItem_101 q25)
theorem kX4_readItem_60 (y1 : Int32) (z : mm_S) (oo : mm_R) : mm_Xs (sX4_readItem_60 y1 z) (fun v => (fun v : mm_S => ((none, v) : mm_R)) v = oo) (fun n => eX4_readItem_60 n y1 z) oo :=
  xs_row (fun n => qX4_readItem_60 n y1 z) (xs_bd fun q21 => (xs_bd fun q22 => (xs_if (xs_bd fun q23 => (kX4_readItem_101 q23 oo)) (xs_bd fun q24 => (xs_bd fun q25 => (kX4_readItem_101 q25 oo))))))
noncomputable def sX4_readItem_70 (y1 : Int32) (z : mm_S) : Option (mm_S) := (sX4_isNext 15 z).bind fun q17 => if q17.1 = 0 then (sX4_item y1 0 6 0 q17.2).bind fun q18 => (sX4_readItem_101 q18) else (sX4_number 1 20 q17.2).bind fun q19 => (sX4_item y1 0 q19.1 0 q19.2).bind fun q20 => (sX4_readItem_101 q20)
theorem kX4_readItem_70 (y1 : Int32) (z : mm_S) (oo : mm_R) : mm_Xs (sX4_readItem_70 y1 z) (fun v => (fun v : mm_S => ((none, v) : mm_R)) v = oo) (fun n => eX4_readItem_70 n y1 z) oo :=
  xs_row (fun n => qX4_readItem_70 n y1 z) (xs_bd fun q17 => (xs_if (xs_bd fun q18 => (kX4_readItem_101 q18 oo)) (xs_bd fun q19 => (xs_bd fun q20 => (kX4_readItem_101 q20 oo)))))
noncomputable def sX4_readItem_50 (y1 : Int32) (z : mm_S) : Option (mm_S) := (sX4_isNext 14 z).bind fun q15 => if q15.1 = 0 then (sX4_readItem_70 y1 q15.2) else (sX4_readItem_60 y1 q15.2)
theorem kX4_readItem_50 (y1 : Int32) (z : mm_S) (oo : mm_R) : mm_Xs (sX4_readItem_50 y1 z) (fun v => (fun v : mm_S => ((none, v) : mm_R)) v = oo) (fun n => eX4_readItem_50 n y1 z) oo :=
  xs_row (fun n => qX4_readItem_50 n y1 z) (xs_bd fun q15 => (xs_if (kX4_readItem_70 y1 q15.2 oo) (kX4_readItem_60 y1 q15.2 oo)))
noncomputable def sX4_readItem_40 (y1 : Int32) (z : mm_S) : Option (mm_S) := (sX4_readItem_50 y1 ((mm_ui z.1 0 28 ((z.1 0 28) + 1)), z.2))
theorem kX4_readItem_40 (y1 : Int32) (z : mm_S) (oo : mm_R) : mm_Xs (sX4_readItem_40 y1 z) (fun v => (fun v : mm_S => ((none, v) : mm_R)) v = oo) (fun n => eX4_readItem_40 n y1 z) oo :=
  xs_row (fun n => qX4_readItem_40 n y1 z) (kX4_readItem_50 y1 ((mm_ui z.1 0 28 ((z.1 0 28) + 1)), z.2) oo)
noncomputable def sX4_readItem_152  (z : mm_S) : Option (mm_S) := (sX4_readItem_233 z)
theorem kX4_readItem_152  (z : mm_S) (oo : mm_R) : mm_Xs (sX4_readItem_152  z) (fun v => (fun v : mm_S => ((none, v) : mm_R)) v = oo) (fun n => eX4_readItem_152 n  z) oo :=
  xs_row (fun n => qX4_readItem_152 n z) (kX4_readItem_233 z oo)
noncomputable def sX4_readItem_121 (y2 : Int32) (y3 : Int32) (z : mm_S) : Option (mm_S) := (sX4_isNext 16 z).bind fun q11 => if q11.1 = 0 then (sX4_item (10 + y2) y3 y3 0 q11.2).bind fun q12 => (sX4_readItem_152 q12) else (sX4_number y3 35 q11.2).bind fun q13 => (sX4_item (10 + y2) y3 q13.1 0 q13.2).bind fun q14 => (sX4_readItem_152 q14)
theorem kX4_readItem_121 (y2 : Int32) (y3 : Int32) (z : mm_S) (oo : mm_R) : mm_Xs (sX4_readItem_121 y2 y3 z) (fun v => (fun v : mm_S => ((none, v) : mm_R)) v = oo) (fun n => eX4_readItem_121 n y2 y3 z) oo :=
  xs_row (fun n => qX4_readItem_121 n y2 y3 z) (xs_bd fun q11 => (xs_if (xs_bd fun q12 => (kX4_readItem_152 q12 oo)) (xs_bd fun q13 => (xs_bd fun q14 => (kX4_readItem_152 q14 oo)))))
noncomputable def sX4_readItem_113 (y2 : Int32) (z : mm_S) : Option (mm_S) := (sX4_number 0 35 z).bind fun q10 => (sX4_readItem_121 y2 q10.1 q10.2)
theorem kX4_readItem_113 (y2 : Int32) (z : mm_S) (oo : mm_R) : mm_Xs (sX4_readItem_113 y2 z) (fun v => (fun v : mm_S => ((none, v) : mm_R)) v = oo) (fun n => eX4_readItem_113 n y2 z) oo :=
  xs_row (fun n => qX4_readItem_113 n y2 z) (xs_bd fun q10 => (kX4_readItem_121 y2 q10.1 q10.2 oo))
noncomputable def sX4_readItem_226  (z : mm_S) : Option (mm_S) := (sX4_readItem_233 z)
theorem kX4_readItem_226  (z : mm_S) (oo : mm_R) : mm_Xs (sX4_readItem_226  z) (fun v => (fun v : mm_S => ((none, v) : mm_R)) v = oo) (fun n => eX4_readItem_226 n  z) oo :=
  xs_row (fun n => qX4_readItem_226 n z) (kX4_readItem_233 z oo)
noncomputable def sX4_readItem_210 (y3 : Int32) (y4 : Int32) (z : mm_S) : Option (mm_S) := (sX4_number 0 99 z).bind fun q27 => (sX4_item 20 y3 y4 q27.1 q27.2).bind fun q28 => (sX4_readItem_226 q28)
theorem kX4_readItem_210 (y3 : Int32) (y4 : Int32) (z : mm_S) (oo : mm_R) : mm_Xs (sX4_readItem_210 y3 y4 z) (fun v => (fun v : mm_S => ((none, v) : mm_R)) v = oo) (fun n => eX4_readItem_210 n y3 y4 z) oo :=
  xs_row (fun n => qX4_readItem_210 n y3 y4 z) (xs_bd fun q27 => (xs_bd fun q28 => (kX4_readItem_226 q28 oo)))
noncomputable def sX4_readItem_201 (y3 : Int32) (z : mm_S) : Option (mm_S) := (sX4_number 0 35 z).bind fun q26 => (sX4_readItem_210 y3 q26.1 q26.2)
theorem kX4_readItem_201 (y3 : Int32) (z : mm_S) (oo : mm_R) : mm_Xs (sX4_readItem_201 y3 z) (fun v => (fun v : mm_S => ((none, v) : mm_R)) v = oo) (fun n => eX4_readItem_201 n y3 z) oo :=
  xs_row (fun n => qX4_readItem_201 n y3 z) (xs_bd fun q26 => (kX4_readItem_210 y3 q26.1 q26.2 oo))
noncomputable def sX4_readItem_193  (z : mm_S) : Option (mm_S) := (sX4_number 0 35 z).bind fun q16 => (sX4_readItem_201 q16.1 q16.2)
theorem kX4_readItem_193  (z : mm_S) (oo : mm_R) : mm_Xs (sX4_readItem_193  z) (fun v => (fun v : mm_S => ((none, v) : mm_R)) v = oo) (fun n => eX4_readItem_193 n  z) oo :=
  xs_row (fun n => qX4_readItem_193 n z) (xs_bd fun q16 => (kX4_readItem_201 q16.1 q16.2 oo))
noncomputable def sX4_readItem_183  (z : mm_S) : Option (mm_S) := (sX4_readItem_193 ((mm_ui z.1 0 29 ((z.1 0 29) + 1)), z.2))
theorem kX4_readItem_183  (z : mm_S) (oo : mm_R) : mm_Xs (sX4_readItem_183  z) (fun v => (fun v : mm_S => ((none, v) : mm_R)) v = oo) (fun n => eX4_readItem_183 n  z) oo :=
  xs_row (fun n => qX4_readItem_183 n z) (kX4_readItem_193 ((mm_ui z.1 0 29 ((z.1 0 29) + 1)), z.2) oo)
noncomputable def sX4_readItem_165  (z : mm_S) : Option (mm_S) := if 8 ≤ (z.1 0 29) then (sX4_must 0 z).bind fun q8 => (sX4_readItem_183 q8) else (sX4_must 1 z).bind fun q9 => (sX4_readItem_183 q9)
theorem kX4_readItem_165  (z : mm_S) (oo : mm_R) : mm_Xs (sX4_readItem_165  z) (fun v => (fun v : mm_S => ((none, v) : mm_R)) v = oo) (fun n => eX4_readItem_165 n  z) oo :=
  xs_row (fun n => qX4_readItem_165 n z) (xs_if (xs_bd fun q8 => (kX4_readItem_183 q8 oo)) (xs_bd fun q9 => (kX4_readItem_183 q9 oo)))
noncomputable def sX4_readItem_18 (y1 : Int32) (y2 : Int32) (z : mm_S) : Option (mm_S) := if y1 < 0 then if y2 < 0 then (sX4_isWord 12 z).bind fun q3 => if q3.1 = 0 then (sX4_readUnsure  q3.2).bind fun q4 => (sX4_readItem_233 q4) else (sX4_readItem_165 q3.2) else (sX4_must 1 z).bind fun q5 => (sX4_readItem_113 y2 q5) else if 6 ≤ (z.1 0 28) then (sX4_must 0 z).bind fun q6 => (sX4_readItem_40 y1 q6) else (sX4_must 1 z).bind fun q7 => (sX4_readItem_40 y1 q7)
theorem kX4_readItem_18 (y1 : Int32) (y2 : Int32) (z : mm_S) (oo : mm_R) : mm_Xs (sX4_readItem_18 y1 y2 z) (fun v => (fun v : mm_S => ((none, v) : mm_R)) v = oo) (fun n => eX4_readItem_18 n y1 y2 z) oo :=
  xs_row (fun n => qX4_readItem_18 n y1 y2 z) (xs_if (xs_if (xs_bd fun q3 => (xs_if (xs_bd fun q4 => (kX4_readItem_233 q4 oo)) (kX4_readItem_165 q3.2 oo))) (xs_bd fun q5 => (kX4_readItem_113 y2 q5 oo))) (xs_if (xs_bd fun q6 => (kX4_readItem_40 y1 q6 oo)) (xs_bd fun q7 => (kX4_readItem_40 y1 q7 oo))))
noncomputable def sX4_readItem_9 (y1 : Int32) (z : mm_S) : Option (mm_S) := (sX4_oneOf 15 z).bind fun q2 => (sX4_readItem_18 y1 q2.1 q2.2)
theorem kX4_readItem_9 (y1 : Int32) (z : mm_S) (oo : mm_R) : mm_Xs (sX4_readItem_9 y1 z) (fun v => (fun v : mm_S => ((none, v) : mm_R)) v = oo) (fun n => eX4_readItem_9 n y1 z) oo :=
  xs_row (fun n => qX4_readItem_9 n y1 z) (xs_bd fun q2 => (kX4_readItem_18 y1 q2.1 q2.2 oo))
noncomputable def sX4_readItem_0  (z : mm_S) : Option (mm_S) := (sX4_oneOf 14 z).bind fun q1 => (sX4_readItem_9 q1.1 q1.2)
theorem kX4_readItem_0  (z : mm_S) (oo : mm_R) : mm_Xs (sX4_readItem_0  z) (fun v => (fun v : mm_S => ((none, v) : mm_R)) v = oo) (fun n => eX4_readItem_0 n  z) oo :=
  xs_row (fun n => qX4_readItem_0 n z) (xs_bd fun q1 => (kX4_readItem_9 q1.1 q1.2 oo))
noncomputable def sX4_readItem  (z : mm_S) : Option (mm_S) := sX4_readItem_0  z
theorem sp_X4_readItem  (z : mm_S) (hk : ∀ v ∈ [mm_P 4 0], mm_ok 22 lyTM 22 17 v) (q : mm_S) (hq : sX4_readItem  z = some q) : f_X4_readItem [mm_P 4 0] z (none, q) := ⟨Nat.le_of_ble_eq_true rfl, kX4_readItem_0  z _ q hq rfl⟩
noncomputable def clo_X4_readItem (as : List mm_V) (z : mm_S) (kk : Option mm_V → mm_S → Option mm_R) : Option mm_R := mm_pr as fun t o0 as => bif Nat.beq t 4 then (match as with | [] => (sX4_readItem z).bind fun q => kk none q | _ => none) else none
theorem cs_X4_readItem : mm_cs lyTM 22 22 17 f_X4_readItem clo_X4_readItem := by
  intro as z K o hk h
  obtain ⟨t0, o0, r0, rfl, g0⟩ := mm_pr_e h
  obtain ⟨b0, k0⟩ := mm_bif_e g0
  obtain rfl := Nat.eq_of_beq_eq_true b0
  rcases r0 with _ | ⟨u, w⟩
  rotate_left
  · cases k0
  obtain rfl : o0 = 0 := ok4 (hk (mm_P 4 o0) (by simp))
  obtain ⟨q, hq, hq2⟩ := Option.bind_eq_some_iff.mp k0
  exact ⟨_, _, sp_X4_readItem  z hk q hq, (fun v hv => by cases hv), hq2⟩
theorem sV_X4_readItem {own : String} {R : Room} {ar : Nat → Nat} {k : Nat} (hlink : Cond.methodLink own k yX4_readItem ∈ lw_gd ∨ ∃ host, (own, k, yX4_readItem, host) ∈ nmA) (har : ar k = 1) (hr : 7 ≤ R.frames ∧ 155 ≤ R.locals) : mm_okV lyTM lyFA lenM snM 22 22 17 roM rsA nfA nmA [] own R ar k clo_X4_readItem := by
  refine ⟨yX4_readItem, cX4_readItem, 5, none, rm_X4_readItem, f_X4_readItem, 4, 0, (RX4, TX4, 36), M_X4_readItem, cs_X4_readItem, hlink, ⟨wv_X4_readItem, wz_X4_readItem, wi_X4_readItem, wc_X4_readItem⟩, ⟨by decide +kernel, by decide +kernel, by decide +kernel⟩, har, ⟨rfl, rfl, by decide⟩, ?_, ⟨rfl, rfl, hr.1, hr.2⟩⟩
  intro as z K o h
  obtain ⟨t0, o0, r0, rfl, g0⟩ := mm_pr_e h
  obtain ⟨b0, k0⟩ := mm_bif_e g0
  obtain rfl := Nat.eq_of_beq_eq_true b0
  exact ⟨_, _, rfl⟩
-- X4_text
noncomputable def lV_X4_text : List (Nat × (List mm_V → mm_S → (Option mm_V → mm_S → Option mm_R) → Option mm_R)) := [(334, clo_X4_next), (337, clo_X4_must), (383, clo_X4_readItem), (386, clo_X4_isSo)]
noncomputable def mV_X4_text (k : Nat) (as : List mm_V) (z : mm_S) (kk : Option mm_V → mm_S → Option mm_R) : Option mm_R := match mm_at lV_X4_text k with
  | some f => f as z kk
  | none => none
noncomputable def arV_X4_text (k : Nat) : Nat := (mm_at [(334, 1), (337, 2), (383, 1), (386, 2)] k).getD 0
noncomputable def lS_X4_text : List (Nat × (List mm_V → mm_S → (Option mm_V → mm_S → Option mm_R) → Option mm_R)) := []
noncomputable def mS_X4_text (k : Nat) (as : List mm_V) (z : mm_S) (kk : Option mm_V → mm_S → Option mm_R) : Option mm_R := match mm_at lS_X4_text k with
  | some f => f as z kk
  | none => none
noncomputable def arS_X4_text (k : Nat) : Nat := (mm_at [] k).getD 0
def ct_X4_text : List (Nat × List Nat) := [(5, [0]), (10, [0]), (15, [0]), (25, [0]), (35, [0]), (45, [0]), (47, [0, 1]), (70, [0, 1]), (80, [0]), (84, [0]), (118, [0]), (122, [0]), (141, [0]), (146, [0]), (164, [0, 1, 2]), (190, [0, 1, 2])]
noncomputable def go_X4_text : Nat → mm_K := mm_go (fun k => mm_at flX4 k) (fun k => mm_at clX4 k) (fun k => mm_at glX4 k) arV_X4_text arS_X4_text mV_X4_text mS_X4_text lenM roM snM 3 0 tbX4_text ct_X4_text
noncomputable def eX4_text_0 (n : Nat)  (z : mm_S) : Option mm_R := go_X4_text n 0 [(0, mm_P 4 0)] [] z
noncomputable def eX4_text_5 (n : Nat)  (z : mm_S) : Option mm_R := go_X4_text n 5 [(0, mm_P 4 0)] [] z
noncomputable def eX4_text_10 (n : Nat)  (z : mm_S) : Option mm_R := go_X4_text n 10 [(0, mm_P 4 0)] [] z
noncomputable def eX4_text_15 (n : Nat)  (z : mm_S) : Option mm_R := go_X4_text n 15 [(0, mm_P 4 0)] [] z
noncomputable def eX4_text_25 (n : Nat)  (z : mm_S) : Option mm_R := go_X4_text n 25 [(0, mm_P 4 0)] [] z
noncomputable def eX4_text_35 (n : Nat)  (z : mm_S) : Option mm_R := go_X4_text n 35 [(0, mm_P 4 0)] [] z
noncomputable def eX4_text_45 (n : Nat)  (z : mm_S) : Option mm_R := go_X4_text n 45 [(0, mm_P 4 0)] [] z
noncomputable def eX4_text_47 (n : Nat)  (y1 : Int32) (z : mm_S) : Option mm_R := go_X4_text n 47 [(0, mm_P 4 0), (1, mm_I y1)] [] z
noncomputable def eX4_text_80 (n : Nat)  (z : mm_S) : Option mm_R := go_X4_text n 80 [(0, mm_P 4 0)] [] z
noncomputable def eX4_text_70 (n : Nat)  (y1 : Int32) (z : mm_S) : Option mm_R := go_X4_text n 70 [(0, mm_P 4 0), (1, mm_I y1)] [] z
noncomputable def eX4_text_84 (n : Nat)  (z : mm_S) : Option mm_R := go_X4_text n 84 [(0, mm_P 4 0)] [] z
noncomputable def eX4_text_141 (n : Nat)  (z : mm_S) : Option mm_R := go_X4_text n 141 [(0, mm_P 4 0)] [] z
noncomputable def eX4_text_118 (n : Nat)  (z : mm_S) : Option mm_R := go_X4_text n 118 [(0, mm_P 4 0)] [] z
noncomputable def eX4_text_146 (n : Nat)  (z : mm_S) : Option mm_R := go_X4_text n 146 [(0, mm_P 4 0)] [] z
noncomputable def eX4_text_122 (n : Nat)  (z : mm_S) : Option mm_R := go_X4_text n 122 [(0, mm_P 4 0)] [] z
noncomputable def eX4_text_164 (n : Nat)  (y1 : Int32) (y2 : Int32) (z : mm_S) : Option mm_R := go_X4_text n 164 [(0, mm_P 4 0), (1, mm_I y1), (2, mm_I y2)] [] z
noncomputable def eX4_text_190 (n : Nat)  (y1 : Int32) (y2 : Int32) (z : mm_S) : Option mm_R := go_X4_text n 190 [(0, mm_P 4 0), (1, mm_I y1), (2, mm_I y2)] [] z
set_option maxRecDepth 100000 in
theorem qX4_text_0 (n : Nat)  (z : mm_S) : eX4_text_0 (n + 1)  z = (eX4_text_5 n  ((mm_ui z.1 0 20 0), z.2)) := rfl
set_option maxRecDepth 100000 in
theorem qX4_text_5 (n : Nat)  (z : mm_S) : eX4_text_5 (n + 1)  z = (eX4_text_10 n  ((mm_ui z.1 0 23 0), z.2)) := rfl
set_option maxRecDepth 100000 in
theorem qX4_text_10 (n : Nat)  (z : mm_S) : eX4_text_10 (n + 1)  z = (eX4_text_15 n  ((mm_ui z.1 0 27 0), z.2)) := rfl
set_option maxRecDepth 100000 in
theorem qX4_text_15 (n : Nat)  (z : mm_S) : eX4_text_15 (n + 1)  z = (eX4_text_25 n  ((mm_ui z.1 0 28 (z.1 1 1)), z.2)) := rfl
set_option maxRecDepth 100000 in
theorem qX4_text_25 (n : Nat)  (z : mm_S) : eX4_text_25 (n + 1)  z = (eX4_text_35 n  ((mm_ui z.1 0 29 (z.1 1 2)), z.2)) := rfl
set_option maxRecDepth 100000 in
theorem qX4_text_35 (n : Nat)  (z : mm_S) : eX4_text_35 (n + 1)  z = (eX4_text_45 n  ((mm_ui z.1 0 30 (z.1 1 3)), z.2)) := rfl
set_option maxRecDepth 100000 in
theorem qX4_text_45 (n : Nat)  (z : mm_S) : eX4_text_45 (n + 1)  z = (eX4_text_47 n 0 z) := rfl
set_option maxRecDepth 100000 in
theorem qX4_text_47 (n : Nat)  (y1 : Int32) (z : mm_S) : eX4_text_47 (n + 1) y1 z = (if (z.1 0 30) ≤ y1 then (sX4_next  z).bind fun q1 => eX4_text_80 n  q1 else if (69 + y1) < 0 ∨ 97 ≤ Int32.toNatClampNeg (69 + y1) then none else if y1 < 0 ∨ 4 ≤ Int32.toNatClampNeg y1 then none else let u2 : mm_S := ((mm_ui z.1 17 (Int32.toNatClampNeg y1) (z.1 1 (Int32.toNatClampNeg (69 + y1)))), z.2); eX4_text_70 n y1 u2) := rfl
set_option maxRecDepth 100000 in
theorem qX4_text_80 (n : Nat)  (z : mm_S) : eX4_text_80 (n + 1)  z = ((sX4_readItem  z).bind fun q3 => eX4_text_84 n  q3) := rfl
set_option maxRecDepth 100000 in
theorem qX4_text_70 (n : Nat)  (y1 : Int32) (z : mm_S) : eX4_text_70 (n + 1) y1 z = (eX4_text_47 n (y1 + 1) z) := rfl
set_option maxRecDepth 100000 in
theorem qX4_text_84 (n : Nat)  (z : mm_S) : eX4_text_84 (n + 1)  z = (if (z.1 0 23) = 0 then if (z.1 0 21) = 3 then if (z.1 0 19) < 0 ∨ 120 ≤ Int32.toNatClampNeg (z.1 0 19) then none else if (z.1 13 (Int32.toNatClampNeg (z.1 0 19))) = 59 then (sX4_must 1 z).bind fun q10 => eX4_text_118 n  q10 else if (z.1 0 21) = 0 then (sX4_must 1 z).bind fun q9 => eX4_text_141 n  q9 else (sX4_must 0 z).bind fun q8 => eX4_text_141 n  q8 else if (z.1 0 21) = 0 then (sX4_must 1 z).bind fun q7 => eX4_text_141 n  q7 else (sX4_must 0 z).bind fun q6 => eX4_text_141 n  q6 else if (z.1 0 21) = 0 then (sX4_must 1 z).bind fun q5 => eX4_text_141 n  q5 else (sX4_must 0 z).bind fun q4 => eX4_text_141 n  q4) := rfl
set_option maxRecDepth 100000 in
theorem qX4_text_141 (n : Nat)  (z : mm_S) : eX4_text_141 (n + 1)  z = (eX4_text_146 n  ((mm_ui z.1 0 18 0), z.2)) := rfl
set_option maxRecDepth 100000 in
theorem qX4_text_118 (n : Nat)  (z : mm_S) : eX4_text_118 (n + 1)  z = ((sX4_readItem  z).bind fun q11 => eX4_text_122 n  q11) := rfl
set_option maxRecDepth 100000 in
theorem qX4_text_146 (n : Nat)  (z : mm_S) : eX4_text_146 (n + 1)  z = (if (z.1 0 23) = 0 then eX4_text_164 n 0 0 z else some (some (mm_I ((-1) - (z.1 0 19))), z)) := rfl
set_option maxRecDepth 100000 in
theorem qX4_text_122 (n : Nat)  (z : mm_S) : eX4_text_122 (n + 1)  z = (eX4_text_84 n  z) := rfl
set_option maxRecDepth 100000 in
theorem qX4_text_164 (n : Nat)  (y1 : Int32) (y2 : Int32) (z : mm_S) : eX4_text_164 (n + 1) y1 y2 z = (if (z.1 0 27) ≤ y2 then some (some (mm_I y1), z) else (sX4_isSo (4 * y2) z).bind fun q12 => if 0 ≤ q12.1 then eX4_text_190 n (y1 + 1) y2 q12.2 else eX4_text_190 n (y1 + 0) y2 q12.2) := rfl
set_option maxRecDepth 100000 in
theorem qX4_text_190 (n : Nat)  (y1 : Int32) (y2 : Int32) (z : mm_S) : eX4_text_190 (n + 1) y1 y2 z = (eX4_text_164 n y1 (y2 + 1) z) := rfl
def rm_X4_text : Room := { frames := 7, cells := 0, slots := 0, locals := 155 }
noncomputable def f_X4_text (as : List mm_V) (z : mm_S) (o : mm_R) : Prop := (as.map mm_cat).sum ≤ 3 ∧ ∃ n, go_X4_text n 0 (mm_ar 0 as) [] z = some o
theorem M_X4_text : mm_M lyTM lyFA lenM snM 22 22 17 roM rsA nfA nmA [] yX4_text cX4_text 3 (some .int) rm_X4_text f_X4_text :=
  mm_met (rt := 0) (by decide +kernel) ⟨fun h => rfl, fun h => absurd h (by decide), fun h => absurd h (by decide), fun h => absurd h (by decide)⟩ tbX4_text_ok hsnM okFX4 okLX4 (fun _ h => absurd h List.not_mem_nil) (fun _ _ _ _ => rfl) (fun _ _ _ _ => rfl) (List.forall_mem_cons.mpr ⟨sV_X4_next (Or.inl lk_X4_334) rfl ⟨by decide, by decide⟩, List.forall_mem_cons.mpr ⟨sV_X4_must (Or.inl lk_X4_337) rfl ⟨by decide, by decide⟩, List.forall_mem_cons.mpr ⟨sV_X4_readItem (Or.inl lk_X4_383) rfl ⟨by decide, by decide⟩, List.forall_mem_cons.mpr ⟨sV_X4_isSo (Or.inl lk_X4_386) rfl ⟨by decide, by decide⟩, fun _ h => absurd h List.not_mem_nil⟩⟩⟩⟩) (fun _ h => absurd h List.not_mem_nil)
noncomputable def sX4_text_70 (y1 : Int32) (z : mm_S) : Option ((Int32 × mm_S) ⊕ (Int32 × mm_S)) := some (.inl ((y1 + 1), z))
theorem kX4_text_70 (y1 : Int32) (z : mm_S) (oo : mm_R) : mm_Xs (sX4_text_70 y1 z) (mm_mt (fun x : Int32 × mm_S => ∃ n, eX4_text_47 n x.1 x.2 = some oo) (fun v => (fun v : Int32 × mm_S => ((some (mm_I v.1), v.2) : mm_R)) v = oo)) (fun n => eX4_text_70 n y1 z) oo :=
  xs_row (fun n => qX4_text_70 n y1 z) (xs_v fun hc => hc)
noncomputable def sX4_text_122  (z : mm_S) : Option ((mm_S) ⊕ (Int32 × mm_S)) := some (.inl z)
theorem kX4_text_122  (z : mm_S) (oo : mm_R) : mm_Xs (sX4_text_122  z) (mm_mt (fun x : mm_S => ∃ n, eX4_text_84 n  x = some oo) (fun v => (fun v : Int32 × mm_S => ((some (mm_I v.1), v.2) : mm_R)) v = oo)) (fun n => eX4_text_122 n  z) oo :=
  xs_row (fun n => qX4_text_122 n z) (xs_v fun hc => hc)
noncomputable def sX4_text_118  (z : mm_S) : Option ((mm_S) ⊕ (Int32 × mm_S)) := (sX4_readItem  z).bind fun q11 => (sX4_text_122 q11)
theorem kX4_text_118  (z : mm_S) (oo : mm_R) : mm_Xs (sX4_text_118  z) (mm_mt (fun x : mm_S => ∃ n, eX4_text_84 n  x = some oo) (fun v => (fun v : Int32 × mm_S => ((some (mm_I v.1), v.2) : mm_R)) v = oo)) (fun n => eX4_text_118 n  z) oo :=
  xs_row (fun n => qX4_text_118 n z) (xs_bd fun q11 => (kX4_text_122 q11 oo))
noncomputable def sX4_text_190 (y1 : Int32) (y2 : Int32) (z : mm_S) : Option ((Int32 × Int32 × mm_S) ⊕ (Int32 × mm_S)) := some (.inl (y1, (y2 + 1), z))
theorem kX4_text_190 (y1 : Int32) (y2 : Int32) (z : mm_S) (oo : mm_R) : mm_Xs (sX4_text_190 y1 y2 z) (mm_mt (fun x : Int32 × Int32 × mm_S => ∃ n, eX4_text_164 n x.1 x.2.1 x.2.2 = some oo) (fun v => (fun v : Int32 × mm_S => ((some (mm_I v.1), v.2) : mm_R)) v = oo)) (fun n => eX4_text_190 n y1 y2 z) oo :=
  xs_row (fun n => qX4_text_190 n y1 y2 z) (xs_v fun hc => hc)
noncomputable def lX4_text_164 (s : Int32 × Int32 × mm_S) : Option ((Int32 × Int32 × mm_S) ⊕ (Int32 × mm_S)) := if (s.2.2.1 0 27) ≤ s.2.1 then some (.inr (s.1, s.2.2)) else (sX4_isSo (4 * s.2.1) s.2.2).bind fun q12 => if 0 ≤ q12.1 then (sX4_text_190 (s.1 + 1) s.2.1 q12.2) else (sX4_text_190 (s.1 + 0) s.2.1 q12.2)
noncomputable def sX4_text_164 (y1 : Int32) (y2 : Int32) (z : mm_S) : Option (Int32 × mm_S) := mm_wh (lX4_text_164 ) mm_fu (y1, y2, z)
theorem kX4_text_164 (y1 : Int32) (y2 : Int32) (z : mm_S) (oo : mm_R) : mm_Xs (sX4_text_164 y1 y2 z) (fun v => (fun v : Int32 × mm_S => ((some (mm_I v.1), v.2) : mm_R)) v = oo) (fun n => eX4_text_164 n y1 y2 z) oo :=
  xs_wh (stp := lX4_text_164 ) (o := oo) (E := (fun (s : Int32 × Int32 × mm_S) n => eX4_text_164 n s.1 s.2.1 s.2.2)) (C := (fun v => (fun v : Int32 × mm_S => ((some (mm_I v.1), v.2) : mm_R)) v = oo)) (fun s => xs_row (fun n => qX4_text_164 n s.1 s.2.1 s.2.2) (xs_if (xs_v fun hc => ⟨0, congrArg some hc⟩) (xs_bd fun q12 => (xs_if (kX4_text_190 (s.1 + 1) s.2.1 q12.2 oo) (kX4_text_190 (s.1 + 0) s.2.1 q12.2 oo))))) mm_fu (y1, y2, z)
noncomputable def sX4_text_146  (z : mm_S) : Option (Int32 × mm_S) := if (z.1 0 23) = 0 then (sX4_text_164 0 0 z) else some (((-1) - (z.1 0 19)), z)
theorem kX4_text_146  (z : mm_S) (oo : mm_R) : mm_Xs (sX4_text_146  z) (fun v => (fun v : Int32 × mm_S => ((some (mm_I v.1), v.2) : mm_R)) v = oo) (fun n => eX4_text_146 n  z) oo :=
  xs_row (fun n => qX4_text_146 n z) (xs_if (kX4_text_164 0 0 z oo) (xs_v fun hc => ⟨0, congrArg some hc⟩))
noncomputable def sX4_text_141  (z : mm_S) : Option (Int32 × mm_S) := (sX4_text_146 ((mm_ui z.1 0 18 0), z.2))
theorem kX4_text_141  (z : mm_S) (oo : mm_R) : mm_Xs (sX4_text_141  z) (fun v => (fun v : Int32 × mm_S => ((some (mm_I v.1), v.2) : mm_R)) v = oo) (fun n => eX4_text_141 n  z) oo :=
  xs_row (fun n => qX4_text_141 n z) (kX4_text_146 ((mm_ui z.1 0 18 0), z.2) oo)
noncomputable def lX4_text_84 (s : mm_S) : Option ((mm_S) ⊕ (Int32 × mm_S)) := if (s.1 0 23) = 0 then if (s.1 0 21) = 3 then if (s.1 0 19) < 0 ∨ 120 ≤ Int32.toNatClampNeg (s.1 0 19) then none else if (s.1 13 (Int32.toNatClampNeg (s.1 0 19))) = 59 then (sX4_must 1 s).bind fun q10 => (sX4_text_118 q10) else if (s.1 0 21) = 0 then (sX4_must 1 s).bind fun q9 => ((sX4_text_141 q9).map fun w => (Sum.inr w)) else (sX4_must 0 s).bind fun q8 => ((sX4_text_141 q8).map fun w => (Sum.inr w)) else if (s.1 0 21) = 0 then (sX4_must 1 s).bind fun q7 => ((sX4_text_141 q7).map fun w => (Sum.inr w)) else (sX4_must 0 s).bind fun q6 => ((sX4_text_141 q6).map fun w => (Sum.inr w)) else if (s.1 0 21) = 0 then (sX4_must 1 s).bind fun q5 => ((sX4_text_141 q5).map fun w => (Sum.inr w)) else (sX4_must 0 s).bind fun q4 => ((sX4_text_141 q4).map fun w => (Sum.inr w))
noncomputable def sX4_text_84  (z : mm_S) : Option (Int32 × mm_S) := mm_wh (lX4_text_84 ) mm_fu z
theorem kX4_text_84  (z : mm_S) (oo : mm_R) : mm_Xs (sX4_text_84  z) (fun v => (fun v : Int32 × mm_S => ((some (mm_I v.1), v.2) : mm_R)) v = oo) (fun n => eX4_text_84 n  z) oo :=
  xs_wh (stp := lX4_text_84 ) (o := oo) (E := (fun (s : mm_S) n => eX4_text_84 n  s)) (C := (fun v => (fun v : Int32 × mm_S => ((some (mm_I v.1), v.2) : mm_R)) v = oo)) (fun s => xs_row (fun n => qX4_text_84 n s) (xs_if (xs_if (xs_if xs_n (xs_if (xs_bd fun q10 => (kX4_text_118 q10 oo)) (xs_if (xs_bd fun q9 => (xs_map (f := fun w => (Sum.inr w)) (kX4_text_141 q9 oo) (fun _ h => h))) (xs_bd fun q8 => (xs_map (f := fun w => (Sum.inr w)) (kX4_text_141 q8 oo) (fun _ h => h)))))) (xs_if (xs_bd fun q7 => (xs_map (f := fun w => (Sum.inr w)) (kX4_text_141 q7 oo) (fun _ h => h))) (xs_bd fun q6 => (xs_map (f := fun w => (Sum.inr w)) (kX4_text_141 q6 oo) (fun _ h => h))))) (xs_if (xs_bd fun q5 => (xs_map (f := fun w => (Sum.inr w)) (kX4_text_141 q5 oo) (fun _ h => h))) (xs_bd fun q4 => (xs_map (f := fun w => (Sum.inr w)) (kX4_text_141 q4 oo) (fun _ h => h)))))) mm_fu z
noncomputable def sX4_text_80  (z : mm_S) : Option (Int32 × mm_S) := (sX4_readItem  z).bind fun q3 => (sX4_text_84 q3)
theorem kX4_text_80  (z : mm_S) (oo : mm_R) : mm_Xs (sX4_text_80  z) (fun v => (fun v : Int32 × mm_S => ((some (mm_I v.1), v.2) : mm_R)) v = oo) (fun n => eX4_text_80 n  z) oo :=
  xs_row (fun n => qX4_text_80 n z) (xs_bd fun q3 => (kX4_text_84 q3 oo))
noncomputable def lX4_text_47 (s : Int32 × mm_S) : Option ((Int32 × mm_S) ⊕ (Int32 × mm_S)) := if (s.2.1 0 30) ≤ s.1 then (sX4_next  s.2).bind fun q1 => ((sX4_text_80 q1).map fun w => (Sum.inr w)) else if (69 + s.1) < 0 ∨ 97 ≤ Int32.toNatClampNeg (69 + s.1) then none else if s.1 < 0 ∨ 4 ≤ Int32.toNatClampNeg s.1 then none else let u2 : mm_S := ((mm_ui s.2.1 17 (Int32.toNatClampNeg s.1) (s.2.1 1 (Int32.toNatClampNeg (69 + s.1)))), s.2.2); (sX4_text_70 s.1 u2)
noncomputable def sX4_text_47 (y1 : Int32) (z : mm_S) : Option (Int32 × mm_S) := mm_wh (lX4_text_47 ) mm_fu (y1, z)
theorem kX4_text_47 (y1 : Int32) (z : mm_S) (oo : mm_R) : mm_Xs (sX4_text_47 y1 z) (fun v => (fun v : Int32 × mm_S => ((some (mm_I v.1), v.2) : mm_R)) v = oo) (fun n => eX4_text_47 n y1 z) oo :=
  xs_wh (stp := lX4_text_47 ) (o := oo) (E := (fun (s : Int32 × mm_S) n => eX4_text_47 n s.1 s.2)) (C := (fun v => (fun v : Int32 × mm_S => ((some (mm_I v.1), v.2) : mm_R)) v = oo)) (fun s => xs_row (fun n => qX4_text_47 n s.1 s.2) (xs_if (xs_bd fun q1 => (xs_map (f := fun w => (Sum.inr w)) (kX4_text_80 q1 oo) (fun _ h => h))) (xs_if xs_n (xs_if xs_n (let u2 : mm_S := ((mm_ui s.2.1 17 (Int32.toNatClampNeg s.1) (s.2.1 1 (Int32.toNatClampNeg (69 + s.1)))), s.2.2); (kX4_text_70 s.1 u2 oo)))))) mm_fu (y1, z)
noncomputable def sX4_text_45  (z : mm_S) : Option (Int32 × mm_S) := (sX4_text_47 0 z)
theorem kX4_text_45  (z : mm_S) (oo : mm_R) : mm_Xs (sX4_text_45  z) (fun v => (fun v : Int32 × mm_S => ((some (mm_I v.1), v.2) : mm_R)) v = oo) (fun n => eX4_text_45 n  z) oo :=
  xs_row (fun n => qX4_text_45 n z) (kX4_text_47 0 z oo)
noncomputable def sX4_text_35  (z : mm_S) : Option (Int32 × mm_S) := (sX4_text_45 ((mm_ui z.1 0 30 (z.1 1 3)), z.2))
theorem kX4_text_35  (z : mm_S) (oo : mm_R) : mm_Xs (sX4_text_35  z) (fun v => (fun v : Int32 × mm_S => ((some (mm_I v.1), v.2) : mm_R)) v = oo) (fun n => eX4_text_35 n  z) oo :=
  xs_row (fun n => qX4_text_35 n z) (kX4_text_45 ((mm_ui z.1 0 30 (z.1 1 3)), z.2) oo)
noncomputable def sX4_text_25  (z : mm_S) : Option (Int32 × mm_S) := (sX4_text_35 ((mm_ui z.1 0 29 (z.1 1 2)), z.2))
theorem kX4_text_25  (z : mm_S) (oo : mm_R) : mm_Xs (sX4_text_25  z) (fun v => (fun v : Int32 × mm_S => ((some (mm_I v.1), v.2) : mm_R)) v = oo) (fun n => eX4_text_25 n  z) oo :=
  xs_row (fun n => qX4_text_25 n z) (kX4_text_35 ((mm_ui z.1 0 29 (z.1 1 2)), z.2) oo)
noncomputable def sX4_text_15  (z : mm_S) : Option (Int32 × mm_S) := (sX4_text_25 ((mm_ui z.1 0 28 (z.1 1 1)), z.2))
theorem kX4_text_15  (z : mm_S) (oo : mm_R) : mm_Xs (sX4_text_15  z) (fun v => (fun v : Int32 × mm_S => ((some (mm_I v.1), v.2) : mm_R)) v = oo) (fun n => eX4_text_15 n  z) oo :=
  xs_row (fun n => qX4_text_15 n z) (kX4_text_25 ((mm_ui z.1 0 28 (z.1 1 1)), z.2) oo)
noncomputable def sX4_text_10  (z : mm_S) : Option (Int32 × mm_S) := (sX4_text_15 ((mm_ui z.1 0 27 0), z.2))
theorem kX4_text_10  (z : mm_S) (oo : mm_R) : mm_Xs (sX4_text_10  z) (fun v => (fun v : Int32 × mm_S => ((some (mm_I v.1), v.2) : mm_R)) v = oo) (fun n => eX4_text_10 n  z) oo :=
  xs_row (fun n => qX4_text_10 n z) (kX4_text_15 ((mm_ui z.1 0 27 0), z.2) oo)
noncomputable def sX4_text_5  (z : mm_S) : Option (Int32 × mm_S) := (sX4_text_10 ((mm_ui z.1 0 23 0), z.2))
theorem kX4_text_5  (z : mm_S) (oo : mm_R) : mm_Xs (sX4_text_5  z) (fun v => (fun v : Int32 × mm_S => ((some (mm_I v.1), v.2) : mm_R)) v = oo) (fun n => eX4_text_5 n  z) oo :=
  xs_row (fun n => qX4_text_5 n z) (kX4_text_10 ((mm_ui z.1 0 23 0), z.2) oo)
noncomputable def sX4_text_0  (z : mm_S) : Option (Int32 × mm_S) := (sX4_text_5 ((mm_ui z.1 0 20 0), z.2))
theorem kX4_text_0  (z : mm_S) (oo : mm_R) : mm_Xs (sX4_text_0  z) (fun v => (fun v : Int32 × mm_S => ((some (mm_I v.1), v.2) : mm_R)) v = oo) (fun n => eX4_text_0 n  z) oo :=
  xs_row (fun n => qX4_text_0 n z) (kX4_text_5 ((mm_ui z.1 0 20 0), z.2) oo)
noncomputable def sX4_text  (z : mm_S) : Option (Int32 × mm_S) := sX4_text_0  z
theorem sp_X4_text  (z : mm_S) (hk : ∀ v ∈ [mm_P 4 0], mm_ok 22 lyTM 22 17 v) (q : Int32 × mm_S) (hq : sX4_text  z = some q) : f_X4_text [mm_P 4 0] z (some (mm_I q.1), q.2) := ⟨Nat.le_of_ble_eq_true rfl, kX4_text_0  z _ q hq rfl⟩
noncomputable def clo_X4_text (as : List mm_V) (z : mm_S) (kk : Option mm_V → mm_S → Option mm_R) : Option mm_R := mm_pr as fun t o0 as => bif Nat.beq t 4 then (match as with | [] => (sX4_text z).bind fun q => kk (some (mm_I q.1)) q.2 | _ => none) else none
theorem cs_X4_text : mm_cs lyTM 22 22 17 f_X4_text clo_X4_text := by
  intro as z K o hk h
  obtain ⟨t0, o0, r0, rfl, g0⟩ := mm_pr_e h
  obtain ⟨b0, k0⟩ := mm_bif_e g0
  obtain rfl := Nat.eq_of_beq_eq_true b0
  rcases r0 with _ | ⟨u, w⟩
  rotate_left
  · cases k0
  obtain rfl : o0 = 0 := ok4 (hk (mm_P 4 o0) (by simp))
  obtain ⟨q, hq, hq2⟩ := Option.bind_eq_some_iff.mp k0
  exact ⟨_, _, sp_X4_text  z hk q hq, fun v hv => by cases hv; exact Or.inl ⟨_, rfl⟩, hq2⟩
theorem sV_X4_text {own : String} {R : Room} {ar : Nat → Nat} {k : Nat} (hlink : Cond.methodLink own k yX4_text ∈ lw_gd ∨ ∃ host, (own, k, yX4_text, host) ∈ nmA) (har : ar k = 1) (hr : 8 ≤ R.frames ∧ 177 ≤ R.locals) : mm_okV lyTM lyFA lenM snM 22 22 17 roM rsA nfA nmA [] own R ar k clo_X4_text := by
  refine ⟨yX4_text, cX4_text, 3, some .int, rm_X4_text, f_X4_text, 4, 0, (RX4, TX4, 36), M_X4_text, cs_X4_text, hlink, ⟨wv_X4_text, wz_X4_text, wi_X4_text, wc_X4_text⟩, ⟨by decide +kernel, by decide +kernel, by decide +kernel⟩, har, ⟨rfl, rfl, by decide⟩, ?_, ⟨rfl, rfl, hr.1, hr.2⟩⟩
  intro as z K o h
  obtain ⟨t0, o0, r0, rfl, g0⟩ := mm_pr_e h
  obtain ⟨b0, k0⟩ := mm_bif_e g0
  obtain rfl := Nat.eq_of_beq_eq_true b0
  exact ⟨_, _, rfl⟩
