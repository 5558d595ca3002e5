/-- how often a loop may go round: a number that nothing counts out -/
noncomputable def mm_fu : Nat := Classical.choose (p := fun n => n = 1000000) ⟨1000000, rfl⟩
theorem mm_fu_e : mm_fu = 1000000 := Classical.choose_spec (p := fun n => n = 1000000) ⟨1000000, rfl⟩
theorem xs_map {α ρ : Type} {x : Option α} {f : α → ρ} {C : ρ → Prop} {D : α → Prop} {T : Nat → Option mm_R} {o : mm_R} (h : mm_Xs x D T o) (hc : ∀ w, C (f w) → D w) : mm_Xs (x.map f) C T o := by
  intro w hw hC
  cases x with
  | none => cases hw
  | some a =>
    obtain rfl : f a = w := Option.some.inj hw
    exact h a rfl (hc a hC)
-- X1_cellsComeIntoAt
noncomputable def lV_X1_cellsComeIntoAt : List (Nat × (List mm_V → mm_S → (Option mm_V → mm_S → Option mm_R) → Option mm_R)) := []
noncomputable def mV_X1_cellsComeIntoAt (k : Nat) (as : List mm_V) (z : mm_S) (kk : Option mm_V → mm_S → Option mm_R) : Option mm_R := match mm_at lV_X1_cellsComeIntoAt k with
  | some f => f as z kk
  | none => none
noncomputable def arV_X1_cellsComeIntoAt (k : Nat) : Nat := (mm_at [] k).getD 0
noncomputable def lS_X1_cellsComeIntoAt : List (Nat × (List mm_V → mm_S → (Option mm_V → mm_S → Option mm_R) → Option mm_R)) := [(20, clo_X3_putBits), (36, clo_X3_bitsAt), (52, clo_X3_at14), (72, clo_X3_besides)]
noncomputable def mS_X1_cellsComeIntoAt (k : Nat) (as : List mm_V) (z : mm_S) (kk : Option mm_V → mm_S → Option mm_R) : Option mm_R := match mm_at lS_X1_cellsComeIntoAt k with
  | some f => f as z kk
  | none => none
noncomputable def arS_X1_cellsComeIntoAt (k : Nat) : Nat := (mm_at [(20, 3), (36, 2), (52, 2), (72, 1)] k).getD 0
def ct_X1_cellsComeIntoAt : List (Nat × List Nat) := [(83, [0, 1, 3, 5, 7])]
noncomputable def go_X1_cellsComeIntoAt : Nat → mm_K := mm_go (fun k => mm_at flX1 k) (fun k => mm_at clX1 k) (fun k => mm_at glX1 k) arV_X1_cellsComeIntoAt arS_X1_cellsComeIntoAt mV_X1_cellsComeIntoAt mS_X1_cellsComeIntoAt lenX roX snX 9 2 tbX1_cellsComeIntoAt ct_X1_cellsComeIntoAt
noncomputable def eX1_cellsComeIntoAt_0 (n : Nat) (o : Nat) (x1 : Int32) (z : mm_S) : Option mm_R := go_X1_cellsComeIntoAt n 0 [(0, mm_P 1 o), (1, mm_I x1)] [] z
noncomputable def eX1_cellsComeIntoAt_83 (n : Nat) (o : Nat) (y1 : Int32) (y3 : Int64) (y5 : Int64) (y7 : Int32) (z : mm_S) : Option mm_R := go_X1_cellsComeIntoAt n 83 [(0, mm_P 1 o), (1, mm_I y1), (3, mm_J y3), (5, mm_J y5), (7, mm_I y7)] [] z
set_option maxRecDepth 100000 in
theorem qX1_cellsComeIntoAt_0_2 (n : Nat)  (x1 : Int32) (z : mm_S) : eX1_cellsComeIntoAt_0 (n + 1) 2 x1 z = (let v1 : Int64 := ((pX3_bitsAt 4 (x1 &&& 7) z) &&& ((z.2 2 2) ^^^ (-1))); let u2 := (tX3_putBits 4 (x1 &&& 7) 0 z); if (lg_cmp v1 0) = 0 then some (some (mm_J 0), u2) else let v3 : Int64 := ((pX3_besides v1) &&& (((mm_ul u2.2 2 2 ((u2.2 2 2) ||| v1)) 2 2) ^^^ (-1))); if (lg_cmp v3 0) = 0 then eX1_cellsComeIntoAt_83 n 2 x1 v1 v3 0 (u2.1, (mm_ul u2.2 2 2 ((u2.2 2 2) ||| v1))) else eX1_cellsComeIntoAt_83 n 2 x1 v1 v3 0 ((mm_ui u2.1 2 3 (x1 + 6)), (mm_ul u2.2 2 2 ((u2.2 2 2) ||| v1)))) := rfl
set_option maxRecDepth 100000 in
theorem qX1_cellsComeIntoAt_83_2 (n : Nat)  (y1 : Int32) (y3 : Int64) (y5 : Int64) (y7 : Int32) (z : mm_S) : eX1_cellsComeIntoAt_83 (n + 1) 2 y1 y3 y5 y7 z = (if 5 ≤ y7 then some (some (mm_J y3), z) else if y7 = 2 then eX1_cellsComeIntoAt_83 n 2 y1 y3 y5 (y7 + 1) z else let u4 := (tX3_putBits 4 ((y1 + (pX3_at14 46 y7)) &&& 7) ((pX3_bitsAt 4 ((y1 + (pX3_at14 46 y7)) &&& 7) z) ||| (y5 &&& (pX3_bitsAt 3 y7 z))) z); eX1_cellsComeIntoAt_83 n 2 y1 y3 y5 (y7 + 1) u4) := rfl
set_option maxRecDepth 100000 in
theorem qX1_cellsComeIntoAt_0_14 (n : Nat)  (x1 : Int32) (z : mm_S) : eX1_cellsComeIntoAt_0 (n + 1) 14 x1 z = (let v1 : Int64 := ((pX3_bitsAt 16 (x1 &&& 7) z) &&& ((z.2 14 2) ^^^ (-1))); let u2 := (tX3_putBits 16 (x1 &&& 7) 0 z); if (lg_cmp v1 0) = 0 then some (some (mm_J 0), u2) else let v3 : Int64 := ((pX3_besides v1) &&& (((mm_ul u2.2 14 2 ((u2.2 14 2) ||| v1)) 14 2) ^^^ (-1))); if (lg_cmp v3 0) = 0 then eX1_cellsComeIntoAt_83 n 14 x1 v1 v3 0 (u2.1, (mm_ul u2.2 14 2 ((u2.2 14 2) ||| v1))) else eX1_cellsComeIntoAt_83 n 14 x1 v1 v3 0 ((mm_ui u2.1 14 3 (x1 + 6)), (mm_ul u2.2 14 2 ((u2.2 14 2) ||| v1)))) := rfl
set_option maxRecDepth 100000 in
theorem qX1_cellsComeIntoAt_83_14 (n : Nat)  (y1 : Int32) (y3 : Int64) (y5 : Int64) (y7 : Int32) (z : mm_S) : eX1_cellsComeIntoAt_83 (n + 1) 14 y1 y3 y5 y7 z = (if 5 ≤ y7 then some (some (mm_J y3), z) else if y7 = 2 then eX1_cellsComeIntoAt_83 n 14 y1 y3 y5 (y7 + 1) z else let u4 := (tX3_putBits 16 ((y1 + (pX3_at14 46 y7)) &&& 7) ((pX3_bitsAt 16 ((y1 + (pX3_at14 46 y7)) &&& 7) z) ||| (y5 &&& (pX3_bitsAt 15 y7 z))) z); eX1_cellsComeIntoAt_83 n 14 y1 y3 y5 (y7 + 1) u4) := rfl
set_option maxRecDepth 100000 in
theorem qX1_cellsComeIntoAt_0_26 (n : Nat)  (x1 : Int32) (z : mm_S) : eX1_cellsComeIntoAt_0 (n + 1) 26 x1 z = (let v1 : Int64 := ((pX3_bitsAt 28 (x1 &&& 7) z) &&& ((z.2 26 2) ^^^ (-1))); let u2 := (tX3_putBits 28 (x1 &&& 7) 0 z); if (lg_cmp v1 0) = 0 then some (some (mm_J 0), u2) else let v3 : Int64 := ((pX3_besides v1) &&& (((mm_ul u2.2 26 2 ((u2.2 26 2) ||| v1)) 26 2) ^^^ (-1))); if (lg_cmp v3 0) = 0 then eX1_cellsComeIntoAt_83 n 26 x1 v1 v3 0 (u2.1, (mm_ul u2.2 26 2 ((u2.2 26 2) ||| v1))) else eX1_cellsComeIntoAt_83 n 26 x1 v1 v3 0 ((mm_ui u2.1 26 3 (x1 + 6)), (mm_ul u2.2 26 2 ((u2.2 26 2) ||| v1)))) := rfl
set_option maxRecDepth 100000 in
theorem qX1_cellsComeIntoAt_83_26 (n : Nat)  (y1 : Int32) (y3 : Int64) (y5 : Int64) (y7 : Int32) (z : mm_S) : eX1_cellsComeIntoAt_83 (n + 1) 26 y1 y3 y5 y7 z = (if 5 ≤ y7 then some (some (mm_J y3), z) else if y7 = 2 then eX1_cellsComeIntoAt_83 n 26 y1 y3 y5 (y7 + 1) z else let u4 := (tX3_putBits 28 ((y1 + (pX3_at14 46 y7)) &&& 7) ((pX3_bitsAt 28 ((y1 + (pX3_at14 46 y7)) &&& 7) z) ||| (y5 &&& (pX3_bitsAt 27 y7 z))) z); eX1_cellsComeIntoAt_83 n 26 y1 y3 y5 (y7 + 1) u4) := rfl
def rm_X1_cellsComeIntoAt : Room := { frames := 1, cells := 0, slots := 0, locals := 29 }
noncomputable def f_X1_cellsComeIntoAt (as : List mm_V) (z : mm_S) (o : mm_R) : Prop := (as.map mm_cat).sum ≤ 9 ∧ ∃ n, go_X1_cellsComeIntoAt n 0 (mm_ar 0 as) [] z = some o
theorem M_X1_cellsComeIntoAt : mm_M lyTX lyFA lenX snX 46 48 17 roX rsA nfA nmA ssX yX1_cellsComeIntoAt cX1_cellsComeIntoAt 9 (some .long) rm_X1_cellsComeIntoAt f_X1_cellsComeIntoAt :=
  mm_met (rt := 2) (by decide +kernel) ⟨fun h => absurd h (by decide), fun h => absurd h (by decide), fun h => rfl, fun h => absurd h (by decide)⟩ tbX1_cellsComeIntoAt_ok hsnX okFX1 okLX1 okGX1 (fun _ _ _ _ => rfl) (fun _ _ _ _ => rfl) (fun _ h => absurd h List.not_mem_nil) (List.forall_mem_cons.mpr ⟨sS_X3_putBits (Or.inr ⟨_, ln_X1_20⟩) rfl ⟨by decide, by decide⟩, List.forall_mem_cons.mpr ⟨sS_X3_bitsAt (Or.inr ⟨_, ln_X1_36⟩) rfl ⟨by decide, by decide⟩, List.forall_mem_cons.mpr ⟨sS_X3_at14 (Or.inr ⟨_, ln_X1_52⟩) rfl ⟨by decide, by decide⟩, List.forall_mem_cons.mpr ⟨sS_X3_besides (Or.inr ⟨_, ln_X1_72⟩) rfl ⟨by decide, by decide⟩, fun _ h => absurd h List.not_mem_nil⟩⟩⟩⟩)
/-- the slot of a time -/
noncomputable def rk_sl (t : Int32) : Nat := Int32.toNatClampNeg (t &&& 7)
theorem rk_sl_g (t : Int32) : ¬ ((t &&& 7) < 0 ∨ 8 ≤ Int32.toNatClampNeg (t &&& 7)) := pk_andIn t 3 rfl (by decide)
/-- what is under way: into the slots of the stuffs from one on -/
noncomputable def rk_in (t : Int32) (nx : Int64) (sets : Nat → Int64) : Nat → Nat → (Nat → Int64) → (Nat → Int64)
  | 0, _, g => g
  | k + 1, j, g => rk_in t nx sets k (j + 1) (if j = 2 then g else vp_updL g (rk_sl (t + pX3_at14 46 (nI j))) (g (rk_sl (t + pX3_at14 46 (nI j))) ||| (nx &&& sets j)))
/-- the cells that sound comes into first at a time; what is reached then; where it goes on to -/
noncomputable def rk_he (o : Nat) (t : Int32) (z : mm_S) : Int64 := z.2 (o + 2) (rk_sl t) &&& (z.2 o 2 ^^^ (-1))
noncomputable def rk_nx (o : Nat) (t : Int32) (z : mm_S) : Int64 := pX3_besides (rk_he o t z) &&& ((z.2 o 2 ||| rk_he o t z) ^^^ (-1))
noncomputable def tX1_cellsComeIntoAt (o : Nat) (t : Int32) (z : mm_S) : Int64 × mm_S :=
  if lg_cmp (rk_he o t z) 0 = 0 then (0, (z.1, mm_rw z.2 (o + 2) (vp_updL (z.2 (o + 2)) (rk_sl t) 0)))
  else (rk_he o t z, (if lg_cmp (rk_nx o t z) 0 = 0 then z.1 else mm_ui z.1 o 3 (t + 6),
    mm_rw (mm_rw z.2 o (vp_updL (z.2 o) 2 (z.2 o 2 ||| rk_he o t z))) (o + 2) (rk_in t (rk_nx o t z) (z.2 (o + 1)) 5 0 (vp_updL (z.2 (o + 2)) (rk_sl t) 0))))
theorem rk_in_s (t : Int32) (nx : Int64) (sets : Nat → Int64) : ∀ k j g, rk_in t nx sets (k + 1) j g = rk_in t nx sets k (j + 1) (if j = 2 then g else vp_updL g (rk_sl (t + pX3_at14 46 (nI j))) (g (rk_sl (t + pX3_at14 46 (nI j))) ||| (nx &&& sets j))) := fun _ _ _ => rfl
theorem mm_rw_c {α : Type} (f : Nat → Nat → α) {x y : Nat} (g h : Nat → α) (e : x ≠ y) : mm_rw (mm_rw f x g) y h = mm_rw (mm_rw f y h) x g := by
  funext a
  unfold mm_rw
  by_cases e1 : a = x
  · subst e1
    rw [if_neg e, if_pos rfl, if_pos rfl]
  · by_cases e2 : a = y
    · simp only [if_pos e2, if_neg e1]
    · simp only [if_neg e2, if_neg e1]
theorem sp_X1_cellsComeIntoAt (o : Nat) (t : Int32) (z : mm_S) (hk : ∀ u ∈ [mm_P 1 o, mm_I t], mm_ok 46 lyTX 48 17 u) : f_X1_cellsComeIntoAt [mm_P 1 o, mm_I t] z (some (mm_J (tX1_cellsComeIntoAt o t z).1), (tX1_cellsComeIntoAt o t z).2) := by
  obtain ⟨hl5, hl8⟩ := ok1_l (hk (mm_P 1 o) (by simp))
  have hs : ∀ (t : Int32) (u : mm_S), pX3_bitsAt (o + 2) (t &&& 7) u = u.2 (o + 2) (rk_sl t) := fun t u => bits_in u (by rw [hl8]; exact rk_sl_g t)
  have hp : ∀ (t : Int32) (v : Int64) (u : mm_S), tX3_putBits (o + 2) (t &&& 7) v u = (u.1, mm_ul u.2 (o + 2) (rk_sl t) v) := fun t v u => putb_in v u (by rw [hl8]; exact rk_sl_g t)
  have loop : ∀ (k j n : Nat) (he nx : Int64) (s : mm_S), j + k = 5 → eX1_cellsComeIntoAt_83 (n + 1 + k) o t he nx (nI j) s = some (some (mm_J he), (s.1, mm_rw s.2 (o + 2) (rk_in t nx (s.2 (o + 1)) k j (s.2 (o + 2))))) := by
    intro k
    induction k with
    | zero =>
      intro j n he nx s hj
      obtain rfl : j = 5 := by omega
      have h5 : (5 : Int32) ≤ nI 5 := by decide
      have e0 : (some (some (mm_J he), s) : Option mm_R) = some (some (mm_J he), (s.1, mm_rw s.2 (o + 2) (rk_in t nx (s.2 (o + 1)) 0 5 (s.2 (o + 2))))) := by
        unfold rk_in
        rw [mm_rw_id]
      rcases ok1 (hk (mm_P 1 o) (by simp)) with rfl | rfl | rfl
      · exact ((qX1_cellsComeIntoAt_83_2 n t he nx (nI 5) s).trans (if_pos h5)).trans e0
      · exact ((qX1_cellsComeIntoAt_83_14 n t he nx (nI 5) s).trans (if_pos h5)).trans e0
      · exact ((qX1_cellsComeIntoAt_83_26 n t he nx (nI 5) s).trans (if_pos h5)).trans e0
    | succ k ih =>
      intro j n he nx s hj
      have h5 : ¬ (5 : Int32) ≤ nI j := nI_ge (b := 5) (by omega) (by decide)
      have hg : pX3_bitsAt (o + 1) (nI j) s = s.2 (o + 1) (Int32.toNatClampNeg (nI j)) := bits_in s (by rw [hl5]; exact nI_in (by omega) (by decide))
      have hc : Int32.toNatClampNeg (nI j) = j := nI_clamp (by omega)
      have e1 : eX1_cellsComeIntoAt_83 (n + 1 + k + 1) o t he nx (nI j) s = if nI j = 2 then eX1_cellsComeIntoAt_83 (n + 1 + k) o t he nx (nI j + 1) s else eX1_cellsComeIntoAt_83 (n + 1 + k) o t he nx (nI j + 1) (s.1, mm_ul s.2 (o + 2) (rk_sl (t + pX3_at14 46 (nI j))) (s.2 (o + 2) (rk_sl (t + pX3_at14 46 (nI j))) ||| (nx &&& s.2 (o + 1) (Int32.toNatClampNeg (nI j))))) := by
        have r : (if nI j = 2 then eX1_cellsComeIntoAt_83 (n + 1 + k) o t he nx (nI j + 1) s else eX1_cellsComeIntoAt_83 (n + 1 + k) o t he nx (nI j + 1) (tX3_putBits (o + 2) ((t + pX3_at14 46 (nI j)) &&& 7) (pX3_bitsAt (o + 2) ((t + pX3_at14 46 (nI j)) &&& 7) s ||| (nx &&& pX3_bitsAt (o + 1) (nI j) s)) s)) = (if nI j = 2 then eX1_cellsComeIntoAt_83 (n + 1 + k) o t he nx (nI j + 1) s else eX1_cellsComeIntoAt_83 (n + 1 + k) o t he nx (nI j + 1) (s.1, mm_ul s.2 (o + 2) (rk_sl (t + pX3_at14 46 (nI j))) (s.2 (o + 2) (rk_sl (t + pX3_at14 46 (nI j))) ||| (nx &&& s.2 (o + 1) (Int32.toNatClampNeg (nI j)))))) := by
          rw [hp, hs, hg]
        rcases ok1 (hk (mm_P 1 o) (by simp)) with rfl | rfl | rfl
        · exact ((qX1_cellsComeIntoAt_83_2 (n + 1 + k) t he nx (nI j) s).trans (if_neg h5)).trans r
        · exact ((qX1_cellsComeIntoAt_83_14 (n + 1 + k) t he nx (nI j) s).trans (if_neg h5)).trans r
        · exact ((qX1_cellsComeIntoAt_83_26 (n + 1 + k) t he nx (nI j) s).trans (if_neg h5)).trans r
      rw [show n + 1 + (k + 1) = n + 1 + k + 1 by omega, e1, rk_in_s, nI_1, hc]
      by_cases h2 : j = 2
      · subst h2
        rw [if_pos (by decide), if_pos rfl]
        exact ih 3 n he nx s (by omega)
      · have h2' : ¬ nI j = 2 := fun q => h2 ((nI_eq (a := j) (b := 2) (by omega) (by decide)).mp q)
        rw [if_neg h2', if_neg h2, ih (j + 1) n he nx _ (by omega)]
        simp only [mm_ul_rw, mm_rw_rw, mm_rw_s]
        rw [mm_rw_n _ _ (show o + 1 ≠ o + 2 by omega)]
  have h0 : ∀ (s : mm_S) (he nx : Int64), eX1_cellsComeIntoAt_83 6 o t he nx 0 s = some (some (mm_J he), (s.1, mm_rw s.2 (o + 2) (rk_in t nx (s.2 (o + 1)) 5 0 (s.2 (o + 2))))) := fun s he nx => loop 5 0 0 he nx s rfl
  refine ⟨Nat.le_of_ble_eq_true rfl, 7, ?_⟩
  have ho : o ≠ o + 2 := by omega
  have e0 : eX1_cellsComeIntoAt_0 7 o t z = if lg_cmp (rk_he o t z) 0 = 0 then some (some (mm_J 0), (z.1, mm_ul z.2 (o + 2) (rk_sl t) 0)) else
      let u : mm_S := (z.1, mm_ul (mm_ul z.2 (o + 2) (rk_sl t) 0) o 2 (mm_ul z.2 (o + 2) (rk_sl t) 0 o 2 ||| rk_he o t z)); if lg_cmp (pX3_besides (rk_he o t z) &&& (u.2 o 2 ^^^ (-1))) 0 = 0 then eX1_cellsComeIntoAt_83 6 o t (rk_he o t z) (pX3_besides (rk_he o t z) &&& (u.2 o 2 ^^^ (-1))) 0 u else eX1_cellsComeIntoAt_83 6 o t (rk_he o t z) (pX3_besides (rk_he o t z) &&& (u.2 o 2 ^^^ (-1))) 0 (mm_ui u.1 o 3 (t + 6), u.2) := by
    have hv : pX3_bitsAt (o + 2) (t &&& 7) z &&& (z.2 o 2 ^^^ (-1)) = rk_he o t z := by
      rw [hs]
      rfl
    have r : ∀ (v1 : Int64) (u2 : mm_S), v1 = rk_he o t z → u2 = (z.1, mm_ul z.2 (o + 2) (rk_sl t) 0) → (if lg_cmp v1 0 = 0 then some (some (mm_J 0), u2) else let v3 : Int64 := pX3_besides v1 &&& ((mm_ul u2.2 o 2 (u2.2 o 2 ||| v1)) o 2 ^^^ (-1)); if lg_cmp v3 0 = 0 then eX1_cellsComeIntoAt_83 6 o t v1 v3 0 (u2.1, mm_ul u2.2 o 2 (u2.2 o 2 ||| v1)) else eX1_cellsComeIntoAt_83 6 o t v1 v3 0 (mm_ui u2.1 o 3 (t + 6), mm_ul u2.2 o 2 (u2.2 o 2 ||| v1))) = (if lg_cmp (rk_he o t z) 0 = 0 then some (some (mm_J 0), (z.1, mm_ul z.2 (o + 2) (rk_sl t) 0)) else let u : mm_S := (z.1, mm_ul (mm_ul z.2 (o + 2) (rk_sl t) 0) o 2 (mm_ul z.2 (o + 2) (rk_sl t) 0 o 2 ||| rk_he o t z)); if lg_cmp (pX3_besides (rk_he o t z) &&& (u.2 o 2 ^^^ (-1))) 0 = 0 then eX1_cellsComeIntoAt_83 6 o t (rk_he o t z) (pX3_besides (rk_he o t z) &&& (u.2 o 2 ^^^ (-1))) 0 u else eX1_cellsComeIntoAt_83 6 o t (rk_he o t z) (pX3_besides (rk_he o t z) &&& (u.2 o 2 ^^^ (-1))) 0 (mm_ui u.1 o 3 (t + 6), u.2)) := by
      rintro _ _ rfl rfl
      rfl
    rcases ok1 (hk (mm_P 1 o) (by simp)) with rfl | rfl | rfl
    · exact (qX1_cellsComeIntoAt_0_2 6 t z).trans (r _ _ hv (hp t 0 z))
    · exact (qX1_cellsComeIntoAt_0_14 6 t z).trans (r _ _ hv (hp t 0 z))
    · exact (qX1_cellsComeIntoAt_0_26 6 t z).trans (r _ _ hv (hp t 0 z))
  refine Eq.trans (b := eX1_cellsComeIntoAt_0 7 o t z) rfl (e0.trans ?_)
  have e1 : mm_ul (mm_ul z.2 (o + 2) (rk_sl t) 0) o 2 (mm_ul z.2 (o + 2) (rk_sl t) 0 o 2 ||| rk_he o t z) = mm_rw (mm_rw z.2 o (vp_updL (z.2 o) 2 (z.2 o 2 ||| rk_he o t z))) (o + 2) (vp_updL (z.2 (o + 2)) (rk_sl t) 0) := by
    simp only [mm_ul_rw]
    rw [mm_rw_n _ _ ho, mm_rw_c _ _ _ (Ne.symm ho)]
  have e2 : mm_rw (mm_rw z.2 o (vp_updL (z.2 o) 2 (z.2 o 2 ||| rk_he o t z))) (o + 2) (vp_updL (z.2 (o + 2)) (rk_sl t) 0) o 2 = z.2 o 2 ||| rk_he o t z := by
    rw [mm_rw_n _ _ ho, mm_rw_s]
    simp [vp_updL]
  unfold tX1_cellsComeIntoAt
  by_cases c1 : lg_cmp (rk_he o t z) 0 = 0
  · rw [if_pos c1, if_pos c1, mm_ul_rw]
  · rw [if_neg c1, if_neg c1]
    simp only [e1, e2]
    have e3 : (pX3_besides (rk_he o t z) &&& ((z.2 o 2 ||| rk_he o t z) ^^^ (-1))) = rk_nx o t z := rfl
    rw [e3]
    have e4 : mm_rw (mm_rw z.2 o (vp_updL (z.2 o) 2 (z.2 o 2 ||| rk_he o t z))) (o + 2) (vp_updL (z.2 (o + 2)) (rk_sl t) 0) (o + 1) = z.2 (o + 1) := by
      rw [mm_rw_n _ _ (by omega), mm_rw_n _ _ (by omega)]
    by_cases c2 : lg_cmp (rk_nx o t z) 0 = 0
    · rw [if_pos c2, if_pos c2, h0]
      simp only [mm_rw_s, mm_rw_rw, e4]
    · rw [if_neg c2, if_neg c2, h0]
      simp only [mm_rw_s, mm_rw_rw, e4]
noncomputable def clo_X1_cellsComeIntoAt (as : List mm_V) (z : mm_S) (kk : Option mm_V → mm_S → Option mm_R) : Option mm_R := mm_pr as fun t o0 as => bif Nat.beq t 1 then mm_pi as fun a1 as => (match as with | [] => kk (some (mm_J (tX1_cellsComeIntoAt o0 a1 z).1)) (tX1_cellsComeIntoAt o0 a1 z).2 | _ => none) else none
theorem cs_X1_cellsComeIntoAt : mm_cs lyTX 46 48 17 f_X1_cellsComeIntoAt clo_X1_cellsComeIntoAt := by
  intro as z K o hk h
  obtain ⟨t0, o0, r0, rfl, g0⟩ := mm_pr_e h
  obtain ⟨b0, k0⟩ := mm_bif_e g0
  obtain rfl := Nat.eq_of_beq_eq_true b0
  obtain ⟨a1, r1, rfl, g1⟩ := mm_pi_e k0
  rcases r1 with _ | ⟨u, w⟩
  rotate_left
  · cases g1
  exact ⟨_, _, sp_X1_cellsComeIntoAt o0 a1 z hk, fun v hv => by cases hv; exact Or.inr ⟨_, rfl⟩, g1⟩
theorem sV_X1_cellsComeIntoAt {own : String} {R : Room} {ar : Nat → Nat} {k : Nat} (hlink : Cond.methodLink own k yX1_cellsComeIntoAt ∈ lw_gd ∨ ∃ host, (own, k, yX1_cellsComeIntoAt, host) ∈ nmA) (har : ar k = 2) (hr : 2 ≤ R.frames ∧ 57 ≤ R.locals) : mm_okV lyTX lyFA lenX snX 46 48 17 roX rsA nfA nmA ssX own R ar k clo_X1_cellsComeIntoAt := by
  refine ⟨yX1_cellsComeIntoAt, cX1_cellsComeIntoAt, 9, some .long, rm_X1_cellsComeIntoAt, f_X1_cellsComeIntoAt, 1, 1, (RX1, TX1, 4), M_X1_cellsComeIntoAt, cs_X1_cellsComeIntoAt, hlink, ⟨wv_X1_cellsComeIntoAt, wz_X1_cellsComeIntoAt, wi_X1_cellsComeIntoAt, wc_X1_cellsComeIntoAt⟩, ⟨by decide +kernel, by decide +kernel, by decide +kernel⟩, har, ⟨rfl, rfl, by decide⟩, ?_, ⟨rfl, rfl, hr.1, hr.2⟩⟩
  intro as z K o h
  obtain ⟨t0, o0, r0, rfl, g0⟩ := mm_pr_e h
  obtain ⟨b0, k0⟩ := mm_bif_e g0
  obtain rfl := Nat.eq_of_beq_eq_true b0
  exact ⟨_, _, rfl⟩
-- X1_timeBetween
noncomputable def lV_X1_timeBetween : List (Nat × (List mm_V → mm_S → (Option mm_V → mm_S → Option mm_R) → Option mm_R)) := [(76, clo_X1_knock), (84, clo_X1_cellsComeIntoAt)]
noncomputable def mV_X1_timeBetween (k : Nat) (as : List mm_V) (z : mm_S) (kk : Option mm_V → mm_S → Option mm_R) : Option mm_R := match mm_at lV_X1_timeBetween k with
  | some f => f as z kk
  | none => none
noncomputable def arV_X1_timeBetween (k : Nat) : Nat := (mm_at [(76, 2), (84, 2)] k).getD 0
noncomputable def lS_X1_timeBetween : List (Nat × (List mm_V → mm_S → (Option mm_V → mm_S → Option mm_R) → Option mm_R)) := [(40, clo_X3_has)]
noncomputable def mS_X1_timeBetween (k : Nat) (as : List mm_V) (z : mm_S) (kk : Option mm_V → mm_S → Option mm_R) : Option mm_R := match mm_at lS_X1_timeBetween k with
  | some f => f as z kk
  | none => none
noncomputable def arS_X1_timeBetween (k : Nat) : Nat := (mm_at [(40, 2)] k).getD 0
def ct_X1_timeBetween : List (Nat × List Nat) := [(5, [0, 2]), (7, [0, 2, 3]), (34, [3])]
noncomputable def go_X1_timeBetween : Nat → mm_K := mm_go (fun k => mm_at flX1 k) (fun k => mm_at clX1 k) (fun k => mm_at glX1 k) arV_X1_timeBetween arS_X1_timeBetween mV_X1_timeBetween mS_X1_timeBetween lenX roX snX 4 0 tbX1_timeBetween ct_X1_timeBetween
noncomputable def eX1_timeBetween_0 (n : Nat) (o : Nat) (x1 : Int32) (x2 : Int32) (z : mm_S) : Option mm_R := go_X1_timeBetween n 0 [(0, mm_P 1 o), (1, mm_I x1), (2, mm_I x2)] [] z
noncomputable def eX1_timeBetween_5 (n : Nat) (o : Nat) (y2 : Int32) (z : mm_S) : Option mm_R := go_X1_timeBetween n 5 [(0, mm_P 1 o), (2, mm_I y2)] [] z
noncomputable def eX1_timeBetween_7 (n : Nat) (o : Nat) (y2 : Int32) (y3 : Int32) (z : mm_S) : Option mm_R := go_X1_timeBetween n 7 [(0, mm_P 1 o), (2, mm_I y2), (3, mm_I y3)] [] z
noncomputable def eX1_timeBetween_34 (n : Nat) (y3 : Int32) (z : mm_S) : Option mm_R := go_X1_timeBetween n 34 [(3, mm_I y3)] [] z
set_option maxRecDepth 100000 in
theorem qX1_timeBetween_0_2 (n : Nat)  (x1 : Int32) (x2 : Int32) (z : mm_S) : eX1_timeBetween_0 (n + 1) 2 x1 x2 z = (let u1 := (tX1_knock 2 x1 z); eX1_timeBetween_5 n 2 x2 u1) := rfl
set_option maxRecDepth 100000 in
theorem qX1_timeBetween_5_2 (n : Nat)  (y2 : Int32) (z : mm_S) : eX1_timeBetween_5 (n + 1) 2 y2 z = (eX1_timeBetween_7 n 2 y2 0 z) := rfl
set_option maxRecDepth 100000 in
theorem qX1_timeBetween_7_2 (n : Nat)  (y2 : Int32) (y3 : Int32) (z : mm_S) : eX1_timeBetween_7 (n + 1) 2 y2 y3 z = (if 216 < y3 then some (some (mm_I (-1)), z) else if (z.1 2 3) < y3 then some (some (mm_I (-1)), z) else let u2 := (tX1_cellsComeIntoAt 2 y3 z); if (pX3_has u2.1 y2) = 0 then eX1_timeBetween_7 n 2 y2 (y3 + 1) u2.2 else eX1_timeBetween_34 n y3 u2.2) := rfl
set_option maxRecDepth 100000 in
theorem qX1_timeBetween_34_2 (n : Nat) (y3 : Int32) (z : mm_S) : eX1_timeBetween_34 (n + 1) y3 z = (some (some (mm_I y3), z)) := rfl
set_option maxRecDepth 100000 in
theorem qX1_timeBetween_0_14 (n : Nat)  (x1 : Int32) (x2 : Int32) (z : mm_S) : eX1_timeBetween_0 (n + 1) 14 x1 x2 z = (let u1 := (tX1_knock 14 x1 z); eX1_timeBetween_5 n 14 x2 u1) := rfl
set_option maxRecDepth 100000 in
theorem qX1_timeBetween_5_14 (n : Nat)  (y2 : Int32) (z : mm_S) : eX1_timeBetween_5 (n + 1) 14 y2 z = (eX1_timeBetween_7 n 14 y2 0 z) := rfl
set_option maxRecDepth 100000 in
theorem qX1_timeBetween_7_14 (n : Nat)  (y2 : Int32) (y3 : Int32) (z : mm_S) : eX1_timeBetween_7 (n + 1) 14 y2 y3 z = (if 216 < y3 then some (some (mm_I (-1)), z) else if (z.1 14 3) < y3 then some (some (mm_I (-1)), z) else let u2 := (tX1_cellsComeIntoAt 14 y3 z); if (pX3_has u2.1 y2) = 0 then eX1_timeBetween_7 n 14 y2 (y3 + 1) u2.2 else eX1_timeBetween_34 n y3 u2.2) := rfl
set_option maxRecDepth 100000 in
theorem qX1_timeBetween_34_14 (n : Nat) (y3 : Int32) (z : mm_S) : eX1_timeBetween_34 (n + 1) y3 z = (some (some (mm_I y3), z)) := rfl
set_option maxRecDepth 100000 in
theorem qX1_timeBetween_0_26 (n : Nat)  (x1 : Int32) (x2 : Int32) (z : mm_S) : eX1_timeBetween_0 (n + 1) 26 x1 x2 z = (let u1 := (tX1_knock 26 x1 z); eX1_timeBetween_5 n 26 x2 u1) := rfl
set_option maxRecDepth 100000 in
theorem qX1_timeBetween_5_26 (n : Nat)  (y2 : Int32) (z : mm_S) : eX1_timeBetween_5 (n + 1) 26 y2 z = (eX1_timeBetween_7 n 26 y2 0 z) := rfl
set_option maxRecDepth 100000 in
theorem qX1_timeBetween_7_26 (n : Nat)  (y2 : Int32) (y3 : Int32) (z : mm_S) : eX1_timeBetween_7 (n + 1) 26 y2 y3 z = (if 216 < y3 then some (some (mm_I (-1)), z) else if (z.1 26 3) < y3 then some (some (mm_I (-1)), z) else let u2 := (tX1_cellsComeIntoAt 26 y3 z); if (pX3_has u2.1 y2) = 0 then eX1_timeBetween_7 n 26 y2 (y3 + 1) u2.2 else eX1_timeBetween_34 n y3 u2.2) := rfl
set_option maxRecDepth 100000 in
theorem qX1_timeBetween_34_26 (n : Nat) (y3 : Int32) (z : mm_S) : eX1_timeBetween_34 (n + 1) y3 z = (some (some (mm_I y3), z)) := rfl
def rm_X1_timeBetween : Room := { frames := 2, cells := 0, slots := 0, locals := 57 }
noncomputable def f_X1_timeBetween (as : List mm_V) (z : mm_S) (o : mm_R) : Prop := (as.map mm_cat).sum ≤ 4 ∧ ∃ n, go_X1_timeBetween n 0 (mm_ar 0 as) [] z = some o
theorem M_X1_timeBetween : mm_M lyTX lyFA lenX snX 46 48 17 roX rsA nfA nmA ssX yX1_timeBetween cX1_timeBetween 4 (some .int) rm_X1_timeBetween f_X1_timeBetween :=
  mm_met (rt := 0) (by decide +kernel) ⟨fun h => rfl, fun h => absurd h (by decide), fun h => absurd h (by decide), fun h => absurd h (by decide)⟩ tbX1_timeBetween_ok hsnX okFX1 okLX1 okGX1 (fun _ _ _ _ => rfl) (fun _ _ _ _ => rfl) (List.forall_mem_cons.mpr ⟨sV_X1_knock (Or.inl lk_X1_76) rfl ⟨by decide, by decide⟩, List.forall_mem_cons.mpr ⟨sV_X1_cellsComeIntoAt (Or.inl lk_X1_84) rfl ⟨by decide, by decide⟩, fun _ h => absurd h List.not_mem_nil⟩⟩) (List.forall_mem_cons.mpr ⟨sS_X3_has (Or.inr ⟨_, ln_X1_40⟩) rfl ⟨by decide, by decide⟩, fun _ h => absurd h List.not_mem_nil⟩)
noncomputable def sX1_timeBetween_34 (o : Nat) (y3 : Int32) (z : mm_S) : Option (Int32 × mm_S) := some (y3, z)
theorem kX1_timeBetween_34 (o : Nat) (hk : mm_ok 46 lyTX 48 17 (mm_P 1 o)) (y3 : Int32) (z : mm_S) (oo : mm_R) : mm_Xs (sX1_timeBetween_34 o y3 z) (fun v => (fun v : Int32 × mm_S => ((some (mm_I v.1), v.2) : mm_R)) v = oo) (fun n => eX1_timeBetween_34 n y3 z) oo :=
  xs_row (T := fun n => some (some (mm_I y3), z)) (by rcases ok1 hk with rfl | rfl | rfl; exact fun n => qX1_timeBetween_34_2 n y3 z; exact fun n => qX1_timeBetween_34_14 n y3 z; exact fun n => qX1_timeBetween_34_26 n y3 z) (xs_v fun hc => ⟨0, congrArg some hc⟩)
noncomputable def lX1_timeBetween_7 (o : Nat) (s : Int32 × Int32 × mm_S) : Option ((Int32 × Int32 × mm_S) ⊕ (Int32 × mm_S)) := if 216 < s.2.1 then some (.inr ((-1), s.2.2)) else if (s.2.2.1 o 3) < s.2.1 then some (.inr ((-1), s.2.2)) else let u2 := (tX1_cellsComeIntoAt o s.2.1 s.2.2); if (pX3_has u2.1 s.1) = 0 then some (.inl (s.1, (s.2.1 + 1), u2.2)) else ((sX1_timeBetween_34 o s.2.1 u2.2).map fun w => (Sum.inr w))
noncomputable def sX1_timeBetween_7 (o : Nat) (y2 : Int32) (y3 : Int32) (z : mm_S) : Option (Int32 × mm_S) := mm_wh (lX1_timeBetween_7 o ) mm_fu (y2, y3, z)
theorem kX1_timeBetween_7 (o : Nat) (hk : mm_ok 46 lyTX 48 17 (mm_P 1 o)) (y2 : Int32) (y3 : Int32) (z : mm_S) (oo : mm_R) : mm_Xs (sX1_timeBetween_7 o y2 y3 z) (fun v => (fun v : Int32 × mm_S => ((some (mm_I v.1), v.2) : mm_R)) v = oo) (fun n => eX1_timeBetween_7 n o y2 y3 z) oo :=
  xs_wh (stp := lX1_timeBetween_7 o ) (o := oo) (E := (fun (s : Int32 × Int32 × mm_S) n => eX1_timeBetween_7 n o s.1 s.2.1 s.2.2)) (C := (fun v => (fun v : Int32 × mm_S => ((some (mm_I v.1), v.2) : mm_R)) v = oo)) (fun s => xs_row (T := fun n => if 216 < s.2.1 then some (some (mm_I (-1)), s.2.2) else if (s.2.2.1 o 3) < s.2.1 then some (some (mm_I (-1)), s.2.2) else let u2 := (tX1_cellsComeIntoAt o s.2.1 s.2.2); if (pX3_has u2.1 s.1) = 0 then eX1_timeBetween_7 n o s.1 (s.2.1 + 1) u2.2 else eX1_timeBetween_34 n s.2.1 u2.2) (by rcases ok1 hk with rfl | rfl | rfl; exact fun n => qX1_timeBetween_7_2 n s.1 s.2.1 s.2.2; exact fun n => qX1_timeBetween_7_14 n s.1 s.2.1 s.2.2; exact fun n => qX1_timeBetween_7_26 n s.1 s.2.1 s.2.2) (xs_if (xs_v fun hc => ⟨0, congrArg some hc⟩) (xs_if (xs_v fun hc => ⟨0, congrArg some hc⟩) (let u2 := (tX1_cellsComeIntoAt o s.2.1 s.2.2); (xs_if (xs_v fun hc => hc) (xs_map (f := fun w => (Sum.inr w)) (kX1_timeBetween_34 o hk s.2.1 u2.2 oo) (fun _ h => h))))))) mm_fu (y2, y3, z)
noncomputable def sX1_timeBetween_5 (o : Nat) (y2 : Int32) (z : mm_S) : Option (Int32 × mm_S) := (sX1_timeBetween_7 o y2 0 z)
theorem kX1_timeBetween_5 (o : Nat) (hk : mm_ok 46 lyTX 48 17 (mm_P 1 o)) (y2 : Int32) (z : mm_S) (oo : mm_R) : mm_Xs (sX1_timeBetween_5 o y2 z) (fun v => (fun v : Int32 × mm_S => ((some (mm_I v.1), v.2) : mm_R)) v = oo) (fun n => eX1_timeBetween_5 n o y2 z) oo :=
  xs_row (T := fun n => eX1_timeBetween_7 n o y2 0 z) (by rcases ok1 hk with rfl | rfl | rfl; exact fun n => qX1_timeBetween_5_2 n y2 z; exact fun n => qX1_timeBetween_5_14 n y2 z; exact fun n => qX1_timeBetween_5_26 n y2 z) (kX1_timeBetween_7 o hk y2 0 z oo)
noncomputable def sX1_timeBetween_0 (o : Nat) (x1 : Int32) (x2 : Int32) (z : mm_S) : Option (Int32 × mm_S) := let u1 := (tX1_knock o x1 z); (sX1_timeBetween_5 o x2 u1)
theorem kX1_timeBetween_0 (o : Nat) (hk : mm_ok 46 lyTX 48 17 (mm_P 1 o)) (x1 : Int32) (x2 : Int32) (z : mm_S) (oo : mm_R) : mm_Xs (sX1_timeBetween_0 o x1 x2 z) (fun v => (fun v : Int32 × mm_S => ((some (mm_I v.1), v.2) : mm_R)) v = oo) (fun n => eX1_timeBetween_0 n o x1 x2 z) oo :=
  xs_row (T := fun n => let u1 := (tX1_knock o x1 z); eX1_timeBetween_5 n o x2 u1) (by rcases ok1 hk with rfl | rfl | rfl; exact fun n => qX1_timeBetween_0_2 n x1 x2 z; exact fun n => qX1_timeBetween_0_14 n x1 x2 z; exact fun n => qX1_timeBetween_0_26 n x1 x2 z) (let u1 := (tX1_knock o x1 z); (kX1_timeBetween_5 o hk x2 u1 oo))
noncomputable def sX1_timeBetween (o : Nat) (x1 : Int32) (x2 : Int32) (z : mm_S) : Option (Int32 × mm_S) := sX1_timeBetween_0 o x1 x2 z
theorem sp_X1_timeBetween (o : Nat) (x1 : Int32) (x2 : Int32) (z : mm_S) (hk : ∀ v ∈ [mm_P 1 o, mm_I x1, mm_I x2], mm_ok 46 lyTX 48 17 v) (q : Int32 × mm_S) (hq : sX1_timeBetween o x1 x2 z = some q) : f_X1_timeBetween [mm_P 1 o, mm_I x1, mm_I x2] z (some (mm_I q.1), q.2) := ⟨Nat.le_of_ble_eq_true rfl, kX1_timeBetween_0 o (hk (mm_P 1 o) (by simp)) x1 x2 z _ q hq rfl⟩
noncomputable def clo_X1_timeBetween (as : List mm_V) (z : mm_S) (kk : Option mm_V → mm_S → Option mm_R) : Option mm_R := mm_pr as fun t o0 as => bif Nat.beq t 1 then mm_pi as fun a1 as => mm_pi as fun a2 as => (match as with | [] => (sX1_timeBetween o0 a1 a2 z).bind fun q => kk (some (mm_I q.1)) q.2 | _ => none) else none
theorem cs_X1_timeBetween : mm_cs lyTX 46 48 17 f_X1_timeBetween clo_X1_timeBetween := by
  intro as z K o hk h
  obtain ⟨t0, o0, r0, rfl, g0⟩ := mm_pr_e h
  obtain ⟨b0, k0⟩ := mm_bif_e g0
  obtain rfl := Nat.eq_of_beq_eq_true b0
  obtain ⟨a1, r1, rfl, g1⟩ := mm_pi_e k0
  obtain ⟨a2, r2, rfl, g2⟩ := mm_pi_e g1
  rcases r2 with _ | ⟨u, w⟩
  rotate_left
  · cases g2
  obtain ⟨q, hq, hq2⟩ := Option.bind_eq_some_iff.mp g2
  exact ⟨_, _, sp_X1_timeBetween o0 a1 a2 z hk q hq, fun v hv => by cases hv; exact Or.inl ⟨_, rfl⟩, hq2⟩
theorem sV_X1_timeBetween {own : String} {R : Room} {ar : Nat → Nat} {k : Nat} (hlink : Cond.methodLink own k yX1_timeBetween ∈ lw_gd ∨ ∃ host, (own, k, yX1_timeBetween, host) ∈ nmA) (har : ar k = 3) (hr : 3 ≤ R.frames ∧ 80 ≤ R.locals) : mm_okV lyTX lyFA lenX snX 46 48 17 roX rsA nfA nmA ssX own R ar k clo_X1_timeBetween := by
  refine ⟨yX1_timeBetween, cX1_timeBetween, 4, some .int, rm_X1_timeBetween, f_X1_timeBetween, 1, 2, (RX1, TX1, 4), M_X1_timeBetween, cs_X1_timeBetween, hlink, ⟨wv_X1_timeBetween, wz_X1_timeBetween, wi_X1_timeBetween, wc_X1_timeBetween⟩, ⟨by decide +kernel, by decide +kernel, by decide +kernel⟩, har, ⟨rfl, rfl, by decide⟩, ?_, ⟨rfl, rfl, hr.1, hr.2⟩⟩
  intro as z K o h
  obtain ⟨t0, o0, r0, rfl, g0⟩ := mm_pr_e h
  obtain ⟨b0, k0⟩ := mm_bif_e g0
  obtain rfl := Nat.eq_of_beq_eq_true b0
  exact ⟨_, _, rfl⟩
-- X1_cellsWithin
noncomputable def lV_X1_cellsWithin : List (Nat × (List mm_V → mm_S → (Option mm_V → mm_S → Option mm_R) → Option mm_R)) := [(76, clo_X1_knock), (84, clo_X1_cellsComeIntoAt)]
noncomputable def mV_X1_cellsWithin (k : Nat) (as : List mm_V) (z : mm_S) (kk : Option mm_V → mm_S → Option mm_R) : Option mm_R := match mm_at lV_X1_cellsWithin k with
  | some f => f as z kk
  | none => none
noncomputable def arV_X1_cellsWithin (k : Nat) : Nat := (mm_at [(76, 2), (84, 2)] k).getD 0
noncomputable def lS_X1_cellsWithin : List (Nat × (List mm_V → mm_S → (Option mm_V → mm_S → Option mm_R) → Option mm_R)) := []
noncomputable def mS_X1_cellsWithin (k : Nat) (as : List mm_V) (z : mm_S) (kk : Option mm_V → mm_S → Option mm_R) : Option mm_R := match mm_at lS_X1_cellsWithin k with
  | some f => f as z kk
  | none => none
noncomputable def arS_X1_cellsWithin (k : Nat) : Nat := (mm_at [] k).getD 0
def ct_X1_cellsWithin : List (Nat × List Nat) := [(5, [0, 2]), (7, [0, 2, 3]), (39, [0])]
noncomputable def go_X1_cellsWithin : Nat → mm_K := mm_go (fun k => mm_at flX1 k) (fun k => mm_at clX1 k) (fun k => mm_at glX1 k) arV_X1_cellsWithin arS_X1_cellsWithin mV_X1_cellsWithin mS_X1_cellsWithin lenX roX snX 4 2 tbX1_cellsWithin ct_X1_cellsWithin
noncomputable def eX1_cellsWithin_0 (n : Nat) (o : Nat) (x1 : Int32) (x2 : Int32) (z : mm_S) : Option mm_R := go_X1_cellsWithin n 0 [(0, mm_P 1 o), (1, mm_I x1), (2, mm_I x2)] [] z
noncomputable def eX1_cellsWithin_5 (n : Nat) (o : Nat) (y2 : Int32) (z : mm_S) : Option mm_R := go_X1_cellsWithin n 5 [(0, mm_P 1 o), (2, mm_I y2)] [] z
noncomputable def eX1_cellsWithin_7 (n : Nat) (o : Nat) (y2 : Int32) (y3 : Int32) (z : mm_S) : Option mm_R := go_X1_cellsWithin n 7 [(0, mm_P 1 o), (2, mm_I y2), (3, mm_I y3)] [] z
noncomputable def eX1_cellsWithin_39 (n : Nat) (o : Nat) (z : mm_S) : Option mm_R := go_X1_cellsWithin n 39 [(0, mm_P 1 o)] [] z
set_option maxRecDepth 100000 in
theorem qX1_cellsWithin_0_2 (n : Nat)  (x1 : Int32) (x2 : Int32) (z : mm_S) : eX1_cellsWithin_0 (n + 1) 2 x1 x2 z = (let u1 := (tX1_knock 2 x1 z); eX1_cellsWithin_5 n 2 x2 u1) := rfl
set_option maxRecDepth 100000 in
theorem qX1_cellsWithin_5_2 (n : Nat)  (y2 : Int32) (z : mm_S) : eX1_cellsWithin_5 (n + 1) 2 y2 z = (eX1_cellsWithin_7 n 2 y2 0 z) := rfl
set_option maxRecDepth 100000 in
theorem qX1_cellsWithin_7_2 (n : Nat)  (y2 : Int32) (y3 : Int32) (z : mm_S) : eX1_cellsWithin_7 (n + 1) 2 y2 y3 z = (if 216 < y3 then eX1_cellsWithin_39 n 2 z else if (z.1 2 3) < y3 then eX1_cellsWithin_39 n 2 z else if y2 < y3 then eX1_cellsWithin_39 n 2 z else let u2 := (tX1_cellsComeIntoAt 2 y3 z); eX1_cellsWithin_7 n 2 y2 (y3 + 1) u2.2) := rfl
set_option maxRecDepth 100000 in
theorem qX1_cellsWithin_39_2 (n : Nat)  (z : mm_S) : eX1_cellsWithin_39 (n + 1) 2 z = (some (some (mm_J (z.2 2 2)), z)) := rfl
set_option maxRecDepth 100000 in
theorem qX1_cellsWithin_0_14 (n : Nat)  (x1 : Int32) (x2 : Int32) (z : mm_S) : eX1_cellsWithin_0 (n + 1) 14 x1 x2 z = (let u1 := (tX1_knock 14 x1 z); eX1_cellsWithin_5 n 14 x2 u1) := rfl
set_option maxRecDepth 100000 in
theorem qX1_cellsWithin_5_14 (n : Nat)  (y2 : Int32) (z : mm_S) : eX1_cellsWithin_5 (n + 1) 14 y2 z = (eX1_cellsWithin_7 n 14 y2 0 z) := rfl
set_option maxRecDepth 100000 in
theorem qX1_cellsWithin_7_14 (n : Nat)  (y2 : Int32) (y3 : Int32) (z : mm_S) : eX1_cellsWithin_7 (n + 1) 14 y2 y3 z = (if 216 < y3 then eX1_cellsWithin_39 n 14 z else if (z.1 14 3) < y3 then eX1_cellsWithin_39 n 14 z else if y2 < y3 then eX1_cellsWithin_39 n 14 z else let u2 := (tX1_cellsComeIntoAt 14 y3 z); eX1_cellsWithin_7 n 14 y2 (y3 + 1) u2.2) := rfl
set_option maxRecDepth 100000 in
theorem qX1_cellsWithin_39_14 (n : Nat)  (z : mm_S) : eX1_cellsWithin_39 (n + 1) 14 z = (some (some (mm_J (z.2 14 2)), z)) := rfl
set_option maxRecDepth 100000 in
theorem qX1_cellsWithin_0_26 (n : Nat)  (x1 : Int32) (x2 : Int32) (z : mm_S) : eX1_cellsWithin_0 (n + 1) 26 x1 x2 z = (let u1 := (tX1_knock 26 x1 z); eX1_cellsWithin_5 n 26 x2 u1) := rfl
set_option maxRecDepth 100000 in
theorem qX1_cellsWithin_5_26 (n : Nat)  (y2 : Int32) (z : mm_S) : eX1_cellsWithin_5 (n + 1) 26 y2 z = (eX1_cellsWithin_7 n 26 y2 0 z) := rfl
set_option maxRecDepth 100000 in
theorem qX1_cellsWithin_7_26 (n : Nat)  (y2 : Int32) (y3 : Int32) (z : mm_S) : eX1_cellsWithin_7 (n + 1) 26 y2 y3 z = (if 216 < y3 then eX1_cellsWithin_39 n 26 z else if (z.1 26 3) < y3 then eX1_cellsWithin_39 n 26 z else if y2 < y3 then eX1_cellsWithin_39 n 26 z else let u2 := (tX1_cellsComeIntoAt 26 y3 z); eX1_cellsWithin_7 n 26 y2 (y3 + 1) u2.2) := rfl
set_option maxRecDepth 100000 in
theorem qX1_cellsWithin_39_26 (n : Nat)  (z : mm_S) : eX1_cellsWithin_39 (n + 1) 26 z = (some (some (mm_J (z.2 26 2)), z)) := rfl
def rm_X1_cellsWithin : Room := { frames := 2, cells := 0, slots := 0, locals := 57 }
noncomputable def f_X1_cellsWithin (as : List mm_V) (z : mm_S) (o : mm_R) : Prop := (as.map mm_cat).sum ≤ 4 ∧ ∃ n, go_X1_cellsWithin n 0 (mm_ar 0 as) [] z = some o
theorem M_X1_cellsWithin : mm_M lyTX lyFA lenX snX 46 48 17 roX rsA nfA nmA ssX yX1_cellsWithin cX1_cellsWithin 4 (some .long) rm_X1_cellsWithin f_X1_cellsWithin :=
  mm_met (rt := 2) (by decide +kernel) ⟨fun h => absurd h (by decide), fun h => absurd h (by decide), fun h => rfl, fun h => absurd h (by decide)⟩ tbX1_cellsWithin_ok hsnX okFX1 okLX1 okGX1 (fun _ _ _ _ => rfl) (fun _ _ _ _ => rfl) (List.forall_mem_cons.mpr ⟨sV_X1_knock (Or.inl lk_X1_76) rfl ⟨by decide, by decide⟩, List.forall_mem_cons.mpr ⟨sV_X1_cellsComeIntoAt (Or.inl lk_X1_84) rfl ⟨by decide, by decide⟩, fun _ h => absurd h List.not_mem_nil⟩⟩) (fun _ h => absurd h List.not_mem_nil)
noncomputable def sX1_cellsWithin_39 (o : Nat)  (z : mm_S) : Option (Int64 × mm_S) := some ((z.2 o 2), z)
theorem kX1_cellsWithin_39 (o : Nat) (hk : mm_ok 46 lyTX 48 17 (mm_P 1 o))  (z : mm_S) (oo : mm_R) : mm_Xs (sX1_cellsWithin_39 o  z) (fun v => (fun v : Int64 × mm_S => ((some (mm_J v.1), v.2) : mm_R)) v = oo) (fun n => eX1_cellsWithin_39 n o z) oo :=
  xs_row (T := fun n => some (some (mm_J (z.2 o 2)), z)) (by rcases ok1 hk with rfl | rfl | rfl; exact fun n => qX1_cellsWithin_39_2 n z; exact fun n => qX1_cellsWithin_39_14 n z; exact fun n => qX1_cellsWithin_39_26 n z) (xs_v fun hc => ⟨0, congrArg some hc⟩)
noncomputable def lX1_cellsWithin_7 (o : Nat) (s : Int32 × Int32 × mm_S) : Option ((Int32 × Int32 × mm_S) ⊕ (Int64 × mm_S)) := if 216 < s.2.1 then ((sX1_cellsWithin_39 o s.2.2).map fun w => (Sum.inr w)) else if (s.2.2.1 o 3) < s.2.1 then ((sX1_cellsWithin_39 o s.2.2).map fun w => (Sum.inr w)) else if s.1 < s.2.1 then ((sX1_cellsWithin_39 o s.2.2).map fun w => (Sum.inr w)) else let u2 := (tX1_cellsComeIntoAt o s.2.1 s.2.2); some (.inl (s.1, (s.2.1 + 1), u2.2))
noncomputable def sX1_cellsWithin_7 (o : Nat) (y2 : Int32) (y3 : Int32) (z : mm_S) : Option (Int64 × mm_S) := mm_wh (lX1_cellsWithin_7 o ) mm_fu (y2, y3, z)
theorem kX1_cellsWithin_7 (o : Nat) (hk : mm_ok 46 lyTX 48 17 (mm_P 1 o)) (y2 : Int32) (y3 : Int32) (z : mm_S) (oo : mm_R) : mm_Xs (sX1_cellsWithin_7 o y2 y3 z) (fun v => (fun v : Int64 × mm_S => ((some (mm_J v.1), v.2) : mm_R)) v = oo) (fun n => eX1_cellsWithin_7 n o y2 y3 z) oo :=
  xs_wh (stp := lX1_cellsWithin_7 o ) (o := oo) (E := (fun (s : Int32 × Int32 × mm_S) n => eX1_cellsWithin_7 n o s.1 s.2.1 s.2.2)) (C := (fun v => (fun v : Int64 × mm_S => ((some (mm_J v.1), v.2) : mm_R)) v = oo)) (fun s => xs_row (T := fun n => if 216 < s.2.1 then eX1_cellsWithin_39 n o s.2.2 else if (s.2.2.1 o 3) < s.2.1 then eX1_cellsWithin_39 n o s.2.2 else if s.1 < s.2.1 then eX1_cellsWithin_39 n o s.2.2 else let u2 := (tX1_cellsComeIntoAt o s.2.1 s.2.2); eX1_cellsWithin_7 n o s.1 (s.2.1 + 1) u2.2) (by rcases ok1 hk with rfl | rfl | rfl; exact fun n => qX1_cellsWithin_7_2 n s.1 s.2.1 s.2.2; exact fun n => qX1_cellsWithin_7_14 n s.1 s.2.1 s.2.2; exact fun n => qX1_cellsWithin_7_26 n s.1 s.2.1 s.2.2) (xs_if (xs_map (f := fun w => (Sum.inr w)) (kX1_cellsWithin_39 o hk s.2.2 oo) (fun _ h => h)) (xs_if (xs_map (f := fun w => (Sum.inr w)) (kX1_cellsWithin_39 o hk s.2.2 oo) (fun _ h => h)) (xs_if (xs_map (f := fun w => (Sum.inr w)) (kX1_cellsWithin_39 o hk s.2.2 oo) (fun _ h => h)) (let u2 := (tX1_cellsComeIntoAt o s.2.1 s.2.2); (xs_v fun hc => hc)))))) mm_fu (y2, y3, z)
noncomputable def sX1_cellsWithin_5 (o : Nat) (y2 : Int32) (z : mm_S) : Option (Int64 × mm_S) := (sX1_cellsWithin_7 o y2 0 z)
theorem kX1_cellsWithin_5 (o : Nat) (hk : mm_ok 46 lyTX 48 17 (mm_P 1 o)) (y2 : Int32) (z : mm_S) (oo : mm_R) : mm_Xs (sX1_cellsWithin_5 o y2 z) (fun v => (fun v : Int64 × mm_S => ((some (mm_J v.1), v.2) : mm_R)) v = oo) (fun n => eX1_cellsWithin_5 n o y2 z) oo :=
  xs_row (T := fun n => eX1_cellsWithin_7 n o y2 0 z) (by rcases ok1 hk with rfl | rfl | rfl; exact fun n => qX1_cellsWithin_5_2 n y2 z; exact fun n => qX1_cellsWithin_5_14 n y2 z; exact fun n => qX1_cellsWithin_5_26 n y2 z) (kX1_cellsWithin_7 o hk y2 0 z oo)
noncomputable def sX1_cellsWithin_0 (o : Nat) (x1 : Int32) (x2 : Int32) (z : mm_S) : Option (Int64 × mm_S) := let u1 := (tX1_knock o x1 z); (sX1_cellsWithin_5 o x2 u1)
theorem kX1_cellsWithin_0 (o : Nat) (hk : mm_ok 46 lyTX 48 17 (mm_P 1 o)) (x1 : Int32) (x2 : Int32) (z : mm_S) (oo : mm_R) : mm_Xs (sX1_cellsWithin_0 o x1 x2 z) (fun v => (fun v : Int64 × mm_S => ((some (mm_J v.1), v.2) : mm_R)) v = oo) (fun n => eX1_cellsWithin_0 n o x1 x2 z) oo :=
  xs_row (T := fun n => let u1 := (tX1_knock o x1 z); eX1_cellsWithin_5 n o x2 u1) (by rcases ok1 hk with rfl | rfl | rfl; exact fun n => qX1_cellsWithin_0_2 n x1 x2 z; exact fun n => qX1_cellsWithin_0_14 n x1 x2 z; exact fun n => qX1_cellsWithin_0_26 n x1 x2 z) (let u1 := (tX1_knock o x1 z); (kX1_cellsWithin_5 o hk x2 u1 oo))
noncomputable def sX1_cellsWithin (o : Nat) (x1 : Int32) (x2 : Int32) (z : mm_S) : Option (Int64 × mm_S) := sX1_cellsWithin_0 o x1 x2 z
theorem sp_X1_cellsWithin (o : Nat) (x1 : Int32) (x2 : Int32) (z : mm_S) (hk : ∀ v ∈ [mm_P 1 o, mm_I x1, mm_I x2], mm_ok 46 lyTX 48 17 v) (q : Int64 × mm_S) (hq : sX1_cellsWithin o x1 x2 z = some q) : f_X1_cellsWithin [mm_P 1 o, mm_I x1, mm_I x2] z (some (mm_J q.1), q.2) := ⟨Nat.le_of_ble_eq_true rfl, kX1_cellsWithin_0 o (hk (mm_P 1 o) (by simp)) x1 x2 z _ q hq rfl⟩
noncomputable def clo_X1_cellsWithin (as : List mm_V) (z : mm_S) (kk : Option mm_V → mm_S → Option mm_R) : Option mm_R := mm_pr as fun t o0 as => bif Nat.beq t 1 then mm_pi as fun a1 as => mm_pi as fun a2 as => (match as with | [] => (sX1_cellsWithin o0 a1 a2 z).bind fun q => kk (some (mm_J q.1)) q.2 | _ => none) else none
theorem cs_X1_cellsWithin : mm_cs lyTX 46 48 17 f_X1_cellsWithin clo_X1_cellsWithin := by
  intro as z K o hk h
  obtain ⟨t0, o0, r0, rfl, g0⟩ := mm_pr_e h
  obtain ⟨b0, k0⟩ := mm_bif_e g0
  obtain rfl := Nat.eq_of_beq_eq_true b0
  obtain ⟨a1, r1, rfl, g1⟩ := mm_pi_e k0
  obtain ⟨a2, r2, rfl, g2⟩ := mm_pi_e g1
  rcases r2 with _ | ⟨u, w⟩
  rotate_left
  · cases g2
  obtain ⟨q, hq, hq2⟩ := Option.bind_eq_some_iff.mp g2
  exact ⟨_, _, sp_X1_cellsWithin o0 a1 a2 z hk q hq, fun v hv => by cases hv; exact Or.inr ⟨_, rfl⟩, hq2⟩
theorem sV_X1_cellsWithin {own : String} {R : Room} {ar : Nat → Nat} {k : Nat} (hlink : Cond.methodLink own k yX1_cellsWithin ∈ lw_gd ∨ ∃ host, (own, k, yX1_cellsWithin, host) ∈ nmA) (har : ar k = 3) (hr : 3 ≤ R.frames ∧ 80 ≤ R.locals) : mm_okV lyTX lyFA lenX snX 46 48 17 roX rsA nfA nmA ssX own R ar k clo_X1_cellsWithin := by
  refine ⟨yX1_cellsWithin, cX1_cellsWithin, 4, some .long, rm_X1_cellsWithin, f_X1_cellsWithin, 1, 2, (RX1, TX1, 4), M_X1_cellsWithin, cs_X1_cellsWithin, hlink, ⟨wv_X1_cellsWithin, wz_X1_cellsWithin, wi_X1_cellsWithin, wc_X1_cellsWithin⟩, ⟨by decide +kernel, by decide +kernel, by decide +kernel⟩, har, ⟨rfl, rfl, by decide⟩, ?_, ⟨rfl, rfl, hr.1, hr.2⟩⟩
  intro as z K o h
  obtain ⟨t0, o0, r0, rfl, g0⟩ := mm_pr_e h
  obtain ⟨b0, k0⟩ := mm_bif_e g0
  obtain rfl := Nat.eq_of_beq_eq_true b0
  exact ⟨_, _, rfl⟩
