/-! ===== the worlds that the constructors leave ===== -/
def sg_zi (k : Nat) : Nat → Int32 := bif Nat.beq k 12 || (Nat.beq k 24 || Nat.beq k 36) then mm_fr 10 (-1) (fun _ => 0) else bif Nat.beq k 1 || (Nat.beq k 13 || Nat.beq k 25) then (fun j => bif Nat.beq j 13 then 1 else 0) else fun _ => 0
def sg_zl (k : Nat) : Nat → Int64 := bif Nat.beq k 3 || (Nat.beq k 15 || Nat.beq k 27) then vp_updL (fun _ => 0) 0 68719476735 else fun _ => 0
def sg_wi (k : Nat) : Nat → Int32 := bif Nat.beq k 1 then (fun j => if 5 ≤ j ∧ j < 5 + 10 then -1 else upd (fun _ => 0) 4 1 j) else fun _ => 0
def sg_z : mm_S := (sg_zi, sg_zl)
def sg_w : mm_S := (sg_wi, fun _ _ => 0)
theorem sg_isN {n : Nat} (h : 0 < n) : isN 0 n := ⟨0, h, rfl⟩
theorem sg_r (j : Nat) (h : ¬ (4 ≤ j ∧ j < 15)) : sg_w.1 1 j = 0 := by
  show (if 5 ≤ j ∧ j < 5 + 10 then (-1 : Int32) else upd (fun _ => 0) 4 1 j) = 0
  rw [if_neg (by omega)]
  show (if j = 4 then (1 : Int32) else 0) = 0
  rw [if_neg (by omega)]
theorem sg_s (j : Nat) (h : 5 ≤ j ∧ j < 15) : sg_w.1 1 j = -1 := by
  show (if 5 ≤ j ∧ j < 5 + 10 then (-1 : Int32) else upd (fun _ => 0) 4 1 j) = -1
  rw [if_pos (by omega)]
theorem sg_ok : okR (sg_w.1 1) := by
  refine ⟨?_, ?_, ?_, ?_, fun i hi => Or.inl (sg_s _ (by omega)), fun i hi => ?_, fun i hi => ⟨?_, ?_, ?_⟩, fun i hi => ?_, fun i hi => ⟨?_, ?_, ?_⟩⟩ <;> (rw [sg_r _ (by omega)]; exact sg_isN (by decide))
theorem sg_st (c : Nat) : stf (sg_w.1 1) c = 0 := by
  unfold stf gN
  rw [sg_r _ (by omega)]
  rfl
theorem sg_tb : ∀ s, s < 5 → tb_S (sg_z.2 3 s) ∧ ∀ c, c < 36 → tb (sg_z.2 3 s) c = decide (0 = s) := fun s hs => by
  have e : sg_z.2 3 s = if s = 0 then 68719476735 else 0 := rfl
  rw [e]
  by_cases h : s = 0
  · rw [if_pos h]
    exact ⟨tb_SA, fun c hc => by rw [tb_ALL, h]; simp [hc]⟩
  · rw [if_neg h]
    exact ⟨tb_S0, fun c hc => by rw [tb_0]; exact (decide_eq_false (fun q => h q.symm)).symm⟩
theorem sg_RM : RM 1 sg_z (sg_w.1 1) := by
  refine ⟨by rw [sg_r _ (by omega)]; rfl, by rw [sg_r _ (by omega)]; rfl, by rw [sg_r _ (by omega)]; rfl, by rw [sg_r _ (by omega)]; rfl, rfl, fun i hi => ?_, fun k hk => ?_, fun i hi => ?_, fun i hi => ?_, fun c hc => ?_, fun s hs => ⟨(sg_tb s hs).1, fun c hc => ?_⟩⟩
  · rw [sg_s _ (by omega)]
    show (if i < 10 then (-1 : Int32) else 0) = -1
    rw [if_pos hi]
  · rw [sg_r _ (by omega), sg_r _ (by omega), sg_r _ (by omega)]
    exact ⟨rfl, rfl, rfl⟩
  · rw [sg_r _ (by omega)]; rfl
  · rw [sg_r _ (by omega), sg_r _ (by omega), sg_r _ (by omega)]
    exact ⟨rfl, rfl, rfl⟩
  · rw [sg_st]; decide
  · rw [sg_st]; exact (sg_tb s hs).2 c hc
theorem sg_Rel : Rel sg_z sg_w := by
  refine ⟨sg_ok, sg_RM, ⟨rfl, Or.inl rfl⟩, ⟨0, by decide, rfl, rfl, fun i hi => absurd hi (Nat.not_lt_zero i)⟩, fun s hs => ⟨rfl, Or.inl rfl, 0, by decide, rfl, rfl, fun i hi => absurd hi (Nat.not_lt_zero i)⟩, fun i hi => rfl, rfl⟩
/-! ===== the cells ===== -/
theorem sg_set {D : va_G} {cl : List vw_C} {ws : va_W} {H : Heap} {k a : Nat} {x : va_E} (h : va_P D cl ws H) (e : va_at D cl (a, x) H) : va_P D cl (ws.set k (a, x)) H := fun j q hq => by
  rw [List.getElem?_set] at hq
  split at hq
  · split at hq
    · cases hq; exact e
    · cases hq
  · exact h j q hq
theorem sg_D {A : Nat → Prop} {ws ws' : va_W} (h : va_D A ws) (e : ws.map Prod.fst = ws'.map Prod.fst) : va_D A ws' := by
  have g : ∀ (k : Nat) (q : Nat × va_E), ws'[k]? = some q → ∃ q', ws[k]? = some q' ∧ q'.1 = q.1 := fun k q hq => by
    have u : (ws'.map Prod.fst)[k]? = some q.1 := by rw [List.getElem?_map, hq]; rfl
    rw [← e, List.getElem?_map] at u
    obtain ⟨q', h1, h2⟩ := Option.map_eq_some_iff.mp u
    exact ⟨q', h1, h2⟩
  refine ⟨fun i j p q hi hj hpq => ?_, fun k q hk => ?_⟩
  · obtain ⟨p', a1, a2⟩ := g i p hi
    obtain ⟨q', b1, b2⟩ := g j q hj
    exact h.1 i j p' q' a1 b1 (by rw [a2, b2, hpq])
  · obtain ⟨q', b1, b2⟩ := g k q hk
    rw [← b2]
    exact h.2 k q' b1
def sg_GX (u : Nat → Nat) (tP tQ : Nat) (adK : Nat → Nat) (cA : Nat → ClassId) (D : va_G) : mm_G := (fun k => bif Nat.blt k 46 then u k else bif Nat.beq k 46 then tP else tQ, adK, cA, D)
def sg_GM (v : Nat → Nat) (adK : Nat → Nat) (cA : Nat → ClassId) (D : va_G) : mm_G := (v, adK, cA, D)
def sg_G0 (adK : Nat → Nat) (cA : Nat → ClassId) (D : va_G) : mm_G := (fun _ => 0, adK, cA, D)
theorem sg_X (u : Nat → Nat) (tP tQ : Nat) (adK : Nat → Nat) (cA : Nat → ClassId) (D : va_G) : bk_X3 (sg_G0 adK cA D) u = mm_ws (sg_GX u tP tQ adK cA D) lyTX lyFA lenX snX 46 sg_z := rfl
theorem sg_M1 (v : Nat → Nat) (adK : Nat → Nat) (cA : Nat → ClassId) (D : va_G) : (bk_X4 (sg_G0 adK cA D) v).map Prod.fst = (mm_ws (sg_GM v adK cA D) lyTM lyFA lenM snM 22 sg_w).map Prod.fst := rfl
theorem sg_M2 (v : Nat → Nat) (adK : Nat → Nat) (cA : Nat → ClassId) (D : va_G) : ((bk_X4 (sg_G0 adK cA D) v).set 14 (v 14, .inl (cA 3, 7, .inr (.inr (.inr (.inr (fun j => some (adK (snM 14 j))))))))).set 15 (v 15, .inl (cA 3, 5, .inr (.inr (.inr (.inr (fun j => some (adK (snM 15 j)))))))) = mm_ws (sg_GM v adK cA D) lyTM lyFA lenM snM 22 sg_w := rfl
theorem sg_arr {c : ClassId} {n : Nat} {f g : Nat → Option Nat} (h : ∀ j, j < n → f j = g j) : vp_cell c (n, .inr (.inr (.inr (.inr f)))) = vp_cell c (n, .inr (.inr (.inr (.inr g)))) := by
  rw [vp_cell_q, vp_cell_q]
  unfold arrV
  congr 1
  apply Array.ext
  · simp
  · intro i h1 h2
    simp at h1 ⊢
    rw [h i h1]
theorem sg_M {v : Nat → Nat} {adK : Nat → Nat} {cA : Nat → ClassId} {D : va_G} {H : Heap} (h : va_P D vwCl (bk_X4 (sg_G0 adK cA D) v) H) : va_P D vwCl (mm_ws (sg_GM v adK cA D) lyTM lyFA lenM snM 22 sg_w) H := by
  rw [← sg_M2]
  refine sg_set (sg_set h ?_) ?_
  · have e := h 14 _ rfl
    show H[v 14]? = some (vp_cell (cA 3) _)
    rw [← sg_arr (f := _) (g := _) ?_]
    · exact e
    · intro j hj
      rcases (show j = 0 ∨ j = 1 ∨ j = 2 ∨ j = 3 ∨ j = 4 ∨ j = 5 ∨ j = 6 by omega) with rfl | rfl | rfl | rfl | rfl | rfl | rfl <;> rfl
  · have e := h 15 _ rfl
    show H[v 15]? = some (vp_cell (cA 3) _)
    rw [← sg_arr (f := _) (g := _) ?_]
    · exact e
    · intro j hj
      rcases (show j = 0 ∨ j = 1 ∨ j = 2 ∨ j = 3 ∨ j = 4 by omega) with rfl | rfl | rfl | rfl | rfl <;> rfl
