/-! ===== rows put in place of rows; a loop that counts up ===== -/
def mm_rw {α : Type} (f : Nat → Nat → α) (x : Nat) (g : Nat → α) : Nat → Nat → α := fun a => if a = x then g else f a
theorem mm_rw_s {α : Type} (f : Nat → Nat → α) (x : Nat) (g : Nat → α) : mm_rw f x g x = g := if_pos rfl
theorem mm_rw_n {α : Type} (f : Nat → Nat → α) {x a : Nat} (g : Nat → α) (h : a ≠ x) : mm_rw f x g a = f a := if_neg h
theorem mm_rw_rw {α : Type} (f : Nat → Nat → α) (x : Nat) (g h : Nat → α) : mm_rw (mm_rw f x g) x h = mm_rw f x h := by
  funext a
  unfold mm_rw
  by_cases e : a = x
  · rw [if_pos e, if_pos e]
  · rw [if_neg e, if_neg e, if_neg e]
theorem mm_rw_id {α : Type} (f : Nat → Nat → α) (x : Nat) : mm_rw f x (f x) = f := by
  funext a
  unfold mm_rw
  by_cases e : a = x
  · rw [if_pos e, e]
  · rw [if_neg e]
theorem mm_ui_rw (f : Nat → Nat → Int32) (x i : Nat) (v : Int32) : mm_ui f x i v = mm_rw f x (upd (f x) i v) := rfl
theorem mm_ul_rw (f : Nat → Nat → Int64) (x i : Nat) (v : Int64) : mm_ul f x i v = mm_rw f x (vp_updL (f x) i v) := rfl
theorem lp_up {σ : Type} (E : Nat → Int32 → σ → Option mm_R) (b : Nat) (st : Nat → σ) (hstep : ∀ n j, j < b → E (n + 1) (nI j) (st j) = E n (nI (j + 1)) (st (j + 1))) : ∀ k j n : Nat, j + k = b → E (n + k) (nI j) (st j) = E n (nI b) (st b)
  | 0, j, n, h => by
    obtain rfl : j = b := by omega
    rfl
  | k + 1, j, n, h => by
    rw [show n + (k + 1) = (n + k) + 1 by omega, hstep (n + k) j (by omega)]
    exact lp_up E b st hstep k (j + 1) n (by omega)
/-- a row filled from its begin on -/
def mm_fr {α : Type} (n : Nat) (v : α) (f : Nat → α) : Nat → α := fun j => if j < n then v else f j
theorem mm_fr_0 {α : Type} (v : α) (f : Nat → α) : mm_fr 0 v f = f := by
  funext j
  exact if_neg (by omega)
theorem mm_fr_i (n : Nat) (v : Int32) (f : Nat → Int32) : upd (mm_fr n v f) n v = mm_fr (n + 1) v f := by
  funext j
  unfold upd mm_fr
  by_cases h : j = n
  · rw [if_pos h, if_pos (by omega)]
  · rw [if_neg h]
    by_cases h2 : j < n
    · rw [if_pos h2, if_pos (by omega)]
    · rw [if_neg h2, if_neg (by omega)]
theorem mm_fr_j (n : Nat) (v : Int64) (f : Nat → Int64) : vp_updL (mm_fr n v f) n v = mm_fr (n + 1) v f := by
  funext j
  unfold vp_updL mm_fr
  by_cases h : j = n
  · rw [if_pos h, if_pos (by omega)]
  · rw [if_neg h]
    by_cases h2 : j < n
    · rw [if_pos h2, if_pos (by omega)]
    · rw [if_neg h2, if_neg (by omega)]
/-- a loop that counts up, and may end early -/
def mm_lp {σ ρ : Type} (stp : Nat → σ → σ ⊕ ρ) (out : σ → ρ) : Nat → Nat → σ → ρ
  | 0, _, s => out s
  | k + 1, j, s => match stp j s with
    | .inl s' => mm_lp stp out k (j + 1) s'
    | .inr r => r
def mm_mt {σ ρ τ : Type} (g : σ → τ) (h : ρ → τ) (w : σ ⊕ ρ) : τ := match w with
  | .inl a => g a
  | .inr b => h b
theorem lp_gen {σ ρ : Type} (f : ρ → mm_R) (E : Nat → Int32 → σ → Option mm_R) (stp : Nat → σ → σ ⊕ ρ) (out : σ → ρ) (b : Nat) (hex : ∀ n s, E (n + 1) (nI b) s = some (f (out s))) (hst : ∀ n j s, j < b → E (n + 1) (nI j) s = mm_mt (fun s' => E n (nI (j + 1)) s') (fun r => some (f r)) (stp j s)) :
    ∀ (k j n : Nat) (s : σ), j + k = b → E (n + 1 + k) (nI j) s = some (f (mm_lp stp out k j s))
  | 0, j, n, s, h => by
    obtain rfl : j = b := by omega
    exact hex n s
  | k + 1, j, n, s, h => by
    rw [show n + 1 + (k + 1) = (n + 1 + k) + 1 by omega, hst (n + 1 + k) j s (by omega)]
    unfold mm_lp
    cases hq : stp j s with
    | inl s' => exact lp_gen f E stp out b hex hst k (j + 1) n s' (by omega)
    | inr r => rfl
theorem lp_B (B : Int32) : B ≤ nI B.toNatClampNeg := by
  by_cases h : B < 0
  · exact Int32.le_of_lt (Int32.lt_of_lt_of_le h (nI_pos' (by
      have := Int32.toInt_lt B
      unfold Int32.toNatClampNeg
      omega)))
  · obtain ⟨j, hj, rfl⟩ := nI_of h
    rw [nI_clamp hj]
    exact Int32.le_refl _
theorem lp_N {B : Int32} {j : Nat} (h : j < B.toNatClampNeg) : ¬ B ≤ nI j := by
  by_cases h0 : B < 0
  · have h1 : B.toInt < 0 := by simpa using Int32.lt_iff_toInt_lt.mp h0
    unfold Int32.toNatClampNeg at h
    omega
  · obtain ⟨q, hq, rfl⟩ := nI_of h0
    rw [nI_clamp hq] at h
    exact nI_ge h hq
/-! what a run says and what it comes to, by a tree of cases; a loop of any kind -/
def mm_wh {σ ρ : Type} (stp : σ → Option (σ ⊕ ρ)) : Nat → σ → Option ρ
  | 0, _ => none
  | k + 1, s => (stp s).bind (mm_mt (fun s' => mm_wh stp k s') (fun r => some r))
def mm_Xs {ρ : Type} (S : Option ρ) (C : ρ → Prop) (T : Nat → Option mm_R) (o : mm_R) : Prop := ∀ w, S = some w → C w → ∃ n, T n = some o
theorem xs_if {ρ : Type} {c : Prop} [Decidable c] {A B : Option ρ} {C : ρ → Prop} {X Y : Nat → Option mm_R} {o : mm_R} (h1 : mm_Xs A C X o) (h2 : mm_Xs B C Y o) : mm_Xs (if c then A else B) C (fun n => if c then X n else Y n) o := by
  intro w h hc
  by_cases e : c
  · rw [if_pos e] at h
    obtain ⟨n, hn⟩ := h1 w h hc
    exact ⟨n, (if_pos e).trans hn⟩
  · rw [if_neg e] at h
    obtain ⟨n, hn⟩ := h2 w h hc
    exact ⟨n, (if_neg e).trans hn⟩
theorem xs_bd {α ρ : Type} {x : Option α} {G : α → Option ρ} {C : ρ → Prop} {F : Nat → α → Option mm_R} {o : mm_R} (h : ∀ q, mm_Xs (G q) C (fun n => F n q) o) : mm_Xs (x.bind G) C (fun n => x.bind (F n)) o := by
  intro w hw hc
  cases x with
  | none => cases hw
  | some a => exact h a w hw hc
theorem xs_n {ρ : Type} {C : ρ → Prop} {T : Nat → Option mm_R} {o : mm_R} : mm_Xs none C T o := fun w h => by cases h
theorem xs_v {ρ : Type} {v : ρ} {C : ρ → Prop} {T : Nat → Option mm_R} {o : mm_R} (h : C v → ∃ n, T n = some o) : mm_Xs (some v) C T o := fun w e hc => by
  cases e
  exact h hc
theorem xs_row {ρ : Type} {S : Option ρ} {C : ρ → Prop} {E T : Nat → Option mm_R} {o : mm_R} (hr : ∀ n, E (n + 1) = T n) (h : mm_Xs S C T o) : mm_Xs S C E o := by
  intro w hw hc
  obtain ⟨n, hn⟩ := h w hw hc
  exact ⟨n + 1, (hr n).trans hn⟩
theorem xs_wh {σ ρ : Type} {stp : σ → Option (σ ⊕ ρ)} {C : ρ → Prop} {E : σ → Nat → Option mm_R} {o : mm_R} (h : ∀ s, mm_Xs (stp s) (mm_mt (fun s' => ∃ n, E s' n = some o) C) (E s) o) : ∀ (k : Nat) (s : σ), mm_Xs (mm_wh stp k s) C (E s) o
  | 0, s => fun w e => by cases e
  | k + 1, s => by
    intro w hw hc
    unfold mm_wh at hw
    obtain ⟨x, hx, hy⟩ := Option.bind_eq_some_iff.mp hw
    refine h s x hx ?_
    cases x with
    | inl s' => exact xs_wh h k s' w hy hc
    | inr r =>
      have e : r = w := Option.some.inj hy
      show C r
      rw [e]
      exact hc
