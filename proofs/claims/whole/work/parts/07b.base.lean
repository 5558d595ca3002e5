/-! ===== rows put in place of rows; a loop that counts up ===== -/
def mm_rw {α : Type} (f : Nat → Nat → α) (x : Nat) (g : Nat → α) : Nat → Nat → α := fun a => if a = x then g else f a
theorem mm_rw_s {α : Type} (f : Nat → Nat → α) (x : Nat) (g : Nat → α) : mm_rw f x g x = g := if_pos rfl
theorem mm_rw_n {α : Type} (f : Nat → Nat → α) {x a : Nat} (g : Nat → α) (h : a ≠ x) : mm_rw f x g a = f a := if_neg h
theorem mm_rw_rw {α : Type} (f : Nat → Nat → α) (x : Nat) (g h : Nat → α) : mm_rw (mm_rw f x g) x h = mm_rw f x h := by
  funext a
  unfold mm_rw
  by_cases e : a = x
  · rw [if_pos e, if_pos e]
  · rw [if_neg e, if_neg e, if_neg e]
theorem mm_rw_id {α : Type} (f : Nat → Nat → α) (x : Nat) : mm_rw f x (f x) = f := by
  funext a
  unfold mm_rw
  by_cases e : a = x
  · rw [if_pos e, e]
  · rw [if_neg e]
theorem mm_ui_rw (f : Nat → Nat → Int32) (x i : Nat) (v : Int32) : mm_ui f x i v = mm_rw f x (upd (f x) i v) := rfl
theorem mm_ul_rw (f : Nat → Nat → Int64) (x i : Nat) (v : Int64) : mm_ul f x i v = mm_rw f x (vp_updL (f x) i v) := rfl
theorem lp_up {σ : Type} (E : Nat → Int32 → σ → Option mm_R) (b : Nat) (st : Nat → σ) (hstep : ∀ n j, j < b → E (n + 1) (nI j) (st j) = E n (nI (j + 1)) (st (j + 1))) : ∀ k j n : Nat, j + k = b → E (n + k) (nI j) (st j) = E n (nI b) (st b)
  | 0, j, n, h => by
    obtain rfl : j = b := by omega
    rfl
  | k + 1, j, n, h => by
    rw [show n + (k + 1) = (n + k) + 1 by omega, hstep (n + k) j (by omega)]
    exact lp_up E b st hstep k (j + 1) n (by omega)
/-- a row filled from its begin on -/
def mm_fr {α : Type} (n : Nat) (v : α) (f : Nat → α) : Nat → α := fun j => if j < n then v else f j
theorem mm_fr_0 {α : Type} (v : α) (f : Nat → α) : mm_fr 0 v f = f := by
  funext j
  exact if_neg (by omega)
theorem mm_fr_i (n : Nat) (v : Int32) (f : Nat → Int32) : upd (mm_fr n v f) n v = mm_fr (n + 1) v f := by
  funext j
  unfold upd mm_fr
  by_cases h : j = n
  · rw [if_pos h, if_pos (by omega)]
  · rw [if_neg h]
    by_cases h2 : j < n
    · rw [if_pos h2, if_pos (by omega)]
    · rw [if_neg h2, if_neg (by omega)]
theorem mm_fr_j (n : Nat) (v : Int64) (f : Nat → Int64) : vp_updL (mm_fr n v f) n v = mm_fr (n + 1) v f := by
  funext j
  unfold vp_updL mm_fr
  by_cases h : j = n
  · rw [if_pos h, if_pos (by omega)]
  · rw [if_neg h]
    by_cases h2 : j < n
    · rw [if_pos h2, if_pos (by omega)]
    · rw [if_neg h2, if_neg (by omega)]
