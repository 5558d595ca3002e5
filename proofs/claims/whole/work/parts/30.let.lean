/-- a number that is named on the way -/
theorem xs_let {α ρ : Type} (a : α) {S : α → Option ρ} {C : ρ → Prop} {T : α → Nat → Option mm_R} {o : mm_R} (h : ∀ v, mm_Xs (S v) C (T v) o) : mm_Xs (S a) C (fun n => T a n) o := h a
