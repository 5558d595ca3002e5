/-! ===== what a run comes to ===== -/
def hh_c {α : Type} (x : Option α) (Q : α → Prop) : Prop := ∃ a, x = some a ∧ Q a
theorem hh_v {α : Type} {v : α} {Q : α → Prop} (h : Q v) : hh_c (some v) Q := ⟨v, rfl, h⟩
theorem hh_bd {α β : Type} {x : Option α} {F : α → Option β} {P : α → Prop} {Q : β → Prop} (h : hh_c x P) (hf : ∀ a, P a → hh_c (F a) Q) : hh_c (x.bind F) Q := by
  obtain ⟨a, rfl, ha⟩ := h
  exact hf a ha
theorem hh_map {α β : Type} {x : Option α} {f : α → β} {P : α → Prop} {Q : β → Prop} (h : hh_c x P) (hf : ∀ a, P a → Q (f a)) : hh_c (x.map f) Q := by
  obtain ⟨a, rfl, ha⟩ := h
  exact ⟨f a, rfl, hf a ha⟩
theorem hh_t {α : Type} {c : Prop} [Decidable c] {A B : Option α} {Q : α → Prop} (hc : c) (h : hh_c A Q) : hh_c (if c then A else B) Q := by rw [if_pos hc]; exact h
theorem hh_f {α : Type} {c : Prop} [Decidable c] {A B : Option α} {Q : α → Prop} (hc : ¬ c) (h : hh_c B Q) : hh_c (if c then A else B) Q := by rw [if_neg hc]; exact h
theorem hh_i {α : Type} {c : Prop} [Decidable c] {A B : Option α} {Q : α → Prop} (h1 : c → hh_c A Q) (h2 : ¬ c → hh_c B Q) : hh_c (if c then A else B) Q := by
  by_cases hc : c
  · rw [if_pos hc]; exact h1 hc
  · rw [if_neg hc]; exact h2 hc
theorem hh_w {α : Type} {x : Option α} {P Q : α → Prop} (h : hh_c x P) (hw : ∀ a, P a → Q a) : hh_c x Q := by
  obtain ⟨a, e, ha⟩ := h
  exact ⟨a, e, hw a ha⟩
theorem hh_wk {σ ρ : Type} {stp : σ → Option (σ ⊕ ρ)} {Q : ρ → Prop} (I : Nat → σ → Prop) (N : Nat) (hst : ∀ j s, j ≤ N → I j s → hh_c (stp s) (mm_mt (fun s' => j < N ∧ I (j + 1) s') Q)) :
    ∀ (k j : Nat) (s : σ), j ≤ N → N - j < k → I j s → hh_c (mm_wh stp k s) Q
  | 0, _, _, _, hk, _ => absurd hk (Nat.not_lt_zero _)
  | k + 1, j, s, hj, hk, hi => by
    obtain ⟨x, hx, hy⟩ := hst j s hj hi
    unfold mm_wh
    rw [hx]
    cases x with
    | inl s' =>
      have hy : j < N ∧ I (j + 1) s' := hy
      exact hh_wk I N hst k (j + 1) s' hy.1 (by have := hy.1; omega) hy.2
    | inr r => exact ⟨r, rfl, hy⟩
/-- a loop that counts up to N at most -/
theorem hh_up {σ ρ : Type} {stp : σ → Option (σ ⊕ ρ)} {Q : ρ → Prop} {s : σ} (I : Nat → σ → Prop) (N : Nat) (hN : N < 1000000) (h0 : I 0 s) (hst : ∀ j s, j ≤ N → I j s → hh_c (stp s) (mm_mt (fun s' => j < N ∧ I (j + 1) s') Q)) : hh_c (mm_wh stp mm_fu s) Q :=
  hh_wk I N hst mm_fu 0 s (Nat.zero_le _) (by rw [mm_fu_e]; omega) h0
theorem hh_wm {σ ρ : Type} {stp : σ → Option (σ ⊕ ρ)} {Q : ρ → Prop} (I : σ → Prop) (μ : σ → Nat) (hst : ∀ s, I s → hh_c (stp s) (mm_mt (fun s' => I s' ∧ μ s' < μ s) Q)) : ∀ (k : Nat) (s : σ), I s → μ s < k → hh_c (mm_wh stp k s) Q
  | 0, _, _, hk => absurd hk (Nat.not_lt_zero _)
  | k + 1, s, hi, hk => by
    obtain ⟨x, hx, hy⟩ := hst s hi
    unfold mm_wh
    rw [hx]
    cases x with
    | inl s' =>
      have hy : I s' ∧ μ s' < μ s := hy
      exact hh_wm I μ hst k s' hy.1 (by have := hy.2; omega)
    | inr r => exact ⟨r, rfl, hy⟩
/-- a loop that a number bounds which falls -/
theorem hh_ms {σ ρ : Type} {stp : σ → Option (σ ⊕ ρ)} {Q : ρ → Prop} {s : σ} (I : σ → Prop) (μ : σ → Nat) (h0 : I s) (hm : μ s < 1000000) (hst : ∀ s, I s → hh_c (stp s) (mm_mt (fun s' => I s' ∧ μ s' < μ s) Q)) : hh_c (mm_wh stp mm_fu s) Q :=
  hh_wm I μ hst mm_fu s h0 (by rw [mm_fu_e]; exact hm)
/-! ===== rows ===== -/
theorem ru_s (f : Nat → Nat → Int32) (k i : Nat) (x : Int32) : mm_ui f k i x k i = x := by simp [mm_ui, upd]
theorem ru_n (f : Nat → Nat → Int32) {k i a : Nat} (x : Int32) (h : a ≠ k) : mm_ui f k i x a = f a := by simp [mm_ui, h]
theorem ru_i (f : Nat → Nat → Int32) {k i j : Nat} (x : Int32) (h : j ≠ i) : mm_ui f k i x k j = f k j := by simp [mm_ui, upd, h]
theorem ru_r (f : Nat → Nat → Int32) (k i : Nat) (x : Int32) : mm_ui f k i x k = upd (f k) i x := by simp [mm_ui]
theorem ru_c (f : Nat → Nat → Int32) (k i a j : Nat) (x : Int32) (h : ¬ (a = k ∧ j = i)) : mm_ui f k i x a j = f a j := by
  by_cases e : a = k
  · subst e
    exact ru_i f x (fun q => h ⟨rfl, q⟩)
  · rw [ru_n f x e]
theorem rl_s (f : Nat → Nat → Int64) (k i : Nat) (x : Int64) : mm_ul f k i x k i = x := by simp [mm_ul, vp_updL]
theorem rl_n (f : Nat → Nat → Int64) {k i a : Nat} (x : Int64) (h : a ≠ k) : mm_ul f k i x a = f a := by simp [mm_ul, h]
theorem rl_i (f : Nat → Nat → Int64) {k i j : Nat} (x : Int64) (h : j ≠ i) : mm_ul f k i x k j = f k j := by simp [mm_ul, vp_updL, h]
/-! ===== bits of a long ===== -/
def tb (x : Int64) (i : Nat) : Bool := x.toBitVec.getLsbD i
def tb_S (x : Int64) : Prop := ∀ i, 36 ≤ i → tb x i = false
theorem tb_ge (x : Int64) {i : Nat} (h : 64 ≤ i) : tb x i = false := BitVec.getLsbD_of_ge _ _ h
theorem tb_ext {x y : Int64} (h : ∀ i, i < 64 → tb x i = tb y i) : x = y := wb_inj (BitVec.eq_of_getLsbD_eq fun i hi => h i hi)
theorem tb_and (x y : Int64) (i : Nat) : tb (x &&& y) i = (tb x i && tb y i) := by unfold tb; rw [Int64.toBitVec_and, BitVec.getLsbD_and]
theorem tb_or (x y : Int64) (i : Nat) : tb (x ||| y) i = (tb x i || tb y i) := by unfold tb; rw [Int64.toBitVec_or, BitVec.getLsbD_or]
theorem tb_not (x : Int64) {i : Nat} (h : i < 64) : tb (x ^^^ (-1)) i = !tb x i := by
  unfold tb
  have ha : (-1 : Int64).toBitVec = BitVec.allOnes 64 := by decide
  rw [Int64.toBitVec_xor, ha, BitVec.getLsbD_xor, BitVec.getLsbD_allOnes]
  simp [h]
theorem tb_lN (n i : Nat) : tb (lN n) i = (decide (i < 64) && n.testBit i) := by
  unfold tb
  rw [wb_tb, BitVec.getLsbD_ofNat]
theorem tb_0 (i : Nat) : tb 0 i = false := by
  have : tb (lN 0) i = false := by rw [tb_lN]; simp
  exact this
theorem tb_set {c : Nat} (h : c < 64) (i : Nat) : tb (pX3_setOf (nI c)) i = decide (i = c) := by
  have e : pX3_setOf (nI c) = lN (1 * 2 ^ c) := wb_shl 1 h
  rw [e, tb_lN, Nat.one_mul, Nat.testBit_two_pow]
  by_cases q : c = i
  · subst q; simp [h]
  · simp [q, Ne.symm q]
theorem tb_one {c : Nat} (h : c < 64) (i : Nat) : tb ((1 : Int64) <<< (Int32.toInt64 (nI c) &&& 63)) i = decide (i = c) := tb_set h i
theorem tb_ushr (x : Int64) {k : Nat} (hk : k < 64) (i : Nat) : tb ((Int64.toUInt64 x >>> (Int64.toUInt64 (Int32.toInt64 (nI k)) &&& Int64.toUInt64 63)).toInt64) i = tb x (k + i) := by
  obtain ⟨n, hn, rfl⟩ := wb_of x
  have e := wb_shr hn hk
  rw [e, tb_lN, tb_lN, Nat.testBit_div_two_pow, Nat.add_comm]
  by_cases q : i < 64
  · by_cases q2 : k + i < 64
    · simp [q, q2]
    · have : n.testBit (k + i) = false := Nat.testBit_lt_two_pow (Nat.lt_of_lt_of_le hn (Nat.pow_le_pow_right (by decide) (by omega)))
      simp [this]
  · have q2 : ¬ k + i < 64 := by omega
    simp [q, q2]
theorem tb_shl (x : Int64) {k : Nat} (hk : k < 64) (i : Nat) : tb (x <<< (Int32.toInt64 (nI k) &&& 63)) i = (decide (i < 64) && (decide (k ≤ i) && tb x (i - k))) := by
  obtain ⟨n, hn, rfl⟩ := wb_of x
  rw [wb_shl n hk, tb_lN, Nat.testBit_mul_two_pow, tb_lN]
  by_cases q : i < 64
  · have : i - k < 64 := by omega
    simp [q, this]
  · simp [q]
theorem lgc_0 (x y : Int64) : lg_cmp x y = 0 ↔ x = y := by
  unfold lg_cmp
  by_cases h1 : x > y
  · rw [if_pos h1]
    constructor
    · intro h; exact absurd h (by decide)
    · rintro rfl; exact absurd h1 (by simp [Int64.lt_iff_toInt_lt])
  · rw [if_neg h1]
    by_cases h2 : x = y
    · rw [if_pos h2]; exact ⟨fun _ => h2, fun _ => rfl⟩
    · rw [if_neg h2]
      exact ⟨fun h => absurd h (by decide), fun h => absurd h h2⟩
theorem tb_z (x : Int64) : x = 0 ↔ ∀ i, i < 64 → tb x i = false := by
  constructor
  · rintro rfl i _; exact tb_0 i
  · intro h
    exact tb_ext fun i hi => by rw [h i hi, tb_0]
theorem tb_zS {x : Int64} (hs : tb_S x) : x = 0 ↔ ∀ i, i < 36 → tb x i = false := by
  rw [tb_z]
  constructor
  · intro h i hi; exact h i (by omega)
  · intro h i _
    by_cases q : i < 36
    · exact h i q
    · exact hs i (by omega)
theorem tb_extS {x y : Int64} (hx : tb_S x) (hy : tb_S y) (h : ∀ i, i < 36 → tb x i = tb y i) : x = y := tb_ext fun i _ => by
  by_cases q : i < 36
  · exact h i q
  · rw [hx i (by omega), hy i (by omega)]
theorem tb_b1 (x : Int64) {k : Nat} (hk : k < 64) : ((Int64.toUInt64 x >>> (Int64.toUInt64 (Int32.toInt64 (nI k)) &&& Int64.toUInt64 63)).toInt64 &&& 1) = 0 ↔ tb x k = false := by
  rw [tb_z]
  have e1 : ∀ i, tb 1 i = decide (i = 0) := fun i => by
    have := tb_set (c := 0) (by decide) i
    exact this
  constructor
  · intro h
    have := h 0 (by decide)
    rw [tb_and, tb_ushr x hk, e1] at this
    simpa using this
  · intro h i _
    rw [tb_and, tb_ushr x hk, e1]
    by_cases q : i = 0
    · subst q; simp [h]
    · simp [q]
theorem tb_has (x : Int64) {c : Nat} (h : c < 64) : pX3_has x (nI c) = if tb x c = true then 1 else 0 := by
  unfold pX3_has
  by_cases q : tb x c = true
  · rw [if_pos q, if_neg]
    rw [lgc_0, tb_b1 x h, q]
    decide
  · have q2 : tb x c = false := by simpa using q
    rw [if_neg q, if_pos]
    rw [lgc_0, tb_b1 x h, q2]
theorem tb_has0 {x : Int64} {c : Nat} (h : c < 64) : pX3_has x (nI c) = 0 ↔ tb x c = false := by
  rw [tb_has x h]
  cases tb x c <;> simp
theorem tb_ALL (i : Nat) : tb 68719476735 i = decide (i < 36) := by
  have e : (68719476735 : Int64) = lN (2 ^ 36 - 1) := by decide
  rw [e, tb_lN, Nat.testBit_two_pow_sub_one]
  by_cases h : i < 36
  · simp [h, show i < 64 by omega]
  · simp [h]
theorem tb_LAST : ∀ i, i < 64 → tb (-34905131041) i = !(decide (i < 36) && decide (i % 6 = 5)) := by decide +kernel
theorem tb_FIRST : ∀ i, i < 64 → tb (-1090785346) i = !(decide (i < 36) && decide (i % 6 = 0)) := by decide +kernel
/-- one cell is beside another -/
def ad (b c : Nat) : Prop := b < 36 ∧ c < 36 ∧ (c = b + 6 ∨ b = c + 6 ∨ (c = b + 1 ∧ b % 6 ≠ 5) ∨ (b = c + 1 ∧ b % 6 ≠ 0))
theorem ad_s {b c : Nat} (h : ad b c) : ad c b := by unfold ad at h ⊢; omega
theorem tb_bes {x : Int64} (hs : tb_S x) {c : Nat} (hc : c < 36) : tb (pX3_besides x) c = true ↔ ∃ b, tb x b = true ∧ ad b c := by
  have e6 : (6 : Int32) = nI 6 := rfl
  have e1 : (1 : Int32) = nI 1 := rfl
  unfold pX3_besides
  simp only [e6, e1, tb_or, tb_and, tb_shl _ (show 6 < 64 by decide), tb_shl _ (show 1 < 64 by decide), tb_ushr _ (show 6 < 64 by decide), tb_ushr _ (show 1 < 64 by decide), tb_ALL]
  have hx : ∀ b, tb x b = true → b < 36 := fun b h => by
    refine Classical.byContradiction fun q => ?_
    rw [hs b (by omega)] at h
    exact absurd h (by decide)
  rw [tb_LAST (c - 1) (by omega), tb_FIRST (1 + c) (by omega)]
  simp only [Bool.or_eq_true, Bool.and_eq_true, decide_eq_true_eq, Bool.not_eq_true', Bool.and_eq_false_iff, decide_eq_false_iff_not]
  unfold ad
  constructor
  · rintro (((⟨⟨_, h1, h2⟩, _⟩ | h) | ⟨_, h1, h2, h3⟩) | ⟨h1, h2⟩)
    · exact ⟨c - 6, h2, by omega, by omega, by omega⟩
    · have := hx _ h
      exact ⟨6 + c, h, by omega, by omega, by omega⟩
    · exact ⟨c - 1, h2, by omega, by omega, by omega⟩
    · have := hx _ h1
      exact ⟨1 + c, h1, by omega, by omega, by omega⟩
  · rintro ⟨b, hb, h1, h2, h3 | h3 | ⟨h3, h4⟩ | ⟨h3, h4⟩⟩
    · refine Or.inl (Or.inl (Or.inl ⟨⟨by omega, by omega, ?_⟩, by omega⟩))
      rw [show c - 6 = b by omega]; exact hb
    · refine Or.inl (Or.inl (Or.inr ?_))
      rw [show 6 + c = b by omega]; exact hb
    · refine Or.inl (Or.inr ⟨by omega, by omega, ?_, by omega⟩)
      rw [show c - 1 = b by omega]; exact hb
    · refine Or.inr ⟨?_, by omega⟩
      rw [show 1 + c = b by omega]; exact hb
theorem tb_besS {x : Int64} (hs : tb_S x) : tb_S (pX3_besides x) := by
  intro i hi
  have e6 : (6 : Int32) = nI 6 := rfl
  have e1 : (1 : Int32) = nI 1 := rfl
  by_cases h64 : 64 ≤ i
  · exact tb_ge _ h64
  unfold pX3_besides
  simp only [e6, e1, tb_or, tb_and, tb_shl _ (show 6 < 64 by decide), tb_shl _ (show 1 < 64 by decide), tb_ushr _ (show 6 < 64 by decide), tb_ushr _ (show 1 < 64 by decide), tb_ALL]
  rw [hs (6 + i) (by omega), hs (1 + i) (by omega), tb_LAST (i - 1) (by omega)]
  by_cases q : i = 36
  · subst q; simp
  · rw [hs (i - 1) (by omega)]
    simp [show ¬ i < 36 by omega]
theorem tb_setS {c : Nat} (h : c < 36) : tb_S (pX3_setOf (nI c)) := fun i hi => by
  rw [tb_set (by omega)]
  simp only [decide_eq_false_iff_not]
  omega
theorem tb_andS {x y : Int64} (h : tb_S x) : tb_S (x &&& y) := fun i hi => by rw [tb_and, h i hi]; rfl
theorem tb_andS2 {x y : Int64} (h : tb_S y) : tb_S (x &&& y) := fun i hi => by rw [tb_and, h i hi, Bool.and_false]
theorem tb_orS {x y : Int64} (h : tb_S x) (h2 : tb_S y) : tb_S (x ||| y) := fun i hi => by rw [tb_or, h i hi, h2 i hi]; rfl
theorem tb_S0 : tb_S 0 := fun i _ => tb_0 i
theorem tb_SA : tb_S 68719476735 := fun i hi => by rw [tb_ALL]; simp; omega
/-! ===== ways, and the least sum of one ===== -/
def wk_n (S : Nat → Nat → Prop) (E : Nat → Nat → Nat → Prop) : Nat → Nat → Nat → Prop
  | 0, c, k => S c k
  | n + 1, c, k => ∃ b j e, wk_n S E n b j ∧ E b c e ∧ k = j + e
def wk_W (S : Nat → Nat → Prop) (E : Nat → Nat → Nat → Prop) (c k : Nat) : Prop := ∃ n, wk_n S E n c k
section WK
variable {S : Nat → Nat → Prop} {E : Nat → Nat → Nat → Prop}
theorem wk_0 {c k : Nat} (h : S c k) : wk_W S E c k := ⟨0, h⟩
theorem wk_s {b j c e : Nat} (h : wk_W S E b j) (he : E b c e) : wk_W S E c (j + e) := by
  obtain ⟨n, hn⟩ := h
  exact ⟨n + 1, b, j, e, hn, he, rfl⟩
theorem wk_ind {P : Nat → Nat → Prop} (h0 : ∀ c k, S c k → P c k) (hs : ∀ b j c e, wk_W S E b j → P b j → E b c e → P c (j + e)) : ∀ c k, wk_W S E c k → P c k := by
  rintro c k ⟨n, hn⟩
  induction n generalizing c k with
  | zero => exact h0 c k hn
  | succ n ih =>
    obtain ⟨b, j, e, hb, he, rfl⟩ := hn
    exact hs b j c e ⟨n, hb⟩ (ih b j hb) he
theorem wk_inv {c k : Nat} (h : wk_W S E c k) : S c k ∨ ∃ b j e, wk_W S E b j ∧ E b c e ∧ k = j + e := by
  obtain ⟨n, hn⟩ := h
  cases n with
  | zero => exact Or.inl hn
  | succ n =>
    obtain ⟨b, j, e, hb, he, h⟩ := hn
    exact Or.inr ⟨b, j, e, ⟨n, hb⟩, he, h⟩
end WK
theorem wk_least {p : Nat → Prop} (h : ∃ n, p n) : ∃ n, p n ∧ ∀ m, m < n → ¬ p m := by
  obtain ⟨n, hn⟩ := h
  refine Classical.byContradiction fun hx => ?_
  have key : ∀ n, ¬ p n := by
    intro n
    induction n using Nat.strongRecOn with
    | _ n ih => exact fun hp => hx ⟨n, hp, ih⟩
  exact key n hn
/-- the least sum (10000: none below) -/
noncomputable def wk_d (S : Nat → Nat → Prop) (E : Nat → Nat → Nat → Prop) (c : Nat) : Nat := Classical.choose (wk_least (p := fun k => k = 10000 ∨ wk_W S E c k) ⟨10000, Or.inl rfl⟩)
section WK
variable {S : Nat → Nat → Prop} {E : Nat → Nat → Nat → Prop}
theorem wk_ds (S : Nat → Nat → Prop) (E : Nat → Nat → Nat → Prop) (c : Nat) : (wk_d S E c = 10000 ∨ wk_W S E c (wk_d S E c)) ∧ ∀ m, m < wk_d S E c → ¬ (m = 10000 ∨ wk_W S E c m) := Classical.choose_spec (wk_least (p := fun k => k = 10000 ∨ wk_W S E c k) ⟨10000, Or.inl rfl⟩)
theorem wk_dle (c : Nat) : wk_d S E c ≤ 10000 := Nat.le_of_not_lt fun h => (wk_ds S E c).2 10000 h (Or.inl rfl)
theorem wk_dW {c : Nat} (h : wk_d S E c < 10000) : wk_W S E c (wk_d S E c) := by
  rcases (wk_ds S E c).1 with q | q
  · omega
  · exact q
theorem wk_dm {c k : Nat} (h : wk_W S E c k) : wk_d S E c ≤ k := Nat.le_of_not_lt fun q => (wk_ds S E c).2 k q (Or.inr h)
theorem wk_du {c k : Nat} (h : wk_W S E c k) (hk : k ≤ 10000) (hm : ∀ j, j < k → ¬ wk_W S E c j) : wk_d S E c = k := by
  have h1 := wk_dm h
  rcases Nat.lt_or_ge (wk_d S E c) k with q | q
  · exact absurd (wk_dW (by omega)) (hm _ q)
  · omega
theorem wk_dN {c : Nat} (h : ∀ k, ¬ wk_W S E c k) : wk_d S E c = 10000 := by
  have h1 := wk_dle (S := S) (E := E) c
  rcases Nat.lt_or_ge (wk_d S E c) 10000 with q | q
  · exact absurd (wk_dW q) (h _)
  · omega
/-- what can't be made less is it -/
theorem wk_fix {T : Nat → Nat} (hS : ∀ c k, S c k → c < 36) (hE : ∀ b c e, E b c e → b < 36 ∧ c < 36) (h1 : ∀ c, c < 36 → T c ≤ 10000) (h2 : ∀ c, c < 36 → T c < 10000 → wk_W S E c (T c)) (h3 : ∀ c k, S c k → T c ≤ k) (h4 : ∀ b c e, E b c e → T b + e < 10000 → T c ≤ T b + e) :
    ∀ c, c < 36 → T c = wk_d S E c := by
  have key : ∀ c k, wk_W S E c k → k < 10000 → T c ≤ k := by
    refine wk_ind (fun c k h _ => h3 c k h) (fun b j c e _ ih he hk => ?_)
    have := ih (by omega)
    have := h4 b c e he (by omega)
    omega
  intro c hc
  have a := h1 c hc
  have b := wk_dle (S := S) (E := E) c
  rcases Nat.lt_or_ge (T c) 10000 with q | q
  · have := wk_dm (h2 c hc q)
    have := key c _ (wk_dW (S := S) (E := E) (c := c) (by omega)) (by omega)
    omega
  · rcases Nat.lt_or_ge (wk_d S E c) 10000 with q2 | q2
    · have := key c _ (wk_dW q2) q2
      omega
    · omega
end WK
