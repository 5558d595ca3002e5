/-! ===== what is kept: books, the image, counts ===== -/
theorem cp_n {α : Type} (f : Nat → Nat → α) (a b n : Nat) {q : Nat} (h : q ≠ b) : mm_cp f a b 0 0 n q = f q := by simp [mm_cp, h]
theorem cp_b {α : Type} (f : Nat → Nat → α) (a b : Nat) {n i : Nat} (h : i < n) : mm_cp f a b 0 0 n b i = f a i := by simp [mm_cp, va_cpy, h]
/-- one mine becomes another -/
theorem x_become0 {o y : Nat} {z : mm_S} {r : Nat → Int32} (ho : (o = 13 ∧ y = 1) ∨ (o = 1 ∧ y = 13) ∨ (o = 25 ∧ y = 1) ∨ (o = 1 ∧ y = 25)) (hm : RM y z r) :
    RM o (tX0_become o y z) r ∧ (∀ b, b ≠ o → ¬ (o + 4 ≤ b ∧ b ≤ o + 11) → (tX0_become o y z).1 b = z.1 b) ∧ (∀ b, b ≠ o + 2 → (tX0_become o y z).2 b = z.2 b) := by
  have l : lenX (o + 4) = 6 ∧ lenX (o + 5) = 6 ∧ lenX (o + 6) = 6 ∧ lenX (o + 7) = 4 ∧ lenX (o + 8) = 8 ∧ lenX (o + 9) = 8 ∧ lenX (o + 10) = 8 ∧ lenX (o + 11) = 10 ∧ lenX (y + 4) = 6 ∧ lenX (y + 5) = 6 ∧ lenX (y + 6) = 6 ∧ lenX (y + 7) = 4 ∧ lenX (y + 8) = 8 ∧ lenX (y + 9) = 8 ∧ lenX (y + 10) = 8 ∧ lenX (y + 11) = 10 := by
    rcases ho with ⟨rfl, rfl⟩ | ⟨rfl, rfl⟩ | ⟨rfl, rfl⟩ | ⟨rfl, rfl⟩ <;> decide
  obtain ⟨o4, o5, o6, o7, o8, o9, o10, o11, y4, y5, y6, y7, y8, y9, y10, y11⟩ := l
  have e : tX0_become o y z = (mm_ui (mm_ui (mm_cp (mm_ui (mm_cp (mm_cp (mm_cp (mm_ui (mm_cp (mm_ui (mm_cp (mm_cp (mm_cp z.1 (y + 4) (o + 4) 0 0 6) (y + 5) (o + 5) 0 0 6) (y + 6) (o + 6) 0 0 6) o 4 (z.1 y 4)) (y + 7) (o + 7) 0 0 4) o 6 (z.1 y 6)) (y + 8) (o + 8) 0 0 8) (y + 9) (o + 9) 0 0 8) (y + 10) (o + 10) 0 0 8) o 10 (z.1 y 10)) (y + 11) (o + 11) 0 0 10) o 12 (z.1 y 12)) o 13 (z.1 y 13), mm_cp z.2 (y + 2) (o + 2) 0 0 5) := by
    unfold tX0_become tX0_become_11 tX0_become_22 tX0_become_33 tX0_become_44 tX0_become_52 tX0_become_63 tX0_become_71 tX0_become_82 tX0_become_93 tX0_become_104 tX0_become_112 tX0_become_123 tX0_become_131 tX0_become_139 tX1_becomeRock tX3_copyRow
    dsimp only
    rw [o4, o5, o6, o7, o8, o9, o10, o11, y4, y5, y6, y7, y8, y9, y10, y11]
    have q : ∀ b, b = y → b ≠ o ∧ b ≠ o + 4 ∧ b ≠ o + 5 ∧ b ≠ o + 6 ∧ b ≠ o + 7 ∧ b ≠ o + 8 ∧ b ≠ o + 9 ∧ b ≠ o + 10 ∧ b ≠ o + 11 := fun b hb => by omega
    obtain ⟨q0, q4, q5, q6, q7, q8, q9, q10, q11⟩ := q y rfl
    simp only [Nat.min_self, cp_n _ _ _ _ q4, cp_n _ _ _ _ q5, cp_n _ _ _ _ q6, cp_n _ _ _ _ q7, cp_n _ _ _ _ q8, cp_n _ _ _ _ q9, cp_n _ _ _ _ q10, cp_n _ _ _ _ q11, ru_n _ _ q0]
  rw [e]
  obtain ⟨a1, a2, a3, a4, a5, a6, a7, a8, a9, a10⟩ := hm
  have s1 : ∀ b, b ≠ o → ¬ (o + 4 ≤ b ∧ b ≤ o + 11) → (mm_ui (mm_ui (mm_cp (mm_ui (mm_cp (mm_cp (mm_cp (mm_ui (mm_cp (mm_ui (mm_cp (mm_cp (mm_cp z.1 (y + 4) (o + 4) 0 0 6) (y + 5) (o + 5) 0 0 6) (y + 6) (o + 6) 0 0 6) o 4 (z.1 y 4)) (y + 7) (o + 7) 0 0 4) o 6 (z.1 y 6)) (y + 8) (o + 8) 0 0 8) (y + 9) (o + 9) 0 0 8) (y + 10) (o + 10) 0 0 8) o 10 (z.1 y 10)) (y + 11) (o + 11) 0 0 10) o 12 (z.1 y 12)) o 13 (z.1 y 13)) b = z.1 b := fun b h1 h2 => by
    rw [ru_n _ _ h1, ru_n _ _ h1, cp_n _ _ _ _ (by omega), ru_n _ _ h1, cp_n _ _ _ _ (by omega), cp_n _ _ _ _ (by omega), cp_n _ _ _ _ (by omega), ru_n _ _ h1, cp_n _ _ _ _ (by omega), ru_n _ _ h1, cp_n _ _ _ _ (by omega), cp_n _ _ _ _ (by omega), cp_n _ _ _ _ (by omega)]
  refine ⟨⟨?_, ?_, ?_, ?_, ?_, fun i hi => ?_, fun k hk => ⟨?_, ?_, ?_⟩, fun i hi => ?_, fun i hi => ⟨?_, ?_, ?_⟩, ?_⟩, s1, fun b hb => cp_n _ _ _ _ hb⟩ <;> try dsimp only
  · rw [← a1, ru_i _ _ (by decide), ru_s]
  · rw [← a2, ru_i _ _ (by decide), ru_i _ _ (by decide), cp_n _ _ _ _ (by omega), ru_i _ _ (by decide), cp_n _ _ _ _ (by omega), cp_n _ _ _ _ (by omega), cp_n _ _ _ _ (by omega), ru_i _ _ (by decide), cp_n _ _ _ _ (by omega), ru_s]
  · rw [← a3, ru_i _ _ (by decide), ru_i _ _ (by decide), cp_n _ _ _ _ (by omega), ru_s]
  · rw [← a4, ru_i _ _ (by decide), ru_i _ _ (by decide), cp_n _ _ _ _ (by omega), ru_i _ _ (by decide), cp_n _ _ _ _ (by omega), cp_n _ _ _ _ (by omega), cp_n _ _ _ _ (by omega), ru_s]
  · rw [← a5, ru_s]
  · rw [← a6 i hi, ru_n _ _ (by omega), ru_n _ _ (by omega), cp_b _ _ _ hi, ru_n _ _ (by omega), cp_n _ _ _ _ (by omega), cp_n _ _ _ _ (by omega), cp_n _ _ _ _ (by omega), ru_n _ _ (by omega), cp_n _ _ _ _ (by omega), ru_n _ _ (by omega), cp_n _ _ _ _ (by omega), cp_n _ _ _ _ (by omega), cp_n _ _ _ _ (by omega)]
  · rw [← (a7 k hk).1, ru_n _ _ (by omega), ru_n _ _ (by omega), cp_n _ _ _ _ (by omega), ru_n _ _ (by omega), cp_n _ _ _ _ (by omega), cp_n _ _ _ _ (by omega), cp_n _ _ _ _ (by omega), ru_n _ _ (by omega), cp_n _ _ _ _ (by omega), ru_n _ _ (by omega), cp_n _ _ _ _ (by omega), cp_n _ _ _ _ (by omega), cp_b _ _ _ hk]
  · rw [← (a7 k hk).2.1, ru_n _ _ (by omega), ru_n _ _ (by omega), cp_n _ _ _ _ (by omega), ru_n _ _ (by omega), cp_n _ _ _ _ (by omega), cp_n _ _ _ _ (by omega), cp_n _ _ _ _ (by omega), ru_n _ _ (by omega), cp_n _ _ _ _ (by omega), ru_n _ _ (by omega), cp_n _ _ _ _ (by omega), cp_b _ _ _ hk, cp_n _ _ _ _ (by omega)]
  · rw [← (a7 k hk).2.2, ru_n _ _ (by omega), ru_n _ _ (by omega), cp_n _ _ _ _ (by omega), ru_n _ _ (by omega), cp_n _ _ _ _ (by omega), cp_n _ _ _ _ (by omega), cp_n _ _ _ _ (by omega), ru_n _ _ (by omega), cp_n _ _ _ _ (by omega), ru_n _ _ (by omega), cp_b _ _ _ hk, cp_n _ _ _ _ (by omega), cp_n _ _ _ _ (by omega)]
  · rw [← a8 i hi, ru_n _ _ (by omega), ru_n _ _ (by omega), cp_n _ _ _ _ (by omega), ru_n _ _ (by omega), cp_n _ _ _ _ (by omega), cp_n _ _ _ _ (by omega), cp_n _ _ _ _ (by omega), ru_n _ _ (by omega), cp_b _ _ _ hi, ru_n _ _ (by omega), cp_n _ _ _ _ (by omega), cp_n _ _ _ _ (by omega), cp_n _ _ _ _ (by omega)]
  · rw [← (a9 i hi).1, ru_n _ _ (by omega), ru_n _ _ (by omega), cp_n _ _ _ _ (by omega), ru_n _ _ (by omega), cp_n _ _ _ _ (by omega), cp_n _ _ _ _ (by omega), cp_b _ _ _ hi, ru_n _ _ (by omega), cp_n _ _ _ _ (by omega), ru_n _ _ (by omega), cp_n _ _ _ _ (by omega), cp_n _ _ _ _ (by omega), cp_n _ _ _ _ (by omega)]
  · rw [← (a9 i hi).2.1, ru_n _ _ (by omega), ru_n _ _ (by omega), cp_n _ _ _ _ (by omega), ru_n _ _ (by omega), cp_n _ _ _ _ (by omega), cp_b _ _ _ hi, cp_n _ _ _ _ (by omega), ru_n _ _ (by omega), cp_n _ _ _ _ (by omega), ru_n _ _ (by omega), cp_n _ _ _ _ (by omega), cp_n _ _ _ _ (by omega), cp_n _ _ _ _ (by omega)]
  · rw [← (a9 i hi).2.2, ru_n _ _ (by omega), ru_n _ _ (by omega), cp_n _ _ _ _ (by omega), ru_n _ _ (by omega), cp_b _ _ _ hi, cp_n _ _ _ _ (by omega), cp_n _ _ _ _ (by omega), ru_n _ _ (by omega), cp_n _ _ _ _ (by omega), ru_n _ _ (by omega), cp_n _ _ _ _ (by omega), cp_n _ _ _ _ (by omega), cp_n _ _ _ _ (by omega)]
  · refine ⟨a10.1, fun s hs => ?_⟩
    have : mm_cp z.2 (y + 2) (o + 2) 0 0 5 (o + 1 + 1) s = z.2 (y + 1 + 1) s := cp_b _ _ _ hs
    show tb_S (mm_cp z.2 (y + 2) (o + 2) 0 0 5 (o + 1 + 1) s) ∧ ∀ c, c < 36 → tb (mm_cp z.2 (y + 2) (o + 2) 0 0 5 (o + 1 + 1) s) c = decide (stf r c = s)
    rw [this]
    exact a10.2 s hs
theorem x_become {o y : Nat} {z : mm_S} {r : Nat → Int32} (ho : (o = 13 ∧ y = 1) ∨ (o = 1 ∧ y = 13) ∨ (o = 25 ∧ y = 1)) (hm : RM y z r) :
    RM o (tX0_become o y z) r ∧ (∀ b, b ≠ o → ¬ (o + 4 ≤ b ∧ b ≤ o + 11) → (tX0_become o y z).1 b = z.1 b) ∧ (∀ b, b ≠ o + 2 → (tX0_become o y z).2 b = z.2 b) :=
  x_become0 (ho.elim Or.inl fun h => Or.inr (h.elim Or.inl fun h => Or.inr (Or.inl h))) hm
/-- a row of the reference copied -/
theorem m_copy {a b : Nat} {w : mm_S} (ha : a = 1 ∨ a = 2 ∨ a = 3) (hb : b = 1 ∨ b = 2 ∨ b = 3) (hab : a ≠ b) : hh_c (sX4_copyRow a b w) (fun q => (∀ i, i < 97 → q.1 b i = w.1 a i) ∧ ∀ c, c ≠ b → q.1 c = w.1 c) := by
  have la : lenM a = 97 := by rcases ha with rfl | rfl | rfl <;> rfl
  have lb : lenM b = 97 := by rcases hb with rfl | rfl | rfl <;> rfl
  unfold sX4_copyRow sX4_copyRow_0 sX4_copyRow_2
  refine hh_up (fun j s => ∃ w', s = (a, b, nI j, w') ∧ (∀ i, i < j → w'.1 b i = w.1 a i) ∧ ∀ c, c ≠ b → w'.1 c = w.1 c) 97 (by decide) ⟨w, rfl, fun i hi => absurd hi (by omega), fun _ _ => rfl⟩ ?_
  rintro j s hj ⟨w', rfl, hv, hf⟩
  have h97 : (97 : Int32) ≤ nI j ↔ 97 ≤ j := nI_leI (a := 97) (by decide) (by omega)
  unfold lX4_copyRow_2 sX4_copyRow_14
  dsimp only
  rw [la, lb]
  refine hh_i (fun q => hh_v ?_) (fun q => ?_)
  · have := h97.mp q
    exact ⟨fun i hi => hv i (by omega), hf⟩
  have hj2 : j < 97 := Nat.lt_of_not_le fun y => q (h97.mpr y)
  have hg := gI hj2 (show (97 : Nat) < 2 ^ 31 by decide)
  refine hh_f hg (hh_f hg (hh_v ⟨hj2, (mm_ui w'.1 b j (w'.1 a j), w'.2), ?_, fun i hi => ?_, fun c hc => (ru_n _ _ hc).trans (hf c hc)⟩))
  · rw [nI_1, nI_clamp (by omega)]
  · show mm_ui w'.1 b j (w'.1 a j) b i = _
    by_cases y : i = j
    · subst y
      rw [ru_s, hf a hab]
    · rw [ru_i _ _ y]
      exact hv i (by omega)
/-- rows that agree where a mine is -/
theorem okR_97 {r r' : Nat → Int32} (h : okR r) (e : ∀ i, i < 97 → r' i = r i) : okR r' := by
  obtain ⟨a1, a2, a3, a4, a5, a6, a7, a8, a9⟩ := h
  refine ⟨by rw [e 0 (by decide)]; exact a1, by rw [e 1 (by decide)]; exact a2, by rw [e 2 (by decide)]; exact a3, by rw [e 3 (by decide)]; exact a4, fun i hi => ?_, fun c hc => ?_, fun k hk => ?_, fun i hi => ?_, fun i hi => ?_⟩
  · rw [e _ (by omega)]; exact a5 i hi
  · rw [e _ (by omega)]; exact a6 c hc
  · rw [e _ (by omega), e _ (by omega), e _ (by omega)]; exact a7 k hk
  · rw [e _ (by omega)]; exact a8 i hi
  · rw [e _ (by omega), e _ (by omega), e _ (by omega)]; exact a9 i hi
theorem RM_97 {o : Nat} {z : mm_S} {r r' : Nat → Int32} (h : RM o z r) (e : ∀ i, i < 97 → r' i = r i) : RM o z r' := by
  obtain ⟨a1, a2, a3, a4, a5, a6, a7, a8, a9, a10⟩ := h
  refine ⟨by rw [e 0 (by decide)]; exact a1, by rw [e 1 (by decide)]; exact a2, by rw [e 2 (by decide)]; exact a3, by rw [e 3 (by decide)]; exact a4, by rw [e 4 (by decide)]; exact a5, fun i hi => ?_, fun k hk => ?_, fun i hi => ?_, fun i hi => ?_, sb_o a10 rfl (stf_o fun c hc => e _ (by omega))⟩
  · rw [e _ (by omega)]; exact a6 i hi
  · rw [e _ (by omega), e _ (by omega), e _ (by omega)]; exact a7 k hk
  · rw [e _ (by omega)]; exact a8 i hi
  · rw [e _ (by omega), e _ (by omega), e _ (by omega)]; exact a9 i hi
theorem m_enters {w : mm_S} {r : Nat → Int32} (hw : w.1 1 = r) (hr : okR r) (hn : nB r < 8) (k c f : Nat) : ∃ w', sX4_enters (nI k) (nI c) (nI f) w = some (nI (nB r + 1), w') ∧ w'.1 1 = addB r k c f ∧ ∀ b, b ≠ 1 → w'.1 b = w.1 b := by
  have hc := ok_nB hr
  have e1 : w.1 1 2 = nI (nB r) := by rw [hw]; exact hc.1
  have t0 : (73 : Int32) + 3 * nI (nB r) = nI (73 + 3 * nB r) := by rw [show (73 : Int32) = nI 73 from rfl, show (3 : Int32) = nI 3 from rfl, pk_mul, nI_add]
  have t1 : nI (73 + 3 * nB r) + 1 = nI (74 + 3 * nB r) := by rw [nI_1]; congr 1; omega
  have t2 : nI (73 + 3 * nB r) + 2 = nI (75 + 3 * nB r) := by rw [show (2 : Int32) = nI 2 from rfl, nI_add]; congr 1; omega
  unfold sX4_enters sX4_enters_0 sX4_enters_21 sX4_enters_31 sX4_enters_41 sX4_enters_51
  rw [e1, t0, t1, t2, if_neg (gI (by omega) (by decide)), if_neg (gI (by omega) (by decide)), if_neg (gI (by omega) (by decide)), nI_clamp (by omega), nI_clamp (by omega), nI_clamp (by omega)]
  dsimp only
  rw [ru_i _ _ (show (2 : Nat) ≠ 75 + 3 * nB r by omega), ru_i _ _ (show (2 : Nat) ≠ 74 + 3 * nB r by omega), ru_i _ _ (show (2 : Nat) ≠ 73 + 3 * nB r by omega), e1, nI_1]
  refine ⟨_, by rw [ru_s], ?_, fun b hb => ?_⟩
  · show mm_ui (mm_ui (mm_ui (mm_ui w.1 1 (73 + 3 * nB r) (nI k)) 1 (74 + 3 * nB r) (nI c)) 1 (75 + 3 * nB r) (nI f)) 1 2 (nI (nB r + 1)) 1 = _
    rw [ru_r, ru_r, ru_r, ru_r, hw]; rfl
  · show mm_ui (mm_ui (mm_ui (mm_ui w.1 1 (73 + 3 * nB r) (nI k)) 1 (74 + 3 * nB r) (nI c)) 1 (75 + 3 * nB r) (nI f)) 1 2 (nI (nB r + 1)) b = _
    rw [ru_n _ _ hb, ru_n _ _ hb, ru_n _ _ hb, ru_n _ _ hb]
theorem pq_book {z w : mm_S} (h : Rel z w) (x1 x2 x3 : Int32) : PP (sX3_book x1 x2 x3 z) (sX4_book x1 x2 x3 w) := by
  obtain ⟨e1, e2, e3⟩ := r_nB h
  unfold sX3_book sX3_book_0 sX3_book_4 sX4_book sX4_book_0
  refine pp_if (x_isCell _) (m_isCell _) (fun _ => pp_b (pp_f0 h)) (fun hk => ?_)
  unfold sX3_book_11
  refine pp_if (x_isCell _) (m_isCell _) (fun _ => pp_b (pp_f0 h)) (fun hc => ?_)
  unfold sX3_book_21
  refine pp_if (x_lies0 _ (n := 99) (by decide)) (m_within0 _ (n := 99) (by decide)) (fun _ => pp_b (pp_f0 h)) (fun hf => ?_)
  obtain ⟨k, hk, rfl⟩ := hk
  obtain ⟨c, hc, rfl⟩ := hc
  obtain ⟨f, hf, rfl⟩ := hf
  unfold sX3_book_30 sX4_book_31
  rw [e1, e2]
  by_cases hn : nB (w.1 1) < 8
  · rw [if_pos (show nI (nB (w.1 1)) < 8 from nI_lt (b := 8) hn (by decide)), if_neg (show ¬ nI (nB (w.1 1)) = 8 from fun e => absurd ((nI_eq (b := 8) (by omega) (by decide)).mp e) (by omega))]
    obtain ⟨g1, g2, g3, g4⟩ := x_addBook (Or.inl rfl) h.2.1 h.1 hn k c f
    obtain ⟨w', f1, f2, f3⟩ := m_enters rfl h.1 hn k c f
    unfold sX3_book_48 sX3_book_58 sX4_book_51
    rw [f1]
    refine pp_e (a := nI (nB (w.1 1) + 1)) (z' := tX0_addBook 1 (nI k) (nI c) (nI f) z) ?_ rfl ?_
    · show some ((tX0_addBook 1 (nI k) (nI c) (nI f) z).1 1 10, tX0_addBook 1 (nI k) (nI c) (nI f) z) = _
      rw [g4]
    · refine Rel_M h ⟨fun b hb => g2 b (by omega) (by omega) (by omega) (by omega), fun b _ => by rw [g3]⟩ (KM1_1 f3) ?_ ?_
      · rw [f2]; exact okR_B h.1 hn hk hc hf
      · rw [f2]; exact g1
  · rw [if_neg (show ¬ nI (nB (w.1 1)) < 8 from nI_nlt (b := 8) (by omega) (by omega)), if_pos (show nI (nB (w.1 1)) = 8 by rw [show nB (w.1 1) = 8 by omega]; rfl)]
    exact pp_b (pp_f1 h)
theorem pq_burn {z w : mm_S} (h : Rel z w) : PP (sX3_burn z) (sX4_burn w) := by
  obtain ⟨g1, g2⟩ := Rel_1 h (i := 2) (f := 10) (v := 0) (Or.inr (Or.inl ⟨rfl, rfl, 0, by decide, rfl⟩))
  unfold sX3_burn sX3_burn_0 sX3_burn_16 sX4_burn sX4_burn_0
  rw [show (2 : Int32) = nI 2 from rfl, m_become (by decide)]
  exact pp_e (by rw [g1]) rfl g2
theorem pq_image {z w : mm_S} (h : Rel z w) : PP (sX3_image z) (sX4_image w) := by
  obtain ⟨g1, g2, g3⟩ := x_become (o := 13) (y := 1) (Or.inl ⟨rfl, rfl⟩) h.2.1
  unfold sX3_image sX3_image_0 sX3_image_11 sX3_image_16 sX4_image sX4_image_0
  obtain ⟨w', f1, f2, f3⟩ := m_copy (w := w) (a := 1) (b := 2) (Or.inl rfl) (Or.inr (Or.inl rfl)) (by decide)
  rw [f1]
  refine pp_e (a := 1) (z' := (mm_ui (tX0_become 13 1 z).1 0 2 1, (tX0_become 13 1 z).2)) (w' := (mm_ui w'.1 0 3 1, w'.2)) rfl rfl ?_
  generalize tX0_become 13 1 z = z' at *
  have n1 : ∀ b, b ≠ 0 → mm_ui z'.1 0 2 1 b = z'.1 b := fun b hb => ru_n _ _ hb
  have n2 : ∀ b, b ≠ 0 → mm_ui w'.1 0 3 1 b = w'.1 b := fun b hb => ru_n _ _ hb
  obtain ⟨h1, h2, h3, h4, h5, h6⟩ := h
  unfold Rel rKept rTape rSheet rFind
  dsimp only
  simp only [n1 37 (by decide), n1 38 (by decide), n1 39 (by decide), n1 40 (by decide), n1 41 (by decide), n1 42 (by decide), n2 1 (by decide), n2 2 (by decide), n2 4 (by decide), n2 13 (by decide), n2 18 (by decide), n2 19 (by decide), n2 20 (by decide), g2 37 (by decide) (by decide), g2 38 (by decide) (by decide), g2 39 (by decide) (by decide), g2 40 (by decide) (by decide), g2 41 (by decide) (by decide), g2 42 (by decide) (by decide), f3 1 (by decide), f3 4 (by decide), f3 13 (by decide), f3 18 (by decide), f3 19 (by decide), f3 20 (by decide)]
  have k1 : ∀ o r, (o = 1 ∨ o = 13) → RM o z' r → RM o (mm_ui z'.1 0 2 1, z'.2) r := fun o r ho hm => RM_k hm (fun b hb => n1 b (by omega)) rfl
  refine ⟨h1, k1 1 _ (Or.inl rfl) (RM_k h2 (fun b hb => g2 b (by omega) (by omega)) (g3 _ (by decide))), ⟨(ru_s _ _ _ _).trans (ru_s _ _ _ _).symm, Or.inr ⟨ru_s _ _ _ _, okR_97 h1 f2, k1 13 _ (Or.inr rfl) (RM_97 g1 f2)⟩⟩, ?_, h5, h6⟩
  rw [ru_i _ _ (by decide), f3 0 (by decide)]
  exact h4
theorem pq_undo {z w : mm_S} (h : Rel z w) : PP (sX3_undo z) (sX4_undo w) := by
  unfold sX3_undo sX3_undo_0 sX4_undo sX4_undo_0
  obtain ⟨k1, k2⟩ := id h.2.2.1
  rw [← k1]
  refine pp_if2 Iff.rfl Iff.rfl (fun _ => pp_b (pp_f3 h)) (fun q => ?_)
  rcases k2 with k2 | ⟨-, k2, k3⟩
  · exact absurd k2 q
  obtain ⟨g1, g2, g3⟩ := x_become (o := 1) (y := 13) (Or.inr (Or.inl ⟨rfl, rfl⟩)) k3
  obtain ⟨w', f1, f2, f3⟩ := m_copy (w := w) (a := 2) (b := 1) (Or.inr (Or.inl rfl)) (Or.inl rfl) (by decide)
  unfold sX3_undo_13 sX3_undo_24 sX4_undo_14 sX4_undo_25
  rw [f1]
  refine pp_e (a := w'.1 1 0) (z' := tX0_become 1 13 z) (w' := w') ?_ rfl ?_
  · show some ((tX0_become 1 13 z).1 1 12, tX0_become 1 13 z) = _
    rw [g1.1, f2 0 (by decide)]
  · exact Rel_M h ⟨fun b hb => g2 b (by omega) (by omega), fun b hb => g3 b (by omega)⟩ (KM1_1 f3) (okR_97 k2 f2) (RM_97 g1 f2)
theorem Rel_kept0 {z w : mm_S} (h : Rel z w) : Rel (mm_ui z.1 0 2 0, z.2) (mm_ui w.1 0 3 0, w.2) := by
  have n1 : ∀ b, b ≠ 0 → mm_ui z.1 0 2 0 b = z.1 b := fun b hb => ru_n _ _ hb
  have n2 : ∀ b, b ≠ 0 → mm_ui w.1 0 3 0 b = w.1 b := fun b hb => ru_n _ _ hb
  obtain ⟨h1, h2, h3, h4, h5, h6⟩ := h
  unfold Rel rKept rTape rSheet rFind
  dsimp only
  simp only [n1 37 (by decide), n1 38 (by decide), n1 39 (by decide), n1 40 (by decide), n1 41 (by decide), n1 42 (by decide), n2 1 (by decide), n2 2 (by decide), n2 4 (by decide), n2 13 (by decide), n2 18 (by decide), n2 19 (by decide), n2 20 (by decide)]
  refine ⟨h1, RM_k h2 (fun b hb => n1 b (by omega)) rfl, ⟨(ru_s _ _ _ _).trans (ru_s _ _ _ _).symm, Or.inl (ru_s _ _ _ _)⟩, ?_, h5, h6⟩
  rw [ru_i _ _ (by decide)]
  exact h4
theorem pq_tear {z w : mm_S} (h : Rel z w) : PP (sX3_tear z) (sX4_tear w) := by
  have h0 := Rel_kept0 h
  unfold sX3_tear sX3_tear_0 sX3_tear_18 sX4_tear sX4_tear_0 sX4_tear_18
  rw [← h.2.2.1.1]
  exact pp_if2 Iff.rfl Iff.rfl (fun _ => pp_e rfl rfl h0) (fun _ => pp_e rfl rfl h0)
theorem Rel_tape0 {z w : mm_S} (h : Rel z w) : Rel (mm_ui z.1 37 1 0, z.2) (mm_ui w.1 0 18 0, w.2) := by
  have n1 : ∀ b, b ≠ 37 → mm_ui z.1 37 1 0 b = z.1 b := fun b hb => ru_n _ _ hb
  have n2 : ∀ b, b ≠ 0 → mm_ui w.1 0 18 0 b = w.1 b := fun b hb => ru_n _ _ hb
  obtain ⟨h1, h2, h3, h4, h5, h6⟩ := h
  unfold Rel rKept rTape rSheet rFind
  dsimp only
  simp only [n1 0 (by decide), n1 38 (by decide), n1 39 (by decide), n1 40 (by decide), n1 41 (by decide), n1 42 (by decide), n2 1 (by decide), n2 2 (by decide), n2 4 (by decide), n2 13 (by decide), n2 18 (by decide), n2 19 (by decide), n2 20 (by decide)]
  have k1 : ∀ o r, (o = 1 ∨ o = 13) → RM o z r → RM o (mm_ui z.1 37 1 0, z.2) r := fun o r ho hm => RM_k hm (fun b hb => n1 b (by omega)) rfl
  refine ⟨h1, k1 1 _ (Or.inl rfl) h2, ?_, ⟨0, by decide, ru_s _ _ _ _, ru_s _ _ _ _, fun i hi => absurd hi (by omega)⟩, h5, h6⟩
  rw [ru_i _ _ (by decide)]
  exact ⟨h3.1, h3.2.imp id fun x => ⟨x.1, x.2.1, k1 13 _ (Or.inr rfl) x.2.2⟩⟩
theorem pq_wipe {z w : mm_S} (h : Rel z w) : PP (sX3_wipe z) (sX4_wipe w) := by
  obtain ⟨n, h1, h2, h3, h4⟩ := id h.2.2.2.1
  unfold sX3_wipe sX3_wipe_0 sX3_wipe_16 sX4_wipe sX4_wipe_0 sX4_wipe_10
  rw [h2, h3]
  exact pp_e rfl rfl (Rel_tape0 h)
def sumT (f : Nat → Int32) : Nat → Int32
  | 0 => 0
  | n + 1 => sumT f n + f n
theorem toInt1 (x : Int32) (h1 : -1 ≤ x.toInt) (h2 : x.toInt < 2 ^ 31 - 1) : (x + 1).toInt = x.toInt + 1 := by
  rw [Int32.toInt_add, show (1 : Int32).toInt = 1 from rfl]
  exact Int.bmod_eq_of_le (by omega) (by omega)
theorem lsm (x : Int32) : (if x < -1 then (0 : Int32) else if 6 < x then 0 else 1) = 0 ↔ ¬ isN (x + 1) 8 := by
  have hm : (-1 : Int32).toInt = -1 := by decide
  have h6 : (6 : Int32).toInt = 6 := by decide
  constructor
  · intro q ⟨k, hk, e⟩
    have ex : x = nI k - 1 := by rw [← e, Int32.add_sub_cancel]
    have t : ∀ k, k < 8 → ¬ (nI k - 1 < -1) ∧ ¬ (6 < nI k - 1) := by decide +kernel
    rw [ex, if_neg (t k hk).1, if_neg (t k hk).2] at q
    exact absurd q (by decide)
  · intro q
    by_cases a : x < -1
    · rw [if_pos a]
    · rw [if_neg a]
      by_cases b : 6 < x
      · rw [if_pos b]
      · refine absurd ?_ q
        rw [Int32.lt_iff_toInt_lt, hm] at a
        rw [Int32.lt_iff_toInt_lt, h6] at b
        have := toInt1 x (by omega) (by omega)
        refine ⟨(x.toInt + 1).toNat, by omega, Int32.toInt_inj.mp ?_⟩
        rw [this, nI_toInt (by omega)]
        omega
theorem x_liesm (x : Int32) : pX3_lies x (-1) 6 = 0 ↔ ¬ isN (x + 1) 8 := lsm x
theorem m_withinm (x : Int32) : pX4_within x (-1) 6 = 0 ↔ ¬ isN (x + 1) 8 := lsm x
theorem pq_status {z w : mm_S} (h : Rel z w) (x1 : Int32) : PP (sX3_status x1 z) (sX4_status x1 w) := by
  obtain ⟨h1, h2⟩ := id h.2.2.2.2.2
  have hl : pX3_lies x1 (-1) 6 = 0 ↔ ¬ isN (x1 + 1) 8 := x_liesm x1
  have hm : pX4_within x1 (-1) 6 = 0 ↔ ¬ isN (x1 + 1) 8 := m_withinm x1
  unfold sX3_status sX3_status_0 sX3_status_7 sX4_status sX4_status_0
  refine pp_if hl hm (fun _ => pp_b (pp_f0 h)) (fun ⟨k, hk, e⟩ => ?_)
  rw [e, if_neg (gI hk (by decide)), nI_clamp (by omega)]
  unfold sX3_status_16
  by_cases k0 : k = 0
  · have ex : x1 = -1 := by
      subst k0
      have : x1 + 1 - 1 = nI 0 - 1 := by rw [e]
      rw [Int32.add_sub_cancel] at this
      rw [this]; rfl
    subst ex k0
    rw [if_pos (by decide), h2]
    unfold sX3_status_33
    have hh : hh_c (mm_wh lX3_status_33 mm_fu (0, 0, z)) (fun q => q = (z.1 42 0 + z.1 42 1 + z.1 42 2 + z.1 42 3 + z.1 42 4 + z.1 42 5 + z.1 42 6, z)) := by
      refine hh_up (fun j s => s = (sumT (z.1 42) j, nI j, z)) 7 (by decide) rfl ?_
      rintro j s hj rfl
      have h7 : (7 : Int32) ≤ nI j ↔ 7 ≤ j := nI_leI (a := 7) (by decide) (by omega)
      unfold lX3_status_33
      dsimp only
      refine hh_i (fun q => hh_v ?_) (fun q => hh_v ?_)
      · obtain rfl : j = 7 := by have := h7.mp q; omega
        show (0 + z.1 42 0 + z.1 42 1 + z.1 42 2 + z.1 42 3 + z.1 42 4 + z.1 42 5 + z.1 42 6, z) = _
        rw [Int32.zero_add]
      · have hj2 : j < 7 := Nat.lt_of_not_le fun y => q (h7.mpr y)
        rw [at_N _ (show j < lenX 42 from hj2), nI_1]
        exact ⟨hj2, rfl⟩
    obtain ⟨q, hq, rfl⟩ := hh
    rw [hq]
    refine pp_e rfl ?_ h
    rw [h1 0 (by decide), h1 1 (by decide), h1 2 (by decide), h1 3 (by decide), h1 4 (by decide), h1 5 (by decide), h1 6 (by decide)]
  · obtain ⟨j, rfl⟩ : ∃ j, k = j + 1 := ⟨k - 1, by omega⟩
    have ex : x1 = nI j := by
      have : x1 + 1 - 1 = nI (j + 1) - 1 := by rw [e]
      rw [Int32.add_sub_cancel, ← nI_1, Int32.add_sub_cancel] at this
      exact this
    subst ex
    rw [if_neg (nI_pos (by omega)), at_N _ (show j < lenX 42 by show j < 7; omega), h1 j (by omega)]
    exact pp_e rfl rfl h
