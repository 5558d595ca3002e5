/-! ===== contracts out of the small machine ===== -/
def lw_gd : List Cond := lw_tbl.filter goodWord
theorem mm_gd {w : Cond} (h : w ∈ lw_tbl) (hg : goodWord w = true) : w ∈ lw_gd := List.mem_filter.mpr ⟨h, hg⟩
theorem mm_gdT {w : Cond} (i : Nat) (h : tables_1[i]? = some w) (hg : goodWord w = true) : w ∈ lw_gd := mm_gd (List.mem_append_right _ (List.mem_of_getElem? h)) hg
theorem mm_gdS {w : Cond} (i : Nat) (h : (k2_sels lw_privs)[i]? = some w) (hg : goodWord w = true) : w ∈ lw_gd := mm_gd (List.mem_append_left _ (List.mem_of_getElem? h)) hg
theorem mm_good : GoodIn lw_gd lw_gd := fun w h => ⟨h, good_of_word (List.mem_filter.mp h).2⟩
/-- the texts: how long, their bytes -/
def mm_sl : List Nat := [4, 6, 5, 4, 4, 4, 4, 4, 6, 4, 5, 4, 5, 6, 2, 5, 2]
def mm_sb : List (List Int32) := [[99, 114, 101, 119], [104, 97, 109, 109, 101, 114], [100, 114, 105, 108, 108], [98, 101, 108, 108], [115, 111, 102, 116], [109, 117, 116, 101], [100, 101, 97, 102], [114, 111, 99, 107], [114, 117, 98, 98, 108, 101], [104, 111, 108, 101], [119, 97, 116, 101, 114], [105, 114, 111, 110], [104, 101, 97, 114, 100], [117, 110, 115, 117, 114, 101], [97, 116], [102, 111, 114, 99, 101], [116, 111]]
/-- the words on texts' places, of nest mates' members, of static tables -/
abbrev mm_rs : Type := List (String × Nat × String × Nat)
abbrev mm_nf : Type := List (String × Nat × String × String × String × String)
abbrev mm_nm : Type := List (String × Nat × MethodName × String)
abbrev mm_ss : Type := List (String × String × String × Nat)
section MMR
variable (G : mm_G) (lyT : Nat → Nat) (lyF : Nat → List (Nat × Nat × Nat × Nat)) (lenA : Nat → Nat) (sn : Nat → Nat → Nat) (lyN nR nS : Nat) (roA : Nat → Nat → Int32) (rs : mm_rs) (nf : mm_nf) (nm : mm_nm) (ss : mm_ss)
/-- what nobody writes -/
def mm_ro (A : Nat → Prop) (U : State) (H : Heap) : Prop :=
  (∀ k, lyN ≤ k → k < nR → va_T .int (G.1 k) (lenA k) (fun j => .int (roA k j)) A U H) ∧ (∀ q ∈ ss, va_Z q.1 q.2.1 q.2.2.1 (.ref (G.1 q.2.2.2)) A U H) ∧
  (∃ adV, vk_S 17 mm_sl mm_sb G.2.1 adV A U H) ∧ va_Z "java/lang/String" "COMPACT_STRINGS" "Z" (.int 1) A U H ∧ va_Zq "jdk/internal/util/Preconditions" "SIOOBE_FORMATTER" "Ljava/util/function/BiFunction;" A U H ∧
  (∀ q ∈ rs, vk_R q.1 q.2.1 q.2.2.1 (G.2.1 q.2.2.2) U) ∧ (∀ q ∈ nf, va_Nw (.fieldLinkNest q.1 q.2.1 q.2.2.1 q.2.2.2.1 q.2.2.2.2.1 q.2.2.2.2.2) U) ∧ (∀ q ∈ nm, va_Nw (.methodLinkNest q.1 q.2.1 q.2.2.1 q.2.2.2) U)
theorem mm_ro.to {A B : Nat → Prop} {s U : State} {H : Heap} {locs : List Loc} (h : mm_ro G lenA lyN nR roA rs nf nm ss A s s.heap) (hS : va_S A s.heap H locs) (hW : s.WarmedH U.vm) (hAB : ∀ q, B q → A q) : mm_ro G lenA lyN nR roA rs nf nm ss B U H := by
  obtain ⟨h1, h2, ⟨adV, h3⟩, h4, h5, h6, h7, h8⟩ := h
  have hq : ∀ a : Nat, a < s.heap.size → ¬ A a → H[a]? = s.heap[a]? := hS.2.1
  exact ⟨fun k a b => ((va_T.moved hW.alike (h1 k a b)).kept hq).narrow hAB, fun q hq' => ((va_Z.moved hW.alike (h2 q hq')).kept hq).narrow hAB, ⟨adV, ((h3.moved hW.alike).kept hq).narrow hAB⟩, ((va_Z.moved hW.alike h4).kept hq).narrow hAB, ((va_Zq.moved hW.alike h5).kept hq).narrow hAB,
    fun q hq' => (h6 q hq').warm hW, fun q hq' => va_Nw.warmF hW (h7 q hq'), fun q hq' => va_Nw.warmM hW (h8 q hq')⟩
theorem mm_ro.blind {A : Nat → Prop} {U : State} {H : Heap} {g : JFrame} {mk : MethodId} {a : Array Value} (h : mm_ro G lenA lyN nR roA rs nf nm ss A U H) : mm_ro G lenA lyN nR roA rs nf nm ss A (U.calling g mk a) H := by
  obtain ⟨h1, h2, ⟨adV, h3⟩, h4, h5, h6, h7, h8⟩ := h
  have hv : U.vm.Alike (U.calling g mk a).vm := Vm.Alike.refl U.vm
  exact ⟨fun k a b => va_T.moved hv (h1 k a b), fun q hq' => va_Z.moved hv (h2 q hq'), ⟨adV, h3.moved hv⟩, va_Z.moved hv h4, va_Zq.moved hv h5,
    fun q hq' => vk_R.same (u := U) rfl (h6 q hq'), fun q hq' => va_Nw.same (u := U) rfl rfl (h7 q hq'), fun q hq' => va_Nw.same (u := U) rfl rfl (h8 q hq')⟩
/-- what a method of this world may write -/
def mm_A (sz : Nat) : Nat → Prop := fun q => (∃ k, k < lyN ∧ q = G.1 k) ∨ sz ≤ q
abbrev mm_ty : List (ClassId × FieldType) := [(G.2.2.1 0, .int), (G.2.2.1 1, .long), (G.2.2.1 2, .boolean), (G.2.2.1 3, .object "java/lang/String")]
def mm_Pc (sz : Nat) (as : List mm_V) (z : mm_S) : Array Value → State → Prop := va_Pc (as.map (mm_tr G)) (fun U => U.heap.size = sz ∧ mm_H G lyT lyF lenA sn lyN z U.heap ∧ va_K G.2.2.2 vwCl (mm_ty G) U ∧ mm_ro G lenA lyN nR roA rs nf nm ss (mm_A G lyN sz) U U.heap)
end MMR
def mm_cp {α : Type} (f : Nat → Nat → α) (a b sp dp n : Nat) : Nat → Nat → α := fun q => if q = b then va_cpy (f a) (f b) sp dp n else f q
def mm_ci (lenA : Nat → Nat) (as : List mm_V) (z : mm_S) (kk : Option mm_V → mm_S → Option mm_R) : Option mm_R :=
  mm_pr as fun t a as => mm_pi as fun sp as => mm_pr as fun u b as => mm_pi as fun dp as => mm_pi as fun n as => bif Nat.beq t 10 && Nat.beq u 10 && as.isEmpty then
    (if sp < 0 ∨ dp < 0 ∨ n < 0 ∨ lenA a < sp.toNatClampNeg + n.toNatClampNeg ∨ lenA b < dp.toNatClampNeg + n.toNatClampNeg then none else kk none (mm_cp z.1 a b sp.toNatClampNeg dp.toNatClampNeg n.toNatClampNeg, z.2)) else none
def mm_cj (lenA : Nat → Nat) (as : List mm_V) (z : mm_S) (kk : Option mm_V → mm_S → Option mm_R) : Option mm_R :=
  mm_pr as fun t a as => mm_pi as fun sp as => mm_pr as fun u b as => mm_pi as fun dp as => mm_pi as fun n as => bif Nat.beq t 11 && Nat.beq u 11 && as.isEmpty then
    (if sp < 0 ∨ dp < 0 ∨ n < 0 ∨ lenA a < sp.toNatClampNeg + n.toNatClampNeg ∨ lenA b < dp.toNatClampNeg + n.toNatClampNeg then none else kk none (z.1, mm_cp z.2 a b sp.toNatClampNeg dp.toNatClampNeg n.toNatClampNeg)) else none
def mm_mx (as : List mm_V) (z : mm_S) (kk : Option mm_V → mm_S → Option mm_R) : Option mm_R := mm_pi as fun x as => mm_pi as fun y as => bif as.isEmpty then kk (some (mm_I (if x < y then y else x))) z else none
def mm_mn (as : List mm_V) (z : mm_S) (kk : Option mm_V → mm_S → Option mm_R) : Option mm_R := mm_pi as fun x as => mm_pi as fun y as => bif as.isEmpty then kk (some (mm_I (if y < x then y else x))) z else none
theorem mm_ci_e {lenA : Nat → Nat} {as : List mm_V} {z : mm_S} {kk : Option mm_V → mm_S → Option mm_R} {o : mm_R} (h : mm_ci lenA as z kk = some o) : ∃ a b sp dp n, as = [mm_P 10 a, mm_I sp, mm_P 10 b, mm_I dp, mm_I n] ∧ ¬ sp < 0 ∧ ¬ dp < 0 ∧ ¬ n < 0 ∧ sp.toNatClampNeg + n.toNatClampNeg ≤ lenA a ∧ dp.toNatClampNeg + n.toNatClampNeg ≤ lenA b ∧ kk none (mm_cp z.1 a b sp.toNatClampNeg dp.toNatClampNeg n.toNatClampNeg, z.2) = some o := by
  obtain ⟨t, a, r1, rfl, h1⟩ := mm_pr_e h
  obtain ⟨sp, r2, rfl, h2⟩ := mm_pi_e h1
  obtain ⟨u, b, r3, rfl, h3⟩ := mm_pr_e h2
  obtain ⟨dp, r4, rfl, h4⟩ := mm_pi_e h3
  obtain ⟨n, r5, rfl, h5⟩ := mm_pi_e h4
  obtain ⟨h6, h7⟩ := mm_bif_e h5
  rw [Bool.and_eq_true, Bool.and_eq_true] at h6
  obtain rfl := Nat.eq_of_beq_eq_true h6.1.1
  obtain rfl := Nat.eq_of_beq_eq_true h6.1.2
  obtain rfl := List.isEmpty_iff.mp h6.2
  split at h7
  · cases h7
  · next hq => exact ⟨a, b, sp, dp, n, rfl, fun q => hq (Or.inl q), fun q => hq (Or.inr (Or.inl q)), fun q => hq (Or.inr (Or.inr (Or.inl q))), Nat.le_of_not_lt fun q => hq (Or.inr (Or.inr (Or.inr (Or.inl q)))), Nat.le_of_not_lt fun q => hq (Or.inr (Or.inr (Or.inr (Or.inr q)))), h7⟩
theorem mm_cj_e {lenA : Nat → Nat} {as : List mm_V} {z : mm_S} {kk : Option mm_V → mm_S → Option mm_R} {o : mm_R} (h : mm_cj lenA as z kk = some o) : ∃ a b sp dp n, as = [mm_P 11 a, mm_I sp, mm_P 11 b, mm_I dp, mm_I n] ∧ ¬ sp < 0 ∧ ¬ dp < 0 ∧ ¬ n < 0 ∧ sp.toNatClampNeg + n.toNatClampNeg ≤ lenA a ∧ dp.toNatClampNeg + n.toNatClampNeg ≤ lenA b ∧ kk none (z.1, mm_cp z.2 a b sp.toNatClampNeg dp.toNatClampNeg n.toNatClampNeg) = some o := by
  obtain ⟨t, a, r1, rfl, h1⟩ := mm_pr_e h
  obtain ⟨sp, r2, rfl, h2⟩ := mm_pi_e h1
  obtain ⟨u, b, r3, rfl, h3⟩ := mm_pr_e h2
  obtain ⟨dp, r4, rfl, h4⟩ := mm_pi_e h3
  obtain ⟨n, r5, rfl, h5⟩ := mm_pi_e h4
  obtain ⟨h6, h7⟩ := mm_bif_e h5
  rw [Bool.and_eq_true, Bool.and_eq_true] at h6
  obtain rfl := Nat.eq_of_beq_eq_true h6.1.1
  obtain rfl := Nat.eq_of_beq_eq_true h6.1.2
  obtain rfl := List.isEmpty_iff.mp h6.2
  split at h7
  · cases h7
  · next hq => exact ⟨a, b, sp, dp, n, rfl, fun q => hq (Or.inl q), fun q => hq (Or.inr (Or.inl q)), fun q => hq (Or.inr (Or.inr (Or.inl q))), Nat.le_of_not_lt fun q => hq (Or.inr (Or.inr (Or.inr (Or.inl q)))), Nat.le_of_not_lt fun q => hq (Or.inr (Or.inr (Or.inr (Or.inr q)))), h7⟩
theorem mm_en_ci {G : mm_G} {lyT : Nat → Nat} {lyF : Nat → List (Nat × Nat × Nat × Nat)} {lenA : Nat → Nat} {sn : Nat → Nat → Nat} (z : mm_S) (a b sp dp n k : Nat) (h : k ≠ b) : mm_en G lyT lyF lenA sn (mm_cp z.1 a b sp dp n, z.2) k = mm_en G lyT lyF lenA sn z k := by
  have e : ∀ d : Nat × Nat × Nat × Nat, mm_fv d k (mm_cp z.1 a b sp dp n, z.2) = mm_fv d k z := fun d => by
    unfold mm_fv; split <;> simp [mm_cp, h]
  unfold mm_en
  simp only [e]
  simp [mm_cp, h]
theorem mm_en_cj {G : mm_G} {lyT : Nat → Nat} {lyF : Nat → List (Nat × Nat × Nat × Nat)} {lenA : Nat → Nat} {sn : Nat → Nat → Nat} (z : mm_S) (a b sp dp n k : Nat) (h : k ≠ b) : mm_en G lyT lyF lenA sn (z.1, mm_cp z.2 a b sp dp n) k = mm_en G lyT lyF lenA sn z k := by
  have e : ∀ d : Nat × Nat × Nat × Nat, mm_fv d k (z.1, mm_cp z.2 a b sp dp n) = mm_fv d k z := fun d => by
    unfold mm_fv; split <;> simp [mm_cp, h]
  unfold mm_en
  simp only [e]
  simp [mm_cp, h]
section MMM
variable (lyT : Nat → Nat) (lyF : Nat → List (Nat × Nat × Nat × Nat)) (lenA : Nat → Nat) (sn : Nat → Nat → Nat) (lyN nR nS : Nat) (roA : Nat → Nat → Int32) (rs : mm_rs) (nf : mm_nf) (nm : mm_nm) (ss : mm_ss)
/-- a method's contract: what the relation f says, it does -/
def mm_M (y : MethodName) (cc : ByteArray) (nL : Nat) (ret : Option FieldType) (rm : Room) (f : List mm_V → mm_S → mm_R → Prop) : Prop :=
  ∀ (l : Launch) (G : mm_G) (sz : Nat) (as : List mm_V) (z : mm_S) (o : mm_R), (∀ i j, i < lyN → j < lyN → G.1 i = G.1 j → i = j) → (∀ v ∈ as, mm_ok lyN lyT nR nS v) → f as z o →
    Met l y (.code y cc nL ret :: lw_gd) rm (mm_Pc G lyT lyF lenA sn lyN nR roA rs nf nm ss sz as z) (mm_Q G (mm_A G lyN sz) lyT lyF lenA sn lyN o) 0 0 (mm_A G lyN sz)
/-- what a table of callees says of one of them -/
def mm_cs (fc : List mm_V → mm_S → mm_R → Prop) (cl : List mm_V → mm_S → (Option mm_V → mm_S → Option mm_R) → Option mm_R) : Prop :=
  ∀ (as : List mm_V) (z : mm_S) (K : Option mm_V → mm_S → Option mm_R) (o : mm_R), (∀ v ∈ as, mm_ok lyN lyT nR nS v) → cl as z K = some o → ∃ (r : Option mm_V) (z' : mm_S), fc as z (r, z') ∧ (∀ v, r = some v → (∃ x, v = mm_I x) ∨ ∃ x, v = mm_J x) ∧ K r z' = some o
/-- a call of an instance method: the words that it needs -/
def mm_okV (own : String) (R : Room) (ar : Nat → Nat) (k : Nat) (cl : List mm_V → mm_S → (Option mm_V → mm_S → Option mm_R) → Option mm_R) : Prop :=
  ∃ (y : MethodName) (bytes : ByteArray) (maxL : Nat) (ret : Option FieldType) (rmc : Room) (fc : List mm_V → mm_S → mm_R → Prop) (ci n : Nat) (q : vw_C), mm_M lyT lyF lenA sn lyN nR nS roA rs nf nm ss y bytes maxL ret rmc fc ∧ mm_cs lyT lyN nR nS fc cl ∧
    (Cond.methodLink own k y ∈ lw_gd ∨ ∃ host, (own, k, y, host) ∈ nm) ∧ (Cond.instanceMethod y ∈ lw_gd ∧ Cond.selects y.cls y y ∈ lw_gd ∧ Cond.initialized y.cls ∈ lw_gd ∧ Cond.code y bytes maxL ret ∈ lw_gd) ∧
    (y.cls ≠ "java/lang/invoke/MethodHandle" ∧ y.cls ≠ "java/lang/invoke/VarHandle" ∧ (parseMethodDescriptor y.desc).map (fun d => d.parameters.length) = some n) ∧ ar k = n + 1 ∧ (vwCl[ci]? = some q ∧ q.1 = y.cls ∧ ci < 5) ∧
    (∀ (as : List mm_V) (z : mm_S) (K : Option mm_V → mm_S → Option mm_R) (o : mm_R), cl as z K = some o → ∃ a as', as = mm_P ci a :: as') ∧ (rmc.cells = 0 ∧ rmc.slots = 0 ∧ rmc.frames + 1 ≤ R.frames ∧ 8 + (maxL + 11) + rmc.locals ≤ R.locals)
def mm_okS0 (own : String) (R : Room) (ar : Nat → Nat) (k : Nat) (cl : List mm_V → mm_S → (Option mm_V → mm_S → Option mm_R) → Option mm_R) : Prop :=
  ∃ (y : MethodName) (bytes : ByteArray) (maxL : Nat) (ret : Option FieldType) (rmc : Room) (fc : List mm_V → mm_S → mm_R → Prop), mm_M lyT lyF lenA sn lyN nR nS roA rs nf nm ss y bytes maxL ret rmc fc ∧ mm_cs lyT lyN nR nS fc cl ∧
    (Cond.methodLink own k y ∈ lw_gd ∨ ∃ host, (own, k, y, host) ∈ nm) ∧ (Cond.static y ∈ lw_gd ∧ Cond.initialized y.cls ∈ lw_gd ∧ Cond.code y bytes maxL ret ∈ lw_gd) ∧
    (y.cls ≠ "java/lang/invoke/MethodHandle" ∧ y.cls ≠ "java/lang/invoke/VarHandle" ∧ (parseMethodDescriptor y.desc).map (fun d => d.parameters.length) = some (ar k)) ∧ (rmc.cells = 0 ∧ rmc.slots = 0 ∧ rmc.frames + 1 ≤ R.frames ∧ 8 + (maxL + 11) + rmc.locals ≤ R.locals)
/-- the machine's own copying of a row -/
def mm_okN (own : String) (R : Room) (ar : Nat → Nat) (k : Nat) (cl : List mm_V → mm_S → (Option mm_V → mm_S → Option mm_R) → Option mm_R) : Prop :=
  (cl = mm_ci lenA ∨ cl = mm_cj lenA) ∧ Cond.methodLink own k arraycopyName ∈ lw_gd ∧ Cond.native arraycopyName ∈ lw_gd ∧ Cond.static arraycopyName ∈ lw_gd ∧ Cond.initialized "java/lang/System" ∈ lw_gd ∧ 1 ≤ R.frames ∧ 8 + (nativeFrameWords "java/lang/System" "arraycopy" 5 + 11) ≤ R.locals ∧ ar k = 5
/-- the greater, the less of two -/
def mm_okM (own : String) (R : Room) (ar : Nat → Nat) (k : Nat) (cl : List mm_V → mm_S → (Option mm_V → mm_S → Option mm_R) → Option mm_R) : Prop :=
  ((cl = mm_mx ∧ Cond.methodLink own k Lib.Math.max.name ∈ lw_gd ∧ Cond.static Lib.Math.max.name ∈ lw_gd ∧ Cond.code Lib.Math.max.name Lib.Math.max.code 2 (some .int) ∈ lw_gd) ∨ (cl = mm_mn ∧ Cond.methodLink own k Lib.Math.min.name ∈ lw_gd ∧ Cond.static Lib.Math.min.name ∈ lw_gd ∧ Cond.code Lib.Math.min.name Lib.Math.min.code 2 (some .int) ∈ lw_gd)) ∧
  Cond.initialized "java/lang/Math" ∈ lw_gd ∧ 1 ≤ R.frames ∧ 21 ≤ R.locals ∧ ar k = 2
def mm_okS (own : String) (R : Room) (ar : Nat → Nat) (k : Nat) (cl : List mm_V → mm_S → (Option mm_V → mm_S → Option mm_R) → Option mm_R) : Prop := mm_okS0 lyT lyF lenA sn lyN nR nS roA rs nf nm ss own R ar k cl ∨ mm_okN lenA own R ar k cl ∨ mm_okM own R ar k cl
end MMM
def mm_ar : Nat → List mm_V → mm_L
  | _, [] => []
  | i, v :: r => (i, v) :: mm_ar (if mm_cat v = 2 then i + 2 else i + 1) r
theorem mm_ar_tr (G : mm_G) : ∀ (as : List mm_V) (i : Nat), lv_args i (as.map (mm_tr G)) = (mm_ar i as).map (mm_tl G)
  | [], _ => rfl
  | v :: r, i => by
    simp only [List.map_cons, lv_args, mm_ar, mm_cat_tr]
    rw [mm_ar_tr G r]
theorem mm_ar_ok {P : mm_V → Prop} : ∀ (as : List mm_V) (i : Nat), (∀ v ∈ as, P v) → ∀ q ∈ mm_ar i as, P q.2
  | [], _, _, q, h => by cases h
  | v :: r, i, ho, q, h => by
    rcases List.mem_cons.mp h with rfl | h
    · exact ho _ List.mem_cons_self
    · exact mm_ar_ok r _ (fun v hv => ho v (List.mem_cons_of_mem _ hv)) q h
theorem mm_sl_len (G : mm_G) : ∀ (as : List mm_V), (lg_sl (as.map (mm_tr G))).length = (as.map mm_cat).sum
  | [] => rfl
  | v :: r => by
    have e : lg_sl ((v :: r).map (mm_tr G)) = (if (mm_tr G v).category = 2 then [Slot.val (mm_tr G v), .second] else [.val (mm_tr G v)]) ++ lg_sl (r.map (mm_tr G)) := rfl
    rw [e, List.length_append, mm_sl_len G r, List.map_cons, List.sum_cons, mm_cat_tr]
    congr 1
    rcases v with x | x | x <;> rfl
section MMCALL
variable {p : Program} {l : Launch} {e : Env} {R : Room} {s : State} {m : MethodId} {args : Array Value} {below : List Frame} {meth : Method} {c : Code} {G : mm_G} {A : Nat → Prop} {lyT : Nat → Nat} {lyF : Nat → List (Nat × Nat × Nat × Nat)} {lenA : Nat → Nat} {sn : Nat → Nat → Nat} {lyN nR nS nL : Nat} {roA : Nat → Nat → Int32} {rs : mm_rs} {nf : mm_nf} {nm : mm_nm} {ss : mm_ss} {cc : ByteArray}
/-- the callee's start holds in the caller's state -/
theorem mm_Pc_in {as : List mm_V} {z : mm_S} {H : Heap} {locs : List Loc} (hA : ∀ q, mm_A G lyN H.size q → A q) (hP : mm_H G lyT lyF lenA sn lyN z H) (hK : va_K G.2.2.2 vwCl (mm_ty G) s) (hro : mm_ro G lenA lyN nR roA rs nf nm ss A s s.heap) (hS : va_S A s.heap H locs) {U : State} (hU : U.heap = H) (hW : s.WarmedH U.vm) :
    mm_Pc G lyT lyF lenA sn lyN nR roA rs nf nm ss H.size as z (as.map (mm_tr G)).toArray U :=
  ⟨rfl, by rw [hU], by rw [hU]; exact hP, va_K.moved hW.alike hK, by rw [hU]; exact hro.to G lenA lyN nR roA rs nf nm ss hS hW hA⟩
theorem mm_blind {sz : Nat} {as : List mm_V} {z : mm_S} : FrameBlind (mm_Pc G lyT lyF lenA sn lyN nR roA rs nf nm ss sz as z) := fun a U g mk q =>
  ⟨q.1, q.2.1, q.2.2.1, va_K.moved (u := U) (U := U.calling g mk a) (Vm.Alike.refl U.vm) q.2.2.2.1, q.2.2.2.2.blind G lenA lyN nR roA rs nf nm ss⟩
/-- behind a call -/
theorem mm_back {o out : mm_R} {pc : Nat} {la : Array Slot} {rest : List Value} {H : Heap} {locs : List Loc} {st0 : List Value} {av : Array Value} {B : Nat → Prop}
    (hr : va_Run p l e R s m args below meth c H locs 0 0 0 0 (F0 m pc la st0) rest (mm_Q G B lyT lyF lenA sn lyN out av) B) (hS : va_S A s.heap H locs) (hB : ∀ q, B q → A q)
    (kk : ∀ (H1 : Heap) (locs1 : List Loc), mm_H G lyT lyF lenA sn lyN out.2 H1 → va_S A s.heap H1 locs1 → mm_w p l e R s m args below meth c G A lyT lyF lenA sn lyN o H1 locs1 (F0 m (pc + 3) la (out.1.toList.map (mm_tr G) ++ rest))) :
    mm_w p l e R s m args below meth c G A lyT lyF lenA sn lyN o H locs (F0 m pc la st0) := by
  obtain ⟨r, z'⟩ := out
  rcases r with _ | x | x | x
  · exact va_callv (a := av) hr hS (fun q _ h => hB q h) hB (fun u t H1 locs1 ht _ _ hb _ _ hS1 => kk H1 locs1 (by rw [← ht]; exact hb) hS1)
  · exact va_calli (a := av) hr hS (fun q _ h => hB q h) hB (fun r u t H1 locs1 ht _ hp hb _ _ hS1 => by
      obtain rfl : r = x := hp
      exact kk H1 locs1 (by rw [← ht]; exact hb) hS1)
  · exact va_calll (a := av) hr hS (fun q _ h => hB q h) hB (fun r u t H1 locs1 ht _ hp hb _ _ hS1 => by
      obtain rfl : r = x := hp
      exact kk H1 locs1 (by rw [← ht]; exact hb) hS1)
  · intro T hT X
    obtain ⟨v, st₀, t, T', L, h0, X', hL, e1, e2, hq, st⟩ := hr T hT X
    exact hq.elim
theorem mm_rec {as : List mm_V} {z : mm_S} {H : Heap} {a ci : Nat} {q : vw_C} (hK : va_K G.2.2.2 vwCl (mm_ty G) s) (hP : mm_H G lyT lyF lenA sn lyN z H) (hc : vwCl[ci]? = some q) (h5 : ci < 5) (ho : mm_ok lyN lyT nR nS (mm_P ci a)) : mm_tr G (mm_P ci a) = .ref (G.1 a) ∧ ∃ cell : Cell, H[G.1 a]? = some cell ∧ cell.vm.isStatics = false ∧ s.vm.findClass q.1 = some cell.cls := by
  obtain ⟨h3, h4⟩ : a < lyN ∧ lyT a = ci := by
    rcases ho with h | h | h
    · have h1 : ci = 20 := h.1
      omega
    · have h1 : ci = 14 := h.1
      omega
    · exact ⟨h.2.2.1, h.2.2.2⟩
  refine ⟨?_, va_recv hK hP hc (q0 := a) (fs := (lyF ci).map fun d => mm_tr G (mm_fv d a z)) ?_⟩
  · simp only [mm_tr]
    cases hq : Nat.beq ci 20 with
    | true =>
      have := Nat.eq_of_beq_eq_true hq
      omega
    | false => rfl
  · rw [mm_ws_get z h3]
    simp only [mm_en, h4]
    rw [if_neg (by omega), if_neg (by omega), if_neg (by omega), if_neg (by omega)]
theorem mm_CC_V {own : String} {ar : Nat → Nat} {lst : List (Nat × (List mm_V → mm_S → (Option mm_V → mm_S → Option mm_R) → Option mm_R))} {mf : Nat → List mm_V → mm_S → (Option mm_V → mm_S → Option mm_R) → Option mm_R}
    (hmf : ∀ k as z kk, mf k as z kk = match mm_at lst k with
      | some f => f as z kk
      | none => none) (S : CallFix p m c cc nL s args lw_gd own) (hK : va_K G.2.2.2 vwCl (mm_ty G) s) (hro : mm_ro G lenA lyN nR roA rs nf nm ss A s s.heap) (hinj : ∀ i j, i < lyN → j < lyN → G.1 i = G.1 j → i = j) (hA : ∀ k, k < lyN → A (G.1 k)) (hA2 : ∀ q, s.heap.size ≤ q → A q)
    (hl : ∀ q ∈ lst, mm_okV lyT lyF lenA sn lyN nR nS roA rs nf nm ss own R ar q.1 q.2) : mm_CC p l e R s m args below meth c G A lyT lyF lenA sn lyN nR nS nL cc (fun k => .invokevirtual k) ar mf := by
  intro k as z K o h hlen hok pc la rest H locs hd hsz hrest hP hS kk
  rw [hmf] at h
  cases hq : mm_at lst k with
  | none => rw [hq] at h; cases h
  | some cl =>
    rw [hq] at h
    have h : cl as z K = some o := h
    obtain ⟨y, bytes, maxL, ret, rmc, fc, ci, n, q, hM, hcs, hlink, ⟨hw1, hw2, hw3, hw4⟩, ⟨hy1, hy2, hy3⟩, har, ⟨hq1, hq2, hq3⟩, hrecv, hr1, hr2, hr3, hr4⟩ := hl _ (mm_at_mem hq)
    obtain ⟨r, z', hf, hrn, hKo⟩ := hcs as z K o hok h
    obtain ⟨a, as', rfl⟩ := hrecv as z K o h
    obtain ⟨hx, hb, hml, ho, hts⟩ := S
    have hB : ∀ q, mm_A G lyN H.size q → A q := fun q h => by
      rcases h with ⟨j, h1, rfl⟩ | h
      · exact hA j h1
      · exact hA2 q (Nat.le_trans hS.1 h)
    obtain ⟨htr, hrc⟩ := mm_rec hK hP hq1 hq3 (List.forall_mem_cons.mp hok).1 (as := as')
    have hMet := hM l G H.size (mm_P ci a :: as') z (r, z') hinj hok hf
    have hG : GoodIn lw_gd (.code y bytes maxL ret :: lw_gd) := fun w hw => by
      rcases List.mem_cons.mp hw with rfl | hw
      · exact mm_good _ hw4
      · exact mm_good _ hw
    have hn : (as'.map (mm_tr G)).length = n := by
      rw [List.length_map]
      have h1 : as'.length + 1 = ar k := hlen
      exact Nat.succ.inj (h1.trans har)
    have hPre : PreV s H y.cls (G.1 a) (mm_Pc G lyT lyF lenA sn lyN nR roA rs nf nm ss H.size (mm_P ci a :: as') z) (as'.map (mm_tr G)) := ⟨mm_blind, by rw [← hq2]; exact hrc, fun U hU hW => by
      have := mm_Pc_in (as := mm_P ci a :: as') hB hP hK hro hS hU hW
      rw [List.map_cons, htr] at this
      exact this⟩
    have hrun : va_Run p l e R s m args below meth c H locs 0 0 0 0 (F0 m pc la ((as'.map (mm_tr G)).reverse ++ .ref (G.1 a) :: rest)) rest (mm_Q G (mm_A G lyN H.size) lyT lyF lenA sn lyN (r, z') (Value.ref (G.1 a) :: as'.map (mm_tr G)).toArray) (mm_A G lyN H.size) := by
      rcases hlink with hlink | ⟨host, hlink⟩
      · exact va_runV ⟨hx, hb, hml, ho, hts⟩ hMet ⟨callB_of n hts hG rfl hr1 hr2 (hts _ hw3) (hts _ hlink) ⟨hy1, hy2, hy3⟩ ⟨hr3, hr4⟩, hts _ hw1, hts _ hw2⟩ hPre rfl hn hsz rfl (lv_room hrest) hd ⟨Nat.zero_le _, Nat.zero_le _⟩
      · exact va_runVN ⟨hx, hb, hml, ho, hts⟩ hMet ⟨va_cnB (host := host) n hts hG rfl hr1 hr2 (hro.2.2.2.2.2.2.2 _ hlink) (hts _ hw3) ⟨hy1, hy2, hy3⟩ ⟨hr3, hr4⟩, hts _ hw1, hts _ hw2⟩ hPre rfl hn hsz rfl (lv_room hrest) hd ⟨Nat.zero_le _, Nat.zero_le _⟩
    have := mm_back hrun hS hB (fun H1 locs1 hP1 hS1 => kk r z' H1 locs1 hKo (fun v hv => by
      rcases hrn v hv with ⟨x, rfl⟩ | ⟨x, rfl⟩
      · trivial
      · trivial) hP1 hS1)
    rw [List.map_cons, htr, List.reverse_cons, List.append_assoc]
    exact this
theorem mm_CC_S {own : String} {ar : Nat → Nat} {lst : List (Nat × (List mm_V → mm_S → (Option mm_V → mm_S → Option mm_R) → Option mm_R))} {mf : Nat → List mm_V → mm_S → (Option mm_V → mm_S → Option mm_R) → Option mm_R}
    (hmf : ∀ k as z kk, mf k as z kk = match mm_at lst k with
      | some f => f as z kk
      | none => none) (S : CallFix p m c cc nL s args lw_gd own) (hK : va_K G.2.2.2 vwCl (mm_ty G) s) (hro : mm_ro G lenA lyN nR roA rs nf nm ss A s s.heap) (hinj : ∀ i j, i < lyN → j < lyN → G.1 i = G.1 j → i = j) (hA : ∀ k, k < lyN → A (G.1 k)) (hA2 : ∀ q, s.heap.size ≤ q → A q)
    (hl : ∀ q ∈ lst, mm_okS lyT lyF lenA sn lyN nR nS roA rs nf nm ss own R ar q.1 q.2) : mm_CC p l e R s m args below meth c G A lyT lyF lenA sn lyN nR nS nL cc (fun k => .invokestatic k) ar mf := by
  intro k as z K o h hlen hok pc la rest H locs hd hsz hrest hP hS kk
  rw [hmf] at h
  cases hq : mm_at lst k with
  | none => rw [hq] at h; cases h
  | some cl =>
    rw [hq] at h
    have h : cl as z K = some o := h
    have hD := mm_wsD (lyT := lyT) (lyF := lyF) (lenA := lenA) (sn := sn) z hinj hA
    rcases hl _ (mm_at_mem hq) with hl1 | ⟨hc, w1, w2, w3, w4, w5, w6, -⟩ | ⟨hc, w4, w5, w6, -⟩
    rotate_left 2
    · obtain ⟨hx, hb, hml, ho, hts⟩ := S
      rcases hc with ⟨rfl, w1, w2, w3⟩ | ⟨rfl, w1, w2, w3⟩
      · obtain ⟨x, r1, rfl, h1⟩ := mm_pi_e (show mm_pi as _ = some o from h)
        obtain ⟨y, r2, rfl, h2⟩ := mm_pi_e h1
        obtain ⟨h3, h4⟩ := mm_bif_e h2
        obtain rfl := List.isEmpty_iff.mp h3
        exact va_mmax hx hb (hml.trans hsz.symm) ho (hts _ w1) (hts _ w2) (hts _ w4) (hts _ w3) w5 (Nat.le_trans (Nat.add_le_add_right hrest 13) w6) (Nat.zero_le _) (Nat.zero_le _) hd (kk _ z H locs h4 (fun v hv => by cases hv; trivial) hP hS)
      · obtain ⟨x, r1, rfl, h1⟩ := mm_pi_e (show mm_pi as _ = some o from h)
        obtain ⟨y, r2, rfl, h2⟩ := mm_pi_e h1
        obtain ⟨h3, h4⟩ := mm_bif_e h2
        obtain rfl := List.isEmpty_iff.mp h3
        exact va_mmin hx hb (hml.trans hsz.symm) ho (hts _ w1) (hts _ w2) (hts _ w4) (hts _ w3) w5 (Nat.le_trans (Nat.add_le_add_right hrest 13) w6) (Nat.zero_le _) (Nat.zero_le _) hd (kk _ z H locs h4 (fun v hv => by cases hv; trivial) hP hS)
    rotate_left
    · obtain ⟨hx, hb, hml, ho, hts⟩ := S
      dsimp only at hc w1
      rcases hc with rfl | rfl
      · obtain ⟨a, b, sp, dp, n, rfl, g1, g2, g3, g4, g5, hKo⟩ := mm_ci_e h
        obtain ⟨a1, a2⟩ : a < lyN ∧ lyT a = 10 := by
          rcases hok (mm_P 10 a) (by simp) with q | q | q
          · exact absurd q.1 (by simp)
          · exact absurd q.1 (by simp)
          · exact ⟨q.2.2.1, q.2.2.2⟩
        obtain ⟨b1, b2⟩ : b < lyN ∧ lyT b = 10 := by
          rcases hok (mm_P 10 b) (by simp) with q | q | q
          · exact absurd q.1 (by simp)
          · exact absurd q.1 (by simp)
          · exact ⟨q.2.2.1, q.2.2.2⟩
        refine va_copyi (f := z.1 a) (g := z.1 b) hx hb (hml.trans hsz.symm) ho (hts _ w1) (hts _ w2) (hts _ w3) (hts _ w4) hK hP hD hS a b 0 0 (by rw [mm_ws_get z a1]; simp [mm_en, a2]) (by rw [mm_ws_get z b1]; simp [mm_en, b2]) rfl rfl rfl g1 g2 g3 g4 g5 (fun _ _ => rfl) w5 (Nat.le_trans (Nat.add_le_add_right hrest _) w6) hd (fun H1 locs1 hP1 hD1 hS1 => ?_)
        rw [mm_ws_set z (mm_cp z.1 a b sp.toNatClampNeg dp.toNatClampNeg n.toNatClampNeg, z.2) b1 (by simp [mm_en, b2, mm_cp]) (fun j hj => mm_en_ci z a b _ _ _ j hj)] at hP1
        exact kk none _ H1 locs1 hKo (fun v hv => by cases hv) hP1 hS1
      · obtain ⟨a, b, sp, dp, n, rfl, g1, g2, g3, g4, g5, hKo⟩ := mm_cj_e h
        obtain ⟨a1, a2⟩ : a < lyN ∧ lyT a = 11 := by
          rcases hok (mm_P 11 a) (by simp) with q | q | q
          · exact absurd q.1 (by simp)
          · exact absurd q.1 (by simp)
          · exact ⟨q.2.2.1, q.2.2.2⟩
        obtain ⟨b1, b2⟩ : b < lyN ∧ lyT b = 11 := by
          rcases hok (mm_P 11 b) (by simp) with q | q | q
          · exact absurd q.1 (by simp)
          · exact absurd q.1 (by simp)
          · exact ⟨q.2.2.1, q.2.2.2⟩
        refine va_copyl (f := z.2 a) (g := z.2 b) hx hb (hml.trans hsz.symm) ho (hts _ w1) (hts _ w2) (hts _ w3) (hts _ w4) hK hP hD hS a b 1 1 (by rw [mm_ws_get z a1]; simp [mm_en, a2]) (by rw [mm_ws_get z b1]; simp [mm_en, b2]) rfl rfl rfl g1 g2 g3 g4 g5 (fun _ _ => rfl) w5 (Nat.le_trans (Nat.add_le_add_right hrest _) w6) hd (fun H1 locs1 hP1 hD1 hS1 => ?_)
        rw [mm_ws_set z (z.1, mm_cp z.2 a b sp.toNatClampNeg dp.toNatClampNeg n.toNatClampNeg) b1 (by simp [mm_en, b2, mm_cp]) (fun j hj => mm_en_cj z a b _ _ _ j hj)] at hP1
        exact kk none _ H1 locs1 hKo (fun v hv => by cases hv) hP1 hS1
    obtain ⟨y, bytes, maxL, ret, rmc, fc, hM, hcs, hlink, ⟨hw1, hw3, hw4⟩, ⟨hy1, hy2, hy3⟩, hr1, hr2, hr3, hr4⟩ := hl1
    obtain ⟨r, z', hf, hrn, hKo⟩ := hcs as z K o hok h
    obtain ⟨hx, hb, hml, ho, hts⟩ := S
    have hB : ∀ q, mm_A G lyN H.size q → A q := fun q h => by
      rcases h with ⟨j, h1, rfl⟩ | h
      · exact hA j h1
      · exact hA2 q (Nat.le_trans hS.1 h)
    have hMet := hM l G H.size as z (r, z') hinj hok hf
    have hG : GoodIn lw_gd (.code y bytes maxL ret :: lw_gd) := fun w hw => by
      rcases List.mem_cons.mp hw with rfl | hw
      · exact mm_good _ hw4
      · exact mm_good _ hw
    have hn : (as.map (mm_tr G)).length = ar k := by rw [List.length_map]; exact hlen
    have hPre : PreS s H (mm_Pc G lyT lyF lenA sn lyN nR roA rs nf nm ss H.size as z) (as.map (mm_tr G)) := ⟨mm_blind, fun U hU hW => mm_Pc_in hB hP hK hro hS hU hW⟩
    have hrun : va_Run p l e R s m args below meth c H locs 0 0 0 0 (F0 m pc la ((as.map (mm_tr G)).reverse ++ rest)) rest (mm_Q G (mm_A G lyN H.size) lyT lyF lenA sn lyN (r, z') (as.map (mm_tr G)).toArray) (mm_A G lyN H.size) := by
      rcases hlink with hlink | ⟨host, hlink⟩
      · exact va_runS ⟨hx, hb, hml, ho, hts⟩ hMet ⟨callB_of (ar k) hts hG rfl hr1 hr2 (hts _ hw3) (hts _ hlink) ⟨hy1, hy2, hy3⟩ ⟨hr3, hr4⟩, hts _ hw1⟩ hPre rfl hn hsz rfl (lv_room hrest) hd ⟨Nat.zero_le _, Nat.zero_le _⟩
      · exact va_runSN ⟨hx, hb, hml, ho, hts⟩ hMet ⟨va_cnB (host := host) (ar k) hts hG rfl hr1 hr2 (hro.2.2.2.2.2.2.2 _ hlink) (hts _ hw3) ⟨hy1, hy2, hy3⟩ ⟨hr3, hr4⟩, hts _ hw1, trivial⟩ hPre rfl hn hsz rfl (lv_room hrest) hd ⟨Nat.zero_le _, Nat.zero_le _⟩
    exact mm_back hrun hS hB (fun H1 locs1 hP1 hS1 => kk r z' H1 locs1 hKo (fun v hv => by
      rcases hrn v hv with ⟨x, rfl⟩ | ⟨x, rfl⟩
      · trivial
      · trivial) hP1 hS1)
end MMCALL
