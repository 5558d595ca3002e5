/-! ===== the small machine is the machine's own: what it comes to, the machine comes to ===== -/
/-- a world: the cells' addresses, the texts' addresses, the array classes, the classes -/
abbrev mm_G : Type := (Nat → Nat) × (Nat → Nat) × (Nat → ClassId) × va_G
def mm_tr (G : mm_G) (v : mm_V) : Value := match v with
  | .inl x => .int x
  | .inr (.inl x) => .long x
  | .inr (.inr q) => bif Nat.beq q.1 20 then .ref (G.2.1 q.2) else .ref (G.1 q.2)
abbrev mm_tl (G : mm_G) (q : Nat × mm_V) : Nat × Value := (q.1, mm_tr G q.2)
def mm_ok (lyN : Nat) (lyT : Nat → Nat) (nR nS : Nat) (v : mm_V) : Prop := match v with
  | .inr (.inr q) => (q.1 = 20 ∧ q.2 < nS) ∨ (q.1 = 14 ∧ lyN ≤ q.2 ∧ q.2 < nR) ∨ (q.1 ≠ 20 ∧ q.1 ≠ 14 ∧ q.2 < lyN ∧ lyT q.2 = q.1)
  | _ => True
section MMW
variable (G : mm_G) (lyT : Nat → Nat) (lyF : Nat → List (Nat × Nat × Nat × Nat)) (lenA : Nat → Nat) (sn : Nat → Nat → Nat) (lyN : Nat)
def mm_en (z : mm_S) (k : Nat) : va_E :=
  if lyT k = 10 then .inl (G.2.2.1 0, lenA k, .inl (z.1 k))
  else if lyT k = 11 then .inl (G.2.2.1 1, lenA k, .inr (.inl (z.2 k)))
  else if lyT k = 12 then .inl (G.2.2.1 2, lenA k, .inl (z.1 k))
  else if lyT k = 13 then .inl (G.2.2.1 3, lenA k, .inr (.inr (.inr (.inr (fun j => some (G.2.1 (sn k j)))))))
  else .inr (lyT k, (lyF (lyT k)).map fun d => mm_tr G (mm_fv d k z))
def mm_ws (z : mm_S) : va_W := (List.range lyN).map fun k => (G.1 k, mm_en G lyT lyF lenA sn z k)
end MMW
theorem mm_ws_get {G : mm_G} {lyT : Nat → Nat} {lyF : Nat → List (Nat × Nat × Nat × Nat)} {lenA : Nat → Nat} {sn : Nat → Nat → Nat} {lyN : Nat} (z : mm_S) {k : Nat} (h : k < lyN) : (mm_ws G lyT lyF lenA sn lyN z)[k]? = some (G.1 k, mm_en G lyT lyF lenA sn z k) := by
  simp [mm_ws, h]
theorem mm_ws_len {G : mm_G} {lyT : Nat → Nat} {lyF : Nat → List (Nat × Nat × Nat × Nat)} {lenA : Nat → Nat} {sn : Nat → Nat → Nat} {lyN : Nat} (z : mm_S) : (mm_ws G lyT lyF lenA sn lyN z).length = lyN := by
  simp [mm_ws]
theorem mm_ws_set {G : mm_G} {lyT : Nat → Nat} {lyF : Nat → List (Nat × Nat × Nat × Nat)} {lenA : Nat → Nat} {sn : Nat → Nat → Nat} {lyN : Nat} (z z' : mm_S) {k : Nat} {x : va_E} (h : k < lyN) (hk : mm_en G lyT lyF lenA sn z' k = x) (ho : ∀ j, j ≠ k → mm_en G lyT lyF lenA sn z' j = mm_en G lyT lyF lenA sn z j) :
    (mm_ws G lyT lyF lenA sn lyN z).set k (G.1 k, x) = mm_ws G lyT lyF lenA sn lyN z' := by
  apply List.ext_getElem?
  intro i
  rw [List.getElem?_set]
  by_cases hi : k = i
  · subst hi
    rw [if_pos rfl, mm_ws_len, if_pos h, mm_ws_get z' h, hk]
  · rw [if_neg hi]
    by_cases hl : i < lyN
    · rw [mm_ws_get z hl, mm_ws_get z' hl, ho i (Ne.symm hi)]
    · rw [List.getElem?_eq_none (by rw [mm_ws_len]; omega), List.getElem?_eq_none (by rw [mm_ws_len]; omega)]
theorem mm_fv_i (d : Nat × Nat × Nat × Nat) (z : mm_S) (o i k : Nat) (x : Int32) (h : k ≠ o) : mm_fv d k (mm_ui z.1 o i x, z.2) = mm_fv d k z := by
  unfold mm_fv; split <;> simp [mm_ui, h]
theorem mm_fv_j (d : Nat × Nat × Nat × Nat) (z : mm_S) (o i k : Nat) (x : Int64) (h : k ≠ o) : mm_fv d k (z.1, mm_ul z.2 o i x) = mm_fv d k z := by
  unfold mm_fv; split <;> simp [mm_ul, h]
theorem mm_en_i {G : mm_G} {lyT : Nat → Nat} {lyF : Nat → List (Nat × Nat × Nat × Nat)} {lenA : Nat → Nat} {sn : Nat → Nat → Nat} (z : mm_S) (o i k : Nat) (x : Int32) (h : k ≠ o) : mm_en G lyT lyF lenA sn (mm_ui z.1 o i x, z.2) k = mm_en G lyT lyF lenA sn z k := by
  unfold mm_en
  simp only [mm_fv_i _ _ _ _ _ _ h]
  simp [mm_ui, h]
theorem mm_en_j {G : mm_G} {lyT : Nat → Nat} {lyF : Nat → List (Nat × Nat × Nat × Nat)} {lenA : Nat → Nat} {sn : Nat → Nat → Nat} (z : mm_S) (o i k : Nat) (x : Int64) (h : k ≠ o) : mm_en G lyT lyF lenA sn (z.1, mm_ul z.2 o i x) k = mm_en G lyT lyF lenA sn z k := by
  unfold mm_en
  simp only [mm_fv_j _ _ _ _ _ _ h]
  simp [mm_ul, h]
theorem mm_cat_tr (G : mm_G) (v : mm_V) : (mm_tr G v).category = mm_cat v := by
  rcases v with x | x | q
  · rfl
  · rfl
  · simp only [mm_tr, mm_cat]
    cases Nat.beq q.1 20 <;> rfl
theorem mm_s1_tr (G : mm_G) (ls : mm_L) (i : Nat) (v : mm_V) : (i, mm_tr G v) :: (ls.map (mm_tl G)).filter (fun q => !(q.1 == i) && !(q.1 + 1 == i && q.2.category == 2)) = (mm_s1 ls i v).map (mm_tl G) := by
  simp only [mm_s1, List.map_cons, List.filter_map]
  congr 2
  apply List.filter_congr
  intro q _
  simp [mm_cat_tr]
theorem mm_s2_tr (G : mm_G) (ls : mm_L) (i : Nat) (v : mm_V) : (i, mm_tr G v) :: (ls.map (mm_tl G)).filter (fun q => !(q.1 == i) && (!(q.1 == i + 1) && !(q.1 + 1 == i && q.2.category == 2))) = (mm_s2 ls i v).map (mm_tl G) := by
  simp only [mm_s2, List.map_cons, List.filter_map]
  congr 2
  apply List.filter_congr
  intro q _
  simp [mm_cat_tr]
theorem mm_lk_mem : ∀ {ls : mm_L} {i : Nat} {v : mm_V}, mm_lk ls i = some v → (i, v) ∈ ls
  | (j, w) :: r, i, v, h => by
    unfold mm_lk at h
    cases hb : Nat.beq j i with
    | true =>
      rw [hb] at h
      have hj : j = i := Nat.eq_of_beq_eq_true hb
      have hw : w = v := Option.some.inj h
      subst hj; subst hw
      exact List.mem_cons_self
    | false =>
      rw [hb] at h
      exact List.mem_cons_of_mem _ (mm_lk_mem h)
theorem mm_lk_has {G : mm_G} {ls : mm_L} {i nL : Nat} {v : mm_V} {la : Array Slot} (h : mm_lk ls i = some v) (hl : lv_has la nL (ls.map (mm_tl G))) : la[i]? = some (.val (mm_tr G v)) :=
  hl.2.2 (i, mm_tr G v) (List.mem_map.mpr ⟨(i, v), mm_lk_mem h, rfl⟩)
theorem mm_pk_mem : ∀ {ls : mm_L} (is : List Nat) {q : Nat × mm_V}, q ∈ mm_pk ls is → q ∈ ls
  | ls, i :: r, q, h => by
    unfold mm_pk at h
    cases hb : mm_lk ls i with
    | some v =>
      rw [hb] at h
      rcases List.mem_cons.mp h with rfl | h
      · exact mm_lk_mem hb
      · exact mm_pk_mem r h
    | none =>
      rw [hb] at h
      exact mm_pk_mem r h
theorem mm_pk_has {G : mm_G} {ls : mm_L} {is : List Nat} {nL : Nat} {la : Array Slot} (hl : lv_has la nL (ls.map (mm_tl G))) : lv_has la nL ((mm_pk ls is).map (mm_tl G)) :=
  ⟨hl.1, hl.2.1, fun q hq => by
    obtain ⟨x, hx, rfl⟩ := List.mem_map.mp hq
    exact hl.2.2 _ (List.mem_map.mpr ⟨x, mm_pk_mem is hx, rfl⟩)⟩
theorem mm_s1_ok {P : mm_V → Prop} {ls : mm_L} {i : Nat} {v : mm_V} (hl : ∀ q ∈ ls, P q.2) (hv : P v) : ∀ q ∈ mm_s1 ls i v, P q.2 := by
  intro q hq
  rcases List.mem_cons.mp hq with rfl | h
  · exact hv
  · exact hl q (List.mem_filter.mp h).1
theorem mm_s2_ok {P : mm_V → Prop} {ls : mm_L} {i : Nat} {v : mm_V} (hl : ∀ q ∈ ls, P q.2) (hv : P v) : ∀ q ∈ mm_s2 ls i v, P q.2 := by
  intro q hq
  rcases List.mem_cons.mp hq with rfl | h
  · exact hv
  · exact hl q (List.mem_filter.mp h).1
theorem mm_pi_e {st : List mm_V} {f : Int32 → List mm_V → Option mm_R} {o : mm_R} (h : mm_pi st f = some o) : ∃ a r, st = mm_I a :: r ∧ f a r = some o := by
  unfold mm_pi at h
  split at h
  · exact ⟨_, _, rfl, h⟩
  · cases h
theorem mm_pj_e {st : List mm_V} {f : Int64 → List mm_V → Option mm_R} {o : mm_R} (h : mm_pj st f = some o) : ∃ a r, st = mm_J a :: r ∧ f a r = some o := by
  unfold mm_pj at h
  split at h
  · exact ⟨_, _, rfl, h⟩
  · cases h
theorem mm_pr_e {st : List mm_V} {f : Nat → Nat → List mm_V → Option mm_R} {o : mm_R} (h : mm_pr st f = some o) : ∃ t k r, st = mm_P t k :: r ∧ f t k r = some o := by
  unfold mm_pr at h
  split at h
  · exact ⟨_, _, _, rfl, h⟩
  · cases h
theorem mm_oi_e {x : Option mm_V} {f : Int32 → Option mm_R} {o : mm_R} (h : mm_oi x f = some o) : ∃ a, x = some (mm_I a) ∧ f a = some o := by
  unfold mm_oi at h
  split at h
  · exact ⟨_, rfl, h⟩
  · cases h
theorem mm_oj_e {x : Option mm_V} {f : Int64 → Option mm_R} {o : mm_R} (h : mm_oj x f = some o) : ∃ a, x = some (mm_J a) ∧ f a = some o := by
  unfold mm_oj at h
  split at h
  · exact ⟨_, rfl, h⟩
  · cases h
theorem mm_or_e {x : Option mm_V} {f : Nat → Nat → Option mm_R} {o : mm_R} (h : mm_or x f = some o) : ∃ t k, x = some (mm_P t k) ∧ f t k = some o := by
  unfold mm_or at h
  split at h
  · exact ⟨_, _, rfl, h⟩
  · cases h
theorem mm_jp_e {pc : Nat} {off : Int} {f : Nat → Option mm_R} {o : mm_R} (h : mm_jp pc off f = some o) : ∃ t : Nat, (pc : Int) + off = (t : Int) ∧ f t = some o := by
  unfold mm_jp at h
  split at h
  · next t ht => exact ⟨t, ht, h⟩
  · cases h
theorem mm_bif_e {b : Bool} {x : Option mm_R} {o : mm_R} (h : (bif b then x else none) = some o) : b = true ∧ x = some o := by
  cases b with
  | true => exact ⟨rfl, h⟩
  | false => cases h
section MMX
variable {p : Program} {l : Launch} {e : Env} {R : Room} {s : State} {m : MethodId} {args : Array Value} {below : List Frame} {meth : Method} {c : Code}
variable (p l e R s m args below meth c) (G : mm_G) (A : Nat → Prop) (lyT : Nat → Nat) (lyF : Nat → List (Nat × Nat × Nat × Nat)) (lenA : Nat → Nat) (sn : Nat → Nat → Nat) (lyN nR nS nL : Nat)
/-- a state of the machine's heap that holds the numbers z -/
abbrev mm_H (z : mm_S) (H : Heap) : Prop := va_P G.2.2.2 vwCl (mm_ws G lyT lyF lenA sn lyN z) H
/-- what a method says of its end -/
def mm_Q (o : mm_R) : Array Value → State → Outcome → State → Prop := match o.1 with
  | some (.inl r0) => va_Qi (S := Unit) (fun r _ => r = r0) (fun _ t => mm_H G lyT lyF lenA sn lyN o.2 t.heap) A
  | some (.inr (.inl r0)) => va_Ql (S := Unit) (fun r _ => r = r0) (fun _ t => mm_H G lyT lyF lenA sn lyN o.2 t.heap) A
  | some (.inr (.inr _)) => fun _ _ _ _ => False
  | none => va_Qv (S := Unit) (fun _ => True) (fun _ t => mm_H G lyT lyF lenA sn lyN o.2 t.heap) A
/-- from here the method comes to its end, with o -/
abbrev mm_w (o : mm_R) (H : Heap) (locs : List Loc) (g : JFrame) : Prop := W p l e R s m args below meth c H locs 0 0 (MQ below (mm_Q G A lyT lyF lenA sn lyN o) args s 0 0 A) g
def mm_to (o : mm_R) (pc : Nat) (ls : mm_L) (st : List mm_V) (z : mm_S) : Prop :=
  (∀ v ∈ st, mm_ok lyN lyT nR nS v) → (∀ q ∈ ls, mm_ok lyN lyT nR nS q.2) → ∀ (H : Heap) (locs : List Loc) (la : Array Slot), mm_H G lyT lyF lenA sn lyN z H → va_S A s.heap H locs → lv_has la nL (ls.map (mm_tl G)) →
    mm_w p l e R s m args below meth c G A lyT lyF lenA sn lyN o H locs (F0 m pc la (st.map (mm_tr G)))
variable (cc : ByteArray) (fld : Nat → Option mm_F) (cst gst : Nat → Option mm_V) (arV arS : Nat → Nat) (mV mS : Nat → List mm_V → mm_S → (Option mm_V → mm_S → Option mm_R) → Option mm_R) (roA : Nat → Nat → Int32) (rt : Nat)
/-- what holds all through a method: the machine, the code, the cells apart, the tables that nobody writes -/
def mm_C : Prop := p.tables.exec = Jvm.exec ∧ c.code = cc ∧ c.maxLocals = nL ∧ va_K G.2.2.2 vwCl [(G.2.2.1 0, .int), (G.2.2.1 1, .long), (G.2.2.1 2, .boolean), (G.2.2.1 3, .object "java/lang/String")] s ∧ meth.locks = false ∧
  (∀ i j, i < lyN → j < lyN → G.1 i = G.1 j → i = j) ∧ (∀ k, k < lyN → A (G.1 k)) ∧ (∀ k, lyN ≤ k → k < nR → va_T .int (G.1 k) (lenA k) (fun j => .int (roA k j)) A s s.heap) ∧
  (∀ k j, k < lyN → lyT k = 13 → j < lenA k → sn k j < nS)
def mm_C1 : Prop := (rt = 0 → meth.sig.returnType = some .int) ∧ (rt = 1 → meth.sig.returnType = some .boolean) ∧ (rt = 2 → meth.sig.returnType = some .long) ∧ (rt = 3 → meth.sig.returnType = none)
/-- fields are read -/
def mm_CG : Prop := ∀ (k : Nat) (d : mm_F), fld k = some d → (d.1 ≠ 20 ∧ d.1 ≠ 14) ∧ (d.2.2.1 = 3 → ∀ o, o < lyN → lyT o = d.1 → mm_ok lyN lyT nR nS (mm_P d.2.2.2.1 (o + d.2.2.2.2))) ∧
  ∀ (o : mm_R) (pc : Nat) (la : Array Slot) (rest : List Value) (H : Heap) (locs : List Loc) (a : Nat) (z : mm_S), decode cc pc = .ok (.getfield k, 3) → a < lyN → lyT a = d.1 → mm_H G lyT lyF lenA sn lyN z H → va_S A s.heap H locs →
    mm_w p l e R s m args below meth c G A lyT lyF lenA sn lyN o H locs (F0 m (pc + 3) la (mm_tr G (mm_fv d.2 a z) :: rest)) → mm_w p l e R s m args below meth c G A lyT lyF lenA sn lyN o H locs (F0 m pc la (.ref (G.1 a) :: rest))
/-- fields are written -/
def mm_CP : Prop := ∀ (k : Nat) (d : mm_F), fld k = some d →
  ∀ (o : mm_R) (pc : Nat) (la : Array Slot) (rest : List Value) (H : Heap) (locs : List Loc) (a : Nat) (z z' : mm_S) (v : mm_V), decode cc pc = .ok (.putfield k, 3) → a < lyN → lyT a = d.1 →
    ((d.2.2.1 = 0 ∧ ∃ x, v = mm_I x ∧ z' = (mm_ui z.1 a d.2.1 x, z.2)) ∨ (d.2.2.1 = 1 ∧ ∃ x, v = mm_J x ∧ z' = (z.1, mm_ul z.2 a d.2.1 x)) ∨ (d.2.2.1 = 2 ∧ ∃ x : Int32, (x = 0 ∨ x = 1) ∧ v = mm_I x ∧ z' = (mm_ui z.1 a d.2.1 x, z.2))) →
    mm_H G lyT lyF lenA sn lyN z H → va_S A s.heap H locs → (∀ (H1 : Heap) (locs1 : List Loc), mm_H G lyT lyF lenA sn lyN z' H1 → va_S A s.heap H1 locs1 → mm_w p l e R s m args below meth c G A lyT lyF lenA sn lyN o H1 locs1 (F0 m (pc + 3) la rest)) →
    mm_w p l e R s m args below meth c G A lyT lyF lenA sn lyN o H locs (F0 m pc la (mm_tr G v :: .ref (G.1 a) :: rest))
/-- constants, statics -/
def mm_CL : Prop := (∀ (k : Nat) (v : mm_V), cst k = some v → mm_ok lyN lyT nR nS v ∧ ∀ (o : mm_R) (pc : Nat) (la : Array Slot) (rest : List Value) (H : Heap) (locs : List Loc), va_S A s.heap H locs →
    (decode cc pc = .ok (.ldc k, 2) → mm_cat v = 1 → mm_w p l e R s m args below meth c G A lyT lyF lenA sn lyN o H locs (F0 m (pc + 2) la (mm_tr G v :: rest)) → mm_w p l e R s m args below meth c G A lyT lyF lenA sn lyN o H locs (F0 m pc la rest)) ∧
    (decode cc pc = .ok (.ldc_w k, 3) → mm_cat v = 1 → mm_w p l e R s m args below meth c G A lyT lyF lenA sn lyN o H locs (F0 m (pc + 3) la (mm_tr G v :: rest)) → mm_w p l e R s m args below meth c G A lyT lyF lenA sn lyN o H locs (F0 m pc la rest)) ∧
    (decode cc pc = .ok (.ldc2_w k, 3) → (∃ x, v = mm_J x) → mm_w p l e R s m args below meth c G A lyT lyF lenA sn lyN o H locs (F0 m (pc + 3) la (mm_tr G v :: rest)) → mm_w p l e R s m args below meth c G A lyT lyF lenA sn lyN o H locs (F0 m pc la rest))) ∧
  (∀ (k : Nat) (v : mm_V), gst k = some v → mm_ok lyN lyT nR nS v ∧ ∀ (o : mm_R) (pc : Nat) (la : Array Slot) (rest : List Value) (H : Heap) (locs : List Loc), va_S A s.heap H locs → decode cc pc = .ok (.getstatic k, 3) →
    mm_w p l e R s m args below meth c G A lyT lyF lenA sn lyN o H locs (F0 m (pc + 3) la (mm_tr G v :: rest)) → mm_w p l e R s m args below meth c G A lyT lyF lenA sn lyN o H locs (F0 m pc la rest))
/-- calls: what the table of callees tells, they do -/
def mm_CC (ins : Nat → Instr) (ar : Nat → Nat) (mf : Nat → List mm_V → mm_S → (Option mm_V → mm_S → Option mm_R) → Option mm_R) : Prop :=
  ∀ (k : Nat) (as : List mm_V) (z : mm_S) (K : Option mm_V → mm_S → Option mm_R) (o : mm_R), mf k as z K = some o → as.length = ar k → (∀ v ∈ as, mm_ok lyN lyT nR nS v) →
    ∀ (pc : Nat) (la : Array Slot) (rest : List Value) (H : Heap) (locs : List Loc), decode cc pc = .ok (ins k, 3) → la.size = nL → (rest.map fun v => v.category).sum ≤ 8 → mm_H G lyT lyF lenA sn lyN z H → va_S A s.heap H locs →
    (∀ (r : Option mm_V) (z' : mm_S) (H1 : Heap) (locs1 : List Loc), K r z' = some o → (∀ v, r = some v → mm_ok lyN lyT nR nS v) → mm_H G lyT lyF lenA sn lyN z' H1 → va_S A s.heap H1 locs1 →
      mm_w p l e R s m args below meth c G A lyT lyF lenA sn lyN o H1 locs1 (F0 m (pc + 3) la (r.toList.map (mm_tr G) ++ rest))) →
    mm_w p l e R s m args below meth c G A lyT lyF lenA sn lyN o H locs (F0 m pc la ((as.map (mm_tr G)).reverse ++ rest))
end MMX
theorem mm_wsD {G : mm_G} {A : Nat → Prop} {lyT : Nat → Nat} {lyF : Nat → List (Nat × Nat × Nat × Nat)} {lenA : Nat → Nat} {sn : Nat → Nat → Nat} {lyN : Nat} (z : mm_S) (hinj : ∀ i j, i < lyN → j < lyN → G.1 i = G.1 j → i = j) (hA : ∀ k, k < lyN → A (G.1 k)) : va_D A (mm_ws G lyT lyF lenA sn lyN z) := by
  have key : ∀ (i : Nat) (q : Nat × va_E), (mm_ws G lyT lyF lenA sn lyN z)[i]? = some q → i < lyN ∧ q.1 = G.1 i := by
    intro i q hi
    have hl : i < lyN := by
      have := (List.getElem?_eq_some_iff.mp hi).1
      rwa [mm_ws_len] at this
    rw [mm_ws_get z hl] at hi
    exact ⟨hl, by rw [← Option.some.inj hi]⟩
  refine ⟨fun i j p q hi hj hpq => ?_, fun k q hk => ?_⟩
  · obtain ⟨h1, h2⟩ := key i p hi
    obtain ⟨h3, h4⟩ := key j q hj
    exact hinj i j h1 h3 (by rw [← h2, ← h4, hpq])
  · obtain ⟨h1, h2⟩ := key k q hk
    rw [h2]
    exact hA k h1
section MMT
variable {p : Program} {l : Launch} {e : Env} {R : Room} {s : State} {m : MethodId} {args : Array Value} {below : List Frame} {meth : Method} {c : Code} {G : mm_G} {A : Nat → Prop} {lyT : Nat → Nat} {lyF : Nat → List (Nat × Nat × Nat × Nat)} {lenA : Nat → Nat} {sn : Nat → Nat → Nat} {lyN nR nS nL : Nat}
variable {cc : ByteArray} {fld : Nat → Option mm_F} {cst gst : Nat → Option mm_V} {arV arS : Nat → Nat} {mV mS : Nat → List mm_V → mm_S → (Option mm_V → mm_S → Option mm_R) → Option mm_R} {roA : Nat → Nat → Int32} {rt : Nat}
theorem mm_cmp_e {cn : ClassFile.Cond} {x y : Int32} {t f : Option mm_R} {o : mm_R} (h : mm_cmp cn x y t f = some o) : (t = some o ∧ (match cn with
    | .eq => x = y
    | .ne => ¬ x = y
    | .lt => x < y
    | .ge => y ≤ x
    | .gt => y < x
    | .le => x ≤ y)) ∨ (f = some o ∧ ¬ (match cn with
    | .eq => x = y
    | .ne => ¬ x = y
    | .lt => x < y
    | .ge => y ≤ x
    | .gt => y < x
    | .le => x ≤ y)) := by
  cases cn with
  | eq =>
    by_cases hc : x = y
    · exact Or.inl ⟨by rw [← h]; exact (if_pos hc).symm, hc⟩
    · exact Or.inr ⟨by rw [← h]; exact (if_neg hc).symm, hc⟩
  | ne =>
    by_cases hc : x = y
    · exact Or.inr ⟨by rw [← h]; exact (if_pos hc).symm, fun q => q hc⟩
    · exact Or.inl ⟨by rw [← h]; exact (if_neg hc).symm, hc⟩
  | lt =>
    by_cases hc : x < y
    · exact Or.inl ⟨by rw [← h]; exact (if_pos hc).symm, hc⟩
    · exact Or.inr ⟨by rw [← h]; exact (if_neg hc).symm, hc⟩
  | ge =>
    by_cases hc : y ≤ x
    · exact Or.inl ⟨by rw [← h]; exact (if_pos hc).symm, hc⟩
    · exact Or.inr ⟨by rw [← h]; exact (if_neg hc).symm, hc⟩
  | gt =>
    by_cases hc : y < x
    · exact Or.inl ⟨by rw [← h]; exact (if_pos hc).symm, hc⟩
    · exact Or.inr ⟨by rw [← h]; exact (if_neg hc).symm, hc⟩
  | le =>
    by_cases hc : x ≤ y
    · exact Or.inl ⟨by rw [← h]; exact (if_pos hc).symm, hc⟩
    · exact Or.inr ⟨by rw [← h]; exact (if_neg hc).symm, hc⟩
theorem mm_ts_e {pc : Nat} {x : Int32} {d : Int} {f : Nat → Option mm_R} {o : mm_R} : ∀ {offs : List Int} {i : Int}, mm_ts pc x d f offs i = some o →
    (∃ (k : Nat) (off : Int) (t : Nat), offs[k]? = some off ∧ x.toInt = i + k ∧ (pc : Int) + off = t ∧ f t = some o) ∨ ((x.toInt < i ∨ i + offs.length ≤ x.toInt) ∧ ∃ t : Nat, (pc : Int) + d = t ∧ f t = some o)
  | [], i, h => by
    obtain ⟨t, h1, h2⟩ := mm_jp_e (show mm_jp pc d f = some o from h)
    refine Or.inr ⟨?_, t, h1, h2⟩
    simp only [List.length_nil]
    omega
  | a :: r, i, h => by
    obtain ⟨h1, h2⟩ := mm_bif_e (show (bif (Int32.ofInt i).toInt == i then _ else none) = some o from h)
    have h3 : (Int32.ofInt i).toInt = i := by simpa using h1
    by_cases hx : x = Int32.ofInt i
    · rw [if_pos hx] at h2
      obtain ⟨t, h4, h5⟩ := mm_jp_e h2
      exact Or.inl ⟨0, a, t, rfl, by rw [hx, h3]; simp, h4, h5⟩
    · rw [if_neg hx] at h2
      have hne : x.toInt ≠ i := fun q => hx (Int32.toInt_inj.mp (by rw [h3]; exact q))
      rcases mm_ts_e h2 with ⟨k, off, t, g1, g2, g3, g4⟩ | ⟨g1, t, g3, g4⟩
      · exact Or.inl ⟨k + 1, off, t, by simpa using g1, by rw [g2]; push_cast; omega, g3, g4⟩
      · refine Or.inr ⟨?_, t, g3, g4⟩
        simp only [List.length_cons]
        push_cast
        omega
theorem mm_lw_e {pc : Nat} {x : Int32} {d : Int} {f : Nat → Option mm_R} {o : mm_R} : ∀ {ps : List (Int × Int)}, mm_lw pc x d f ps = some o → ∃ t : Nat, (pc : Int) + Op.lookupswitch.offset ps d x.toInt = t ∧ f t = some o
  | [], h => by
    obtain ⟨t, h1, h2⟩ := mm_jp_e (show mm_jp pc d f = some o from h)
    exact ⟨t, h1, h2⟩
  | (a, q) :: r, h => by
    obtain ⟨h1, h2⟩ := mm_bif_e (show (bif (Int32.ofInt a).toInt == a then _ else none) = some o from h)
    have h3 : (Int32.ofInt a).toInt = a := by simpa using h1
    by_cases hx : x = Int32.ofInt a
    · rw [if_pos hx] at h2
      obtain ⟨t, h4, h5⟩ := mm_jp_e h2
      exact ⟨t, by rw [Op.lookupswitch.offset_cons, if_pos (by rw [hx, h3])]; exact h4, h5⟩
    · rw [if_neg hx] at h2
      obtain ⟨t, h4, h5⟩ := mm_lw_e h2
      exact ⟨t, by rw [lv_osw hx h3]; exact h4, h5⟩
theorem mm_cl_e {n : Nat} {f : List mm_V → mm_S → (Option mm_V → mm_S → Option mm_R) → Option mm_R} {st : List mm_V} {z : mm_S} {kk : List mm_V → mm_S → Option mm_R} {o : mm_R} (h : mm_cl n f st z kk = some o) :
    ∃ as rest, st = as.reverse ++ rest ∧ as.length = n ∧ (rest.map mm_cat).sum ≤ 8 ∧ f as z (fun r z' => kk (r.toList ++ rest) z') = some o := by
  obtain ⟨h1, h2⟩ := mm_bif_e h
  rw [Bool.and_eq_true] at h1
  have g1 := Nat.le_of_ble_eq_true h1.1
  exact ⟨(st.take n).reverse, st.drop n, by simp, by simp; omega, Nat.le_of_ble_eq_true h1.2, h2⟩
set_option maxHeartbeats 4000000 in
set_option maxRecDepth 20000 in
theorem mm_step_to (C : mm_C p s meth c G A lyT lenA sn lyN nR nS nL cc roA) (C1 : mm_C1 meth rt) (CG : mm_CG p l e R s m args below meth c G A lyT lyF lenA sn lyN nR nS cc fld) (CP : mm_CP p l e R s m args below meth c G A lyT lyF lenA sn lyN cc fld) (CL : mm_CL p l e R s m args below meth c G A lyT lyF lenA sn lyN nR nS cc cst gst)
    (CV : mm_CC p l e R s m args below meth c G A lyT lyF lenA sn lyN nR nS nL cc (fun k => .invokevirtual k) arV mV) (CS : mm_CC p l e R s m args below meth c G A lyT lyF lenA sn lyN nR nS nL cc (fun k => .invokestatic k) arS mS)
    {i : Instr} {pc n : Nat} (hd : decode cc pc = .ok (i, n)) (hn : Nat.beq n (mm_len n i) = true) {ls : mm_L} {st : List mm_V} {z : mm_S} {kk : mm_K} {o : mm_R} (h : mm_step fld cst gst arV arS mV mS lenA roA sn nL rt i pc ls st z kk = some o)
    (hk : ∀ (pc' : Nat) (ls' : mm_L) (st' : List mm_V) (z' : mm_S), kk pc' ls' st' z' = some o → mm_to p l e R s m args below meth c G A lyT lyF lenA sn lyN nR nS nL o pc' ls' st' z') : mm_to p l e R s m args below meth c G A lyT lyF lenA sn lyN nR nS nL o pc ls st z := by
  intro hst hls H locs la hP hS hv
  obtain ⟨hx, hb, hml, hK, hlk, hinj, hA, hro, hsn⟩ := C
  cases i with
  | iconst k =>
    obtain rfl : n = 1 := Nat.eq_of_beq_eq_true hn
    exact lv_iconst hx hb hd rfl (hk _ _ _ _ h (List.forall_mem_cons.mpr ⟨trivial, hst⟩) hls H locs la hP hS hv)
  | bipush k =>
    obtain rfl : n = 2 := Nat.eq_of_beq_eq_true hn
    exact lv_bipush hx hb hd rfl (hk _ _ _ _ h (List.forall_mem_cons.mpr ⟨trivial, hst⟩) hls H locs la hP hS hv)
  | sipush k =>
    obtain rfl : n = 3 := Nat.eq_of_beq_eq_true hn
    exact lv_sipush hx hb hd rfl (hk _ _ _ _ h (List.forall_mem_cons.mpr ⟨trivial, hst⟩) hls H locs la hP hS hv)
  | lconst k =>
    obtain rfl : n = 1 := Nat.eq_of_beq_eq_true hn
    exact lv_lconst hx hb hd rfl (hk _ _ _ _ h (List.forall_mem_cons.mpr ⟨trivial, hst⟩) hls H locs la hP hS hv)
  | ldc k =>
    obtain rfl : n = 2 := Nat.eq_of_beq_eq_true hn
    cases hc : cst k with
    | none => simp only [mm_step, hc] at h; cases h
    | some v =>
      simp only [mm_step, hc] at h
      obtain ⟨h1, h2⟩ := CL.1 k v hc
      obtain ⟨hcat, h_1⟩ := mm_bif_e h
      exact (h2 o pc la _ H locs hS).1 hd (by simpa using hcat) (hk _ _ _ _ h_1 (List.forall_mem_cons.mpr ⟨h1, hst⟩) hls H locs la hP hS hv)
  | ldc_w k =>
    obtain rfl : n = 3 := Nat.eq_of_beq_eq_true hn
    cases hc : cst k with
    | none => simp only [mm_step, hc] at h; cases h
    | some v =>
      simp only [mm_step, hc] at h
      obtain ⟨h1, h2⟩ := CL.1 k v hc
      obtain ⟨hcat, h_2⟩ := mm_bif_e h
      exact (h2 o pc la _ H locs hS).2.1 hd (by simpa using hcat) (hk _ _ _ _ h_2 (List.forall_mem_cons.mpr ⟨h1, hst⟩) hls H locs la hP hS hv)
  | ldc2_w k =>
    obtain rfl : n = 3 := Nat.eq_of_beq_eq_true hn
    obtain ⟨x, hc, h_3⟩ := mm_oj_e (show mm_oj (cst k) _ = some o from h)
    obtain ⟨h1, h2⟩ := CL.1 k _ hc
    exact (h2 o pc la _ H locs hS).2.2 hd ⟨x, rfl⟩ (hk _ _ _ _ h_3 (List.forall_mem_cons.mpr ⟨h1, hst⟩) hls H locs la hP hS hv)
  | getstatic k =>
    obtain rfl : n = 3 := Nat.eq_of_beq_eq_true hn
    cases hc : gst k with
    | none => simp only [mm_step, hc] at h; cases h
    | some v =>
      simp only [mm_step, hc] at h
      obtain ⟨h1, h2⟩ := CL.2 k v hc
      exact h2 o pc la _ H locs hS hd (hk _ _ _ _ h (List.forall_mem_cons.mpr ⟨h1, hst⟩) hls H locs la hP hS hv)
  | iload k =>
    obtain rfl : n = 2 := Nat.eq_of_beq_eq_true hn
    obtain ⟨x, hc, h_4⟩ := mm_oi_e (show mm_oi (mm_lk ls _) _ = some o from h)
    exact lv_iload hx hb hd (mm_lk_has hc hv) (hk _ _ _ _ h_4 (List.forall_mem_cons.mpr ⟨trivial, hst⟩) hls H locs la hP hS hv)
  | iload_n k =>
    obtain rfl : n = 1 := Nat.eq_of_beq_eq_true hn
    obtain ⟨x, hc, h_5⟩ := mm_oi_e (show mm_oi (mm_lk ls _) _ = some o from h)
    exact lv_iload_n hx hb hd rfl (mm_lk_has hc hv) (hk _ _ _ _ h_5 (List.forall_mem_cons.mpr ⟨trivial, hst⟩) hls H locs la hP hS hv)
  | lload k =>
    obtain rfl : n = 2 := Nat.eq_of_beq_eq_true hn
    obtain ⟨x, hc, h_6⟩ := mm_oj_e (show mm_oj (mm_lk ls _) _ = some o from h)
    exact lv_lload hx hb hd (mm_lk_has hc hv) (hk _ _ _ _ h_6 (List.forall_mem_cons.mpr ⟨trivial, hst⟩) hls H locs la hP hS hv)
  | lload_n k =>
    obtain rfl : n = 1 := Nat.eq_of_beq_eq_true hn
    obtain ⟨x, hc, h_7⟩ := mm_oj_e (show mm_oj (mm_lk ls _) _ = some o from h)
    exact lv_lload_n hx hb hd rfl (mm_lk_has hc hv) (hk _ _ _ _ h_7 (List.forall_mem_cons.mpr ⟨trivial, hst⟩) hls H locs la hP hS hv)
  | aload k =>
    obtain rfl : n = 2 := Nat.eq_of_beq_eq_true hn
    obtain ⟨t, a, hc, h_8⟩ := mm_or_e (show mm_or (mm_lk ls _) _ = some o from h)
    have hr := mm_lk_has hc hv
    have hw := hk _ _ _ _ h_8 (List.forall_mem_cons.mpr ⟨hls _ (mm_lk_mem hc), hst⟩) hls H locs la hP hS hv
    simp only [List.map_cons] at hw
    cases ht : Nat.beq t 20 with
    | true =>
      simp only [mm_tr, ht, cond_true] at hr hw
      exact lv_aload hx hb hd hr hw
    | false =>
      simp only [mm_tr, ht, cond_false] at hr hw
      exact lv_aload hx hb hd hr hw
  | aload_n k =>
    obtain rfl : n = 1 := Nat.eq_of_beq_eq_true hn
    obtain ⟨t, a, hc, h_9⟩ := mm_or_e (show mm_or (mm_lk ls _) _ = some o from h)
    have hr := mm_lk_has hc hv
    have hw := hk _ _ _ _ h_9 (List.forall_mem_cons.mpr ⟨hls _ (mm_lk_mem hc), hst⟩) hls H locs la hP hS hv
    simp only [List.map_cons] at hw
    cases ht : Nat.beq t 20 with
    | true =>
      simp only [mm_tr, ht, cond_true] at hr hw
      exact lv_aload_n hx hb hd rfl hr hw
    | false =>
      simp only [mm_tr, ht, cond_false] at hr hw
      exact lv_aload_n hx hb hd rfl hr hw
  | istore k =>
    obtain rfl : n = 2 := Nat.eq_of_beq_eq_true hn
    obtain ⟨x, r, rfl, h_10⟩ := mm_pi_e (show mm_pi st _ = some o from h)
    obtain ⟨hb1, h_11⟩ := mm_bif_e h_10
    have hlt := Nat.le_of_ble_eq_true hb1
    exact lv_istore hx hb hd hv hlt (mm_s1_tr G ls _ (mm_I x)) (fun la' hv' => hk _ _ _ _ h_11 (List.forall_mem_cons.mp hst).2 (mm_s1_ok hls trivial) H locs la' hP hS hv')
  | istore_n k =>
    obtain rfl : n = 1 := Nat.eq_of_beq_eq_true hn
    obtain ⟨x, r, rfl, h_12⟩ := mm_pi_e (show mm_pi st _ = some o from h)
    obtain ⟨hb1, h_13⟩ := mm_bif_e h_12
    have hlt := Nat.le_of_ble_eq_true hb1
    exact lv_istore_n hx hb hd rfl hv hlt (mm_s1_tr G ls _ (mm_I x)) (fun la' hv' => hk _ _ _ _ h_13 (List.forall_mem_cons.mp hst).2 (mm_s1_ok hls trivial) H locs la' hP hS hv')
  | lstore k =>
    obtain rfl : n = 2 := Nat.eq_of_beq_eq_true hn
    obtain ⟨x, r, rfl, h_14⟩ := mm_pj_e (show mm_pj st _ = some o from h)
    obtain ⟨hb1, h_15⟩ := mm_bif_e h_14
    have hlt := Nat.le_of_ble_eq_true hb1
    exact lv_lstore hx hb hd hv hlt (mm_s2_tr G ls _ (mm_J x)) (fun la' hv' => hk _ _ _ _ h_15 (List.forall_mem_cons.mp hst).2 (mm_s2_ok hls trivial) H locs la' hP hS hv')
  | lstore_n k =>
    obtain rfl : n = 1 := Nat.eq_of_beq_eq_true hn
    obtain ⟨x, r, rfl, h_16⟩ := mm_pj_e (show mm_pj st _ = some o from h)
    obtain ⟨hb1, h_17⟩ := mm_bif_e h_16
    have hlt := Nat.le_of_ble_eq_true hb1
    exact lv_lstore_n hx hb hd rfl hv hlt (mm_s2_tr G ls _ (mm_J x)) (fun la' hv' => hk _ _ _ _ h_17 (List.forall_mem_cons.mp hst).2 (mm_s2_ok hls trivial) H locs la' hP hS hv')
  | astore k =>
    obtain rfl : n = 2 := Nat.eq_of_beq_eq_true hn
    obtain ⟨t, a, r, rfl, h_18⟩ := mm_pr_e (show mm_pr st _ = some o from h)
    obtain ⟨hb1, h_19⟩ := mm_bif_e h_18
    have hlt := Nat.le_of_ble_eq_true hb1
    have hs := mm_s1_tr G ls (k : Nat) (mm_P t a)
    have hw := fun (la' : Array Slot) hv' => hk _ _ _ _ h_19 (List.forall_mem_cons.mp hst).2 (mm_s1_ok hls (List.forall_mem_cons.mp hst).1) H locs la' hP hS hv'
    simp only [List.map_cons]
    cases ht : Nat.beq t 20 with
    | true =>
      simp only [mm_tr, ht, cond_true] at hs ⊢
      exact lv_astore hx hb hd hv hlt hs hw
    | false =>
      simp only [mm_tr, ht, cond_false] at hs ⊢
      exact lv_astore hx hb hd hv hlt hs hw
  | astore_n k =>
    obtain rfl : n = 1 := Nat.eq_of_beq_eq_true hn
    obtain ⟨t, a, r, rfl, h_20⟩ := mm_pr_e (show mm_pr st _ = some o from h)
    obtain ⟨hb1, h_21⟩ := mm_bif_e h_20
    have hlt := Nat.le_of_ble_eq_true hb1
    have hs := mm_s1_tr G ls (k : Nat) (mm_P t a)
    have hw := fun (la' : Array Slot) hv' => hk _ _ _ _ h_21 (List.forall_mem_cons.mp hst).2 (mm_s1_ok hls (List.forall_mem_cons.mp hst).1) H locs la' hP hS hv'
    simp only [List.map_cons]
    cases ht : Nat.beq t 20 with
    | true =>
      simp only [mm_tr, ht, cond_true] at hs ⊢
      exact lv_astore_n hx hb hd rfl hv hlt hs hw
    | false =>
      simp only [mm_tr, ht, cond_false] at hs ⊢
      exact lv_astore_n hx hb hd rfl hv hlt hs hw
  | iinc k j =>
    obtain rfl : n = 3 := Nat.eq_of_beq_eq_true hn
    obtain ⟨x, hc, h_22⟩ := mm_oi_e (show mm_oi (mm_lk ls _) _ = some o from h)
    obtain ⟨hb1, h_23⟩ := mm_bif_e h_22
    have hlt := Nat.le_of_ble_eq_true hb1
    obtain ⟨q, hq⟩ := List.getElem?_of_mem (List.mem_map.mpr ⟨_, mm_lk_mem hc, rfl⟩ : mm_tl G (k, mm_I x) ∈ ls.map (mm_tl G))
    exact lv_iinc hx hb hd hv hq rfl hlt (mm_s1_tr G ls k (mm_I (x + Int32.ofInt j))) (fun la' hv' => hk _ _ _ _ h_23 hst (mm_s1_ok hls trivial) H locs la' hP hS hv')
  | iadd =>
    obtain rfl : n = 1 := Nat.eq_of_beq_eq_true hn
    obtain ⟨y, r, rfl, h_24⟩ := mm_pi_e (show mm_pi st _ = some o from h)
    obtain ⟨x, r, rfl, h_25⟩ := mm_pi_e h_24
    exact lv_iadd hx hb hd (hk _ _ _ _ h_25 (List.forall_mem_cons.mpr ⟨trivial, fun v hv => hst v (List.mem_cons_of_mem _ (List.mem_cons_of_mem _ hv))⟩) hls H locs la hP hS hv)
  | isub =>
    obtain rfl : n = 1 := Nat.eq_of_beq_eq_true hn
    obtain ⟨y, r, rfl, h_26⟩ := mm_pi_e (show mm_pi st _ = some o from h)
    obtain ⟨x, r, rfl, h_27⟩ := mm_pi_e h_26
    exact lv_isub hx hb hd (hk _ _ _ _ h_27 (List.forall_mem_cons.mpr ⟨trivial, fun v hv => hst v (List.mem_cons_of_mem _ (List.mem_cons_of_mem _ hv))⟩) hls H locs la hP hS hv)
  | imul =>
    obtain rfl : n = 1 := Nat.eq_of_beq_eq_true hn
    obtain ⟨y, r, rfl, h_28⟩ := mm_pi_e (show mm_pi st _ = some o from h)
    obtain ⟨x, r, rfl, h_29⟩ := mm_pi_e h_28
    exact lv_imul hx hb hd (hk _ _ _ _ h_29 (List.forall_mem_cons.mpr ⟨trivial, fun v hv => hst v (List.mem_cons_of_mem _ (List.mem_cons_of_mem _ hv))⟩) hls H locs la hP hS hv)
  | iand =>
    obtain rfl : n = 1 := Nat.eq_of_beq_eq_true hn
    obtain ⟨y, r, rfl, h_30⟩ := mm_pi_e (show mm_pi st _ = some o from h)
    obtain ⟨x, r, rfl, h_31⟩ := mm_pi_e h_30
    exact lv_iand hx hb hd (hk _ _ _ _ h_31 (List.forall_mem_cons.mpr ⟨trivial, fun v hv => hst v (List.mem_cons_of_mem _ (List.mem_cons_of_mem _ hv))⟩) hls H locs la hP hS hv)
  | ior =>
    obtain rfl : n = 1 := Nat.eq_of_beq_eq_true hn
    obtain ⟨y, r, rfl, h_32⟩ := mm_pi_e (show mm_pi st _ = some o from h)
    obtain ⟨x, r, rfl, h_33⟩ := mm_pi_e h_32
    exact lv_ior hx hb hd (hk _ _ _ _ h_33 (List.forall_mem_cons.mpr ⟨trivial, fun v hv => hst v (List.mem_cons_of_mem _ (List.mem_cons_of_mem _ hv))⟩) hls H locs la hP hS hv)
  | ixor =>
    obtain rfl : n = 1 := Nat.eq_of_beq_eq_true hn
    obtain ⟨y, r, rfl, h_34⟩ := mm_pi_e (show mm_pi st _ = some o from h)
    obtain ⟨x, r, rfl, h_35⟩ := mm_pi_e h_34
    exact lv_ixor hx hb hd (hk _ _ _ _ h_35 (List.forall_mem_cons.mpr ⟨trivial, fun v hv => hst v (List.mem_cons_of_mem _ (List.mem_cons_of_mem _ hv))⟩) hls H locs la hP hS hv)
  | ishl =>
    obtain rfl : n = 1 := Nat.eq_of_beq_eq_true hn
    obtain ⟨y, r, rfl, h_36⟩ := mm_pi_e (show mm_pi st _ = some o from h)
    obtain ⟨x, r, rfl, h_37⟩ := mm_pi_e h_36
    exact lv_ishl hx hb hd (hk _ _ _ _ h_37 (List.forall_mem_cons.mpr ⟨trivial, fun v hv => hst v (List.mem_cons_of_mem _ (List.mem_cons_of_mem _ hv))⟩) hls H locs la hP hS hv)
  | ishr =>
    obtain rfl : n = 1 := Nat.eq_of_beq_eq_true hn
    obtain ⟨y, r, rfl, h_38⟩ := mm_pi_e (show mm_pi st _ = some o from h)
    obtain ⟨x, r, rfl, h_39⟩ := mm_pi_e h_38
    exact lv_ishr hx hb hd (hk _ _ _ _ h_39 (List.forall_mem_cons.mpr ⟨trivial, fun v hv => hst v (List.mem_cons_of_mem _ (List.mem_cons_of_mem _ hv))⟩) hls H locs la hP hS hv)
  | idiv =>
    obtain rfl : n = 1 := Nat.eq_of_beq_eq_true hn
    obtain ⟨y, r, rfl, h_40⟩ := mm_pi_e (show mm_pi st _ = some o from h)
    obtain ⟨x, r, rfl, h_41⟩ := mm_pi_e h_40
    by_cases hy : y = 0
    · rw [if_pos hy] at h_41; cases h_41
    · rw [if_neg hy] at h_41
      exact lv_idiv hx hb hd hy (hk _ _ _ _ h_41 (List.forall_mem_cons.mpr ⟨trivial, fun v hv => hst v (List.mem_cons_of_mem _ (List.mem_cons_of_mem _ hv))⟩) hls H locs la hP hS hv)
  | irem =>
    obtain rfl : n = 1 := Nat.eq_of_beq_eq_true hn
    obtain ⟨y, r, rfl, h_42⟩ := mm_pi_e (show mm_pi st _ = some o from h)
    obtain ⟨x, r, rfl, h_43⟩ := mm_pi_e h_42
    by_cases hy : y = 0
    · rw [if_pos hy] at h_43; cases h_43
    · rw [if_neg hy] at h_43
      exact lv_irem hx hb hd hy (hk _ _ _ _ h_43 (List.forall_mem_cons.mpr ⟨trivial, fun v hv => hst v (List.mem_cons_of_mem _ (List.mem_cons_of_mem _ hv))⟩) hls H locs la hP hS hv)
  | iushr =>
    obtain rfl : n = 1 := Nat.eq_of_beq_eq_true hn
    obtain ⟨y, r, rfl, h_44⟩ := mm_pi_e (show mm_pi st _ = some o from h)
    obtain ⟨x, r, rfl, h_45⟩ := mm_pi_e h_44
    exact lv_iushr hx hb hd rfl (hk _ _ _ _ h_45 (List.forall_mem_cons.mpr ⟨trivial, fun v hv => hst v (List.mem_cons_of_mem _ (List.mem_cons_of_mem _ hv))⟩) hls H locs la hP hS hv)
  | ladd =>
    obtain rfl : n = 1 := Nat.eq_of_beq_eq_true hn
    obtain ⟨y, r, rfl, h_46⟩ := mm_pj_e (show mm_pj st _ = some o from h)
    obtain ⟨x, r, rfl, h_47⟩ := mm_pj_e h_46
    exact lv_ladd hx hb hd (hk _ _ _ _ h_47 (List.forall_mem_cons.mpr ⟨trivial, fun v hv => hst v (List.mem_cons_of_mem _ (List.mem_cons_of_mem _ hv))⟩) hls H locs la hP hS hv)
  | lsub =>
    obtain rfl : n = 1 := Nat.eq_of_beq_eq_true hn
    obtain ⟨y, r, rfl, h_48⟩ := mm_pj_e (show mm_pj st _ = some o from h)
    obtain ⟨x, r, rfl, h_49⟩ := mm_pj_e h_48
    exact lv_lsub hx hb hd (hk _ _ _ _ h_49 (List.forall_mem_cons.mpr ⟨trivial, fun v hv => hst v (List.mem_cons_of_mem _ (List.mem_cons_of_mem _ hv))⟩) hls H locs la hP hS hv)
  | land =>
    obtain rfl : n = 1 := Nat.eq_of_beq_eq_true hn
    obtain ⟨y, r, rfl, h_50⟩ := mm_pj_e (show mm_pj st _ = some o from h)
    obtain ⟨x, r, rfl, h_51⟩ := mm_pj_e h_50
    exact lv_land hx hb hd (hk _ _ _ _ h_51 (List.forall_mem_cons.mpr ⟨trivial, fun v hv => hst v (List.mem_cons_of_mem _ (List.mem_cons_of_mem _ hv))⟩) hls H locs la hP hS hv)
  | lor =>
    obtain rfl : n = 1 := Nat.eq_of_beq_eq_true hn
    obtain ⟨y, r, rfl, h_52⟩ := mm_pj_e (show mm_pj st _ = some o from h)
    obtain ⟨x, r, rfl, h_53⟩ := mm_pj_e h_52
    exact lv_lor hx hb hd (hk _ _ _ _ h_53 (List.forall_mem_cons.mpr ⟨trivial, fun v hv => hst v (List.mem_cons_of_mem _ (List.mem_cons_of_mem _ hv))⟩) hls H locs la hP hS hv)
  | lxor =>
    obtain rfl : n = 1 := Nat.eq_of_beq_eq_true hn
    obtain ⟨y, r, rfl, h_54⟩ := mm_pj_e (show mm_pj st _ = some o from h)
    obtain ⟨x, r, rfl, h_55⟩ := mm_pj_e h_54
    exact lv_lxor hx hb hd (hk _ _ _ _ h_55 (List.forall_mem_cons.mpr ⟨trivial, fun v hv => hst v (List.mem_cons_of_mem _ (List.mem_cons_of_mem _ hv))⟩) hls H locs la hP hS hv)
  | lshl =>
    obtain rfl : n = 1 := Nat.eq_of_beq_eq_true hn
    obtain ⟨y, r, rfl, h_56⟩ := mm_pi_e (show mm_pi st _ = some o from h)
    obtain ⟨x, r, rfl, h_57⟩ := mm_pj_e h_56
    exact lv_lshl hx hb hd rfl (hk _ _ _ _ h_57 (List.forall_mem_cons.mpr ⟨trivial, fun v hv => hst v (List.mem_cons_of_mem _ (List.mem_cons_of_mem _ hv))⟩) hls H locs la hP hS hv)
  | lshr =>
    obtain rfl : n = 1 := Nat.eq_of_beq_eq_true hn
    obtain ⟨y, r, rfl, h_58⟩ := mm_pi_e (show mm_pi st _ = some o from h)
    obtain ⟨x, r, rfl, h_59⟩ := mm_pj_e h_58
    exact lv_lshr hx hb hd rfl (hk _ _ _ _ h_59 (List.forall_mem_cons.mpr ⟨trivial, fun v hv => hst v (List.mem_cons_of_mem _ (List.mem_cons_of_mem _ hv))⟩) hls H locs la hP hS hv)
  | lushr =>
    obtain rfl : n = 1 := Nat.eq_of_beq_eq_true hn
    obtain ⟨y, r, rfl, h_60⟩ := mm_pi_e (show mm_pi st _ = some o from h)
    obtain ⟨x, r, rfl, h_61⟩ := mm_pj_e h_60
    exact lv_lushr hx hb hd rfl (hk _ _ _ _ h_61 (List.forall_mem_cons.mpr ⟨trivial, fun v hv => hst v (List.mem_cons_of_mem _ (List.mem_cons_of_mem _ hv))⟩) hls H locs la hP hS hv)
  | lcmp =>
    obtain rfl : n = 1 := Nat.eq_of_beq_eq_true hn
    obtain ⟨y, r, rfl, h_62⟩ := mm_pj_e (show mm_pj st _ = some o from h)
    obtain ⟨x, r, rfl, h_63⟩ := mm_pj_e h_62
    exact W.lcmp hx hb hd (hk _ _ _ _ h_63 (List.forall_mem_cons.mpr ⟨trivial, fun v hv => hst v (List.mem_cons_of_mem _ (List.mem_cons_of_mem _ hv))⟩) hls H locs la hP hS hv)
  | i2l =>
    obtain rfl : n = 1 := Nat.eq_of_beq_eq_true hn
    obtain ⟨y, r, rfl, h_64⟩ := mm_pi_e (show mm_pi st _ = some o from h)
    exact lv_i2l hx hb hd rfl (hk _ _ _ _ h_64 (List.forall_mem_cons.mpr ⟨trivial, (List.forall_mem_cons.mp hst).2⟩) hls H locs la hP hS hv)
  | l2i =>
    obtain rfl : n = 1 := Nat.eq_of_beq_eq_true hn
    obtain ⟨y, r, rfl, h_65⟩ := mm_pj_e (show mm_pj st _ = some o from h)
    exact lv_l2i hx hb hd rfl (hk _ _ _ _ h_65 (List.forall_mem_cons.mpr ⟨trivial, (List.forall_mem_cons.mp hst).2⟩) hls H locs la hP hS hv)
  | i2b =>
    obtain rfl : n = 1 := Nat.eq_of_beq_eq_true hn
    obtain ⟨y, r, rfl, h_66⟩ := mm_pi_e (show mm_pi st _ = some o from h)
    exact lv_i2b hx hb hd rfl (hk _ _ _ _ h_66 (List.forall_mem_cons.mpr ⟨trivial, (List.forall_mem_cons.mp hst).2⟩) hls H locs la hP hS hv)
  | i2s =>
    obtain rfl : n = 1 := Nat.eq_of_beq_eq_true hn
    obtain ⟨y, r, rfl, h_67⟩ := mm_pi_e (show mm_pi st _ = some o from h)
    exact lv_i2s hx hb hd rfl (hk _ _ _ _ h_67 (List.forall_mem_cons.mpr ⟨trivial, (List.forall_mem_cons.mp hst).2⟩) hls H locs la hP hS hv)
  | dup =>
    obtain rfl : n = 1 := Nat.eq_of_beq_eq_true hn
    rcases st with _ | ⟨v, r⟩
    · cases h
    · obtain ⟨h1, h_68⟩ := mm_bif_e h
      have h2 : mm_cat v = 1 := by simpa using h1
      exact lv_dup hx hb hd (by rw [mm_cat_tr]; exact h2) (hk _ _ _ _ h_68 (List.forall_mem_cons.mpr ⟨(List.forall_mem_cons.mp hst).1, hst⟩) hls H locs la hP hS hv)
  | dup2 =>
    obtain rfl : n = 1 := Nat.eq_of_beq_eq_true hn
    rcases st with _ | ⟨v, _ | ⟨u, r⟩⟩
    · cases h
    · cases h
    · obtain ⟨h1, h_69⟩ := mm_bif_e h
      rw [Bool.and_eq_true] at h1
      have h2 : mm_cat v = 1 := by simpa using h1.1
      have h3 : mm_cat u = 1 := by simpa using h1.2
      have hv1 := (List.forall_mem_cons.mp hst).1
      have hu1 := (List.forall_mem_cons.mp (List.forall_mem_cons.mp hst).2).1
      exact lv_dup2_11 hx hb hd (by rw [mm_cat_tr]; exact h2) (by rw [mm_cat_tr]; exact h3) (hk _ _ _ _ h_69 (List.forall_mem_cons.mpr ⟨hv1, List.forall_mem_cons.mpr ⟨hu1, hst⟩⟩) hls H locs la hP hS hv)
  | pop =>
    obtain rfl : n = 1 := Nat.eq_of_beq_eq_true hn
    rcases st with _ | ⟨v, r⟩
    · cases h
    · obtain ⟨h1, h_70⟩ := mm_bif_e h
      have h2 : mm_cat v = 1 := by simpa using h1
      exact lv_pop hx hb hd (by rw [mm_cat_tr]; exact h2) (hk _ _ _ _ h_70 (List.forall_mem_cons.mp hst).2 hls H locs la hP hS hv)
  | pop2 =>
    obtain rfl : n = 1 := Nat.eq_of_beq_eq_true hn
    rcases st with _ | ⟨v, r⟩
    · cases h
    · obtain ⟨h1, h_71⟩ := mm_bif_e h
      have h2 : mm_cat v = 2 := by simpa using h1
      exact lv_pop2_2 hx hb hd (by rw [mm_cat_tr]; exact h2) (hk _ _ _ _ h_71 (List.forall_mem_cons.mp hst).2 hls H locs la hP hS hv)
  | goto off =>
    obtain rfl : n = 3 := Nat.eq_of_beq_eq_true hn
    obtain ⟨t, ht, h_72⟩ := mm_jp_e (show mm_jp pc off _ = some o from h)
    exact lv_goto hx hb hd ht (hk _ _ _ _ h_72 hst hls H locs la hP hS hv)
  | ifCond cn off =>
    obtain rfl : n = 3 := Nat.eq_of_beq_eq_true hn
    obtain ⟨x, r, rfl, h_73⟩ := mm_pi_e (show mm_pi st _ = some o from h)
    obtain ⟨t, ht, h_74⟩ := mm_jp_e h_73
    have hst' := (List.forall_mem_cons.mp hst).2
    rcases mm_cmp_e h_74 with ⟨h_75, hc⟩ | ⟨h_75, hc⟩
    · have hw := hk _ _ _ _ h_75 hst' hls H locs la hP hS hv
      cases cn with
      | eq => exact lv_if_eq hx hb hd ht (fun _ => hw) (fun q => absurd hc q)
      | ne => exact lv_if_ne hx hb hd ht (fun _ => hw) (fun q => absurd q hc)
      | lt => exact lv_if_lt hx hb hd ht (fun _ => hw) (fun q => absurd hc q)
      | ge => exact lv_if_ge hx hb hd ht (fun _ => hw) (fun q => absurd hc q)
      | gt => exact lv_if_gt hx hb hd ht (fun _ => hw) (fun q => absurd hc q)
      | le => exact lv_if_le hx hb hd ht (fun _ => hw) (fun q => absurd hc q)
    · have hw := hk _ _ _ _ h_75 hst' hls H locs la hP hS hv
      cases cn with
      | eq => exact lv_if_eq hx hb hd ht (fun q => absurd q hc) (fun _ => hw)
      | ne => exact lv_if_ne hx hb hd ht (fun q => absurd q hc) (fun _ => hw)
      | lt => exact lv_if_lt hx hb hd ht (fun q => absurd q hc) (fun _ => hw)
      | ge => exact lv_if_ge hx hb hd ht (fun q => absurd q hc) (fun _ => hw)
      | gt => exact lv_if_gt hx hb hd ht (fun q => absurd q hc) (fun _ => hw)
      | le => exact lv_if_le hx hb hd ht (fun q => absurd q hc) (fun _ => hw)
  | if_icmp cn off =>
    obtain rfl : n = 3 := Nat.eq_of_beq_eq_true hn
    obtain ⟨y, r, rfl, h_76⟩ := mm_pi_e (show mm_pi st _ = some o from h)
    obtain ⟨x, r, rfl, h_77⟩ := mm_pi_e h_76
    obtain ⟨t, ht, h_78⟩ := mm_jp_e h_77
    have hst' := (List.forall_mem_cons.mp (List.forall_mem_cons.mp hst).2).2
    rcases mm_cmp_e h_78 with ⟨h_79, hc⟩ | ⟨h_79, hc⟩
    · have hw := hk _ _ _ _ h_79 hst' hls H locs la hP hS hv
      cases cn with
      | eq => exact lv_icmp_eq hx hb hd ht (fun _ => hw) (fun q => absurd hc q)
      | ne => exact lv_icmp_ne hx hb hd ht (fun _ => hw) (fun q => absurd q hc)
      | lt => exact lv_icmp_lt hx hb hd ht (fun _ => hw) (fun q => absurd hc q)
      | ge => exact lv_icmp_ge hx hb hd ht (fun _ => hw) (fun q => absurd hc q)
      | gt => exact lv_icmp_gt hx hb hd ht (fun _ => hw) (fun q => absurd hc q)
      | le => exact lv_icmp_le hx hb hd ht (fun _ => hw) (fun q => absurd hc q)
    · have hw := hk _ _ _ _ h_79 hst' hls H locs la hP hS hv
      cases cn with
      | eq => exact lv_icmp_eq hx hb hd ht (fun q => absurd q hc) (fun _ => hw)
      | ne => exact lv_icmp_ne hx hb hd ht (fun q => absurd q hc) (fun _ => hw)
      | lt => exact lv_icmp_lt hx hb hd ht (fun q => absurd q hc) (fun _ => hw)
      | ge => exact lv_icmp_ge hx hb hd ht (fun q => absurd q hc) (fun _ => hw)
      | gt => exact lv_icmp_gt hx hb hd ht (fun q => absurd q hc) (fun _ => hw)
      | le => exact lv_icmp_le hx hb hd ht (fun q => absurd q hc) (fun _ => hw)
  | tableswitch d lo hi offs =>
    obtain ⟨x, r, rfl, g⟩ := mm_pi_e (show mm_pi st _ = some o from h)
    obtain ⟨h1, g⟩ := mm_bif_e g
    have hlen : lo + offs.toList.length = hi + 1 := by simpa using h1
    have hst' := (List.forall_mem_cons.mp hst).2
    rcases mm_ts_e g with ⟨k, off, t, g1, g2, g3, g4⟩ | ⟨g1, t, g3, g4⟩
    · have hw := hk _ _ _ _ g4 hst' hls H locs la hP hS hv
      have hkl : k < offs.toList.length := (List.getElem?_eq_some_iff.mp g1).1
      refine lv_tableIn hx hb hd (by omega) (by omega) (off := off) ?_ g3 hw
      rw [show (x.toInt - lo).toNat = k by omega, ← Array.getElem?_toList]
      exact g1
    · have hw := hk _ _ _ _ g4 hst' hls H locs la hP hS hv
      exact lv_tableOut hx hb hd (by omega) g3 hw
  | lookupswitch d ps =>
    obtain ⟨x, r, rfl, g⟩ := mm_pi_e (show mm_pi st _ = some o from h)
    obtain ⟨h1, g⟩ := mm_bif_e g
    have hst' := (List.forall_mem_cons.mp hst).2
    obtain ⟨t, g3, g4⟩   := mm_lw_e g
    have hw := hk _ _ _ _ g4 hst' hls H locs la hP hS hv
    exact lv_lookup hx hb hd h1 rfl g3 hw
  | getfield k =>
    obtain rfl : n = 3 := Nat.eq_of_beq_eq_true hn
    cases hc : fld k with
    | none => simp only [mm_step, hc] at h; cases h
    | some d =>
      simp only [mm_step, hc] at h
      obtain ⟨t, a, r, rfl, h_80⟩ := mm_pr_e h
      obtain ⟨hb1, h_81⟩ := mm_bif_e h_80
      have htd : t = d.1 := Nat.eq_of_beq_eq_true hb1
      have ha := (List.forall_mem_cons.mp hst).1
      have hst' := (List.forall_mem_cons.mp hst).2
      obtain ⟨h3, h1, h2⟩ := CG k d hc
      obtain ⟨ha1, ha2, ha3, ha4⟩ : t ≠ 20 ∧ t ≠ 14 ∧ a < lyN ∧ lyT a = t := by
        rcases ha with q | q | q
        · exact absurd q.1 (htd ▸ h3.1)
        · exact absurd q.1 (htd ▸ h3.2)
        · exact q
      subst htd
      have hok : mm_ok lyN lyT nR nS (mm_fv d.2 a z) := by
        unfold mm_fv
        split
        · trivial
        · next h9 => exact h1 h9 a ha3 ha4
        · trivial
      have hw := h2 o pc la (r.map (mm_tr G)) H locs a z hd ha3 ha4 hP hS (hk _ _ _ _ h_81 (List.forall_mem_cons.mpr ⟨hok, hst'⟩) hls H locs la hP hS hv)
      have e0 : mm_tr G (mm_P d.1 a) = .ref (G.1 a) := by
        simp only [mm_tr]
        cases hq : Nat.beq d.1 20 with
        | true => exact absurd (Nat.eq_of_beq_eq_true hq) ha1
        | false => rfl
      simp only [List.map_cons, e0]
      exact hw
  | putfield k =>
    obtain rfl : n = 3 := Nat.eq_of_beq_eq_true hn
    cases hc : fld k with
    | none => simp only [mm_step, hc] at h; cases h
    | some d =>
      simp only [mm_step, hc] at h
      have key : ∀ (v : mm_V) (t a : Nat) (r : List mm_V) (z' : mm_S), st = v :: mm_P t a :: r → t = d.1 → ((d.2.2.1 = 0 ∧ ∃ x, v = mm_I x ∧ z' = (mm_ui z.1 a d.2.1 x, z.2)) ∨ (d.2.2.1 = 1 ∧ ∃ x, v = mm_J x ∧ z' = (z.1, mm_ul z.2 a d.2.1 x)) ∨ (d.2.2.1 = 2 ∧ ∃ x : Int32, (x = 0 ∨ x = 1) ∧ v = mm_I x ∧ z' = (mm_ui z.1 a d.2.1 x, z.2))) → kk (pc + 3) ls r z' = some o → mm_w p l e R s m args below meth c G A lyT lyF lenA sn lyN o H locs (F0 m pc la (st.map (mm_tr G))) := by
        intro v t a r z' hs htd hz hkk
        subst hs
        have ha := (List.forall_mem_cons.mp (List.forall_mem_cons.mp hst).2).1
        have hst' := (List.forall_mem_cons.mp (List.forall_mem_cons.mp hst).2).2
        have h3 := (CG k d hc).1
        obtain ⟨ha1, ha2, ha3, ha4⟩ : t ≠ 20 ∧ t ≠ 14 ∧ a < lyN ∧ lyT a = t := by
          rcases ha with q | q | q
          · exact absurd q.1 (htd ▸ h3.1)
          · exact absurd q.1 (htd ▸ h3.2)
          · exact q
        subst htd
        have e0 : mm_tr G (mm_P d.1 a) = .ref (G.1 a) := by
          simp only [mm_tr]
          cases hq : Nat.beq d.1 20 with
          | true => exact absurd (Nat.eq_of_beq_eq_true hq) ha1
          | false => rfl
        simp only [List.map_cons, e0]
        exact CP k d hc o pc la (r.map (mm_tr G)) H locs a z z' v hd ha3 ha4 hz hP hS (fun H1 locs1 hP1 hS1 => hk _ _ _ _ hkk hst' hls H1 locs1 la hP1 hS1 hv)
      split at h
      · next hk0 =>
        obtain ⟨x, r, hs, h_82⟩ := mm_pi_e h
        obtain ⟨t, a, r, rfl, h_83⟩ := mm_pr_e h_82
        obtain ⟨hb1, h_84⟩ := mm_bif_e h_83
        exact key _ t a r _ hs (Nat.eq_of_beq_eq_true hb1) (Or.inl ⟨hk0, x, rfl, rfl⟩) h_84
      · next hk0 =>
        obtain ⟨x, r, hs, h_85⟩ := mm_pj_e h
        obtain ⟨t, a, r, rfl, h_86⟩ := mm_pr_e h_85
        obtain ⟨hb1, h_87⟩ := mm_bif_e h_86
        exact key _ t a r _ hs (Nat.eq_of_beq_eq_true hb1) (Or.inr (Or.inl ⟨hk0, x, rfl, rfl⟩)) h_87
      · next hk0 =>
        obtain ⟨x, r, hs, h_88⟩ := mm_pi_e h
        obtain ⟨t, a, r, rfl, h_89⟩ := mm_pr_e h_88
        obtain ⟨hb1, h_90⟩ := mm_bif_e h_89
        by_cases hx0 : x = 0
        · rw [if_pos hx0] at h_90
          exact key _ t a r _ hs (Nat.eq_of_beq_eq_true hb1) (Or.inr (Or.inr ⟨hk0, 0, Or.inl rfl, by rw [hx0], rfl⟩)) h_90
        · rw [if_neg hx0] at h_90
          by_cases hx1 : x = 1
          · rw [if_pos hx1] at h_90
            exact key _ t a r _ hs (Nat.eq_of_beq_eq_true hb1) (Or.inr (Or.inr ⟨hk0, 1, Or.inr rfl, by rw [hx1], rfl⟩)) h_90
          · rw [if_neg hx1] at h_90; cases h_90
      · cases h
  | arraylength =>
    obtain rfl : n = 1 := Nat.eq_of_beq_eq_true hn
    obtain ⟨t, a, r, rfl, h_91⟩ := mm_pr_e (show mm_pr st _ = some o from h)
    obtain ⟨hb1, h_92⟩ := mm_bif_e h_91
    rw [Bool.and_eq_true] at hb1
    have h10 := Nat.le_of_ble_eq_true hb1.1
    have h14 := Nat.le_of_ble_eq_true hb1.2
    have hw := hk _ _ _ _ h_92 (List.forall_mem_cons.mpr ⟨trivial, (List.forall_mem_cons.mp hst).2⟩) hls H locs la hP hS hv
    have e0 : mm_tr G (mm_P t a) = .ref (G.1 a) := by
      simp only [mm_tr]
      cases hq : Nat.beq t 20 with
      | true => exact absurd (Nat.eq_of_beq_eq_true hq) (by omega)
      | false => rfl
    simp only [List.map_cons, e0]
    rcases (List.forall_mem_cons.mp hst).1 with q | q | q
    · exact absurd q.1 (by show ¬ t = 20; omega)
    · exact va_tlen hx hb (hro a q.2.1 q.2.2) hS rfl hd hw
    · obtain ⟨q1, q2, q3, q4⟩ := q
      have q5 : lyT a = t := q4
      have hc := mm_ws_get (G := G) (lyT := lyT) (lyF := lyF) (lenA := lenA) (sn := sn) z q3
      have hcs : lyT a = 10 ∨ lyT a = 11 ∨ lyT a = 12 ∨ lyT a = 13 := by
        have := q2
        show lyT a = 10 ∨ _
        have h9 : t ≠ 14 := q2
        omega
      rcases hcs with e | e | e | e
      · exact va_alen hx hb hK hP a 0 (x := (lenA a, .inl (z.1 a))) (by rw [hc]; simp [mm_en, e]) rfl rfl hd hw
      · exact va_alen hx hb hK hP a 1 (x := (lenA a, .inr (.inl (z.2 a)))) (by rw [hc]; simp [mm_en, e]) rfl rfl hd hw
      · exact va_alen hx hb hK hP a 2 (x := (lenA a, .inl (z.1 a))) (by rw [hc]; simp [mm_en, e]) rfl rfl hd hw
      · exact va_alen hx hb hK hP a 3 (x := (lenA a, .inr (.inr (.inr (.inr (fun j => some (G.2.1 (sn a j)))))))) (by rw [hc]; simp [mm_en, e]) rfl rfl hd hw
  | iaload =>
    obtain rfl : n = 1 := Nat.eq_of_beq_eq_true hn
    obtain ⟨i, r, rfl, h_93⟩ := mm_pi_e (show mm_pi st _ = some o from h)
    obtain ⟨t, a, r, rfl, h_94⟩ := mm_pr_e h_93
    have ha := (List.forall_mem_cons.mp (List.forall_mem_cons.mp hst).2).1
    have hst' := (List.forall_mem_cons.mp (List.forall_mem_cons.mp hst).2).2
    by_cases hin : i < 0 ∨ lenA a ≤ i.toNatClampNeg
    · rw [if_pos hin] at h_94; cases h_94
    rw [if_neg hin] at h_94
    cases h10 : Nat.beq t 10 with
    | true =>
      rw [h10] at h_94
      obtain rfl := Nat.eq_of_beq_eq_true h10
      obtain ⟨ha1, ha2⟩ : a < lyN ∧ lyT a = 10 := by
        rcases ha with q | q | q
        · exact absurd q.1 (by simp)
        · exact absurd q.1 (by simp)
        · exact ⟨q.2.2.1, q.2.2.2⟩
      exact va_iald hx hb hK hP a 0 (by rw [mm_ws_get z ha1]; simp [mm_en, ha2]) rfl hin hd (hk _ _ _ _ h_94 (List.forall_mem_cons.mpr ⟨trivial, hst'⟩) hls H locs la hP hS hv)
    | false =>
      rw [h10] at h_94
      obtain ⟨h14, h_95⟩ := mm_bif_e h_94
      obtain rfl := Nat.eq_of_beq_eq_true h14
      rcases ha with q | q | q
      · exact absurd q.1 (by simp)
      · exact va_ti hx hb (hro a q.2.1 q.2.2) hS hin rfl hd (hk _ _ _ _ h_95 (List.forall_mem_cons.mpr ⟨trivial, hst'⟩) hls H locs la hP hS hv)
      · exact absurd rfl q.2.1
  | laload =>
    obtain rfl : n = 1 := Nat.eq_of_beq_eq_true hn
    obtain ⟨i, r, rfl, h_96⟩ := mm_pi_e (show mm_pi st _ = some o from h)
    obtain ⟨t, a, r, rfl, h_97⟩ := mm_pr_e h_96
    have ha := (List.forall_mem_cons.mp (List.forall_mem_cons.mp hst).2).1
    have hst' := (List.forall_mem_cons.mp (List.forall_mem_cons.mp hst).2).2
    by_cases hin : i < 0 ∨ lenA a ≤ i.toNatClampNeg
    · rw [if_pos hin] at h_97; cases h_97
    rw [if_neg hin] at h_97
    obtain ⟨h10, h_98⟩ := mm_bif_e h_97
    obtain rfl := Nat.eq_of_beq_eq_true h10
    obtain ⟨ha1, ha2⟩ : a < lyN ∧ lyT a = 11 := by
      rcases ha with q | q | q
      · exact absurd q.1 (by simp)
      · exact absurd q.1 (by simp)
      · exact ⟨q.2.2.1, q.2.2.2⟩
    exact va_lald hx hb hK hP a 1 (by rw [mm_ws_get z ha1]; simp [mm_en, ha2]) rfl hin hd (hk _ _ _ _ h_98 (List.forall_mem_cons.mpr ⟨trivial, hst'⟩) hls H locs la hP hS hv)
  | baload =>
    obtain rfl : n = 1 := Nat.eq_of_beq_eq_true hn
    obtain ⟨i, r, rfl, h_99⟩ := mm_pi_e (show mm_pi st _ = some o from h)
    obtain ⟨t, a, r, rfl, h_100⟩ := mm_pr_e h_99
    have ha := (List.forall_mem_cons.mp (List.forall_mem_cons.mp hst).2).1
    have hst' := (List.forall_mem_cons.mp (List.forall_mem_cons.mp hst).2).2
    by_cases hin : i < 0 ∨ lenA a ≤ i.toNatClampNeg
    · rw [if_pos hin] at h_100; cases h_100
    rw [if_neg hin] at h_100
    obtain ⟨h10, h_101⟩ := mm_bif_e h_100
    obtain rfl := Nat.eq_of_beq_eq_true h10
    obtain ⟨ha1, ha2⟩ : a < lyN ∧ lyT a = 12 := by
      rcases ha with q | q | q
      · exact absurd q.1 (by simp)
      · exact absurd q.1 (by simp)
      · exact ⟨q.2.2.1, q.2.2.2⟩
    exact va_zald hx hb hK hP a 2 (by rw [mm_ws_get z ha1]; simp [mm_en, ha2]) rfl hin hd (hk _ _ _ _ h_101 (List.forall_mem_cons.mpr ⟨trivial, hst'⟩) hls H locs la hP hS hv)
  | aaload =>
    obtain rfl : n = 1 := Nat.eq_of_beq_eq_true hn
    obtain ⟨i, r, rfl, h_102⟩ := mm_pi_e (show mm_pi st _ = some o from h)
    obtain ⟨t, a, r, rfl, h_103⟩ := mm_pr_e h_102
    have ha := (List.forall_mem_cons.mp (List.forall_mem_cons.mp hst).2).1
    have hst' := (List.forall_mem_cons.mp (List.forall_mem_cons.mp hst).2).2
    by_cases hin : i < 0 ∨ lenA a ≤ i.toNatClampNeg
    · rw [if_pos hin] at h_103; cases h_103
    rw [if_neg hin] at h_103
    obtain ⟨h10, h_104⟩ := mm_bif_e h_103
    obtain rfl := Nat.eq_of_beq_eq_true h10
    obtain ⟨ha1, ha2⟩ : a < lyN ∧ lyT a = 13 := by
      rcases ha with q | q | q
      · exact absurd q.1 (by simp)
      · exact absurd q.1 (by simp)
      · exact ⟨q.2.2.1, q.2.2.2⟩
    exact va_aldq (f := fun j => some (G.2.1 (sn a j))) hx hb hK hP a 3 (by rw [mm_ws_get z ha1]; simp [mm_en, ha2]) rfl hin hd (hk _ _ _ _ h_104 (List.forall_mem_cons.mpr ⟨Or.inl ⟨rfl, hsn a _ ha1 ha2 (by omega)⟩, hst'⟩) hls H locs la hP hS hv)
  | iastore =>
    obtain rfl : n = 1 := Nat.eq_of_beq_eq_true hn
    obtain ⟨x, r, rfl, h_105⟩ := mm_pi_e (show mm_pi st _ = some o from h)
    obtain ⟨i, r, rfl, h_106⟩ := mm_pi_e h_105
    obtain ⟨t, a, r, rfl, h_107⟩ := mm_pr_e h_106
    have ha := (List.forall_mem_cons.mp (List.forall_mem_cons.mp (List.forall_mem_cons.mp hst).2).2).1
    have hst' := (List.forall_mem_cons.mp (List.forall_mem_cons.mp (List.forall_mem_cons.mp hst).2).2).2
    by_cases hin : i < 0 ∨ lenA a ≤ i.toNatClampNeg
    · rw [if_pos hin] at h_107; cases h_107
    rw [if_neg hin] at h_107
    obtain ⟨h10, h_108⟩ := mm_bif_e h_107
    obtain rfl := Nat.eq_of_beq_eq_true h10
    obtain ⟨ha1, ha2⟩ : a < lyN ∧ lyT a = 10 := by
      rcases ha with q | q | q
      · exact absurd q.1 (by simp)
      · exact absurd q.1 (by simp)
      · exact ⟨q.2.2.1, q.2.2.2⟩
    have hD := mm_wsD (lyT := lyT) (lyF := lyF) (lenA := lenA) (sn := sn) z hinj hA
    refine va_iast (f := z.1 a) hx hb hK hP hD hS a 0 (by rw [mm_ws_get z ha1]; simp [mm_en, ha2]) rfl hin hd (fun H1 locs1 hP1 hD1 hS1 => ?_)
    rw [mm_ws_set z (mm_ui z.1 a i.toNatClampNeg x, z.2) ha1 (by simp [mm_en, ha2, mm_ui]) (fun j hj => mm_en_i z a _ j x hj)] at hP1
    exact hk _ _ _ _ h_108 hst' hls H1 locs1 la hP1 hS1 hv
  | lastore =>
    obtain rfl : n = 1 := Nat.eq_of_beq_eq_true hn
    obtain ⟨x, r, rfl, h_109⟩ := mm_pj_e (show mm_pj st _ = some o from h)
    obtain ⟨i, r, rfl, h_110⟩ := mm_pi_e h_109
    obtain ⟨t, a, r, rfl, h_111⟩ := mm_pr_e h_110
    have ha := (List.forall_mem_cons.mp (List.forall_mem_cons.mp (List.forall_mem_cons.mp hst).2).2).1
    have hst' := (List.forall_mem_cons.mp (List.forall_mem_cons.mp (List.forall_mem_cons.mp hst).2).2).2
    by_cases hin : i < 0 ∨ lenA a ≤ i.toNatClampNeg
    · rw [if_pos hin] at h_111; cases h_111
    rw [if_neg hin] at h_111
    obtain ⟨h10, h_112⟩ := mm_bif_e h_111
    obtain rfl := Nat.eq_of_beq_eq_true h10
    obtain ⟨ha1, ha2⟩ : a < lyN ∧ lyT a = 11 := by
      rcases ha with q | q | q
      · exact absurd q.1 (by simp)
      · exact absurd q.1 (by simp)
      · exact ⟨q.2.2.1, q.2.2.2⟩
    have hD := mm_wsD (lyT := lyT) (lyF := lyF) (lenA := lenA) (sn := sn) z hinj hA
    refine va_last (f := z.2 a) hx hb hK hP hD hS a 1 (by rw [mm_ws_get z ha1]; simp [mm_en, ha2]) rfl hin hd (fun H1 locs1 hP1 hD1 hS1 => ?_)
    rw [mm_ws_set z (z.1, mm_ul z.2 a i.toNatClampNeg x) ha1 (by simp [mm_en, ha2, mm_ul]) (fun j hj => mm_en_j z a _ j x hj)] at hP1
    exact hk _ _ _ _ h_112 hst' hls H1 locs1 la hP1 hS1 hv
  | bastore =>
    obtain rfl : n = 1 := Nat.eq_of_beq_eq_true hn
    obtain ⟨x, r, rfl, h_113⟩ := mm_pi_e (show mm_pi st _ = some o from h)
    obtain ⟨i, r, rfl, h_114⟩ := mm_pi_e h_113
    obtain ⟨t, a, r, rfl, h_115⟩ := mm_pr_e h_114
    have ha := (List.forall_mem_cons.mp (List.forall_mem_cons.mp (List.forall_mem_cons.mp hst).2).2).1
    have hst' := (List.forall_mem_cons.mp (List.forall_mem_cons.mp (List.forall_mem_cons.mp hst).2).2).2
    by_cases hin : i < 0 ∨ lenA a ≤ i.toNatClampNeg
    · rw [if_pos hin] at h_115; cases h_115
    rw [if_neg hin] at h_115
    obtain ⟨h10, h_116⟩ := mm_bif_e h_115
    obtain rfl := Nat.eq_of_beq_eq_true h10
    obtain ⟨ha1, ha2⟩ : a < lyN ∧ lyT a = 12 := by
      rcases ha with q | q | q
      · exact absurd q.1 (by simp)
      · exact absurd q.1 (by simp)
      · exact ⟨q.2.2.1, q.2.2.2⟩
    have hD := mm_wsD (lyT := lyT) (lyF := lyF) (lenA := lenA) (sn := sn) z hinj hA
    have key : ∀ y : Int32, (y = 0 ∨ y = 1) → x = y → kk (pc + 1) ls r (mm_ui z.1 a i.toNatClampNeg y, z.2) = some o → mm_w p l e R s m args below meth c G A lyT lyF lenA sn lyN o H locs (F0 m pc la ((mm_I x :: mm_I i :: mm_P 12 a :: r).map (mm_tr G))) := by
      intro y hy hxy hkk
      subst hxy
      have hn : vp_nar .boolean x = x := by rcases hy with rfl | rfl <;> rfl
      refine va_zast (f := z.1 a) hx hb hK hP hD hS a 2 (by rw [mm_ws_get z ha1]; simp [mm_en, ha2]) rfl hin hd (fun H1 locs1 hP1 hD1 hS1 => ?_)
      rw [hn, mm_ws_set z (mm_ui z.1 a i.toNatClampNeg x, z.2) ha1 (by simp [mm_en, ha2, mm_ui]) (fun j hj => mm_en_i z a _ j x hj)] at hP1
      exact hk _ _ _ _ hkk hst' hls H1 locs1 la hP1 hS1 hv
    by_cases hx0 : x = 0
    · rw [if_pos hx0] at h_115
      exact key 0 (Or.inl rfl) hx0 h_115
    · rw [if_neg hx0] at h_115
      by_cases hx1 : x = 1
      · rw [if_pos hx1] at h_115
        exact key 1 (Or.inr rfl) hx1 h_115
      · rw [if_neg hx1] at h_115; cases h_115
  | invokevirtual k =>
    obtain rfl : n = 3 := Nat.eq_of_beq_eq_true hn
    obtain ⟨as, rest, rfl, h1, h2, h_117⟩ := mm_cl_e (show mm_cl _ _ st z _ = some o from h)
    have ho := List.forall_mem_append.mp hst
    have := CV k as z _ o h_117 h1 (fun v hv => ho.1 v (List.mem_reverse.mpr hv)) pc la (rest.map (mm_tr G)) H locs hd hv.1 (by rw [List.map_map]; exact Nat.le_trans (Nat.le_of_eq (congrArg List.sum (List.map_congr_left (fun v _ => mm_cat_tr G v)))) h2) hP hS (fun r z' H1 locs1 hK1 hr hP1 hS1 => by
      have hw := hk _ _ _ _ hK1 (List.forall_mem_append.mpr ⟨fun v hv => hr v (by simpa using hv), ho.2⟩) hls H1 locs1 la hP1 hS1 hv
      rw [List.map_append] at hw
      exact hw)
    rw [List.map_append, List.map_reverse]
    exact this
  | invokestatic k =>
    obtain rfl : n = 3 := Nat.eq_of_beq_eq_true hn
    obtain ⟨as, rest, rfl, h1, h2, h_118⟩ := mm_cl_e (show mm_cl _ _ st z _ = some o from h)
    have ho := List.forall_mem_append.mp hst
    have := CS k as z _ o h_118 h1 (fun v hv => ho.1 v (List.mem_reverse.mpr hv)) pc la (rest.map (mm_tr G)) H locs hd hv.1 (by rw [List.map_map]; exact Nat.le_trans (Nat.le_of_eq (congrArg List.sum (List.map_congr_left (fun v _ => mm_cat_tr G v)))) h2) hP hS (fun r z' H1 locs1 hK1 hr hP1 hS1 => by
      have hw := hk _ _ _ _ hK1 (List.forall_mem_append.mpr ⟨fun v hv => hr v (by simpa using hv), ho.2⟩) hls H1 locs1 la hP1 hS1 hv
      rw [List.map_append] at hw
      exact hw)
    rw [List.map_append, List.map_reverse]
    exact this
  | ireturn =>
    obtain rfl : n = 1 := Nat.eq_of_beq_eq_true hn
    obtain ⟨x, r, rfl, h_119⟩ := mm_pi_e (show mm_pi st _ = some o from h)
    rcases r with _ | ⟨v, r⟩
    · have h_119 : mm_rt rt x z = some o := h_119
      unfold mm_rt at h_119
      split at h_119
      · obtain rfl := Option.some.inj h_119
        exact W.iret hx hb (C1.1 rfl) (fun t ht hW => ⟨⟨x, (), rfl, rfl, by show mm_H G lyT lyF lenA sn lyN z t.heap; rw [ht]; exact hP⟩, hS.F ht⟩) hS.2.2 hd
      · have C1 : meth.sig.returnType = some .boolean := C1.2.1 rfl
        by_cases hx0 : x = 0
        · rw [if_pos hx0] at h_119
          obtain rfl := Option.some.inj h_119
          subst hx0
          exact W.zret hx hb C1 rfl (fun t ht hW => ⟨⟨0, (), rfl, rfl, by show mm_H G lyT lyF lenA sn lyN z t.heap; rw [ht]; exact hP⟩, hS.F ht⟩) hS.2.2 hd
        · rw [if_neg hx0] at h_119
          by_cases hx1 : x = 1
          · rw [if_pos hx1] at h_119
            obtain rfl := Option.some.inj h_119
            subst hx1
            exact W.zret hx hb C1 rfl (fun t ht hW => ⟨⟨1, (), rfl, rfl, by show mm_H G lyT lyF lenA sn lyN z t.heap; rw [ht]; exact hP⟩, hS.F ht⟩) hS.2.2 hd
          · rw [if_neg hx1] at h_119; cases h_119
      · cases h_119
    · cases h_119
  | lreturn =>
    obtain rfl : n = 1 := Nat.eq_of_beq_eq_true hn
    obtain ⟨x, r, rfl, h_120⟩ := mm_pj_e (show mm_pj st _ = some o from h)
    rcases r with _ | ⟨v, r⟩
    · obtain ⟨hrt, h_121⟩ := mm_bif_e h_120
      obtain rfl := Option.some.inj h_121
      exact W.lret hx hb (C1.2.2.1 (Nat.eq_of_beq_eq_true hrt)) (fun t ht hW => ⟨⟨x, (), rfl, rfl, by show mm_H G lyT lyF lenA sn lyN z t.heap; rw [ht]; exact hP⟩, hS.F ht⟩) hS.2.2 hd
    · cases h_120
  | return_ =>
    obtain rfl : n = 1 := Nat.eq_of_beq_eq_true hn
    rcases st with _ | ⟨v, r⟩
    · obtain ⟨hrt, h_122⟩ := mm_bif_e h
      obtain rfl := Option.some.inj h_122
      exact W.vret hx hb (C1.2.2.2 (Nat.eq_of_beq_eq_true hrt)) (fun t ht hW => ⟨⟨(), rfl, trivial, by show mm_H G lyT lyF lenA sn lyN z t.heap; rw [ht]; exact hP⟩, hS.F ht⟩) hS.2.2 hd
    · cases h
  | _ => exact absurd (show (none : Option mm_R) = some o from h) (by simp)
variable {tbl : List (Nat × Instr × Nat)} {cut : List (Nat × List Nat)}
theorem mm_at_mem {α : Type} : ∀ {t : List (Nat × α)} {k : Nat} {x : α}, mm_at t k = some x → (k, x) ∈ t
  | (j, y) :: r, k, x, h => by
    unfold mm_at at h
    cases hb : Nat.beq j k with
    | true =>
      rw [hb] at h
      have hj : j = k := Nat.eq_of_beq_eq_true hb
      have hw : y = x := Option.some.inj h
      subst hj; subst hw
      exact List.mem_cons_self
    | false =>
      rw [hb] at h
      exact List.mem_cons_of_mem _ (mm_at_mem h)
theorem mm_run_to (C : mm_C p s meth c G A lyT lenA sn lyN nR nS nL cc roA) (C1 : mm_C1 meth rt) (CG : mm_CG p l e R s m args below meth c G A lyT lyF lenA sn lyN nR nS cc fld) (CP : mm_CP p l e R s m args below meth c G A lyT lyF lenA sn lyN cc fld) (CL : mm_CL p l e R s m args below meth c G A lyT lyF lenA sn lyN nR nS cc cst gst)
    (CV : mm_CC p l e R s m args below meth c G A lyT lyF lenA sn lyN nR nS nL cc (fun k => .invokevirtual k) arV mV) (CS : mm_CC p l e R s m args below meth c G A lyT lyF lenA sn lyN nR nS nL cc (fun k => .invokestatic k) arS mS)
    (htb : ∀ q ∈ tbl, decode cc q.1 = .ok q.2) {kc : mm_K} {o : mm_R} (hkc : ∀ (pc' : Nat) (ls' : mm_L) (st' : List mm_V) (z' : mm_S), kc pc' ls' st' z' = some o → mm_to p l e R s m args below meth c G A lyT lyF lenA sn lyN nR nS nL o pc' ls' st' z') :
    ∀ (n pc : Nat) (ls : mm_L) (st : List mm_V) (z : mm_S), mm_run fld cst gst arV arS mV mS lenA roA sn nL rt tbl cut kc n pc ls st z = some o → mm_to p l e R s m args below meth c G A lyT lyF lenA sn lyN nR nS nL o pc ls st z := by
  intro n
  induction n with
  | zero => intro pc ls st z h; cases h
  | succ n ih =>
    intro pc ls st z h
    unfold mm_run at h
    cases hq : mm_at tbl pc with
    | none => rw [hq] at h; cases h
    | some q =>
      rw [hq] at h
      obtain ⟨g1, g2⟩ := mm_bif_e h
      refine mm_step_to C C1 CG CP CL CV CS (i := q.1) (n := q.2) (htb (pc, q) (mm_at_mem hq)) g1 g2 (fun pc' ls' st' z' hk => ?_)
      cases hcut : mm_at cut pc' with
      | none =>
        simp only [hcut] at hk
        exact ih _ _ _ _ hk
      | some lv =>
        simp only [hcut] at hk
        intro hst hls H locs la hP hS hv
        exact hkc _ _ _ _ hk hst (fun q hq => hls q (mm_pk_mem _ hq)) H locs la hP hS (mm_pk_has hv)
theorem mm_go_to (C : mm_C p s meth c G A lyT lenA sn lyN nR nS nL cc roA) (C1 : mm_C1 meth rt) (CG : mm_CG p l e R s m args below meth c G A lyT lyF lenA sn lyN nR nS cc fld) (CP : mm_CP p l e R s m args below meth c G A lyT lyF lenA sn lyN cc fld) (CL : mm_CL p l e R s m args below meth c G A lyT lyF lenA sn lyN nR nS cc cst gst)
    (CV : mm_CC p l e R s m args below meth c G A lyT lyF lenA sn lyN nR nS nL cc (fun k => .invokevirtual k) arV mV) (CS : mm_CC p l e R s m args below meth c G A lyT lyF lenA sn lyN nR nS nL cc (fun k => .invokestatic k) arS mS)
    (htb : ∀ q ∈ tbl, decode cc q.1 = .ok q.2) {o : mm_R} :
    ∀ (n pc : Nat) (ls : mm_L) (st : List mm_V) (z : mm_S), mm_go fld cst gst arV arS mV mS lenA roA sn nL rt tbl cut n pc ls st z = some o → mm_to p l e R s m args below meth c G A lyT lyF lenA sn lyN nR nS nL o pc ls st z := by
  intro n
  induction n with
  | zero => intro pc ls st z h; cases h
  | succ n ih =>
    intro pc ls st z h
    exact mm_run_to C C1 CG CP CL CV CS htb ih 600 pc ls st z h
end MMT
