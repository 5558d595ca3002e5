/-! ===== fields, constants, statics of the small machine; a method's contract out of its run ===== -/
section MMF
variable (lyT : Nat → Nat) (lyF : Nat → List (Nat × Nat × Nat × Nat)) (lyN nR nS : Nat) (rs : mm_rs) (nf : mm_nf) (ss : mm_ss)
/-- of a class: its words stand in the tables, its fields are as the world has them -/
def mm_okK (ci : Nat) (C : String) (T : u_T) (N : Nat) : Prop := vwCl[ci]? = some (C, T, N) ∧ ci < 5 ∧ (∀ w ∈ u_ws C T N, w ∈ lw_gd) ∧ (∀ a, a < N → ∀ b, b < N → a ≠ b → (T a).2.1 ≠ (T b).2.1) ∧ (∃ ty0 : Nat → FieldType, ∀ k, k < N → parseFieldDescriptor (T k).2.2.1 = some (ty0 k)) ∧
  (lyF ci).length = N ∧ (∀ (i : Nat) (d : Nat × Nat × Nat × Nat), (lyF ci)[i]? = some d → d.1 = i) ∧ (∀ k, k < N → (T k).1 = C)
/-- of a place of a class's pool: the field that it names -/
def mm_okF (own : String) (k : Nat) (d : mm_F) : Prop := ∃ (C : String) (T : u_T) (N : Nat), mm_okK lyF d.1 C T N ∧ d.2.1 < N ∧ (lyF d.1)[d.2.1]? = some d.2 ∧
  (Cond.fieldLink own k C (T d.2.1).2.1 (T d.2.1).2.2.1 ∈ lw_gd ∨ ∃ host, (own, k, C, (T d.2.1).2.1, (T d.2.1).2.2.1, host) ∈ nf) ∧
  (d.2.2.1 = 3 → d.2.2.2.1 ≠ 20 ∧ d.2.2.2.1 ≠ 14 ∧ ∀ o, o < lyN → lyT o = d.1 → o + d.2.2.2.2 < lyN ∧ lyT (o + d.2.2.2.2) = d.2.2.2.1) ∧
  (d.2.2.1 = 0 → (T d.2.1).2.2.2 = false ∧ parseFieldDescriptor (T d.2.1).2.2.1 = some .int) ∧ (d.2.2.1 = 1 → (T d.2.1).2.2.2 = false ∧ parseFieldDescriptor (T d.2.1).2.2.1 = some .long) ∧ (d.2.2.1 = 2 → (T d.2.1).2.2.2 = false ∧ parseFieldDescriptor (T d.2.1).2.2.1 = some .boolean)
def mm_okL (own : String) (k : Nat) (v : mm_V) : Prop := (∃ x, v = mm_I x ∧ Cond.constant own k x ∈ lw_gd) ∨ (∃ x, v = mm_J x ∧ Cond.constantLong own k x ∈ lw_gd) ∨ (∃ j tx, v = mm_P 20 j ∧ j < nS ∧ (own, k, tx, j) ∈ rs)
def mm_okG (own : String) (k : Nat) (v : mm_V) : Prop := ∃ j C n d, v = mm_P 14 j ∧ lyN ≤ j ∧ j < nR ∧ (C, n, d, j) ∈ ss ∧ (Cond.fieldLink own k C n d ∈ lw_gd ∨ ∃ host, (own, k, C, n, d, host) ∈ nf)
end MMF
theorem mm_fs_i {G : mm_G} {F : List (Nat × Nat × Nat × Nat)} {z : mm_S} {a j : Nat} {x : Int32} {d : Nat × Nat × Nat × Nat} (hpos : ∀ (i : Nat) (d : Nat × Nat × Nat × Nat), F[i]? = some d → d.1 = i) (hj : F[j]? = some d) (hd : d.2.1 = 0 ∨ d.2.1 = 2) :
    (F.map fun d => mm_tr G (mm_fv d a z)).set j (.int x) = F.map fun d => mm_tr G (mm_fv d a (mm_ui z.1 a j x, z.2)) := by
  apply List.ext_getElem?
  intro i
  rw [List.getElem?_set]
  by_cases hi : j = i
  · subst hi
    rw [if_pos rfl, if_pos (by rw [List.length_map]; exact (List.getElem?_eq_some_iff.mp hj).1), List.getElem?_map, hj]
    have e1 := hpos j d hj
    rcases hd with h | h
    · simp [mm_fv, h, mm_tr, mm_ui, e1, upd]
    · simp [mm_fv, h, mm_tr, mm_ui, e1, upd]
  · rw [if_neg hi, List.getElem?_map, List.getElem?_map]
    cases hq : F[i]? with
    | none => rfl
    | some d' =>
      have e1 := hpos i d' hq
      simp only [Option.map_some, Option.some.injEq]
      congr 1
      unfold mm_fv
      split
      · rfl
      · rfl
      · simp [mm_ui, upd, e1, Ne.symm hi]
theorem mm_fs_j {G : mm_G} {F : List (Nat × Nat × Nat × Nat)} {z : mm_S} {a j : Nat} {x : Int64} {d : Nat × Nat × Nat × Nat} (hpos : ∀ (i : Nat) (d : Nat × Nat × Nat × Nat), F[i]? = some d → d.1 = i) (hj : F[j]? = some d) (hd : d.2.1 = 1) :
    (F.map fun d => mm_tr G (mm_fv d a z)).set j (.long x) = F.map fun d => mm_tr G (mm_fv d a (z.1, mm_ul z.2 a j x)) := by
  apply List.ext_getElem?
  intro i
  rw [List.getElem?_set]
  by_cases hi : j = i
  · subst hi
    rw [if_pos rfl, if_pos (by rw [List.length_map]; exact (List.getElem?_eq_some_iff.mp hj).1), List.getElem?_map, hj]
    have e1 := hpos j d hj
    simp [mm_fv, hd, mm_tr, mm_ul, e1, vp_updL]
  · rw [if_neg hi, List.getElem?_map, List.getElem?_map]
    cases hq : F[i]? with
    | none => rfl
    | some d' =>
      have e1 := hpos i d' hq
      simp only [Option.map_some, Option.some.injEq]
      congr 1
      unfold mm_fv
      split
      · simp [mm_ul, vp_updL, e1, Ne.symm hi]
      · rfl
      · rfl
section MMRES
variable {p : Program} {l : Launch} {e : Env} {R : Room} {s : State} {m : MethodId} {args : Array Value} {below : List Frame} {meth : Method} {c : Code} {G : mm_G} {A : Nat → Prop} {lyT : Nat → Nat} {lyF : Nat → List (Nat × Nat × Nat × Nat)} {lenA : Nat → Nat} {sn : Nat → Nat → Nat} {lyN nR nS nL : Nat} {roA : Nat → Nat → Int32} {rs : mm_rs} {nf : mm_nf} {nm : mm_nm} {ss : mm_ss} {cc : ByteArray} {own : String}
theorem mm_en_o {z : mm_S} {a ci : Nat} (h : lyT a = ci) (h5 : ci < 5) : mm_en G lyT lyF lenA sn z a = .inr (ci, (lyF ci).map fun d => mm_tr G (mm_fv d a z)) := by
  subst h
  unfold mm_en
  rw [if_neg (by omega), if_neg (by omega), if_neg (by omega), if_neg (by omega)]
theorem mm_CG_of {fl : List (Nat × mm_F)} (S : CallFix p m c cc nL s args lw_gd own) (hK : va_K G.2.2.2 vwCl (mm_ty G) s) (hro : mm_ro G lenA lyN nR roA rs nf nm ss A s s.heap) (hl : ∀ q ∈ fl, mm_okF lyT lyF lyN nf own q.1 q.2) :
    mm_CG p l e R s m args below meth c G A lyT lyF lenA sn lyN nR nS cc (fun k => mm_at fl k) := by
  intro k d hk
  obtain ⟨C, T, N, ⟨k1, k2, k3, k4, k5, k6, k7, k8⟩, h1, h2, h3, h4, h5, h6, h7⟩ := hl (k, d) (mm_at_mem hk)
  dsimp only at k1 k2 k3 k4 k5 k6 k7 k8 h1 h2 h3 h4 h5 h6 h7
  obtain ⟨hx, hb, hml, ho, hts⟩ := S
  refine ⟨⟨by omega, by omega⟩, fun h o ho1 ho2 => ?_, ?_⟩
  · obtain ⟨g1, g2, g3⟩ := h4 h
    obtain ⟨g4, g5⟩ := g3 o ho1 ho2
    exact Or.inr (Or.inr ⟨g1, g2, g4, g5⟩)
  · intro o pc la rest H locs a z hd ha1 ha2 hP hS kk
    have he : (mm_ws G lyT lyF lenA sn lyN z)[a]? = some (G.1 a, .inr (d.1, (lyF d.1).map fun d => mm_tr G (mm_fv d a z))) := by rw [mm_ws_get z ha1, mm_en_o ha2 k2]
    have hv : ((lyF d.1).map fun d => mm_tr G (mm_fv d a z))[d.2.1]? = some (mm_tr G (mm_fv d.2 a z)) := by rw [List.getElem?_map, h2]; rfl
    rcases h3 with h3 | ⟨host, h3⟩
    · exact va_get hx hb hts k3 ho hK hP a he k1 d.2.1 h1 (hts _ h3) (fun x hq => by rw [k8 _ h1] at hq; exact hq) hv hd kk
    · exact va_getN hx hb hts k3 ho hK hP a he k1 d.2.1 h1 (va_Nw.use rfl (hro.2.2.2.2.2.2.1 _ h3)) (fun x hq => by rw [k8 _ h1] at hq; exact hq) hv hd kk
theorem mm_CP_of {fl : List (Nat × mm_F)} (S : CallFix p m c cc nL s args lw_gd own) (hK : va_K G.2.2.2 vwCl (mm_ty G) s) (hro : mm_ro G lenA lyN nR roA rs nf nm ss A s s.heap) (hinj : ∀ i j, i < lyN → j < lyN → G.1 i = G.1 j → i = j) (hA : ∀ k, k < lyN → A (G.1 k)) (hl : ∀ q ∈ fl, mm_okF lyT lyF lyN nf own q.1 q.2) :
    mm_CP p l e R s m args below meth c G A lyT lyF lenA sn lyN cc (fun k => mm_at fl k) := by
  intro k d hk
  obtain ⟨C, T, N, ⟨k1, k2, k3, k4, ⟨ty0, k5⟩, k6, k7, k8⟩, h1, h2, h3, h4, h5, h6, h7⟩ := hl (k, d) (mm_at_mem hk)
  dsimp only at k1 k2 k3 k4 k5 k6 k7 k8 h1 h2 h3 h4 h5 h6 h7
  obtain ⟨hx, hb, hml, ho, hts⟩ := S
  intro o pc la rest H locs a z z' v hd ha1 ha2 hz hP hS kk
  have he : (mm_ws G lyT lyF lenA sn lyN z)[a]? = some (G.1 a, .inr (d.1, (lyF d.1).map fun d => mm_tr G (mm_fv d a z))) := by rw [mm_ws_get z ha1, mm_en_o ha2 k2]
  have hD := mm_wsD (lyT := lyT) (lyF := lyF) (lenA := lenA) (sn := sn) z hinj hA
  have hlen : d.2.1 < ((lyF d.1).map fun d => mm_tr G (mm_fv d a z)).length := by rw [List.length_map, k6]; exact h1
  have e1 := k7 _ _ h2
  have key : ∀ (ty : FieldType) (x : Value), mm_tr G v = x → (T d.2.1).2.2.2 = false → parseFieldDescriptor (T d.2.1).2.2.1 = some ty → narrow ty x = x → fits ty x = true →
      ((lyF d.1).map fun d => mm_tr G (mm_fv d a z)).set d.2.1 x = ((lyF d.1).map fun d => mm_tr G (mm_fv d a z')) → (∀ j, j ≠ a → mm_en G lyT lyF lenA sn z' j = mm_en G lyT lyF lenA sn z j) →
      mm_w p l e R s m args below meth c G A lyT lyF lenA sn lyN o H locs (F0 m pc la (mm_tr G v :: .ref (G.1 a) :: rest)) := by
    intro ty x hvx hfin hty hn hf hset hoth
    rw [hvx]
    have hws : (mm_ws G lyT lyF lenA sn lyN z).set a (G.1 a, .inr (d.1, ((lyF d.1).map fun d => mm_tr G (mm_fv d a z)).set d.2.1 x)) = mm_ws G lyT lyF lenA sn lyN z' := mm_ws_set z z' ha1 (by rw [mm_en_o ha2 k2, hset]) hoth
    rcases h3 with h3 | ⟨host, h3⟩
    · refine va_put hx hb hts k3 ty0 k5 k4 ho hK hP hD hS a he k1 d.2.1 h1 (hts _ h3) (fun x hq => by rw [k8 _ h1] at hq; exact hq) hfin hty hn hf hlen hd (fun H1 locs1 hP1 hD1 hS1 => ?_)
      rw [hws] at hP1
      exact kk H1 locs1 hP1 hS1
    · refine va_putN hx hb hts k3 ty0 k5 k4 ho hK hP hD hS a he k1 d.2.1 h1 (va_Nw.use rfl (hro.2.2.2.2.2.2.1 _ h3)) (fun x hq => by rw [k8 _ h1] at hq; exact hq) hfin hty hn hf hlen hd (fun H1 locs1 hP1 hD1 hS1 => ?_)
      rw [hws] at hP1
      exact kk H1 locs1 hP1 hS1
  rcases hz with ⟨g1, x, rfl, rfl⟩ | ⟨g1, x, rfl, rfl⟩ | ⟨g1, x, g2, rfl, rfl⟩
  · obtain ⟨q1, q2⟩ := h5 g1
    exact key .int (.int x) rfl q1 q2 rfl rfl (mm_fs_i k7 h2 (Or.inl g1)) (fun j hj => mm_en_i z a _ j x hj)
  · obtain ⟨q1, q2⟩ := h6 g1
    exact key .long (.long x) rfl q1 q2 rfl rfl (mm_fs_j k7 h2 g1) (fun j hj => mm_en_j z a _ j x hj)
  · obtain ⟨q1, q2⟩ := h7 g1
    exact key .boolean (.int x) rfl q1 q2 (by rcases g2 with rfl | rfl <;> rfl) (by rcases g2 with rfl | rfl <;> rfl) (mm_fs_i k7 h2 (Or.inr g1)) (fun j hj => mm_en_i z a _ j x hj)
/-- a text out of the pool, by the wide row -/
theorem mm_ldwS {p : Program} {l : Launch} {e : Env} {R : Room} {s : State} {m : MethodId} {args : Array Value} {below : List Frame} {meth : Method} {c : Code} {H : Heap} {locs : List Loc} {cells slots : Nat} {Q : State → Prop} {pc : Nat} {ls : Array Slot} {rest : List Value} {cc : ByteArray} (hx : p.tables.exec = Jvm.exec) (hb : c.code = cc) {own tx : String} {index q : Nat} (ho : s.vm.findClass own = some m.cls) (hZ : vk_R own index tx q s) (hd : decode cc pc = .ok (.ldc_w index, 3))
    (kk : W p l e R s m args below meth c H locs cells slots Q (F0 m (pc + 3) ls (.ref q :: rest))) : W p l e R s m args below meth c H locs cells slots Q (F0 m pc ls rest) := by
  intro T hT X
  obtain ⟨t, h1, h2⟩ := kk T hT X
  exact ⟨t, X.ldcStringW hx ho (text := tx) (a := q) hZ.1 hZ.2 (g := F0 m pc ls rest) rfl (by rw [hb]; exact hd) t h1, h2⟩
set_option maxHeartbeats 6000000 in
theorem mm_CL_of {cl : List (Nat × mm_V)} {gl : List (Nat × mm_V)} (S : CallFix p m c cc nL s args lw_gd own) (hro : mm_ro G lenA lyN nR roA rs nf nm ss A s s.heap) (hc : ∀ q ∈ cl, mm_okL nS rs own q.1 q.2) (hg : ∀ q ∈ gl, mm_okG lyN nR nf ss own q.1 q.2) :
    mm_CL p l e R s m args below meth c G A lyT lyF lenA sn lyN nR nS cc (fun k => mm_at cl k) (fun k => mm_at gl k) := by
  obtain ⟨hx, hb, hml, ho, hts⟩ := S
  refine ⟨fun k v hk => ?_, fun k v hk => ?_⟩
  · rcases hc (k, v) (mm_at_mem hk) with ⟨x, rfl, hw⟩ | ⟨x, rfl, hw⟩ | ⟨j, tx, rfl, hj, hw⟩
    · refine ⟨trivial, fun o pc la rest H locs hS => ⟨fun hd _ kk => lv_ldc hx hb ho (hts _ hw) hd kk, fun hd _ kk => lv_ldcw hx hb ho (hts _ hw) hd kk, fun hd h kk => ?_⟩⟩
      obtain ⟨y, hy⟩ := h
      cases hy
    · refine ⟨trivial, fun o pc la rest H locs hS => ⟨fun hd h kk => ?_, fun hd h kk => ?_, fun hd _ kk => lv_ldc2 hx hb ho (hts _ hw) hd kk⟩⟩
      · exact absurd h (by simp [mm_cat])
      · exact absurd h (by simp [mm_cat])
    · refine ⟨Or.inl ⟨rfl, hj⟩, fun o pc la rest H locs hS => ⟨fun hd _ kk => va_ldcS hx hb ho (hro.2.2.2.2.2.1 _ hw) hd kk, fun hd _ kk => mm_ldwS hx hb ho (hro.2.2.2.2.2.1 _ hw) hd kk, fun hd h kk => ?_⟩⟩
      · obtain ⟨y, hy⟩ := h
        cases hy
  · obtain ⟨j, C, n, d, rfl, hj1, hj2, hss, hw⟩ := hg (k, v) (mm_at_mem hk)
    refine ⟨Or.inr (Or.inl ⟨rfl, hj1, hj2⟩), fun o pc la rest H locs hS hd kk => ?_⟩
    rcases hw with hw | ⟨host, hw⟩
    · exact va_gets hx hb (hro.2.1 _ hss) hS ho (hts _ hw) (fun _ h => h) hd kk
    · exact va_getsN hx hb (hro.2.1 _ hss) hS ho (va_Nw.use rfl (hro.2.2.2.2.2.2.1 _ hw)) (fun _ h => h) hd kk
end MMRES
section MMMET
variable {lyT : Nat → Nat} {lyF : Nat → List (Nat × Nat × Nat × Nat)} {lenA : Nat → Nat} {sn : Nat → Nat → Nat} {lyN nR nS nL : Nat} {roA : Nat → Nat → Int32} {rs : mm_rs} {nf : mm_nf} {nm : mm_nm} {ss : mm_ss} {cc : ByteArray}
/-- a method's contract out of its run in the small machine -/
theorem mm_met {y : MethodName} {ret : Option FieldType} {rm : Room} {rt : Nat} {fl : List (Nat × mm_F)} {cl gl : List (Nat × mm_V)} {arV arS : Nat → Nat} {lV lS : List (Nat × (List mm_V → mm_S → (Option mm_V → mm_S → Option mm_R) → Option mm_R))} {mV mS : Nat → List mm_V → mm_S → (Option mm_V → mm_S → Option mm_R) → Option mm_R}
    {tbl : List (Nat × Instr × Nat)} {cut : List (Nat × List Nat)} (hy : plainName y.cls = true) (hret : (rt = 0 → ret = some .int) ∧ (rt = 1 → ret = some .boolean) ∧ (rt = 2 → ret = some .long) ∧ (rt = 3 → ret = none)) (htb : ∀ q ∈ tbl, decode cc q.1 = .ok q.2)
    (hsn : ∀ k j, k < lyN → lyT k = 13 → j < lenA k → sn k j < nS) (hfl : ∀ q ∈ fl, mm_okF lyT lyF lyN nf y.cls q.1 q.2) (hcl : ∀ q ∈ cl, mm_okL nS rs y.cls q.1 q.2) (hgl : ∀ q ∈ gl, mm_okG lyN nR nf ss y.cls q.1 q.2)
    (hmV : ∀ k as z kk, mV k as z kk = match mm_at lV k with
      | some f => f as z kk
      | none => none) (hmS : ∀ k as z kk, mS k as z kk = match mm_at lS k with
      | some f => f as z kk
      | none => none) (hlV : ∀ q ∈ lV, mm_okV lyT lyF lenA sn lyN nR nS roA rs nf nm ss y.cls rm arV q.1 q.2) (hlS : ∀ q ∈ lS, mm_okS lyT lyF lenA sn lyN nR nS roA rs nf nm ss y.cls rm arS q.1 q.2) :
    mm_M lyT lyF lenA sn lyN nR nS roA rs nf nm ss y cc nL ret rm (fun as z o => (as.map mm_cat).sum ≤ nL ∧ ∃ n, mm_go (fun k => mm_at fl k) (fun k => mm_at cl k) (fun k => mm_at gl k) arV arS mV mS lenA roA sn nL rt tbl cut n 0 (mm_ar 0 as) [] z = some o) := by
  intro l G sz as z o hinj hok hgo
  obtain ⟨hlen, n, hgo⟩ := hgo
  refine Met.ofW (cc := cc) (maxL := nL) (ret := ret) hy rfl ?_
  intro p e s m args below meth c s₁ B hml hv
  obtain ⟨rfl, hsz, hP, hK, hro⟩ := hv
  have hx := B.exec
  have hb := B.bytes
  have hr := B.returns
  have hts0 := atoms_spec (ws := .code y cc nL ret :: lw_gd) B.pre
  have hts : ∀ w ∈ lw_gd, w.before (as.map (mm_tr G)).toArray s = true := fun w hw => hts0 w (List.mem_cons_of_mem _ hw)
  have hown : s.vm.findClass y.cls = some m.cls := findClass_of_methodNamed B.named
  subst hsz
  have hA : ∀ k, k < lyN → mm_A G lyN s.heap.size (G.1 k) := fun k hk => Or.inl ⟨k, hk, rfl⟩
  have hA2 : ∀ q, s.heap.size ≤ q → mm_A G lyN s.heap.size q := fun q h => Or.inr h
  have S : CallFix p m c cc nL s (as.map (mm_tr G)).toArray lw_gd y.cls := ⟨hx, hb, hml, hown, hts⟩
  have C : mm_C p s meth c G (mm_A G lyN s.heap.size) lyT lenA sn lyN nR nS nL cc roA := ⟨hx, hb, hml, hK, B.notSynchronized, hinj, hA, hro.1, hsn⟩
  have C1 : mm_C1 meth rt := ⟨fun h => by rw [hr]; exact hret.1 h, fun h => by rw [hr]; exact hret.2.1 h, fun h => by rw [hr]; exact hret.2.2.1 h, fun h => by rw [hr]; exact hret.2.2.2 h⟩
  have hto := mm_go_to (p := p) (l := l) (e := e) (R := rm) (s := s) (m := m) (args := (as.map (mm_tr G)).toArray) (below := below) (meth := meth) (c := c) (G := G) (A := mm_A G lyN s.heap.size) (lyT := lyT) (lyF := lyF) (lenA := lenA) (sn := sn) (lyN := lyN) (nR := nR) (nS := nS) (nL := nL) (cc := cc) (roA := roA) (rt := rt)
    C C1 (mm_CG_of S hK hro hfl) (mm_CP_of S hK hro hinj hA hfl) (mm_CL_of S hro hcl hgl) (mm_CC_V hmV S hK hro hinj hA hA2 hlV) (mm_CC_S hmS S hK hro hinj hA hA2 hlS) htb n 0 (mm_ar 0 as) [] z hgo
  have hl := lv_entry (as.map (mm_tr G)) (n := nL) (by rw [mm_sl_len]; exact hlen)
  rw [mm_ar_tr] at hl
  rw [lg_entry_eq]
  exact hto (fun v hv => by cases hv) (mm_ar_ok as 0 hok) s.heap [] _ hP va_S.rf hl
end MMMET
