/-! ===== texts: their length, their letters (words by wip/gen/strs.py) ===== -/
abbrev ty_len : MethodName := yJ0_length_8abf5
abbrev tc_len : ByteArray := cJ0_length_8abf5
theorem tw_len : Cond.code ty_len tc_len 1 (some .int) ∈ lw_gd := mm_gdT 694 (by decide +kernel) rfl
theorem ti_len : Cond.initialized ty_len.cls ∈ lw_gd := mm_gdT 10 (by decide +kernel) rfl
theorem tv_len : Cond.instanceMethod ty_len ∈ lw_gd := mm_gdT 692 (by decide +kernel) rfl
theorem tz_len : Cond.selects ty_len.cls ty_len ty_len ∈ lw_gd := mm_gdT 693 (by decide +kernel) rfl
abbrev ty_ch : MethodName := yJ0_charAt_5068e
abbrev tc_ch : ByteArray := cJ0_charAt_5068e
theorem tw_ch : Cond.code ty_ch tc_ch 2 (some .char) ∈ lw_gd := mm_gdT 704 (by decide +kernel) rfl
theorem ti_ch : Cond.initialized ty_ch.cls ∈ lw_gd := mm_gdT 10 (by decide +kernel) rfl
theorem tv_ch : Cond.instanceMethod ty_ch ∈ lw_gd := mm_gdT 702 (by decide +kernel) rfl
theorem tz_ch : Cond.selects ty_ch.cls ty_ch ty_ch ∈ lw_gd := mm_gdT 703 (by decide +kernel) rfl
abbrev ty_co : MethodName := yJ0_coder_7d493
abbrev tc_co : ByteArray := cJ0_coder_7d493
theorem tw_co : Cond.code ty_co tc_co 1 (some .byte) ∈ lw_gd := mm_gdT 698 (by decide +kernel) rfl
theorem ti_co : Cond.initialized ty_co.cls ∈ lw_gd := mm_gdT 10 (by decide +kernel) rfl
theorem tv_co : Cond.instanceMethod ty_co ∈ lw_gd := mm_gdT 696 (by decide +kernel) rfl
theorem tz_co : Cond.selects ty_co.cls ty_co ty_co ∈ lw_gd := mm_gdT 697 (by decide +kernel) rfl
theorem tl_co : Cond.methodLink "java/lang/String" 335 ty_co ∈ lw_gd := mm_gdT 695 (by decide +kernel) rfl
abbrev ty_la : MethodName := yJ0_isLatin1_aae02
abbrev tc_la : ByteArray := cJ0_isLatin1_aae02
theorem tw_la : Cond.code ty_la tc_la 1 (some .boolean) ∈ lw_gd := mm_gdT 708 (by decide +kernel) rfl
theorem ti_la : Cond.initialized ty_la.cls ∈ lw_gd := mm_gdT 10 (by decide +kernel) rfl
theorem tv_la : Cond.instanceMethod ty_la ∈ lw_gd := mm_gdT 706 (by decide +kernel) rfl
theorem tz_la : Cond.selects ty_la.cls ty_la ty_la ∈ lw_gd := mm_gdT 707 (by decide +kernel) rfl
theorem tl_la : Cond.methodLink "java/lang/String" 492 ty_la ∈ lw_gd := mm_gdT 705 (by decide +kernel) rfl
abbrev ty_ci : MethodName := yJ0_checkIndex_df160
abbrev tc_ci : ByteArray := cJ0_checkIndex_df160
theorem tw_ci : Cond.code ty_ci tc_ci 2 (none) ∈ lw_gd := mm_gdT 714 (by decide +kernel) rfl
theorem ti_ci : Cond.initialized ty_ci.cls ∈ lw_gd := mm_gdT 10 (by decide +kernel) rfl
theorem ts_ci : Cond.static ty_ci ∈ lw_gd := mm_gdT 713 (by decide +kernel) rfl
theorem tl_ci : Cond.methodLink "java/lang/StringLatin1" 9 ty_ci ∈ lw_gd := mm_gdT 712 (by decide +kernel) rfl
abbrev ty_lc : MethodName := yJ1_charAt_3b067
abbrev tc_lc : ByteArray := cJ1_charAt_3b067
theorem tw_lc : Cond.code ty_lc tc_lc 2 (some .char) ∈ lw_gd := mm_gdT 711 (by decide +kernel) rfl
theorem ti_lc : Cond.initialized ty_lc.cls ∈ lw_gd := mm_gdT 11 (by decide +kernel) rfl
theorem ts_lc : Cond.static ty_lc ∈ lw_gd := mm_gdT 710 (by decide +kernel) rfl
theorem tl_lc : Cond.methodLink "java/lang/String" 495 ty_lc ∈ lw_gd := mm_gdT 709 (by decide +kernel) rfl
abbrev ty_pc : MethodName := yJ3_checkIndex_8e157
abbrev tc_pc : ByteArray := cJ3_checkIndex_8e157
theorem tw_pc : Cond.code ty_pc tc_pc 3 (some .int) ∈ lw_gd := mm_gdT 719 (by decide +kernel) rfl
theorem ti_pc : Cond.initialized ty_pc.cls ∈ lw_gd := mm_gdT 12 (by decide +kernel) rfl
theorem ts_pc : Cond.static ty_pc ∈ lw_gd := mm_gdT 718 (by decide +kernel) rfl
theorem tl_pc : Cond.methodLink "java/lang/String" 1059 ty_pc ∈ lw_gd := mm_gdT 717 (by decide +kernel) rfl
theorem tf_38 : Cond.fieldLink "java/lang/String" 38 "java/lang/String" "COMPACT_STRINGS" "Z" ∈ lw_gd := mm_gdT 699 (by decide +kernel) rfl
theorem tf_1053 : Cond.fieldLink "java/lang/String" 1053 "jdk/internal/util/Preconditions" "SIOOBE_FORMATTER" "Ljava/util/function/BiFunction;" ∈ lw_gd := mm_gdT 715 (by decide +kernel) rfl
theorem tf_9 : Cond.fieldLink "java/lang/String" 9 "java/lang/String" "value" "[B" ∈ lw_gd := mm_gdT 1475 (by decide +kernel) rfl
theorem tf_15 : Cond.fieldLink "java/lang/String" 15 "java/lang/String" "coder" "B" ∈ lw_gd := mm_gdT 1476 (by decide +kernel) rfl
/-- the length of a text, a letter of it -/
def tx_len (i : Nat) : Int32 := nI (mm_sl.getD i 0)
def tx_ch (i k : Nat) : Int32 := (mm_sb.getD i []).getD k 0 &&& 255
theorem tx_sl : ∀ i, i < 17 → mm_sl.getD i 0 < 2 ^ 31 := by decide +kernel
section STRP
variable (G : mm_G) (lyT : Nat → Nat) (lyF : Nat → List (Nat × Nat × Nat × Nat)) (lenA : Nat → Nat) (sn : Nat → Nat → Nat) (lyN nR : Nat) (roA : Nat → Nat → Int32) (rs : mm_rs) (nf : mm_nf) (nm : mm_nm) (ss : mm_ss)
/-- what a method of texts begins with: its arguments, the world, the bytes that it reads -/
def tx_Pc (sz : Nat) (vals : List Value) (z : mm_S) (E : Option (Nat × Nat × (Nat → Int32))) : Array Value → State → Prop :=
  va_Pc vals (fun U => U.heap.size = sz ∧ mm_H G lyT lyF lenA sn lyN z U.heap ∧ va_K G.2.2.2 vwCl (mm_ty G) U ∧ mm_ro G lenA lyN nR roA rs nf nm ss (mm_A G lyN sz) U U.heap ∧ ∀ q, E = some q → va_T .byte q.1 q.2.1 (fun j => .int (q.2.2 j)) (mm_A G lyN sz) U U.heap)
end STRP
section STRS
variable {G : mm_G} {lyT : Nat → Nat} {lyF : Nat → List (Nat × Nat × Nat × Nat)} {lenA : Nat → Nat} {sn : Nat → Nat → Nat} {lyN nR : Nat} {roA : Nat → Nat → Int32} {rs : mm_rs} {nf : mm_nf} {nm : mm_nm} {ss : mm_ss}
theorem tx_blind {sz : Nat} {vals : List Value} {z : mm_S} {E : Option (Nat × Nat × (Nat → Int32))} : FrameBlind (tx_Pc G lyT lyF lenA sn lyN nR roA rs nf nm ss sz vals z E) := fun a U g mk q =>
  ⟨q.1, q.2.1, q.2.2.1, va_K.moved (u := U) (U := U.calling g mk a) (Vm.Alike.refl U.vm) q.2.2.2.1, q.2.2.2.2.1.blind G lenA lyN nR roA rs nf nm ss, fun x hx => va_T.moved (u := U) (U := U.calling g mk a) (Vm.Alike.refl U.vm) (q.2.2.2.2.2 x hx)⟩
theorem tx_of {y : MethodName} {cc : ByteArray} {nL : Nat} {ret : Option FieldType} {rm : Room} {l : Launch} {sz : Nat} {z : mm_S} {vals : List Value} {E : Option (Nat × Nat × (Nat → Int32))} {r : Option mm_V} (hy : plainName y.cls = true) (hn : (lg_sl vals).length ≤ nL)
    (k : ∀ (p : Program) (e : Env) (s : State) (m : MethodId) (args : Array Value) (below : List Frame) (meth : Method) (c : Code) (la : Array Slot), CallFix p m c cc nL s args lw_gd y.cls → meth.sig.returnType = ret → meth.locks = false → va_K G.2.2.2 vwCl (mm_ty G) s → mm_ro G lenA lyN nR roA rs nf nm ss (mm_A G lyN s.heap.size) s s.heap →
      mm_H G lyT lyF lenA sn lyN z s.heap → (∀ q, E = some q → va_T .byte q.1 q.2.1 (fun j => .int (q.2.2 j)) (mm_A G lyN s.heap.size) s s.heap) → la.size = nL → (∀ (k : Nat) (i : Nat) (v : Value), (lv_args 0 vals)[k]? = some (i, v) → la[i]? = some (.val v)) →
      mm_w p l e rm s m args below meth c G (mm_A G lyN s.heap.size) lyT lyF lenA sn lyN (r, z) s.heap [] (F0 m 0 la [])) :
    Met l y (.code y cc nL ret :: lw_gd) rm (tx_Pc G lyT lyF lenA sn lyN nR roA rs nf nm ss sz vals z E) (mm_Q G (mm_A G lyN sz) lyT lyF lenA sn lyN (r, z)) 0 0 (mm_A G lyN sz) := by
  refine Met.ofW (cc := cc) (maxL := nL) (ret := ret) hy rfl ?_
  intro p e s m args below meth c s₁ B hml hv
  obtain ⟨rfl, hsz, hP, hK, hro, hE⟩ := hv
  have hx := B.exec
  have hb := B.bytes
  have hr := B.returns
  have hts0 := atoms_spec (ws := .code y cc nL ret :: lw_gd) B.pre
  have hts : ∀ w ∈ lw_gd, w.before vals.toArray s = true := fun w hw => hts0 w (List.mem_cons_of_mem _ hw)
  have hown : s.vm.findClass y.cls = some m.cls := findClass_of_methodNamed B.named
  subst hsz
  have hl := lv_entry vals (n := nL) hn
  rw [lg_entry_eq]
  exact k p e s m vals.toArray below meth c _ ⟨hx, hb, hml, hown, hts⟩ hr B.notSynchronized hK hro hP hE hl.1 (fun k i v hk => lv_at hl k hk)
theorem tx_in {p : Program} {m : MethodId} {c : Code} {cc : ByteArray} {nL : Nat} {s : State} {args : Array Value} {own : String} {vals : List Value} {z : mm_S} {E : Option (Nat × Nat × (Nat → Int32))} {H : Heap} {locs : List Loc} (S : CallFix p m c cc nL s args lw_gd own) (hP : mm_H G lyT lyF lenA sn lyN z H) (hK : va_K G.2.2.2 vwCl (mm_ty G) s) (hro : mm_ro G lenA lyN nR roA rs nf nm ss (mm_A G lyN s.heap.size) s s.heap) (hS : va_S (mm_A G lyN s.heap.size) s.heap H locs)
    (hE : ∀ q, E = some q → va_T .byte q.1 q.2.1 (fun j => .int (q.2.2 j)) (mm_A G lyN s.heap.size) s s.heap) {U : State} (hU : U.heap = H) (hW : s.WarmedH U.vm) : tx_Pc G lyT lyF lenA sn lyN nR roA rs nf nm ss H.size vals z E vals.toArray U := by
  have hA : ∀ q, mm_A G lyN H.size q → mm_A G lyN s.heap.size q := fun q h => by
    rcases h with h | h
    · exact Or.inl h
    · exact Or.inr (Nat.le_trans hS.1 h)
  have hq : ∀ a : Nat, a < s.heap.size → ¬ mm_A G lyN s.heap.size a → H[a]? = s.heap[a]? := hS.2.1
  exact ⟨rfl, by rw [hU], by rw [hU]; exact hP, va_K.moved hW.alike hK, by rw [hU]; exact hro.to G lenA lyN nR roA rs nf nm ss hS hW hA, fun q hq' => by rw [hU]; exact ((va_T.moved hW.alike (hE q hq')).kept hq).narrow hA⟩
theorem tx_hB {s : State} {H : Heap} {locs : List Loc} (hS : va_S (mm_A G lyN s.heap.size) s.heap H locs) : ∀ q, mm_A G lyN H.size q → mm_A G lyN s.heap.size q := fun q h => by
  rcases h with h | h
  · exact Or.inl h
  · exact Or.inr (Nat.le_trans hS.1 h)
theorem tx_good {y : MethodName} {cc : ByteArray} {nL : Nat} {ret : Option FieldType} (h : Cond.code y cc nL ret ∈ lw_gd) : GoodIn lw_gd (.code y cc nL ret :: lw_gd) := fun w hw => by
  rcases List.mem_cons.mp hw with rfl | hw
  · exact mm_good _ h
  · exact mm_good _ hw
/-- of Preconditions: an index that is in -/
theorem tx_pc {l : Launch} {sz : Nat} {z : mm_S} {k n : Nat} {v : Value} (hk : k < n) (hn : n < 2 ^ 31) (hv : v.category = 1) : Met l ty_pc (.code ty_pc tc_pc 3 (some .int) :: lw_gd) { frames := 0, cells := 0, slots := 0, locals := 0 } (tx_Pc G lyT lyF lenA sn lyN nR roA rs nf nm ss sz [.int (nI k), .int (nI n), v] z none) (mm_Q G (mm_A G lyN sz) lyT lyF lenA sn lyN (some (mm_I (nI k)), z)) 0 0 (mm_A G lyN sz) := by
  refine tx_of (by decide +kernel) (by
    have e : (lg_sl [Value.int (nI k), .int (nI n), v]).length = 3 := by
      show ([Slot.val (Value.int (nI k)), Slot.val (Value.int (nI n))] ++ ((if v.category = 2 then [Slot.val v, .second] else [.val v]) ++ [])).length = 3
      rw [hv]
      rfl
    omega) ?_
  intro p e s m args below meth c la S hr hlk hK hro hP hE hla hl
  obtain ⟨hx, hb, hml, ho, hts⟩ := S
  have hS : va_S (mm_A G lyN s.heap.size) s.heap s.heap [] := va_S.rf
  refine lv_iload_n (i := 0) hx hb (by decide +kernel : decode tc_pc 0 = .ok (.iload_n 0, 1)) rfl (hl 0 0 _ rfl) ?_
  refine lv_if_lt hx hb (tgt := 9) (by decide +kernel : decode tc_pc 1 = .ok (.ifCond .lt 8, 3)) rfl (fun q => absurd q (nI_pos (by omega))) (fun _ => ?_)
  refine lv_iload_n (i := 0) hx hb (by decide +kernel : decode tc_pc 4 = .ok (.iload_n 0, 1)) rfl (hl 0 0 _ rfl) ?_
  refine lv_iload_n (i := 1) hx hb (by decide +kernel : decode tc_pc 5 = .ok (.iload_n 1, 1)) rfl (hl 1 1 _ rfl) ?_
  refine lv_icmp_lt hx hb (tgt := 16) (by decide +kernel : decode tc_pc 6 = .ok (.if_icmp .lt 10, 3)) rfl (fun _ => ?_) (fun q => absurd (nI_lt hk hn) q)
  refine lv_iload_n (i := 0) hx hb (by decide +kernel : decode tc_pc 16 = .ok (.iload_n 0, 1)) rfl (hl 0 0 _ rfl) ?_
  exact W.iret hx hb hr (fun t ht hW => ⟨⟨nI k, (), rfl, rfl, by show mm_H G lyT lyF lenA sn lyN z t.heap; rw [ht]; exact hP⟩, hS.F ht⟩) hS.2.2 (by decide +kernel : decode tc_pc 17 = .ok (.ireturn, 1))
/-- of String: an index that is in -/
theorem tx_ci {l : Launch} {sz : Nat} {z : mm_S} {k n : Nat} (hk : k < n) (hn : n < 2 ^ 31) : Met l ty_ci (.code ty_ci tc_ci 2 none :: lw_gd) { frames := 1, cells := 0, slots := 0, locals := 22 } (tx_Pc G lyT lyF lenA sn lyN nR roA rs nf nm ss sz [.int (nI k), .int (nI n)] z none) (mm_Q G (mm_A G lyN sz) lyT lyF lenA sn lyN (none, z)) 0 0 (mm_A G lyN sz) := by
  refine tx_of (by decide +kernel) (Nat.le_refl 2) ?_
  intro p e s m args below meth c la S hr hlk hK hro hP hE hla hl
  have S' := S
  obtain ⟨hx, hb, hml, ho, hts⟩ := S
  have hS : va_S (mm_A G lyN s.heap.size) s.heap s.heap [] := va_S.rf
  refine lv_iload_n (i := 0) hx hb (by decide +kernel : decode tc_ci 0 = .ok (.iload_n 0, 1)) rfl (hl 0 0 _ rfl) ?_
  refine lv_iload_n (i := 1) hx hb (by decide +kernel : decode tc_ci 1 = .ok (.iload_n 1, 1)) rfl (hl 1 1 _ rfl) ?_
  have key : ∀ v : Value, v.category = 1 → va_Z "jdk/internal/util/Preconditions" "SIOOBE_FORMATTER" "Ljava/util/function/BiFunction;" v (mm_A G lyN s.heap.size) s s.heap → mm_w p l e { frames := 1, cells := 0, slots := 0, locals := 22 } s m args below meth c G (mm_A G lyN s.heap.size) lyT lyF lenA sn lyN (none, z) s.heap [] (F0 m 2 la [.int (nI n), .int (nI k)]) := by
    intro v hv hZ
    refine va_gets hx hb hZ hS ho (hts _ tf_1053) (fun _ h => h) (by decide +kernel : decode tc_ci 2 = .ok (.getstatic 1053, 3)) ?_
    have hPre : PreS s s.heap (tx_Pc G lyT lyF lenA sn lyN nR roA rs nf nm ss s.heap.size [.int (nI k), .int (nI n), v] z none) [.int (nI k), .int (nI n), v] := ⟨tx_blind, fun U hU hW => tx_in S' hP hK hro hS (fun q h => by cases h) hU hW⟩
    refine mm_back (out := (some (mm_I (nI k)), z)) (va_runS S' (tx_pc hk hn hv) ⟨callB_of 3 hts (tx_good tw_pc) rfl rfl rfl (hts _ ti_pc) (hts _ tl_pc) ⟨by decide, by decide, by decide +kernel⟩ ⟨by decide, by decide⟩, hts _ ts_pc⟩ hPre rfl rfl hla rfl (lv_room (by decide)) (by decide +kernel : decode tc_ci 5 = .ok (.invokestatic 1059, 3)) ⟨Nat.zero_le _, Nat.zero_le _⟩) hS (tx_hB hS) (fun H1 locs1 hP1 hS1 => ?_)
    refine lv_pop hx hb (by decide +kernel : decode tc_ci 8 = .ok (.pop, 1)) rfl ?_
    exact W.vret hx hb hr (fun t ht hW => ⟨⟨(), rfl, trivial, by show mm_H G lyT lyF lenA sn lyN z t.heap; rw [ht]; exact hP1⟩, hS1.F ht⟩) hS1.2.2 (by decide +kernel : decode tc_ci 9 = .ok (.return_, 1))
  rcases hro.2.2.2.2.1 with h | ⟨t, h⟩
  · exact key _ rfl h
  · exact key _ rfl h
/-- of StringLatin1: a letter -/
theorem tx_lc {l : Launch} {sz : Nat} {z : mm_S} {t k n : Nat} {f : Nat → Int32} (hk : k < n) (hn : n < 2 ^ 31) : Met l ty_lc (.code ty_lc tc_lc 2 (some .char) :: lw_gd) { frames := 2, cells := 0, slots := 0, locals := 43 } (tx_Pc G lyT lyF lenA sn lyN nR roA rs nf nm ss sz [.ref t, .int (nI k)] z (some (t, n, f))) (mm_Q G (mm_A G lyN sz) lyT lyF lenA sn lyN (some (mm_I (f k &&& 255)), z)) 0 0 (mm_A G lyN sz) := by
  refine tx_of (by decide +kernel) (Nat.le_refl 2) ?_
  intro p e s m args below meth c la S hr hlk hK hro hP hE hla hl
  have S' := S
  obtain ⟨hx, hb, hml, ho, hts⟩ := S
  have hS : va_S (mm_A G lyN s.heap.size) s.heap s.heap [] := va_S.rf
  have hT := hE _ rfl
  refine lv_iload_n (i := 1) hx hb (by decide +kernel : decode tc_lc 0 = .ok (.iload_n 1, 1)) rfl (hl 1 1 _ rfl) ?_
  refine lv_aload_n (i := 0) hx hb (by decide +kernel : decode tc_lc 1 = .ok (.aload_n 0, 1)) rfl (hl 0 0 _ rfl) ?_
  refine va_tlen (v := nI n) hx hb hT hS rfl (by decide +kernel : decode tc_lc 2 = .ok (.arraylength, 1)) ?_
  have hPre : PreS s s.heap (tx_Pc G lyT lyF lenA sn lyN nR roA rs nf nm ss s.heap.size [.int (nI k), .int (nI n)] z none) [.int (nI k), .int (nI n)] := ⟨tx_blind, fun U hU hW => tx_in S' hP hK hro hS (fun q h => by cases h) hU hW⟩
  refine mm_back (out := (none, z)) (va_runS S' (tx_ci hk hn) ⟨callB_of 2 hts (tx_good tw_ci) rfl rfl rfl (hts _ ti_ci) (hts _ tl_ci) ⟨by decide, by decide, by decide +kernel⟩ ⟨by decide, by decide⟩, hts _ ts_ci⟩ hPre rfl rfl hla rfl (lv_room (by decide)) (by decide +kernel : decode tc_lc 3 = .ok (.invokestatic 9, 3)) ⟨Nat.zero_le _, Nat.zero_le _⟩) hS (tx_hB hS) (fun H1 locs1 hP1 hS1 => ?_)
  refine lv_aload_n (i := 0) hx hb (by decide +kernel : decode tc_lc 6 = .ok (.aload_n 0, 1)) rfl (hl 0 0 _ rfl) ?_
  refine lv_iload_n (i := 1) hx hb (by decide +kernel : decode tc_lc 7 = .ok (.iload_n 1, 1)) rfl (hl 1 1 _ rfl) ?_
  refine va_tb (v := .int (f k)) hx hb hT hS1 (vp_in_nI hk hn) (by rw [nI_clamp (by omega)]) (by decide +kernel : decode tc_lc 8 = .ok (.baload, 1)) ?_
  refine lv_sipush (v := 255) hx hb (by decide +kernel : decode tc_lc 9 = .ok (.sipush 255, 3)) rfl ?_
  refine lv_iand hx hb (by decide +kernel : decode tc_lc 12 = .ok (.iand, 1)) ?_
  refine lv_i2c hx hb (by decide +kernel : decode tc_lc 13 = .ok (.i2c, 1)) (sc_c2 _) ?_
  exact W.zret hx hb hr (sc_nar _) (fun t' ht hW => ⟨⟨f k &&& 255, (), rfl, rfl, by show mm_H G lyT lyF lenA sn lyN z t'.heap; rw [ht]; exact hP1⟩, hS1.F ht⟩) hS1.2.2 (by decide +kernel : decode tc_lc 14 = .ok (.ireturn, 1))
theorem tx_co {l : Launch} {sz : Nat} {z : mm_S} {i : Nat} (hi : i < 17) : Met l ty_co (.code ty_co tc_co 1 (some .byte) :: lw_gd) { frames := 0, cells := 0, slots := 0, locals := 0 } (tx_Pc G lyT lyF lenA sn lyN nR roA rs nf nm ss sz [.ref (G.2.1 i)] z none) (mm_Q G (mm_A G lyN sz) lyT lyF lenA sn lyN (some (mm_I 0), z)) 0 0 (mm_A G lyN sz) := by
  refine tx_of (by decide +kernel) (Nat.le_refl 1) ?_
  intro p e s m args below meth c la S hr hlk hK hro hP hE hla hl
  obtain ⟨hx, hb, hml, ho, hts⟩ := S
  have hS : va_S (mm_A G lyN s.heap.size) s.heap s.heap [] := va_S.rf
  obtain ⟨adV, hv⟩ := hro.2.2.1
  obtain ⟨g1, g2, g3, g4⟩ := hv.1 i hi
  refine va_gets hx hb hro.2.2.2.1 hS ho (hts _ tf_38) (fun _ h => h) (by decide +kernel : decode tc_co 0 = .ok (.getstatic 38, 3)) ?_
  refine lv_if_eq hx hb (tgt := 13) (by decide +kernel : decode tc_co 3 = .ok (.ifCond .eq 10, 3)) rfl (fun q => absurd q (by decide)) (fun _ => ?_)
  refine lv_aload_n (i := 0) hx hb (by decide +kernel : decode tc_co 6 = .ok (.aload_n 0, 1)) rfl (hl 0 0 _ rfl) ?_
  refine vk_getf hx hb g2 hS ho (hts _ tf_15) (fun _ h => h) (by decide +kernel : decode tc_co 7 = .ok (.getfield 15, 3)) ?_
  refine lv_goto hx hb (tgt := 14) (by decide +kernel : decode tc_co 10 = .ok (.goto 4, 3)) rfl ?_
  exact W.zret hx hb hr rfl (fun t ht hW => ⟨⟨0, (), rfl, rfl, by show mm_H G lyT lyF lenA sn lyN z t.heap; rw [ht]; exact hP⟩, hS.F ht⟩) hS.2.2 (by decide +kernel : decode tc_co 14 = .ok (.ireturn, 1))
theorem tx_la {l : Launch} {sz : Nat} {z : mm_S} {i : Nat} (hi : i < 17) : Met l ty_la (.code ty_la tc_la 1 (some .boolean) :: lw_gd) { frames := 0, cells := 0, slots := 0, locals := 0 } (tx_Pc G lyT lyF lenA sn lyN nR roA rs nf nm ss sz [.ref (G.2.1 i)] z none) (mm_Q G (mm_A G lyN sz) lyT lyF lenA sn lyN (some (mm_I 1), z)) 0 0 (mm_A G lyN sz) := by
  refine tx_of (by decide +kernel) (Nat.le_refl 1) ?_
  intro p e s m args below meth c la S hr hlk hK hro hP hE hla hl
  obtain ⟨hx, hb, hml, ho, hts⟩ := S
  have hS : va_S (mm_A G lyN s.heap.size) s.heap s.heap [] := va_S.rf
  obtain ⟨adV, hv⟩ := hro.2.2.1
  obtain ⟨g1, g2, g3, g4⟩ := hv.1 i hi
  refine va_gets hx hb hro.2.2.2.1 hS ho (hts _ tf_38) (fun _ h => h) (by decide +kernel : decode tc_la 0 = .ok (.getstatic 38, 3)) ?_
  refine lv_if_eq hx hb (tgt := 17) (by decide +kernel : decode tc_la 3 = .ok (.ifCond .eq 14, 3)) rfl (fun q => absurd q (by decide)) (fun _ => ?_)
  refine lv_aload_n (i := 0) hx hb (by decide +kernel : decode tc_la 6 = .ok (.aload_n 0, 1)) rfl (hl 0 0 _ rfl) ?_
  refine vk_getf hx hb g2 hS ho (hts _ tf_15) (fun _ h => h) (by decide +kernel : decode tc_la 7 = .ok (.getfield 15, 3)) ?_
  refine lv_if_ne hx hb (tgt := 17) (by decide +kernel : decode tc_la 10 = .ok (.ifCond .ne 7, 3)) rfl (fun q => absurd rfl q) (fun _ => ?_)
  refine lv_iconst hx hb (v := 1) (by decide +kernel : decode tc_la 13 = .ok (.iconst 1, 1)) rfl ?_
  refine lv_goto hx hb (tgt := 18) (by decide +kernel : decode tc_la 14 = .ok (.goto 4, 3)) rfl ?_
  exact W.zret hx hb hr rfl (fun t ht hW => ⟨⟨1, (), rfl, rfl, by show mm_H G lyT lyF lenA sn lyN z t.heap; rw [ht]; exact hP⟩, hS.F ht⟩) hS.2.2 (by decide +kernel : decode tc_la 18 = .ok (.ireturn, 1))
theorem tx_length {l : Launch} {sz : Nat} {z : mm_S} {i : Nat} (hi : i < 17) : Met l ty_len (.code ty_len tc_len 1 (some .int) :: lw_gd) { frames := 1, cells := 0, slots := 0, locals := 20 } (tx_Pc G lyT lyF lenA sn lyN nR roA rs nf nm ss sz [.ref (G.2.1 i)] z none) (mm_Q G (mm_A G lyN sz) lyT lyF lenA sn lyN (some (mm_I (tx_len i)), z)) 0 0 (mm_A G lyN sz) := by
  refine tx_of (by decide +kernel) (Nat.le_refl 1) ?_
  intro p e s m args below meth c la S hr hlk hK hro hP hE hla hl
  have S' := S
  obtain ⟨hx, hb, hml, ho, hts⟩ := S
  have hS : va_S (mm_A G lyN s.heap.size) s.heap s.heap [] := va_S.rf
  obtain ⟨adV, hv⟩ := hro.2.2.1
  obtain ⟨g1, g2, g3, g4⟩ := hv.1 i hi
  refine lv_aload_n (i := 0) hx hb (by decide +kernel : decode tc_len 0 = .ok (.aload_n 0, 1)) rfl (hl 0 0 _ rfl) ?_
  refine vk_getf hx hb g3 hS ho (hts _ tf_9) (fun _ h => h) (by decide +kernel : decode tc_len 1 = .ok (.getfield 9, 3)) ?_
  refine va_tlen (v := tx_len i) hx hb g4 hS rfl (by decide +kernel : decode tc_len 4 = .ok (.arraylength, 1)) ?_
  refine lv_aload_n (i := 0) hx hb (by decide +kernel : decode tc_len 5 = .ok (.aload_n 0, 1)) rfl (hl 0 0 _ rfl) ?_
  have hroom : (List.map (fun v => v.category) [Value.int (tx_len i)]).sum ≤ 8 := Nat.le_of_ble_eq_true rfl
  have hPre : PreV s s.heap ty_co.cls (G.2.1 i) (tx_Pc G lyT lyF lenA sn lyN nR roA rs nf nm ss s.heap.size [.ref (G.2.1 i)] z none) [] := ⟨tx_blind, vk_recv hv hi hS, fun U hU hW => tx_in S' hP hK hro hS (fun q h => by cases h) hU hW⟩
  refine mm_back (out := (some (mm_I 0), z)) (va_runV S' (tx_co hi) ⟨callB_of 0 hts (tx_good tw_co) rfl rfl rfl (hts _ ti_co) (hts _ tl_co) ⟨by decide, by decide, by decide +kernel⟩ ⟨by decide, by decide⟩, hts _ tv_co, hts _ tz_co⟩ hPre rfl rfl hla rfl (lv_room (m := m) (pc := 6) (ls := la) (rest := [.int (tx_len i)]) hroom) (by decide +kernel : decode tc_len 6 = .ok (.invokevirtual 335, 3)) ⟨Nat.zero_le _, Nat.zero_le _⟩) hS (tx_hB hS) (fun H1 locs1 hP1 hS1 => ?_)
  refine lv_ishr hx hb (by decide +kernel : decode tc_len 9 = .ok (.ishr, 1)) ?_
  have e0 : tx_len i >>> ((0 : Int32) &&& 31) = tx_len i := sc_shr0 (tx_sl i hi)
  rw [e0]
  exact W.iret hx hb hr (fun t ht hW => ⟨⟨tx_len i, (), rfl, rfl, by show mm_H G lyT lyF lenA sn lyN z t.heap; rw [ht]; exact hP1⟩, hS1.F ht⟩) hS1.2.2 (by decide +kernel : decode tc_len 10 = .ok (.ireturn, 1))
theorem tx_charAt {l : Launch} {sz : Nat} {z : mm_S} {i k : Nat} (hi : i < 17) (hk : k < mm_sl.getD i 0) : Met l ty_ch (.code ty_ch tc_ch 2 (some .char) :: lw_gd) { frames := 3, cells := 0, slots := 0, locals := 64 } (tx_Pc G lyT lyF lenA sn lyN nR roA rs nf nm ss sz [.ref (G.2.1 i), .int (nI k)] z none) (mm_Q G (mm_A G lyN sz) lyT lyF lenA sn lyN (some (mm_I (tx_ch i k)), z)) 0 0 (mm_A G lyN sz) := by
  refine tx_of (by decide +kernel) (Nat.le_refl 2) ?_
  intro p e s m args below meth c la S hr hlk hK hro hP hE hla hl
  have S' := S
  obtain ⟨hx, hb, hml, ho, hts⟩ := S
  have hS : va_S (mm_A G lyN s.heap.size) s.heap s.heap [] := va_S.rf
  obtain ⟨adV, hv⟩ := hro.2.2.1
  obtain ⟨g1, g2, g3, g4⟩ := hv.1 i hi
  refine lv_aload_n (i := 0) hx hb (by decide +kernel : decode tc_ch 0 = .ok (.aload_n 0, 1)) rfl (hl 0 0 _ rfl) ?_
  have hPre : PreV s s.heap ty_la.cls (G.2.1 i) (tx_Pc G lyT lyF lenA sn lyN nR roA rs nf nm ss s.heap.size [.ref (G.2.1 i)] z none) [] := ⟨tx_blind, vk_recv hv hi hS, fun U hU hW => tx_in S' hP hK hro hS (fun q h => by cases h) hU hW⟩
  refine mm_back (out := (some (mm_I 1), z)) (va_runV S' (tx_la hi) ⟨callB_of 0 hts (tx_good tw_la) rfl rfl rfl (hts _ ti_la) (hts _ tl_la) ⟨by decide, by decide, by decide +kernel⟩ ⟨by decide, by decide⟩, hts _ tv_la, hts _ tz_la⟩ hPre rfl rfl hla rfl (lv_room (by decide)) (by decide +kernel : decode tc_ch 1 = .ok (.invokevirtual 492, 3)) ⟨Nat.zero_le _, Nat.zero_le _⟩) hS (tx_hB hS) (fun H1 locs1 hP1 hS1 => ?_)
  refine lv_if_eq hx hb (tgt := 16) (by decide +kernel : decode tc_ch 4 = .ok (.ifCond .eq 12, 3)) rfl (fun q => absurd q (by decide)) (fun _ => ?_)
  refine lv_aload_n (i := 0) hx hb (by decide +kernel : decode tc_ch 7 = .ok (.aload_n 0, 1)) rfl (hl 0 0 _ rfl) ?_
  refine vk_getf hx hb g3 hS1 ho (hts _ tf_9) (fun _ h => h) (by decide +kernel : decode tc_ch 8 = .ok (.getfield 9, 3)) ?_
  refine lv_iload_n (i := 1) hx hb (by decide +kernel : decode tc_ch 11 = .ok (.iload_n 1, 1)) rfl (hl 1 1 _ rfl) ?_
  have hPre2 : PreS s H1 (tx_Pc G lyT lyF lenA sn lyN nR roA rs nf nm ss H1.size [.ref (adV i), .int (nI k)] z (some (adV i, mm_sl.getD i 0, fun j => (mm_sb.getD i []).getD j 0))) [.ref (adV i), .int (nI k)] := ⟨tx_blind, fun U hU hW => tx_in S' hP1 hK hro hS1 (fun q h => by cases h; exact g4) hU hW⟩
  refine mm_back (out := (some (mm_I (tx_ch i k)), z)) (va_runS S' (tx_lc hk (tx_sl i hi)) ⟨callB_of 2 hts (tx_good tw_lc) rfl rfl rfl (hts _ ti_lc) (hts _ tl_lc) ⟨by decide, by decide, by decide +kernel⟩ ⟨by decide, by decide⟩, hts _ ts_lc⟩ hPre2 rfl rfl hla rfl (lv_room (by decide)) (by decide +kernel : decode tc_ch 12 = .ok (.invokestatic 495, 3)) ⟨Nat.zero_le _, Nat.zero_le _⟩) hS1 (tx_hB hS1) (fun H2 locs2 hP2 hS2 => ?_)
  exact W.zret hx hb hr (sc_nar _) (fun t ht hW => ⟨⟨tx_ch i k, (), rfl, rfl, by show mm_H G lyT lyF lenA sn lyN z t.heap; rw [ht]; exact hP2⟩, hS2.F ht⟩) hS2.2.2 (by decide +kernel : decode tc_ch 15 = .ok (.ireturn, 1))
end STRS
/-! the two of them as contracts of the small machine; calls of them -/
def f_J0_length_8abf5 (as : List mm_V) (z : mm_S) (o : mm_R) : Prop := ∃ i, i < 17 ∧ as = [mm_P 20 i] ∧ o = (some (mm_I (tx_len i)), z)
def f_J0_charAt_5068e (as : List mm_V) (z : mm_S) (o : mm_R) : Prop := ∃ i k, i < 17 ∧ k < mm_sl.getD i 0 ∧ as = [mm_P 20 i, mm_I (nI k)] ∧ o = (some (mm_I (tx_ch i k)), z)
def tx_at (i : Nat) (k : Int32) (z : mm_S) : Option (Int32 × mm_S) := if k < 0 ∨ mm_sl.getD i 0 ≤ Int32.toNatClampNeg k then none else some (tx_ch i (Int32.toNatClampNeg k), z)
section STM
variable {lyT : Nat → Nat} {lyF : Nat → List (Nat × Nat × Nat × Nat)} {lenA : Nat → Nat} {sn : Nat → Nat → Nat} {lyN nR : Nat} {roA : Nat → Nat → Int32} {rs : mm_rs} {nf : mm_nf} {nm : mm_nm} {ss : mm_ss}
theorem tx_Met {l : Launch} {G : mm_G} {y : MethodName} {ws : List Cond} {rm : Room} {sz : Nat} {as : List mm_V} {z : mm_S} {Q : Array Value → State → Outcome → State → Prop} {fr : Nat → Prop} (h : Met l y ws rm (tx_Pc G lyT lyF lenA sn lyN nR roA rs nf nm ss sz (as.map (mm_tr G)) z none) Q 0 0 fr) : Met l y ws rm (mm_Pc G lyT lyF lenA sn lyN nR roA rs nf nm ss sz as z) Q 0 0 fr := by
  have e : mm_Pc G lyT lyF lenA sn lyN nR roA rs nf nm ss sz as z = tx_Pc G lyT lyF lenA sn lyN nR roA rs nf nm ss sz (as.map (mm_tr G)) z none := by
    funext a U
    refine propext ⟨fun q => ⟨q.1, q.2.1, q.2.2.1, q.2.2.2.1, q.2.2.2.2, fun x h => by cases h⟩, fun q => ⟨q.1, q.2.1, q.2.2.1, q.2.2.2.1, q.2.2.2.2.1⟩⟩
  rw [e]
  exact h
theorem M_J0_length_8abf5 : mm_M lyT lyF lenA sn lyN nR 17 roA rs nf nm ss ty_len tc_len 1 (some .int) { frames := 1, cells := 0, slots := 0, locals := 20 } f_J0_length_8abf5 := by
  intro l G sz as z o hinj hok hf
  obtain ⟨i, hi, rfl, rfl⟩ := hf
  exact tx_Met (tx_length hi)
theorem M_J0_charAt_5068e : mm_M lyT lyF lenA sn lyN nR 17 roA rs nf nm ss ty_ch tc_ch 2 (some .char) { frames := 3, cells := 0, slots := 0, locals := 64 } f_J0_charAt_5068e := by
  intro l G sz as z o hinj hok hf
  obtain ⟨i, k, hi, hk, rfl, rfl⟩ := hf
  exact tx_Met (tx_charAt hi hk)
def clo_J0_length_8abf5 (as : List mm_V) (z : mm_S) (kk : Option mm_V → mm_S → Option mm_R) : Option mm_R := mm_pr as fun t o0 as => bif Nat.beq t 20 then (match as with | [] => kk (some (mm_I (tx_len o0))) z | _ => none) else none
def clo_J0_charAt_5068e (as : List mm_V) (z : mm_S) (kk : Option mm_V → mm_S → Option mm_R) : Option mm_R := mm_pr as fun t o0 as => bif Nat.beq t 20 then mm_pi as fun a1 as => (match as with | [] => (tx_at o0 a1 z).bind fun q => kk (some (mm_I q.1)) q.2 | _ => none) else none
theorem tx_ok {o : Nat} (h : mm_ok lyN lyT nR 17 (mm_P 20 o)) : o < 17 := by
  rcases h with h | h | h
  · exact h.2
  · exact absurd h.1 (by simp)
  · exact absurd rfl h.1
theorem cs_J0_length_8abf5 : mm_cs lyT lyN nR 17 f_J0_length_8abf5 clo_J0_length_8abf5 := by
  intro as z K o hk h
  obtain ⟨t0, o0, r0, rfl, g0⟩ := mm_pr_e h
  obtain ⟨b0, k0⟩ := mm_bif_e g0
  obtain rfl := Nat.eq_of_beq_eq_true b0
  rcases r0 with _ | ⟨u, w⟩
  rotate_left
  · cases k0
  exact ⟨_, _, ⟨o0, tx_ok (hk _ List.mem_cons_self), rfl, rfl⟩, fun v hv => by cases hv; exact Or.inl ⟨_, rfl⟩, k0⟩
theorem cs_J0_charAt_5068e : mm_cs lyT lyN nR 17 f_J0_charAt_5068e clo_J0_charAt_5068e := by
  intro as z K o hk h
  obtain ⟨t0, o0, r0, rfl, g0⟩ := mm_pr_e h
  obtain ⟨b0, k0⟩ := mm_bif_e g0
  obtain rfl := Nat.eq_of_beq_eq_true b0
  obtain ⟨a1, r1, rfl, g1⟩ := mm_pi_e k0
  rcases r1 with _ | ⟨u, w⟩
  rotate_left
  · cases g1
  obtain ⟨q, hq, hq2⟩ := Option.bind_eq_some_iff.mp g1
  have hq : tx_at o0 a1 z = some q := hq
  unfold tx_at at hq
  by_cases hc : a1 < 0 ∨ mm_sl.getD o0 0 ≤ Int32.toNatClampNeg a1
  · rw [if_pos hc] at hq
    cases hq
  · rw [if_neg hc] at hq
    obtain rfl := Option.some.inj hq
    have h0 : ¬ a1 < 0 := fun x => hc (Or.inl x)
    obtain ⟨j, hj, rfl⟩ := nI_of h0
    have hc2 : ¬ mm_sl.getD o0 0 ≤ Int32.toNatClampNeg (nI j) := fun x => hc (Or.inr x)
    rw [nI_clamp hj] at hc2 hq2
    exact ⟨_, _, ⟨o0, j, tx_ok (hk _ List.mem_cons_self), Nat.lt_of_not_le hc2, rfl, rfl⟩, fun v hv => by cases hv; exact Or.inl ⟨_, rfl⟩, hq2⟩
end STM
section STT
variable (lyT : Nat → Nat) (lyF : Nat → List (Nat × Nat × Nat × Nat)) (lenA : Nat → Nat) (sn : Nat → Nat → Nat) (lyN nR : Nat) (roA : Nat → Nat → Int32) (rs : mm_rs) (nf : mm_nf) (nm : mm_nm) (ss : mm_ss)
/-- a call of a text's method -/
def mm_okT (own : String) (R : Room) (ar : Nat → Nat) (k : Nat) (cl : List mm_V → mm_S → (Option mm_V → mm_S → Option mm_R) → Option mm_R) : Prop :=
  ∃ (y : MethodName) (bytes : ByteArray) (maxL : Nat) (ret : Option FieldType) (rmc : Room) (fc : List mm_V → mm_S → mm_R → Prop) (n : Nat), mm_M lyT lyF lenA sn lyN nR 17 roA rs nf nm ss y bytes maxL ret rmc fc ∧ mm_cs lyT lyN nR 17 fc cl ∧
    Cond.methodLink own k y ∈ lw_gd ∧ (Cond.instanceMethod y ∈ lw_gd ∧ Cond.selects y.cls y y ∈ lw_gd ∧ Cond.initialized y.cls ∈ lw_gd ∧ Cond.code y bytes maxL ret ∈ lw_gd) ∧
    (y.cls ≠ "java/lang/invoke/MethodHandle" ∧ y.cls ≠ "java/lang/invoke/VarHandle" ∧ (parseMethodDescriptor y.desc).map (fun d => d.parameters.length) = some n) ∧ ar k = n + 1 ∧ y.cls = "java/lang/String" ∧
    (∀ (as : List mm_V) (z : mm_S) (K : Option mm_V → mm_S → Option mm_R) (o : mm_R), cl as z K = some o → ∃ a as', as = mm_P 20 a :: as') ∧ (rmc.cells = 0 ∧ rmc.slots = 0 ∧ rmc.frames + 1 ≤ R.frames ∧ 8 + (maxL + 11) + rmc.locals ≤ R.locals)
end STT
theorem sT_J0_length_8abf5 {lyT : Nat → Nat} {lyF : Nat → List (Nat × Nat × Nat × Nat)} {lenA : Nat → Nat} {sn : Nat → Nat → Nat} {lyN nR : Nat} {roA : Nat → Nat → Int32} {rs : mm_rs} {nf : mm_nf} {nm : mm_nm} {ss : mm_ss} {own : String} {R : Room} {ar : Nat → Nat} {k : Nat} (hlink : Cond.methodLink own k yJ0_length_8abf5 ∈ lw_gd) (har : ar k = 1) (hr : 2 ≤ R.frames ∧ 40 ≤ R.locals) : mm_okT lyT lyF lenA sn lyN nR roA rs nf nm ss own R ar k clo_J0_length_8abf5 := by
  refine ⟨ty_len, tc_len, 1, some .int, _, _, 0, M_J0_length_8abf5, cs_J0_length_8abf5, hlink, ⟨tv_len, tz_len, ti_len, tw_len⟩, ⟨by decide +kernel, by decide +kernel, by decide +kernel⟩, har, rfl, ?_, ⟨rfl, rfl, hr.1, hr.2⟩⟩
  intro as z K o h
  obtain ⟨t0, o0, r0, rfl, g0⟩ := mm_pr_e h
  obtain ⟨b0, k0⟩ := mm_bif_e g0
  obtain rfl := Nat.eq_of_beq_eq_true b0
  exact ⟨_, _, rfl⟩
theorem sT_J0_charAt_5068e {lyT : Nat → Nat} {lyF : Nat → List (Nat × Nat × Nat × Nat)} {lenA : Nat → Nat} {sn : Nat → Nat → Nat} {lyN nR : Nat} {roA : Nat → Nat → Int32} {rs : mm_rs} {nf : mm_nf} {nm : mm_nm} {ss : mm_ss} {own : String} {R : Room} {ar : Nat → Nat} {k : Nat} (hlink : Cond.methodLink own k yJ0_charAt_5068e ∈ lw_gd) (har : ar k = 2) (hr : 4 ≤ R.frames ∧ 85 ≤ R.locals) : mm_okT lyT lyF lenA sn lyN nR roA rs nf nm ss own R ar k clo_J0_charAt_5068e := by
  refine ⟨ty_ch, tc_ch, 2, some .char, _, _, 1, M_J0_charAt_5068e, cs_J0_charAt_5068e, hlink, ⟨tv_ch, tz_ch, ti_ch, tw_ch⟩, ⟨by decide +kernel, by decide +kernel, by decide +kernel⟩, har, rfl, ?_, ⟨rfl, rfl, hr.1, hr.2⟩⟩
  intro as z K o h
  obtain ⟨t0, o0, r0, rfl, g0⟩ := mm_pr_e h
  obtain ⟨b0, k0⟩ := mm_bif_e g0
  obtain rfl := Nat.eq_of_beq_eq_true b0
  exact ⟨_, _, rfl⟩
section STC
variable {p : Program} {l : Launch} {e : Env} {R : Room} {s : State} {m : MethodId} {args : Array Value} {below : List Frame} {meth : Method} {c : Code} {G : mm_G} {A : Nat → Prop} {lyT : Nat → Nat} {lyF : Nat → List (Nat × Nat × Nat × Nat)} {lenA : Nat → Nat} {sn : Nat → Nat → Nat} {lyN nR nL : Nat} {roA : Nat → Nat → Int32} {rs : mm_rs} {nf : mm_nf} {nm : mm_nm} {ss : mm_ss} {cc : ByteArray}
theorem mm_CC_T {own : String} {ar : Nat → Nat} {lst : List (Nat × (List mm_V → mm_S → (Option mm_V → mm_S → Option mm_R) → Option mm_R))} {mf : Nat → List mm_V → mm_S → (Option mm_V → mm_S → Option mm_R) → Option mm_R}
    (hmf : ∀ k as z kk, mf k as z kk = match mm_at lst k with
      | some f => f as z kk
      | none => none) (S : CallFix p m c cc nL s args lw_gd own) (hK : va_K G.2.2.2 vwCl (mm_ty G) s) (hro : mm_ro G lenA lyN nR roA rs nf nm ss A s s.heap) (hinj : ∀ i j, i < lyN → j < lyN → G.1 i = G.1 j → i = j) (hA : ∀ k, k < lyN → A (G.1 k)) (hA2 : ∀ q, s.heap.size ≤ q → A q)
    (hl : ∀ q ∈ lst, mm_okV lyT lyF lenA sn lyN nR 17 roA rs nf nm ss own R ar q.1 q.2 ∨ mm_okT lyT lyF lenA sn lyN nR roA rs nf nm ss own R ar q.1 q.2) : mm_CC p l e R s m args below meth c G A lyT lyF lenA sn lyN nR 17 nL cc (fun k => .invokevirtual k) ar mf := by
  intro k as z K o h hlen hok pc la rest H locs hd hsz hrest hP hS kk
  have h' := h
  rw [hmf] at h
  cases hq : mm_at lst k with
  | none => rw [hq] at h; cases h
  | some cl =>
    rw [hq] at h
    have h : cl as z K = some o := h
    rcases hl _ (mm_at_mem hq) with hv | ht
    · have e : mm_at [(k, cl)] k = some cl := by
        unfold mm_at
        rw [Nat.beq_refl]
        rfl
      exact mm_CC_V (mf := fun k' as' z' kk' => match mm_at [(k, cl)] k' with
        | some f => f as' z' kk'
        | none => none) (lst := [(k, cl)]) (fun _ _ _ _ => rfl) S hK hro hinj hA hA2 (fun q hq => by
          rcases List.mem_cons.mp hq with rfl | hq
          · exact hv
          · cases hq) k as z K o (by
          show (match mm_at [(k, cl)] k with
            | some f => f as z K
            | none => none) = some o
          rw [e]
          exact h) hlen hok pc la rest H locs hd hsz hrest hP hS kk
    · obtain ⟨y, bytes, maxL, ret, rmc, fc, n, hM, hcs, hlink, ⟨hw1, hw2, hw3, hw4⟩, ⟨hy1, hy2, hy3⟩, har, hq2, hrecv, hr1, hr2, hr3, hr4⟩ := ht
      obtain ⟨r, z', hf, hrn, hKo⟩ := hcs as z K o hok h
      obtain ⟨a, as', rfl⟩ := hrecv as z K o h
      obtain ⟨hx, hb, hml, ho, hts⟩ := S
      have hB : ∀ q, mm_A G lyN H.size q → A q := fun q h => by
        rcases h with ⟨j, h1, rfl⟩ | h
        · exact hA j h1
        · exact hA2 q (Nat.le_trans hS.1 h)
      have ha17 : a < 17 := tx_ok (List.forall_mem_cons.mp hok).1
      obtain ⟨adV, hvS⟩ := hro.2.2.1
      have hrc := vk_recv hvS ha17 hS
      have htr : mm_tr G (mm_P 20 a) = .ref (G.2.1 a) := rfl
      have hMet := hM l G H.size (mm_P 20 a :: as') z (r, z') hinj hok hf
      have hG : GoodIn lw_gd (.code y bytes maxL ret :: lw_gd) := tx_good hw4
      have hn : (as'.map (mm_tr G)).length = n := by
        rw [List.length_map]
        have h1 : as'.length + 1 = ar k := hlen
        exact Nat.succ.inj (h1.trans har)
      have hPre : PreV s H y.cls (G.2.1 a) (mm_Pc G lyT lyF lenA sn lyN nR roA rs nf nm ss H.size (mm_P 20 a :: as') z) (as'.map (mm_tr G)) := ⟨mm_blind, by rw [hq2]; exact hrc, fun U hU hW => by
        have := mm_Pc_in (as := mm_P 20 a :: as') hB hP hK hro hS hU hW
        rw [List.map_cons, htr] at this
        exact this⟩
      have hrun : va_Run p l e R s m args below meth c H locs 0 0 0 0 (F0 m pc la ((as'.map (mm_tr G)).reverse ++ .ref (G.2.1 a) :: rest)) rest (mm_Q G (mm_A G lyN H.size) lyT lyF lenA sn lyN (r, z') (Value.ref (G.2.1 a) :: as'.map (mm_tr G)).toArray) (mm_A G lyN H.size) :=
        va_runV ⟨hx, hb, hml, ho, hts⟩ hMet ⟨callB_of n hts hG rfl hr1 hr2 (hts _ hw3) (hts _ hlink) ⟨hy1, hy2, hy3⟩ ⟨hr3, hr4⟩, hts _ hw1, hts _ hw2⟩ hPre rfl hn hsz rfl (lv_room hrest) hd ⟨Nat.zero_le _, Nat.zero_le _⟩
      have := mm_back hrun hS hB (fun H1 locs1 hP1 hS1 => kk r z' H1 locs1 hKo (fun v hv => by
        rcases hrn v hv with ⟨x, rfl⟩ | ⟨x, rfl⟩
        · trivial
        · trivial) hP1 hS1)
      rw [List.map_cons, htr, List.reverse_cons, List.append_assoc]
      exact this
end STC
section MMMT
variable {lyT : Nat → Nat} {lyF : Nat → List (Nat × Nat × Nat × Nat)} {lenA : Nat → Nat} {sn : Nat → Nat → Nat} {lyN nR nL : Nat} {roA : Nat → Nat → Int32} {rs : mm_rs} {nf : mm_nf} {nm : mm_nm} {ss : mm_ss} {cc : ByteArray}
/-- a method's contract out of its run in the small machine -/
theorem mm_mett {y : MethodName} {ret : Option FieldType} {rm : Room} {rt : Nat} {fl : List (Nat × mm_F)} {cl gl : List (Nat × mm_V)} {arV arS : Nat → Nat} {lV lS : List (Nat × (List mm_V → mm_S → (Option mm_V → mm_S → Option mm_R) → Option mm_R))} {mV mS : Nat → List mm_V → mm_S → (Option mm_V → mm_S → Option mm_R) → Option mm_R}
    {tbl : List (Nat × Instr × Nat)} {cut : List (Nat × List Nat)} (hy : plainName y.cls = true) (hret : (rt = 0 → ret = some .int) ∧ (rt = 1 → ret = some .boolean) ∧ (rt = 2 → ret = some .long) ∧ (rt = 3 → ret = none)) (htb : ∀ q ∈ tbl, decode cc q.1 = .ok q.2)
    (hsn : ∀ k j, k < lyN → lyT k = 13 → j < lenA k → sn k j < 17) (hfl : ∀ q ∈ fl, mm_okF lyT lyF lyN nf y.cls q.1 q.2) (hcl : ∀ q ∈ cl, mm_okL 17 rs y.cls q.1 q.2) (hgl : ∀ q ∈ gl, mm_okG lyN nR nf ss y.cls q.1 q.2)
    (hmV : ∀ k as z kk, mV k as z kk = match mm_at lV k with
      | some f => f as z kk
      | none => none) (hmS : ∀ k as z kk, mS k as z kk = match mm_at lS k with
      | some f => f as z kk
      | none => none) (hlV : ∀ q ∈ lV, mm_okV lyT lyF lenA sn lyN nR 17 roA rs nf nm ss y.cls rm arV q.1 q.2 ∨ mm_okT lyT lyF lenA sn lyN nR roA rs nf nm ss y.cls rm arV q.1 q.2) (hlS : ∀ q ∈ lS, mm_okS lyT lyF lenA sn lyN nR 17 roA rs nf nm ss y.cls rm arS q.1 q.2) :
    mm_M lyT lyF lenA sn lyN nR 17 roA rs nf nm ss y cc nL ret rm (fun as z o => (as.map mm_cat).sum ≤ nL ∧ ∃ n, mm_go (fun k => mm_at fl k) (fun k => mm_at cl k) (fun k => mm_at gl k) arV arS mV mS lenA roA sn nL rt tbl cut n 0 (mm_ar 0 as) [] z = some o) := by
  intro l G sz as z o hinj hok hgo
  obtain ⟨hlen, n, hgo⟩ := hgo
  refine Met.ofW (cc := cc) (maxL := nL) (ret := ret) hy rfl ?_
  intro p e s m args below meth c s₁ B hml hv
  obtain ⟨rfl, hsz, hP, hK, hro⟩ := hv
  have hx := B.exec
  have hb := B.bytes
  have hr := B.returns
  have hts0 := atoms_spec (ws := .code y cc nL ret :: lw_gd) B.pre
  have hts : ∀ w ∈ lw_gd, w.before (as.map (mm_tr G)).toArray s = true := fun w hw => hts0 w (List.mem_cons_of_mem _ hw)
  have hown : s.vm.findClass y.cls = some m.cls := findClass_of_methodNamed B.named
  subst hsz
  have hA : ∀ k, k < lyN → mm_A G lyN s.heap.size (G.1 k) := fun k hk => Or.inl ⟨k, hk, rfl⟩
  have hA2 : ∀ q, s.heap.size ≤ q → mm_A G lyN s.heap.size q := fun q h => Or.inr h
  have S : CallFix p m c cc nL s (as.map (mm_tr G)).toArray lw_gd y.cls := ⟨hx, hb, hml, hown, hts⟩
  have C : mm_C p s meth c G (mm_A G lyN s.heap.size) lyT lenA sn lyN nR 17 nL cc roA := ⟨hx, hb, hml, hK, B.notSynchronized, hinj, hA, hro.1, hsn⟩
  have C1 : mm_C1 meth rt := ⟨fun h => by rw [hr]; exact hret.1 h, fun h => by rw [hr]; exact hret.2.1 h, fun h => by rw [hr]; exact hret.2.2.1 h, fun h => by rw [hr]; exact hret.2.2.2 h⟩
  have hto := mm_go_to (p := p) (l := l) (e := e) (R := rm) (s := s) (m := m) (args := (as.map (mm_tr G)).toArray) (below := below) (meth := meth) (c := c) (G := G) (A := mm_A G lyN s.heap.size) (lyT := lyT) (lyF := lyF) (lenA := lenA) (sn := sn) (lyN := lyN) (nR := nR) (nS := 17) (nL := nL) (cc := cc) (roA := roA) (rt := rt)
    C C1 (mm_CG_of S hK hro hfl) (mm_CP_of S hK hro hinj hA hfl) (mm_CL_of S hro hcl hgl) (mm_CC_T hmV S hK hro hinj hA hA2 hlV) (mm_CC_S hmS S hK hro hinj hA hA2 hlS) htb n 0 (mm_ar 0 as) [] z hgo
  have hl := lv_entry (as.map (mm_tr G)) (n := nL) (by rw [mm_sl_len]; exact hlen)
  rw [mm_ar_tr] at hl
  rw [lg_entry_eq]
  exact hto (fun v hv => by cases hv) (mm_ar_ok as 0 hok) s.heap [] _ hP va_S.rf hl
end MMMT
