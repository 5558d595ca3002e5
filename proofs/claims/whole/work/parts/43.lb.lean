/-! ===== the law: one call of each (wip/gen/law.py) ===== -/
abbrev la_A (s : State) : Nat → Prop := fun q => s.heap.size ≤ q
def la_C (p : Program) (s : State) (m : MethodId) (meth : Method) (c : Code) (b L : Nat) (xs : Nat → Int32) (GX GM : mm_G) : Prop :=
  CallFix p m c code 4 s #[Value.ref b] lw_gd R_law ∧ meth.sig.returnType = ret ∧ meth.locks = false ∧ va_X b L xs s s.heap ∧ b < s.heap.size ∧ L ≤ 3072 ∧ va_K GX.2.2.2 vwCl (mm_ty GX) s ∧ va_K GM.2.2.2 vwCl (mm_ty GM) s ∧
  mm_ro GX lenX 46 48 roX rsA nfA nmA ssX (la_A s) s s.heap ∧ mm_ro GM lenM 22 22 roM rsA nfA nmA [] (la_A s) s s.heap ∧ (∀ i j, i < 46 → j < 46 → GX.1 i = GX.1 j → i = j) ∧ (∀ i j, i < 22 → j < 22 → GM.1 i = GM.1 j → i = j) ∧ (∀ i j, i < 46 → j < 22 → GX.1 i ≠ GM.1 j) ∧ (∀ i, i < 46 → s.heap.size ≤ GX.1 i) ∧ (∀ j, j < 22 → s.heap.size ≤ GM.1 j)
section LAW
variable {p : Program} {l : Launch} {e : Env} {s : State} {m : MethodId} {below : List Frame} {meth : Method} {c : Code} {b L : Nat} {xs : Nat → Int32} {H : Heap} {locs : List Loc} {Q : State → Prop}
/-- a number of the script comes on the stack -/
theorem la_arg {pc i jn : Nat} {v : Int} {la : Array Slot} {st : List Value} (hx : p.tables.exec = Jvm.exec) (hb : c.code = code) (hX : va_X b L xs s s.heap) (hbl : b < s.heap.size) (hL : L ≤ 3072) (hS : va_S (la_A s) s.heap H locs) (h0 : la[0]? = some (.val (.ref b))) (h3 : la[3]? = some (.val (.int (nI i)))) (hi : i + jn < L) (hv : Int32.ofInt v = nI jn)
    (d1 : decode code pc = .ok (.aload_n 0, 1)) (d2 : decode code (pc + 1) = .ok (.iload_n 3, 1)) (d3 : decode code (pc + 2) = .ok (.iconst v, 1)) (d4 : decode code (pc + 3) = .ok (.iadd, 1)) (d5 : decode code (pc + 4) = .ok (.iaload, 1))
    (kk : W p l e room_1 s m #[Value.ref b] below meth c H locs 68 2349 Q (F0 m (pc + 5) la (.int (xs (i + jn)) :: st))) : W p l e room_1 s m #[Value.ref b] below meth c H locs 68 2349 Q (F0 m pc la st) := by
  refine lv_aload_n (i := 0) hx hb d1 rfl h0 ?_
  refine lv_iload_n (i := 3) hx hb d2 rfl h3 ?_
  refine lv_iconst hx hb d3 hv ?_
  refine lv_iadd hx hb d4 ?_
  rw [nI_add]
  refine va_sld hx hb hX hbl (Nat.not_le.mpr hbl) hS (vp_in_nI hi (by omega)) d5 ?_
  rw [nI_clamp (by omega)]
  exact kk
section LAR
variable {G : mm_G} {lyT : Nat → Nat} {lyF : Nat → List (Nat × Nat × Nat × Nat)} {lenA : Nat → Nat} {sn : Nat → Nat → Nat} {lyN nR : Nat} {roA : Nat → Nat → Int32} {ss : mm_ss} {y : MethodName} {bytes : ByteArray} {maxL : Nat} {rt : Option FieldType} {rmc : Room} {fc : List mm_V → mm_S → mm_R → Prop} {ci n k pc a : Nat} {q : vw_C} {la : Array Slot} {rest : List Value} {as' : List mm_V} {z z' : mm_S} {r : Option mm_V}
theorem la_hB (hS : va_S (la_A s) s.heap H locs) (hadr : ∀ i, i < lyN → s.heap.size ≤ G.1 i) : ∀ q, mm_A G lyN H.size q → la_A s q := fun q h => by
  rcases h with ⟨j, h1, rfl⟩ | h
  · exact hadr j h1
  · exact Nat.le_trans hS.1 h
theorem la_run (S : CallFix p m c code 4 s #[Value.ref b] lw_gd R_law) (hK : va_K G.2.2.2 vwCl (mm_ty G) s) (hro : mm_ro G lenA lyN nR roA rsA nfA nmA ss (la_A s) s s.heap) (hinj : ∀ i j, i < lyN → j < lyN → G.1 i = G.1 j → i = j) (hadr : ∀ i, i < lyN → s.heap.size ≤ G.1 i)
    (hM : mm_M lyT lyF lenA sn lyN nR 17 roA rsA nfA nmA ss y bytes maxL rt rmc fc) (hw : Cond.instanceMethod y ∈ lw_gd ∧ Cond.selects y.cls y y ∈ lw_gd ∧ Cond.initialized y.cls ∈ lw_gd ∧ Cond.code y bytes maxL rt ∈ lw_gd) (hl : Cond.methodLink R_law k y ∈ lw_gd)
    (hy : y.cls ≠ "java/lang/invoke/MethodHandle" ∧ y.cls ≠ "java/lang/invoke/VarHandle" ∧ (parseMethodDescriptor y.desc).map (fun d => d.parameters.length) = some n) (hq : vwCl[ci]? = some q ∧ q.1 = y.cls ∧ ci < 5) (hrm : rmc.cells = 0 ∧ rmc.slots = 0 ∧ rmc.frames + 1 ≤ 12 ∧ 8 + (maxL + 11) + rmc.locals ≤ 440)
    (hok : ∀ v ∈ mm_P ci a :: as', mm_ok lyN lyT nR 17 v) (hn : as'.length = n) (hf : fc (mm_P ci a :: as') z (r, z')) (hP : mm_H G lyT lyF lenA sn lyN z H) (hS : va_S (la_A s) s.heap H locs) (hsz : la.size = 4) (hrest : (rest.map fun v => v.category).sum ≤ 8) (hd : decode code pc = .ok (.invokevirtual k, 3)) :
    va_Run p l e room_1 s m #[Value.ref b] below meth c H locs 68 2349 0 0 (F0 m pc la ((as'.map (mm_tr G)).reverse ++ .ref (G.1 a) :: rest)) rest (mm_Q G (mm_A G lyN H.size) lyT lyF lenA sn lyN (r, z') (Value.ref (G.1 a) :: as'.map (mm_tr G)).toArray) (mm_A G lyN H.size) := by
  obtain ⟨hw1, hw2, hw3, hw4⟩ := hw
  obtain ⟨hq1, hq2, hq3⟩ := hq
  obtain ⟨hr1, hr2, hr3, hr4⟩ := hrm
  obtain ⟨hx, hb, hml, ho, hts⟩ := S
  have hB := la_hB (G := G) (lyN := lyN) hS hadr
  obtain ⟨htr, hrc⟩ := mm_rec hK hP hq1 hq3 (List.forall_mem_cons.mp hok).1 (as := as')
  have hMet := hM l G H.size (mm_P ci a :: as') z (r, z') hinj hok hf
  have hG : GoodIn lw_gd (.code y bytes maxL rt :: lw_gd) := tx_good hw4
  have hn2 : (as'.map (mm_tr G)).length = n := by rw [List.length_map]; exact hn
  have hPre : PreV s H y.cls (G.1 a) (mm_Pc G lyT lyF lenA sn lyN nR roA rsA nfA nmA ss H.size (mm_P ci a :: as') z) (as'.map (mm_tr G)) := ⟨mm_blind, by rw [← hq2]; exact hrc, fun U hU hW => by
    have := mm_Pc_in (as := mm_P ci a :: as') hB hP hK hro hS hU hW
    rw [List.map_cons, htr] at this
    exact this⟩
  exact va_runV ⟨hx, hb, hml, ho, hts⟩ hMet ⟨callB_of n hts hG rfl hr1 hr2 (hts _ hw3) (hts _ hl) hy ⟨hr3, hr4⟩, hts _ hw1, hts _ hw2⟩ hPre rfl hn2 hsz rfl (lv_room hrest) hd ⟨Nat.le_of_ble_eq_true rfl, Nat.le_of_ble_eq_true rfl⟩
/-- an answer that is an int -/
theorem la_i {x : Int32} {st0 : List Value} {av : Array Value} (hr : va_Run p l e room_1 s m #[Value.ref b] below meth c H locs 68 2349 0 0 (F0 m pc la st0) rest (mm_Q G (mm_A G lyN H.size) lyT lyF lenA sn lyN (some (mm_I x), z') av) (mm_A G lyN H.size)) (hS : va_S (la_A s) s.heap H locs) (hadr : ∀ i, i < lyN → s.heap.size ≤ G.1 i)
    (kk : ∀ (H1 : Heap) (locs1 : List Loc), mm_H G lyT lyF lenA sn lyN z' H1 → (∀ q : Nat, q < H.size → ¬ mm_A G lyN H.size q → H1[q]? = H[q]?) → va_S (la_A s) s.heap H1 locs1 → W p l e room_1 s m #[Value.ref b] below meth c H1 locs1 68 2349 Q (F0 m (pc + 3) la (.int x :: rest))) : W p l e room_1 s m #[Value.ref b] below meth c H locs 68 2349 Q (F0 m pc la st0) :=
  va_calli (a := av) hr hS (fun q _ h => la_hB hS hadr q h) (la_hB hS hadr) (fun r u t H1 locs1 ht _ hp hb _ hk1 hS1 => by
    obtain rfl : r = x := hp
    exact kk H1 locs1 (by rw [← ht]; exact hb) hk1 hS1)
/-- an answer that is a long -/
theorem la_l {x : Int64} {st0 : List Value} {av : Array Value} (hr : va_Run p l e room_1 s m #[Value.ref b] below meth c H locs 68 2349 0 0 (F0 m pc la st0) rest (mm_Q G (mm_A G lyN H.size) lyT lyF lenA sn lyN (some (mm_J x), z') av) (mm_A G lyN H.size)) (hS : va_S (la_A s) s.heap H locs) (hadr : ∀ i, i < lyN → s.heap.size ≤ G.1 i)
    (kk : ∀ (H1 : Heap) (locs1 : List Loc), mm_H G lyT lyF lenA sn lyN z' H1 → (∀ q : Nat, q < H.size → ¬ mm_A G lyN H.size q → H1[q]? = H[q]?) → va_S (la_A s) s.heap H1 locs1 → W p l e room_1 s m #[Value.ref b] below meth c H1 locs1 68 2349 Q (F0 m (pc + 3) la (.long x :: rest))) : W p l e room_1 s m #[Value.ref b] below meth c H locs 68 2349 Q (F0 m pc la st0) :=
  va_calll (a := av) hr hS (fun q _ h => la_hB hS hadr q h) (la_hB hS hadr) (fun r u t H1 locs1 ht _ hp hb _ hk1 hS1 => by
    obtain rfl : r = x := hp
    exact kk H1 locs1 (by rw [← ht]; exact hb) hk1 hS1)
end LAR
/-- what the other world's cells hold stays -/
theorem la_kept {G G' : mm_G} {lyT' : Nat → Nat} {lyF : Nat → List (Nat × Nat × Nat × Nat)} {lenA' : Nat → Nat} {sn' : Nat → Nat → Nat} {lyN lyN' : Nat} {w : mm_S} {H1 : Heap} (hne : ∀ i j, i < lyN → j < lyN' → G.1 i ≠ G'.1 j) (hP : mm_H G' lyT' lyF lenA' sn' lyN' w H) (hk : ∀ q : Nat, q < H.size → ¬ mm_A G lyN H.size q → H1[q]? = H[q]?) : mm_H G' lyT' lyF lenA' sn' lyN' w H1 := by
  refine hP.kept (fun k x hx => ?_)
  have hlt : x.1 < H.size := (hP k x hx).lt
  refine hk x.1 hlt (fun h => ?_)
  have hkl : k < lyN' := by
    have := (List.getElem?_eq_some_iff.mp hx).1
    rwa [mm_ws_len] at this
  have hx1 : x.1 = G'.1 k := by
    rw [mm_ws_get w hkl] at hx
    exact (congrArg Prod.fst (Option.some.inj hx)).symm
  rcases h with ⟨j, h1, h2⟩ | h
  · exact hne j k h1 hkl (h2.symm.trans hx1)
  · omega
end LAW
theorem ll_13 : Cond.methodLink R_law 13 yX3_stuff ∈ lw_gd := mm_gdT 177 (by decide +kernel) rfl
theorem ll_17 : Cond.methodLink R_law 17 yX4_stuff ∈ lw_gd := mm_gdT 997 (by decide +kernel) rfl
theorem ll_18 : Cond.methodLink R_law 18 yX3_crew ∈ lw_gd := mm_gdT 221 (by decide +kernel) rfl
theorem ll_21 : Cond.methodLink R_law 21 yX4_crew ∈ lw_gd := mm_gdT 1019 (by decide +kernel) rfl
theorem ll_22 : Cond.methodLink R_law 22 yX3_of ∈ lw_gd := mm_gdT 233 (by decide +kernel) rfl
theorem ll_25 : Cond.methodLink R_law 25 yX4_of ∈ lw_gd := mm_gdT 1034 (by decide +kernel) rfl
theorem ll_26 : Cond.methodLink R_law 26 yX3_change ∈ lw_gd := mm_gdT 269 (by decide +kernel) rfl
theorem ll_30 : Cond.methodLink R_law 30 yX4_change ∈ lw_gd := mm_gdT 1064 (by decide +kernel) rfl
theorem ll_31 : Cond.methodLink R_law 31 yX3_cells ∈ lw_gd := mm_gdT 273 (by decide +kernel) rfl
theorem ll_35 : Cond.methodLink R_law 35 yX4_cells ∈ lw_gd := mm_gdT 1068 (by decide +kernel) rfl
theorem ll_36 : Cond.methodLink R_law 36 yX3_unsure ∈ lw_gd := mm_gdT 281 (by decide +kernel) rfl
theorem ll_40 : Cond.methodLink R_law 40 yX4_unsure ∈ lw_gd := mm_gdT 1080 (by decide +kernel) rfl
theorem ll_41 : Cond.methodLink R_law 41 yX3_sure ∈ lw_gd := mm_gdT 293 (by decide +kernel) rfl
theorem ll_45 : Cond.methodLink R_law 45 yX4_sure ∈ lw_gd := mm_gdT 1093 (by decide +kernel) rfl
theorem ll_46 : Cond.methodLink R_law 46 yX3_time ∈ lw_gd := mm_gdT 297 (by decide +kernel) rfl
theorem ll_49 : Cond.methodLink R_law 49 yX4_time ∈ lw_gd := mm_gdT 1097 (by decide +kernel) rfl
theorem ll_50 : Cond.methodLink R_law 50 yX3_heard ∈ lw_gd := mm_gdT 329 (by decide +kernel) rfl
theorem ll_53 : Cond.methodLink R_law 53 yX4_heard ∈ lw_gd := mm_gdT 1124 (by decide +kernel) rfl
theorem ll_54 : Cond.methodLink R_law 54 yX3_reach ∈ lw_gd := mm_gdT 345 (by decide +kernel) rfl
theorem ll_57 : Cond.methodLink R_law 57 yX4_reach ∈ lw_gd := mm_gdT 1132 (by decide +kernel) rfl
theorem ll_58 : Cond.methodLink R_law 58 yX3_hears ∈ lw_gd := mm_gdT 357 (by decide +kernel) rfl
theorem ll_61 : Cond.methodLink R_law 61 yX4_hears ∈ lw_gd := mm_gdT 1140 (by decide +kernel) rfl
theorem ll_62 : Cond.methodLink R_law 62 yX3_echo ∈ lw_gd := mm_gdT 361 (by decide +kernel) rfl
theorem ll_65 : Cond.methodLink R_law 65 yX4_echo ∈ lw_gd := mm_gdT 1148 (by decide +kernel) rfl
theorem ll_66 : Cond.methodLink R_law 66 yX3_chord ∈ lw_gd := mm_gdT 395 (by decide +kernel) rfl
theorem ll_69 : Cond.methodLink R_law 69 yX4_chord ∈ lw_gd := mm_gdT 1161 (by decide +kernel) rfl
theorem ll_70 : Cond.methodLink R_law 70 yX3_last ∈ lw_gd := mm_gdT 403 (by decide +kernel) rfl
theorem ll_73 : Cond.methodLink R_law 73 yX4_last ∈ lw_gd := mm_gdT 1165 (by decide +kernel) rfl
theorem ll_74 : Cond.methodLink R_law 74 yX3_many ∈ lw_gd := mm_gdT 408 (by decide +kernel) rfl
theorem ll_77 : Cond.methodLink R_law 77 yX4_many ∈ lw_gd := mm_gdT 1169 (by decide +kernel) rfl
theorem ll_78 : Cond.methodLink R_law 78 yX3_silent ∈ lw_gd := mm_gdT 412 (by decide +kernel) rfl
theorem ll_82 : Cond.methodLink R_law 82 yX4_silent ∈ lw_gd := mm_gdT 1173 (by decide +kernel) rfl
theorem ll_83 : Cond.methodLink R_law 83 yX3_lag ∈ lw_gd := mm_gdT 424 (by decide +kernel) rfl
theorem ll_86 : Cond.methodLink R_law 86 yX4_lag ∈ lw_gd := mm_gdT 1183 (by decide +kernel) rfl
theorem ll_87 : Cond.methodLink R_law 87 yX3_apart ∈ lw_gd := mm_gdT 432 (by decide +kernel) rfl
theorem ll_90 : Cond.methodLink R_law 90 yX4_apart ∈ lw_gd := mm_gdT 1191 (by decide +kernel) rfl
theorem ll_91 : Cond.methodLink R_law 91 yX3_from ∈ lw_gd := mm_gdT 442 (by decide +kernel) rfl
theorem ll_95 : Cond.methodLink R_law 95 yX4_from ∈ lw_gd := mm_gdT 1196 (by decide +kernel) rfl
theorem ll_96 : Cond.methodLink R_law 96 yX3_middle ∈ lw_gd := mm_gdT 446 (by decide +kernel) rfl
theorem ll_99 : Cond.methodLink R_law 99 yX4_middle ∈ lw_gd := mm_gdT 1200 (by decide +kernel) rfl
theorem ll_100 : Cond.methodLink R_law 100 yX3_kindFor ∈ lw_gd := mm_gdT 458 (by decide +kernel) rfl
theorem ll_103 : Cond.methodLink R_law 103 yX4_kindFor ∈ lw_gd := mm_gdT 1205 (by decide +kernel) rfl
theorem ll_104 : Cond.methodLink R_law 104 yX3_place ∈ lw_gd := mm_gdT 467 (by decide +kernel) rfl
theorem ll_107 : Cond.methodLink R_law 107 yX4_place ∈ lw_gd := mm_gdT 1213 (by decide +kernel) rfl
theorem ll_108 : Cond.methodLink R_law 108 yX3_book ∈ lw_gd := mm_gdT 478 (by decide +kernel) rfl
theorem ll_111 : Cond.methodLink R_law 111 yX4_book ∈ lw_gd := mm_gdT 1220 (by decide +kernel) rfl
theorem ll_112 : Cond.methodLink R_law 112 yX3_burn ∈ lw_gd := mm_gdT 486 (by decide +kernel) rfl
theorem ll_115 : Cond.methodLink R_law 115 yX4_burn ∈ lw_gd := mm_gdT 1228 (by decide +kernel) rfl
theorem ll_116 : Cond.methodLink R_law 116 yX3_wrong ∈ lw_gd := mm_gdT 490 (by decide +kernel) rfl
theorem ll_119 : Cond.methodLink R_law 119 yX4_wrong ∈ lw_gd := mm_gdT 1232 (by decide +kernel) rfl
theorem ll_120 : Cond.methodLink R_law 120 yX3_fits ∈ lw_gd := mm_gdT 499 (by decide +kernel) rfl
theorem ll_123 : Cond.methodLink R_law 123 yX4_fits ∈ lw_gd := mm_gdT 1244 (by decide +kernel) rfl
theorem ll_124 : Cond.methodLink R_law 124 yX3_map ∈ lw_gd := mm_gdT 536 (by decide +kernel) rfl
theorem ll_127 : Cond.methodLink R_law 127 yX4_map ∈ lw_gd := mm_gdT 1268 (by decide +kernel) rfl
theorem ll_128 : Cond.methodLink R_law 128 yX3_may ∈ lw_gd := mm_gdT 557 (by decide +kernel) rfl
theorem ll_131 : Cond.methodLink R_law 131 yX4_may ∈ lw_gd := mm_gdT 1272 (by decide +kernel) rfl
theorem ll_132 : Cond.methodLink R_law 132 yX3_lays ∈ lw_gd := mm_gdT 561 (by decide +kernel) rfl
theorem ll_135 : Cond.methodLink R_law 135 yX4_lays ∈ lw_gd := mm_gdT 1276 (by decide +kernel) rfl
theorem ll_136 : Cond.methodLink R_law 136 yX3_asks ∈ lw_gd := mm_gdT 569 (by decide +kernel) rfl
theorem ll_139 : Cond.methodLink R_law 139 yX4_asks ∈ lw_gd := mm_gdT 1280 (by decide +kernel) rfl
theorem ll_140 : Cond.methodLink R_law 140 yX3_dig ∈ lw_gd := mm_gdT 584 (by decide +kernel) rfl
theorem ll_143 : Cond.methodLink R_law 143 yX4_dig ∈ lw_gd := mm_gdT 1288 (by decide +kernel) rfl
theorem ll_144 : Cond.methodLink R_law 144 yX3_safe ∈ lw_gd := mm_gdT 599 (by decide +kernel) rfl
theorem ll_147 : Cond.methodLink R_law 147 yX4_safe ∈ lw_gd := mm_gdT 1304 (by decide +kernel) rfl
theorem ll_148 : Cond.methodLink R_law 148 yX3_ways ∈ lw_gd := mm_gdT 603 (by decide +kernel) rfl
theorem ll_151 : Cond.methodLink R_law 151 yX4_ways ∈ lw_gd := mm_gdT 1312 (by decide +kernel) rfl
theorem ll_152 : Cond.methodLink R_law 152 yX3_years ∈ lw_gd := mm_gdT 607 (by decide +kernel) rfl
theorem ll_155 : Cond.methodLink R_law 155 yX4_years ∈ lw_gd := mm_gdT 1316 (by decide +kernel) rfl
theorem ll_156 : Cond.methodLink R_law 156 yX3_ahead ∈ lw_gd := mm_gdT 625 (by decide +kernel) rfl
theorem ll_159 : Cond.methodLink R_law 159 yX4_ahead ∈ lw_gd := mm_gdT 1333 (by decide +kernel) rfl
theorem ll_160 : Cond.methodLink R_law 160 yX3_when ∈ lw_gd := mm_gdT 629 (by decide +kernel) rfl
theorem ll_163 : Cond.methodLink R_law 163 yX4_when ∈ lw_gd := mm_gdT 1344 (by decide +kernel) rfl
theorem ll_164 : Cond.methodLink R_law 164 yX3_seed ∈ lw_gd := mm_gdT 633 (by decide +kernel) rfl
theorem ll_167 : Cond.methodLink R_law 167 yX4_seed ∈ lw_gd := mm_gdT 1348 (by decide +kernel) rfl
theorem ll_168 : Cond.methodLink R_law 168 yX3_feed ∈ lw_gd := mm_gdT 637 (by decide +kernel) rfl
theorem ll_171 : Cond.methodLink R_law 171 yX4_feed ∈ lw_gd := mm_gdT 1352 (by decide +kernel) rfl
theorem ll_172 : Cond.methodLink R_law 172 yX3_wipe ∈ lw_gd := mm_gdT 646 (by decide +kernel) rfl
theorem ll_175 : Cond.methodLink R_law 175 yX4_wipe ∈ lw_gd := mm_gdT 1356 (by decide +kernel) rfl
theorem ll_176 : Cond.methodLink R_law 176 yX3_text ∈ lw_gd := mm_gdT 650 (by decide +kernel) rfl
theorem ll_179 : Cond.methodLink R_law 179 yX4_text ∈ lw_gd := mm_gdT 1360 (by decide +kernel) rfl
theorem ll_180 : Cond.methodLink R_law 180 yX3_hold ∈ lw_gd := mm_gdT 786 (by decide +kernel) rfl
theorem ll_183 : Cond.methodLink R_law 183 yX4_hold ∈ lw_gd := mm_gdT 1415 (by decide +kernel) rfl
theorem ll_184 : Cond.methodLink R_law 184 yX3_as ∈ lw_gd := mm_gdT 793 (by decide +kernel) rfl
theorem ll_187 : Cond.methodLink R_law 187 yX4_as ∈ lw_gd := mm_gdT 1422 (by decide +kernel) rfl
theorem ll_188 : Cond.methodLink R_law 188 yX3_sheet ∈ lw_gd := mm_gdT 802 (by decide +kernel) rfl
theorem ll_191 : Cond.methodLink R_law 191 yX4_sheet ∈ lw_gd := mm_gdT 1428 (by decide +kernel) rfl
theorem ll_192 : Cond.methodLink R_law 192 yX3_write ∈ lw_gd := mm_gdT 809 (by decide +kernel) rfl
theorem ll_195 : Cond.methodLink R_law 195 yX4_write ∈ lw_gd := mm_gdT 1436 (by decide +kernel) rfl
theorem ll_196 : Cond.methodLink R_law 196 yX3_copy ∈ lw_gd := mm_gdT 820 (by decide +kernel) rfl
theorem ll_200 : Cond.methodLink R_law 200 yX4_copy ∈ lw_gd := mm_gdT 1443 (by decide +kernel) rfl
theorem ll_201 : Cond.methodLink R_law 201 yX3_load ∈ lw_gd := mm_gdT 831 (by decide +kernel) rfl
theorem ll_204 : Cond.methodLink R_law 204 yX4_load ∈ lw_gd := mm_gdT 1447 (by decide +kernel) rfl
theorem ll_205 : Cond.methodLink R_law 205 yX3_judge ∈ lw_gd := mm_gdT 839 (by decide +kernel) rfl
theorem ll_208 : Cond.methodLink R_law 208 yX4_judge ∈ lw_gd := mm_gdT 1451 (by decide +kernel) rfl
theorem ll_209 : Cond.methodLink R_law 209 yX3_image ∈ lw_gd := mm_gdT 843 (by decide +kernel) rfl
theorem ll_212 : Cond.methodLink R_law 212 yX4_image ∈ lw_gd := mm_gdT 1455 (by decide +kernel) rfl
theorem ll_213 : Cond.methodLink R_law 213 yX3_undo ∈ lw_gd := mm_gdT 847 (by decide +kernel) rfl
theorem ll_216 : Cond.methodLink R_law 216 yX4_undo ∈ lw_gd := mm_gdT 1459 (by decide +kernel) rfl
theorem ll_217 : Cond.methodLink R_law 217 yX3_tear ∈ lw_gd := mm_gdT 851 (by decide +kernel) rfl
theorem ll_220 : Cond.methodLink R_law 220 yX4_tear ∈ lw_gd := mm_gdT 1463 (by decide +kernel) rfl
theorem ll_221 : Cond.methodLink R_law 221 yX3_count ∈ lw_gd := mm_gdT 855 (by decide +kernel) rfl
theorem ll_224 : Cond.methodLink R_law 224 yX4_count ∈ lw_gd := mm_gdT 1467 (by decide +kernel) rfl
theorem ll_225 : Cond.methodLink R_law 225 yX3_status ∈ lw_gd := mm_gdT 863 (by decide +kernel) rfl
theorem ll_228 : Cond.methodLink R_law 228 yX4_status ∈ lw_gd := mm_gdT 1471 (by decide +kernel) rfl
theorem la_cmp (x : Int64) : lg_cmp x x = 0 := by
  unfold lg_cmp
  simp
def eq_stuff (Rel : mm_S → mm_S → Prop) : Prop := ∀ (a1 a2 : Int32) (z w : mm_S), Rel z w → ∃ (x : Int32) (z' w' : mm_S), f_X3_stuff [mm_P 3 0, mm_I a1, mm_I a2] z (some (mm_I x), z') ∧ f_X4_stuff [mm_P 4 0, mm_I a1, mm_I a2] w (some (mm_I x), w') ∧ Rel z' w'
theorem la_stuff_case {p : Program} {l : Launch} {e : Env} {s : State} {m : MethodId} {below : List Frame} {meth : Method} {c : Code} {b L : Nat} {xs : Nat → Int32} {GX GM : mm_G} {Rel : mm_S → mm_S → Prop} (C : la_C p s m meth c b L xs GX GM) (h : eq_stuff Rel) {i : Nat} (hi : i + 6 ≤ L) {z w : mm_S} {H : Heap} {locs : List Loc} {la : Array Slot} (hRel : Rel z w) (hP : mm_H GX lyTX lyFA lenX snX 46 z H) (hQ : mm_H GM lyTM lyFA lenM snM 22 w H) (hS : va_S (la_A s) s.heap H locs) (hl : lv_has la 4 [(3, .int (nI i)), (2, .ref (GM.1 0)), (1, .ref (GX.1 0)), (0, .ref b)])
    {Q : State → Prop} (next : ∀ (H : Heap) (locs : List Loc) (z w : mm_S), Rel z w → mm_H GX lyTX lyFA lenX snX 46 z H → mm_H GM lyTM lyFA lenM snM 22 w H → va_S (la_A s) s.heap H locs → W p l e room_1 s m #[Value.ref b] below meth c H locs 68 2349 Q (F0 m 1697 la [])) : W p l e room_1 s m #[Value.ref b] below meth c H locs 68 2349 Q (F0 m 256 la []) := by
  obtain ⟨S, hr, hlk, hX, hbl, hL, hKX, hKM, hroX, hroM, hinjX, hinjM, hne, hadrX, hadrM⟩ := C
  obtain ⟨hx, hb, hml, ho, hts⟩ := id S
  obtain ⟨x, z', w', hfX, hfM, hRel'⟩ := h (xs (i + 1)) (xs (i + 2)) z w hRel
  refine lv_aload_n (i := 1) hx hb dl_256 rfl (lv_at hl 2 rfl) ?_
  refine la_arg (i := i) (jn := 1) hx hb hX hbl hL hS (lv_at hl 3 rfl) (lv_at hl 0 rfl) (by omega) rfl dl_257 dl_258 dl_259 dl_260 dl_261 ?_
  refine la_arg (i := i) (jn := 2) hx hb hX hbl hL hS (lv_at hl 3 rfl) (lv_at hl 0 rfl) (by omega) rfl dl_262 dl_263 dl_264 dl_265 dl_266 ?_
  refine la_i (la_run S hKX hroX hinjX hadrX M_X3_stuff ⟨wv_X3_stuff, wz_X3_stuff, wi_X3_stuff, wc_X3_stuff⟩ ll_13 ⟨by decide +kernel, by decide +kernel, by decide +kernel⟩ ⟨rfl, rfl, by decide⟩ ⟨rfl, rfl, by decide, by decide⟩ (a := 0) (n := 2) (as' := [mm_I (xs (i + 1)), mm_I (xs (i + 2))]) (rest := []) (by simp [mm_ok]; decide +kernel) rfl hfX hP hS hl.1 (Nat.le_of_ble_eq_true rfl) dl_267) hS hadrX (fun H1 locs1 hP1 hk1 hS1 => ?_)
  have hQ := la_kept hne hQ hk1
  have hP := hP1
  have hS := hS1
  clear hP1 hS1 hk1
  refine lv_aload_n (i := 2) hx hb dl_270 rfl (lv_at hl 1 rfl) ?_
  refine la_arg (i := i) (jn := 1) hx hb hX hbl hL hS (lv_at hl 3 rfl) (lv_at hl 0 rfl) (by omega) rfl dl_271 dl_272 dl_273 dl_274 dl_275 ?_
  refine la_arg (i := i) (jn := 2) hx hb hX hbl hL hS (lv_at hl 3 rfl) (lv_at hl 0 rfl) (by omega) rfl dl_276 dl_277 dl_278 dl_279 dl_280 ?_
  refine la_i (la_run S hKM hroM hinjM hadrM M_X4_stuff ⟨wv_X4_stuff, wz_X4_stuff, wi_X4_stuff, wc_X4_stuff⟩ ll_17 ⟨by decide +kernel, by decide +kernel, by decide +kernel⟩ ⟨rfl, rfl, by decide⟩ ⟨rfl, rfl, by decide, by decide⟩ (a := 0) (n := 2) (as' := [mm_I (xs (i + 1)), mm_I (xs (i + 2))]) (rest := [.int x]) (by simp [mm_ok]; decide +kernel) rfl hfM hQ hS hl.1 (Nat.le_of_ble_eq_true rfl) dl_281) hS hadrM (fun H1 locs1 hP1 hk1 hS1 => ?_)
  have hP := la_kept (fun i j h1 h2 => (hne j i h2 h1).symm) hP hk1
  have hQ := hP1
  refine lv_icmp_eq (tgt := 1697) hx hb dl_284 rfl (fun _ => ?_) (fun q => absurd rfl q)
  exact next H1 locs1 z' w' hRel' hP hQ hS1
def eq_crew (Rel : mm_S → mm_S → Prop) : Prop := ∀ (a1 a2 : Int32) (z w : mm_S), Rel z w → ∃ (x : Int32) (z' w' : mm_S), f_X3_crew [mm_P 3 0, mm_I a1, mm_I a2] z (some (mm_I x), z') ∧ f_X4_crew [mm_P 4 0, mm_I a1, mm_I a2] w (some (mm_I x), w') ∧ Rel z' w'
theorem la_crew_case {p : Program} {l : Launch} {e : Env} {s : State} {m : MethodId} {below : List Frame} {meth : Method} {c : Code} {b L : Nat} {xs : Nat → Int32} {GX GM : mm_G} {Rel : mm_S → mm_S → Prop} (C : la_C p s m meth c b L xs GX GM) (h : eq_crew Rel) {i : Nat} (hi : i + 6 ≤ L) {z w : mm_S} {H : Heap} {locs : List Loc} {la : Array Slot} (hRel : Rel z w) (hP : mm_H GX lyTX lyFA lenX snX 46 z H) (hQ : mm_H GM lyTM lyFA lenM snM 22 w H) (hS : va_S (la_A s) s.heap H locs) (hl : lv_has la 4 [(3, .int (nI i)), (2, .ref (GM.1 0)), (1, .ref (GX.1 0)), (0, .ref b)])
    {Q : State → Prop} (next : ∀ (H : Heap) (locs : List Loc) (z w : mm_S), Rel z w → mm_H GX lyTX lyFA lenX snX 46 z H → mm_H GM lyTM lyFA lenM snM 22 w H → va_S (la_A s) s.heap H locs → W p l e room_1 s m #[Value.ref b] below meth c H locs 68 2349 Q (F0 m 1697 la [])) : W p l e room_1 s m #[Value.ref b] below meth c H locs 68 2349 Q (F0 m 289 la []) := by
  obtain ⟨S, hr, hlk, hX, hbl, hL, hKX, hKM, hroX, hroM, hinjX, hinjM, hne, hadrX, hadrM⟩ := C
  obtain ⟨hx, hb, hml, ho, hts⟩ := id S
  obtain ⟨x, z', w', hfX, hfM, hRel'⟩ := h (xs (i + 1)) (xs (i + 2)) z w hRel
  refine lv_aload_n (i := 1) hx hb dl_289 rfl (lv_at hl 2 rfl) ?_
  refine la_arg (i := i) (jn := 1) hx hb hX hbl hL hS (lv_at hl 3 rfl) (lv_at hl 0 rfl) (by omega) rfl dl_290 dl_291 dl_292 dl_293 dl_294 ?_
  refine la_arg (i := i) (jn := 2) hx hb hX hbl hL hS (lv_at hl 3 rfl) (lv_at hl 0 rfl) (by omega) rfl dl_295 dl_296 dl_297 dl_298 dl_299 ?_
  refine la_i (la_run S hKX hroX hinjX hadrX M_X3_crew ⟨wv_X3_crew, wz_X3_crew, wi_X3_crew, wc_X3_crew⟩ ll_18 ⟨by decide +kernel, by decide +kernel, by decide +kernel⟩ ⟨rfl, rfl, by decide⟩ ⟨rfl, rfl, by decide, by decide⟩ (a := 0) (n := 2) (as' := [mm_I (xs (i + 1)), mm_I (xs (i + 2))]) (rest := []) (by simp [mm_ok]; decide +kernel) rfl hfX hP hS hl.1 (Nat.le_of_ble_eq_true rfl) dl_300) hS hadrX (fun H1 locs1 hP1 hk1 hS1 => ?_)
  have hQ := la_kept hne hQ hk1
  have hP := hP1
  have hS := hS1
  clear hP1 hS1 hk1
  refine lv_aload_n (i := 2) hx hb dl_303 rfl (lv_at hl 1 rfl) ?_
  refine la_arg (i := i) (jn := 1) hx hb hX hbl hL hS (lv_at hl 3 rfl) (lv_at hl 0 rfl) (by omega) rfl dl_304 dl_305 dl_306 dl_307 dl_308 ?_
  refine la_arg (i := i) (jn := 2) hx hb hX hbl hL hS (lv_at hl 3 rfl) (lv_at hl 0 rfl) (by omega) rfl dl_309 dl_310 dl_311 dl_312 dl_313 ?_
  refine la_i (la_run S hKM hroM hinjM hadrM M_X4_crew ⟨wv_X4_crew, wz_X4_crew, wi_X4_crew, wc_X4_crew⟩ ll_21 ⟨by decide +kernel, by decide +kernel, by decide +kernel⟩ ⟨rfl, rfl, by decide⟩ ⟨rfl, rfl, by decide, by decide⟩ (a := 0) (n := 2) (as' := [mm_I (xs (i + 1)), mm_I (xs (i + 2))]) (rest := [.int x]) (by simp [mm_ok]; decide +kernel) rfl hfM hQ hS hl.1 (Nat.le_of_ble_eq_true rfl) dl_314) hS hadrM (fun H1 locs1 hP1 hk1 hS1 => ?_)
  have hP := la_kept (fun i j h1 h2 => (hne j i h2 h1).symm) hP hk1
  have hQ := hP1
  refine lv_icmp_eq (tgt := 1697) hx hb dl_317 rfl (fun _ => ?_) (fun q => absurd rfl q)
  exact next H1 locs1 z' w' hRel' hP hQ hS1
def eq_of (Rel : mm_S → mm_S → Prop) : Prop := ∀ (a1 a2 : Int32) (z w : mm_S), Rel z w → ∃ (x : Int32) (z' w' : mm_S), f_X3_of [mm_P 3 0, mm_I a1, mm_I a2] z (some (mm_I x), z') ∧ f_X4_of [mm_P 4 0, mm_I a1, mm_I a2] w (some (mm_I x), w') ∧ Rel z' w'
theorem la_of_case {p : Program} {l : Launch} {e : Env} {s : State} {m : MethodId} {below : List Frame} {meth : Method} {c : Code} {b L : Nat} {xs : Nat → Int32} {GX GM : mm_G} {Rel : mm_S → mm_S → Prop} (C : la_C p s m meth c b L xs GX GM) (h : eq_of Rel) {i : Nat} (hi : i + 6 ≤ L) {z w : mm_S} {H : Heap} {locs : List Loc} {la : Array Slot} (hRel : Rel z w) (hP : mm_H GX lyTX lyFA lenX snX 46 z H) (hQ : mm_H GM lyTM lyFA lenM snM 22 w H) (hS : va_S (la_A s) s.heap H locs) (hl : lv_has la 4 [(3, .int (nI i)), (2, .ref (GM.1 0)), (1, .ref (GX.1 0)), (0, .ref b)])
    {Q : State → Prop} (next : ∀ (H : Heap) (locs : List Loc) (z w : mm_S), Rel z w → mm_H GX lyTX lyFA lenX snX 46 z H → mm_H GM lyTM lyFA lenM snM 22 w H → va_S (la_A s) s.heap H locs → W p l e room_1 s m #[Value.ref b] below meth c H locs 68 2349 Q (F0 m 1697 la [])) : W p l e room_1 s m #[Value.ref b] below meth c H locs 68 2349 Q (F0 m 322 la []) := by
  obtain ⟨S, hr, hlk, hX, hbl, hL, hKX, hKM, hroX, hroM, hinjX, hinjM, hne, hadrX, hadrM⟩ := C
  obtain ⟨hx, hb, hml, ho, hts⟩ := id S
  obtain ⟨x, z', w', hfX, hfM, hRel'⟩ := h (xs (i + 1)) (xs (i + 2)) z w hRel
  refine lv_aload_n (i := 1) hx hb dl_322 rfl (lv_at hl 2 rfl) ?_
  refine la_arg (i := i) (jn := 1) hx hb hX hbl hL hS (lv_at hl 3 rfl) (lv_at hl 0 rfl) (by omega) rfl dl_323 dl_324 dl_325 dl_326 dl_327 ?_
  refine la_arg (i := i) (jn := 2) hx hb hX hbl hL hS (lv_at hl 3 rfl) (lv_at hl 0 rfl) (by omega) rfl dl_328 dl_329 dl_330 dl_331 dl_332 ?_
  refine la_i (la_run S hKX hroX hinjX hadrX M_X3_of ⟨wv_X3_of, wz_X3_of, wi_X3_of, wc_X3_of⟩ ll_22 ⟨by decide +kernel, by decide +kernel, by decide +kernel⟩ ⟨rfl, rfl, by decide⟩ ⟨rfl, rfl, by decide, by decide⟩ (a := 0) (n := 2) (as' := [mm_I (xs (i + 1)), mm_I (xs (i + 2))]) (rest := []) (by simp [mm_ok]; decide +kernel) rfl hfX hP hS hl.1 (Nat.le_of_ble_eq_true rfl) dl_333) hS hadrX (fun H1 locs1 hP1 hk1 hS1 => ?_)
  have hQ := la_kept hne hQ hk1
  have hP := hP1
  have hS := hS1
  clear hP1 hS1 hk1
  refine lv_aload_n (i := 2) hx hb dl_336 rfl (lv_at hl 1 rfl) ?_
  refine la_arg (i := i) (jn := 1) hx hb hX hbl hL hS (lv_at hl 3 rfl) (lv_at hl 0 rfl) (by omega) rfl dl_337 dl_338 dl_339 dl_340 dl_341 ?_
  refine la_arg (i := i) (jn := 2) hx hb hX hbl hL hS (lv_at hl 3 rfl) (lv_at hl 0 rfl) (by omega) rfl dl_342 dl_343 dl_344 dl_345 dl_346 ?_
  refine la_i (la_run S hKM hroM hinjM hadrM M_X4_of ⟨wv_X4_of, wz_X4_of, wi_X4_of, wc_X4_of⟩ ll_25 ⟨by decide +kernel, by decide +kernel, by decide +kernel⟩ ⟨rfl, rfl, by decide⟩ ⟨rfl, rfl, by decide, by decide⟩ (a := 0) (n := 2) (as' := [mm_I (xs (i + 1)), mm_I (xs (i + 2))]) (rest := [.int x]) (by simp [mm_ok]; decide +kernel) rfl hfM hQ hS hl.1 (Nat.le_of_ble_eq_true rfl) dl_347) hS hadrM (fun H1 locs1 hP1 hk1 hS1 => ?_)
  have hP := la_kept (fun i j h1 h2 => (hne j i h2 h1).symm) hP hk1
  have hQ := hP1
  refine lv_icmp_eq (tgt := 1697) hx hb dl_350 rfl (fun _ => ?_) (fun q => absurd rfl q)
  exact next H1 locs1 z' w' hRel' hP hQ hS1
def eq_change (Rel : mm_S → mm_S → Prop) : Prop := ∀ (a1 a2 a3 : Int32) (z w : mm_S), Rel z w → ∃ (x : Int32) (z' w' : mm_S), f_X3_change [mm_P 3 0, mm_I a1, mm_I a2, mm_I a3] z (some (mm_I x), z') ∧ f_X4_change [mm_P 4 0, mm_I a1, mm_I a2, mm_I a3] w (some (mm_I x), w') ∧ Rel z' w'
theorem la_change_case {p : Program} {l : Launch} {e : Env} {s : State} {m : MethodId} {below : List Frame} {meth : Method} {c : Code} {b L : Nat} {xs : Nat → Int32} {GX GM : mm_G} {Rel : mm_S → mm_S → Prop} (C : la_C p s m meth c b L xs GX GM) (h : eq_change Rel) {i : Nat} (hi : i + 6 ≤ L) {z w : mm_S} {H : Heap} {locs : List Loc} {la : Array Slot} (hRel : Rel z w) (hP : mm_H GX lyTX lyFA lenX snX 46 z H) (hQ : mm_H GM lyTM lyFA lenM snM 22 w H) (hS : va_S (la_A s) s.heap H locs) (hl : lv_has la 4 [(3, .int (nI i)), (2, .ref (GM.1 0)), (1, .ref (GX.1 0)), (0, .ref b)])
    {Q : State → Prop} (next : ∀ (H : Heap) (locs : List Loc) (z w : mm_S), Rel z w → mm_H GX lyTX lyFA lenX snX 46 z H → mm_H GM lyTM lyFA lenM snM 22 w H → va_S (la_A s) s.heap H locs → W p l e room_1 s m #[Value.ref b] below meth c H locs 68 2349 Q (F0 m 1697 la [])) : W p l e room_1 s m #[Value.ref b] below meth c H locs 68 2349 Q (F0 m 355 la []) := by
  obtain ⟨S, hr, hlk, hX, hbl, hL, hKX, hKM, hroX, hroM, hinjX, hinjM, hne, hadrX, hadrM⟩ := C
  obtain ⟨hx, hb, hml, ho, hts⟩ := id S
  obtain ⟨x, z', w', hfX, hfM, hRel'⟩ := h (xs (i + 1)) (xs (i + 2)) (xs (i + 3)) z w hRel
  refine lv_aload_n (i := 1) hx hb dl_355 rfl (lv_at hl 2 rfl) ?_
  refine la_arg (i := i) (jn := 1) hx hb hX hbl hL hS (lv_at hl 3 rfl) (lv_at hl 0 rfl) (by omega) rfl dl_356 dl_357 dl_358 dl_359 dl_360 ?_
  refine la_arg (i := i) (jn := 2) hx hb hX hbl hL hS (lv_at hl 3 rfl) (lv_at hl 0 rfl) (by omega) rfl dl_361 dl_362 dl_363 dl_364 dl_365 ?_
  refine la_arg (i := i) (jn := 3) hx hb hX hbl hL hS (lv_at hl 3 rfl) (lv_at hl 0 rfl) (by omega) rfl dl_366 dl_367 dl_368 dl_369 dl_370 ?_
  refine la_i (la_run S hKX hroX hinjX hadrX M_X3_change ⟨wv_X3_change, wz_X3_change, wi_X3_change, wc_X3_change⟩ ll_26 ⟨by decide +kernel, by decide +kernel, by decide +kernel⟩ ⟨rfl, rfl, by decide⟩ ⟨rfl, rfl, by decide, by decide⟩ (a := 0) (n := 3) (as' := [mm_I (xs (i + 1)), mm_I (xs (i + 2)), mm_I (xs (i + 3))]) (rest := []) (by simp [mm_ok]; decide +kernel) rfl hfX hP hS hl.1 (Nat.le_of_ble_eq_true rfl) dl_371) hS hadrX (fun H1 locs1 hP1 hk1 hS1 => ?_)
  have hQ := la_kept hne hQ hk1
  have hP := hP1
  have hS := hS1
  clear hP1 hS1 hk1
  refine lv_aload_n (i := 2) hx hb dl_374 rfl (lv_at hl 1 rfl) ?_
  refine la_arg (i := i) (jn := 1) hx hb hX hbl hL hS (lv_at hl 3 rfl) (lv_at hl 0 rfl) (by omega) rfl dl_375 dl_376 dl_377 dl_378 dl_379 ?_
  refine la_arg (i := i) (jn := 2) hx hb hX hbl hL hS (lv_at hl 3 rfl) (lv_at hl 0 rfl) (by omega) rfl dl_380 dl_381 dl_382 dl_383 dl_384 ?_
  refine la_arg (i := i) (jn := 3) hx hb hX hbl hL hS (lv_at hl 3 rfl) (lv_at hl 0 rfl) (by omega) rfl dl_385 dl_386 dl_387 dl_388 dl_389 ?_
  refine la_i (la_run S hKM hroM hinjM hadrM M_X4_change ⟨wv_X4_change, wz_X4_change, wi_X4_change, wc_X4_change⟩ ll_30 ⟨by decide +kernel, by decide +kernel, by decide +kernel⟩ ⟨rfl, rfl, by decide⟩ ⟨rfl, rfl, by decide, by decide⟩ (a := 0) (n := 3) (as' := [mm_I (xs (i + 1)), mm_I (xs (i + 2)), mm_I (xs (i + 3))]) (rest := [.int x]) (by simp [mm_ok]; decide +kernel) rfl hfM hQ hS hl.1 (Nat.le_of_ble_eq_true rfl) dl_390) hS hadrM (fun H1 locs1 hP1 hk1 hS1 => ?_)
  have hP := la_kept (fun i j h1 h2 => (hne j i h2 h1).symm) hP hk1
  have hQ := hP1
  refine lv_icmp_eq (tgt := 1697) hx hb dl_393 rfl (fun _ => ?_) (fun q => absurd rfl q)
  exact next H1 locs1 z' w' hRel' hP hQ hS1
def eq_cells (Rel : mm_S → mm_S → Prop) : Prop := ∀ (a1 : Int32) (z w : mm_S), Rel z w → ∃ (x : Int64) (z' w' : mm_S), f_X3_cells [mm_P 3 0, mm_I a1] z (some (mm_J x), z') ∧ f_X4_cells [mm_P 4 0, mm_I a1] w (some (mm_J x), w') ∧ Rel z' w'
theorem la_cells_case {p : Program} {l : Launch} {e : Env} {s : State} {m : MethodId} {below : List Frame} {meth : Method} {c : Code} {b L : Nat} {xs : Nat → Int32} {GX GM : mm_G} {Rel : mm_S → mm_S → Prop} (C : la_C p s m meth c b L xs GX GM) (h : eq_cells Rel) {i : Nat} (hi : i + 6 ≤ L) {z w : mm_S} {H : Heap} {locs : List Loc} {la : Array Slot} (hRel : Rel z w) (hP : mm_H GX lyTX lyFA lenX snX 46 z H) (hQ : mm_H GM lyTM lyFA lenM snM 22 w H) (hS : va_S (la_A s) s.heap H locs) (hl : lv_has la 4 [(3, .int (nI i)), (2, .ref (GM.1 0)), (1, .ref (GX.1 0)), (0, .ref b)])
    {Q : State → Prop} (next : ∀ (H : Heap) (locs : List Loc) (z w : mm_S), Rel z w → mm_H GX lyTX lyFA lenX snX 46 z H → mm_H GM lyTM lyFA lenM snM 22 w H → va_S (la_A s) s.heap H locs → W p l e room_1 s m #[Value.ref b] below meth c H locs 68 2349 Q (F0 m 1697 la [])) : W p l e room_1 s m #[Value.ref b] below meth c H locs 68 2349 Q (F0 m 398 la []) := by
  obtain ⟨S, hr, hlk, hX, hbl, hL, hKX, hKM, hroX, hroM, hinjX, hinjM, hne, hadrX, hadrM⟩ := C
  obtain ⟨hx, hb, hml, ho, hts⟩ := id S
  obtain ⟨x, z', w', hfX, hfM, hRel'⟩ := h (xs (i + 1)) z w hRel
  refine lv_aload_n (i := 1) hx hb dl_398 rfl (lv_at hl 2 rfl) ?_
  refine la_arg (i := i) (jn := 1) hx hb hX hbl hL hS (lv_at hl 3 rfl) (lv_at hl 0 rfl) (by omega) rfl dl_399 dl_400 dl_401 dl_402 dl_403 ?_
  refine la_l (la_run S hKX hroX hinjX hadrX M_X3_cells ⟨wv_X3_cells, wz_X3_cells, wi_X3_cells, wc_X3_cells⟩ ll_31 ⟨by decide +kernel, by decide +kernel, by decide +kernel⟩ ⟨rfl, rfl, by decide⟩ ⟨rfl, rfl, by decide, by decide⟩ (a := 0) (n := 1) (as' := [mm_I (xs (i + 1))]) (rest := []) (by simp [mm_ok]; decide +kernel) rfl hfX hP hS hl.1 (Nat.le_of_ble_eq_true rfl) dl_404) hS hadrX (fun H1 locs1 hP1 hk1 hS1 => ?_)
  have hQ := la_kept hne hQ hk1
  have hP := hP1
  have hS := hS1
  clear hP1 hS1 hk1
  refine lv_aload_n (i := 2) hx hb dl_407 rfl (lv_at hl 1 rfl) ?_
  refine la_arg (i := i) (jn := 1) hx hb hX hbl hL hS (lv_at hl 3 rfl) (lv_at hl 0 rfl) (by omega) rfl dl_408 dl_409 dl_410 dl_411 dl_412 ?_
  refine la_l (la_run S hKM hroM hinjM hadrM M_X4_cells ⟨wv_X4_cells, wz_X4_cells, wi_X4_cells, wc_X4_cells⟩ ll_35 ⟨by decide +kernel, by decide +kernel, by decide +kernel⟩ ⟨rfl, rfl, by decide⟩ ⟨rfl, rfl, by decide, by decide⟩ (a := 0) (n := 1) (as' := [mm_I (xs (i + 1))]) (rest := [.long x]) (by simp [mm_ok]; decide +kernel) rfl hfM hQ hS hl.1 (Nat.le_of_ble_eq_true rfl) dl_413) hS hadrM (fun H1 locs1 hP1 hk1 hS1 => ?_)
  have hP := la_kept (fun i j h1 h2 => (hne j i h2 h1).symm) hP hk1
  have hQ := hP1
  refine W.lcmp hx hb dl_416 ?_
  refine W.eq (g2 := F0 m 417 la [.int 0]) (congrArg (fun v => F0 m 417 la [.int v]) (la_cmp x)) ?_
  refine lv_if_eq (tgt := 1697) hx hb dl_417 rfl (fun _ => ?_) (fun q => absurd rfl q)
  exact next H1 locs1 z' w' hRel' hP hQ hS1
def eq_unsure (Rel : mm_S → mm_S → Prop) : Prop := ∀ (a1 : Int32) (z w : mm_S), Rel z w → ∃ (x : Int32) (z' w' : mm_S), f_X3_unsure [mm_P 3 0, mm_I a1] z (some (mm_I x), z') ∧ f_X4_unsure [mm_P 4 0, mm_I a1] w (some (mm_I x), w') ∧ Rel z' w'
theorem la_unsure_case {p : Program} {l : Launch} {e : Env} {s : State} {m : MethodId} {below : List Frame} {meth : Method} {c : Code} {b L : Nat} {xs : Nat → Int32} {GX GM : mm_G} {Rel : mm_S → mm_S → Prop} (C : la_C p s m meth c b L xs GX GM) (h : eq_unsure Rel) {i : Nat} (hi : i + 6 ≤ L) {z w : mm_S} {H : Heap} {locs : List Loc} {la : Array Slot} (hRel : Rel z w) (hP : mm_H GX lyTX lyFA lenX snX 46 z H) (hQ : mm_H GM lyTM lyFA lenM snM 22 w H) (hS : va_S (la_A s) s.heap H locs) (hl : lv_has la 4 [(3, .int (nI i)), (2, .ref (GM.1 0)), (1, .ref (GX.1 0)), (0, .ref b)])
    {Q : State → Prop} (next : ∀ (H : Heap) (locs : List Loc) (z w : mm_S), Rel z w → mm_H GX lyTX lyFA lenX snX 46 z H → mm_H GM lyTM lyFA lenM snM 22 w H → va_S (la_A s) s.heap H locs → W p l e room_1 s m #[Value.ref b] below meth c H locs 68 2349 Q (F0 m 1697 la [])) : W p l e room_1 s m #[Value.ref b] below meth c H locs 68 2349 Q (F0 m 422 la []) := by
  obtain ⟨S, hr, hlk, hX, hbl, hL, hKX, hKM, hroX, hroM, hinjX, hinjM, hne, hadrX, hadrM⟩ := C
  obtain ⟨hx, hb, hml, ho, hts⟩ := id S
  obtain ⟨x, z', w', hfX, hfM, hRel'⟩ := h (xs (i + 1)) z w hRel
  refine lv_aload_n (i := 1) hx hb dl_422 rfl (lv_at hl 2 rfl) ?_
  refine la_arg (i := i) (jn := 1) hx hb hX hbl hL hS (lv_at hl 3 rfl) (lv_at hl 0 rfl) (by omega) rfl dl_423 dl_424 dl_425 dl_426 dl_427 ?_
  refine la_i (la_run S hKX hroX hinjX hadrX M_X3_unsure ⟨wv_X3_unsure, wz_X3_unsure, wi_X3_unsure, wc_X3_unsure⟩ ll_36 ⟨by decide +kernel, by decide +kernel, by decide +kernel⟩ ⟨rfl, rfl, by decide⟩ ⟨rfl, rfl, by decide, by decide⟩ (a := 0) (n := 1) (as' := [mm_I (xs (i + 1))]) (rest := []) (by simp [mm_ok]; decide +kernel) rfl hfX hP hS hl.1 (Nat.le_of_ble_eq_true rfl) dl_428) hS hadrX (fun H1 locs1 hP1 hk1 hS1 => ?_)
  have hQ := la_kept hne hQ hk1
  have hP := hP1
  have hS := hS1
  clear hP1 hS1 hk1
  refine lv_aload_n (i := 2) hx hb dl_431 rfl (lv_at hl 1 rfl) ?_
  refine la_arg (i := i) (jn := 1) hx hb hX hbl hL hS (lv_at hl 3 rfl) (lv_at hl 0 rfl) (by omega) rfl dl_432 dl_433 dl_434 dl_435 dl_436 ?_
  refine la_i (la_run S hKM hroM hinjM hadrM M_X4_unsure ⟨wv_X4_unsure, wz_X4_unsure, wi_X4_unsure, wc_X4_unsure⟩ ll_40 ⟨by decide +kernel, by decide +kernel, by decide +kernel⟩ ⟨rfl, rfl, by decide⟩ ⟨rfl, rfl, by decide, by decide⟩ (a := 0) (n := 1) (as' := [mm_I (xs (i + 1))]) (rest := [.int x]) (by simp [mm_ok]; decide +kernel) rfl hfM hQ hS hl.1 (Nat.le_of_ble_eq_true rfl) dl_437) hS hadrM (fun H1 locs1 hP1 hk1 hS1 => ?_)
  have hP := la_kept (fun i j h1 h2 => (hne j i h2 h1).symm) hP hk1
  have hQ := hP1
  refine lv_icmp_eq (tgt := 1697) hx hb dl_440 rfl (fun _ => ?_) (fun q => absurd rfl q)
  exact next H1 locs1 z' w' hRel' hP hQ hS1
def eq_sure (Rel : mm_S → mm_S → Prop) : Prop := ∀ (z w : mm_S), Rel z w → ∃ (x : Int32) (z' w' : mm_S), f_X3_sure [mm_P 3 0] z (some (mm_I x), z') ∧ f_X4_sure [mm_P 4 0] w (some (mm_I x), w') ∧ Rel z' w'
theorem la_sure_case {p : Program} {l : Launch} {e : Env} {s : State} {m : MethodId} {below : List Frame} {meth : Method} {c : Code} {b L : Nat} {xs : Nat → Int32} {GX GM : mm_G} {Rel : mm_S → mm_S → Prop} (C : la_C p s m meth c b L xs GX GM) (h : eq_sure Rel) {i : Nat} (hi : i + 6 ≤ L) {z w : mm_S} {H : Heap} {locs : List Loc} {la : Array Slot} (hRel : Rel z w) (hP : mm_H GX lyTX lyFA lenX snX 46 z H) (hQ : mm_H GM lyTM lyFA lenM snM 22 w H) (hS : va_S (la_A s) s.heap H locs) (hl : lv_has la 4 [(3, .int (nI i)), (2, .ref (GM.1 0)), (1, .ref (GX.1 0)), (0, .ref b)])
    {Q : State → Prop} (next : ∀ (H : Heap) (locs : List Loc) (z w : mm_S), Rel z w → mm_H GX lyTX lyFA lenX snX 46 z H → mm_H GM lyTM lyFA lenM snM 22 w H → va_S (la_A s) s.heap H locs → W p l e room_1 s m #[Value.ref b] below meth c H locs 68 2349 Q (F0 m 1697 la [])) : W p l e room_1 s m #[Value.ref b] below meth c H locs 68 2349 Q (F0 m 445 la []) := by
  obtain ⟨S, hr, hlk, hX, hbl, hL, hKX, hKM, hroX, hroM, hinjX, hinjM, hne, hadrX, hadrM⟩ := C
  obtain ⟨hx, hb, hml, ho, hts⟩ := id S
  obtain ⟨x, z', w', hfX, hfM, hRel'⟩ := h z w hRel
  refine lv_aload_n (i := 1) hx hb dl_445 rfl (lv_at hl 2 rfl) ?_
  refine la_i (la_run S hKX hroX hinjX hadrX M_X3_sure ⟨wv_X3_sure, wz_X3_sure, wi_X3_sure, wc_X3_sure⟩ ll_41 ⟨by decide +kernel, by decide +kernel, by decide +kernel⟩ ⟨rfl, rfl, by decide⟩ ⟨rfl, rfl, by decide, by decide⟩ (a := 0) (n := 0) (as' := []) (rest := []) (by simp [mm_ok]; decide +kernel) rfl hfX hP hS hl.1 (Nat.le_of_ble_eq_true rfl) dl_446) hS hadrX (fun H1 locs1 hP1 hk1 hS1 => ?_)
  have hQ := la_kept hne hQ hk1
  have hP := hP1
  have hS := hS1
  clear hP1 hS1 hk1
  refine lv_aload_n (i := 2) hx hb dl_449 rfl (lv_at hl 1 rfl) ?_
  refine la_i (la_run S hKM hroM hinjM hadrM M_X4_sure ⟨wv_X4_sure, wz_X4_sure, wi_X4_sure, wc_X4_sure⟩ ll_45 ⟨by decide +kernel, by decide +kernel, by decide +kernel⟩ ⟨rfl, rfl, by decide⟩ ⟨rfl, rfl, by decide, by decide⟩ (a := 0) (n := 0) (as' := []) (rest := [.int x]) (by simp [mm_ok]; decide +kernel) rfl hfM hQ hS hl.1 (Nat.le_of_ble_eq_true rfl) dl_450) hS hadrM (fun H1 locs1 hP1 hk1 hS1 => ?_)
  have hP := la_kept (fun i j h1 h2 => (hne j i h2 h1).symm) hP hk1
  have hQ := hP1
  refine lv_icmp_eq (tgt := 1697) hx hb dl_453 rfl (fun _ => ?_) (fun q => absurd rfl q)
  exact next H1 locs1 z' w' hRel' hP hQ hS1
def eq_time (Rel : mm_S → mm_S → Prop) : Prop := ∀ (a1 a2 : Int32) (z w : mm_S), Rel z w → ∃ (x : Int32) (z' w' : mm_S), f_X3_time [mm_P 3 0, mm_I a1, mm_I a2] z (some (mm_I x), z') ∧ f_X4_time [mm_P 4 0, mm_I a1, mm_I a2] w (some (mm_I x), w') ∧ Rel z' w'
theorem la_time_case {p : Program} {l : Launch} {e : Env} {s : State} {m : MethodId} {below : List Frame} {meth : Method} {c : Code} {b L : Nat} {xs : Nat → Int32} {GX GM : mm_G} {Rel : mm_S → mm_S → Prop} (C : la_C p s m meth c b L xs GX GM) (h : eq_time Rel) {i : Nat} (hi : i + 6 ≤ L) {z w : mm_S} {H : Heap} {locs : List Loc} {la : Array Slot} (hRel : Rel z w) (hP : mm_H GX lyTX lyFA lenX snX 46 z H) (hQ : mm_H GM lyTM lyFA lenM snM 22 w H) (hS : va_S (la_A s) s.heap H locs) (hl : lv_has la 4 [(3, .int (nI i)), (2, .ref (GM.1 0)), (1, .ref (GX.1 0)), (0, .ref b)])
    {Q : State → Prop} (next : ∀ (H : Heap) (locs : List Loc) (z w : mm_S), Rel z w → mm_H GX lyTX lyFA lenX snX 46 z H → mm_H GM lyTM lyFA lenM snM 22 w H → va_S (la_A s) s.heap H locs → W p l e room_1 s m #[Value.ref b] below meth c H locs 68 2349 Q (F0 m 1697 la [])) : W p l e room_1 s m #[Value.ref b] below meth c H locs 68 2349 Q (F0 m 458 la []) := by
  obtain ⟨S, hr, hlk, hX, hbl, hL, hKX, hKM, hroX, hroM, hinjX, hinjM, hne, hadrX, hadrM⟩ := C
  obtain ⟨hx, hb, hml, ho, hts⟩ := id S
  obtain ⟨x, z', w', hfX, hfM, hRel'⟩ := h (xs (i + 1)) (xs (i + 2)) z w hRel
  refine lv_aload_n (i := 1) hx hb dl_458 rfl (lv_at hl 2 rfl) ?_
  refine la_arg (i := i) (jn := 1) hx hb hX hbl hL hS (lv_at hl 3 rfl) (lv_at hl 0 rfl) (by omega) rfl dl_459 dl_460 dl_461 dl_462 dl_463 ?_
  refine la_arg (i := i) (jn := 2) hx hb hX hbl hL hS (lv_at hl 3 rfl) (lv_at hl 0 rfl) (by omega) rfl dl_464 dl_465 dl_466 dl_467 dl_468 ?_
  refine la_i (la_run S hKX hroX hinjX hadrX M_X3_time ⟨wv_X3_time, wz_X3_time, wi_X3_time, wc_X3_time⟩ ll_46 ⟨by decide +kernel, by decide +kernel, by decide +kernel⟩ ⟨rfl, rfl, by decide⟩ ⟨rfl, rfl, by decide, by decide⟩ (a := 0) (n := 2) (as' := [mm_I (xs (i + 1)), mm_I (xs (i + 2))]) (rest := []) (by simp [mm_ok]; decide +kernel) rfl hfX hP hS hl.1 (Nat.le_of_ble_eq_true rfl) dl_469) hS hadrX (fun H1 locs1 hP1 hk1 hS1 => ?_)
  have hQ := la_kept hne hQ hk1
  have hP := hP1
  have hS := hS1
  clear hP1 hS1 hk1
  refine lv_aload_n (i := 2) hx hb dl_472 rfl (lv_at hl 1 rfl) ?_
  refine la_arg (i := i) (jn := 1) hx hb hX hbl hL hS (lv_at hl 3 rfl) (lv_at hl 0 rfl) (by omega) rfl dl_473 dl_474 dl_475 dl_476 dl_477 ?_
  refine la_arg (i := i) (jn := 2) hx hb hX hbl hL hS (lv_at hl 3 rfl) (lv_at hl 0 rfl) (by omega) rfl dl_478 dl_479 dl_480 dl_481 dl_482 ?_
  refine la_i (la_run S hKM hroM hinjM hadrM M_X4_time ⟨wv_X4_time, wz_X4_time, wi_X4_time, wc_X4_time⟩ ll_49 ⟨by decide +kernel, by decide +kernel, by decide +kernel⟩ ⟨rfl, rfl, by decide⟩ ⟨rfl, rfl, by decide, by decide⟩ (a := 0) (n := 2) (as' := [mm_I (xs (i + 1)), mm_I (xs (i + 2))]) (rest := [.int x]) (by simp [mm_ok]; decide +kernel) rfl hfM hQ hS hl.1 (Nat.le_of_ble_eq_true rfl) dl_483) hS hadrM (fun H1 locs1 hP1 hk1 hS1 => ?_)
  have hP := la_kept (fun i j h1 h2 => (hne j i h2 h1).symm) hP hk1
  have hQ := hP1
  refine lv_icmp_eq (tgt := 1697) hx hb dl_486 rfl (fun _ => ?_) (fun q => absurd rfl q)
  exact next H1 locs1 z' w' hRel' hP hQ hS1
def eq_heard (Rel : mm_S → mm_S → Prop) : Prop := ∀ (a1 a2 : Int32) (z w : mm_S), Rel z w → ∃ (x : Int32) (z' w' : mm_S), f_X3_heard [mm_P 3 0, mm_I a1, mm_I a2] z (some (mm_I x), z') ∧ f_X4_heard [mm_P 4 0, mm_I a1, mm_I a2] w (some (mm_I x), w') ∧ Rel z' w'
theorem la_heard_case {p : Program} {l : Launch} {e : Env} {s : State} {m : MethodId} {below : List Frame} {meth : Method} {c : Code} {b L : Nat} {xs : Nat → Int32} {GX GM : mm_G} {Rel : mm_S → mm_S → Prop} (C : la_C p s m meth c b L xs GX GM) (h : eq_heard Rel) {i : Nat} (hi : i + 6 ≤ L) {z w : mm_S} {H : Heap} {locs : List Loc} {la : Array Slot} (hRel : Rel z w) (hP : mm_H GX lyTX lyFA lenX snX 46 z H) (hQ : mm_H GM lyTM lyFA lenM snM 22 w H) (hS : va_S (la_A s) s.heap H locs) (hl : lv_has la 4 [(3, .int (nI i)), (2, .ref (GM.1 0)), (1, .ref (GX.1 0)), (0, .ref b)])
    {Q : State → Prop} (next : ∀ (H : Heap) (locs : List Loc) (z w : mm_S), Rel z w → mm_H GX lyTX lyFA lenX snX 46 z H → mm_H GM lyTM lyFA lenM snM 22 w H → va_S (la_A s) s.heap H locs → W p l e room_1 s m #[Value.ref b] below meth c H locs 68 2349 Q (F0 m 1697 la [])) : W p l e room_1 s m #[Value.ref b] below meth c H locs 68 2349 Q (F0 m 491 la []) := by
  obtain ⟨S, hr, hlk, hX, hbl, hL, hKX, hKM, hroX, hroM, hinjX, hinjM, hne, hadrX, hadrM⟩ := C
  obtain ⟨hx, hb, hml, ho, hts⟩ := id S
  obtain ⟨x, z', w', hfX, hfM, hRel'⟩ := h (xs (i + 1)) (xs (i + 2)) z w hRel
  refine lv_aload_n (i := 1) hx hb dl_491 rfl (lv_at hl 2 rfl) ?_
  refine la_arg (i := i) (jn := 1) hx hb hX hbl hL hS (lv_at hl 3 rfl) (lv_at hl 0 rfl) (by omega) rfl dl_492 dl_493 dl_494 dl_495 dl_496 ?_
  refine la_arg (i := i) (jn := 2) hx hb hX hbl hL hS (lv_at hl 3 rfl) (lv_at hl 0 rfl) (by omega) rfl dl_497 dl_498 dl_499 dl_500 dl_501 ?_
  refine la_i (la_run S hKX hroX hinjX hadrX M_X3_heard ⟨wv_X3_heard, wz_X3_heard, wi_X3_heard, wc_X3_heard⟩ ll_50 ⟨by decide +kernel, by decide +kernel, by decide +kernel⟩ ⟨rfl, rfl, by decide⟩ ⟨rfl, rfl, by decide, by decide⟩ (a := 0) (n := 2) (as' := [mm_I (xs (i + 1)), mm_I (xs (i + 2))]) (rest := []) (by simp [mm_ok]; decide +kernel) rfl hfX hP hS hl.1 (Nat.le_of_ble_eq_true rfl) dl_502) hS hadrX (fun H1 locs1 hP1 hk1 hS1 => ?_)
  have hQ := la_kept hne hQ hk1
  have hP := hP1
  have hS := hS1
  clear hP1 hS1 hk1
  refine lv_aload_n (i := 2) hx hb dl_505 rfl (lv_at hl 1 rfl) ?_
  refine la_arg (i := i) (jn := 1) hx hb hX hbl hL hS (lv_at hl 3 rfl) (lv_at hl 0 rfl) (by omega) rfl dl_506 dl_507 dl_508 dl_509 dl_510 ?_
  refine la_arg (i := i) (jn := 2) hx hb hX hbl hL hS (lv_at hl 3 rfl) (lv_at hl 0 rfl) (by omega) rfl dl_511 dl_512 dl_513 dl_514 dl_515 ?_
  refine la_i (la_run S hKM hroM hinjM hadrM M_X4_heard ⟨wv_X4_heard, wz_X4_heard, wi_X4_heard, wc_X4_heard⟩ ll_53 ⟨by decide +kernel, by decide +kernel, by decide +kernel⟩ ⟨rfl, rfl, by decide⟩ ⟨rfl, rfl, by decide, by decide⟩ (a := 0) (n := 2) (as' := [mm_I (xs (i + 1)), mm_I (xs (i + 2))]) (rest := [.int x]) (by simp [mm_ok]; decide +kernel) rfl hfM hQ hS hl.1 (Nat.le_of_ble_eq_true rfl) dl_516) hS hadrM (fun H1 locs1 hP1 hk1 hS1 => ?_)
  have hP := la_kept (fun i j h1 h2 => (hne j i h2 h1).symm) hP hk1
  have hQ := hP1
  refine lv_icmp_eq (tgt := 1697) hx hb dl_519 rfl (fun _ => ?_) (fun q => absurd rfl q)
  exact next H1 locs1 z' w' hRel' hP hQ hS1
def eq_reach (Rel : mm_S → mm_S → Prop) : Prop := ∀ (a1 : Int32) (z w : mm_S), Rel z w → ∃ (x : Int64) (z' w' : mm_S), f_X3_reach [mm_P 3 0, mm_I a1] z (some (mm_J x), z') ∧ f_X4_reach [mm_P 4 0, mm_I a1] w (some (mm_J x), w') ∧ Rel z' w'
theorem la_reach_case {p : Program} {l : Launch} {e : Env} {s : State} {m : MethodId} {below : List Frame} {meth : Method} {c : Code} {b L : Nat} {xs : Nat → Int32} {GX GM : mm_G} {Rel : mm_S → mm_S → Prop} (C : la_C p s m meth c b L xs GX GM) (h : eq_reach Rel) {i : Nat} (hi : i + 6 ≤ L) {z w : mm_S} {H : Heap} {locs : List Loc} {la : Array Slot} (hRel : Rel z w) (hP : mm_H GX lyTX lyFA lenX snX 46 z H) (hQ : mm_H GM lyTM lyFA lenM snM 22 w H) (hS : va_S (la_A s) s.heap H locs) (hl : lv_has la 4 [(3, .int (nI i)), (2, .ref (GM.1 0)), (1, .ref (GX.1 0)), (0, .ref b)])
    {Q : State → Prop} (next : ∀ (H : Heap) (locs : List Loc) (z w : mm_S), Rel z w → mm_H GX lyTX lyFA lenX snX 46 z H → mm_H GM lyTM lyFA lenM snM 22 w H → va_S (la_A s) s.heap H locs → W p l e room_1 s m #[Value.ref b] below meth c H locs 68 2349 Q (F0 m 1697 la [])) : W p l e room_1 s m #[Value.ref b] below meth c H locs 68 2349 Q (F0 m 524 la []) := by
  obtain ⟨S, hr, hlk, hX, hbl, hL, hKX, hKM, hroX, hroM, hinjX, hinjM, hne, hadrX, hadrM⟩ := C
  obtain ⟨hx, hb, hml, ho, hts⟩ := id S
  obtain ⟨x, z', w', hfX, hfM, hRel'⟩ := h (xs (i + 1)) z w hRel
  refine lv_aload_n (i := 1) hx hb dl_524 rfl (lv_at hl 2 rfl) ?_
  refine la_arg (i := i) (jn := 1) hx hb hX hbl hL hS (lv_at hl 3 rfl) (lv_at hl 0 rfl) (by omega) rfl dl_525 dl_526 dl_527 dl_528 dl_529 ?_
  refine la_l (la_run S hKX hroX hinjX hadrX M_X3_reach ⟨wv_X3_reach, wz_X3_reach, wi_X3_reach, wc_X3_reach⟩ ll_54 ⟨by decide +kernel, by decide +kernel, by decide +kernel⟩ ⟨rfl, rfl, by decide⟩ ⟨rfl, rfl, by decide, by decide⟩ (a := 0) (n := 1) (as' := [mm_I (xs (i + 1))]) (rest := []) (by simp [mm_ok]; decide +kernel) rfl hfX hP hS hl.1 (Nat.le_of_ble_eq_true rfl) dl_530) hS hadrX (fun H1 locs1 hP1 hk1 hS1 => ?_)
  have hQ := la_kept hne hQ hk1
  have hP := hP1
  have hS := hS1
  clear hP1 hS1 hk1
  refine lv_aload_n (i := 2) hx hb dl_533 rfl (lv_at hl 1 rfl) ?_
  refine la_arg (i := i) (jn := 1) hx hb hX hbl hL hS (lv_at hl 3 rfl) (lv_at hl 0 rfl) (by omega) rfl dl_534 dl_535 dl_536 dl_537 dl_538 ?_
  refine la_l (la_run S hKM hroM hinjM hadrM M_X4_reach ⟨wv_X4_reach, wz_X4_reach, wi_X4_reach, wc_X4_reach⟩ ll_57 ⟨by decide +kernel, by decide +kernel, by decide +kernel⟩ ⟨rfl, rfl, by decide⟩ ⟨rfl, rfl, by decide, by decide⟩ (a := 0) (n := 1) (as' := [mm_I (xs (i + 1))]) (rest := [.long x]) (by simp [mm_ok]; decide +kernel) rfl hfM hQ hS hl.1 (Nat.le_of_ble_eq_true rfl) dl_539) hS hadrM (fun H1 locs1 hP1 hk1 hS1 => ?_)
  have hP := la_kept (fun i j h1 h2 => (hne j i h2 h1).symm) hP hk1
  have hQ := hP1
  refine W.lcmp hx hb dl_542 ?_
  refine W.eq (g2 := F0 m 543 la [.int 0]) (congrArg (fun v => F0 m 543 la [.int v]) (la_cmp x)) ?_
  refine lv_if_eq (tgt := 1697) hx hb dl_543 rfl (fun _ => ?_) (fun q => absurd rfl q)
  exact next H1 locs1 z' w' hRel' hP hQ hS1
def eq_hears (Rel : mm_S → mm_S → Prop) : Prop := ∀ (a1 : Int32) (z w : mm_S), Rel z w → ∃ (x : Int32) (z' w' : mm_S), f_X3_hears [mm_P 3 0, mm_I a1] z (some (mm_I x), z') ∧ f_X4_hears [mm_P 4 0, mm_I a1] w (some (mm_I x), w') ∧ Rel z' w'
theorem la_hears_case {p : Program} {l : Launch} {e : Env} {s : State} {m : MethodId} {below : List Frame} {meth : Method} {c : Code} {b L : Nat} {xs : Nat → Int32} {GX GM : mm_G} {Rel : mm_S → mm_S → Prop} (C : la_C p s m meth c b L xs GX GM) (h : eq_hears Rel) {i : Nat} (hi : i + 6 ≤ L) {z w : mm_S} {H : Heap} {locs : List Loc} {la : Array Slot} (hRel : Rel z w) (hP : mm_H GX lyTX lyFA lenX snX 46 z H) (hQ : mm_H GM lyTM lyFA lenM snM 22 w H) (hS : va_S (la_A s) s.heap H locs) (hl : lv_has la 4 [(3, .int (nI i)), (2, .ref (GM.1 0)), (1, .ref (GX.1 0)), (0, .ref b)])
    {Q : State → Prop} (next : ∀ (H : Heap) (locs : List Loc) (z w : mm_S), Rel z w → mm_H GX lyTX lyFA lenX snX 46 z H → mm_H GM lyTM lyFA lenM snM 22 w H → va_S (la_A s) s.heap H locs → W p l e room_1 s m #[Value.ref b] below meth c H locs 68 2349 Q (F0 m 1697 la [])) : W p l e room_1 s m #[Value.ref b] below meth c H locs 68 2349 Q (F0 m 548 la []) := by
  obtain ⟨S, hr, hlk, hX, hbl, hL, hKX, hKM, hroX, hroM, hinjX, hinjM, hne, hadrX, hadrM⟩ := C
  obtain ⟨hx, hb, hml, ho, hts⟩ := id S
  obtain ⟨x, z', w', hfX, hfM, hRel'⟩ := h (xs (i + 1)) z w hRel
  refine lv_aload_n (i := 1) hx hb dl_548 rfl (lv_at hl 2 rfl) ?_
  refine la_arg (i := i) (jn := 1) hx hb hX hbl hL hS (lv_at hl 3 rfl) (lv_at hl 0 rfl) (by omega) rfl dl_549 dl_550 dl_551 dl_552 dl_553 ?_
  refine la_i (la_run S hKX hroX hinjX hadrX M_X3_hears ⟨wv_X3_hears, wz_X3_hears, wi_X3_hears, wc_X3_hears⟩ ll_58 ⟨by decide +kernel, by decide +kernel, by decide +kernel⟩ ⟨rfl, rfl, by decide⟩ ⟨rfl, rfl, by decide, by decide⟩ (a := 0) (n := 1) (as' := [mm_I (xs (i + 1))]) (rest := []) (by simp [mm_ok]; decide +kernel) rfl hfX hP hS hl.1 (Nat.le_of_ble_eq_true rfl) dl_554) hS hadrX (fun H1 locs1 hP1 hk1 hS1 => ?_)
  have hQ := la_kept hne hQ hk1
  have hP := hP1
  have hS := hS1
  clear hP1 hS1 hk1
  refine lv_aload_n (i := 2) hx hb dl_557 rfl (lv_at hl 1 rfl) ?_
  refine la_arg (i := i) (jn := 1) hx hb hX hbl hL hS (lv_at hl 3 rfl) (lv_at hl 0 rfl) (by omega) rfl dl_558 dl_559 dl_560 dl_561 dl_562 ?_
  refine la_i (la_run S hKM hroM hinjM hadrM M_X4_hears ⟨wv_X4_hears, wz_X4_hears, wi_X4_hears, wc_X4_hears⟩ ll_61 ⟨by decide +kernel, by decide +kernel, by decide +kernel⟩ ⟨rfl, rfl, by decide⟩ ⟨rfl, rfl, by decide, by decide⟩ (a := 0) (n := 1) (as' := [mm_I (xs (i + 1))]) (rest := [.int x]) (by simp [mm_ok]; decide +kernel) rfl hfM hQ hS hl.1 (Nat.le_of_ble_eq_true rfl) dl_563) hS hadrM (fun H1 locs1 hP1 hk1 hS1 => ?_)
  have hP := la_kept (fun i j h1 h2 => (hne j i h2 h1).symm) hP hk1
  have hQ := hP1
  refine lv_icmp_eq (tgt := 1697) hx hb dl_566 rfl (fun _ => ?_) (fun q => absurd rfl q)
  exact next H1 locs1 z' w' hRel' hP hQ hS1
def eq_echo (Rel : mm_S → mm_S → Prop) : Prop := ∀ (a1 a2 a3 : Int32) (z w : mm_S), Rel z w → ∃ (x : Int32) (z' w' : mm_S), f_X3_echo [mm_P 3 0, mm_I a1, mm_I a2, mm_I a3] z (some (mm_I x), z') ∧ f_X4_echo [mm_P 4 0, mm_I a1, mm_I a2, mm_I a3] w (some (mm_I x), w') ∧ Rel z' w'
theorem la_echo_case {p : Program} {l : Launch} {e : Env} {s : State} {m : MethodId} {below : List Frame} {meth : Method} {c : Code} {b L : Nat} {xs : Nat → Int32} {GX GM : mm_G} {Rel : mm_S → mm_S → Prop} (C : la_C p s m meth c b L xs GX GM) (h : eq_echo Rel) {i : Nat} (hi : i + 6 ≤ L) {z w : mm_S} {H : Heap} {locs : List Loc} {la : Array Slot} (hRel : Rel z w) (hP : mm_H GX lyTX lyFA lenX snX 46 z H) (hQ : mm_H GM lyTM lyFA lenM snM 22 w H) (hS : va_S (la_A s) s.heap H locs) (hl : lv_has la 4 [(3, .int (nI i)), (2, .ref (GM.1 0)), (1, .ref (GX.1 0)), (0, .ref b)])
    {Q : State → Prop} (next : ∀ (H : Heap) (locs : List Loc) (z w : mm_S), Rel z w → mm_H GX lyTX lyFA lenX snX 46 z H → mm_H GM lyTM lyFA lenM snM 22 w H → va_S (la_A s) s.heap H locs → W p l e room_1 s m #[Value.ref b] below meth c H locs 68 2349 Q (F0 m 1697 la [])) : W p l e room_1 s m #[Value.ref b] below meth c H locs 68 2349 Q (F0 m 571 la []) := by
  obtain ⟨S, hr, hlk, hX, hbl, hL, hKX, hKM, hroX, hroM, hinjX, hinjM, hne, hadrX, hadrM⟩ := C
  obtain ⟨hx, hb, hml, ho, hts⟩ := id S
  obtain ⟨x, z', w', hfX, hfM, hRel'⟩ := h (xs (i + 1)) (xs (i + 2)) (xs (i + 3)) z w hRel
  refine lv_aload_n (i := 1) hx hb dl_571 rfl (lv_at hl 2 rfl) ?_
  refine la_arg (i := i) (jn := 1) hx hb hX hbl hL hS (lv_at hl 3 rfl) (lv_at hl 0 rfl) (by omega) rfl dl_572 dl_573 dl_574 dl_575 dl_576 ?_
  refine la_arg (i := i) (jn := 2) hx hb hX hbl hL hS (lv_at hl 3 rfl) (lv_at hl 0 rfl) (by omega) rfl dl_577 dl_578 dl_579 dl_580 dl_581 ?_
  refine la_arg (i := i) (jn := 3) hx hb hX hbl hL hS (lv_at hl 3 rfl) (lv_at hl 0 rfl) (by omega) rfl dl_582 dl_583 dl_584 dl_585 dl_586 ?_
  refine la_i (la_run S hKX hroX hinjX hadrX M_X3_echo ⟨wv_X3_echo, wz_X3_echo, wi_X3_echo, wc_X3_echo⟩ ll_62 ⟨by decide +kernel, by decide +kernel, by decide +kernel⟩ ⟨rfl, rfl, by decide⟩ ⟨rfl, rfl, by decide, by decide⟩ (a := 0) (n := 3) (as' := [mm_I (xs (i + 1)), mm_I (xs (i + 2)), mm_I (xs (i + 3))]) (rest := []) (by simp [mm_ok]; decide +kernel) rfl hfX hP hS hl.1 (Nat.le_of_ble_eq_true rfl) dl_587) hS hadrX (fun H1 locs1 hP1 hk1 hS1 => ?_)
  have hQ := la_kept hne hQ hk1
  have hP := hP1
  have hS := hS1
  clear hP1 hS1 hk1
  refine lv_aload_n (i := 2) hx hb dl_590 rfl (lv_at hl 1 rfl) ?_
  refine la_arg (i := i) (jn := 1) hx hb hX hbl hL hS (lv_at hl 3 rfl) (lv_at hl 0 rfl) (by omega) rfl dl_591 dl_592 dl_593 dl_594 dl_595 ?_
  refine la_arg (i := i) (jn := 2) hx hb hX hbl hL hS (lv_at hl 3 rfl) (lv_at hl 0 rfl) (by omega) rfl dl_596 dl_597 dl_598 dl_599 dl_600 ?_
  refine la_arg (i := i) (jn := 3) hx hb hX hbl hL hS (lv_at hl 3 rfl) (lv_at hl 0 rfl) (by omega) rfl dl_601 dl_602 dl_603 dl_604 dl_605 ?_
  refine la_i (la_run S hKM hroM hinjM hadrM M_X4_echo ⟨wv_X4_echo, wz_X4_echo, wi_X4_echo, wc_X4_echo⟩ ll_65 ⟨by decide +kernel, by decide +kernel, by decide +kernel⟩ ⟨rfl, rfl, by decide⟩ ⟨rfl, rfl, by decide, by decide⟩ (a := 0) (n := 3) (as' := [mm_I (xs (i + 1)), mm_I (xs (i + 2)), mm_I (xs (i + 3))]) (rest := [.int x]) (by simp [mm_ok]; decide +kernel) rfl hfM hQ hS hl.1 (Nat.le_of_ble_eq_true rfl) dl_606) hS hadrM (fun H1 locs1 hP1 hk1 hS1 => ?_)
  have hP := la_kept (fun i j h1 h2 => (hne j i h2 h1).symm) hP hk1
  have hQ := hP1
  refine lv_icmp_eq (tgt := 1697) hx hb dl_609 rfl (fun _ => ?_) (fun q => absurd rfl q)
  exact next H1 locs1 z' w' hRel' hP hQ hS1
def eq_chord (Rel : mm_S → mm_S → Prop) : Prop := ∀ (a1 a2 a3 : Int32) (z w : mm_S), Rel z w → ∃ (x : Int32) (z' w' : mm_S), f_X3_chord [mm_P 3 0, mm_I a1, mm_I a2, mm_I a3] z (some (mm_I x), z') ∧ f_X4_chord [mm_P 4 0, mm_I a1, mm_I a2, mm_I a3] w (some (mm_I x), w') ∧ Rel z' w'
theorem la_chord_case {p : Program} {l : Launch} {e : Env} {s : State} {m : MethodId} {below : List Frame} {meth : Method} {c : Code} {b L : Nat} {xs : Nat → Int32} {GX GM : mm_G} {Rel : mm_S → mm_S → Prop} (C : la_C p s m meth c b L xs GX GM) (h : eq_chord Rel) {i : Nat} (hi : i + 6 ≤ L) {z w : mm_S} {H : Heap} {locs : List Loc} {la : Array Slot} (hRel : Rel z w) (hP : mm_H GX lyTX lyFA lenX snX 46 z H) (hQ : mm_H GM lyTM lyFA lenM snM 22 w H) (hS : va_S (la_A s) s.heap H locs) (hl : lv_has la 4 [(3, .int (nI i)), (2, .ref (GM.1 0)), (1, .ref (GX.1 0)), (0, .ref b)])
    {Q : State → Prop} (next : ∀ (H : Heap) (locs : List Loc) (z w : mm_S), Rel z w → mm_H GX lyTX lyFA lenX snX 46 z H → mm_H GM lyTM lyFA lenM snM 22 w H → va_S (la_A s) s.heap H locs → W p l e room_1 s m #[Value.ref b] below meth c H locs 68 2349 Q (F0 m 1697 la [])) : W p l e room_1 s m #[Value.ref b] below meth c H locs 68 2349 Q (F0 m 614 la []) := by
  obtain ⟨S, hr, hlk, hX, hbl, hL, hKX, hKM, hroX, hroM, hinjX, hinjM, hne, hadrX, hadrM⟩ := C
  obtain ⟨hx, hb, hml, ho, hts⟩ := id S
  obtain ⟨x, z', w', hfX, hfM, hRel'⟩ := h (xs (i + 1)) (xs (i + 2)) (xs (i + 3)) z w hRel
  refine lv_aload_n (i := 1) hx hb dl_614 rfl (lv_at hl 2 rfl) ?_
  refine la_arg (i := i) (jn := 1) hx hb hX hbl hL hS (lv_at hl 3 rfl) (lv_at hl 0 rfl) (by omega) rfl dl_615 dl_616 dl_617 dl_618 dl_619 ?_
  refine la_arg (i := i) (jn := 2) hx hb hX hbl hL hS (lv_at hl 3 rfl) (lv_at hl 0 rfl) (by omega) rfl dl_620 dl_621 dl_622 dl_623 dl_624 ?_
  refine la_arg (i := i) (jn := 3) hx hb hX hbl hL hS (lv_at hl 3 rfl) (lv_at hl 0 rfl) (by omega) rfl dl_625 dl_626 dl_627 dl_628 dl_629 ?_
  refine la_i (la_run S hKX hroX hinjX hadrX M_X3_chord ⟨wv_X3_chord, wz_X3_chord, wi_X3_chord, wc_X3_chord⟩ ll_66 ⟨by decide +kernel, by decide +kernel, by decide +kernel⟩ ⟨rfl, rfl, by decide⟩ ⟨rfl, rfl, by decide, by decide⟩ (a := 0) (n := 3) (as' := [mm_I (xs (i + 1)), mm_I (xs (i + 2)), mm_I (xs (i + 3))]) (rest := []) (by simp [mm_ok]; decide +kernel) rfl hfX hP hS hl.1 (Nat.le_of_ble_eq_true rfl) dl_630) hS hadrX (fun H1 locs1 hP1 hk1 hS1 => ?_)
  have hQ := la_kept hne hQ hk1
  have hP := hP1
  have hS := hS1
  clear hP1 hS1 hk1
  refine lv_aload_n (i := 2) hx hb dl_633 rfl (lv_at hl 1 rfl) ?_
  refine la_arg (i := i) (jn := 1) hx hb hX hbl hL hS (lv_at hl 3 rfl) (lv_at hl 0 rfl) (by omega) rfl dl_634 dl_635 dl_636 dl_637 dl_638 ?_
  refine la_arg (i := i) (jn := 2) hx hb hX hbl hL hS (lv_at hl 3 rfl) (lv_at hl 0 rfl) (by omega) rfl dl_639 dl_640 dl_641 dl_642 dl_643 ?_
  refine la_arg (i := i) (jn := 3) hx hb hX hbl hL hS (lv_at hl 3 rfl) (lv_at hl 0 rfl) (by omega) rfl dl_644 dl_645 dl_646 dl_647 dl_648 ?_
  refine la_i (la_run S hKM hroM hinjM hadrM M_X4_chord ⟨wv_X4_chord, wz_X4_chord, wi_X4_chord, wc_X4_chord⟩ ll_69 ⟨by decide +kernel, by decide +kernel, by decide +kernel⟩ ⟨rfl, rfl, by decide⟩ ⟨rfl, rfl, by decide, by decide⟩ (a := 0) (n := 3) (as' := [mm_I (xs (i + 1)), mm_I (xs (i + 2)), mm_I (xs (i + 3))]) (rest := [.int x]) (by simp [mm_ok]; decide +kernel) rfl hfM hQ hS hl.1 (Nat.le_of_ble_eq_true rfl) dl_649) hS hadrM (fun H1 locs1 hP1 hk1 hS1 => ?_)
  have hP := la_kept (fun i j h1 h2 => (hne j i h2 h1).symm) hP hk1
  have hQ := hP1
  refine lv_icmp_eq (tgt := 1697) hx hb dl_652 rfl (fun _ => ?_) (fun q => absurd rfl q)
  exact next H1 locs1 z' w' hRel' hP hQ hS1
def eq_last (Rel : mm_S → mm_S → Prop) : Prop := ∀ (a1 a2 : Int32) (z w : mm_S), Rel z w → ∃ (x : Int32) (z' w' : mm_S), f_X3_last [mm_P 3 0, mm_I a1, mm_I a2] z (some (mm_I x), z') ∧ f_X4_last [mm_P 4 0, mm_I a1, mm_I a2] w (some (mm_I x), w') ∧ Rel z' w'
theorem la_last_case {p : Program} {l : Launch} {e : Env} {s : State} {m : MethodId} {below : List Frame} {meth : Method} {c : Code} {b L : Nat} {xs : Nat → Int32} {GX GM : mm_G} {Rel : mm_S → mm_S → Prop} (C : la_C p s m meth c b L xs GX GM) (h : eq_last Rel) {i : Nat} (hi : i + 6 ≤ L) {z w : mm_S} {H : Heap} {locs : List Loc} {la : Array Slot} (hRel : Rel z w) (hP : mm_H GX lyTX lyFA lenX snX 46 z H) (hQ : mm_H GM lyTM lyFA lenM snM 22 w H) (hS : va_S (la_A s) s.heap H locs) (hl : lv_has la 4 [(3, .int (nI i)), (2, .ref (GM.1 0)), (1, .ref (GX.1 0)), (0, .ref b)])
    {Q : State → Prop} (next : ∀ (H : Heap) (locs : List Loc) (z w : mm_S), Rel z w → mm_H GX lyTX lyFA lenX snX 46 z H → mm_H GM lyTM lyFA lenM snM 22 w H → va_S (la_A s) s.heap H locs → W p l e room_1 s m #[Value.ref b] below meth c H locs 68 2349 Q (F0 m 1697 la [])) : W p l e room_1 s m #[Value.ref b] below meth c H locs 68 2349 Q (F0 m 657 la []) := by
  obtain ⟨S, hr, hlk, hX, hbl, hL, hKX, hKM, hroX, hroM, hinjX, hinjM, hne, hadrX, hadrM⟩ := C
  obtain ⟨hx, hb, hml, ho, hts⟩ := id S
  obtain ⟨x, z', w', hfX, hfM, hRel'⟩ := h (xs (i + 1)) (xs (i + 2)) z w hRel
  refine lv_aload_n (i := 1) hx hb dl_657 rfl (lv_at hl 2 rfl) ?_
  refine la_arg (i := i) (jn := 1) hx hb hX hbl hL hS (lv_at hl 3 rfl) (lv_at hl 0 rfl) (by omega) rfl dl_658 dl_659 dl_660 dl_661 dl_662 ?_
  refine la_arg (i := i) (jn := 2) hx hb hX hbl hL hS (lv_at hl 3 rfl) (lv_at hl 0 rfl) (by omega) rfl dl_663 dl_664 dl_665 dl_666 dl_667 ?_
  refine la_i (la_run S hKX hroX hinjX hadrX M_X3_last ⟨wv_X3_last, wz_X3_last, wi_X3_last, wc_X3_last⟩ ll_70 ⟨by decide +kernel, by decide +kernel, by decide +kernel⟩ ⟨rfl, rfl, by decide⟩ ⟨rfl, rfl, by decide, by decide⟩ (a := 0) (n := 2) (as' := [mm_I (xs (i + 1)), mm_I (xs (i + 2))]) (rest := []) (by simp [mm_ok]; decide +kernel) rfl hfX hP hS hl.1 (Nat.le_of_ble_eq_true rfl) dl_668) hS hadrX (fun H1 locs1 hP1 hk1 hS1 => ?_)
  have hQ := la_kept hne hQ hk1
  have hP := hP1
  have hS := hS1
  clear hP1 hS1 hk1
  refine lv_aload_n (i := 2) hx hb dl_671 rfl (lv_at hl 1 rfl) ?_
  refine la_arg (i := i) (jn := 1) hx hb hX hbl hL hS (lv_at hl 3 rfl) (lv_at hl 0 rfl) (by omega) rfl dl_672 dl_673 dl_674 dl_675 dl_676 ?_
  refine la_arg (i := i) (jn := 2) hx hb hX hbl hL hS (lv_at hl 3 rfl) (lv_at hl 0 rfl) (by omega) rfl dl_677 dl_678 dl_679 dl_680 dl_681 ?_
  refine la_i (la_run S hKM hroM hinjM hadrM M_X4_last ⟨wv_X4_last, wz_X4_last, wi_X4_last, wc_X4_last⟩ ll_73 ⟨by decide +kernel, by decide +kernel, by decide +kernel⟩ ⟨rfl, rfl, by decide⟩ ⟨rfl, rfl, by decide, by decide⟩ (a := 0) (n := 2) (as' := [mm_I (xs (i + 1)), mm_I (xs (i + 2))]) (rest := [.int x]) (by simp [mm_ok]; decide +kernel) rfl hfM hQ hS hl.1 (Nat.le_of_ble_eq_true rfl) dl_682) hS hadrM (fun H1 locs1 hP1 hk1 hS1 => ?_)
  have hP := la_kept (fun i j h1 h2 => (hne j i h2 h1).symm) hP hk1
  have hQ := hP1
  refine lv_icmp_eq (tgt := 1697) hx hb dl_685 rfl (fun _ => ?_) (fun q => absurd rfl q)
  exact next H1 locs1 z' w' hRel' hP hQ hS1
def eq_many (Rel : mm_S → mm_S → Prop) : Prop := ∀ (a1 : Int32) (z w : mm_S), Rel z w → ∃ (x : Int32) (z' w' : mm_S), f_X3_many [mm_P 3 0, mm_I a1] z (some (mm_I x), z') ∧ f_X4_many [mm_P 4 0, mm_I a1] w (some (mm_I x), w') ∧ Rel z' w'
theorem la_many_case {p : Program} {l : Launch} {e : Env} {s : State} {m : MethodId} {below : List Frame} {meth : Method} {c : Code} {b L : Nat} {xs : Nat → Int32} {GX GM : mm_G} {Rel : mm_S → mm_S → Prop} (C : la_C p s m meth c b L xs GX GM) (h : eq_many Rel) {i : Nat} (hi : i + 6 ≤ L) {z w : mm_S} {H : Heap} {locs : List Loc} {la : Array Slot} (hRel : Rel z w) (hP : mm_H GX lyTX lyFA lenX snX 46 z H) (hQ : mm_H GM lyTM lyFA lenM snM 22 w H) (hS : va_S (la_A s) s.heap H locs) (hl : lv_has la 4 [(3, .int (nI i)), (2, .ref (GM.1 0)), (1, .ref (GX.1 0)), (0, .ref b)])
    {Q : State → Prop} (next : ∀ (H : Heap) (locs : List Loc) (z w : mm_S), Rel z w → mm_H GX lyTX lyFA lenX snX 46 z H → mm_H GM lyTM lyFA lenM snM 22 w H → va_S (la_A s) s.heap H locs → W p l e room_1 s m #[Value.ref b] below meth c H locs 68 2349 Q (F0 m 1697 la [])) : W p l e room_1 s m #[Value.ref b] below meth c H locs 68 2349 Q (F0 m 690 la []) := by
  obtain ⟨S, hr, hlk, hX, hbl, hL, hKX, hKM, hroX, hroM, hinjX, hinjM, hne, hadrX, hadrM⟩ := C
  obtain ⟨hx, hb, hml, ho, hts⟩ := id S
  obtain ⟨x, z', w', hfX, hfM, hRel'⟩ := h (xs (i + 1)) z w hRel
  refine lv_aload_n (i := 1) hx hb dl_690 rfl (lv_at hl 2 rfl) ?_
  refine la_arg (i := i) (jn := 1) hx hb hX hbl hL hS (lv_at hl 3 rfl) (lv_at hl 0 rfl) (by omega) rfl dl_691 dl_692 dl_693 dl_694 dl_695 ?_
  refine la_i (la_run S hKX hroX hinjX hadrX M_X3_many ⟨wv_X3_many, wz_X3_many, wi_X3_many, wc_X3_many⟩ ll_74 ⟨by decide +kernel, by decide +kernel, by decide +kernel⟩ ⟨rfl, rfl, by decide⟩ ⟨rfl, rfl, by decide, by decide⟩ (a := 0) (n := 1) (as' := [mm_I (xs (i + 1))]) (rest := []) (by simp [mm_ok]; decide +kernel) rfl hfX hP hS hl.1 (Nat.le_of_ble_eq_true rfl) dl_696) hS hadrX (fun H1 locs1 hP1 hk1 hS1 => ?_)
  have hQ := la_kept hne hQ hk1
  have hP := hP1
  have hS := hS1
  clear hP1 hS1 hk1
  refine lv_aload_n (i := 2) hx hb dl_699 rfl (lv_at hl 1 rfl) ?_
  refine la_arg (i := i) (jn := 1) hx hb hX hbl hL hS (lv_at hl 3 rfl) (lv_at hl 0 rfl) (by omega) rfl dl_700 dl_701 dl_702 dl_703 dl_704 ?_
  refine la_i (la_run S hKM hroM hinjM hadrM M_X4_many ⟨wv_X4_many, wz_X4_many, wi_X4_many, wc_X4_many⟩ ll_77 ⟨by decide +kernel, by decide +kernel, by decide +kernel⟩ ⟨rfl, rfl, by decide⟩ ⟨rfl, rfl, by decide, by decide⟩ (a := 0) (n := 1) (as' := [mm_I (xs (i + 1))]) (rest := [.int x]) (by simp [mm_ok]; decide +kernel) rfl hfM hQ hS hl.1 (Nat.le_of_ble_eq_true rfl) dl_705) hS hadrM (fun H1 locs1 hP1 hk1 hS1 => ?_)
  have hP := la_kept (fun i j h1 h2 => (hne j i h2 h1).symm) hP hk1
  have hQ := hP1
  refine lv_icmp_eq (tgt := 1697) hx hb dl_708 rfl (fun _ => ?_) (fun q => absurd rfl q)
  exact next H1 locs1 z' w' hRel' hP hQ hS1
def eq_silent (Rel : mm_S → mm_S → Prop) : Prop := ∀ (z w : mm_S), Rel z w → ∃ (x : Int64) (z' w' : mm_S), f_X3_silent [mm_P 3 0] z (some (mm_J x), z') ∧ f_X4_silent [mm_P 4 0] w (some (mm_J x), w') ∧ Rel z' w'
theorem la_silent_case {p : Program} {l : Launch} {e : Env} {s : State} {m : MethodId} {below : List Frame} {meth : Method} {c : Code} {b L : Nat} {xs : Nat → Int32} {GX GM : mm_G} {Rel : mm_S → mm_S → Prop} (C : la_C p s m meth c b L xs GX GM) (h : eq_silent Rel) {i : Nat} (hi : i + 6 ≤ L) {z w : mm_S} {H : Heap} {locs : List Loc} {la : Array Slot} (hRel : Rel z w) (hP : mm_H GX lyTX lyFA lenX snX 46 z H) (hQ : mm_H GM lyTM lyFA lenM snM 22 w H) (hS : va_S (la_A s) s.heap H locs) (hl : lv_has la 4 [(3, .int (nI i)), (2, .ref (GM.1 0)), (1, .ref (GX.1 0)), (0, .ref b)])
    {Q : State → Prop} (next : ∀ (H : Heap) (locs : List Loc) (z w : mm_S), Rel z w → mm_H GX lyTX lyFA lenX snX 46 z H → mm_H GM lyTM lyFA lenM snM 22 w H → va_S (la_A s) s.heap H locs → W p l e room_1 s m #[Value.ref b] below meth c H locs 68 2349 Q (F0 m 1697 la [])) : W p l e room_1 s m #[Value.ref b] below meth c H locs 68 2349 Q (F0 m 713 la []) := by
  obtain ⟨S, hr, hlk, hX, hbl, hL, hKX, hKM, hroX, hroM, hinjX, hinjM, hne, hadrX, hadrM⟩ := C
  obtain ⟨hx, hb, hml, ho, hts⟩ := id S
  obtain ⟨x, z', w', hfX, hfM, hRel'⟩ := h z w hRel
  refine lv_aload_n (i := 1) hx hb dl_713 rfl (lv_at hl 2 rfl) ?_
  refine la_l (la_run S hKX hroX hinjX hadrX M_X3_silent ⟨wv_X3_silent, wz_X3_silent, wi_X3_silent, wc_X3_silent⟩ ll_78 ⟨by decide +kernel, by decide +kernel, by decide +kernel⟩ ⟨rfl, rfl, by decide⟩ ⟨rfl, rfl, by decide, by decide⟩ (a := 0) (n := 0) (as' := []) (rest := []) (by simp [mm_ok]; decide +kernel) rfl hfX hP hS hl.1 (Nat.le_of_ble_eq_true rfl) dl_714) hS hadrX (fun H1 locs1 hP1 hk1 hS1 => ?_)
  have hQ := la_kept hne hQ hk1
  have hP := hP1
  have hS := hS1
  clear hP1 hS1 hk1
  refine lv_aload_n (i := 2) hx hb dl_717 rfl (lv_at hl 1 rfl) ?_
  refine la_l (la_run S hKM hroM hinjM hadrM M_X4_silent ⟨wv_X4_silent, wz_X4_silent, wi_X4_silent, wc_X4_silent⟩ ll_82 ⟨by decide +kernel, by decide +kernel, by decide +kernel⟩ ⟨rfl, rfl, by decide⟩ ⟨rfl, rfl, by decide, by decide⟩ (a := 0) (n := 0) (as' := []) (rest := [.long x]) (by simp [mm_ok]; decide +kernel) rfl hfM hQ hS hl.1 (Nat.le_of_ble_eq_true rfl) dl_718) hS hadrM (fun H1 locs1 hP1 hk1 hS1 => ?_)
  have hP := la_kept (fun i j h1 h2 => (hne j i h2 h1).symm) hP hk1
  have hQ := hP1
  refine W.lcmp hx hb dl_721 ?_
  refine W.eq (g2 := F0 m 722 la [.int 0]) (congrArg (fun v => F0 m 722 la [.int v]) (la_cmp x)) ?_
  refine lv_if_eq (tgt := 1697) hx hb dl_722 rfl (fun _ => ?_) (fun q => absurd rfl q)
  exact next H1 locs1 z' w' hRel' hP hQ hS1
def eq_lag (Rel : mm_S → mm_S → Prop) : Prop := ∀ (a1 a2 a3 : Int32) (z w : mm_S), Rel z w → ∃ (x : Int32) (z' w' : mm_S), f_X3_lag [mm_P 3 0, mm_I a1, mm_I a2, mm_I a3] z (some (mm_I x), z') ∧ f_X4_lag [mm_P 4 0, mm_I a1, mm_I a2, mm_I a3] w (some (mm_I x), w') ∧ Rel z' w'
theorem la_lag_case {p : Program} {l : Launch} {e : Env} {s : State} {m : MethodId} {below : List Frame} {meth : Method} {c : Code} {b L : Nat} {xs : Nat → Int32} {GX GM : mm_G} {Rel : mm_S → mm_S → Prop} (C : la_C p s m meth c b L xs GX GM) (h : eq_lag Rel) {i : Nat} (hi : i + 6 ≤ L) {z w : mm_S} {H : Heap} {locs : List Loc} {la : Array Slot} (hRel : Rel z w) (hP : mm_H GX lyTX lyFA lenX snX 46 z H) (hQ : mm_H GM lyTM lyFA lenM snM 22 w H) (hS : va_S (la_A s) s.heap H locs) (hl : lv_has la 4 [(3, .int (nI i)), (2, .ref (GM.1 0)), (1, .ref (GX.1 0)), (0, .ref b)])
    {Q : State → Prop} (next : ∀ (H : Heap) (locs : List Loc) (z w : mm_S), Rel z w → mm_H GX lyTX lyFA lenX snX 46 z H → mm_H GM lyTM lyFA lenM snM 22 w H → va_S (la_A s) s.heap H locs → W p l e room_1 s m #[Value.ref b] below meth c H locs 68 2349 Q (F0 m 1697 la [])) : W p l e room_1 s m #[Value.ref b] below meth c H locs 68 2349 Q (F0 m 727 la []) := by
  obtain ⟨S, hr, hlk, hX, hbl, hL, hKX, hKM, hroX, hroM, hinjX, hinjM, hne, hadrX, hadrM⟩ := C
  obtain ⟨hx, hb, hml, ho, hts⟩ := id S
  obtain ⟨x, z', w', hfX, hfM, hRel'⟩ := h (xs (i + 1)) (xs (i + 2)) (xs (i + 3)) z w hRel
  refine lv_aload_n (i := 1) hx hb dl_727 rfl (lv_at hl 2 rfl) ?_
  refine la_arg (i := i) (jn := 1) hx hb hX hbl hL hS (lv_at hl 3 rfl) (lv_at hl 0 rfl) (by omega) rfl dl_728 dl_729 dl_730 dl_731 dl_732 ?_
  refine la_arg (i := i) (jn := 2) hx hb hX hbl hL hS (lv_at hl 3 rfl) (lv_at hl 0 rfl) (by omega) rfl dl_733 dl_734 dl_735 dl_736 dl_737 ?_
  refine la_arg (i := i) (jn := 3) hx hb hX hbl hL hS (lv_at hl 3 rfl) (lv_at hl 0 rfl) (by omega) rfl dl_738 dl_739 dl_740 dl_741 dl_742 ?_
  refine la_i (la_run S hKX hroX hinjX hadrX M_X3_lag ⟨wv_X3_lag, wz_X3_lag, wi_X3_lag, wc_X3_lag⟩ ll_83 ⟨by decide +kernel, by decide +kernel, by decide +kernel⟩ ⟨rfl, rfl, by decide⟩ ⟨rfl, rfl, by decide, by decide⟩ (a := 0) (n := 3) (as' := [mm_I (xs (i + 1)), mm_I (xs (i + 2)), mm_I (xs (i + 3))]) (rest := []) (by simp [mm_ok]; decide +kernel) rfl hfX hP hS hl.1 (Nat.le_of_ble_eq_true rfl) dl_743) hS hadrX (fun H1 locs1 hP1 hk1 hS1 => ?_)
  have hQ := la_kept hne hQ hk1
  have hP := hP1
  have hS := hS1
  clear hP1 hS1 hk1
  refine lv_aload_n (i := 2) hx hb dl_746 rfl (lv_at hl 1 rfl) ?_
  refine la_arg (i := i) (jn := 1) hx hb hX hbl hL hS (lv_at hl 3 rfl) (lv_at hl 0 rfl) (by omega) rfl dl_747 dl_748 dl_749 dl_750 dl_751 ?_
  refine la_arg (i := i) (jn := 2) hx hb hX hbl hL hS (lv_at hl 3 rfl) (lv_at hl 0 rfl) (by omega) rfl dl_752 dl_753 dl_754 dl_755 dl_756 ?_
  refine la_arg (i := i) (jn := 3) hx hb hX hbl hL hS (lv_at hl 3 rfl) (lv_at hl 0 rfl) (by omega) rfl dl_757 dl_758 dl_759 dl_760 dl_761 ?_
  refine la_i (la_run S hKM hroM hinjM hadrM M_X4_lag ⟨wv_X4_lag, wz_X4_lag, wi_X4_lag, wc_X4_lag⟩ ll_86 ⟨by decide +kernel, by decide +kernel, by decide +kernel⟩ ⟨rfl, rfl, by decide⟩ ⟨rfl, rfl, by decide, by decide⟩ (a := 0) (n := 3) (as' := [mm_I (xs (i + 1)), mm_I (xs (i + 2)), mm_I (xs (i + 3))]) (rest := [.int x]) (by simp [mm_ok]; decide +kernel) rfl hfM hQ hS hl.1 (Nat.le_of_ble_eq_true rfl) dl_762) hS hadrM (fun H1 locs1 hP1 hk1 hS1 => ?_)
  have hP := la_kept (fun i j h1 h2 => (hne j i h2 h1).symm) hP hk1
  have hQ := hP1
  refine lv_icmp_eq (tgt := 1697) hx hb dl_765 rfl (fun _ => ?_) (fun q => absurd rfl q)
  exact next H1 locs1 z' w' hRel' hP hQ hS1
def eq_apart (Rel : mm_S → mm_S → Prop) : Prop := ∀ (a1 a2 : Int32) (z w : mm_S), Rel z w → ∃ (x : Int32) (z' w' : mm_S), f_X3_apart [mm_P 3 0, mm_I a1, mm_I a2] z (some (mm_I x), z') ∧ f_X4_apart [mm_P 4 0, mm_I a1, mm_I a2] w (some (mm_I x), w') ∧ Rel z' w'
theorem la_apart_case {p : Program} {l : Launch} {e : Env} {s : State} {m : MethodId} {below : List Frame} {meth : Method} {c : Code} {b L : Nat} {xs : Nat → Int32} {GX GM : mm_G} {Rel : mm_S → mm_S → Prop} (C : la_C p s m meth c b L xs GX GM) (h : eq_apart Rel) {i : Nat} (hi : i + 6 ≤ L) {z w : mm_S} {H : Heap} {locs : List Loc} {la : Array Slot} (hRel : Rel z w) (hP : mm_H GX lyTX lyFA lenX snX 46 z H) (hQ : mm_H GM lyTM lyFA lenM snM 22 w H) (hS : va_S (la_A s) s.heap H locs) (hl : lv_has la 4 [(3, .int (nI i)), (2, .ref (GM.1 0)), (1, .ref (GX.1 0)), (0, .ref b)])
    {Q : State → Prop} (next : ∀ (H : Heap) (locs : List Loc) (z w : mm_S), Rel z w → mm_H GX lyTX lyFA lenX snX 46 z H → mm_H GM lyTM lyFA lenM snM 22 w H → va_S (la_A s) s.heap H locs → W p l e room_1 s m #[Value.ref b] below meth c H locs 68 2349 Q (F0 m 1697 la [])) : W p l e room_1 s m #[Value.ref b] below meth c H locs 68 2349 Q (F0 m 770 la []) := by
  obtain ⟨S, hr, hlk, hX, hbl, hL, hKX, hKM, hroX, hroM, hinjX, hinjM, hne, hadrX, hadrM⟩ := C
  obtain ⟨hx, hb, hml, ho, hts⟩ := id S
  obtain ⟨x, z', w', hfX, hfM, hRel'⟩ := h (xs (i + 1)) (xs (i + 2)) z w hRel
  refine lv_aload_n (i := 1) hx hb dl_770 rfl (lv_at hl 2 rfl) ?_
  refine la_arg (i := i) (jn := 1) hx hb hX hbl hL hS (lv_at hl 3 rfl) (lv_at hl 0 rfl) (by omega) rfl dl_771 dl_772 dl_773 dl_774 dl_775 ?_
  refine la_arg (i := i) (jn := 2) hx hb hX hbl hL hS (lv_at hl 3 rfl) (lv_at hl 0 rfl) (by omega) rfl dl_776 dl_777 dl_778 dl_779 dl_780 ?_
  refine la_i (la_run S hKX hroX hinjX hadrX M_X3_apart ⟨wv_X3_apart, wz_X3_apart, wi_X3_apart, wc_X3_apart⟩ ll_87 ⟨by decide +kernel, by decide +kernel, by decide +kernel⟩ ⟨rfl, rfl, by decide⟩ ⟨rfl, rfl, by decide, by decide⟩ (a := 0) (n := 2) (as' := [mm_I (xs (i + 1)), mm_I (xs (i + 2))]) (rest := []) (by simp [mm_ok]; decide +kernel) rfl hfX hP hS hl.1 (Nat.le_of_ble_eq_true rfl) dl_781) hS hadrX (fun H1 locs1 hP1 hk1 hS1 => ?_)
  have hQ := la_kept hne hQ hk1
  have hP := hP1
  have hS := hS1
  clear hP1 hS1 hk1
  refine lv_aload_n (i := 2) hx hb dl_784 rfl (lv_at hl 1 rfl) ?_
  refine la_arg (i := i) (jn := 1) hx hb hX hbl hL hS (lv_at hl 3 rfl) (lv_at hl 0 rfl) (by omega) rfl dl_785 dl_786 dl_787 dl_788 dl_789 ?_
  refine la_arg (i := i) (jn := 2) hx hb hX hbl hL hS (lv_at hl 3 rfl) (lv_at hl 0 rfl) (by omega) rfl dl_790 dl_791 dl_792 dl_793 dl_794 ?_
  refine la_i (la_run S hKM hroM hinjM hadrM M_X4_apart ⟨wv_X4_apart, wz_X4_apart, wi_X4_apart, wc_X4_apart⟩ ll_90 ⟨by decide +kernel, by decide +kernel, by decide +kernel⟩ ⟨rfl, rfl, by decide⟩ ⟨rfl, rfl, by decide, by decide⟩ (a := 0) (n := 2) (as' := [mm_I (xs (i + 1)), mm_I (xs (i + 2))]) (rest := [.int x]) (by simp [mm_ok]; decide +kernel) rfl hfM hQ hS hl.1 (Nat.le_of_ble_eq_true rfl) dl_795) hS hadrM (fun H1 locs1 hP1 hk1 hS1 => ?_)
  have hP := la_kept (fun i j h1 h2 => (hne j i h2 h1).symm) hP hk1
  have hQ := hP1
  refine lv_icmp_eq (tgt := 1697) hx hb dl_798 rfl (fun _ => ?_) (fun q => absurd rfl q)
  exact next H1 locs1 z' w' hRel' hP hQ hS1
def eq_from (Rel : mm_S → mm_S → Prop) : Prop := ∀ (a1 a2 a3 : Int32) (z w : mm_S), Rel z w → ∃ (x : Int64) (z' w' : mm_S), f_X3_from [mm_P 3 0, mm_I a1, mm_I a2, mm_I a3] z (some (mm_J x), z') ∧ f_X4_from [mm_P 4 0, mm_I a1, mm_I a2, mm_I a3] w (some (mm_J x), w') ∧ Rel z' w'
theorem la_from_case {p : Program} {l : Launch} {e : Env} {s : State} {m : MethodId} {below : List Frame} {meth : Method} {c : Code} {b L : Nat} {xs : Nat → Int32} {GX GM : mm_G} {Rel : mm_S → mm_S → Prop} (C : la_C p s m meth c b L xs GX GM) (h : eq_from Rel) {i : Nat} (hi : i + 6 ≤ L) {z w : mm_S} {H : Heap} {locs : List Loc} {la : Array Slot} (hRel : Rel z w) (hP : mm_H GX lyTX lyFA lenX snX 46 z H) (hQ : mm_H GM lyTM lyFA lenM snM 22 w H) (hS : va_S (la_A s) s.heap H locs) (hl : lv_has la 4 [(3, .int (nI i)), (2, .ref (GM.1 0)), (1, .ref (GX.1 0)), (0, .ref b)])
    {Q : State → Prop} (next : ∀ (H : Heap) (locs : List Loc) (z w : mm_S), Rel z w → mm_H GX lyTX lyFA lenX snX 46 z H → mm_H GM lyTM lyFA lenM snM 22 w H → va_S (la_A s) s.heap H locs → W p l e room_1 s m #[Value.ref b] below meth c H locs 68 2349 Q (F0 m 1697 la [])) : W p l e room_1 s m #[Value.ref b] below meth c H locs 68 2349 Q (F0 m 803 la []) := by
  obtain ⟨S, hr, hlk, hX, hbl, hL, hKX, hKM, hroX, hroM, hinjX, hinjM, hne, hadrX, hadrM⟩ := C
  obtain ⟨hx, hb, hml, ho, hts⟩ := id S
  obtain ⟨x, z', w', hfX, hfM, hRel'⟩ := h (xs (i + 1)) (xs (i + 2)) (xs (i + 3)) z w hRel
  refine lv_aload_n (i := 1) hx hb dl_803 rfl (lv_at hl 2 rfl) ?_
  refine la_arg (i := i) (jn := 1) hx hb hX hbl hL hS (lv_at hl 3 rfl) (lv_at hl 0 rfl) (by omega) rfl dl_804 dl_805 dl_806 dl_807 dl_808 ?_
  refine la_arg (i := i) (jn := 2) hx hb hX hbl hL hS (lv_at hl 3 rfl) (lv_at hl 0 rfl) (by omega) rfl dl_809 dl_810 dl_811 dl_812 dl_813 ?_
  refine la_arg (i := i) (jn := 3) hx hb hX hbl hL hS (lv_at hl 3 rfl) (lv_at hl 0 rfl) (by omega) rfl dl_814 dl_815 dl_816 dl_817 dl_818 ?_
  refine la_l (la_run S hKX hroX hinjX hadrX M_X3_from ⟨wv_X3_from, wz_X3_from, wi_X3_from, wc_X3_from⟩ ll_91 ⟨by decide +kernel, by decide +kernel, by decide +kernel⟩ ⟨rfl, rfl, by decide⟩ ⟨rfl, rfl, by decide, by decide⟩ (a := 0) (n := 3) (as' := [mm_I (xs (i + 1)), mm_I (xs (i + 2)), mm_I (xs (i + 3))]) (rest := []) (by simp [mm_ok]; decide +kernel) rfl hfX hP hS hl.1 (Nat.le_of_ble_eq_true rfl) dl_819) hS hadrX (fun H1 locs1 hP1 hk1 hS1 => ?_)
  have hQ := la_kept hne hQ hk1
  have hP := hP1
  have hS := hS1
  clear hP1 hS1 hk1
  refine lv_aload_n (i := 2) hx hb dl_822 rfl (lv_at hl 1 rfl) ?_
  refine la_arg (i := i) (jn := 1) hx hb hX hbl hL hS (lv_at hl 3 rfl) (lv_at hl 0 rfl) (by omega) rfl dl_823 dl_824 dl_825 dl_826 dl_827 ?_
  refine la_arg (i := i) (jn := 2) hx hb hX hbl hL hS (lv_at hl 3 rfl) (lv_at hl 0 rfl) (by omega) rfl dl_828 dl_829 dl_830 dl_831 dl_832 ?_
  refine la_arg (i := i) (jn := 3) hx hb hX hbl hL hS (lv_at hl 3 rfl) (lv_at hl 0 rfl) (by omega) rfl dl_833 dl_834 dl_835 dl_836 dl_837 ?_
  refine la_l (la_run S hKM hroM hinjM hadrM M_X4_from ⟨wv_X4_from, wz_X4_from, wi_X4_from, wc_X4_from⟩ ll_95 ⟨by decide +kernel, by decide +kernel, by decide +kernel⟩ ⟨rfl, rfl, by decide⟩ ⟨rfl, rfl, by decide, by decide⟩ (a := 0) (n := 3) (as' := [mm_I (xs (i + 1)), mm_I (xs (i + 2)), mm_I (xs (i + 3))]) (rest := [.long x]) (by simp [mm_ok]; decide +kernel) rfl hfM hQ hS hl.1 (Nat.le_of_ble_eq_true rfl) dl_838) hS hadrM (fun H1 locs1 hP1 hk1 hS1 => ?_)
  have hP := la_kept (fun i j h1 h2 => (hne j i h2 h1).symm) hP hk1
  have hQ := hP1
  refine W.lcmp hx hb dl_841 ?_
  refine W.eq (g2 := F0 m 842 la [.int 0]) (congrArg (fun v => F0 m 842 la [.int v]) (la_cmp x)) ?_
  refine lv_if_eq (tgt := 1697) hx hb dl_842 rfl (fun _ => ?_) (fun q => absurd rfl q)
  exact next H1 locs1 z' w' hRel' hP hQ hS1
def eq_middle (Rel : mm_S → mm_S → Prop) : Prop := ∀ (z w : mm_S), Rel z w → ∃ (x : Int32) (z' w' : mm_S), f_X3_middle [mm_P 3 0] z (some (mm_I x), z') ∧ f_X4_middle [mm_P 4 0] w (some (mm_I x), w') ∧ Rel z' w'
theorem la_middle_case {p : Program} {l : Launch} {e : Env} {s : State} {m : MethodId} {below : List Frame} {meth : Method} {c : Code} {b L : Nat} {xs : Nat → Int32} {GX GM : mm_G} {Rel : mm_S → mm_S → Prop} (C : la_C p s m meth c b L xs GX GM) (h : eq_middle Rel) {i : Nat} (hi : i + 6 ≤ L) {z w : mm_S} {H : Heap} {locs : List Loc} {la : Array Slot} (hRel : Rel z w) (hP : mm_H GX lyTX lyFA lenX snX 46 z H) (hQ : mm_H GM lyTM lyFA lenM snM 22 w H) (hS : va_S (la_A s) s.heap H locs) (hl : lv_has la 4 [(3, .int (nI i)), (2, .ref (GM.1 0)), (1, .ref (GX.1 0)), (0, .ref b)])
    {Q : State → Prop} (next : ∀ (H : Heap) (locs : List Loc) (z w : mm_S), Rel z w → mm_H GX lyTX lyFA lenX snX 46 z H → mm_H GM lyTM lyFA lenM snM 22 w H → va_S (la_A s) s.heap H locs → W p l e room_1 s m #[Value.ref b] below meth c H locs 68 2349 Q (F0 m 1697 la [])) : W p l e room_1 s m #[Value.ref b] below meth c H locs 68 2349 Q (F0 m 847 la []) := by
  obtain ⟨S, hr, hlk, hX, hbl, hL, hKX, hKM, hroX, hroM, hinjX, hinjM, hne, hadrX, hadrM⟩ := C
  obtain ⟨hx, hb, hml, ho, hts⟩ := id S
  obtain ⟨x, z', w', hfX, hfM, hRel'⟩ := h z w hRel
  refine lv_aload_n (i := 1) hx hb dl_847 rfl (lv_at hl 2 rfl) ?_
  refine la_i (la_run S hKX hroX hinjX hadrX M_X3_middle ⟨wv_X3_middle, wz_X3_middle, wi_X3_middle, wc_X3_middle⟩ ll_96 ⟨by decide +kernel, by decide +kernel, by decide +kernel⟩ ⟨rfl, rfl, by decide⟩ ⟨rfl, rfl, by decide, by decide⟩ (a := 0) (n := 0) (as' := []) (rest := []) (by simp [mm_ok]; decide +kernel) rfl hfX hP hS hl.1 (Nat.le_of_ble_eq_true rfl) dl_848) hS hadrX (fun H1 locs1 hP1 hk1 hS1 => ?_)
  have hQ := la_kept hne hQ hk1
  have hP := hP1
  have hS := hS1
  clear hP1 hS1 hk1
  refine lv_aload_n (i := 2) hx hb dl_851 rfl (lv_at hl 1 rfl) ?_
  refine la_i (la_run S hKM hroM hinjM hadrM M_X4_middle ⟨wv_X4_middle, wz_X4_middle, wi_X4_middle, wc_X4_middle⟩ ll_99 ⟨by decide +kernel, by decide +kernel, by decide +kernel⟩ ⟨rfl, rfl, by decide⟩ ⟨rfl, rfl, by decide, by decide⟩ (a := 0) (n := 0) (as' := []) (rest := [.int x]) (by simp [mm_ok]; decide +kernel) rfl hfM hQ hS hl.1 (Nat.le_of_ble_eq_true rfl) dl_852) hS hadrM (fun H1 locs1 hP1 hk1 hS1 => ?_)
  have hP := la_kept (fun i j h1 h2 => (hne j i h2 h1).symm) hP hk1
  have hQ := hP1
  refine lv_icmp_eq (tgt := 1697) hx hb dl_855 rfl (fun _ => ?_) (fun q => absurd rfl q)
  exact next H1 locs1 z' w' hRel' hP hQ hS1
def eq_kindFor (Rel : mm_S → mm_S → Prop) : Prop := ∀ (a1 : Int32) (z w : mm_S), Rel z w → ∃ (x : Int32) (z' w' : mm_S), f_X3_kindFor [mm_P 3 0, mm_I a1] z (some (mm_I x), z') ∧ f_X4_kindFor [mm_P 4 0, mm_I a1] w (some (mm_I x), w') ∧ Rel z' w'
theorem la_kindFor_case {p : Program} {l : Launch} {e : Env} {s : State} {m : MethodId} {below : List Frame} {meth : Method} {c : Code} {b L : Nat} {xs : Nat → Int32} {GX GM : mm_G} {Rel : mm_S → mm_S → Prop} (C : la_C p s m meth c b L xs GX GM) (h : eq_kindFor Rel) {i : Nat} (hi : i + 6 ≤ L) {z w : mm_S} {H : Heap} {locs : List Loc} {la : Array Slot} (hRel : Rel z w) (hP : mm_H GX lyTX lyFA lenX snX 46 z H) (hQ : mm_H GM lyTM lyFA lenM snM 22 w H) (hS : va_S (la_A s) s.heap H locs) (hl : lv_has la 4 [(3, .int (nI i)), (2, .ref (GM.1 0)), (1, .ref (GX.1 0)), (0, .ref b)])
    {Q : State → Prop} (next : ∀ (H : Heap) (locs : List Loc) (z w : mm_S), Rel z w → mm_H GX lyTX lyFA lenX snX 46 z H → mm_H GM lyTM lyFA lenM snM 22 w H → va_S (la_A s) s.heap H locs → W p l e room_1 s m #[Value.ref b] below meth c H locs 68 2349 Q (F0 m 1697 la [])) : W p l e room_1 s m #[Value.ref b] below meth c H locs 68 2349 Q (F0 m 860 la []) := by
  obtain ⟨S, hr, hlk, hX, hbl, hL, hKX, hKM, hroX, hroM, hinjX, hinjM, hne, hadrX, hadrM⟩ := C
  obtain ⟨hx, hb, hml, ho, hts⟩ := id S
  obtain ⟨x, z', w', hfX, hfM, hRel'⟩ := h (xs (i + 1)) z w hRel
  refine lv_aload_n (i := 1) hx hb dl_860 rfl (lv_at hl 2 rfl) ?_
  refine la_arg (i := i) (jn := 1) hx hb hX hbl hL hS (lv_at hl 3 rfl) (lv_at hl 0 rfl) (by omega) rfl dl_861 dl_862 dl_863 dl_864 dl_865 ?_
  refine la_i (la_run S hKX hroX hinjX hadrX M_X3_kindFor ⟨wv_X3_kindFor, wz_X3_kindFor, wi_X3_kindFor, wc_X3_kindFor⟩ ll_100 ⟨by decide +kernel, by decide +kernel, by decide +kernel⟩ ⟨rfl, rfl, by decide⟩ ⟨rfl, rfl, by decide, by decide⟩ (a := 0) (n := 1) (as' := [mm_I (xs (i + 1))]) (rest := []) (by simp [mm_ok]; decide +kernel) rfl hfX hP hS hl.1 (Nat.le_of_ble_eq_true rfl) dl_866) hS hadrX (fun H1 locs1 hP1 hk1 hS1 => ?_)
  have hQ := la_kept hne hQ hk1
  have hP := hP1
  have hS := hS1
  clear hP1 hS1 hk1
  refine lv_aload_n (i := 2) hx hb dl_869 rfl (lv_at hl 1 rfl) ?_
  refine la_arg (i := i) (jn := 1) hx hb hX hbl hL hS (lv_at hl 3 rfl) (lv_at hl 0 rfl) (by omega) rfl dl_870 dl_871 dl_872 dl_873 dl_874 ?_
  refine la_i (la_run S hKM hroM hinjM hadrM M_X4_kindFor ⟨wv_X4_kindFor, wz_X4_kindFor, wi_X4_kindFor, wc_X4_kindFor⟩ ll_103 ⟨by decide +kernel, by decide +kernel, by decide +kernel⟩ ⟨rfl, rfl, by decide⟩ ⟨rfl, rfl, by decide, by decide⟩ (a := 0) (n := 1) (as' := [mm_I (xs (i + 1))]) (rest := [.int x]) (by simp [mm_ok]; decide +kernel) rfl hfM hQ hS hl.1 (Nat.le_of_ble_eq_true rfl) dl_875) hS hadrM (fun H1 locs1 hP1 hk1 hS1 => ?_)
  have hP := la_kept (fun i j h1 h2 => (hne j i h2 h1).symm) hP hk1
  have hQ := hP1
  refine lv_icmp_eq (tgt := 1697) hx hb dl_878 rfl (fun _ => ?_) (fun q => absurd rfl q)
  exact next H1 locs1 z' w' hRel' hP hQ hS1
def eq_place (Rel : mm_S → mm_S → Prop) : Prop := ∀ (a1 : Int32) (z w : mm_S), Rel z w → ∃ (x : Int32) (z' w' : mm_S), f_X3_place [mm_P 3 0, mm_I a1] z (some (mm_I x), z') ∧ f_X4_place [mm_P 4 0, mm_I a1] w (some (mm_I x), w') ∧ Rel z' w'
theorem la_place_case {p : Program} {l : Launch} {e : Env} {s : State} {m : MethodId} {below : List Frame} {meth : Method} {c : Code} {b L : Nat} {xs : Nat → Int32} {GX GM : mm_G} {Rel : mm_S → mm_S → Prop} (C : la_C p s m meth c b L xs GX GM) (h : eq_place Rel) {i : Nat} (hi : i + 6 ≤ L) {z w : mm_S} {H : Heap} {locs : List Loc} {la : Array Slot} (hRel : Rel z w) (hP : mm_H GX lyTX lyFA lenX snX 46 z H) (hQ : mm_H GM lyTM lyFA lenM snM 22 w H) (hS : va_S (la_A s) s.heap H locs) (hl : lv_has la 4 [(3, .int (nI i)), (2, .ref (GM.1 0)), (1, .ref (GX.1 0)), (0, .ref b)])
    {Q : State → Prop} (next : ∀ (H : Heap) (locs : List Loc) (z w : mm_S), Rel z w → mm_H GX lyTX lyFA lenX snX 46 z H → mm_H GM lyTM lyFA lenM snM 22 w H → va_S (la_A s) s.heap H locs → W p l e room_1 s m #[Value.ref b] below meth c H locs 68 2349 Q (F0 m 1697 la [])) : W p l e room_1 s m #[Value.ref b] below meth c H locs 68 2349 Q (F0 m 883 la []) := by
  obtain ⟨S, hr, hlk, hX, hbl, hL, hKX, hKM, hroX, hroM, hinjX, hinjM, hne, hadrX, hadrM⟩ := C
  obtain ⟨hx, hb, hml, ho, hts⟩ := id S
  obtain ⟨x, z', w', hfX, hfM, hRel'⟩ := h (xs (i + 1)) z w hRel
  refine lv_aload_n (i := 1) hx hb dl_883 rfl (lv_at hl 2 rfl) ?_
  refine la_arg (i := i) (jn := 1) hx hb hX hbl hL hS (lv_at hl 3 rfl) (lv_at hl 0 rfl) (by omega) rfl dl_884 dl_885 dl_886 dl_887 dl_888 ?_
  refine la_i (la_run S hKX hroX hinjX hadrX M_X3_place ⟨wv_X3_place, wz_X3_place, wi_X3_place, wc_X3_place⟩ ll_104 ⟨by decide +kernel, by decide +kernel, by decide +kernel⟩ ⟨rfl, rfl, by decide⟩ ⟨rfl, rfl, by decide, by decide⟩ (a := 0) (n := 1) (as' := [mm_I (xs (i + 1))]) (rest := []) (by simp [mm_ok]; decide +kernel) rfl hfX hP hS hl.1 (Nat.le_of_ble_eq_true rfl) dl_889) hS hadrX (fun H1 locs1 hP1 hk1 hS1 => ?_)
  have hQ := la_kept hne hQ hk1
  have hP := hP1
  have hS := hS1
  clear hP1 hS1 hk1
  refine lv_aload_n (i := 2) hx hb dl_892 rfl (lv_at hl 1 rfl) ?_
  refine la_arg (i := i) (jn := 1) hx hb hX hbl hL hS (lv_at hl 3 rfl) (lv_at hl 0 rfl) (by omega) rfl dl_893 dl_894 dl_895 dl_896 dl_897 ?_
  refine la_i (la_run S hKM hroM hinjM hadrM M_X4_place ⟨wv_X4_place, wz_X4_place, wi_X4_place, wc_X4_place⟩ ll_107 ⟨by decide +kernel, by decide +kernel, by decide +kernel⟩ ⟨rfl, rfl, by decide⟩ ⟨rfl, rfl, by decide, by decide⟩ (a := 0) (n := 1) (as' := [mm_I (xs (i + 1))]) (rest := [.int x]) (by simp [mm_ok]; decide +kernel) rfl hfM hQ hS hl.1 (Nat.le_of_ble_eq_true rfl) dl_898) hS hadrM (fun H1 locs1 hP1 hk1 hS1 => ?_)
  have hP := la_kept (fun i j h1 h2 => (hne j i h2 h1).symm) hP hk1
  have hQ := hP1
  refine lv_icmp_eq (tgt := 1697) hx hb dl_901 rfl (fun _ => ?_) (fun q => absurd rfl q)
  exact next H1 locs1 z' w' hRel' hP hQ hS1
def eq_book (Rel : mm_S → mm_S → Prop) : Prop := ∀ (a1 a2 a3 : Int32) (z w : mm_S), Rel z w → ∃ (x : Int32) (z' w' : mm_S), f_X3_book [mm_P 3 0, mm_I a1, mm_I a2, mm_I a3] z (some (mm_I x), z') ∧ f_X4_book [mm_P 4 0, mm_I a1, mm_I a2, mm_I a3] w (some (mm_I x), w') ∧ Rel z' w'
theorem la_book_case {p : Program} {l : Launch} {e : Env} {s : State} {m : MethodId} {below : List Frame} {meth : Method} {c : Code} {b L : Nat} {xs : Nat → Int32} {GX GM : mm_G} {Rel : mm_S → mm_S → Prop} (C : la_C p s m meth c b L xs GX GM) (h : eq_book Rel) {i : Nat} (hi : i + 6 ≤ L) {z w : mm_S} {H : Heap} {locs : List Loc} {la : Array Slot} (hRel : Rel z w) (hP : mm_H GX lyTX lyFA lenX snX 46 z H) (hQ : mm_H GM lyTM lyFA lenM snM 22 w H) (hS : va_S (la_A s) s.heap H locs) (hl : lv_has la 4 [(3, .int (nI i)), (2, .ref (GM.1 0)), (1, .ref (GX.1 0)), (0, .ref b)])
    {Q : State → Prop} (next : ∀ (H : Heap) (locs : List Loc) (z w : mm_S), Rel z w → mm_H GX lyTX lyFA lenX snX 46 z H → mm_H GM lyTM lyFA lenM snM 22 w H → va_S (la_A s) s.heap H locs → W p l e room_1 s m #[Value.ref b] below meth c H locs 68 2349 Q (F0 m 1697 la [])) : W p l e room_1 s m #[Value.ref b] below meth c H locs 68 2349 Q (F0 m 906 la []) := by
  obtain ⟨S, hr, hlk, hX, hbl, hL, hKX, hKM, hroX, hroM, hinjX, hinjM, hne, hadrX, hadrM⟩ := C
  obtain ⟨hx, hb, hml, ho, hts⟩ := id S
  obtain ⟨x, z', w', hfX, hfM, hRel'⟩ := h (xs (i + 1)) (xs (i + 2)) (xs (i + 3)) z w hRel
  refine lv_aload_n (i := 1) hx hb dl_906 rfl (lv_at hl 2 rfl) ?_
  refine la_arg (i := i) (jn := 1) hx hb hX hbl hL hS (lv_at hl 3 rfl) (lv_at hl 0 rfl) (by omega) rfl dl_907 dl_908 dl_909 dl_910 dl_911 ?_
  refine la_arg (i := i) (jn := 2) hx hb hX hbl hL hS (lv_at hl 3 rfl) (lv_at hl 0 rfl) (by omega) rfl dl_912 dl_913 dl_914 dl_915 dl_916 ?_
  refine la_arg (i := i) (jn := 3) hx hb hX hbl hL hS (lv_at hl 3 rfl) (lv_at hl 0 rfl) (by omega) rfl dl_917 dl_918 dl_919 dl_920 dl_921 ?_
  refine la_i (la_run S hKX hroX hinjX hadrX M_X3_book ⟨wv_X3_book, wz_X3_book, wi_X3_book, wc_X3_book⟩ ll_108 ⟨by decide +kernel, by decide +kernel, by decide +kernel⟩ ⟨rfl, rfl, by decide⟩ ⟨rfl, rfl, by decide, by decide⟩ (a := 0) (n := 3) (as' := [mm_I (xs (i + 1)), mm_I (xs (i + 2)), mm_I (xs (i + 3))]) (rest := []) (by simp [mm_ok]; decide +kernel) rfl hfX hP hS hl.1 (Nat.le_of_ble_eq_true rfl) dl_922) hS hadrX (fun H1 locs1 hP1 hk1 hS1 => ?_)
  have hQ := la_kept hne hQ hk1
  have hP := hP1
  have hS := hS1
  clear hP1 hS1 hk1
  refine lv_aload_n (i := 2) hx hb dl_925 rfl (lv_at hl 1 rfl) ?_
  refine la_arg (i := i) (jn := 1) hx hb hX hbl hL hS (lv_at hl 3 rfl) (lv_at hl 0 rfl) (by omega) rfl dl_926 dl_927 dl_928 dl_929 dl_930 ?_
  refine la_arg (i := i) (jn := 2) hx hb hX hbl hL hS (lv_at hl 3 rfl) (lv_at hl 0 rfl) (by omega) rfl dl_931 dl_932 dl_933 dl_934 dl_935 ?_
  refine la_arg (i := i) (jn := 3) hx hb hX hbl hL hS (lv_at hl 3 rfl) (lv_at hl 0 rfl) (by omega) rfl dl_936 dl_937 dl_938 dl_939 dl_940 ?_
  refine la_i (la_run S hKM hroM hinjM hadrM M_X4_book ⟨wv_X4_book, wz_X4_book, wi_X4_book, wc_X4_book⟩ ll_111 ⟨by decide +kernel, by decide +kernel, by decide +kernel⟩ ⟨rfl, rfl, by decide⟩ ⟨rfl, rfl, by decide, by decide⟩ (a := 0) (n := 3) (as' := [mm_I (xs (i + 1)), mm_I (xs (i + 2)), mm_I (xs (i + 3))]) (rest := [.int x]) (by simp [mm_ok]; decide +kernel) rfl hfM hQ hS hl.1 (Nat.le_of_ble_eq_true rfl) dl_941) hS hadrM (fun H1 locs1 hP1 hk1 hS1 => ?_)
  have hP := la_kept (fun i j h1 h2 => (hne j i h2 h1).symm) hP hk1
  have hQ := hP1
  refine lv_icmp_eq (tgt := 1697) hx hb dl_944 rfl (fun _ => ?_) (fun q => absurd rfl q)
  exact next H1 locs1 z' w' hRel' hP hQ hS1
def eq_burn (Rel : mm_S → mm_S → Prop) : Prop := ∀ (z w : mm_S), Rel z w → ∃ (x : Int32) (z' w' : mm_S), f_X3_burn [mm_P 3 0] z (some (mm_I x), z') ∧ f_X4_burn [mm_P 4 0] w (some (mm_I x), w') ∧ Rel z' w'
theorem la_burn_case {p : Program} {l : Launch} {e : Env} {s : State} {m : MethodId} {below : List Frame} {meth : Method} {c : Code} {b L : Nat} {xs : Nat → Int32} {GX GM : mm_G} {Rel : mm_S → mm_S → Prop} (C : la_C p s m meth c b L xs GX GM) (h : eq_burn Rel) {i : Nat} (hi : i + 6 ≤ L) {z w : mm_S} {H : Heap} {locs : List Loc} {la : Array Slot} (hRel : Rel z w) (hP : mm_H GX lyTX lyFA lenX snX 46 z H) (hQ : mm_H GM lyTM lyFA lenM snM 22 w H) (hS : va_S (la_A s) s.heap H locs) (hl : lv_has la 4 [(3, .int (nI i)), (2, .ref (GM.1 0)), (1, .ref (GX.1 0)), (0, .ref b)])
    {Q : State → Prop} (next : ∀ (H : Heap) (locs : List Loc) (z w : mm_S), Rel z w → mm_H GX lyTX lyFA lenX snX 46 z H → mm_H GM lyTM lyFA lenM snM 22 w H → va_S (la_A s) s.heap H locs → W p l e room_1 s m #[Value.ref b] below meth c H locs 68 2349 Q (F0 m 1697 la [])) : W p l e room_1 s m #[Value.ref b] below meth c H locs 68 2349 Q (F0 m 949 la []) := by
  obtain ⟨S, hr, hlk, hX, hbl, hL, hKX, hKM, hroX, hroM, hinjX, hinjM, hne, hadrX, hadrM⟩ := C
  obtain ⟨hx, hb, hml, ho, hts⟩ := id S
  obtain ⟨x, z', w', hfX, hfM, hRel'⟩ := h z w hRel
  refine lv_aload_n (i := 1) hx hb dl_949 rfl (lv_at hl 2 rfl) ?_
  refine la_i (la_run S hKX hroX hinjX hadrX M_X3_burn ⟨wv_X3_burn, wz_X3_burn, wi_X3_burn, wc_X3_burn⟩ ll_112 ⟨by decide +kernel, by decide +kernel, by decide +kernel⟩ ⟨rfl, rfl, by decide⟩ ⟨rfl, rfl, by decide, by decide⟩ (a := 0) (n := 0) (as' := []) (rest := []) (by simp [mm_ok]; decide +kernel) rfl hfX hP hS hl.1 (Nat.le_of_ble_eq_true rfl) dl_950) hS hadrX (fun H1 locs1 hP1 hk1 hS1 => ?_)
  have hQ := la_kept hne hQ hk1
  have hP := hP1
  have hS := hS1
  clear hP1 hS1 hk1
  refine lv_aload_n (i := 2) hx hb dl_953 rfl (lv_at hl 1 rfl) ?_
  refine la_i (la_run S hKM hroM hinjM hadrM M_X4_burn ⟨wv_X4_burn, wz_X4_burn, wi_X4_burn, wc_X4_burn⟩ ll_115 ⟨by decide +kernel, by decide +kernel, by decide +kernel⟩ ⟨rfl, rfl, by decide⟩ ⟨rfl, rfl, by decide, by decide⟩ (a := 0) (n := 0) (as' := []) (rest := [.int x]) (by simp [mm_ok]; decide +kernel) rfl hfM hQ hS hl.1 (Nat.le_of_ble_eq_true rfl) dl_954) hS hadrM (fun H1 locs1 hP1 hk1 hS1 => ?_)
  have hP := la_kept (fun i j h1 h2 => (hne j i h2 h1).symm) hP hk1
  have hQ := hP1
  refine lv_icmp_eq (tgt := 1697) hx hb dl_957 rfl (fun _ => ?_) (fun q => absurd rfl q)
  exact next H1 locs1 z' w' hRel' hP hQ hS1
def eq_wrong (Rel : mm_S → mm_S → Prop) : Prop := ∀ (z w : mm_S), Rel z w → ∃ (x : Int32) (z' w' : mm_S), f_X3_wrong [mm_P 3 0] z (some (mm_I x), z') ∧ f_X4_wrong [mm_P 4 0] w (some (mm_I x), w') ∧ Rel z' w'
theorem la_wrong_case {p : Program} {l : Launch} {e : Env} {s : State} {m : MethodId} {below : List Frame} {meth : Method} {c : Code} {b L : Nat} {xs : Nat → Int32} {GX GM : mm_G} {Rel : mm_S → mm_S → Prop} (C : la_C p s m meth c b L xs GX GM) (h : eq_wrong Rel) {i : Nat} (hi : i + 6 ≤ L) {z w : mm_S} {H : Heap} {locs : List Loc} {la : Array Slot} (hRel : Rel z w) (hP : mm_H GX lyTX lyFA lenX snX 46 z H) (hQ : mm_H GM lyTM lyFA lenM snM 22 w H) (hS : va_S (la_A s) s.heap H locs) (hl : lv_has la 4 [(3, .int (nI i)), (2, .ref (GM.1 0)), (1, .ref (GX.1 0)), (0, .ref b)])
    {Q : State → Prop} (next : ∀ (H : Heap) (locs : List Loc) (z w : mm_S), Rel z w → mm_H GX lyTX lyFA lenX snX 46 z H → mm_H GM lyTM lyFA lenM snM 22 w H → va_S (la_A s) s.heap H locs → W p l e room_1 s m #[Value.ref b] below meth c H locs 68 2349 Q (F0 m 1697 la [])) : W p l e room_1 s m #[Value.ref b] below meth c H locs 68 2349 Q (F0 m 962 la []) := by
  obtain ⟨S, hr, hlk, hX, hbl, hL, hKX, hKM, hroX, hroM, hinjX, hinjM, hne, hadrX, hadrM⟩ := C
  obtain ⟨hx, hb, hml, ho, hts⟩ := id S
  obtain ⟨x, z', w', hfX, hfM, hRel'⟩ := h z w hRel
  refine lv_aload_n (i := 1) hx hb dl_962 rfl (lv_at hl 2 rfl) ?_
  refine la_i (la_run S hKX hroX hinjX hadrX M_X3_wrong ⟨wv_X3_wrong, wz_X3_wrong, wi_X3_wrong, wc_X3_wrong⟩ ll_116 ⟨by decide +kernel, by decide +kernel, by decide +kernel⟩ ⟨rfl, rfl, by decide⟩ ⟨rfl, rfl, by decide, by decide⟩ (a := 0) (n := 0) (as' := []) (rest := []) (by simp [mm_ok]; decide +kernel) rfl hfX hP hS hl.1 (Nat.le_of_ble_eq_true rfl) dl_963) hS hadrX (fun H1 locs1 hP1 hk1 hS1 => ?_)
  have hQ := la_kept hne hQ hk1
  have hP := hP1
  have hS := hS1
  clear hP1 hS1 hk1
  refine lv_aload_n (i := 2) hx hb dl_966 rfl (lv_at hl 1 rfl) ?_
  refine la_i (la_run S hKM hroM hinjM hadrM M_X4_wrong ⟨wv_X4_wrong, wz_X4_wrong, wi_X4_wrong, wc_X4_wrong⟩ ll_119 ⟨by decide +kernel, by decide +kernel, by decide +kernel⟩ ⟨rfl, rfl, by decide⟩ ⟨rfl, rfl, by decide, by decide⟩ (a := 0) (n := 0) (as' := []) (rest := [.int x]) (by simp [mm_ok]; decide +kernel) rfl hfM hQ hS hl.1 (Nat.le_of_ble_eq_true rfl) dl_967) hS hadrM (fun H1 locs1 hP1 hk1 hS1 => ?_)
  have hP := la_kept (fun i j h1 h2 => (hne j i h2 h1).symm) hP hk1
  have hQ := hP1
  refine lv_icmp_eq (tgt := 1697) hx hb dl_970 rfl (fun _ => ?_) (fun q => absurd rfl q)
  exact next H1 locs1 z' w' hRel' hP hQ hS1
def eq_fits (Rel : mm_S → mm_S → Prop) : Prop := ∀ (z w : mm_S), Rel z w → ∃ (x : Int32) (z' w' : mm_S), f_X3_fits [mm_P 3 0] z (some (mm_I x), z') ∧ f_X4_fits [mm_P 4 0] w (some (mm_I x), w') ∧ Rel z' w'
theorem la_fits_case {p : Program} {l : Launch} {e : Env} {s : State} {m : MethodId} {below : List Frame} {meth : Method} {c : Code} {b L : Nat} {xs : Nat → Int32} {GX GM : mm_G} {Rel : mm_S → mm_S → Prop} (C : la_C p s m meth c b L xs GX GM) (h : eq_fits Rel) {i : Nat} (hi : i + 6 ≤ L) {z w : mm_S} {H : Heap} {locs : List Loc} {la : Array Slot} (hRel : Rel z w) (hP : mm_H GX lyTX lyFA lenX snX 46 z H) (hQ : mm_H GM lyTM lyFA lenM snM 22 w H) (hS : va_S (la_A s) s.heap H locs) (hl : lv_has la 4 [(3, .int (nI i)), (2, .ref (GM.1 0)), (1, .ref (GX.1 0)), (0, .ref b)])
    {Q : State → Prop} (next : ∀ (H : Heap) (locs : List Loc) (z w : mm_S), Rel z w → mm_H GX lyTX lyFA lenX snX 46 z H → mm_H GM lyTM lyFA lenM snM 22 w H → va_S (la_A s) s.heap H locs → W p l e room_1 s m #[Value.ref b] below meth c H locs 68 2349 Q (F0 m 1697 la [])) : W p l e room_1 s m #[Value.ref b] below meth c H locs 68 2349 Q (F0 m 975 la []) := by
  obtain ⟨S, hr, hlk, hX, hbl, hL, hKX, hKM, hroX, hroM, hinjX, hinjM, hne, hadrX, hadrM⟩ := C
  obtain ⟨hx, hb, hml, ho, hts⟩ := id S
  obtain ⟨x, z', w', hfX, hfM, hRel'⟩ := h z w hRel
  refine lv_aload_n (i := 1) hx hb dl_975 rfl (lv_at hl 2 rfl) ?_
  refine la_i (la_run S hKX hroX hinjX hadrX M_X3_fits ⟨wv_X3_fits, wz_X3_fits, wi_X3_fits, wc_X3_fits⟩ ll_120 ⟨by decide +kernel, by decide +kernel, by decide +kernel⟩ ⟨rfl, rfl, by decide⟩ ⟨rfl, rfl, by decide, by decide⟩ (a := 0) (n := 0) (as' := []) (rest := []) (by simp [mm_ok]; decide +kernel) rfl hfX hP hS hl.1 (Nat.le_of_ble_eq_true rfl) dl_976) hS hadrX (fun H1 locs1 hP1 hk1 hS1 => ?_)
  have hQ := la_kept hne hQ hk1
  have hP := hP1
  have hS := hS1
  clear hP1 hS1 hk1
  refine lv_aload_n (i := 2) hx hb dl_979 rfl (lv_at hl 1 rfl) ?_
  refine la_i (la_run S hKM hroM hinjM hadrM M_X4_fits ⟨wv_X4_fits, wz_X4_fits, wi_X4_fits, wc_X4_fits⟩ ll_123 ⟨by decide +kernel, by decide +kernel, by decide +kernel⟩ ⟨rfl, rfl, by decide⟩ ⟨rfl, rfl, by decide, by decide⟩ (a := 0) (n := 0) (as' := []) (rest := [.int x]) (by simp [mm_ok]; decide +kernel) rfl hfM hQ hS hl.1 (Nat.le_of_ble_eq_true rfl) dl_980) hS hadrM (fun H1 locs1 hP1 hk1 hS1 => ?_)
  have hP := la_kept (fun i j h1 h2 => (hne j i h2 h1).symm) hP hk1
  have hQ := hP1
  refine lv_icmp_eq (tgt := 1697) hx hb dl_983 rfl (fun _ => ?_) (fun q => absurd rfl q)
  exact next H1 locs1 z' w' hRel' hP hQ hS1
def eq_map (Rel : mm_S → mm_S → Prop) : Prop := ∀ (a1 : Int32) (z w : mm_S), Rel z w → ∃ (x : Int32) (z' w' : mm_S), f_X3_map [mm_P 3 0, mm_I a1] z (some (mm_I x), z') ∧ f_X4_map [mm_P 4 0, mm_I a1] w (some (mm_I x), w') ∧ Rel z' w'
theorem la_map_case {p : Program} {l : Launch} {e : Env} {s : State} {m : MethodId} {below : List Frame} {meth : Method} {c : Code} {b L : Nat} {xs : Nat → Int32} {GX GM : mm_G} {Rel : mm_S → mm_S → Prop} (C : la_C p s m meth c b L xs GX GM) (h : eq_map Rel) {i : Nat} (hi : i + 6 ≤ L) {z w : mm_S} {H : Heap} {locs : List Loc} {la : Array Slot} (hRel : Rel z w) (hP : mm_H GX lyTX lyFA lenX snX 46 z H) (hQ : mm_H GM lyTM lyFA lenM snM 22 w H) (hS : va_S (la_A s) s.heap H locs) (hl : lv_has la 4 [(3, .int (nI i)), (2, .ref (GM.1 0)), (1, .ref (GX.1 0)), (0, .ref b)])
    {Q : State → Prop} (next : ∀ (H : Heap) (locs : List Loc) (z w : mm_S), Rel z w → mm_H GX lyTX lyFA lenX snX 46 z H → mm_H GM lyTM lyFA lenM snM 22 w H → va_S (la_A s) s.heap H locs → W p l e room_1 s m #[Value.ref b] below meth c H locs 68 2349 Q (F0 m 1697 la [])) : W p l e room_1 s m #[Value.ref b] below meth c H locs 68 2349 Q (F0 m 988 la []) := by
  obtain ⟨S, hr, hlk, hX, hbl, hL, hKX, hKM, hroX, hroM, hinjX, hinjM, hne, hadrX, hadrM⟩ := C
  obtain ⟨hx, hb, hml, ho, hts⟩ := id S
  obtain ⟨x, z', w', hfX, hfM, hRel'⟩ := h (xs (i + 1)) z w hRel
  refine lv_aload_n (i := 1) hx hb dl_988 rfl (lv_at hl 2 rfl) ?_
  refine la_arg (i := i) (jn := 1) hx hb hX hbl hL hS (lv_at hl 3 rfl) (lv_at hl 0 rfl) (by omega) rfl dl_989 dl_990 dl_991 dl_992 dl_993 ?_
  refine la_i (la_run S hKX hroX hinjX hadrX M_X3_map ⟨wv_X3_map, wz_X3_map, wi_X3_map, wc_X3_map⟩ ll_124 ⟨by decide +kernel, by decide +kernel, by decide +kernel⟩ ⟨rfl, rfl, by decide⟩ ⟨rfl, rfl, by decide, by decide⟩ (a := 0) (n := 1) (as' := [mm_I (xs (i + 1))]) (rest := []) (by simp [mm_ok]; decide +kernel) rfl hfX hP hS hl.1 (Nat.le_of_ble_eq_true rfl) dl_994) hS hadrX (fun H1 locs1 hP1 hk1 hS1 => ?_)
  have hQ := la_kept hne hQ hk1
  have hP := hP1
  have hS := hS1
  clear hP1 hS1 hk1
  refine lv_aload_n (i := 2) hx hb dl_997 rfl (lv_at hl 1 rfl) ?_
  refine la_arg (i := i) (jn := 1) hx hb hX hbl hL hS (lv_at hl 3 rfl) (lv_at hl 0 rfl) (by omega) rfl dl_998 dl_999 dl_1000 dl_1001 dl_1002 ?_
  refine la_i (la_run S hKM hroM hinjM hadrM M_X4_map ⟨wv_X4_map, wz_X4_map, wi_X4_map, wc_X4_map⟩ ll_127 ⟨by decide +kernel, by decide +kernel, by decide +kernel⟩ ⟨rfl, rfl, by decide⟩ ⟨rfl, rfl, by decide, by decide⟩ (a := 0) (n := 1) (as' := [mm_I (xs (i + 1))]) (rest := [.int x]) (by simp [mm_ok]; decide +kernel) rfl hfM hQ hS hl.1 (Nat.le_of_ble_eq_true rfl) dl_1003) hS hadrM (fun H1 locs1 hP1 hk1 hS1 => ?_)
  have hP := la_kept (fun i j h1 h2 => (hne j i h2 h1).symm) hP hk1
  have hQ := hP1
  refine lv_icmp_eq (tgt := 1697) hx hb dl_1006 rfl (fun _ => ?_) (fun q => absurd rfl q)
  exact next H1 locs1 z' w' hRel' hP hQ hS1
def eq_may (Rel : mm_S → mm_S → Prop) : Prop := ∀ (a1 : Int32) (z w : mm_S), Rel z w → ∃ (x : Int32) (z' w' : mm_S), f_X3_may [mm_P 3 0, mm_I a1] z (some (mm_I x), z') ∧ f_X4_may [mm_P 4 0, mm_I a1] w (some (mm_I x), w') ∧ Rel z' w'
theorem la_may_case {p : Program} {l : Launch} {e : Env} {s : State} {m : MethodId} {below : List Frame} {meth : Method} {c : Code} {b L : Nat} {xs : Nat → Int32} {GX GM : mm_G} {Rel : mm_S → mm_S → Prop} (C : la_C p s m meth c b L xs GX GM) (h : eq_may Rel) {i : Nat} (hi : i + 6 ≤ L) {z w : mm_S} {H : Heap} {locs : List Loc} {la : Array Slot} (hRel : Rel z w) (hP : mm_H GX lyTX lyFA lenX snX 46 z H) (hQ : mm_H GM lyTM lyFA lenM snM 22 w H) (hS : va_S (la_A s) s.heap H locs) (hl : lv_has la 4 [(3, .int (nI i)), (2, .ref (GM.1 0)), (1, .ref (GX.1 0)), (0, .ref b)])
    {Q : State → Prop} (next : ∀ (H : Heap) (locs : List Loc) (z w : mm_S), Rel z w → mm_H GX lyTX lyFA lenX snX 46 z H → mm_H GM lyTM lyFA lenM snM 22 w H → va_S (la_A s) s.heap H locs → W p l e room_1 s m #[Value.ref b] below meth c H locs 68 2349 Q (F0 m 1697 la [])) : W p l e room_1 s m #[Value.ref b] below meth c H locs 68 2349 Q (F0 m 1011 la []) := by
  obtain ⟨S, hr, hlk, hX, hbl, hL, hKX, hKM, hroX, hroM, hinjX, hinjM, hne, hadrX, hadrM⟩ := C
  obtain ⟨hx, hb, hml, ho, hts⟩ := id S
  obtain ⟨x, z', w', hfX, hfM, hRel'⟩ := h (xs (i + 1)) z w hRel
  refine lv_aload_n (i := 1) hx hb dl_1011 rfl (lv_at hl 2 rfl) ?_
  refine la_arg (i := i) (jn := 1) hx hb hX hbl hL hS (lv_at hl 3 rfl) (lv_at hl 0 rfl) (by omega) rfl dl_1012 dl_1013 dl_1014 dl_1015 dl_1016 ?_
  refine la_i (la_run S hKX hroX hinjX hadrX M_X3_may ⟨wv_X3_may, wz_X3_may, wi_X3_may, wc_X3_may⟩ ll_128 ⟨by decide +kernel, by decide +kernel, by decide +kernel⟩ ⟨rfl, rfl, by decide⟩ ⟨rfl, rfl, by decide, by decide⟩ (a := 0) (n := 1) (as' := [mm_I (xs (i + 1))]) (rest := []) (by simp [mm_ok]; decide +kernel) rfl hfX hP hS hl.1 (Nat.le_of_ble_eq_true rfl) dl_1017) hS hadrX (fun H1 locs1 hP1 hk1 hS1 => ?_)
  have hQ := la_kept hne hQ hk1
  have hP := hP1
  have hS := hS1
  clear hP1 hS1 hk1
  refine lv_aload_n (i := 2) hx hb dl_1020 rfl (lv_at hl 1 rfl) ?_
  refine la_arg (i := i) (jn := 1) hx hb hX hbl hL hS (lv_at hl 3 rfl) (lv_at hl 0 rfl) (by omega) rfl dl_1021 dl_1022 dl_1023 dl_1024 dl_1025 ?_
  refine la_i (la_run S hKM hroM hinjM hadrM M_X4_may ⟨wv_X4_may, wz_X4_may, wi_X4_may, wc_X4_may⟩ ll_131 ⟨by decide +kernel, by decide +kernel, by decide +kernel⟩ ⟨rfl, rfl, by decide⟩ ⟨rfl, rfl, by decide, by decide⟩ (a := 0) (n := 1) (as' := [mm_I (xs (i + 1))]) (rest := [.int x]) (by simp [mm_ok]; decide +kernel) rfl hfM hQ hS hl.1 (Nat.le_of_ble_eq_true rfl) dl_1026) hS hadrM (fun H1 locs1 hP1 hk1 hS1 => ?_)
  have hP := la_kept (fun i j h1 h2 => (hne j i h2 h1).symm) hP hk1
  have hQ := hP1
  refine lv_icmp_eq (tgt := 1697) hx hb dl_1029 rfl (fun _ => ?_) (fun q => absurd rfl q)
  exact next H1 locs1 z' w' hRel' hP hQ hS1
def eq_lays (Rel : mm_S → mm_S → Prop) : Prop := ∀ (a1 : Int32) (z w : mm_S), Rel z w → ∃ (x : Int32) (z' w' : mm_S), f_X3_lays [mm_P 3 0, mm_I a1] z (some (mm_I x), z') ∧ f_X4_lays [mm_P 4 0, mm_I a1] w (some (mm_I x), w') ∧ Rel z' w'
theorem la_lays_case {p : Program} {l : Launch} {e : Env} {s : State} {m : MethodId} {below : List Frame} {meth : Method} {c : Code} {b L : Nat} {xs : Nat → Int32} {GX GM : mm_G} {Rel : mm_S → mm_S → Prop} (C : la_C p s m meth c b L xs GX GM) (h : eq_lays Rel) {i : Nat} (hi : i + 6 ≤ L) {z w : mm_S} {H : Heap} {locs : List Loc} {la : Array Slot} (hRel : Rel z w) (hP : mm_H GX lyTX lyFA lenX snX 46 z H) (hQ : mm_H GM lyTM lyFA lenM snM 22 w H) (hS : va_S (la_A s) s.heap H locs) (hl : lv_has la 4 [(3, .int (nI i)), (2, .ref (GM.1 0)), (1, .ref (GX.1 0)), (0, .ref b)])
    {Q : State → Prop} (next : ∀ (H : Heap) (locs : List Loc) (z w : mm_S), Rel z w → mm_H GX lyTX lyFA lenX snX 46 z H → mm_H GM lyTM lyFA lenM snM 22 w H → va_S (la_A s) s.heap H locs → W p l e room_1 s m #[Value.ref b] below meth c H locs 68 2349 Q (F0 m 1697 la [])) : W p l e room_1 s m #[Value.ref b] below meth c H locs 68 2349 Q (F0 m 1034 la []) := by
  obtain ⟨S, hr, hlk, hX, hbl, hL, hKX, hKM, hroX, hroM, hinjX, hinjM, hne, hadrX, hadrM⟩ := C
  obtain ⟨hx, hb, hml, ho, hts⟩ := id S
  obtain ⟨x, z', w', hfX, hfM, hRel'⟩ := h (xs (i + 1)) z w hRel
  refine lv_aload_n (i := 1) hx hb dl_1034 rfl (lv_at hl 2 rfl) ?_
  refine la_arg (i := i) (jn := 1) hx hb hX hbl hL hS (lv_at hl 3 rfl) (lv_at hl 0 rfl) (by omega) rfl dl_1035 dl_1036 dl_1037 dl_1038 dl_1039 ?_
  refine la_i (la_run S hKX hroX hinjX hadrX M_X3_lays ⟨wv_X3_lays, wz_X3_lays, wi_X3_lays, wc_X3_lays⟩ ll_132 ⟨by decide +kernel, by decide +kernel, by decide +kernel⟩ ⟨rfl, rfl, by decide⟩ ⟨rfl, rfl, by decide, by decide⟩ (a := 0) (n := 1) (as' := [mm_I (xs (i + 1))]) (rest := []) (by simp [mm_ok]; decide +kernel) rfl hfX hP hS hl.1 (Nat.le_of_ble_eq_true rfl) dl_1040) hS hadrX (fun H1 locs1 hP1 hk1 hS1 => ?_)
  have hQ := la_kept hne hQ hk1
  have hP := hP1
  have hS := hS1
  clear hP1 hS1 hk1
  refine lv_aload_n (i := 2) hx hb dl_1043 rfl (lv_at hl 1 rfl) ?_
  refine la_arg (i := i) (jn := 1) hx hb hX hbl hL hS (lv_at hl 3 rfl) (lv_at hl 0 rfl) (by omega) rfl dl_1044 dl_1045 dl_1046 dl_1047 dl_1048 ?_
  refine la_i (la_run S hKM hroM hinjM hadrM M_X4_lays ⟨wv_X4_lays, wz_X4_lays, wi_X4_lays, wc_X4_lays⟩ ll_135 ⟨by decide +kernel, by decide +kernel, by decide +kernel⟩ ⟨rfl, rfl, by decide⟩ ⟨rfl, rfl, by decide, by decide⟩ (a := 0) (n := 1) (as' := [mm_I (xs (i + 1))]) (rest := [.int x]) (by simp [mm_ok]; decide +kernel) rfl hfM hQ hS hl.1 (Nat.le_of_ble_eq_true rfl) dl_1049) hS hadrM (fun H1 locs1 hP1 hk1 hS1 => ?_)
  have hP := la_kept (fun i j h1 h2 => (hne j i h2 h1).symm) hP hk1
  have hQ := hP1
  refine lv_icmp_eq (tgt := 1697) hx hb dl_1052 rfl (fun _ => ?_) (fun q => absurd rfl q)
  exact next H1 locs1 z' w' hRel' hP hQ hS1
def eq_asks (Rel : mm_S → mm_S → Prop) : Prop := ∀ (a1 : Int32) (z w : mm_S), Rel z w → ∃ (x : Int32) (z' w' : mm_S), f_X3_asks [mm_P 3 0, mm_I a1] z (some (mm_I x), z') ∧ f_X4_asks [mm_P 4 0, mm_I a1] w (some (mm_I x), w') ∧ Rel z' w'
theorem la_asks_case {p : Program} {l : Launch} {e : Env} {s : State} {m : MethodId} {below : List Frame} {meth : Method} {c : Code} {b L : Nat} {xs : Nat → Int32} {GX GM : mm_G} {Rel : mm_S → mm_S → Prop} (C : la_C p s m meth c b L xs GX GM) (h : eq_asks Rel) {i : Nat} (hi : i + 6 ≤ L) {z w : mm_S} {H : Heap} {locs : List Loc} {la : Array Slot} (hRel : Rel z w) (hP : mm_H GX lyTX lyFA lenX snX 46 z H) (hQ : mm_H GM lyTM lyFA lenM snM 22 w H) (hS : va_S (la_A s) s.heap H locs) (hl : lv_has la 4 [(3, .int (nI i)), (2, .ref (GM.1 0)), (1, .ref (GX.1 0)), (0, .ref b)])
    {Q : State → Prop} (next : ∀ (H : Heap) (locs : List Loc) (z w : mm_S), Rel z w → mm_H GX lyTX lyFA lenX snX 46 z H → mm_H GM lyTM lyFA lenM snM 22 w H → va_S (la_A s) s.heap H locs → W p l e room_1 s m #[Value.ref b] below meth c H locs 68 2349 Q (F0 m 1697 la [])) : W p l e room_1 s m #[Value.ref b] below meth c H locs 68 2349 Q (F0 m 1057 la []) := by
  obtain ⟨S, hr, hlk, hX, hbl, hL, hKX, hKM, hroX, hroM, hinjX, hinjM, hne, hadrX, hadrM⟩ := C
  obtain ⟨hx, hb, hml, ho, hts⟩ := id S
  obtain ⟨x, z', w', hfX, hfM, hRel'⟩ := h (xs (i + 1)) z w hRel
  refine lv_aload_n (i := 1) hx hb dl_1057 rfl (lv_at hl 2 rfl) ?_
  refine la_arg (i := i) (jn := 1) hx hb hX hbl hL hS (lv_at hl 3 rfl) (lv_at hl 0 rfl) (by omega) rfl dl_1058 dl_1059 dl_1060 dl_1061 dl_1062 ?_
  refine la_i (la_run S hKX hroX hinjX hadrX M_X3_asks ⟨wv_X3_asks, wz_X3_asks, wi_X3_asks, wc_X3_asks⟩ ll_136 ⟨by decide +kernel, by decide +kernel, by decide +kernel⟩ ⟨rfl, rfl, by decide⟩ ⟨rfl, rfl, by decide, by decide⟩ (a := 0) (n := 1) (as' := [mm_I (xs (i + 1))]) (rest := []) (by simp [mm_ok]; decide +kernel) rfl hfX hP hS hl.1 (Nat.le_of_ble_eq_true rfl) dl_1063) hS hadrX (fun H1 locs1 hP1 hk1 hS1 => ?_)
  have hQ := la_kept hne hQ hk1
  have hP := hP1
  have hS := hS1
  clear hP1 hS1 hk1
  refine lv_aload_n (i := 2) hx hb dl_1066 rfl (lv_at hl 1 rfl) ?_
  refine la_arg (i := i) (jn := 1) hx hb hX hbl hL hS (lv_at hl 3 rfl) (lv_at hl 0 rfl) (by omega) rfl dl_1067 dl_1068 dl_1069 dl_1070 dl_1071 ?_
  refine la_i (la_run S hKM hroM hinjM hadrM M_X4_asks ⟨wv_X4_asks, wz_X4_asks, wi_X4_asks, wc_X4_asks⟩ ll_139 ⟨by decide +kernel, by decide +kernel, by decide +kernel⟩ ⟨rfl, rfl, by decide⟩ ⟨rfl, rfl, by decide, by decide⟩ (a := 0) (n := 1) (as' := [mm_I (xs (i + 1))]) (rest := [.int x]) (by simp [mm_ok]; decide +kernel) rfl hfM hQ hS hl.1 (Nat.le_of_ble_eq_true rfl) dl_1072) hS hadrM (fun H1 locs1 hP1 hk1 hS1 => ?_)
  have hP := la_kept (fun i j h1 h2 => (hne j i h2 h1).symm) hP hk1
  have hQ := hP1
  refine lv_icmp_eq (tgt := 1697) hx hb dl_1075 rfl (fun _ => ?_) (fun q => absurd rfl q)
  exact next H1 locs1 z' w' hRel' hP hQ hS1
def eq_dig (Rel : mm_S → mm_S → Prop) : Prop := ∀ (a1 a2 : Int32) (z w : mm_S), Rel z w → ∃ (x : Int32) (z' w' : mm_S), f_X3_dig [mm_P 3 0, mm_I a1, mm_I a2] z (some (mm_I x), z') ∧ f_X4_dig [mm_P 4 0, mm_I a1, mm_I a2] w (some (mm_I x), w') ∧ Rel z' w'
theorem la_dig_case {p : Program} {l : Launch} {e : Env} {s : State} {m : MethodId} {below : List Frame} {meth : Method} {c : Code} {b L : Nat} {xs : Nat → Int32} {GX GM : mm_G} {Rel : mm_S → mm_S → Prop} (C : la_C p s m meth c b L xs GX GM) (h : eq_dig Rel) {i : Nat} (hi : i + 6 ≤ L) {z w : mm_S} {H : Heap} {locs : List Loc} {la : Array Slot} (hRel : Rel z w) (hP : mm_H GX lyTX lyFA lenX snX 46 z H) (hQ : mm_H GM lyTM lyFA lenM snM 22 w H) (hS : va_S (la_A s) s.heap H locs) (hl : lv_has la 4 [(3, .int (nI i)), (2, .ref (GM.1 0)), (1, .ref (GX.1 0)), (0, .ref b)])
    {Q : State → Prop} (next : ∀ (H : Heap) (locs : List Loc) (z w : mm_S), Rel z w → mm_H GX lyTX lyFA lenX snX 46 z H → mm_H GM lyTM lyFA lenM snM 22 w H → va_S (la_A s) s.heap H locs → W p l e room_1 s m #[Value.ref b] below meth c H locs 68 2349 Q (F0 m 1697 la [])) : W p l e room_1 s m #[Value.ref b] below meth c H locs 68 2349 Q (F0 m 1080 la []) := by
  obtain ⟨S, hr, hlk, hX, hbl, hL, hKX, hKM, hroX, hroM, hinjX, hinjM, hne, hadrX, hadrM⟩ := C
  obtain ⟨hx, hb, hml, ho, hts⟩ := id S
  obtain ⟨x, z', w', hfX, hfM, hRel'⟩ := h (xs (i + 1)) (xs (i + 2)) z w hRel
  refine lv_aload_n (i := 1) hx hb dl_1080 rfl (lv_at hl 2 rfl) ?_
  refine la_arg (i := i) (jn := 1) hx hb hX hbl hL hS (lv_at hl 3 rfl) (lv_at hl 0 rfl) (by omega) rfl dl_1081 dl_1082 dl_1083 dl_1084 dl_1085 ?_
  refine la_arg (i := i) (jn := 2) hx hb hX hbl hL hS (lv_at hl 3 rfl) (lv_at hl 0 rfl) (by omega) rfl dl_1086 dl_1087 dl_1088 dl_1089 dl_1090 ?_
  refine la_i (la_run S hKX hroX hinjX hadrX M_X3_dig ⟨wv_X3_dig, wz_X3_dig, wi_X3_dig, wc_X3_dig⟩ ll_140 ⟨by decide +kernel, by decide +kernel, by decide +kernel⟩ ⟨rfl, rfl, by decide⟩ ⟨rfl, rfl, by decide, by decide⟩ (a := 0) (n := 2) (as' := [mm_I (xs (i + 1)), mm_I (xs (i + 2))]) (rest := []) (by simp [mm_ok]; decide +kernel) rfl hfX hP hS hl.1 (Nat.le_of_ble_eq_true rfl) dl_1091) hS hadrX (fun H1 locs1 hP1 hk1 hS1 => ?_)
  have hQ := la_kept hne hQ hk1
  have hP := hP1
  have hS := hS1
  clear hP1 hS1 hk1
  refine lv_aload_n (i := 2) hx hb dl_1094 rfl (lv_at hl 1 rfl) ?_
  refine la_arg (i := i) (jn := 1) hx hb hX hbl hL hS (lv_at hl 3 rfl) (lv_at hl 0 rfl) (by omega) rfl dl_1095 dl_1096 dl_1097 dl_1098 dl_1099 ?_
  refine la_arg (i := i) (jn := 2) hx hb hX hbl hL hS (lv_at hl 3 rfl) (lv_at hl 0 rfl) (by omega) rfl dl_1100 dl_1101 dl_1102 dl_1103 dl_1104 ?_
  refine la_i (la_run S hKM hroM hinjM hadrM M_X4_dig ⟨wv_X4_dig, wz_X4_dig, wi_X4_dig, wc_X4_dig⟩ ll_143 ⟨by decide +kernel, by decide +kernel, by decide +kernel⟩ ⟨rfl, rfl, by decide⟩ ⟨rfl, rfl, by decide, by decide⟩ (a := 0) (n := 2) (as' := [mm_I (xs (i + 1)), mm_I (xs (i + 2))]) (rest := [.int x]) (by simp [mm_ok]; decide +kernel) rfl hfM hQ hS hl.1 (Nat.le_of_ble_eq_true rfl) dl_1105) hS hadrM (fun H1 locs1 hP1 hk1 hS1 => ?_)
  have hP := la_kept (fun i j h1 h2 => (hne j i h2 h1).symm) hP hk1
  have hQ := hP1
  refine lv_icmp_eq (tgt := 1697) hx hb dl_1108 rfl (fun _ => ?_) (fun q => absurd rfl q)
  exact next H1 locs1 z' w' hRel' hP hQ hS1
def eq_safe (Rel : mm_S → mm_S → Prop) : Prop := ∀ (a1 a2 : Int32) (z w : mm_S), Rel z w → ∃ (x : Int32) (z' w' : mm_S), f_X3_safe [mm_P 3 0, mm_I a1, mm_I a2] z (some (mm_I x), z') ∧ f_X4_safe [mm_P 4 0, mm_I a1, mm_I a2] w (some (mm_I x), w') ∧ Rel z' w'
theorem la_safe_case {p : Program} {l : Launch} {e : Env} {s : State} {m : MethodId} {below : List Frame} {meth : Method} {c : Code} {b L : Nat} {xs : Nat → Int32} {GX GM : mm_G} {Rel : mm_S → mm_S → Prop} (C : la_C p s m meth c b L xs GX GM) (h : eq_safe Rel) {i : Nat} (hi : i + 6 ≤ L) {z w : mm_S} {H : Heap} {locs : List Loc} {la : Array Slot} (hRel : Rel z w) (hP : mm_H GX lyTX lyFA lenX snX 46 z H) (hQ : mm_H GM lyTM lyFA lenM snM 22 w H) (hS : va_S (la_A s) s.heap H locs) (hl : lv_has la 4 [(3, .int (nI i)), (2, .ref (GM.1 0)), (1, .ref (GX.1 0)), (0, .ref b)])
    {Q : State → Prop} (next : ∀ (H : Heap) (locs : List Loc) (z w : mm_S), Rel z w → mm_H GX lyTX lyFA lenX snX 46 z H → mm_H GM lyTM lyFA lenM snM 22 w H → va_S (la_A s) s.heap H locs → W p l e room_1 s m #[Value.ref b] below meth c H locs 68 2349 Q (F0 m 1697 la [])) : W p l e room_1 s m #[Value.ref b] below meth c H locs 68 2349 Q (F0 m 1113 la []) := by
  obtain ⟨S, hr, hlk, hX, hbl, hL, hKX, hKM, hroX, hroM, hinjX, hinjM, hne, hadrX, hadrM⟩ := C
  obtain ⟨hx, hb, hml, ho, hts⟩ := id S
  obtain ⟨x, z', w', hfX, hfM, hRel'⟩ := h (xs (i + 1)) (xs (i + 2)) z w hRel
  refine lv_aload_n (i := 1) hx hb dl_1113 rfl (lv_at hl 2 rfl) ?_
  refine la_arg (i := i) (jn := 1) hx hb hX hbl hL hS (lv_at hl 3 rfl) (lv_at hl 0 rfl) (by omega) rfl dl_1114 dl_1115 dl_1116 dl_1117 dl_1118 ?_
  refine la_arg (i := i) (jn := 2) hx hb hX hbl hL hS (lv_at hl 3 rfl) (lv_at hl 0 rfl) (by omega) rfl dl_1119 dl_1120 dl_1121 dl_1122 dl_1123 ?_
  refine la_i (la_run S hKX hroX hinjX hadrX M_X3_safe ⟨wv_X3_safe, wz_X3_safe, wi_X3_safe, wc_X3_safe⟩ ll_144 ⟨by decide +kernel, by decide +kernel, by decide +kernel⟩ ⟨rfl, rfl, by decide⟩ ⟨rfl, rfl, by decide, by decide⟩ (a := 0) (n := 2) (as' := [mm_I (xs (i + 1)), mm_I (xs (i + 2))]) (rest := []) (by simp [mm_ok]; decide +kernel) rfl hfX hP hS hl.1 (Nat.le_of_ble_eq_true rfl) dl_1124) hS hadrX (fun H1 locs1 hP1 hk1 hS1 => ?_)
  have hQ := la_kept hne hQ hk1
  have hP := hP1
  have hS := hS1
  clear hP1 hS1 hk1
  refine lv_aload_n (i := 2) hx hb dl_1127 rfl (lv_at hl 1 rfl) ?_
  refine la_arg (i := i) (jn := 1) hx hb hX hbl hL hS (lv_at hl 3 rfl) (lv_at hl 0 rfl) (by omega) rfl dl_1128 dl_1129 dl_1130 dl_1131 dl_1132 ?_
  refine la_arg (i := i) (jn := 2) hx hb hX hbl hL hS (lv_at hl 3 rfl) (lv_at hl 0 rfl) (by omega) rfl dl_1133 dl_1134 dl_1135 dl_1136 dl_1137 ?_
  refine la_i (la_run S hKM hroM hinjM hadrM M_X4_safe ⟨wv_X4_safe, wz_X4_safe, wi_X4_safe, wc_X4_safe⟩ ll_147 ⟨by decide +kernel, by decide +kernel, by decide +kernel⟩ ⟨rfl, rfl, by decide⟩ ⟨rfl, rfl, by decide, by decide⟩ (a := 0) (n := 2) (as' := [mm_I (xs (i + 1)), mm_I (xs (i + 2))]) (rest := [.int x]) (by simp [mm_ok]; decide +kernel) rfl hfM hQ hS hl.1 (Nat.le_of_ble_eq_true rfl) dl_1138) hS hadrM (fun H1 locs1 hP1 hk1 hS1 => ?_)
  have hP := la_kept (fun i j h1 h2 => (hne j i h2 h1).symm) hP hk1
  have hQ := hP1
  refine lv_icmp_eq (tgt := 1697) hx hb dl_1141 rfl (fun _ => ?_) (fun q => absurd rfl q)
  exact next H1 locs1 z' w' hRel' hP hQ hS1
def eq_ways (Rel : mm_S → mm_S → Prop) : Prop := ∀ (a1 : Int32) (z w : mm_S), Rel z w → ∃ (x : Int64) (z' w' : mm_S), f_X3_ways [mm_P 3 0, mm_I a1] z (some (mm_J x), z') ∧ f_X4_ways [mm_P 4 0, mm_I a1] w (some (mm_J x), w') ∧ Rel z' w'
theorem la_ways_case {p : Program} {l : Launch} {e : Env} {s : State} {m : MethodId} {below : List Frame} {meth : Method} {c : Code} {b L : Nat} {xs : Nat → Int32} {GX GM : mm_G} {Rel : mm_S → mm_S → Prop} (C : la_C p s m meth c b L xs GX GM) (h : eq_ways Rel) {i : Nat} (hi : i + 6 ≤ L) {z w : mm_S} {H : Heap} {locs : List Loc} {la : Array Slot} (hRel : Rel z w) (hP : mm_H GX lyTX lyFA lenX snX 46 z H) (hQ : mm_H GM lyTM lyFA lenM snM 22 w H) (hS : va_S (la_A s) s.heap H locs) (hl : lv_has la 4 [(3, .int (nI i)), (2, .ref (GM.1 0)), (1, .ref (GX.1 0)), (0, .ref b)])
    {Q : State → Prop} (next : ∀ (H : Heap) (locs : List Loc) (z w : mm_S), Rel z w → mm_H GX lyTX lyFA lenX snX 46 z H → mm_H GM lyTM lyFA lenM snM 22 w H → va_S (la_A s) s.heap H locs → W p l e room_1 s m #[Value.ref b] below meth c H locs 68 2349 Q (F0 m 1697 la [])) : W p l e room_1 s m #[Value.ref b] below meth c H locs 68 2349 Q (F0 m 1146 la []) := by
  obtain ⟨S, hr, hlk, hX, hbl, hL, hKX, hKM, hroX, hroM, hinjX, hinjM, hne, hadrX, hadrM⟩ := C
  obtain ⟨hx, hb, hml, ho, hts⟩ := id S
  obtain ⟨x, z', w', hfX, hfM, hRel'⟩ := h (xs (i + 1)) z w hRel
  refine lv_aload_n (i := 1) hx hb dl_1146 rfl (lv_at hl 2 rfl) ?_
  refine la_arg (i := i) (jn := 1) hx hb hX hbl hL hS (lv_at hl 3 rfl) (lv_at hl 0 rfl) (by omega) rfl dl_1147 dl_1148 dl_1149 dl_1150 dl_1151 ?_
  refine la_l (la_run S hKX hroX hinjX hadrX M_X3_ways ⟨wv_X3_ways, wz_X3_ways, wi_X3_ways, wc_X3_ways⟩ ll_148 ⟨by decide +kernel, by decide +kernel, by decide +kernel⟩ ⟨rfl, rfl, by decide⟩ ⟨rfl, rfl, by decide, by decide⟩ (a := 0) (n := 1) (as' := [mm_I (xs (i + 1))]) (rest := []) (by simp [mm_ok]; decide +kernel) rfl hfX hP hS hl.1 (Nat.le_of_ble_eq_true rfl) dl_1152) hS hadrX (fun H1 locs1 hP1 hk1 hS1 => ?_)
  have hQ := la_kept hne hQ hk1
  have hP := hP1
  have hS := hS1
  clear hP1 hS1 hk1
  refine lv_aload_n (i := 2) hx hb dl_1155 rfl (lv_at hl 1 rfl) ?_
  refine la_arg (i := i) (jn := 1) hx hb hX hbl hL hS (lv_at hl 3 rfl) (lv_at hl 0 rfl) (by omega) rfl dl_1156 dl_1157 dl_1158 dl_1159 dl_1160 ?_
  refine la_l (la_run S hKM hroM hinjM hadrM M_X4_ways ⟨wv_X4_ways, wz_X4_ways, wi_X4_ways, wc_X4_ways⟩ ll_151 ⟨by decide +kernel, by decide +kernel, by decide +kernel⟩ ⟨rfl, rfl, by decide⟩ ⟨rfl, rfl, by decide, by decide⟩ (a := 0) (n := 1) (as' := [mm_I (xs (i + 1))]) (rest := [.long x]) (by simp [mm_ok]; decide +kernel) rfl hfM hQ hS hl.1 (Nat.le_of_ble_eq_true rfl) dl_1161) hS hadrM (fun H1 locs1 hP1 hk1 hS1 => ?_)
  have hP := la_kept (fun i j h1 h2 => (hne j i h2 h1).symm) hP hk1
  have hQ := hP1
  refine W.lcmp hx hb dl_1164 ?_
  refine W.eq (g2 := F0 m 1165 la [.int 0]) (congrArg (fun v => F0 m 1165 la [.int v]) (la_cmp x)) ?_
  refine lv_if_eq (tgt := 1697) hx hb dl_1165 rfl (fun _ => ?_) (fun q => absurd rfl q)
  exact next H1 locs1 z' w' hRel' hP hQ hS1
def eq_years (Rel : mm_S → mm_S → Prop) : Prop := ∀ (a1 : Int32) (z w : mm_S), Rel z w → ∃ (x : Int32) (z' w' : mm_S), f_X3_years [mm_P 3 0, mm_I a1] z (some (mm_I x), z') ∧ f_X4_years [mm_P 4 0, mm_I a1] w (some (mm_I x), w') ∧ Rel z' w'
theorem la_years_case {p : Program} {l : Launch} {e : Env} {s : State} {m : MethodId} {below : List Frame} {meth : Method} {c : Code} {b L : Nat} {xs : Nat → Int32} {GX GM : mm_G} {Rel : mm_S → mm_S → Prop} (C : la_C p s m meth c b L xs GX GM) (h : eq_years Rel) {i : Nat} (hi : i + 6 ≤ L) {z w : mm_S} {H : Heap} {locs : List Loc} {la : Array Slot} (hRel : Rel z w) (hP : mm_H GX lyTX lyFA lenX snX 46 z H) (hQ : mm_H GM lyTM lyFA lenM snM 22 w H) (hS : va_S (la_A s) s.heap H locs) (hl : lv_has la 4 [(3, .int (nI i)), (2, .ref (GM.1 0)), (1, .ref (GX.1 0)), (0, .ref b)])
    {Q : State → Prop} (next : ∀ (H : Heap) (locs : List Loc) (z w : mm_S), Rel z w → mm_H GX lyTX lyFA lenX snX 46 z H → mm_H GM lyTM lyFA lenM snM 22 w H → va_S (la_A s) s.heap H locs → W p l e room_1 s m #[Value.ref b] below meth c H locs 68 2349 Q (F0 m 1697 la [])) : W p l e room_1 s m #[Value.ref b] below meth c H locs 68 2349 Q (F0 m 1170 la []) := by
  obtain ⟨S, hr, hlk, hX, hbl, hL, hKX, hKM, hroX, hroM, hinjX, hinjM, hne, hadrX, hadrM⟩ := C
  obtain ⟨hx, hb, hml, ho, hts⟩ := id S
  obtain ⟨x, z', w', hfX, hfM, hRel'⟩ := h (xs (i + 1)) z w hRel
  refine lv_aload_n (i := 1) hx hb dl_1170 rfl (lv_at hl 2 rfl) ?_
  refine la_arg (i := i) (jn := 1) hx hb hX hbl hL hS (lv_at hl 3 rfl) (lv_at hl 0 rfl) (by omega) rfl dl_1171 dl_1172 dl_1173 dl_1174 dl_1175 ?_
  refine la_i (la_run S hKX hroX hinjX hadrX M_X3_years ⟨wv_X3_years, wz_X3_years, wi_X3_years, wc_X3_years⟩ ll_152 ⟨by decide +kernel, by decide +kernel, by decide +kernel⟩ ⟨rfl, rfl, by decide⟩ ⟨rfl, rfl, by decide, by decide⟩ (a := 0) (n := 1) (as' := [mm_I (xs (i + 1))]) (rest := []) (by simp [mm_ok]; decide +kernel) rfl hfX hP hS hl.1 (Nat.le_of_ble_eq_true rfl) dl_1176) hS hadrX (fun H1 locs1 hP1 hk1 hS1 => ?_)
  have hQ := la_kept hne hQ hk1
  have hP := hP1
  have hS := hS1
  clear hP1 hS1 hk1
  refine lv_aload_n (i := 2) hx hb dl_1179 rfl (lv_at hl 1 rfl) ?_
  refine la_arg (i := i) (jn := 1) hx hb hX hbl hL hS (lv_at hl 3 rfl) (lv_at hl 0 rfl) (by omega) rfl dl_1180 dl_1181 dl_1182 dl_1183 dl_1184 ?_
  refine la_i (la_run S hKM hroM hinjM hadrM M_X4_years ⟨wv_X4_years, wz_X4_years, wi_X4_years, wc_X4_years⟩ ll_155 ⟨by decide +kernel, by decide +kernel, by decide +kernel⟩ ⟨rfl, rfl, by decide⟩ ⟨rfl, rfl, by decide, by decide⟩ (a := 0) (n := 1) (as' := [mm_I (xs (i + 1))]) (rest := [.int x]) (by simp [mm_ok]; decide +kernel) rfl hfM hQ hS hl.1 (Nat.le_of_ble_eq_true rfl) dl_1185) hS hadrM (fun H1 locs1 hP1 hk1 hS1 => ?_)
  have hP := la_kept (fun i j h1 h2 => (hne j i h2 h1).symm) hP hk1
  have hQ := hP1
  refine lv_icmp_eq (tgt := 1697) hx hb dl_1188 rfl (fun _ => ?_) (fun q => absurd rfl q)
  exact next H1 locs1 z' w' hRel' hP hQ hS1
def eq_ahead (Rel : mm_S → mm_S → Prop) : Prop := ∀ (a1 a2 : Int32) (z w : mm_S), Rel z w → ∃ (x : Int32) (z' w' : mm_S), f_X3_ahead [mm_P 3 0, mm_I a1, mm_I a2] z (some (mm_I x), z') ∧ f_X4_ahead [mm_P 4 0, mm_I a1, mm_I a2] w (some (mm_I x), w') ∧ Rel z' w'
theorem la_ahead_case {p : Program} {l : Launch} {e : Env} {s : State} {m : MethodId} {below : List Frame} {meth : Method} {c : Code} {b L : Nat} {xs : Nat → Int32} {GX GM : mm_G} {Rel : mm_S → mm_S → Prop} (C : la_C p s m meth c b L xs GX GM) (h : eq_ahead Rel) {i : Nat} (hi : i + 6 ≤ L) {z w : mm_S} {H : Heap} {locs : List Loc} {la : Array Slot} (hRel : Rel z w) (hP : mm_H GX lyTX lyFA lenX snX 46 z H) (hQ : mm_H GM lyTM lyFA lenM snM 22 w H) (hS : va_S (la_A s) s.heap H locs) (hl : lv_has la 4 [(3, .int (nI i)), (2, .ref (GM.1 0)), (1, .ref (GX.1 0)), (0, .ref b)])
    {Q : State → Prop} (next : ∀ (H : Heap) (locs : List Loc) (z w : mm_S), Rel z w → mm_H GX lyTX lyFA lenX snX 46 z H → mm_H GM lyTM lyFA lenM snM 22 w H → va_S (la_A s) s.heap H locs → W p l e room_1 s m #[Value.ref b] below meth c H locs 68 2349 Q (F0 m 1697 la [])) : W p l e room_1 s m #[Value.ref b] below meth c H locs 68 2349 Q (F0 m 1193 la []) := by
  obtain ⟨S, hr, hlk, hX, hbl, hL, hKX, hKM, hroX, hroM, hinjX, hinjM, hne, hadrX, hadrM⟩ := C
  obtain ⟨hx, hb, hml, ho, hts⟩ := id S
  obtain ⟨x, z', w', hfX, hfM, hRel'⟩ := h (xs (i + 1)) (xs (i + 2)) z w hRel
  refine lv_aload_n (i := 1) hx hb dl_1193 rfl (lv_at hl 2 rfl) ?_
  refine la_arg (i := i) (jn := 1) hx hb hX hbl hL hS (lv_at hl 3 rfl) (lv_at hl 0 rfl) (by omega) rfl dl_1194 dl_1195 dl_1196 dl_1197 dl_1198 ?_
  refine la_arg (i := i) (jn := 2) hx hb hX hbl hL hS (lv_at hl 3 rfl) (lv_at hl 0 rfl) (by omega) rfl dl_1199 dl_1200 dl_1201 dl_1202 dl_1203 ?_
  refine la_i (la_run S hKX hroX hinjX hadrX M_X3_ahead ⟨wv_X3_ahead, wz_X3_ahead, wi_X3_ahead, wc_X3_ahead⟩ ll_156 ⟨by decide +kernel, by decide +kernel, by decide +kernel⟩ ⟨rfl, rfl, by decide⟩ ⟨rfl, rfl, by decide, by decide⟩ (a := 0) (n := 2) (as' := [mm_I (xs (i + 1)), mm_I (xs (i + 2))]) (rest := []) (by simp [mm_ok]; decide +kernel) rfl hfX hP hS hl.1 (Nat.le_of_ble_eq_true rfl) dl_1204) hS hadrX (fun H1 locs1 hP1 hk1 hS1 => ?_)
  have hQ := la_kept hne hQ hk1
  have hP := hP1
  have hS := hS1
  clear hP1 hS1 hk1
  refine lv_aload_n (i := 2) hx hb dl_1207 rfl (lv_at hl 1 rfl) ?_
  refine la_arg (i := i) (jn := 1) hx hb hX hbl hL hS (lv_at hl 3 rfl) (lv_at hl 0 rfl) (by omega) rfl dl_1208 dl_1209 dl_1210 dl_1211 dl_1212 ?_
  refine la_arg (i := i) (jn := 2) hx hb hX hbl hL hS (lv_at hl 3 rfl) (lv_at hl 0 rfl) (by omega) rfl dl_1213 dl_1214 dl_1215 dl_1216 dl_1217 ?_
  refine la_i (la_run S hKM hroM hinjM hadrM M_X4_ahead ⟨wv_X4_ahead, wz_X4_ahead, wi_X4_ahead, wc_X4_ahead⟩ ll_159 ⟨by decide +kernel, by decide +kernel, by decide +kernel⟩ ⟨rfl, rfl, by decide⟩ ⟨rfl, rfl, by decide, by decide⟩ (a := 0) (n := 2) (as' := [mm_I (xs (i + 1)), mm_I (xs (i + 2))]) (rest := [.int x]) (by simp [mm_ok]; decide +kernel) rfl hfM hQ hS hl.1 (Nat.le_of_ble_eq_true rfl) dl_1218) hS hadrM (fun H1 locs1 hP1 hk1 hS1 => ?_)
  have hP := la_kept (fun i j h1 h2 => (hne j i h2 h1).symm) hP hk1
  have hQ := hP1
  refine lv_icmp_eq (tgt := 1697) hx hb dl_1221 rfl (fun _ => ?_) (fun q => absurd rfl q)
  exact next H1 locs1 z' w' hRel' hP hQ hS1
def eq_when (Rel : mm_S → mm_S → Prop) : Prop := ∀ (a1 a2 : Int32) (z w : mm_S), Rel z w → ∃ (x : Int32) (z' w' : mm_S), f_X3_when [mm_P 3 0, mm_I a1, mm_I a2] z (some (mm_I x), z') ∧ f_X4_when [mm_P 4 0, mm_I a1, mm_I a2] w (some (mm_I x), w') ∧ Rel z' w'
theorem la_when_case {p : Program} {l : Launch} {e : Env} {s : State} {m : MethodId} {below : List Frame} {meth : Method} {c : Code} {b L : Nat} {xs : Nat → Int32} {GX GM : mm_G} {Rel : mm_S → mm_S → Prop} (C : la_C p s m meth c b L xs GX GM) (h : eq_when Rel) {i : Nat} (hi : i + 6 ≤ L) {z w : mm_S} {H : Heap} {locs : List Loc} {la : Array Slot} (hRel : Rel z w) (hP : mm_H GX lyTX lyFA lenX snX 46 z H) (hQ : mm_H GM lyTM lyFA lenM snM 22 w H) (hS : va_S (la_A s) s.heap H locs) (hl : lv_has la 4 [(3, .int (nI i)), (2, .ref (GM.1 0)), (1, .ref (GX.1 0)), (0, .ref b)])
    {Q : State → Prop} (next : ∀ (H : Heap) (locs : List Loc) (z w : mm_S), Rel z w → mm_H GX lyTX lyFA lenX snX 46 z H → mm_H GM lyTM lyFA lenM snM 22 w H → va_S (la_A s) s.heap H locs → W p l e room_1 s m #[Value.ref b] below meth c H locs 68 2349 Q (F0 m 1697 la [])) : W p l e room_1 s m #[Value.ref b] below meth c H locs 68 2349 Q (F0 m 1226 la []) := by
  obtain ⟨S, hr, hlk, hX, hbl, hL, hKX, hKM, hroX, hroM, hinjX, hinjM, hne, hadrX, hadrM⟩ := C
  obtain ⟨hx, hb, hml, ho, hts⟩ := id S
  obtain ⟨x, z', w', hfX, hfM, hRel'⟩ := h (xs (i + 1)) (xs (i + 2)) z w hRel
  refine lv_aload_n (i := 1) hx hb dl_1226 rfl (lv_at hl 2 rfl) ?_
  refine la_arg (i := i) (jn := 1) hx hb hX hbl hL hS (lv_at hl 3 rfl) (lv_at hl 0 rfl) (by omega) rfl dl_1227 dl_1228 dl_1229 dl_1230 dl_1231 ?_
  refine la_arg (i := i) (jn := 2) hx hb hX hbl hL hS (lv_at hl 3 rfl) (lv_at hl 0 rfl) (by omega) rfl dl_1232 dl_1233 dl_1234 dl_1235 dl_1236 ?_
  refine la_i (la_run S hKX hroX hinjX hadrX M_X3_when ⟨wv_X3_when, wz_X3_when, wi_X3_when, wc_X3_when⟩ ll_160 ⟨by decide +kernel, by decide +kernel, by decide +kernel⟩ ⟨rfl, rfl, by decide⟩ ⟨rfl, rfl, by decide, by decide⟩ (a := 0) (n := 2) (as' := [mm_I (xs (i + 1)), mm_I (xs (i + 2))]) (rest := []) (by simp [mm_ok]; decide +kernel) rfl hfX hP hS hl.1 (Nat.le_of_ble_eq_true rfl) dl_1237) hS hadrX (fun H1 locs1 hP1 hk1 hS1 => ?_)
  have hQ := la_kept hne hQ hk1
  have hP := hP1
  have hS := hS1
  clear hP1 hS1 hk1
  refine lv_aload_n (i := 2) hx hb dl_1240 rfl (lv_at hl 1 rfl) ?_
  refine la_arg (i := i) (jn := 1) hx hb hX hbl hL hS (lv_at hl 3 rfl) (lv_at hl 0 rfl) (by omega) rfl dl_1241 dl_1242 dl_1243 dl_1244 dl_1245 ?_
  refine la_arg (i := i) (jn := 2) hx hb hX hbl hL hS (lv_at hl 3 rfl) (lv_at hl 0 rfl) (by omega) rfl dl_1246 dl_1247 dl_1248 dl_1249 dl_1250 ?_
  refine la_i (la_run S hKM hroM hinjM hadrM M_X4_when ⟨wv_X4_when, wz_X4_when, wi_X4_when, wc_X4_when⟩ ll_163 ⟨by decide +kernel, by decide +kernel, by decide +kernel⟩ ⟨rfl, rfl, by decide⟩ ⟨rfl, rfl, by decide, by decide⟩ (a := 0) (n := 2) (as' := [mm_I (xs (i + 1)), mm_I (xs (i + 2))]) (rest := [.int x]) (by simp [mm_ok]; decide +kernel) rfl hfM hQ hS hl.1 (Nat.le_of_ble_eq_true rfl) dl_1251) hS hadrM (fun H1 locs1 hP1 hk1 hS1 => ?_)
  have hP := la_kept (fun i j h1 h2 => (hne j i h2 h1).symm) hP hk1
  have hQ := hP1
  refine lv_icmp_eq (tgt := 1697) hx hb dl_1254 rfl (fun _ => ?_) (fun q => absurd rfl q)
  exact next H1 locs1 z' w' hRel' hP hQ hS1
def eq_seed (Rel : mm_S → mm_S → Prop) : Prop := ∀ (a1 : Int32) (z w : mm_S), Rel z w → ∃ (x : Int32) (z' w' : mm_S), f_X3_seed [mm_P 3 0, mm_I a1] z (some (mm_I x), z') ∧ f_X4_seed [mm_P 4 0, mm_I a1] w (some (mm_I x), w') ∧ Rel z' w'
theorem la_seed_case {p : Program} {l : Launch} {e : Env} {s : State} {m : MethodId} {below : List Frame} {meth : Method} {c : Code} {b L : Nat} {xs : Nat → Int32} {GX GM : mm_G} {Rel : mm_S → mm_S → Prop} (C : la_C p s m meth c b L xs GX GM) (h : eq_seed Rel) {i : Nat} (hi : i + 6 ≤ L) {z w : mm_S} {H : Heap} {locs : List Loc} {la : Array Slot} (hRel : Rel z w) (hP : mm_H GX lyTX lyFA lenX snX 46 z H) (hQ : mm_H GM lyTM lyFA lenM snM 22 w H) (hS : va_S (la_A s) s.heap H locs) (hl : lv_has la 4 [(3, .int (nI i)), (2, .ref (GM.1 0)), (1, .ref (GX.1 0)), (0, .ref b)])
    {Q : State → Prop} (next : ∀ (H : Heap) (locs : List Loc) (z w : mm_S), Rel z w → mm_H GX lyTX lyFA lenX snX 46 z H → mm_H GM lyTM lyFA lenM snM 22 w H → va_S (la_A s) s.heap H locs → W p l e room_1 s m #[Value.ref b] below meth c H locs 68 2349 Q (F0 m 1697 la [])) : W p l e room_1 s m #[Value.ref b] below meth c H locs 68 2349 Q (F0 m 1259 la []) := by
  obtain ⟨S, hr, hlk, hX, hbl, hL, hKX, hKM, hroX, hroM, hinjX, hinjM, hne, hadrX, hadrM⟩ := C
  obtain ⟨hx, hb, hml, ho, hts⟩ := id S
  obtain ⟨x, z', w', hfX, hfM, hRel'⟩ := h (xs (i + 1)) z w hRel
  refine lv_aload_n (i := 1) hx hb dl_1259 rfl (lv_at hl 2 rfl) ?_
  refine la_arg (i := i) (jn := 1) hx hb hX hbl hL hS (lv_at hl 3 rfl) (lv_at hl 0 rfl) (by omega) rfl dl_1260 dl_1261 dl_1262 dl_1263 dl_1264 ?_
  refine la_i (la_run S hKX hroX hinjX hadrX M_X3_seed ⟨wv_X3_seed, wz_X3_seed, wi_X3_seed, wc_X3_seed⟩ ll_164 ⟨by decide +kernel, by decide +kernel, by decide +kernel⟩ ⟨rfl, rfl, by decide⟩ ⟨rfl, rfl, by decide, by decide⟩ (a := 0) (n := 1) (as' := [mm_I (xs (i + 1))]) (rest := []) (by simp [mm_ok]; decide +kernel) rfl hfX hP hS hl.1 (Nat.le_of_ble_eq_true rfl) dl_1265) hS hadrX (fun H1 locs1 hP1 hk1 hS1 => ?_)
  have hQ := la_kept hne hQ hk1
  have hP := hP1
  have hS := hS1
  clear hP1 hS1 hk1
  refine lv_aload_n (i := 2) hx hb dl_1268 rfl (lv_at hl 1 rfl) ?_
  refine la_arg (i := i) (jn := 1) hx hb hX hbl hL hS (lv_at hl 3 rfl) (lv_at hl 0 rfl) (by omega) rfl dl_1269 dl_1270 dl_1271 dl_1272 dl_1273 ?_
  refine la_i (la_run S hKM hroM hinjM hadrM M_X4_seed ⟨wv_X4_seed, wz_X4_seed, wi_X4_seed, wc_X4_seed⟩ ll_167 ⟨by decide +kernel, by decide +kernel, by decide +kernel⟩ ⟨rfl, rfl, by decide⟩ ⟨rfl, rfl, by decide, by decide⟩ (a := 0) (n := 1) (as' := [mm_I (xs (i + 1))]) (rest := [.int x]) (by simp [mm_ok]; decide +kernel) rfl hfM hQ hS hl.1 (Nat.le_of_ble_eq_true rfl) dl_1274) hS hadrM (fun H1 locs1 hP1 hk1 hS1 => ?_)
  have hP := la_kept (fun i j h1 h2 => (hne j i h2 h1).symm) hP hk1
  have hQ := hP1
  refine lv_icmp_eq (tgt := 1697) hx hb dl_1277 rfl (fun _ => ?_) (fun q => absurd rfl q)
  exact next H1 locs1 z' w' hRel' hP hQ hS1
def eq_feed (Rel : mm_S → mm_S → Prop) : Prop := ∀ (a1 a2 : Int32) (z w : mm_S), Rel z w → ∃ (x : Int32) (z' w' : mm_S), f_X3_feed [mm_P 3 0, mm_I a1, mm_I a2] z (some (mm_I x), z') ∧ f_X4_feed [mm_P 4 0, mm_I a1, mm_I a2] w (some (mm_I x), w') ∧ Rel z' w'
theorem la_feed_case {p : Program} {l : Launch} {e : Env} {s : State} {m : MethodId} {below : List Frame} {meth : Method} {c : Code} {b L : Nat} {xs : Nat → Int32} {GX GM : mm_G} {Rel : mm_S → mm_S → Prop} (C : la_C p s m meth c b L xs GX GM) (h : eq_feed Rel) {i : Nat} (hi : i + 6 ≤ L) {z w : mm_S} {H : Heap} {locs : List Loc} {la : Array Slot} (hRel : Rel z w) (hP : mm_H GX lyTX lyFA lenX snX 46 z H) (hQ : mm_H GM lyTM lyFA lenM snM 22 w H) (hS : va_S (la_A s) s.heap H locs) (hl : lv_has la 4 [(3, .int (nI i)), (2, .ref (GM.1 0)), (1, .ref (GX.1 0)), (0, .ref b)])
    {Q : State → Prop} (next : ∀ (H : Heap) (locs : List Loc) (z w : mm_S), Rel z w → mm_H GX lyTX lyFA lenX snX 46 z H → mm_H GM lyTM lyFA lenM snM 22 w H → va_S (la_A s) s.heap H locs → W p l e room_1 s m #[Value.ref b] below meth c H locs 68 2349 Q (F0 m 1697 la [])) : W p l e room_1 s m #[Value.ref b] below meth c H locs 68 2349 Q (F0 m 1282 la []) := by
  obtain ⟨S, hr, hlk, hX, hbl, hL, hKX, hKM, hroX, hroM, hinjX, hinjM, hne, hadrX, hadrM⟩ := C
  obtain ⟨hx, hb, hml, ho, hts⟩ := id S
  obtain ⟨x, z', w', hfX, hfM, hRel'⟩ := h (xs (i + 1)) (xs (i + 2)) z w hRel
  refine lv_aload_n (i := 1) hx hb dl_1282 rfl (lv_at hl 2 rfl) ?_
  refine la_arg (i := i) (jn := 1) hx hb hX hbl hL hS (lv_at hl 3 rfl) (lv_at hl 0 rfl) (by omega) rfl dl_1283 dl_1284 dl_1285 dl_1286 dl_1287 ?_
  refine la_arg (i := i) (jn := 2) hx hb hX hbl hL hS (lv_at hl 3 rfl) (lv_at hl 0 rfl) (by omega) rfl dl_1288 dl_1289 dl_1290 dl_1291 dl_1292 ?_
  refine la_i (la_run S hKX hroX hinjX hadrX M_X3_feed ⟨wv_X3_feed, wz_X3_feed, wi_X3_feed, wc_X3_feed⟩ ll_168 ⟨by decide +kernel, by decide +kernel, by decide +kernel⟩ ⟨rfl, rfl, by decide⟩ ⟨rfl, rfl, by decide, by decide⟩ (a := 0) (n := 2) (as' := [mm_I (xs (i + 1)), mm_I (xs (i + 2))]) (rest := []) (by simp [mm_ok]; decide +kernel) rfl hfX hP hS hl.1 (Nat.le_of_ble_eq_true rfl) dl_1293) hS hadrX (fun H1 locs1 hP1 hk1 hS1 => ?_)
  have hQ := la_kept hne hQ hk1
  have hP := hP1
  have hS := hS1
  clear hP1 hS1 hk1
  refine lv_aload_n (i := 2) hx hb dl_1296 rfl (lv_at hl 1 rfl) ?_
  refine la_arg (i := i) (jn := 1) hx hb hX hbl hL hS (lv_at hl 3 rfl) (lv_at hl 0 rfl) (by omega) rfl dl_1297 dl_1298 dl_1299 dl_1300 dl_1301 ?_
  refine la_arg (i := i) (jn := 2) hx hb hX hbl hL hS (lv_at hl 3 rfl) (lv_at hl 0 rfl) (by omega) rfl dl_1302 dl_1303 dl_1304 dl_1305 dl_1306 ?_
  refine la_i (la_run S hKM hroM hinjM hadrM M_X4_feed ⟨wv_X4_feed, wz_X4_feed, wi_X4_feed, wc_X4_feed⟩ ll_171 ⟨by decide +kernel, by decide +kernel, by decide +kernel⟩ ⟨rfl, rfl, by decide⟩ ⟨rfl, rfl, by decide, by decide⟩ (a := 0) (n := 2) (as' := [mm_I (xs (i + 1)), mm_I (xs (i + 2))]) (rest := [.int x]) (by simp [mm_ok]; decide +kernel) rfl hfM hQ hS hl.1 (Nat.le_of_ble_eq_true rfl) dl_1307) hS hadrM (fun H1 locs1 hP1 hk1 hS1 => ?_)
  have hP := la_kept (fun i j h1 h2 => (hne j i h2 h1).symm) hP hk1
  have hQ := hP1
  refine lv_icmp_eq (tgt := 1697) hx hb dl_1310 rfl (fun _ => ?_) (fun q => absurd rfl q)
  exact next H1 locs1 z' w' hRel' hP hQ hS1
def eq_wipe (Rel : mm_S → mm_S → Prop) : Prop := ∀ (z w : mm_S), Rel z w → ∃ (x : Int32) (z' w' : mm_S), f_X3_wipe [mm_P 3 0] z (some (mm_I x), z') ∧ f_X4_wipe [mm_P 4 0] w (some (mm_I x), w') ∧ Rel z' w'
theorem la_wipe_case {p : Program} {l : Launch} {e : Env} {s : State} {m : MethodId} {below : List Frame} {meth : Method} {c : Code} {b L : Nat} {xs : Nat → Int32} {GX GM : mm_G} {Rel : mm_S → mm_S → Prop} (C : la_C p s m meth c b L xs GX GM) (h : eq_wipe Rel) {i : Nat} (hi : i + 6 ≤ L) {z w : mm_S} {H : Heap} {locs : List Loc} {la : Array Slot} (hRel : Rel z w) (hP : mm_H GX lyTX lyFA lenX snX 46 z H) (hQ : mm_H GM lyTM lyFA lenM snM 22 w H) (hS : va_S (la_A s) s.heap H locs) (hl : lv_has la 4 [(3, .int (nI i)), (2, .ref (GM.1 0)), (1, .ref (GX.1 0)), (0, .ref b)])
    {Q : State → Prop} (next : ∀ (H : Heap) (locs : List Loc) (z w : mm_S), Rel z w → mm_H GX lyTX lyFA lenX snX 46 z H → mm_H GM lyTM lyFA lenM snM 22 w H → va_S (la_A s) s.heap H locs → W p l e room_1 s m #[Value.ref b] below meth c H locs 68 2349 Q (F0 m 1697 la [])) : W p l e room_1 s m #[Value.ref b] below meth c H locs 68 2349 Q (F0 m 1315 la []) := by
  obtain ⟨S, hr, hlk, hX, hbl, hL, hKX, hKM, hroX, hroM, hinjX, hinjM, hne, hadrX, hadrM⟩ := C
  obtain ⟨hx, hb, hml, ho, hts⟩ := id S
  obtain ⟨x, z', w', hfX, hfM, hRel'⟩ := h z w hRel
  refine lv_aload_n (i := 1) hx hb dl_1315 rfl (lv_at hl 2 rfl) ?_
  refine la_i (la_run S hKX hroX hinjX hadrX M_X3_wipe ⟨wv_X3_wipe, wz_X3_wipe, wi_X3_wipe, wc_X3_wipe⟩ ll_172 ⟨by decide +kernel, by decide +kernel, by decide +kernel⟩ ⟨rfl, rfl, by decide⟩ ⟨rfl, rfl, by decide, by decide⟩ (a := 0) (n := 0) (as' := []) (rest := []) (by simp [mm_ok]; decide +kernel) rfl hfX hP hS hl.1 (Nat.le_of_ble_eq_true rfl) dl_1316) hS hadrX (fun H1 locs1 hP1 hk1 hS1 => ?_)
  have hQ := la_kept hne hQ hk1
  have hP := hP1
  have hS := hS1
  clear hP1 hS1 hk1
  refine lv_aload_n (i := 2) hx hb dl_1319 rfl (lv_at hl 1 rfl) ?_
  refine la_i (la_run S hKM hroM hinjM hadrM M_X4_wipe ⟨wv_X4_wipe, wz_X4_wipe, wi_X4_wipe, wc_X4_wipe⟩ ll_175 ⟨by decide +kernel, by decide +kernel, by decide +kernel⟩ ⟨rfl, rfl, by decide⟩ ⟨rfl, rfl, by decide, by decide⟩ (a := 0) (n := 0) (as' := []) (rest := [.int x]) (by simp [mm_ok]; decide +kernel) rfl hfM hQ hS hl.1 (Nat.le_of_ble_eq_true rfl) dl_1320) hS hadrM (fun H1 locs1 hP1 hk1 hS1 => ?_)
  have hP := la_kept (fun i j h1 h2 => (hne j i h2 h1).symm) hP hk1
  have hQ := hP1
  refine lv_icmp_eq (tgt := 1697) hx hb dl_1323 rfl (fun _ => ?_) (fun q => absurd rfl q)
  exact next H1 locs1 z' w' hRel' hP hQ hS1
def eq_text (Rel : mm_S → mm_S → Prop) : Prop := ∀ (z w : mm_S), Rel z w → ∃ (x : Int32) (z' w' : mm_S), f_X3_text [mm_P 3 0] z (some (mm_I x), z') ∧ f_X4_text [mm_P 4 0] w (some (mm_I x), w') ∧ Rel z' w'
theorem la_text_case {p : Program} {l : Launch} {e : Env} {s : State} {m : MethodId} {below : List Frame} {meth : Method} {c : Code} {b L : Nat} {xs : Nat → Int32} {GX GM : mm_G} {Rel : mm_S → mm_S → Prop} (C : la_C p s m meth c b L xs GX GM) (h : eq_text Rel) {i : Nat} (hi : i + 6 ≤ L) {z w : mm_S} {H : Heap} {locs : List Loc} {la : Array Slot} (hRel : Rel z w) (hP : mm_H GX lyTX lyFA lenX snX 46 z H) (hQ : mm_H GM lyTM lyFA lenM snM 22 w H) (hS : va_S (la_A s) s.heap H locs) (hl : lv_has la 4 [(3, .int (nI i)), (2, .ref (GM.1 0)), (1, .ref (GX.1 0)), (0, .ref b)])
    {Q : State → Prop} (next : ∀ (H : Heap) (locs : List Loc) (z w : mm_S), Rel z w → mm_H GX lyTX lyFA lenX snX 46 z H → mm_H GM lyTM lyFA lenM snM 22 w H → va_S (la_A s) s.heap H locs → W p l e room_1 s m #[Value.ref b] below meth c H locs 68 2349 Q (F0 m 1697 la [])) : W p l e room_1 s m #[Value.ref b] below meth c H locs 68 2349 Q (F0 m 1328 la []) := by
  obtain ⟨S, hr, hlk, hX, hbl, hL, hKX, hKM, hroX, hroM, hinjX, hinjM, hne, hadrX, hadrM⟩ := C
  obtain ⟨hx, hb, hml, ho, hts⟩ := id S
  obtain ⟨x, z', w', hfX, hfM, hRel'⟩ := h z w hRel
  refine lv_aload_n (i := 1) hx hb dl_1328 rfl (lv_at hl 2 rfl) ?_
  refine la_i (la_run S hKX hroX hinjX hadrX M_X3_text ⟨wv_X3_text, wz_X3_text, wi_X3_text, wc_X3_text⟩ ll_176 ⟨by decide +kernel, by decide +kernel, by decide +kernel⟩ ⟨rfl, rfl, by decide⟩ ⟨rfl, rfl, by decide, by decide⟩ (a := 0) (n := 0) (as' := []) (rest := []) (by simp [mm_ok]; decide +kernel) rfl hfX hP hS hl.1 (Nat.le_of_ble_eq_true rfl) dl_1329) hS hadrX (fun H1 locs1 hP1 hk1 hS1 => ?_)
  have hQ := la_kept hne hQ hk1
  have hP := hP1
  have hS := hS1
  clear hP1 hS1 hk1
  refine lv_aload_n (i := 2) hx hb dl_1332 rfl (lv_at hl 1 rfl) ?_
  refine la_i (la_run S hKM hroM hinjM hadrM M_X4_text ⟨wv_X4_text, wz_X4_text, wi_X4_text, wc_X4_text⟩ ll_179 ⟨by decide +kernel, by decide +kernel, by decide +kernel⟩ ⟨rfl, rfl, by decide⟩ ⟨rfl, rfl, by decide, by decide⟩ (a := 0) (n := 0) (as' := []) (rest := [.int x]) (by simp [mm_ok]; decide +kernel) rfl hfM hQ hS hl.1 (Nat.le_of_ble_eq_true rfl) dl_1333) hS hadrM (fun H1 locs1 hP1 hk1 hS1 => ?_)
  have hP := la_kept (fun i j h1 h2 => (hne j i h2 h1).symm) hP hk1
  have hQ := hP1
  refine lv_icmp_eq (tgt := 1697) hx hb dl_1336 rfl (fun _ => ?_) (fun q => absurd rfl q)
  exact next H1 locs1 z' w' hRel' hP hQ hS1
def eq_hold (Rel : mm_S → mm_S → Prop) : Prop := ∀ (a1 a2 : Int32) (z w : mm_S), Rel z w → ∃ (x : Int32) (z' w' : mm_S), f_X3_hold [mm_P 3 0, mm_I a1, mm_I a2] z (some (mm_I x), z') ∧ f_X4_hold [mm_P 4 0, mm_I a1, mm_I a2] w (some (mm_I x), w') ∧ Rel z' w'
theorem la_hold_case {p : Program} {l : Launch} {e : Env} {s : State} {m : MethodId} {below : List Frame} {meth : Method} {c : Code} {b L : Nat} {xs : Nat → Int32} {GX GM : mm_G} {Rel : mm_S → mm_S → Prop} (C : la_C p s m meth c b L xs GX GM) (h : eq_hold Rel) {i : Nat} (hi : i + 6 ≤ L) {z w : mm_S} {H : Heap} {locs : List Loc} {la : Array Slot} (hRel : Rel z w) (hP : mm_H GX lyTX lyFA lenX snX 46 z H) (hQ : mm_H GM lyTM lyFA lenM snM 22 w H) (hS : va_S (la_A s) s.heap H locs) (hl : lv_has la 4 [(3, .int (nI i)), (2, .ref (GM.1 0)), (1, .ref (GX.1 0)), (0, .ref b)])
    {Q : State → Prop} (next : ∀ (H : Heap) (locs : List Loc) (z w : mm_S), Rel z w → mm_H GX lyTX lyFA lenX snX 46 z H → mm_H GM lyTM lyFA lenM snM 22 w H → va_S (la_A s) s.heap H locs → W p l e room_1 s m #[Value.ref b] below meth c H locs 68 2349 Q (F0 m 1697 la [])) : W p l e room_1 s m #[Value.ref b] below meth c H locs 68 2349 Q (F0 m 1341 la []) := by
  obtain ⟨S, hr, hlk, hX, hbl, hL, hKX, hKM, hroX, hroM, hinjX, hinjM, hne, hadrX, hadrM⟩ := C
  obtain ⟨hx, hb, hml, ho, hts⟩ := id S
  obtain ⟨x, z', w', hfX, hfM, hRel'⟩ := h (xs (i + 1)) (xs (i + 2)) z w hRel
  refine lv_aload_n (i := 1) hx hb dl_1341 rfl (lv_at hl 2 rfl) ?_
  refine la_arg (i := i) (jn := 1) hx hb hX hbl hL hS (lv_at hl 3 rfl) (lv_at hl 0 rfl) (by omega) rfl dl_1342 dl_1343 dl_1344 dl_1345 dl_1346 ?_
  refine la_arg (i := i) (jn := 2) hx hb hX hbl hL hS (lv_at hl 3 rfl) (lv_at hl 0 rfl) (by omega) rfl dl_1347 dl_1348 dl_1349 dl_1350 dl_1351 ?_
  refine la_i (la_run S hKX hroX hinjX hadrX M_X3_hold ⟨wv_X3_hold, wz_X3_hold, wi_X3_hold, wc_X3_hold⟩ ll_180 ⟨by decide +kernel, by decide +kernel, by decide +kernel⟩ ⟨rfl, rfl, by decide⟩ ⟨rfl, rfl, by decide, by decide⟩ (a := 0) (n := 2) (as' := [mm_I (xs (i + 1)), mm_I (xs (i + 2))]) (rest := []) (by simp [mm_ok]; decide +kernel) rfl hfX hP hS hl.1 (Nat.le_of_ble_eq_true rfl) dl_1352) hS hadrX (fun H1 locs1 hP1 hk1 hS1 => ?_)
  have hQ := la_kept hne hQ hk1
  have hP := hP1
  have hS := hS1
  clear hP1 hS1 hk1
  refine lv_aload_n (i := 2) hx hb dl_1355 rfl (lv_at hl 1 rfl) ?_
  refine la_arg (i := i) (jn := 1) hx hb hX hbl hL hS (lv_at hl 3 rfl) (lv_at hl 0 rfl) (by omega) rfl dl_1356 dl_1357 dl_1358 dl_1359 dl_1360 ?_
  refine la_arg (i := i) (jn := 2) hx hb hX hbl hL hS (lv_at hl 3 rfl) (lv_at hl 0 rfl) (by omega) rfl dl_1361 dl_1362 dl_1363 dl_1364 dl_1365 ?_
  refine la_i (la_run S hKM hroM hinjM hadrM M_X4_hold ⟨wv_X4_hold, wz_X4_hold, wi_X4_hold, wc_X4_hold⟩ ll_183 ⟨by decide +kernel, by decide +kernel, by decide +kernel⟩ ⟨rfl, rfl, by decide⟩ ⟨rfl, rfl, by decide, by decide⟩ (a := 0) (n := 2) (as' := [mm_I (xs (i + 1)), mm_I (xs (i + 2))]) (rest := [.int x]) (by simp [mm_ok]; decide +kernel) rfl hfM hQ hS hl.1 (Nat.le_of_ble_eq_true rfl) dl_1366) hS hadrM (fun H1 locs1 hP1 hk1 hS1 => ?_)
  have hP := la_kept (fun i j h1 h2 => (hne j i h2 h1).symm) hP hk1
  have hQ := hP1
  refine lv_icmp_eq (tgt := 1697) hx hb dl_1369 rfl (fun _ => ?_) (fun q => absurd rfl q)
  exact next H1 locs1 z' w' hRel' hP hQ hS1
def eq_as (Rel : mm_S → mm_S → Prop) : Prop := ∀ (a1 a2 : Int32) (z w : mm_S), Rel z w → ∃ (x : Int32) (z' w' : mm_S), f_X3_as [mm_P 3 0, mm_I a1, mm_I a2] z (some (mm_I x), z') ∧ f_X4_as [mm_P 4 0, mm_I a1, mm_I a2] w (some (mm_I x), w') ∧ Rel z' w'
theorem la_as_case {p : Program} {l : Launch} {e : Env} {s : State} {m : MethodId} {below : List Frame} {meth : Method} {c : Code} {b L : Nat} {xs : Nat → Int32} {GX GM : mm_G} {Rel : mm_S → mm_S → Prop} (C : la_C p s m meth c b L xs GX GM) (h : eq_as Rel) {i : Nat} (hi : i + 6 ≤ L) {z w : mm_S} {H : Heap} {locs : List Loc} {la : Array Slot} (hRel : Rel z w) (hP : mm_H GX lyTX lyFA lenX snX 46 z H) (hQ : mm_H GM lyTM lyFA lenM snM 22 w H) (hS : va_S (la_A s) s.heap H locs) (hl : lv_has la 4 [(3, .int (nI i)), (2, .ref (GM.1 0)), (1, .ref (GX.1 0)), (0, .ref b)])
    {Q : State → Prop} (next : ∀ (H : Heap) (locs : List Loc) (z w : mm_S), Rel z w → mm_H GX lyTX lyFA lenX snX 46 z H → mm_H GM lyTM lyFA lenM snM 22 w H → va_S (la_A s) s.heap H locs → W p l e room_1 s m #[Value.ref b] below meth c H locs 68 2349 Q (F0 m 1697 la [])) : W p l e room_1 s m #[Value.ref b] below meth c H locs 68 2349 Q (F0 m 1374 la []) := by
  obtain ⟨S, hr, hlk, hX, hbl, hL, hKX, hKM, hroX, hroM, hinjX, hinjM, hne, hadrX, hadrM⟩ := C
  obtain ⟨hx, hb, hml, ho, hts⟩ := id S
  obtain ⟨x, z', w', hfX, hfM, hRel'⟩ := h (xs (i + 1)) (xs (i + 2)) z w hRel
  refine lv_aload_n (i := 1) hx hb dl_1374 rfl (lv_at hl 2 rfl) ?_
  refine la_arg (i := i) (jn := 1) hx hb hX hbl hL hS (lv_at hl 3 rfl) (lv_at hl 0 rfl) (by omega) rfl dl_1375 dl_1376 dl_1377 dl_1378 dl_1379 ?_
  refine la_arg (i := i) (jn := 2) hx hb hX hbl hL hS (lv_at hl 3 rfl) (lv_at hl 0 rfl) (by omega) rfl dl_1380 dl_1381 dl_1382 dl_1383 dl_1384 ?_
  refine la_i (la_run S hKX hroX hinjX hadrX M_X3_as ⟨wv_X3_as, wz_X3_as, wi_X3_as, wc_X3_as⟩ ll_184 ⟨by decide +kernel, by decide +kernel, by decide +kernel⟩ ⟨rfl, rfl, by decide⟩ ⟨rfl, rfl, by decide, by decide⟩ (a := 0) (n := 2) (as' := [mm_I (xs (i + 1)), mm_I (xs (i + 2))]) (rest := []) (by simp [mm_ok]; decide +kernel) rfl hfX hP hS hl.1 (Nat.le_of_ble_eq_true rfl) dl_1385) hS hadrX (fun H1 locs1 hP1 hk1 hS1 => ?_)
  have hQ := la_kept hne hQ hk1
  have hP := hP1
  have hS := hS1
  clear hP1 hS1 hk1
  refine lv_aload_n (i := 2) hx hb dl_1388 rfl (lv_at hl 1 rfl) ?_
  refine la_arg (i := i) (jn := 1) hx hb hX hbl hL hS (lv_at hl 3 rfl) (lv_at hl 0 rfl) (by omega) rfl dl_1389 dl_1390 dl_1391 dl_1392 dl_1393 ?_
  refine la_arg (i := i) (jn := 2) hx hb hX hbl hL hS (lv_at hl 3 rfl) (lv_at hl 0 rfl) (by omega) rfl dl_1394 dl_1395 dl_1396 dl_1397 dl_1398 ?_
  refine la_i (la_run S hKM hroM hinjM hadrM M_X4_as ⟨wv_X4_as, wz_X4_as, wi_X4_as, wc_X4_as⟩ ll_187 ⟨by decide +kernel, by decide +kernel, by decide +kernel⟩ ⟨rfl, rfl, by decide⟩ ⟨rfl, rfl, by decide, by decide⟩ (a := 0) (n := 2) (as' := [mm_I (xs (i + 1)), mm_I (xs (i + 2))]) (rest := [.int x]) (by simp [mm_ok]; decide +kernel) rfl hfM hQ hS hl.1 (Nat.le_of_ble_eq_true rfl) dl_1399) hS hadrM (fun H1 locs1 hP1 hk1 hS1 => ?_)
  have hP := la_kept (fun i j h1 h2 => (hne j i h2 h1).symm) hP hk1
  have hQ := hP1
  refine lv_icmp_eq (tgt := 1697) hx hb dl_1402 rfl (fun _ => ?_) (fun q => absurd rfl q)
  exact next H1 locs1 z' w' hRel' hP hQ hS1
def eq_sheet (Rel : mm_S → mm_S → Prop) : Prop := ∀ (a1 a2 a3 : Int32) (z w : mm_S), Rel z w → ∃ (x : Int32) (z' w' : mm_S), f_X3_sheet [mm_P 3 0, mm_I a1, mm_I a2, mm_I a3] z (some (mm_I x), z') ∧ f_X4_sheet [mm_P 4 0, mm_I a1, mm_I a2, mm_I a3] w (some (mm_I x), w') ∧ Rel z' w'
theorem la_sheet_case {p : Program} {l : Launch} {e : Env} {s : State} {m : MethodId} {below : List Frame} {meth : Method} {c : Code} {b L : Nat} {xs : Nat → Int32} {GX GM : mm_G} {Rel : mm_S → mm_S → Prop} (C : la_C p s m meth c b L xs GX GM) (h : eq_sheet Rel) {i : Nat} (hi : i + 6 ≤ L) {z w : mm_S} {H : Heap} {locs : List Loc} {la : Array Slot} (hRel : Rel z w) (hP : mm_H GX lyTX lyFA lenX snX 46 z H) (hQ : mm_H GM lyTM lyFA lenM snM 22 w H) (hS : va_S (la_A s) s.heap H locs) (hl : lv_has la 4 [(3, .int (nI i)), (2, .ref (GM.1 0)), (1, .ref (GX.1 0)), (0, .ref b)])
    {Q : State → Prop} (next : ∀ (H : Heap) (locs : List Loc) (z w : mm_S), Rel z w → mm_H GX lyTX lyFA lenX snX 46 z H → mm_H GM lyTM lyFA lenM snM 22 w H → va_S (la_A s) s.heap H locs → W p l e room_1 s m #[Value.ref b] below meth c H locs 68 2349 Q (F0 m 1697 la [])) : W p l e room_1 s m #[Value.ref b] below meth c H locs 68 2349 Q (F0 m 1407 la []) := by
  obtain ⟨S, hr, hlk, hX, hbl, hL, hKX, hKM, hroX, hroM, hinjX, hinjM, hne, hadrX, hadrM⟩ := C
  obtain ⟨hx, hb, hml, ho, hts⟩ := id S
  obtain ⟨x, z', w', hfX, hfM, hRel'⟩ := h (xs (i + 1)) (xs (i + 2)) (xs (i + 3)) z w hRel
  refine lv_aload_n (i := 1) hx hb dl_1407 rfl (lv_at hl 2 rfl) ?_
  refine la_arg (i := i) (jn := 1) hx hb hX hbl hL hS (lv_at hl 3 rfl) (lv_at hl 0 rfl) (by omega) rfl dl_1408 dl_1409 dl_1410 dl_1411 dl_1412 ?_
  refine la_arg (i := i) (jn := 2) hx hb hX hbl hL hS (lv_at hl 3 rfl) (lv_at hl 0 rfl) (by omega) rfl dl_1413 dl_1414 dl_1415 dl_1416 dl_1417 ?_
  refine la_arg (i := i) (jn := 3) hx hb hX hbl hL hS (lv_at hl 3 rfl) (lv_at hl 0 rfl) (by omega) rfl dl_1418 dl_1419 dl_1420 dl_1421 dl_1422 ?_
  refine la_i (la_run S hKX hroX hinjX hadrX M_X3_sheet ⟨wv_X3_sheet, wz_X3_sheet, wi_X3_sheet, wc_X3_sheet⟩ ll_188 ⟨by decide +kernel, by decide +kernel, by decide +kernel⟩ ⟨rfl, rfl, by decide⟩ ⟨rfl, rfl, by decide, by decide⟩ (a := 0) (n := 3) (as' := [mm_I (xs (i + 1)), mm_I (xs (i + 2)), mm_I (xs (i + 3))]) (rest := []) (by simp [mm_ok]; decide +kernel) rfl hfX hP hS hl.1 (Nat.le_of_ble_eq_true rfl) dl_1423) hS hadrX (fun H1 locs1 hP1 hk1 hS1 => ?_)
  have hQ := la_kept hne hQ hk1
  have hP := hP1
  have hS := hS1
  clear hP1 hS1 hk1
  refine lv_aload_n (i := 2) hx hb dl_1426 rfl (lv_at hl 1 rfl) ?_
  refine la_arg (i := i) (jn := 1) hx hb hX hbl hL hS (lv_at hl 3 rfl) (lv_at hl 0 rfl) (by omega) rfl dl_1427 dl_1428 dl_1429 dl_1430 dl_1431 ?_
  refine la_arg (i := i) (jn := 2) hx hb hX hbl hL hS (lv_at hl 3 rfl) (lv_at hl 0 rfl) (by omega) rfl dl_1432 dl_1433 dl_1434 dl_1435 dl_1436 ?_
  refine la_arg (i := i) (jn := 3) hx hb hX hbl hL hS (lv_at hl 3 rfl) (lv_at hl 0 rfl) (by omega) rfl dl_1437 dl_1438 dl_1439 dl_1440 dl_1441 ?_
  refine la_i (la_run S hKM hroM hinjM hadrM M_X4_sheet ⟨wv_X4_sheet, wz_X4_sheet, wi_X4_sheet, wc_X4_sheet⟩ ll_191 ⟨by decide +kernel, by decide +kernel, by decide +kernel⟩ ⟨rfl, rfl, by decide⟩ ⟨rfl, rfl, by decide, by decide⟩ (a := 0) (n := 3) (as' := [mm_I (xs (i + 1)), mm_I (xs (i + 2)), mm_I (xs (i + 3))]) (rest := [.int x]) (by simp [mm_ok]; decide +kernel) rfl hfM hQ hS hl.1 (Nat.le_of_ble_eq_true rfl) dl_1442) hS hadrM (fun H1 locs1 hP1 hk1 hS1 => ?_)
  have hP := la_kept (fun i j h1 h2 => (hne j i h2 h1).symm) hP hk1
  have hQ := hP1
  refine lv_icmp_eq (tgt := 1697) hx hb dl_1445 rfl (fun _ => ?_) (fun q => absurd rfl q)
  exact next H1 locs1 z' w' hRel' hP hQ hS1
def eq_write (Rel : mm_S → mm_S → Prop) : Prop := ∀ (a1 a2 a3 : Int32) (z w : mm_S), Rel z w → ∃ (x : Int32) (z' w' : mm_S), f_X3_write [mm_P 3 0, mm_I a1, mm_I a2, mm_I a3] z (some (mm_I x), z') ∧ f_X4_write [mm_P 4 0, mm_I a1, mm_I a2, mm_I a3] w (some (mm_I x), w') ∧ Rel z' w'
theorem la_write_case {p : Program} {l : Launch} {e : Env} {s : State} {m : MethodId} {below : List Frame} {meth : Method} {c : Code} {b L : Nat} {xs : Nat → Int32} {GX GM : mm_G} {Rel : mm_S → mm_S → Prop} (C : la_C p s m meth c b L xs GX GM) (h : eq_write Rel) {i : Nat} (hi : i + 6 ≤ L) {z w : mm_S} {H : Heap} {locs : List Loc} {la : Array Slot} (hRel : Rel z w) (hP : mm_H GX lyTX lyFA lenX snX 46 z H) (hQ : mm_H GM lyTM lyFA lenM snM 22 w H) (hS : va_S (la_A s) s.heap H locs) (hl : lv_has la 4 [(3, .int (nI i)), (2, .ref (GM.1 0)), (1, .ref (GX.1 0)), (0, .ref b)])
    {Q : State → Prop} (next : ∀ (H : Heap) (locs : List Loc) (z w : mm_S), Rel z w → mm_H GX lyTX lyFA lenX snX 46 z H → mm_H GM lyTM lyFA lenM snM 22 w H → va_S (la_A s) s.heap H locs → W p l e room_1 s m #[Value.ref b] below meth c H locs 68 2349 Q (F0 m 1697 la [])) : W p l e room_1 s m #[Value.ref b] below meth c H locs 68 2349 Q (F0 m 1450 la []) := by
  obtain ⟨S, hr, hlk, hX, hbl, hL, hKX, hKM, hroX, hroM, hinjX, hinjM, hne, hadrX, hadrM⟩ := C
  obtain ⟨hx, hb, hml, ho, hts⟩ := id S
  obtain ⟨x, z', w', hfX, hfM, hRel'⟩ := h (xs (i + 1)) (xs (i + 2)) (xs (i + 3)) z w hRel
  refine lv_aload_n (i := 1) hx hb dl_1450 rfl (lv_at hl 2 rfl) ?_
  refine la_arg (i := i) (jn := 1) hx hb hX hbl hL hS (lv_at hl 3 rfl) (lv_at hl 0 rfl) (by omega) rfl dl_1451 dl_1452 dl_1453 dl_1454 dl_1455 ?_
  refine la_arg (i := i) (jn := 2) hx hb hX hbl hL hS (lv_at hl 3 rfl) (lv_at hl 0 rfl) (by omega) rfl dl_1456 dl_1457 dl_1458 dl_1459 dl_1460 ?_
  refine la_arg (i := i) (jn := 3) hx hb hX hbl hL hS (lv_at hl 3 rfl) (lv_at hl 0 rfl) (by omega) rfl dl_1461 dl_1462 dl_1463 dl_1464 dl_1465 ?_
  refine la_i (la_run S hKX hroX hinjX hadrX M_X3_write ⟨wv_X3_write, wz_X3_write, wi_X3_write, wc_X3_write⟩ ll_192 ⟨by decide +kernel, by decide +kernel, by decide +kernel⟩ ⟨rfl, rfl, by decide⟩ ⟨rfl, rfl, by decide, by decide⟩ (a := 0) (n := 3) (as' := [mm_I (xs (i + 1)), mm_I (xs (i + 2)), mm_I (xs (i + 3))]) (rest := []) (by simp [mm_ok]; decide +kernel) rfl hfX hP hS hl.1 (Nat.le_of_ble_eq_true rfl) dl_1466) hS hadrX (fun H1 locs1 hP1 hk1 hS1 => ?_)
  have hQ := la_kept hne hQ hk1
  have hP := hP1
  have hS := hS1
  clear hP1 hS1 hk1
  refine lv_aload_n (i := 2) hx hb dl_1469 rfl (lv_at hl 1 rfl) ?_
  refine la_arg (i := i) (jn := 1) hx hb hX hbl hL hS (lv_at hl 3 rfl) (lv_at hl 0 rfl) (by omega) rfl dl_1470 dl_1471 dl_1472 dl_1473 dl_1474 ?_
  refine la_arg (i := i) (jn := 2) hx hb hX hbl hL hS (lv_at hl 3 rfl) (lv_at hl 0 rfl) (by omega) rfl dl_1475 dl_1476 dl_1477 dl_1478 dl_1479 ?_
  refine la_arg (i := i) (jn := 3) hx hb hX hbl hL hS (lv_at hl 3 rfl) (lv_at hl 0 rfl) (by omega) rfl dl_1480 dl_1481 dl_1482 dl_1483 dl_1484 ?_
  refine la_i (la_run S hKM hroM hinjM hadrM M_X4_write ⟨wv_X4_write, wz_X4_write, wi_X4_write, wc_X4_write⟩ ll_195 ⟨by decide +kernel, by decide +kernel, by decide +kernel⟩ ⟨rfl, rfl, by decide⟩ ⟨rfl, rfl, by decide, by decide⟩ (a := 0) (n := 3) (as' := [mm_I (xs (i + 1)), mm_I (xs (i + 2)), mm_I (xs (i + 3))]) (rest := [.int x]) (by simp [mm_ok]; decide +kernel) rfl hfM hQ hS hl.1 (Nat.le_of_ble_eq_true rfl) dl_1485) hS hadrM (fun H1 locs1 hP1 hk1 hS1 => ?_)
  have hP := la_kept (fun i j h1 h2 => (hne j i h2 h1).symm) hP hk1
  have hQ := hP1
  refine lv_icmp_eq (tgt := 1697) hx hb dl_1488 rfl (fun _ => ?_) (fun q => absurd rfl q)
  exact next H1 locs1 z' w' hRel' hP hQ hS1
def eq_copy (Rel : mm_S → mm_S → Prop) : Prop := ∀ (a1 a2 a3 a4 a5 : Int32) (z w : mm_S), Rel z w → ∃ (x : Int32) (z' w' : mm_S), f_X3_copy [mm_P 3 0, mm_I a1, mm_I a2, mm_I a3, mm_I a4, mm_I a5] z (some (mm_I x), z') ∧ f_X4_copy [mm_P 4 0, mm_I a1, mm_I a2, mm_I a3, mm_I a4, mm_I a5] w (some (mm_I x), w') ∧ Rel z' w'
theorem la_copy_case {p : Program} {l : Launch} {e : Env} {s : State} {m : MethodId} {below : List Frame} {meth : Method} {c : Code} {b L : Nat} {xs : Nat → Int32} {GX GM : mm_G} {Rel : mm_S → mm_S → Prop} (C : la_C p s m meth c b L xs GX GM) (h : eq_copy Rel) {i : Nat} (hi : i + 6 ≤ L) {z w : mm_S} {H : Heap} {locs : List Loc} {la : Array Slot} (hRel : Rel z w) (hP : mm_H GX lyTX lyFA lenX snX 46 z H) (hQ : mm_H GM lyTM lyFA lenM snM 22 w H) (hS : va_S (la_A s) s.heap H locs) (hl : lv_has la 4 [(3, .int (nI i)), (2, .ref (GM.1 0)), (1, .ref (GX.1 0)), (0, .ref b)])
    {Q : State → Prop} (next : ∀ (H : Heap) (locs : List Loc) (z w : mm_S), Rel z w → mm_H GX lyTX lyFA lenX snX 46 z H → mm_H GM lyTM lyFA lenM snM 22 w H → va_S (la_A s) s.heap H locs → W p l e room_1 s m #[Value.ref b] below meth c H locs 68 2349 Q (F0 m 1697 la [])) : W p l e room_1 s m #[Value.ref b] below meth c H locs 68 2349 Q (F0 m 1493 la []) := by
  obtain ⟨S, hr, hlk, hX, hbl, hL, hKX, hKM, hroX, hroM, hinjX, hinjM, hne, hadrX, hadrM⟩ := C
  obtain ⟨hx, hb, hml, ho, hts⟩ := id S
  obtain ⟨x, z', w', hfX, hfM, hRel'⟩ := h (xs (i + 1)) (xs (i + 2)) (xs (i + 3)) (xs (i + 4)) (xs (i + 5)) z w hRel
  refine lv_aload_n (i := 1) hx hb dl_1493 rfl (lv_at hl 2 rfl) ?_
  refine la_arg (i := i) (jn := 1) hx hb hX hbl hL hS (lv_at hl 3 rfl) (lv_at hl 0 rfl) (by omega) rfl dl_1494 dl_1495 dl_1496 dl_1497 dl_1498 ?_
  refine la_arg (i := i) (jn := 2) hx hb hX hbl hL hS (lv_at hl 3 rfl) (lv_at hl 0 rfl) (by omega) rfl dl_1499 dl_1500 dl_1501 dl_1502 dl_1503 ?_
  refine la_arg (i := i) (jn := 3) hx hb hX hbl hL hS (lv_at hl 3 rfl) (lv_at hl 0 rfl) (by omega) rfl dl_1504 dl_1505 dl_1506 dl_1507 dl_1508 ?_
  refine la_arg (i := i) (jn := 4) hx hb hX hbl hL hS (lv_at hl 3 rfl) (lv_at hl 0 rfl) (by omega) rfl dl_1509 dl_1510 dl_1511 dl_1512 dl_1513 ?_
  refine la_arg (i := i) (jn := 5) hx hb hX hbl hL hS (lv_at hl 3 rfl) (lv_at hl 0 rfl) (by omega) rfl dl_1514 dl_1515 dl_1516 dl_1517 dl_1518 ?_
  refine la_i (la_run S hKX hroX hinjX hadrX M_X3_copy ⟨wv_X3_copy, wz_X3_copy, wi_X3_copy, wc_X3_copy⟩ ll_196 ⟨by decide +kernel, by decide +kernel, by decide +kernel⟩ ⟨rfl, rfl, by decide⟩ ⟨rfl, rfl, by decide, by decide⟩ (a := 0) (n := 5) (as' := [mm_I (xs (i + 1)), mm_I (xs (i + 2)), mm_I (xs (i + 3)), mm_I (xs (i + 4)), mm_I (xs (i + 5))]) (rest := []) (by simp [mm_ok]; decide +kernel) rfl hfX hP hS hl.1 (Nat.le_of_ble_eq_true rfl) dl_1519) hS hadrX (fun H1 locs1 hP1 hk1 hS1 => ?_)
  have hQ := la_kept hne hQ hk1
  have hP := hP1
  have hS := hS1
  clear hP1 hS1 hk1
  refine lv_aload_n (i := 2) hx hb dl_1522 rfl (lv_at hl 1 rfl) ?_
  refine la_arg (i := i) (jn := 1) hx hb hX hbl hL hS (lv_at hl 3 rfl) (lv_at hl 0 rfl) (by omega) rfl dl_1523 dl_1524 dl_1525 dl_1526 dl_1527 ?_
  refine la_arg (i := i) (jn := 2) hx hb hX hbl hL hS (lv_at hl 3 rfl) (lv_at hl 0 rfl) (by omega) rfl dl_1528 dl_1529 dl_1530 dl_1531 dl_1532 ?_
  refine la_arg (i := i) (jn := 3) hx hb hX hbl hL hS (lv_at hl 3 rfl) (lv_at hl 0 rfl) (by omega) rfl dl_1533 dl_1534 dl_1535 dl_1536 dl_1537 ?_
  refine la_arg (i := i) (jn := 4) hx hb hX hbl hL hS (lv_at hl 3 rfl) (lv_at hl 0 rfl) (by omega) rfl dl_1538 dl_1539 dl_1540 dl_1541 dl_1542 ?_
  refine la_arg (i := i) (jn := 5) hx hb hX hbl hL hS (lv_at hl 3 rfl) (lv_at hl 0 rfl) (by omega) rfl dl_1543 dl_1544 dl_1545 dl_1546 dl_1547 ?_
  refine la_i (la_run S hKM hroM hinjM hadrM M_X4_copy ⟨wv_X4_copy, wz_X4_copy, wi_X4_copy, wc_X4_copy⟩ ll_200 ⟨by decide +kernel, by decide +kernel, by decide +kernel⟩ ⟨rfl, rfl, by decide⟩ ⟨rfl, rfl, by decide, by decide⟩ (a := 0) (n := 5) (as' := [mm_I (xs (i + 1)), mm_I (xs (i + 2)), mm_I (xs (i + 3)), mm_I (xs (i + 4)), mm_I (xs (i + 5))]) (rest := [.int x]) (by simp [mm_ok]; decide +kernel) rfl hfM hQ hS hl.1 (Nat.le_of_ble_eq_true rfl) dl_1548) hS hadrM (fun H1 locs1 hP1 hk1 hS1 => ?_)
  have hP := la_kept (fun i j h1 h2 => (hne j i h2 h1).symm) hP hk1
  have hQ := hP1
  refine lv_icmp_eq (tgt := 1697) hx hb dl_1551 rfl (fun _ => ?_) (fun q => absurd rfl q)
  exact next H1 locs1 z' w' hRel' hP hQ hS1
def eq_load (Rel : mm_S → mm_S → Prop) : Prop := ∀ (a1 : Int32) (z w : mm_S), Rel z w → ∃ (x : Int32) (z' w' : mm_S), f_X3_load [mm_P 3 0, mm_I a1] z (some (mm_I x), z') ∧ f_X4_load [mm_P 4 0, mm_I a1] w (some (mm_I x), w') ∧ Rel z' w'
theorem la_load_case {p : Program} {l : Launch} {e : Env} {s : State} {m : MethodId} {below : List Frame} {meth : Method} {c : Code} {b L : Nat} {xs : Nat → Int32} {GX GM : mm_G} {Rel : mm_S → mm_S → Prop} (C : la_C p s m meth c b L xs GX GM) (h : eq_load Rel) {i : Nat} (hi : i + 6 ≤ L) {z w : mm_S} {H : Heap} {locs : List Loc} {la : Array Slot} (hRel : Rel z w) (hP : mm_H GX lyTX lyFA lenX snX 46 z H) (hQ : mm_H GM lyTM lyFA lenM snM 22 w H) (hS : va_S (la_A s) s.heap H locs) (hl : lv_has la 4 [(3, .int (nI i)), (2, .ref (GM.1 0)), (1, .ref (GX.1 0)), (0, .ref b)])
    {Q : State → Prop} (next : ∀ (H : Heap) (locs : List Loc) (z w : mm_S), Rel z w → mm_H GX lyTX lyFA lenX snX 46 z H → mm_H GM lyTM lyFA lenM snM 22 w H → va_S (la_A s) s.heap H locs → W p l e room_1 s m #[Value.ref b] below meth c H locs 68 2349 Q (F0 m 1697 la [])) : W p l e room_1 s m #[Value.ref b] below meth c H locs 68 2349 Q (F0 m 1556 la []) := by
  obtain ⟨S, hr, hlk, hX, hbl, hL, hKX, hKM, hroX, hroM, hinjX, hinjM, hne, hadrX, hadrM⟩ := C
  obtain ⟨hx, hb, hml, ho, hts⟩ := id S
  obtain ⟨x, z', w', hfX, hfM, hRel'⟩ := h (xs (i + 1)) z w hRel
  refine lv_aload_n (i := 1) hx hb dl_1556 rfl (lv_at hl 2 rfl) ?_
  refine la_arg (i := i) (jn := 1) hx hb hX hbl hL hS (lv_at hl 3 rfl) (lv_at hl 0 rfl) (by omega) rfl dl_1557 dl_1558 dl_1559 dl_1560 dl_1561 ?_
  refine la_i (la_run S hKX hroX hinjX hadrX M_X3_load ⟨wv_X3_load, wz_X3_load, wi_X3_load, wc_X3_load⟩ ll_201 ⟨by decide +kernel, by decide +kernel, by decide +kernel⟩ ⟨rfl, rfl, by decide⟩ ⟨rfl, rfl, by decide, by decide⟩ (a := 0) (n := 1) (as' := [mm_I (xs (i + 1))]) (rest := []) (by simp [mm_ok]; decide +kernel) rfl hfX hP hS hl.1 (Nat.le_of_ble_eq_true rfl) dl_1562) hS hadrX (fun H1 locs1 hP1 hk1 hS1 => ?_)
  have hQ := la_kept hne hQ hk1
  have hP := hP1
  have hS := hS1
  clear hP1 hS1 hk1
  refine lv_aload_n (i := 2) hx hb dl_1565 rfl (lv_at hl 1 rfl) ?_
  refine la_arg (i := i) (jn := 1) hx hb hX hbl hL hS (lv_at hl 3 rfl) (lv_at hl 0 rfl) (by omega) rfl dl_1566 dl_1567 dl_1568 dl_1569 dl_1570 ?_
  refine la_i (la_run S hKM hroM hinjM hadrM M_X4_load ⟨wv_X4_load, wz_X4_load, wi_X4_load, wc_X4_load⟩ ll_204 ⟨by decide +kernel, by decide +kernel, by decide +kernel⟩ ⟨rfl, rfl, by decide⟩ ⟨rfl, rfl, by decide, by decide⟩ (a := 0) (n := 1) (as' := [mm_I (xs (i + 1))]) (rest := [.int x]) (by simp [mm_ok]; decide +kernel) rfl hfM hQ hS hl.1 (Nat.le_of_ble_eq_true rfl) dl_1571) hS hadrM (fun H1 locs1 hP1 hk1 hS1 => ?_)
  have hP := la_kept (fun i j h1 h2 => (hne j i h2 h1).symm) hP hk1
  have hQ := hP1
  refine lv_icmp_eq (tgt := 1697) hx hb dl_1574 rfl (fun _ => ?_) (fun q => absurd rfl q)
  exact next H1 locs1 z' w' hRel' hP hQ hS1
def eq_judge (Rel : mm_S → mm_S → Prop) : Prop := ∀ (a1 a2 : Int32) (z w : mm_S), Rel z w → ∃ (x : Int32) (z' w' : mm_S), f_X3_judge [mm_P 3 0, mm_I a1, mm_I a2] z (some (mm_I x), z') ∧ f_X4_judge [mm_P 4 0, mm_I a1, mm_I a2] w (some (mm_I x), w') ∧ Rel z' w'
theorem la_judge_case {p : Program} {l : Launch} {e : Env} {s : State} {m : MethodId} {below : List Frame} {meth : Method} {c : Code} {b L : Nat} {xs : Nat → Int32} {GX GM : mm_G} {Rel : mm_S → mm_S → Prop} (C : la_C p s m meth c b L xs GX GM) (h : eq_judge Rel) {i : Nat} (hi : i + 6 ≤ L) {z w : mm_S} {H : Heap} {locs : List Loc} {la : Array Slot} (hRel : Rel z w) (hP : mm_H GX lyTX lyFA lenX snX 46 z H) (hQ : mm_H GM lyTM lyFA lenM snM 22 w H) (hS : va_S (la_A s) s.heap H locs) (hl : lv_has la 4 [(3, .int (nI i)), (2, .ref (GM.1 0)), (1, .ref (GX.1 0)), (0, .ref b)])
    {Q : State → Prop} (next : ∀ (H : Heap) (locs : List Loc) (z w : mm_S), Rel z w → mm_H GX lyTX lyFA lenX snX 46 z H → mm_H GM lyTM lyFA lenM snM 22 w H → va_S (la_A s) s.heap H locs → W p l e room_1 s m #[Value.ref b] below meth c H locs 68 2349 Q (F0 m 1697 la [])) : W p l e room_1 s m #[Value.ref b] below meth c H locs 68 2349 Q (F0 m 1579 la []) := by
  obtain ⟨S, hr, hlk, hX, hbl, hL, hKX, hKM, hroX, hroM, hinjX, hinjM, hne, hadrX, hadrM⟩ := C
  obtain ⟨hx, hb, hml, ho, hts⟩ := id S
  obtain ⟨x, z', w', hfX, hfM, hRel'⟩ := h (xs (i + 1)) (xs (i + 2)) z w hRel
  refine lv_aload_n (i := 1) hx hb dl_1579 rfl (lv_at hl 2 rfl) ?_
  refine la_arg (i := i) (jn := 1) hx hb hX hbl hL hS (lv_at hl 3 rfl) (lv_at hl 0 rfl) (by omega) rfl dl_1580 dl_1581 dl_1582 dl_1583 dl_1584 ?_
  refine la_arg (i := i) (jn := 2) hx hb hX hbl hL hS (lv_at hl 3 rfl) (lv_at hl 0 rfl) (by omega) rfl dl_1585 dl_1586 dl_1587 dl_1588 dl_1589 ?_
  refine la_i (la_run S hKX hroX hinjX hadrX M_X3_judge ⟨wv_X3_judge, wz_X3_judge, wi_X3_judge, wc_X3_judge⟩ ll_205 ⟨by decide +kernel, by decide +kernel, by decide +kernel⟩ ⟨rfl, rfl, by decide⟩ ⟨rfl, rfl, by decide, by decide⟩ (a := 0) (n := 2) (as' := [mm_I (xs (i + 1)), mm_I (xs (i + 2))]) (rest := []) (by simp [mm_ok]; decide +kernel) rfl hfX hP hS hl.1 (Nat.le_of_ble_eq_true rfl) dl_1590) hS hadrX (fun H1 locs1 hP1 hk1 hS1 => ?_)
  have hQ := la_kept hne hQ hk1
  have hP := hP1
  have hS := hS1
  clear hP1 hS1 hk1
  refine lv_aload_n (i := 2) hx hb dl_1593 rfl (lv_at hl 1 rfl) ?_
  refine la_arg (i := i) (jn := 1) hx hb hX hbl hL hS (lv_at hl 3 rfl) (lv_at hl 0 rfl) (by omega) rfl dl_1594 dl_1595 dl_1596 dl_1597 dl_1598 ?_
  refine la_arg (i := i) (jn := 2) hx hb hX hbl hL hS (lv_at hl 3 rfl) (lv_at hl 0 rfl) (by omega) rfl dl_1599 dl_1600 dl_1601 dl_1602 dl_1603 ?_
  refine la_i (la_run S hKM hroM hinjM hadrM M_X4_judge ⟨wv_X4_judge, wz_X4_judge, wi_X4_judge, wc_X4_judge⟩ ll_208 ⟨by decide +kernel, by decide +kernel, by decide +kernel⟩ ⟨rfl, rfl, by decide⟩ ⟨rfl, rfl, by decide, by decide⟩ (a := 0) (n := 2) (as' := [mm_I (xs (i + 1)), mm_I (xs (i + 2))]) (rest := [.int x]) (by simp [mm_ok]; decide +kernel) rfl hfM hQ hS hl.1 (Nat.le_of_ble_eq_true rfl) dl_1604) hS hadrM (fun H1 locs1 hP1 hk1 hS1 => ?_)
  have hP := la_kept (fun i j h1 h2 => (hne j i h2 h1).symm) hP hk1
  have hQ := hP1
  refine lv_icmp_eq (tgt := 1697) hx hb dl_1607 rfl (fun _ => ?_) (fun q => absurd rfl q)
  exact next H1 locs1 z' w' hRel' hP hQ hS1
def eq_image (Rel : mm_S → mm_S → Prop) : Prop := ∀ (z w : mm_S), Rel z w → ∃ (x : Int32) (z' w' : mm_S), f_X3_image [mm_P 3 0] z (some (mm_I x), z') ∧ f_X4_image [mm_P 4 0] w (some (mm_I x), w') ∧ Rel z' w'
theorem la_image_case {p : Program} {l : Launch} {e : Env} {s : State} {m : MethodId} {below : List Frame} {meth : Method} {c : Code} {b L : Nat} {xs : Nat → Int32} {GX GM : mm_G} {Rel : mm_S → mm_S → Prop} (C : la_C p s m meth c b L xs GX GM) (h : eq_image Rel) {i : Nat} (hi : i + 6 ≤ L) {z w : mm_S} {H : Heap} {locs : List Loc} {la : Array Slot} (hRel : Rel z w) (hP : mm_H GX lyTX lyFA lenX snX 46 z H) (hQ : mm_H GM lyTM lyFA lenM snM 22 w H) (hS : va_S (la_A s) s.heap H locs) (hl : lv_has la 4 [(3, .int (nI i)), (2, .ref (GM.1 0)), (1, .ref (GX.1 0)), (0, .ref b)])
    {Q : State → Prop} (next : ∀ (H : Heap) (locs : List Loc) (z w : mm_S), Rel z w → mm_H GX lyTX lyFA lenX snX 46 z H → mm_H GM lyTM lyFA lenM snM 22 w H → va_S (la_A s) s.heap H locs → W p l e room_1 s m #[Value.ref b] below meth c H locs 68 2349 Q (F0 m 1697 la [])) : W p l e room_1 s m #[Value.ref b] below meth c H locs 68 2349 Q (F0 m 1612 la []) := by
  obtain ⟨S, hr, hlk, hX, hbl, hL, hKX, hKM, hroX, hroM, hinjX, hinjM, hne, hadrX, hadrM⟩ := C
  obtain ⟨hx, hb, hml, ho, hts⟩ := id S
  obtain ⟨x, z', w', hfX, hfM, hRel'⟩ := h z w hRel
  refine lv_aload_n (i := 1) hx hb dl_1612 rfl (lv_at hl 2 rfl) ?_
  refine la_i (la_run S hKX hroX hinjX hadrX M_X3_image ⟨wv_X3_image, wz_X3_image, wi_X3_image, wc_X3_image⟩ ll_209 ⟨by decide +kernel, by decide +kernel, by decide +kernel⟩ ⟨rfl, rfl, by decide⟩ ⟨rfl, rfl, by decide, by decide⟩ (a := 0) (n := 0) (as' := []) (rest := []) (by simp [mm_ok]; decide +kernel) rfl hfX hP hS hl.1 (Nat.le_of_ble_eq_true rfl) dl_1613) hS hadrX (fun H1 locs1 hP1 hk1 hS1 => ?_)
  have hQ := la_kept hne hQ hk1
  have hP := hP1
  have hS := hS1
  clear hP1 hS1 hk1
  refine lv_aload_n (i := 2) hx hb dl_1616 rfl (lv_at hl 1 rfl) ?_
  refine la_i (la_run S hKM hroM hinjM hadrM M_X4_image ⟨wv_X4_image, wz_X4_image, wi_X4_image, wc_X4_image⟩ ll_212 ⟨by decide +kernel, by decide +kernel, by decide +kernel⟩ ⟨rfl, rfl, by decide⟩ ⟨rfl, rfl, by decide, by decide⟩ (a := 0) (n := 0) (as' := []) (rest := [.int x]) (by simp [mm_ok]; decide +kernel) rfl hfM hQ hS hl.1 (Nat.le_of_ble_eq_true rfl) dl_1617) hS hadrM (fun H1 locs1 hP1 hk1 hS1 => ?_)
  have hP := la_kept (fun i j h1 h2 => (hne j i h2 h1).symm) hP hk1
  have hQ := hP1
  refine lv_icmp_eq (tgt := 1697) hx hb dl_1620 rfl (fun _ => ?_) (fun q => absurd rfl q)
  exact next H1 locs1 z' w' hRel' hP hQ hS1
def eq_undo (Rel : mm_S → mm_S → Prop) : Prop := ∀ (z w : mm_S), Rel z w → ∃ (x : Int32) (z' w' : mm_S), f_X3_undo [mm_P 3 0] z (some (mm_I x), z') ∧ f_X4_undo [mm_P 4 0] w (some (mm_I x), w') ∧ Rel z' w'
theorem la_undo_case {p : Program} {l : Launch} {e : Env} {s : State} {m : MethodId} {below : List Frame} {meth : Method} {c : Code} {b L : Nat} {xs : Nat → Int32} {GX GM : mm_G} {Rel : mm_S → mm_S → Prop} (C : la_C p s m meth c b L xs GX GM) (h : eq_undo Rel) {i : Nat} (hi : i + 6 ≤ L) {z w : mm_S} {H : Heap} {locs : List Loc} {la : Array Slot} (hRel : Rel z w) (hP : mm_H GX lyTX lyFA lenX snX 46 z H) (hQ : mm_H GM lyTM lyFA lenM snM 22 w H) (hS : va_S (la_A s) s.heap H locs) (hl : lv_has la 4 [(3, .int (nI i)), (2, .ref (GM.1 0)), (1, .ref (GX.1 0)), (0, .ref b)])
    {Q : State → Prop} (next : ∀ (H : Heap) (locs : List Loc) (z w : mm_S), Rel z w → mm_H GX lyTX lyFA lenX snX 46 z H → mm_H GM lyTM lyFA lenM snM 22 w H → va_S (la_A s) s.heap H locs → W p l e room_1 s m #[Value.ref b] below meth c H locs 68 2349 Q (F0 m 1697 la [])) : W p l e room_1 s m #[Value.ref b] below meth c H locs 68 2349 Q (F0 m 1625 la []) := by
  obtain ⟨S, hr, hlk, hX, hbl, hL, hKX, hKM, hroX, hroM, hinjX, hinjM, hne, hadrX, hadrM⟩ := C
  obtain ⟨hx, hb, hml, ho, hts⟩ := id S
  obtain ⟨x, z', w', hfX, hfM, hRel'⟩ := h z w hRel
  refine lv_aload_n (i := 1) hx hb dl_1625 rfl (lv_at hl 2 rfl) ?_
  refine la_i (la_run S hKX hroX hinjX hadrX M_X3_undo ⟨wv_X3_undo, wz_X3_undo, wi_X3_undo, wc_X3_undo⟩ ll_213 ⟨by decide +kernel, by decide +kernel, by decide +kernel⟩ ⟨rfl, rfl, by decide⟩ ⟨rfl, rfl, by decide, by decide⟩ (a := 0) (n := 0) (as' := []) (rest := []) (by simp [mm_ok]; decide +kernel) rfl hfX hP hS hl.1 (Nat.le_of_ble_eq_true rfl) dl_1626) hS hadrX (fun H1 locs1 hP1 hk1 hS1 => ?_)
  have hQ := la_kept hne hQ hk1
  have hP := hP1
  have hS := hS1
  clear hP1 hS1 hk1
  refine lv_aload_n (i := 2) hx hb dl_1629 rfl (lv_at hl 1 rfl) ?_
  refine la_i (la_run S hKM hroM hinjM hadrM M_X4_undo ⟨wv_X4_undo, wz_X4_undo, wi_X4_undo, wc_X4_undo⟩ ll_216 ⟨by decide +kernel, by decide +kernel, by decide +kernel⟩ ⟨rfl, rfl, by decide⟩ ⟨rfl, rfl, by decide, by decide⟩ (a := 0) (n := 0) (as' := []) (rest := [.int x]) (by simp [mm_ok]; decide +kernel) rfl hfM hQ hS hl.1 (Nat.le_of_ble_eq_true rfl) dl_1630) hS hadrM (fun H1 locs1 hP1 hk1 hS1 => ?_)
  have hP := la_kept (fun i j h1 h2 => (hne j i h2 h1).symm) hP hk1
  have hQ := hP1
  refine lv_icmp_eq (tgt := 1697) hx hb dl_1633 rfl (fun _ => ?_) (fun q => absurd rfl q)
  exact next H1 locs1 z' w' hRel' hP hQ hS1
def eq_tear (Rel : mm_S → mm_S → Prop) : Prop := ∀ (z w : mm_S), Rel z w → ∃ (x : Int32) (z' w' : mm_S), f_X3_tear [mm_P 3 0] z (some (mm_I x), z') ∧ f_X4_tear [mm_P 4 0] w (some (mm_I x), w') ∧ Rel z' w'
theorem la_tear_case {p : Program} {l : Launch} {e : Env} {s : State} {m : MethodId} {below : List Frame} {meth : Method} {c : Code} {b L : Nat} {xs : Nat → Int32} {GX GM : mm_G} {Rel : mm_S → mm_S → Prop} (C : la_C p s m meth c b L xs GX GM) (h : eq_tear Rel) {i : Nat} (hi : i + 6 ≤ L) {z w : mm_S} {H : Heap} {locs : List Loc} {la : Array Slot} (hRel : Rel z w) (hP : mm_H GX lyTX lyFA lenX snX 46 z H) (hQ : mm_H GM lyTM lyFA lenM snM 22 w H) (hS : va_S (la_A s) s.heap H locs) (hl : lv_has la 4 [(3, .int (nI i)), (2, .ref (GM.1 0)), (1, .ref (GX.1 0)), (0, .ref b)])
    {Q : State → Prop} (next : ∀ (H : Heap) (locs : List Loc) (z w : mm_S), Rel z w → mm_H GX lyTX lyFA lenX snX 46 z H → mm_H GM lyTM lyFA lenM snM 22 w H → va_S (la_A s) s.heap H locs → W p l e room_1 s m #[Value.ref b] below meth c H locs 68 2349 Q (F0 m 1697 la [])) : W p l e room_1 s m #[Value.ref b] below meth c H locs 68 2349 Q (F0 m 1638 la []) := by
  obtain ⟨S, hr, hlk, hX, hbl, hL, hKX, hKM, hroX, hroM, hinjX, hinjM, hne, hadrX, hadrM⟩ := C
  obtain ⟨hx, hb, hml, ho, hts⟩ := id S
  obtain ⟨x, z', w', hfX, hfM, hRel'⟩ := h z w hRel
  refine lv_aload_n (i := 1) hx hb dl_1638 rfl (lv_at hl 2 rfl) ?_
  refine la_i (la_run S hKX hroX hinjX hadrX M_X3_tear ⟨wv_X3_tear, wz_X3_tear, wi_X3_tear, wc_X3_tear⟩ ll_217 ⟨by decide +kernel, by decide +kernel, by decide +kernel⟩ ⟨rfl, rfl, by decide⟩ ⟨rfl, rfl, by decide, by decide⟩ (a := 0) (n := 0) (as' := []) (rest := []) (by simp [mm_ok]; decide +kernel) rfl hfX hP hS hl.1 (Nat.le_of_ble_eq_true rfl) dl_1639) hS hadrX (fun H1 locs1 hP1 hk1 hS1 => ?_)
  have hQ := la_kept hne hQ hk1
  have hP := hP1
  have hS := hS1
  clear hP1 hS1 hk1
  refine lv_aload_n (i := 2) hx hb dl_1642 rfl (lv_at hl 1 rfl) ?_
  refine la_i (la_run S hKM hroM hinjM hadrM M_X4_tear ⟨wv_X4_tear, wz_X4_tear, wi_X4_tear, wc_X4_tear⟩ ll_220 ⟨by decide +kernel, by decide +kernel, by decide +kernel⟩ ⟨rfl, rfl, by decide⟩ ⟨rfl, rfl, by decide, by decide⟩ (a := 0) (n := 0) (as' := []) (rest := [.int x]) (by simp [mm_ok]; decide +kernel) rfl hfM hQ hS hl.1 (Nat.le_of_ble_eq_true rfl) dl_1643) hS hadrM (fun H1 locs1 hP1 hk1 hS1 => ?_)
  have hP := la_kept (fun i j h1 h2 => (hne j i h2 h1).symm) hP hk1
  have hQ := hP1
  refine lv_icmp_eq (tgt := 1697) hx hb dl_1646 rfl (fun _ => ?_) (fun q => absurd rfl q)
  exact next H1 locs1 z' w' hRel' hP hQ hS1
def eq_count (Rel : mm_S → mm_S → Prop) : Prop := ∀ (a1 : Int32) (z w : mm_S), Rel z w → ∃ (x : Int32) (z' w' : mm_S), f_X3_count [mm_P 3 0, mm_I a1] z (some (mm_I x), z') ∧ f_X4_count [mm_P 4 0, mm_I a1] w (some (mm_I x), w') ∧ Rel z' w'
theorem la_count_case {p : Program} {l : Launch} {e : Env} {s : State} {m : MethodId} {below : List Frame} {meth : Method} {c : Code} {b L : Nat} {xs : Nat → Int32} {GX GM : mm_G} {Rel : mm_S → mm_S → Prop} (C : la_C p s m meth c b L xs GX GM) (h : eq_count Rel) {i : Nat} (hi : i + 6 ≤ L) {z w : mm_S} {H : Heap} {locs : List Loc} {la : Array Slot} (hRel : Rel z w) (hP : mm_H GX lyTX lyFA lenX snX 46 z H) (hQ : mm_H GM lyTM lyFA lenM snM 22 w H) (hS : va_S (la_A s) s.heap H locs) (hl : lv_has la 4 [(3, .int (nI i)), (2, .ref (GM.1 0)), (1, .ref (GX.1 0)), (0, .ref b)])
    {Q : State → Prop} (next : ∀ (H : Heap) (locs : List Loc) (z w : mm_S), Rel z w → mm_H GX lyTX lyFA lenX snX 46 z H → mm_H GM lyTM lyFA lenM snM 22 w H → va_S (la_A s) s.heap H locs → W p l e room_1 s m #[Value.ref b] below meth c H locs 68 2349 Q (F0 m 1697 la [])) : W p l e room_1 s m #[Value.ref b] below meth c H locs 68 2349 Q (F0 m 1651 la []) := by
  obtain ⟨S, hr, hlk, hX, hbl, hL, hKX, hKM, hroX, hroM, hinjX, hinjM, hne, hadrX, hadrM⟩ := C
  obtain ⟨hx, hb, hml, ho, hts⟩ := id S
  obtain ⟨x, z', w', hfX, hfM, hRel'⟩ := h (xs (i + 1)) z w hRel
  refine lv_aload_n (i := 1) hx hb dl_1651 rfl (lv_at hl 2 rfl) ?_
  refine la_arg (i := i) (jn := 1) hx hb hX hbl hL hS (lv_at hl 3 rfl) (lv_at hl 0 rfl) (by omega) rfl dl_1652 dl_1653 dl_1654 dl_1655 dl_1656 ?_
  refine la_i (la_run S hKX hroX hinjX hadrX M_X3_count ⟨wv_X3_count, wz_X3_count, wi_X3_count, wc_X3_count⟩ ll_221 ⟨by decide +kernel, by decide +kernel, by decide +kernel⟩ ⟨rfl, rfl, by decide⟩ ⟨rfl, rfl, by decide, by decide⟩ (a := 0) (n := 1) (as' := [mm_I (xs (i + 1))]) (rest := []) (by simp [mm_ok]; decide +kernel) rfl hfX hP hS hl.1 (Nat.le_of_ble_eq_true rfl) dl_1657) hS hadrX (fun H1 locs1 hP1 hk1 hS1 => ?_)
  have hQ := la_kept hne hQ hk1
  have hP := hP1
  have hS := hS1
  clear hP1 hS1 hk1
  refine lv_aload_n (i := 2) hx hb dl_1660 rfl (lv_at hl 1 rfl) ?_
  refine la_arg (i := i) (jn := 1) hx hb hX hbl hL hS (lv_at hl 3 rfl) (lv_at hl 0 rfl) (by omega) rfl dl_1661 dl_1662 dl_1663 dl_1664 dl_1665 ?_
  refine la_i (la_run S hKM hroM hinjM hadrM M_X4_count ⟨wv_X4_count, wz_X4_count, wi_X4_count, wc_X4_count⟩ ll_224 ⟨by decide +kernel, by decide +kernel, by decide +kernel⟩ ⟨rfl, rfl, by decide⟩ ⟨rfl, rfl, by decide, by decide⟩ (a := 0) (n := 1) (as' := [mm_I (xs (i + 1))]) (rest := [.int x]) (by simp [mm_ok]; decide +kernel) rfl hfM hQ hS hl.1 (Nat.le_of_ble_eq_true rfl) dl_1666) hS hadrM (fun H1 locs1 hP1 hk1 hS1 => ?_)
  have hP := la_kept (fun i j h1 h2 => (hne j i h2 h1).symm) hP hk1
  have hQ := hP1
  refine lv_icmp_eq (tgt := 1697) hx hb dl_1669 rfl (fun _ => ?_) (fun q => absurd rfl q)
  exact next H1 locs1 z' w' hRel' hP hQ hS1
def eq_status (Rel : mm_S → mm_S → Prop) : Prop := ∀ (a1 : Int32) (z w : mm_S), Rel z w → ∃ (x : Int32) (z' w' : mm_S), f_X3_status [mm_P 3 0, mm_I a1] z (some (mm_I x), z') ∧ f_X4_status [mm_P 4 0, mm_I a1] w (some (mm_I x), w') ∧ Rel z' w'
theorem la_status_case {p : Program} {l : Launch} {e : Env} {s : State} {m : MethodId} {below : List Frame} {meth : Method} {c : Code} {b L : Nat} {xs : Nat → Int32} {GX GM : mm_G} {Rel : mm_S → mm_S → Prop} (C : la_C p s m meth c b L xs GX GM) (h : eq_status Rel) {i : Nat} (hi : i + 6 ≤ L) {z w : mm_S} {H : Heap} {locs : List Loc} {la : Array Slot} (hRel : Rel z w) (hP : mm_H GX lyTX lyFA lenX snX 46 z H) (hQ : mm_H GM lyTM lyFA lenM snM 22 w H) (hS : va_S (la_A s) s.heap H locs) (hl : lv_has la 4 [(3, .int (nI i)), (2, .ref (GM.1 0)), (1, .ref (GX.1 0)), (0, .ref b)])
    {Q : State → Prop} (next : ∀ (H : Heap) (locs : List Loc) (z w : mm_S), Rel z w → mm_H GX lyTX lyFA lenX snX 46 z H → mm_H GM lyTM lyFA lenM snM 22 w H → va_S (la_A s) s.heap H locs → W p l e room_1 s m #[Value.ref b] below meth c H locs 68 2349 Q (F0 m 1697 la [])) : W p l e room_1 s m #[Value.ref b] below meth c H locs 68 2349 Q (F0 m 1674 la []) := by
  obtain ⟨S, hr, hlk, hX, hbl, hL, hKX, hKM, hroX, hroM, hinjX, hinjM, hne, hadrX, hadrM⟩ := C
  obtain ⟨hx, hb, hml, ho, hts⟩ := id S
  obtain ⟨x, z', w', hfX, hfM, hRel'⟩ := h (xs (i + 1)) z w hRel
  refine lv_aload_n (i := 1) hx hb dl_1674 rfl (lv_at hl 2 rfl) ?_
  refine la_arg (i := i) (jn := 1) hx hb hX hbl hL hS (lv_at hl 3 rfl) (lv_at hl 0 rfl) (by omega) rfl dl_1675 dl_1676 dl_1677 dl_1678 dl_1679 ?_
  refine la_i (la_run S hKX hroX hinjX hadrX M_X3_status ⟨wv_X3_status, wz_X3_status, wi_X3_status, wc_X3_status⟩ ll_225 ⟨by decide +kernel, by decide +kernel, by decide +kernel⟩ ⟨rfl, rfl, by decide⟩ ⟨rfl, rfl, by decide, by decide⟩ (a := 0) (n := 1) (as' := [mm_I (xs (i + 1))]) (rest := []) (by simp [mm_ok]; decide +kernel) rfl hfX hP hS hl.1 (Nat.le_of_ble_eq_true rfl) dl_1680) hS hadrX (fun H1 locs1 hP1 hk1 hS1 => ?_)
  have hQ := la_kept hne hQ hk1
  have hP := hP1
  have hS := hS1
  clear hP1 hS1 hk1
  refine lv_aload_n (i := 2) hx hb dl_1683 rfl (lv_at hl 1 rfl) ?_
  refine la_arg (i := i) (jn := 1) hx hb hX hbl hL hS (lv_at hl 3 rfl) (lv_at hl 0 rfl) (by omega) rfl dl_1684 dl_1685 dl_1686 dl_1687 dl_1688 ?_
  refine la_i (la_run S hKM hroM hinjM hadrM M_X4_status ⟨wv_X4_status, wz_X4_status, wi_X4_status, wc_X4_status⟩ ll_228 ⟨by decide +kernel, by decide +kernel, by decide +kernel⟩ ⟨rfl, rfl, by decide⟩ ⟨rfl, rfl, by decide, by decide⟩ (a := 0) (n := 1) (as' := [mm_I (xs (i + 1))]) (rest := [.int x]) (by simp [mm_ok]; decide +kernel) rfl hfM hQ hS hl.1 (Nat.le_of_ble_eq_true rfl) dl_1689) hS hadrM (fun H1 locs1 hP1 hk1 hS1 => ?_)
  have hP := la_kept (fun i j h1 h2 => (hne j i h2 h1).symm) hP hk1
  have hQ := hP1
  refine lv_icmp_eq (tgt := 1697) hx hb dl_1692 rfl (fun _ => ?_) (fun q => absurd rfl q)
  exact next H1 locs1 z' w' hRel' hP hQ hS1
section LAL
variable {p : Program} {l : Launch} {e : Env} {s : State} {m : MethodId} {below : List Frame} {meth : Method} {c : Code} {b L : Nat} {xs : Nat → Int32} {GX GM : mm_G} {Rel : mm_S → mm_S → Prop}
/-- all the calls agree -/
def eq_all (Rel : mm_S → mm_S → Prop) : Prop := eq_stuff Rel ∧ eq_crew Rel ∧ eq_of Rel ∧ eq_change Rel ∧ eq_cells Rel ∧ eq_unsure Rel ∧ eq_sure Rel ∧ eq_time Rel ∧ eq_heard Rel ∧ eq_reach Rel ∧ eq_hears Rel ∧ eq_echo Rel ∧ eq_chord Rel ∧ eq_last Rel ∧ eq_many Rel ∧ eq_silent Rel ∧ eq_lag Rel ∧ eq_apart Rel ∧ eq_from Rel ∧ eq_middle Rel ∧ eq_kindFor Rel ∧ eq_place Rel ∧ eq_book Rel ∧ eq_burn Rel ∧ eq_wrong Rel ∧ eq_fits Rel ∧ eq_map Rel ∧ eq_may Rel ∧ eq_lays Rel ∧ eq_asks Rel ∧ eq_dig Rel ∧ eq_safe Rel ∧ eq_ways Rel ∧ eq_years Rel ∧ eq_ahead Rel ∧ eq_when Rel ∧ eq_seed Rel ∧ eq_feed Rel ∧ eq_wipe Rel ∧ eq_text Rel ∧ eq_hold Rel ∧ eq_as Rel ∧ eq_sheet Rel ∧ eq_write Rel ∧ eq_copy Rel ∧ eq_load Rel ∧ eq_judge Rel ∧ eq_image Rel ∧ eq_undo Rel ∧ eq_tear Rel ∧ eq_count Rel ∧ eq_status Rel
theorem la_switch (C : la_C p s m meth c b L xs GX GM) (h : eq_all Rel) {i j : Nat} (hj : j < 52) (hi : i + 6 ≤ L) {z w : mm_S} {H : Heap} {locs : List Loc} {la : Array Slot} (hRel : Rel z w) (hP : mm_H GX lyTX lyFA lenX snX 46 z H) (hQ : mm_H GM lyTM lyFA lenM snM 22 w H) (hS : va_S (la_A s) s.heap H locs) (hl : lv_has la 4 [(3, .int (nI i)), (2, .ref (GM.1 0)), (1, .ref (GX.1 0)), (0, .ref b)]) {v : Int32} (hv : v = nI j) {st : List Value}
    {Q : State → Prop} (next : ∀ (H : Heap) (locs : List Loc) (z w : mm_S), Rel z w → mm_H GX lyTX lyFA lenX snX 46 z H → mm_H GM lyTM lyFA lenM snM 22 w H → va_S (la_A s) s.heap H locs → W p l e room_1 s m #[Value.ref b] below meth c H locs 68 2349 Q (F0 m 1697 la [])) : W p l e room_1 s m #[Value.ref b] below meth c H locs 68 2349 Q (F0 m 33 la [.int v]) := by
  subst hv
  obtain ⟨hx, hb, hml, ho, hts⟩ := id C.1
  have hjt : (nI j).toInt = (j : Int) := nI_toInt (by omega)
  obtain ⟨h0, h1, h2, h3, h4, h5, h6, h7, h8, h9, h10, h11, h12, h13, h14, h15, h16, h17, h18, h19, h20, h21, h22, h23, h24, h25, h26, h27, h28, h29, h30, h31, h32, h33, h34, h35, h36, h37, h38, h39, h40, h41, h42, h43, h44, h45, h46, h47, h48, h49, h50, h51⟩ := h
  rcases (show j = 0 ∨ j = 1 ∨ j = 2 ∨ j = 3 ∨ j = 4 ∨ j = 5 ∨ j = 6 ∨ j = 7 ∨ j = 8 ∨ j = 9 ∨ j = 10 ∨ j = 11 ∨ j = 12 ∨ j = 13 ∨ j = 14 ∨ j = 15 ∨ j = 16 ∨ j = 17 ∨ j = 18 ∨ j = 19 ∨ j = 20 ∨ j = 21 ∨ j = 22 ∨ j = 23 ∨ j = 24 ∨ j = 25 ∨ j = 26 ∨ j = 27 ∨ j = 28 ∨ j = 29 ∨ j = 30 ∨ j = 31 ∨ j = 32 ∨ j = 33 ∨ j = 34 ∨ j = 35 ∨ j = 36 ∨ j = 37 ∨ j = 38 ∨ j = 39 ∨ j = 40 ∨ j = 41 ∨ j = 42 ∨ j = 43 ∨ j = 44 ∨ j = 45 ∨ j = 46 ∨ j = 47 ∨ j = 48 ∨ j = 49 ∨ j = 50 ∨ j = 51 by omega) with rfl | rfl | rfl | rfl | rfl | rfl | rfl | rfl | rfl | rfl | rfl | rfl | rfl | rfl | rfl | rfl | rfl | rfl | rfl | rfl | rfl | rfl | rfl | rfl | rfl | rfl | rfl | rfl | rfl | rfl | rfl | rfl | rfl | rfl | rfl | rfl | rfl | rfl | rfl | rfl | rfl | rfl | rfl | rfl | rfl | rfl | rfl | rfl | rfl | rfl | rfl | rfl
  · exact lv_tableIn (off := 223) (tgt := 256) hx hb dl_33 (by decide) (by decide) rfl rfl (la_stuff_case C h0 hi hRel hP hQ hS hl next)
  · exact lv_tableIn (off := 256) (tgt := 289) hx hb dl_33 (by decide) (by decide) rfl rfl (la_crew_case C h1 hi hRel hP hQ hS hl next)
  · exact lv_tableIn (off := 289) (tgt := 322) hx hb dl_33 (by decide) (by decide) rfl rfl (la_of_case C h2 hi hRel hP hQ hS hl next)
  · exact lv_tableIn (off := 322) (tgt := 355) hx hb dl_33 (by decide) (by decide) rfl rfl (la_change_case C h3 hi hRel hP hQ hS hl next)
  · exact lv_tableIn (off := 365) (tgt := 398) hx hb dl_33 (by decide) (by decide) rfl rfl (la_cells_case C h4 hi hRel hP hQ hS hl next)
  · exact lv_tableIn (off := 389) (tgt := 422) hx hb dl_33 (by decide) (by decide) rfl rfl (la_unsure_case C h5 hi hRel hP hQ hS hl next)
  · exact lv_tableIn (off := 412) (tgt := 445) hx hb dl_33 (by decide) (by decide) rfl rfl (la_sure_case C h6 hi hRel hP hQ hS hl next)
  · exact lv_tableIn (off := 425) (tgt := 458) hx hb dl_33 (by decide) (by decide) rfl rfl (la_time_case C h7 hi hRel hP hQ hS hl next)
  · exact lv_tableIn (off := 458) (tgt := 491) hx hb dl_33 (by decide) (by decide) rfl rfl (la_heard_case C h8 hi hRel hP hQ hS hl next)
  · exact lv_tableIn (off := 491) (tgt := 524) hx hb dl_33 (by decide) (by decide) rfl rfl (la_reach_case C h9 hi hRel hP hQ hS hl next)
  · exact lv_tableIn (off := 515) (tgt := 548) hx hb dl_33 (by decide) (by decide) rfl rfl (la_hears_case C h10 hi hRel hP hQ hS hl next)
  · exact lv_tableIn (off := 538) (tgt := 571) hx hb dl_33 (by decide) (by decide) rfl rfl (la_echo_case C h11 hi hRel hP hQ hS hl next)
  · exact lv_tableIn (off := 581) (tgt := 614) hx hb dl_33 (by decide) (by decide) rfl rfl (la_chord_case C h12 hi hRel hP hQ hS hl next)
  · exact lv_tableIn (off := 624) (tgt := 657) hx hb dl_33 (by decide) (by decide) rfl rfl (la_last_case C h13 hi hRel hP hQ hS hl next)
  · exact lv_tableIn (off := 657) (tgt := 690) hx hb dl_33 (by decide) (by decide) rfl rfl (la_many_case C h14 hi hRel hP hQ hS hl next)
  · exact lv_tableIn (off := 680) (tgt := 713) hx hb dl_33 (by decide) (by decide) rfl rfl (la_silent_case C h15 hi hRel hP hQ hS hl next)
  · exact lv_tableIn (off := 694) (tgt := 727) hx hb dl_33 (by decide) (by decide) rfl rfl (la_lag_case C h16 hi hRel hP hQ hS hl next)
  · exact lv_tableIn (off := 737) (tgt := 770) hx hb dl_33 (by decide) (by decide) rfl rfl (la_apart_case C h17 hi hRel hP hQ hS hl next)
  · exact lv_tableIn (off := 770) (tgt := 803) hx hb dl_33 (by decide) (by decide) rfl rfl (la_from_case C h18 hi hRel hP hQ hS hl next)
  · exact lv_tableIn (off := 814) (tgt := 847) hx hb dl_33 (by decide) (by decide) rfl rfl (la_middle_case C h19 hi hRel hP hQ hS hl next)
  · exact lv_tableIn (off := 827) (tgt := 860) hx hb dl_33 (by decide) (by decide) rfl rfl (la_kindFor_case C h20 hi hRel hP hQ hS hl next)
  · exact lv_tableIn (off := 850) (tgt := 883) hx hb dl_33 (by decide) (by decide) rfl rfl (la_place_case C h21 hi hRel hP hQ hS hl next)
  · exact lv_tableIn (off := 873) (tgt := 906) hx hb dl_33 (by decide) (by decide) rfl rfl (la_book_case C h22 hi hRel hP hQ hS hl next)
  · exact lv_tableIn (off := 916) (tgt := 949) hx hb dl_33 (by decide) (by decide) rfl rfl (la_burn_case C h23 hi hRel hP hQ hS hl next)
  · exact lv_tableIn (off := 929) (tgt := 962) hx hb dl_33 (by decide) (by decide) rfl rfl (la_wrong_case C h24 hi hRel hP hQ hS hl next)
  · exact lv_tableIn (off := 942) (tgt := 975) hx hb dl_33 (by decide) (by decide) rfl rfl (la_fits_case C h25 hi hRel hP hQ hS hl next)
  · exact lv_tableIn (off := 955) (tgt := 988) hx hb dl_33 (by decide) (by decide) rfl rfl (la_map_case C h26 hi hRel hP hQ hS hl next)
  · exact lv_tableIn (off := 978) (tgt := 1011) hx hb dl_33 (by decide) (by decide) rfl rfl (la_may_case C h27 hi hRel hP hQ hS hl next)
  · exact lv_tableIn (off := 1001) (tgt := 1034) hx hb dl_33 (by decide) (by decide) rfl rfl (la_lays_case C h28 hi hRel hP hQ hS hl next)
  · exact lv_tableIn (off := 1024) (tgt := 1057) hx hb dl_33 (by decide) (by decide) rfl rfl (la_asks_case C h29 hi hRel hP hQ hS hl next)
  · exact lv_tableIn (off := 1047) (tgt := 1080) hx hb dl_33 (by decide) (by decide) rfl rfl (la_dig_case C h30 hi hRel hP hQ hS hl next)
  · exact lv_tableIn (off := 1080) (tgt := 1113) hx hb dl_33 (by decide) (by decide) rfl rfl (la_safe_case C h31 hi hRel hP hQ hS hl next)
  · exact lv_tableIn (off := 1113) (tgt := 1146) hx hb dl_33 (by decide) (by decide) rfl rfl (la_ways_case C h32 hi hRel hP hQ hS hl next)
  · exact lv_tableIn (off := 1137) (tgt := 1170) hx hb dl_33 (by decide) (by decide) rfl rfl (la_years_case C h33 hi hRel hP hQ hS hl next)
  · exact lv_tableIn (off := 1160) (tgt := 1193) hx hb dl_33 (by decide) (by decide) rfl rfl (la_ahead_case C h34 hi hRel hP hQ hS hl next)
  · exact lv_tableIn (off := 1193) (tgt := 1226) hx hb dl_33 (by decide) (by decide) rfl rfl (la_when_case C h35 hi hRel hP hQ hS hl next)
  · exact lv_tableIn (off := 1226) (tgt := 1259) hx hb dl_33 (by decide) (by decide) rfl rfl (la_seed_case C h36 hi hRel hP hQ hS hl next)
  · exact lv_tableIn (off := 1249) (tgt := 1282) hx hb dl_33 (by decide) (by decide) rfl rfl (la_feed_case C h37 hi hRel hP hQ hS hl next)
  · exact lv_tableIn (off := 1282) (tgt := 1315) hx hb dl_33 (by decide) (by decide) rfl rfl (la_wipe_case C h38 hi hRel hP hQ hS hl next)
  · exact lv_tableIn (off := 1295) (tgt := 1328) hx hb dl_33 (by decide) (by decide) rfl rfl (la_text_case C h39 hi hRel hP hQ hS hl next)
  · exact lv_tableIn (off := 1308) (tgt := 1341) hx hb dl_33 (by decide) (by decide) rfl rfl (la_hold_case C h40 hi hRel hP hQ hS hl next)
  · exact lv_tableIn (off := 1341) (tgt := 1374) hx hb dl_33 (by decide) (by decide) rfl rfl (la_as_case C h41 hi hRel hP hQ hS hl next)
  · exact lv_tableIn (off := 1374) (tgt := 1407) hx hb dl_33 (by decide) (by decide) rfl rfl (la_sheet_case C h42 hi hRel hP hQ hS hl next)
  · exact lv_tableIn (off := 1417) (tgt := 1450) hx hb dl_33 (by decide) (by decide) rfl rfl (la_write_case C h43 hi hRel hP hQ hS hl next)
  · exact lv_tableIn (off := 1460) (tgt := 1493) hx hb dl_33 (by decide) (by decide) rfl rfl (la_copy_case C h44 hi hRel hP hQ hS hl next)
  · exact lv_tableIn (off := 1523) (tgt := 1556) hx hb dl_33 (by decide) (by decide) rfl rfl (la_load_case C h45 hi hRel hP hQ hS hl next)
  · exact lv_tableIn (off := 1546) (tgt := 1579) hx hb dl_33 (by decide) (by decide) rfl rfl (la_judge_case C h46 hi hRel hP hQ hS hl next)
  · exact lv_tableIn (off := 1579) (tgt := 1612) hx hb dl_33 (by decide) (by decide) rfl rfl (la_image_case C h47 hi hRel hP hQ hS hl next)
  · exact lv_tableIn (off := 1592) (tgt := 1625) hx hb dl_33 (by decide) (by decide) rfl rfl (la_undo_case C h48 hi hRel hP hQ hS hl next)
  · exact lv_tableIn (off := 1605) (tgt := 1638) hx hb dl_33 (by decide) (by decide) rfl rfl (la_tear_case C h49 hi hRel hP hQ hS hl next)
  · exact lv_tableIn (off := 1618) (tgt := 1651) hx hb dl_33 (by decide) (by decide) rfl rfl (la_count_case C h50 hi hRel hP hQ hS hl next)
  · exact lv_tableIn (off := 1641) (tgt := 1674) hx hb dl_33 (by decide) (by decide) rfl rfl (la_status_case C h51 hi hRel hP hQ hS hl next)
/-- the law's loop -/
theorem la_loop (C : la_C p s m meth c b L xs GX GM) (h : eq_all Rel) : ∀ (n i : Nat) (z w : mm_S) (H : Heap) (locs : List Loc) (la : Array Slot), L ≤ i + n → i ≤ 3078 → Rel z w → mm_H GX lyTX lyFA lenX snX 46 z H → mm_H GM lyTM lyFA lenM snM 22 w H → va_S (la_A s) s.heap H locs → lv_has la 4 [(3, .int (nI i)), (2, .ref (GM.1 0)), (1, .ref (GX.1 0)), (0, .ref b)] →
    W p l e room_1 s m #[Value.ref b] below meth c H locs 68 2349 (lw_Z below #[Value.ref b] s) (F0 m 18 la []) := by
  intro n
  induction n with
  | zero =>
    intro i z w H locs la hn hi3 hRel hP hQ hS hl
    obtain ⟨⟨hx, hb, hml, ho, hts⟩, hr, hlk, hX, hbl, hL, -⟩ := id C
    refine lv_iload_n (i := 3) hx hb dl_18 rfl (lv_at hl 0 rfl) ?_
    refine lv_aload_n (i := 0) hx hb dl_19 rfl (lv_at hl 3 rfl) ?_
    refine va_slen hx hb hX hbl (Nat.not_le.mpr hbl) hS dl_20 ?_
    refine lv_bipush (v := 6) hx hb dl_21 rfl ?_
    refine lv_isub hx hb dl_23 ?_
    have hlt : nI L - nI 6 < nI i := by
      rw [Int32.lt_iff_toInt_lt, pk_sub_toInt (by omega) (by decide), nI_toInt (by omega)]
      omega
    refine lv_icmp_gt (tgt := 1703) hx hb dl_24 rfl (fun _ => ?_) (fun q => absurd hlt q)
    refine lv_iconst (v := 1) hx hb dl_1703 rfl ?_
    exact va_forget hS.2.2 (lw_ret hx hb hr hlk dl_1704)
  | succ n ih =>
    intro i z w H locs la hn hi3 hRel hP hQ hS hl
    obtain ⟨⟨hx, hb, hml, ho, hts⟩, hr, hlk, hX, hbl, hL, -⟩ := id C
    refine lv_iload_n (i := 3) hx hb dl_18 rfl (lv_at hl 0 rfl) ?_
    refine lv_aload_n (i := 0) hx hb dl_19 rfl (lv_at hl 3 rfl) ?_
    refine va_slen hx hb hX hbl (Nat.not_le.mpr hbl) hS dl_20 ?_
    refine lv_bipush (v := 6) hx hb dl_21 rfl ?_
    refine lv_isub hx hb dl_23 ?_
    have hiff : nI L - nI 6 < nI i ↔ (L : Int) - 6 < i := by
      rw [Int32.lt_iff_toInt_lt, pk_sub_toInt (by omega) (by decide), nI_toInt (by omega)]
      exact Iff.rfl
    refine lv_icmp_gt (tgt := 1703) hx hb dl_24 rfl (fun _ => ?_) (fun q => ?_)
    · refine lv_iconst (v := 1) hx hb dl_1703 rfl ?_
      exact va_forget hS.2.2 (lw_ret hx hb hr hlk dl_1704)
    have hi : i + 6 ≤ L := by
      have q2 : ¬ ((L : Int) - 6 < i) := fun x => q (hiff.mpr x)
      omega
    refine lv_aload_n (i := 0) hx hb dl_27 rfl (lv_at hl 3 rfl) ?_
    refine lv_iload_n (i := 3) hx hb dl_28 rfl (lv_at hl 0 rfl) ?_
    refine va_sld hx hb hX hbl (Nat.not_le.mpr hbl) hS (vp_in_nI (by omega) (by omega)) dl_29 ?_
    refine lv_bipush (v := 63) hx hb dl_30 rfl ?_
    refine lv_iand hx hb dl_32 ?_
    have next : ∀ (H : Heap) (locs : List Loc) (z w : mm_S), Rel z w → mm_H GX lyTX lyFA lenX snX 46 z H → mm_H GM lyTM lyFA lenM snM 22 w H → va_S (la_A s) s.heap H locs → W p l e room_1 s m #[Value.ref b] below meth c H locs 68 2349 (lw_Z below #[Value.ref b] s) (F0 m 1697 la []) := by
      intro H locs z w hRel hP hQ hS
      refine lv_iinc (k := 0) (v := nI (i + 6)) (lv' := [(3, .int (nI (i + 6))), (2, .ref (GM.1 0)), (1, .ref (GX.1 0)), (0, .ref b)]) hx hb dl_1697 hl rfl (nI_add i 6) (by decide) rfl (fun la hl => ?_)
      refine lv_goto (tgt := 18) hx hb dl_1700 rfl ?_
      exact ih (i + 6) z w H locs la (by omega) (by omega) hRel hP hQ hS hl
    obtain ⟨j, hj, hv⟩ := pk_andE (xs (Int32.toNatClampNeg (nI i))) (m := 63) 6 (by decide)
    by_cases h52 : j < 52
    · exact la_switch C h h52 hi hRel hP hQ hS hl hv (st := []) next
    · rw [hv]
      have hjt : (nI j).toInt = (j : Int) := nI_toInt (by omega)
      exact lv_tableOut (tgt := 1697) hx hb dl_33 (Or.inr (by rw [hjt]; omega)) rfl (next H locs z w hRel hP hQ hS)
end LAL
