theorem cw_2 : Cond.instantiable RX0 14 ∈ lw_gd := sorry
theorem cw_10 : Cond.instantiable RX1 4 ∈ lw_gd := sorry
theorem cw_17 : Cond.instantiable RX2 6 ∈ lw_gd := sorry
theorem cw_23 : Cond.instantiable RX3 12 ∈ lw_gd := sorry
theorem cw_24 : Cond.initialized RX3 ∈ lw_gd := sorry
theorem cw_25 : Cond.instanceMethod yX3_init ∈ lw_gd := sorry
theorem cw_27 : Cond.code yX3_init cX3_init 1 none ∈ lw_gd := sorry
theorem cw_33 : Cond.instantiable RX4 36 ∈ lw_gd := sorry
theorem cw_34 : Cond.initialized RX4 ∈ lw_gd := sorry
theorem cw_35 : Cond.instanceMethod yX4_init ∈ lw_gd := sorry
theorem cw_37 : Cond.code yX4_init cX4_init 2 none ∈ lw_gd := sorry
theorem cw_113 : Cond.arrayClass (newarray.typeOf .int) ∈ lw_gd := sorry
theorem cw_114 : Cond.arrayClass (newarray.typeOf .long) ∈ lw_gd := sorry
theorem cw_115 : Cond.arrayClass (newarray.typeOf .boolean) ∈ lw_gd := sorry
theorem ct_blind {G : mm_G} {h0 sz : Nat} {w0 : va_W} : FrameBlind (ct_Pc G h0 sz w0) := sorry
theorem ct_in {p : Program} {m : MethodId} {c : Code} {cc : ByteArray} {nL : Nat} {s : State} {args : Array Value} {own : String} {G : mm_G} {A : Nat → Prop} {H : Heap} {locs : List Loc} {q : Nat} {x : va_E} (S : CallFix p m c cc nL s args lw_gd own) (hK : va_K G.2.2.2 vwCl (mm_ty G) s) (hro : mm_ro G (fun _ => 0) 0 0 (fun _ _ => 0) rsA nfA nmA [] A s s.heap) (hAO : va_AO "java/lang/String" s) (hS : va_S A s.heap H locs) (hP : va_P G.2.2.2 vwCl [(q, x)] H) (hD : va_D A [(q, x)]) (hF : ∀ y, va_A [(q, x)] H.size y → A y) {U : State} (hU : U.heap = H) (hW : s.WarmedH U.vm) :
    ct_Pc G q H.size [(q, x)] ([Value.ref q] : List Value).toArray U := sorry
