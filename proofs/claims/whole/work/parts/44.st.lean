/-! ===== the start: what is given ===== -/
def sg_tk (i : Nat) : Nat := ([116, 118, 120, 122, 124, 126, 128, 130, 131, 133, 135, 137, 53, 62, 72, 81, 87] : List Nat).getD i 0
def sg_mk (i : Nat) : Nat := ([52, 54, 56, 58, 60, 62, 64, 70, 72, 74, 76, 78, 375, 348, 364, 371, 373] : List Nat).getD i 0
abbrev sg_C : Cond := Jvm.Cond.and given_1 narrow_1
def sg_L : List Cond := flatC sg_C
abbrev sg_tm (i : Nat) : Term := .string "RingingRock$Tape" (sg_tk i)
abbrev sg_um (i : Nat) : Term := .string "RingingRockModel" (sg_mk i)
abbrev sg_tP : Term := .static "RingingRock" "PACES" "[I"
abbrev sg_tQ : Term := .static "RingingRock" "KIND_ABOVE" "[I"
theorem sg_1 : ∀ i, i < 17 → Cond.exactly (sg_tm i) "java/lang/String" ∈ sg_L := by decide +kernel
theorem sg_2 : ∀ i, i < 17 → Cond.eq (.field (sg_tm i) "java/lang/String" "coder" "B") (.int 0) ∈ sg_L := by decide +kernel
theorem sg_3 : ∀ i, i < 17 → Cond.arrayOf (.field (sg_tm i) "java/lang/String" "value" "[B") .byte ∈ sg_L := by decide +kernel
theorem sg_4 : ∀ i, i < 17 → Cond.eq (.length (.field (sg_tm i) "java/lang/String" "value" "[B")) (.int (Int32.ofNat (mm_sl.getD i 0))) ∈ sg_L := by decide +kernel
theorem sg_5 : ∀ i, i < 17 → ∀ j, j < mm_sl.getD i 0 → Cond.eq (.elem (.field (sg_tm i) "java/lang/String" "value" "[B") (.int (Int32.ofNat j))) (.int ((mm_sb.getD i []).getD j 0)) ∈ sg_L := by decide +kernel
theorem sg_6 : ∀ i, i < 17 → Cond.exactly (sg_um i) "java/lang/String" ∈ sg_L := by decide +kernel
theorem sg_7 : ∀ i, i < 17 → Cond.eq (sg_tm i) (sg_um i) ∈ sg_L := by decide +kernel
theorem sg_8 : Cond.arrayOf sg_tP .int ∈ sg_L ∧ Cond.eq (.length sg_tP) (.int 5) ∈ sg_L ∧ (∀ j, j < 5 → Cond.eq (.elem sg_tP (.int (Int32.ofNat j))) (.int (roX 46 j)) ∈ sg_L) := by decide +kernel
theorem sg_9 : Cond.arrayOf sg_tQ .int ∈ sg_L ∧ Cond.eq (.length sg_tQ) (.int 7) ∈ sg_L ∧ (∀ j, j < 7 → Cond.eq (.elem sg_tQ (.int (Int32.ofNat j))) (.int (roX 47 j)) ∈ sg_L) := by decide +kernel
theorem sg_10 : Cond.eq (.static "java/lang/String" "COMPACT_STRINGS" "Z") (.int 1) ∈ sg_L ∧ Cond.isRef (.static "jdk/internal/util/Preconditions" "SIOOBE_FORMATTER" "Ljava/util/function/BiFunction;") ∈ sg_L := by decide +kernel
theorem sg_11 : ∀ q ∈ rsA, (Cond.stringRef q.1 q.2.1 q.2.2.1 ∈ tables_1 ∧ q.2.2.2 < 17) ∧ ((q.1 = "RingingRock$Tape" ∧ q.2.1 = sg_tk q.2.2.2) ∨ (q.1 = "RingingRockModel" ∧ q.2.1 = sg_mk q.2.2.2)) := by decide +kernel
theorem sg_12 : ∀ q ∈ nfA, Cond.fieldLinkNest q.1 q.2.1 q.2.2.1 q.2.2.2.1 q.2.2.2.2.1 q.2.2.2.2.2 ∈ tables_1 := by decide +kernel
theorem sg_13 : ∀ q ∈ nmA, Cond.methodLinkNest q.1 q.2.1 q.2.2.1 q.2.2.2 ∈ tables_1 := by decide +kernel
theorem sg_14 : ∀ i, i < 17 → ∀ j, j < 17 → (Int32.ofNat (mm_sl.getD i 0) = Int32.ofNat (mm_sl.getD j 0) ∧ ∀ k, k < mm_sl.getD i 0 → k < mm_sl.getD j 0 → (mm_sb.getD i []).getD k 0 = (mm_sb.getD j []).getD k 0) → i = j := by decide +kernel
section SG
variable {s : State} {args : Array Value} {A : Nat → Prop}
theorem sg_of (h : sg_C.before args s = true) {w : Cond} (hw : w ∈ sg_L) : w.before args s = true := flat_of_before sg_C h w hw
/-- the texts -/
theorem sg_texts (h : sg_C.before args s = true) (hA : ∀ a : Nat, a < s.heap.size → ¬ A a) : ∃ adK : Nat → Nat, (∃ adV, vk_S 17 mm_sl mm_sb adK adV A s s.heap) ∧ ∀ i : Nat, i < 17 → (sg_tm i).eval args s none [] s = some (.ref (adK i)) := by
  have h1 : ∀ i : Nat, ∃ q : Nat × Nat, i < 17 → (sg_tm i).eval args s none [] s = some (.ref q.1) ∧ va_O "java/lang/String" q.1 A s s.heap ∧ va_OF "java/lang/String" "coder" "B" (.int 0) q.1 A s s.heap ∧ va_OF "java/lang/String" "value" "[B" (.ref q.2) q.1 A s s.heap ∧ va_T .byte q.2 (mm_sl.getD i 0) (fun j => .int ((mm_sb.getD i []).getD j 0)) A s s.heap := by
    intro i
    by_cases hi : i < 17
    · obtain ⟨adK, adV, hS, hE⟩ := vk_Sof (N := 1) (tm := fun _ => sg_tm i) (len := [mm_sl.getD i 0]) (byt := [mm_sb.getD i []]) (args := args) (s := s) (A := A)
        (fun k hk => by
          obtain rfl : k = 0 := by omega
          show mm_sl.getD i 0 < 2 ^ 31
          exact (by decide : ∀ i, i < 17 → mm_sl.getD i 0 < 2 ^ 31) i hi)
        (fun _ _ => sg_of h (sg_1 i hi)) (fun _ _ => sg_of h (sg_2 i hi)) (fun _ _ => sg_of h (sg_3 i hi))
        (fun k hk => by
          obtain rfl : k = 0 := by omega
          exact sg_of h (sg_4 i hi))
        (fun k hk j hj => by
          obtain rfl : k = 0 := by omega
          exact sg_of h (sg_5 i hi j hj))
        (fun k j hk hj hne => absurd (show k = j by omega) hne) hA
      exact ⟨(adK 0, adV 0), fun _ => ⟨hE 0 (by decide), hS.1 0 (by decide)⟩⟩
    · exact ⟨(0, 0), fun q => absurd q hi⟩
  obtain ⟨ad, had⟩ := Classical.axiomOfChoice h1
  refine ⟨fun i => (ad i).1, ⟨fun i => (ad i).2, fun i hi => (had i hi).2, fun i j hi hj e => ?_⟩, fun i hi => (had i hi).1⟩
  obtain ⟨-, -, -, f1, t1⟩ := had i hi
  obtain ⟨-, -, -, f2, t2⟩ := had j hj
  have e' : (ad i).1 = (ad j).1 := e
  rw [← e'] at f2
  have e2 : (ad i).2 = (ad j).2 := by
    obtain ⟨cf, k, n, f, cell, a1, a2, a3, a4, a5, a6⟩ := f1
    obtain ⟨cf', k', n', f', cell', b1, b2, b3, b4, b5, b6⟩ := f2
    rw [a1] at b1
    cases b1
    rw [a3] at b3
    cases b3
    rw [a5] at b5
    injection Option.some.inj b5
  rw [← e2] at t2
  obtain ⟨cell, a1, a2, a3, a4, a5, a6, a7⟩ := t1
  obtain ⟨cell', b1, b2, b3, b4, b5, b6, b7⟩ := t2
  rw [a1] at b1
  cases b1
  refine sg_14 i hi j hj ⟨a5.symm.trans b5, fun k hk hk2 => ?_⟩
  have u := (a6 k hk).symm.trans (b6 k hk2)
  injection Option.some.inj u
end SG
/-- what holds of the classes, the array classes, the texts, the tables -/
theorem sg_start {s : State} {b : Nat} (hts : ∀ w ∈ lw_tbl, w.before #[Value.ref b] s = true) (h : sg_C.before #[Value.ref b] s = true) :
    ∃ (adK : Nat → Nat) (tP tQ : Nat) (cA : Nat → ClassId) (D : va_G), va_K D vwCl [(cA 0, .int), (cA 1, .long), (cA 2, .boolean), (cA 3, .object "java/lang/String")] s ∧
      (∀ G : mm_G, G.2.1 = adK → G.1 46 = tP → G.1 47 = tQ → mm_ro G lenX 46 48 roX rsA nfA nmA ssX (la_A s) s s.heap) ∧
      (∀ (G : mm_G) (lenA : Nat → Nat) (n : Nat) (ro : Nat → Nat → Int32), G.2.1 = adK → mm_ro G lenA n n ro rsA nfA nmA [] (la_A s) s s.heap) ∧ va_AO "java/lang/String" s := by
  have hg : ∀ w ∈ lw_gd, w.before #[Value.ref b] s = true := fun w hw => hts w (List.mem_filter.mp hw).1
  have ht : ∀ w ∈ tables_1, w.before #[Value.ref b] s = true := fun w hw => hts w (List.mem_append_right _ hw)
  have hA : ∀ a : Nat, a < s.heap.size → ¬ la_A s a := fun a h1 h2 => Nat.not_le.mpr h1 h2
  have hAO : va_AO "java/lang/String" s := va_AO.of (ht _ (List.mem_of_getElem? (i := 874) (by decide +kernel)))
  obtain ⟨adK, hV, hE⟩ := sg_texts h hA
  have hE2 : ∀ i : Nat, i < 17 → (sg_um i).eval #[Value.ref b] s none [] s = some (.ref (adK i)) := fun i hi => by
    obtain ⟨a, cl, cell, k, q1, -⟩ := Cond.exactly_spec (args := #[Value.ref b]) (first := s) (o := none) (s := s) (idx := []) (sg_of h (sg_6 i hi))
    have e := Cond.eq_refs (args := #[Value.ref b]) (first := s) (out := none) (t := s) (idx := []) (sg_of h (sg_7 i hi)) q1 rfl
    rw [hE i hi] at e
    rw [q1, e]
  obtain ⟨p1, p2, p3⟩ := sg_8
  obtain ⟨r1, r2, r3⟩ := sg_9
  obtain ⟨tP, hP1, hP2⟩ := va_Tof (tm := sg_tP) (ty := .int) (N := 5) (f := fun j => .int (roX 46 j)) (A := la_A s) (by decide) (sg_of h p1) (va_eqt (sg_of h p2)) (fun j hj => va_eqt (sg_of h (p3 j hj))) hA
  obtain ⟨tQ, hQ1, hQ2⟩ := va_Tof (tm := sg_tQ) (ty := .int) (N := 7) (f := fun j => .int (roX 47 j)) (A := la_A s) (by decide) (sg_of h r1) (va_eqt (sg_of h r2)) (fun j hj => va_eqt (sg_of h (r3 j hj))) hA
  have wi1 : (Cond.initialized "RingingRock").before #[Value.ref b] s = true := ht _ (List.mem_of_getElem? (i := 1) (by decide +kernel))
  have hZP := va_Zref (A := la_A s) (ht _ (List.mem_of_getElem? (i := 323) (by decide +kernel)) : (Cond.laysStatic "RingingRock" "PACES" "[I").before #[Value.ref b] s = true) wi1 hP1 hA
  have hZQ := va_Zref (A := la_A s) (ht _ (List.mem_of_getElem? (i := 801) (by decide +kernel)) : (Cond.laysStatic "RingingRock" "KIND_ABOVE" "[I").before #[Value.ref b] s = true) wi1 hQ1 hA
  have hZC := va_Zof (A := la_A s) (ht _ (List.mem_of_getElem? (i := 700) (by decide +kernel)) : (Cond.laysStatic "java/lang/String" "COMPACT_STRINGS" "Z").before #[Value.ref b] s = true) (ht _ (List.mem_of_getElem? (i := 10) (by decide +kernel))) (va_eqt (sg_of h sg_10.1)) hA
  have hZF := va_Zqof (A := la_A s) (ht _ (List.mem_of_getElem? (i := 716) (by decide +kernel)) : (Cond.laysStatic "jdk/internal/util/Preconditions" "SIOOBE_FORMATTER" "Ljava/util/function/BiFunction;").before #[Value.ref b] s = true) (ht _ (List.mem_of_getElem? (i := 12) (by decide +kernel))) (sg_of h sg_10.2) hA
  have hR : ∀ q ∈ rsA, vk_R q.1 q.2.1 q.2.2.1 (adK q.2.2.2) s := by
    rintro ⟨q1, q2, q3, q4⟩ hq
    obtain ⟨⟨w, hlt⟩, hor⟩ := sg_11 _ hq
    refine vk_R.of (ht _ w) ?_
    rcases hor with ⟨e1, e2⟩ | ⟨e1, e2⟩
    · simp only at e1 e2 hlt ⊢
      subst e1 e2
      exact hE q4 hlt
    · simp only at e1 e2 hlt ⊢
      subst e1 e2
      exact hE2 q4 hlt
  have hNf : ∀ q ∈ nfA, va_Nw (.fieldLinkNest q.1 q.2.1 q.2.2.1 q.2.2.2.1 q.2.2.2.2.1 q.2.2.2.2.2) s := fun q hq => va_Nw.of rfl (ht _ (sg_12 q hq))
  have hNm : ∀ q ∈ nmA, va_Nw (.methodLinkNest q.1 q.2.1 q.2.2.1 q.2.2.2) s := fun q hq => va_Nw.of rfl (ht _ (sg_13 q hq))
  obtain ⟨c0, i0, k0⟩ := u_known hg wkX0 (hg _ cw_2)
  obtain ⟨c1, i1, k1⟩ := u_known hg wkX1 (hg _ cw_10)
  obtain ⟨c2, i2, k2⟩ := u_known hg wkX2 (hg _ cw_17)
  obtain ⟨c3, i3, k3⟩ := u_known hg wkX3 (hg _ cw_23)
  obtain ⟨c4, i4, k4⟩ := u_known hg wkX4 (hg _ cw_33)
  obtain ⟨a0, y0, z0, n0, m0, o0⟩ := Cond.arrayClass_spec (args := #[Value.ref b]) (first := s) (o := none) (s := s) (idx := []) (hg _ cw_113)
  obtain ⟨a1, y1, z1, n1, m1, o1⟩ := Cond.arrayClass_spec (args := #[Value.ref b]) (first := s) (o := none) (s := s) (idx := []) (hg _ cw_114)
  obtain ⟨a2, y2, z2, n2, m2, o2⟩ := Cond.arrayClass_spec (args := #[Value.ref b]) (first := s) (o := none) (s := s) (idx := []) (hg _ cw_115)
  obtain ⟨z3, a3, y3, f1, f2, f3, f4, f5⟩ := Cond.arrayOver_spec (args := #[Value.ref b]) (first := s) (o := none) (s := s) (idx := []) (va_AO.use (A := #[Value.ref b]) hAO)
  refine ⟨adK, tP, tQ, fun k => if k = 0 then a0 else if k = 1 then a1 else if k = 2 then a2 else a3, (fun k => if k = 0 then c0 else if k = 1 then c1 else if k = 2 then c2 else if k = 3 then c3 else c4, fun k => if k = 0 then i0 else if k = 1 then i1 else if k = 2 then i2 else if k = 3 then i3 else i4), ⟨fun k q hq => ?_, fun k q hq => ?_⟩, fun G e1 e2 e3 => ?_, fun G lenA n ro e1 => ?_, hAO⟩
  · rcases k with _ | _ | _ | _ | _ | k
    · cases hq; exact k0
    · cases hq; exact k1
    · cases hq; exact k2
    · cases hq; exact k3
    · cases hq; exact k4
    · cases hq
  · rcases k with _ | _ | _ | _ | k
    · cases hq; exact ⟨fun n z => ⟨fun _ w => (by cases w), y0, m0, z0, o0⟩, n0⟩
    · cases hq; exact ⟨fun n z => ⟨fun _ w => (by cases w), y1, m1, z1, o1⟩, n1⟩
    · cases hq; exact ⟨fun n z => ⟨fun _ w => (by cases w), y2, m2, z2, o2⟩, n2⟩
    · cases hq; exact ⟨fun n z => ⟨fun _ w => (by cases w), y3, f3, z3, f4⟩, y3, z3, f3, f4, f1, f5⟩
    · cases hq
  · refine ⟨fun k h1 h2 => ?_, fun q hq => ?_, ?_, hZC, hZF, ?_, hNf, hNm⟩
    · obtain rfl | rfl : k = 46 ∨ k = 47 := by omega
      · rw [e2]; exact hP2
      · rw [e3]; exact hQ2
    · rcases List.mem_cons.mp hq with rfl | hq
      · show va_Z _ _ _ (.ref (G.1 46)) _ _ _
        rw [e2]; exact hZP
      · rcases List.mem_cons.mp hq with rfl | hq
        · show va_Z _ _ _ (.ref (G.1 47)) _ _ _
          rw [e3]; exact hZQ
        · exact absurd hq List.not_mem_nil
    · rw [e1]; exact hV
    · rw [e1]; exact hR
  · refine ⟨fun k h1 h2 => absurd h1 (by omega), fun q hq => absurd hq List.not_mem_nil, ?_, hZC, hZF, ?_, hNf, hNm⟩
    · rw [e1]; exact hV
    · rw [e1]; exact hR
