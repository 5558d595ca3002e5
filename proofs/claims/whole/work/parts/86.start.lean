/-! ===== the walk of the law's beginning ===== -/
theorem sw_7 : Cond.classLink R_law 7 RX3 ∈ lw_gd := mm_gdT 14 (by decide +kernel) rfl
theorem sw_10 : Cond.classLink R_law 10 RX4 ∈ lw_gd := mm_gdT 867 (by decide +kernel) rfl
theorem sw_9 : Cond.methodLink R_law 9 yX3_init ∈ lw_gd := mm_gdT 16 (by decide +kernel) rfl
theorem sw_12 : Cond.methodLink R_law 12 yX4_init ∈ lw_gd := mm_gdT 869 (by decide +kernel) rfl
abbrev sw_x3 : va_E := .inr (3, [.null, .null, .int 0, .null, .null, .null, .null, .null, .null, .null, .null, .null])
abbrev sw_x4 : va_E := .inr (4, [.null, .null, .null, .int 0, .null, .null, .null, .null, .null, .null, .int 0, .int 0, .int 0, .int 0, .null, .null, .null, .null, .int 0, .int 0, .int 0, .int 0, .int 0, .int 0, .null, .null, .null, .int 0, .int 0, .int 0, .int 0, .null, .null, .null, .null, .null])
theorem sw_d3 : ∀ j, j < 12 → defaultValue (tyX3 j) = vp_V [.null, .null, .int 0, .null, .null, .null, .null, .null, .null, .null, .null, .null] j := fun j hj => by
  rcases (show j = 0 ∨ j = 1 ∨ j = 2 ∨ j = 3 ∨ j = 4 ∨ j = 5 ∨ j = 6 ∨ j = 7 ∨ j = 8 ∨ j = 9 ∨ j = 10 ∨ j = 11 by omega) with rfl | rfl | rfl | rfl | rfl | rfl | rfl | rfl | rfl | rfl | rfl | rfl <;> rfl
theorem sw_d4 : ∀ j, j < 36 → defaultValue (tyX4 j) = vp_V [.null, .null, .null, .int 0, .null, .null, .null, .null, .null, .null, .int 0, .int 0, .int 0, .int 0, .null, .null, .null, .null, .int 0, .int 0, .int 0, .int 0, .int 0, .int 0, .null, .null, .null, .int 0, .int 0, .int 0, .int 0, .null, .null, .null, .null, .null] j := fun j hj => by
  rcases (show j = 0 ∨ j = 1 ∨ j = 2 ∨ j = 3 ∨ j = 4 ∨ j = 5 ∨ j = 6 ∨ j = 7 ∨ j = 8 ∨ j = 9 ∨ j = 10 ∨ j = 11 ∨ j = 12 ∨ j = 13 ∨ j = 14 ∨ j = 15 ∨ j = 16 ∨ j = 17 ∨ j = 18 ∨ j = 19 ∨ j = 20 ∨ j = 21 ∨ j = 22 ∨ j = 23 ∨ j = 24 ∨ j = 25 ∨ j = 26 ∨ j = 27 ∨ j = 28 ∨ j = 29 ∨ j = 30 ∨ j = 31 ∨ j = 32 ∨ j = 33 ∨ j = 34 ∨ j = 35 by omega) with rfl | rfl | rfl | rfl | rfl | rfl | rfl | rfl | rfl | rfl | rfl | rfl | rfl | rfl | rfl | rfl | rfl | rfl | rfl | rfl | rfl | rfl | rfl | rfl | rfl | rfl | rfl | rfl | rfl | rfl | rfl | rfl | rfl | rfl | rfl | rfl <;> rfl
/-- what the two worlds of an entry are apart by -/
theorem sw_C {p : Program} {s : State} {m : MethodId} {meth : Method} {c : Code} {b L : Nat} {xs : Nat → Int32} {adK : Nat → Nat} {tP tQ : Nat} {cA : Nat → ClassId} {D : va_G} {u v : Nat → Nat}
    (S : CallFix p m c code 4 s #[Value.ref b] lw_gd R_law) (hr : meth.sig.returnType = ret) (hlk : meth.locks = false) (hX : va_X b L xs s s.heap) (hbl : b < s.heap.size) (hL : L ≤ 3072)
    (hK : va_K D vwCl [(cA 0, .int), (cA 1, .long), (cA 2, .boolean), (cA 3, .object "java/lang/String")] s) (hroX : ∀ G : mm_G, G.2.1 = adK → G.1 46 = tP → G.1 47 = tQ → mm_ro G lenX 46 48 roX rsA nfA nmA ssX (la_A s) s s.heap) (hro : ∀ (G : mm_G) (lenA : Nat → Nat) (n : Nat) (ro : Nat → Nat → Int32), G.2.1 = adK → mm_ro G lenA n n ro rsA nfA nmA [] (la_A s) s s.heap)
    (hD : va_D (la_A s) (mm_ws (sg_GX u tP tQ adK cA D) lyTX lyFA lenX snX 46 sg_z ++ mm_ws (sg_GM v adK cA D) lyTM lyFA lenM snM 22 sg_w)) : la_C p s m meth c b L xs (sg_GX u tP tQ adK cA D) (sg_GM v adK cA D) := by
  have gX : ∀ k, k < 46 → (mm_ws (sg_GX u tP tQ adK cA D) lyTX lyFA lenX snX 46 sg_z ++ mm_ws (sg_GM v adK cA D) lyTM lyFA lenM snM 22 sg_w)[k]? = some ((sg_GX u tP tQ adK cA D).1 k, mm_en (sg_GX u tP tQ adK cA D) lyTX lyFA lenX snX sg_z k) := fun k hk => by
    rw [List.getElem?_append_left (by rw [mm_ws_len]; exact hk)]
    exact mm_ws_get _ hk
  have gM : ∀ k, k < 22 → (mm_ws (sg_GX u tP tQ adK cA D) lyTX lyFA lenX snX 46 sg_z ++ mm_ws (sg_GM v adK cA D) lyTM lyFA lenM snM 22 sg_w)[46 + k]? = some ((sg_GM v adK cA D).1 k, mm_en (sg_GM v adK cA D) lyTM lyFA lenM snM sg_w k) := fun k hk => by
    rw [List.getElem?_append_right (by rw [mm_ws_len]; omega), mm_ws_len, show 46 + k - 46 = k by omega]
    exact mm_ws_get _ hk
  refine ⟨S, hr, hlk, hX, hbl, hL, hK, hK, hroX _ rfl rfl rfl, hro _ lenM 22 roM rfl, fun i j hi hj e => hD.1 i j _ _ (gX i hi) (gX j hj) e, fun i j hi hj e => ?_, fun i j hi hj e => ?_, fun i hi => hD.2 i _ (gX i hi), fun j hj => hD.2 (46 + j) _ (gM j hj)⟩
  · have := hD.1 (46 + i) (46 + j) _ _ (gM i hi) (gM j hj) e
    omega
  · have := hD.1 i (46 + j) _ _ (gX i hi) (gM j hj) e
    omega
set_option maxRecDepth 100000 in
set_option maxHeartbeats 4000000 in
theorem whole_start {p : Program} {e : Env} {s : State} {m : MethodId} {below : List Frame} {meth : Method} {c : Code} (l : Launch) (hflags : l.flags = flags0) {b L : Nat} {xs : Nat → Int32} (hL : L ≤ 3072) (C0 : lw_At p s m meth c b L xs) : W p l e room_1 s m #[Value.ref b] below meth c s.heap [] 0 0 (lw_Z below #[Value.ref b] s) (entryFrame m ([Value.ref b] : List Value).toArray 4) := by
  obtain ⟨hx, hb, hr, hml, ho, hts0, hX, hbl, hlk, hgv⟩ := C0
  have hts : ∀ w ∈ lw_gd, w.before #[Value.ref b] s = true := fun w hw => hts0 w (List.mem_filter.mp hw).1
  have S : CallFix p m c code 4 s #[Value.ref b] lw_gd R_law := ⟨hx, hb, hml, ho, hts⟩
  obtain ⟨adK, tP, tQ, cA, D, hK, hroX, hro, hAO⟩ := sg_start hts0 hgv
  have hA : ∀ q : Nat, s.heap.size ≤ q → la_A s q := fun q h => h
  have hl := lv_entry ([.ref b]) (n := 4) (Nat.le_of_ble_eq_true rfl)
  rw [lg_entry_eq]
  generalize (lg_sl ([.ref b]) ++ List.replicate (4 - (lg_sl ([.ref b])).length) Slot.unset).toArray = la at hl ⊢
  have hl : lv_has la 4 [(0, .ref b)] := hl
  have hla := hl.1
  have hS : va_S (la_A s) s.heap s.heap [] := va_S.rf
  have hP : va_P D vwCl [] s.heap := fun k q h => (by cases h)
  have hD : va_D (la_A s) [] := ⟨fun i j x y h => (by cases h), fun k q h => (by cases h)⟩
  have hro0 := hro (sg_G0 adK cA D) (fun _ => 0) 0 (fun _ _ => 0) rfl
  refine va_new (ci := 3) (fs := [.null, .null, .int 0, .null, .null, .null, .null, .null, .null, .null, .null, .null]) (C := RX3) (T := TX3) (N := 12) hx hb hts wkX3 tyX3 tyX3_ok ho (hts _ sw_7) (hts _ cw_23) (hts _ cw_24) hK hP hD hS hA rfl sw_d3 (Nat.le_of_ble_eq_true rfl) (Nat.le_of_ble_eq_true rfl) dl_0 (fun q1 H hP hD hS => ?_)
  have hP : va_P D vwCl [(q1, sw_x3)] H := hP
  have hD : va_D (la_A s) [(q1, sw_x3)] := hD
  refine lv_dup hx hb dl_3 rfl ?_
  have hFc := va_free (wc := [(q1, sw_x3)]) hD hS hA [0] rfl
  refine va_callv (va_runI (As := []) (rest := [.ref q1]) S (ct_X3 l (sg_G0 adK cA D) q1 H.size) (cwI 0 hts (tx_good cw_27) rfl rfl rfl (hts _ cw_24) (hts _ sw_9) (hts _ cw_25) rfl ⟨by decide, by decide, by decide +kernel⟩ ⟨Nat.le_of_ble_eq_true rfl, Nat.le_of_ble_eq_true rfl⟩) ⟨ct_blind, fun U hU hW => ct_in S hK hro0 hAO hS hP hD hFc hU hW⟩ rfl rfl hla rfl (lv_room (Nat.le_of_ble_eq_true rfl)) dl_4 ⟨Nat.le_of_ble_eq_true rfl, Nat.le_of_ble_eq_true rfl⟩) hS (fun y _ h => hFc y h) hFc (fun u t H1 locs1 ht hvm hw hB hz1 hk1 hS1 => ?_)
  obtain ⟨hP1, hD1⟩ := hB
  rw [ht] at hP1
  have hw0 : u 0 = q1 := hw
  subst hw0
  have hP1 : va_P D vwCl (bk_X3 (sg_G0 adK cA D) u) H1 := hP1
  have hD1 : va_D (la_A s) (bk_X3 (sg_G0 adK cA D) u) := hD1.weaken (fun _ _ _ h => hFc _ h)
  refine lv_astore_n (i := 1) (lv' := [(1, .ref (u 0)), (0, .ref b)]) hx hb dl_7 rfl hl (by decide) rfl (fun la hl => ?_)
  have hla := hl.1
  refine va_new (ci := 4) (fs := [.null, .null, .null, .int 0, .null, .null, .null, .null, .null, .null, .int 0, .int 0, .int 0, .int 0, .null, .null, .null, .null, .int 0, .int 0, .int 0, .int 0, .int 0, .int 0, .null, .null, .null, .int 0, .int 0, .int 0, .int 0, .null, .null, .null, .null, .null]) (C := RX4) (T := TX4) (N := 36) hx hb hts wkX4 tyX4 tyX4_ok ho (hts _ sw_10) (hts _ cw_33) (hts _ cw_34) hK hP1 hD1 hS1 hA rfl sw_d4 (Nat.le_of_ble_eq_true rfl) (Nat.le_of_ble_eq_true rfl) dl_8 (fun q2 H2 hP2 hD2 hS2 => ?_)
  have hP2 : va_P D vwCl (bk_X3 (sg_G0 adK cA D) u ++ [(q2, sw_x4)]) H2 := hP2
  have hD2 : va_D (la_A s) (bk_X3 (sg_G0 adK cA D) u ++ [(q2, sw_x4)]) := hD2
  refine lv_dup hx hb dl_11 rfl ?_
  have hPc := hP2.sub (ws' := [(q2, sw_x4)]) [46] rfl
  have hDc := hD2.sub (ws' := [(q2, sw_x4)]) [46] (by decide) rfl
  have hFc2 := va_free (wc := [(q2, sw_x4)]) hD2 hS2 hA [46] rfl
  refine va_callv (va_runI (As := []) (rest := [.ref q2]) S (ct_X4 l (sg_G0 adK cA D) q2 H2.size) (cwI 0 hts (tx_good cw_37) rfl rfl rfl (hts _ cw_34) (hts _ sw_12) (hts _ cw_35) rfl ⟨by decide, by decide, by decide +kernel⟩ ⟨Nat.le_of_ble_eq_true rfl, Nat.le_of_ble_eq_true rfl⟩) ⟨ct_blind, fun U hU hW => ct_in S hK hro0 hAO hS2 hPc hDc hFc2 hU hW⟩ rfl rfl hla rfl (lv_room (Nat.le_of_ble_eq_true rfl)) dl_12 ⟨Nat.le_of_ble_eq_true rfl, Nat.le_of_ble_eq_true rfl⟩) hS2 (fun y _ h => hFc2 y h) hFc2 (fun v t2 H3 locs3 ht3 hvm3 hw3 hB3 hz3 hk3 hS3 => ?_)
  obtain ⟨hP3, hD3⟩ := hB3
  rw [ht3] at hP3
  have hw0 : v 0 = q2 := hw3
  subst hw0
  have hP3 : va_P D vwCl (bk_X4 (sg_G0 adK cA D) v) H3 := hP3
  obtain ⟨hPj, hDj⟩ := va_join (wr := bk_X3 (sg_G0 adK cA D) u) (w1 := bk_X4 (sg_G0 adK cA D) v) hP2 hD2 [46] [0, 1, 2, 3, 4, 5, 6, 7, 8, 9, 10, 11, 12, 13, 14, 15, 16, 17, 18, 19, 20, 21, 22, 23, 24, 25, 26, 27, 28, 29, 30, 31, 32, 33, 34, 35, 36, 37, 38, 39, 40, 41, 42, 43, 44, 45] rfl rfl (by decide) (by decide) hk3 hFc2 hP3 hD3
  have hPX : va_P D vwCl (mm_ws (sg_GX u tP tQ adK cA D) lyTX lyFA lenX snX 46 sg_z) H3 := by
    rw [← sg_X]
    exact fun k q hq => hPj k q (by rw [List.getElem?_append_left (List.getElem?_eq_some_iff.mp hq).1]; exact hq)
  have hPM : va_P D vwCl (mm_ws (sg_GM v adK cA D) lyTM lyFA lenM snM 22 sg_w) H3 := sg_M hP3
  have hDA : va_D (la_A s) (mm_ws (sg_GX u tP tQ adK cA D) lyTX lyFA lenX snX 46 sg_z ++ mm_ws (sg_GM v adK cA D) lyTM lyFA lenM snM 22 sg_w) := by
    refine sg_D hDj ?_
    rw [List.map_append, List.map_append, sg_X u tP tQ, sg_M1]
  have CC := sw_C (m := m) (meth := meth) S hr hlk hX hbl hL hK hroX hro hDA
  refine lv_astore_n (i := 2) (lv' := [(2, .ref (v 0)), (1, .ref (u 0)), (0, .ref b)]) hx hb dl_15 rfl hl (by decide) rfl (fun la hl => ?_)
  refine lv_iconst hx hb dl_16 (rfl : Int32.ofInt 0 = nI 0) ?_
  refine lv_istore_n (i := 3) (lv' := [(3, .int (nI 0)), (2, .ref (v 0)), (1, .ref (u 0)), (0, .ref b)]) hx hb dl_17 rfl hl (by decide) rfl (fun la hl => ?_)
  exact la_loop CC eqp_all L 0 sg_z sg_w H3 locs3 la (by omega) (by decide) sg_Rel hPX hPM hS3 hl
