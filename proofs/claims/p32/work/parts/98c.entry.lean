/-! THE LAW FROM ITS ENTRY -/
theorem bPreS {s : State} {H : Heap} {locs : List Loc} {D : va_G} {sw : Sw} {A : Nat → Prop} {cs : Cs} {ad : Nat → Nat} {M : Mm} {X : va_W} {b L : Nat} {xs : Nat → Int32} (hSW : SW sw A s s.heap) (hS : va_S A s.heap H locs) (hA : ∀ q, s.heap.size ≤ q → A q) (hK : va_K D vwCl (tysC cs) s) (hP : va_P D vwCl (wl cs LC NC ad M ++ X) H) (hD : va_D A (wl cs LC NC ad M ++ X)) (hX : va_X b L xs s s.heap) (hbl : b < s.heap.size) (hbA : ¬ A b) (hO : va_AO "java/lang/String" s) (As : List Value) : PreS s H (va_Pc As (bPre D sw cs ad M X H.size b L xs)) As :=
  ⟨fun a U g mk q => ⟨q.1, ((wPre_blind As H.size) a U g mk ⟨q.1, q.2.1⟩).2, va_X.moved (u := U) (U := U.calling g mk a) (Vm.Alike.refl U.vm) q.2.2.1, va_AO.moved (u := U) (U := U.calling g mk a) (Vm.Alike.refl U.vm) q.2.2.2⟩, fun U hU hW => ⟨rfl, ((wPreS hSW hS hA hK hP hD As).2 U hU hW).2, ((xPreS hX hbl hbA hS As).2 U hU hW).2, va_AO.moved hW.alike hO⟩⟩
theorem bD_f {A : Nat → Prop} {cs : Cs} {ad : Nat → Nat} {M M' : Mm} {o : Nat} {f f' : Nat → Int32} (h : va_D A (wl cs LC NC ad M ++ [(o, .inl (cs.1, 80, .inl f))])) : va_D A (wl cs LC NC ad M' ++ [(o, .inl (cs.1, 80, .inl f'))]) := by
  have h1 := wl_D M' h
  have h2 := w_swapD (e2 := .inl (cs.1, 80, .inl f')) (wx_get (cs := cs) (L := LC) (N := NC) (ad := ad) (M := M') (X := [(o, .inl (cs.1, 80, .inl f))]) (j := 0) rfl) h1
  rw [wx_set] at h2
  exact h2
set_option maxHeartbeats 4000000 in
set_option maxRecDepth 100000 in
theorem p32_of {p : Program} {e : Env} {s : State} {m : MethodId} {below : List Frame} {meth : Method} {c : Code} (l : Launch) (hfl : l.stackTraces = false) {b L : Nat} {xs : Nat → Int32} (hL : L ≤ 260) (hx : p.tables.exec = Jvm.exec) (hb : c.code = code) (hml : c.maxLocals = 14) (hown : s.vm.findClass RL = some m.cls) (hts0 : ∀ w ∈ lw_tbl, w.before #[Value.ref b] s = true) (hX : va_X b L xs s s.heap) (hbl : b < s.heap.size) (hgv : (Jvm.Cond.and given_1 narrow_1).before #[Value.ref b] s = true) {Q : State → Prop} (fin : ∀ (H : Heap) (ls : Array Slot), W p l e room_1 s m #[Value.ref b] below meth c H [] 600172 7300668 Q (F0 m 493 ls [.int 1])) : W p l e room_1 s m #[Value.ref b] below meth c s.heap [] 0 0 Q (entryFrame m ([Value.ref b] : List Value).toArray 14) := by
  have hts : ∀ w ∈ Cond.arrayClass .int :: WG, w.before #[Value.ref b] s = true := fun w h => by
    rcases List.mem_cons.mp h with rfl | h
    · exact hts0 _ (WG_lw m1_47)
    · exact hts0 _ (WG_lw h)
  have hwd : ∀ w ∈ WG, w.before #[Value.ref b] s = true := fun w h => hts0 _ (WG_lw h)
  have hf := flat_of_before _ hgv
  obtain ⟨D, cs, hK⟩ := K_of hts0
  obtain ⟨sw, hSW⟩ := SW_of hf hts0 (hK.1 5 _ rfl).2.1
  have hC := CW_of hts0
  have hAO : va_AO "java/lang/String" s := va_AO.of (hts0 _ sL7)
  have hb : c.code = cL_law := hb
  have CX : CallFix p m c cL_law 14 s #[Value.ref b] (Cond.arrayClass .int :: WG) RL := ⟨hx, hb, hml, hown, hts⟩
  have hL31 : L < 2 ^ 31 := by omega
  have hR : 500 ≤ room_1.frames ∧ 20000 ≤ room_1.locals := ⟨Nat.le_of_ble_eq_true rfl, Nat.le_of_ble_eq_true rfl⟩
  have K : LK l p room_1 s m c b L xs D sw cs := ⟨CX, ⟨hX, hL31⟩, hbl, hK, hSW, hC, hAO, hfl, hR⟩
  have hA : ∀ q : Nat, s.heap.size ≤ q → AL s q := fun _ h => h
  have hbA : ¬ AL s b := Nat.not_le.mpr hbl
  have km := hwd _ m1_47
  have hS : va_S (AL s) s.heap s.heap [] := va_S.rf
  have hP : va_P D vwCl [] s.heap := fun k q h => by simp at h
  have hD : va_D (AL s) [] := ⟨fun i j p q h => by simp at h, fun k q h => by simp at h⟩
  have hl := lv_entry ([.ref b]) (n := 14) (Nat.le_of_ble_eq_true rfl)
  rw [lg_entry_eq]
  generalize (lg_sl ([.ref b]) ++ List.replicate (14 - (lg_sl ([.ref b])).length) Slot.unset).toArray = ls at hl ⊢
  have hl : lv_has ls 14 [(0, .ref b)] := hl
  have hX : va_X b L xs s s.heap ∧ L < 2 ^ 31 := ⟨hX, hL31⟩
  refine l_new K (X0 := []) (pc := 0) (k0 := 0) (j0 := 0) (Nat.le_of_ble_eq_true rfl) (Nat.le_of_ble_eq_true rfl) dL_law_0 dL_law_3 dL_law_4 hP hD hS hl.1 (fun ad H locs hP hD hS => ?_)
  refine lv_astore_n (lv' := [(1, .ref (ad 0)), (0, .ref b)]) hx hb dL_law_7 rfl hl (by decide) rfl (fun ls hl => ?_)
  refine lv_bipush (v := 80) hx hb dL_law_8 (by decide) ?_
  refine k_new (X := wl cs LC NC ad M0) (lx := []) (n := 80) hx hb km hK hP hD hS hA rfl (by decide) (Nat.le_of_ble_eq_true rfl) (Nat.le_of_ble_eq_true rfl) dL_law_10 (fun o H hP hD hS => ?_)
  have hP : va_P D vwCl (wl cs LC NC ad M0 ++ [(o, .inl (cs.1, 80, .inl (fun _ => 0 : Nat → Int32)))]) H := hP
  have hD : va_D (AL s) (wl cs LC NC ad M0 ++ [(o, .inl (cs.1, 80, .inl (fun _ => 0 : Nat → Int32)))]) := hD
  refine W.widen (k := 300) (n := 15000) (by decide) (by decide) ?_
  refine lv_astore_n (lv' := [(2, .ref o), (1, .ref (ad 0)), (0, .ref b)]) hx hb dL_law_12 rfl hl (by decide) rfl (fun ls hl => ?_)
  refine lv_aload_n hx hb dL_law_13 rfl (lv_at hl 1 rfl) ?_
  refine lv_aload_n hx hb dL_law_14 rfl (lv_at hl 2 rfl) ?_
  refine lv_iconst (v := 0) hx hb dL_law_15 (by decide) ?_
  refine top_i (y := 0) rfl ?_
  refine lv_bipush (v := 60) hx hb dL_law_16 (by decide) ?_
  skip
  refine lv_aload_n hx hb dL_law_18 rfl (lv_at hl 0 rfl) ?_
  have hbW : ¬ wA NC ad [(o, .inl (cs.1, 80, .inl (fun _ => 0 : Nat → Int32)))] H.size b := fun h => hbA (wA_free hD hS hA _ h)
  refine va_calli (va_runS (As := [.ref (ad 0), .ref b, .int 0, .int 60, .ref o]) (rest := []) CX (ctL_build l hfl D sw cs ad b L xs hL31 o H.size M0 (fun _ => 0 : Nat → Int32) (Ok_0 (fun _ => 0)) hbW) (va_cwS 5 hts (gwS m3_177 m3_178 m1_0 m3_179) rfl rfl rfl (by decide +kernel) ⟨Nat.le_trans (Nat.le_of_ble_eq_true rfl) hR.1, Nat.le_trans (Nat.le_of_ble_eq_true rfl) hR.2⟩) (bPreS hSW hS hA hK hP hD hX.1 hbl hbA hAO _) rfl rfl hl.1 rfl (lv_room (Nat.le_of_ble_eq_true rfl)) dL_law_19 ⟨Nat.le_of_ble_eq_true rfl, Nat.le_of_ble_eq_true rfl⟩) hS (fun q _ h => wA_free hD hS hA q h) (wA_free hD hS hA) (fun r u t H1 locs ht hvm hw1 hB hz1 hk1 hS => ?_)
  obtain ⟨M, n, cd, f⟩ := u
  obtain ⟨hr, hO, hw, hn, hf9⟩ := hw1
  dsimp only at hr hO hw hn hf9 hB
  subst hr
  rw [ht] at hB
  have hP : va_P D vwCl (wl cs LC NC ad M ++ [(o, .inl (cs.1, 80, .inl f))]) H1 := hB
  have hD : va_D (AL s) (wl cs LC NC ad M ++ [(o, .inl (cs.1, 80, .inl f))]) := bD_f hD
  generalize H1 = H at hP hS ⊢
  refine W.widen (k := 7000) (n := 80000) (by decide) (by decide) ?_
  refine lv_istore_n (lv' := [(3, .int (nI n)), (2, .ref o), (1, .ref (ad 0)), (0, .ref b)]) hx hb dL_law_22 rfl hl (by decide) rfl (fun ls hl => ?_)
  refine lv_iload_n hx hb dL_law_23 rfl (lv_at hl 0 rfl) ?_
  refine lv_if_ge (tgt := 29) hx hb dL_law_24 (by decide) (fun _ => ?_) (fun h9 => absurd (nI_le (a := 0) (Nat.zero_le _) (by omega)) h9)
  refine lv_aload_n hx hb dL_law_29 rfl (lv_at hl 2 rfl) ?_
  obtain ⟨M3, e1, hO1⟩ := k_variants hO
  refine w_calli (va_runV (As := []) (rest := []) CX (ctX7_variants l D sw cs ad ([(o, .inl (cs.1, 80, .inl f))]) H.size M e1) (cwV 0 hts (gwV m3_76 m3_77 m3_78 m1_1 m3_79) rfl rfl rfl (by decide +kernel) ⟨Nat.le_trans (Nat.le_of_ble_eq_true rfl) hR.1, Nat.le_trans (Nat.le_of_ble_eq_true rfl) hR.2⟩) (wPreV hSW hS hA hK hP hD (by decide) rfl rfl _) rfl rfl hl.1 rfl (lv_room (Nat.le_of_ble_eq_true rfl)) dL_law_30 ⟨Nat.le_of_ble_eq_true rfl, Nat.le_of_ble_eq_true rfl⟩) hD hS hA (fun H locs hP hD hS => ?_)
  replace hO := hO1
  refine lv_istore (lv' := [(4, .int (nVar cd n)), (3, .int (nI n)), (2, .ref o), (1, .ref (ad 0)), (0, .ref b)]) hx hb dL_law_33 hl (by decide) rfl (fun ls hl => ?_)
  refine lv_aload_n hx hb dL_law_35 rfl (lv_at hl 4 rfl) ?_
  refine lv_bipush (v := 12) hx hb dL_law_36 (by decide) ?_
  refine top_i (y := (nI 12)) (rfl) ?_
  refine r_calli (r := (cel L xs 12)) (W.runS (As := [.ref b, .int (nI 12)]) (rest := []) CX (ctL_cell l b L xs 12 (by decide) hX.2) (va_cwS 2 hts (gwS m3_173 m3_174 m1_0 m3_175) rfl rfl rfl (by decide +kernel) ⟨Nat.le_trans (Nat.le_of_ble_eq_true rfl) hR.1, Nat.le_trans (Nat.le_of_ble_eq_true rfl) hR.2⟩) (xPreS hX.1 hbl hbA hS _) rfl rfl hl.1 rfl (lv_room (Nat.le_of_ble_eq_true rfl)) dL_law_38 ⟨Nat.le_of_ble_eq_true rfl, Nat.le_of_ble_eq_true rfl⟩) ?_
  refine lv_bipush (v := 16) hx hb dL_law_41 (by decide) ?_
  obtain ⟨c0, hc0, ec⟩ := blw_j (cel L xs 12) (k := 16) (by decide) (by decide)
  refine r_calli (r := (blw (cel L xs 12) (16 : Int32))) (W.runS (As := [.int (cel L xs 12), .int (16 : Int32)]) (rest := []) CX (ctL_below l (cel L xs 12) 16 (by decide)) (va_cwS 2 hts (gwS m3_169 m3_170 m1_0 m3_171) rfl rfl rfl (by decide +kernel) ⟨Nat.le_trans (Nat.le_of_ble_eq_true rfl) hR.1, Nat.le_trans (Nat.le_of_ble_eq_true rfl) hR.2⟩) (pPreS _) rfl rfl hl.1 rfl (lv_room (Nat.le_of_ble_eq_true rfl)) dL_law_43 ⟨Nat.le_of_ble_eq_true rfl, Nat.le_of_ble_eq_true rfl⟩) ?_
  refine top_i (y := (nI c0)) (ec.symm) ?_
  refine lv_istore (lv' := [(5, .int (nI c0)), (4, .int (nVar cd n)), (3, .int (nI n)), (2, .ref o), (1, .ref (ad 0)), (0, .ref b)]) hx hb dL_law_46 hl (by decide) rfl (fun ls hl => ?_)
  refine lv_iconst (v := 0) hx hb dL_law_48 (by decide) ?_
  refine top_i (y := (nI 0)) (rfl) ?_
  refine lv_istore (lv' := [(6, .int (nI 0)), (5, .int (nI c0)), (4, .int (nVar cd n)), (3, .int (nI n)), (2, .ref o), (1, .ref (ad 0)), (0, .ref b)]) hx hb dL_law_49 hl (by decide) rfl (fun ls hl => ?_)
  refine W.widen (k := 7000 + 7000 * 0) (n := 80000 + 80000 * 0) (by decide) (by decide) ?_
  refine lRs K hw hn hf9 hc0 (k0 := 7000) (j0 := 80000) (V := nVar cd n) (Nat.le_of_ble_eq_true rfl) (Nat.le_of_ble_eq_true rfl) (fun M H locs ls hO hP hD hS hl => ?_) 4 0 rfl M3 H locs ls hO hP hD hS (lv_sub hl [0, 6, 5, 4, 3, 2, 1] rfl)
  refine W.widen (k := 35000) (n := 400000) (Nat.le_of_ble_eq_true rfl) (Nat.le_of_ble_eq_true rfl) ?_
  have r1 : 35000 + 1000 ≤ room_1.cells := Nat.le_of_ble_eq_true rfl
  have r2 : 400000 + 10000 ≤ room_1.slots := Nat.le_of_ble_eq_true rfl
  have r3 : 35000 + 1000 ≤ 600172 := Nat.le_of_ble_eq_true rfl
  have r4 : 400000 + 10000 ≤ 7300668 := Nat.le_of_ble_eq_true rfl
  exact lZ K hw hn hf9 hc0 (k0 := 35000) (j0 := 400000) r1 r2 r3 r4 rfl fin hO hP hD hS hl
