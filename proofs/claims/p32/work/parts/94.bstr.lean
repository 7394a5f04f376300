set_option maxRecDepth 100000 in
theorem s_max : ∀ j ∈ List.range 14, nI (sLen j - 8) = (if (0 : Int32) < (nI (sLen j) - (8 : Int32)) then (nI (sLen j) - (8 : Int32)) else (0 : Int32)) := by decide +kernel
set_option maxHeartbeats 4000000 in
set_option maxRecDepth 100000 in
theorem bs_step {p : Program} {l : Launch} {e : Env} {R : Room} {s : State} {m : MethodId} {args : Array Value} {below : List Frame} {meth : Method} {c : Code} {Q : State → Prop} {A : Nat → Prop} {D : va_G} {sw : Sw} {cs : Cs} {cT : ClassId} {b L : Nat} {xs : Nat → Int32} (K : BK l p R s m args c A D sw cs cT b L xs) {ad : Nat → Nat} {o q1 q2 P k : Nat} {c0 s0 : Nat} (hcs : c0 + 100 ≤ R.cells) (hss : s0 + 1000 ≤ R.slots) {M : Mm} {n : Nat} {u : List (Nat × Bool)} {f g : Nat → Int32} {j : Nat} (hj : j < 14) {i : Nat} (hi : i < sLen j) (hn : n + sLen j ≤ 60) {H : Heap} {locs : List Loc} {ls : Array Slot} (hP : va_P D vwCl (wl cs LC NC ad M ++ xB cs cT sw o q1 q2 (fStr f n j i) g) H) (hD : va_D A (wl cs LC NC ad M ++ xB cs cT sw o q1 q2 (fStr f n j i) g)) (hS : va_S A s.heap H locs) (hl : lv_has ls 21 [(6, .int (nI (n + i))), (20, .int (nI i)), (16, .long (by2 j i).1), (18, .long (by2 j i).2), (15, .ref (sw.1 (15 + j))), (7, .int (nI u.length)), (10, .int (nI k)), (0, .ref (ad 0)), (1, .ref b), (2, .int 0), (3, .int 60), (4, .ref o), (5, .ref q1), (8, .ref q2), (9, .int (nI P))]) (kk : ∀ (H : Heap) (locs : List Loc) (ls : Array Slot), va_P D vwCl (wl cs LC NC ad M ++ xB cs cT sw o q1 q2 (fStr f n j (i + 1)) g) H → va_D A (wl cs LC NC ad M ++ xB cs cT sw o q1 q2 (fStr f n j (i + 1)) g) → va_S A s.heap H locs → lv_has ls 21 [(6, .int (nI (n + (i + 1)))), (20, .int (nI (i + 1))), (16, .long (by2 j (i + 1)).1), (18, .long (by2 j (i + 1)).2), (15, .ref (sw.1 (15 + j))), (7, .int (nI u.length)), (10, .int (nI k)), (0, .ref (ad 0)), (1, .ref b), (2, .int 0), (3, .int 60), (4, .ref o), (5, .ref q1), (8, .ref q2), (9, .int (nI P))] → W p l e R s m args below meth c H locs c0 s0 Q (F0 m 250 ls [])) : W p l e R s m args below meth c H locs c0 s0 Q (F0 m 250 ls []) := by
  obtain ⟨CX, hX, hbl, hbA, hK, hKT, hSW, hfl, hA, hR⟩ := id K
  obtain ⟨hx, hb, hml, hown, hts⟩ := id CX
  have hw : ∀ w ∈ WG, w.before args s = true := fun w h => hts w (List.mem_cons_of_mem _ h)
  have hj29 : 15 + j < 29 := by omega
  have h10 := (s_len j (List.mem_range.mpr hj)).2.2
  refine lv_iload hx hb dL_build_250 (lv_at hl 1 rfl) ?_
  refine lv_aload hx hb dL_build_252 (lv_at hl 4 rfl) ?_
  refine r_calli (r := (nI (sLen j))) (W.runV (As := []) (rest := [.int (nI i)]) CX (ctJ0_length_8abf5 l sw (15 + j) hj29 (s_len j (List.mem_range.mpr hj)).1) (cwV 0 hts (gwV m3_196 m2_191 m2_192 m1_7 m2_193) rfl rfl rfl (by decide +kernel) ⟨Nat.le_trans (Nat.le_of_ble_eq_true rfl) hR.1, Nat.le_trans (Nat.le_of_ble_eq_true rfl) hR.2⟩) (sPreV (hSW.wr hS) hj29 _) rfl rfl hl.1 rfl (lv_room (Nat.le_of_ble_eq_true rfl)) dL_build_254 ⟨Nat.le_trans (show _ ≤ c0 + 100 by omega) hcs, Nat.le_trans (show _ ≤ s0 + 1000 by omega) hss⟩) ?_
  refine lv_icmp_ge (tgt := 323) hx hb dL_build_257 (by decide) (fun h9 => absurd h9 (nI_ge hi (by omega))) (fun _ => ?_)
  refine lv_iload hx hb dL_build_260 (lv_at hl 1 rfl) ?_
  refine lv_bipush (v := 8) hx hb dL_build_262 (by decide) ?_
  refine lv_icmp_ge (tgt := 286) hx hb dL_build_264 (by decide) (fun h9 => ?_) (fun h9 => ?_)
  · have h8 : ¬ i < 8 := fun q => nI_ge (b := 8) q (by omega) h9
    refine lv_lload hx hb dL_build_286 (lv_at hl 3 rfl) ?_
    refine lv_bipush (v := 8) hx hb dL_build_288 (by decide) ?_
    refine lv_lshl hx hb dL_build_290 rfl ?_
    refine lv_aload hx hb dL_build_291 (lv_at hl 4 rfl) ?_
    refine lv_iload hx hb dL_build_293 (lv_at hl 1 rfl) ?_
    refine r_calli (r := (nI (sCh j i))) (W.runV (As := [.int (nI i)]) (rest := [.long ((by2 j i).2 <<< (((8 : Int32)).toInt64 &&& 63))]) CX (ctJ0_charAt_5068e l sw (15 + j) hj29 (nI i) (s_chr j (List.mem_range.mpr hj) i (List.mem_range.mpr hi)).1) (cwV 1 hts (gwV m3_197 m2_201 m2_202 m1_7 m2_203) rfl rfl rfl (by decide +kernel) ⟨Nat.le_trans (Nat.le_of_ble_eq_true rfl) hR.1, Nat.le_trans (Nat.le_of_ble_eq_true rfl) hR.2⟩) (sPreV (hSW.wr hS) hj29 _) rfl rfl hl.1 rfl (lv_room (Nat.le_of_ble_eq_true rfl)) dL_build_295 ⟨Nat.le_trans (show _ ≤ c0 + 100 by omega) hcs, Nat.le_trans (show _ ≤ s0 + 1000 by omega) hss⟩) ?_
    refine lv_i2l hx hb dL_build_298 rfl ?_
    refine lv_lor hx hb dL_build_299 ?_
    refine top_l (y := (by2 j (i + 1)).2) (by show (if i < 8 then _ else _ : Int64 × Int64).2 = _; rw [if_neg h8]) ?_
    refine lv_lstore (lv' := [(18, .long (by2 j (i + 1)).2), (6, .int (nI (n + i))), (20, .int (nI i)), (16, .long (by2 j i).1), (15, .ref (sw.1 (15 + j))), (7, .int (nI u.length)), (10, .int (nI k)), (0, .ref (ad 0)), (1, .ref b), (2, .int 0), (3, .int 60), (4, .ref o), (5, .ref q1), (8, .ref q2), (9, .int (nI P))]) hx hb dL_build_300 hl (by decide) rfl (fun ls hl => ?_)
    have e2 : (by2 j i).1 = (by2 j (i + 1)).1 := by show _ = (if i < 8 then _ else _ : Int64 × Int64).1; rw [if_neg h8]
    rw [e2] at hl
    refine lv_aload hx hb dL_build_302 (lv_at hl 11 rfl) ?_
    refine lv_iload hx hb dL_build_304 (lv_at hl 1 rfl) ?_
    refine lv_aload hx hb dL_build_306 (lv_at hl 4 rfl) ?_
    refine lv_iload hx hb dL_build_308 (lv_at hl 2 rfl) ?_
    refine r_calli (r := (nI (sCh j i))) (W.runV (As := [.int (nI i)]) (rest := [.int (nI (n + i)), .ref o]) CX (ctJ0_charAt_5068e l sw (15 + j) hj29 (nI i) (s_chr j (List.mem_range.mpr hj) i (List.mem_range.mpr hi)).1) (cwV 1 hts (gwV m3_197 m2_201 m2_202 m1_7 m2_203) rfl rfl rfl (by decide +kernel) ⟨Nat.le_trans (Nat.le_of_ble_eq_true rfl) hR.1, Nat.le_trans (Nat.le_of_ble_eq_true rfl) hR.2⟩) (sPreV (hSW.wr hS) hj29 _) rfl rfl hl.1 rfl (lv_room (Nat.le_of_ble_eq_true rfl)) dL_build_310 ⟨Nat.le_trans (show _ ≤ c0 + 100 by omega) hcs, Nat.le_trans (show _ ≤ s0 + 1000 by omega) hss⟩) ?_
    refine b_sti hx hb hK hP hD hS (by omega) dL_build_313 (fun H locs hP hD hS => ?_)
    refine lv_iinc (v := (nI (n + (i + 1)))) (lv' := [(6, .int (nI (n + (i + 1)))), (18, .long (by2 j (i + 1)).2), (20, .int (nI i)), (16, .long (by2 j (i + 1)).1), (15, .ref (sw.1 (15 + j))), (7, .int (nI u.length)), (10, .int (nI k)), (0, .ref (ad 0)), (1, .ref b), (2, .int 0), (3, .int 60), (4, .ref o), (5, .ref q1), (8, .ref q2), (9, .int (nI P))]) hx hb dL_build_314 hl (k := 1) rfl (up1 (n + i)) (by decide) rfl (fun ls hl => ?_)
    refine lv_iinc (v := (nI (i + 1))) (lv' := [(20, .int (nI (i + 1))), (6, .int (nI (n + (i + 1)))), (18, .long (by2 j (i + 1)).2), (16, .long (by2 j (i + 1)).1), (15, .ref (sw.1 (15 + j))), (7, .int (nI u.length)), (10, .int (nI k)), (0, .ref (ad 0)), (1, .ref b), (2, .int 0), (3, .int 60), (4, .ref o), (5, .ref q1), (8, .ref q2), (9, .int (nI P))]) hx hb dL_build_317 hl (k := 2) rfl (up1 i) (by decide) rfl (fun ls hl => ?_)
    refine lv_goto (tgt := 250) hx hb dL_build_320 (by decide) ?_
    exact kk H locs ls hP hD hS (lv_sub hl [1, 0, 3, 2, 4, 5, 6, 7, 8, 9, 10, 11, 12, 13, 14] rfl)
  · have h8 : i < 8 := by
      by_cases q : i < 8
      · exact q
      · exact absurd (nI_le (a := 8) (b := i) (by omega) (by omega)) h9
    refine lv_lload hx hb dL_build_267 (lv_at hl 2 rfl) ?_
    refine lv_bipush (v := 8) hx hb dL_build_269 (by decide) ?_
    refine lv_lshl hx hb dL_build_271 rfl ?_
    refine lv_aload hx hb dL_build_272 (lv_at hl 4 rfl) ?_
    refine lv_iload hx hb dL_build_274 (lv_at hl 1 rfl) ?_
    refine r_calli (r := (nI (sCh j i))) (W.runV (As := [.int (nI i)]) (rest := [.long ((by2 j i).1 <<< (((8 : Int32)).toInt64 &&& 63))]) CX (ctJ0_charAt_5068e l sw (15 + j) hj29 (nI i) (s_chr j (List.mem_range.mpr hj) i (List.mem_range.mpr hi)).1) (cwV 1 hts (gwV m3_197 m2_201 m2_202 m1_7 m2_203) rfl rfl rfl (by decide +kernel) ⟨Nat.le_trans (Nat.le_of_ble_eq_true rfl) hR.1, Nat.le_trans (Nat.le_of_ble_eq_true rfl) hR.2⟩) (sPreV (hSW.wr hS) hj29 _) rfl rfl hl.1 rfl (lv_room (Nat.le_of_ble_eq_true rfl)) dL_build_276 ⟨Nat.le_trans (show _ ≤ c0 + 100 by omega) hcs, Nat.le_trans (show _ ≤ s0 + 1000 by omega) hss⟩) ?_
    refine lv_i2l hx hb dL_build_279 rfl ?_
    refine lv_lor hx hb dL_build_280 ?_
    refine top_l (y := (by2 j (i + 1)).1) (by show (if i < 8 then _ else _ : Int64 × Int64).1 = _; rw [if_pos h8]) ?_
    refine lv_lstore (lv' := [(16, .long (by2 j (i + 1)).1), (6, .int (nI (n + i))), (20, .int (nI i)), (18, .long (by2 j i).2), (15, .ref (sw.1 (15 + j))), (7, .int (nI u.length)), (10, .int (nI k)), (0, .ref (ad 0)), (1, .ref b), (2, .int 0), (3, .int 60), (4, .ref o), (5, .ref q1), (8, .ref q2), (9, .int (nI P))]) hx hb dL_build_281 hl (by decide) rfl (fun ls hl => ?_)
    have e2 : (by2 j i).2 = (by2 j (i + 1)).2 := by show _ = (if i < 8 then _ else _ : Int64 × Int64).2; rw [if_pos h8]
    rw [e2] at hl
    refine lv_goto (tgt := 302) hx hb dL_build_283 (by decide) ?_
    refine lv_aload hx hb dL_build_302 (lv_at hl 11 rfl) ?_
    refine lv_iload hx hb dL_build_304 (lv_at hl 1 rfl) ?_
    refine lv_aload hx hb dL_build_306 (lv_at hl 4 rfl) ?_
    refine lv_iload hx hb dL_build_308 (lv_at hl 2 rfl) ?_
    refine r_calli (r := (nI (sCh j i))) (W.runV (As := [.int (nI i)]) (rest := [.int (nI (n + i)), .ref o]) CX (ctJ0_charAt_5068e l sw (15 + j) hj29 (nI i) (s_chr j (List.mem_range.mpr hj) i (List.mem_range.mpr hi)).1) (cwV 1 hts (gwV m3_197 m2_201 m2_202 m1_7 m2_203) rfl rfl rfl (by decide +kernel) ⟨Nat.le_trans (Nat.le_of_ble_eq_true rfl) hR.1, Nat.le_trans (Nat.le_of_ble_eq_true rfl) hR.2⟩) (sPreV (hSW.wr hS) hj29 _) rfl rfl hl.1 rfl (lv_room (Nat.le_of_ble_eq_true rfl)) dL_build_310 ⟨Nat.le_trans (show _ ≤ c0 + 100 by omega) hcs, Nat.le_trans (show _ ≤ s0 + 1000 by omega) hss⟩) ?_
    refine b_sti hx hb hK hP hD hS (by omega) dL_build_313 (fun H locs hP hD hS => ?_)
    refine lv_iinc (v := (nI (n + (i + 1)))) (lv' := [(6, .int (nI (n + (i + 1)))), (16, .long (by2 j (i + 1)).1), (20, .int (nI i)), (18, .long (by2 j (i + 1)).2), (15, .ref (sw.1 (15 + j))), (7, .int (nI u.length)), (10, .int (nI k)), (0, .ref (ad 0)), (1, .ref b), (2, .int 0), (3, .int 60), (4, .ref o), (5, .ref q1), (8, .ref q2), (9, .int (nI P))]) hx hb dL_build_314 hl (k := 1) rfl (up1 (n + i)) (by decide) rfl (fun ls hl => ?_)
    refine lv_iinc (v := (nI (i + 1))) (lv' := [(20, .int (nI (i + 1))), (6, .int (nI (n + (i + 1)))), (16, .long (by2 j (i + 1)).1), (18, .long (by2 j (i + 1)).2), (15, .ref (sw.1 (15 + j))), (7, .int (nI u.length)), (10, .int (nI k)), (0, .ref (ad 0)), (1, .ref b), (2, .int 0), (3, .int 60), (4, .ref o), (5, .ref q1), (8, .ref q2), (9, .int (nI P))]) hx hb dL_build_317 hl (k := 2) rfl (up1 i) (by decide) rfl (fun ls hl => ?_)
    refine lv_goto (tgt := 250) hx hb dL_build_320 (by decide) ?_
    exact kk H locs ls hP hD hS (lv_sub hl [1, 0, 2, 3, 4, 5, 6, 7, 8, 9, 10, 11, 12, 13, 14] rfl)
set_option maxHeartbeats 4000000 in
set_option maxRecDepth 100000 in
theorem bs_loop {p : Program} {l : Launch} {e : Env} {R : Room} {s : State} {m : MethodId} {args : Array Value} {below : List Frame} {meth : Method} {c : Code} {Q : State → Prop} {A : Nat → Prop} {D : va_G} {sw : Sw} {cs : Cs} {cT : ClassId} {b L : Nat} {xs : Nat → Int32} (K : BK l p R s m args c A D sw cs cT b L xs) {ad : Nat → Nat} {o q1 q2 P k : Nat} {c0 s0 : Nat} (hcs : c0 + 100 ≤ R.cells) (hss : s0 + 1000 ≤ R.slots) {M : Mm} {n : Nat} {u : List (Nat × Bool)} {f g : Nat → Int32} {j : Nat} (hj : j < 14) (hn : n + sLen j ≤ 60) (kk : ∀ (H : Heap) (locs : List Loc) (ls : Array Slot), va_P D vwCl (wl cs LC NC ad M ++ xB cs cT sw o q1 q2 (fStr f n j (sLen j)) g) H → va_D A (wl cs LC NC ad M ++ xB cs cT sw o q1 q2 (fStr f n j (sLen j)) g) → va_S A s.heap H locs → lv_has ls 21 [(6, .int (nI (n + (sLen j)))), (20, .int (nI (sLen j))), (16, .long (by2 j (sLen j)).1), (18, .long (by2 j (sLen j)).2), (15, .ref (sw.1 (15 + j))), (7, .int (nI u.length)), (10, .int (nI k)), (0, .ref (ad 0)), (1, .ref b), (2, .int 0), (3, .int 60), (4, .ref o), (5, .ref q1), (8, .ref q2), (9, .int (nI P))] → W p l e R s m args below meth c H locs c0 s0 Q (F0 m 323 ls [])) : ∀ (d i : Nat), i + d = sLen j → ∀ (H : Heap) (locs : List Loc) (ls : Array Slot), va_P D vwCl (wl cs LC NC ad M ++ xB cs cT sw o q1 q2 (fStr f n j i) g) H → va_D A (wl cs LC NC ad M ++ xB cs cT sw o q1 q2 (fStr f n j i) g) → va_S A s.heap H locs → lv_has ls 21 [(6, .int (nI (n + i))), (20, .int (nI i)), (16, .long (by2 j i).1), (18, .long (by2 j i).2), (15, .ref (sw.1 (15 + j))), (7, .int (nI u.length)), (10, .int (nI k)), (0, .ref (ad 0)), (1, .ref b), (2, .int 0), (3, .int 60), (4, .ref o), (5, .ref q1), (8, .ref q2), (9, .int (nI P))] → W p l e R s m args below meth c H locs c0 s0 Q (F0 m 250 ls []) := by
  obtain ⟨CX, hX, hbl, hbA, hK, hKT, hSW, hfl, hA, hR⟩ := id K
  obtain ⟨hx, hb, hml, hown, hts⟩ := id CX
  have hw : ∀ w ∈ WG, w.before args s = true := fun w h => hts w (List.mem_cons_of_mem _ h)
  intro d
  induction d with
  | zero =>
    intro i hi0 H locs ls hP hD hS hl
    have hj29 : 15 + j < 29 := by omega
    have h10 := (s_len j (List.mem_range.mpr hj)).2.2
    refine lv_iload hx hb dL_build_250 (lv_at hl 1 rfl) ?_
    refine lv_aload hx hb dL_build_252 (lv_at hl 4 rfl) ?_
    refine r_calli (r := (nI (sLen j))) (W.runV (As := []) (rest := [.int (nI i)]) CX (ctJ0_length_8abf5 l sw (15 + j) hj29 (s_len j (List.mem_range.mpr hj)).1) (cwV 0 hts (gwV m3_196 m2_191 m2_192 m1_7 m2_193) rfl rfl rfl (by decide +kernel) ⟨Nat.le_trans (Nat.le_of_ble_eq_true rfl) hR.1, Nat.le_trans (Nat.le_of_ble_eq_true rfl) hR.2⟩) (sPreV (hSW.wr hS) hj29 _) rfl rfl hl.1 rfl (lv_room (Nat.le_of_ble_eq_true rfl)) dL_build_254 ⟨Nat.le_trans (show _ ≤ c0 + 100 by omega) hcs, Nat.le_trans (show _ ≤ s0 + 1000 by omega) hss⟩) ?_
    have hi : i = sLen j := by omega
    subst hi
    refine lv_icmp_ge (tgt := 323) hx hb dL_build_257 (by decide) (fun _ => ?_) (fun h9 => absurd (nI_le (Nat.le_refl _) (by omega)) h9)
    exact kk H locs ls hP hD hS hl
  | succ d ih =>
    intro i hi0 H locs ls hP hD hS hl
    exact bs_step K hcs hss hj (show i < sLen j by omega) hn hP hD hS hl (fun H locs ls hP hD hS hl => ih (i + 1) (by omega) H locs ls hP hD hS hl)
set_option maxHeartbeats 4000000 in
set_option maxRecDepth 100000 in
theorem bs_end {p : Program} {l : Launch} {e : Env} {R : Room} {s : State} {m : MethodId} {args : Array Value} {below : List Frame} {meth : Method} {c : Code} {Q : State → Prop} {A : Nat → Prop} {D : va_G} {sw : Sw} {cs : Cs} {cT : ClassId} {b L : Nat} {xs : Nat → Int32} (K : BK l p R s m args c A D sw cs cT b L xs) {ad : Nat → Nat} {o q1 q2 P k : Nat} {c0 s0 : Nat} (hcs : c0 + 100 ≤ R.cells) (hss : s0 + 1000 ≤ R.slots) {M : Mm} {n : Nat} {cd : Nat → Nat} {u : List (Nat × Bool)} {f g : Nat → Int32} (hB : BI M n cd u f g) {j : Nat} (hj : j < 14) (hn : n + sLen j ≤ 60) {H : Heap} {locs : List Loc} {ls : Array Slot} (hP : va_P D vwCl (wl cs LC NC ad M ++ xB cs cT sw o q1 q2 (fStr f n j (sLen j)) g) H) (hD : va_D A (wl cs LC NC ad M ++ xB cs cT sw o q1 q2 (fStr f n j (sLen j)) g)) (hS : va_S A s.heap H locs) (hl : lv_has ls 21 [(6, .int (nI (n + (sLen j)))), (20, .int (nI (sLen j))), (16, .long (by2 j (sLen j)).1), (18, .long (by2 j (sLen j)).2), (15, .ref (sw.1 (15 + j))), (7, .int (nI u.length)), (10, .int (nI k)), (0, .ref (ad 0)), (1, .ref b), (2, .int 0), (3, .int 60), (4, .ref o), (5, .ref q1), (8, .ref q2), (9, .int (nI P))]) (kk : ∀ (M : Mm) (n : Nat) (cd : Nat → Nat) (u : List (Nat × Bool)) (f g : Nat → Int32) (H : Heap) (locs : List Loc) (ls : Array Slot), BI M n cd u f g → n ≤ 60 → va_P D vwCl (wl cs LC NC ad M ++ xB cs cT sw o q1 q2 f g) H → va_D A (wl cs LC NC ad M ++ xB cs cT sw o q1 q2 f g) → va_S A s.heap H locs → lv_has ls 21 [(6, .int (nI n)), (7, .int (nI u.length)), (10, .int (nI k)), (0, .ref (ad 0)), (1, .ref b), (2, .int 0), (3, .int 60), (4, .ref o), (5, .ref q1), (8, .ref q2), (9, .int (nI P))] → W p l e R s m args below meth c H locs (c0 + 100) (s0 + 1000) Q (F0 m 582 ls [])) : W p l e R s m args below meth c H locs c0 s0 Q (F0 m 323 ls []) := by
  obtain ⟨CX, hX, hbl, hbA, hK, hKT, hSW, hfl, hA, hR⟩ := id K
  obtain ⟨hx, hb, hml, hown, hts⟩ := id CX
  have hw : ∀ w ∈ WG, w.before args s = true := fun w h => hts w (List.mem_cons_of_mem _ h)
  have hj29 : 15 + j < 29 := by omega
  have h10 := (s_len j (List.mem_range.mpr hj)).2.2
  obtain ⟨M1, cd2, M2, e1, e2, hB2⟩ := BI_str hB hj (show n + sLen j ≤ 80 by omega)
  refine lv_aload_n hx hb dL_build_323 rfl (lv_at hl 7 rfl) ?_
  refine lv_lload hx hb dL_build_324 (lv_at hl 2 rfl) ?_
  refine t_calli (vx_runV (As := [.long (by2 j (sLen j)).1]) (rest := []) CX (ctX7_write l hfl D sw cs ad (xB cs cT sw o q1 q2 (fStr f n j (sLen j)) g) H.size M _ e1) (cwV 1 hts (gwV m1_175 m1_176 m1_177 m1_1 m1_178) rfl rfl rfl (by decide +kernel) ⟨Nat.le_trans (Nat.le_of_ble_eq_true rfl) hR.1, Nat.le_trans (Nat.le_of_ble_eq_true rfl) hR.2⟩) (wPreV hSW hS hA hK hP hD (by decide) rfl rfl _) rfl rfl hl.1 rfl (lv_room (Nat.le_of_ble_eq_true rfl)) dL_build_326 ⟨Nat.le_trans (show _ ≤ c0 + 100 by omega) hcs, Nat.le_trans (show _ ≤ s0 + 1000 by omega) hss⟩) hD hS hA (fun k9 ho9 => by cases ho9) (fun r9 ho9 H locs hP hD hS => ?_)
  cases ho9
  refine lv_iload hx hb dL_build_329 (lv_at hl 0 rfl) ?_
  refine lv_iconst (v := 0) hx hb dL_build_331 (by decide) ?_
  refine lv_aload hx hb dL_build_332 (lv_at hl 4 rfl) ?_
  refine r_calli (r := (nI (sLen j))) (W.runV (As := []) (rest := [.int (0 : Int32), .int (nI (n + (sLen j))), .int (nI (n + min (sLen j) 8))]) CX (ctJ0_length_8abf5 l sw (15 + j) hj29 (s_len j (List.mem_range.mpr hj)).1) (cwV 0 hts (gwV m3_196 m2_191 m2_192 m1_7 m2_193) rfl rfl rfl (by decide +kernel) ⟨Nat.le_trans (Nat.le_of_ble_eq_true rfl) hR.1, Nat.le_trans (Nat.le_of_ble_eq_true rfl) hR.2⟩) (sPreV (hSW.wr hS) hj29 _) rfl rfl hl.1 rfl (lv_room (Nat.le_of_ble_eq_true rfl)) dL_build_334 ⟨Nat.le_trans (show _ ≤ c0 + 100 by omega) hcs, Nat.le_trans (show _ ≤ s0 + 1000 by omega) hss⟩) ?_
  refine lv_bipush (v := 8) hx hb dL_build_337 (by decide) ?_
  refine lv_isub hx hb dL_build_339 ?_
  refine va_mmax hx hb (hml.trans hl.1.symm) hown (hw _ m3_198) (hw _ m3_199) (hw _ m1_17) (hw _ m3_200) (Nat.le_trans (Nat.le_of_ble_eq_true rfl) hR.1) (Nat.le_trans (Nat.le_of_ble_eq_true rfl) hR.2) (Nat.le_trans (show _ ≤ c0 + 100 by omega) hcs) (Nat.le_trans (show _ ≤ s0 + 1000 by omega) hss) dL_build_340 ?_
  refine top_i (y := (nI (sLen j - 8))) (s_max j (List.mem_range.mpr hj)) ?_
  refine lv_isub hx hb dL_build_343 ?_
  refine top_i (y := (nI (n + min (sLen j) 8))) (by rw [s_sub (show sLen j - 8 ≤ n + sLen j by omega)]; congr 1; omega) ?_
  refine lv_icmp_ne (tgt := 358) hx hb dL_build_344 (by decide) (fun h9 => absurd h9 (fun q => q rfl)) (fun _ => ?_)
  refine lv_aload_n hx hb dL_build_347 rfl (lv_at hl 7 rfl) ?_
  refine lv_lload hx hb dL_build_348 (lv_at hl 3 rfl) ?_
  refine t_calli (vx_runV (As := [.long (by2 j (sLen j)).2]) (rest := []) CX (ctX7_write l hfl D sw cs ad (xB cs cT sw o q1 q2 (fStr f n j (sLen j)) g) H.size M1 _ e2) (cwV 1 hts (gwV m1_175 m1_176 m1_177 m1_1 m1_178) rfl rfl rfl (by decide +kernel) ⟨Nat.le_trans (Nat.le_of_ble_eq_true rfl) hR.1, Nat.le_trans (Nat.le_of_ble_eq_true rfl) hR.2⟩) (wPreV hSW hS hA hK hP hD (by decide) rfl rfl _) rfl rfl hl.1 rfl (lv_room (Nat.le_of_ble_eq_true rfl)) dL_build_350 ⟨Nat.le_trans (show _ ≤ c0 + 100 by omega) hcs, Nat.le_trans (show _ ≤ s0 + 1000 by omega) hss⟩) hD hS hA (fun k9 ho9 => by cases ho9) (fun r9 ho9 H locs hP hD hS => ?_)
  cases ho9
  refine lv_iload hx hb dL_build_353 (lv_at hl 0 rfl) ?_
  refine lv_icmp_eq (tgt := 360) hx hb dL_build_355 (by decide) (fun _ => ?_) (fun h9 => absurd (rfl) h9)
  refine lv_goto (tgt := 582) hx hb dL_build_360 (by decide) ?_
  refine W.widen (k := c0 + 100) (n := s0 + 1000) (by omega) (by omega) ?_
  exact kk M2 (n + sLen j) _ _ _ _ H locs ls hB2 (by omega) hP hD hS (lv_sub hl [0, 5, 6, 7, 8, 9, 10, 11, 12, 13, 14] rfl)
set_option maxHeartbeats 4000000 in
set_option maxRecDepth 100000 in
theorem bb_str2 {p : Program} {l : Launch} {e : Env} {R : Room} {s : State} {m : MethodId} {args : Array Value} {below : List Frame} {meth : Method} {c : Code} {Q : State → Prop} {A : Nat → Prop} {D : va_G} {sw : Sw} {cs : Cs} {cT : ClassId} {b L : Nat} {xs : Nat → Int32} (K : BK l p R s m args c A D sw cs cT b L xs) {ad : Nat → Nat} {o q1 q2 P k : Nat} {c0 s0 : Nat} (hcs : c0 + 100 ≤ R.cells) (hss : s0 + 1000 ≤ R.slots) {M : Mm} {n : Nat} {cd : Nat → Nat} {u : List (Nat × Bool)} {f g : Nat → Int32} (hB : BI M n cd u f g) {x : Int32} {w ft on : Nat} {j : Nat} (hj : j < 14) (hn : n ≤ 60) {H : Heap} {locs : List Loc} {ls : Array Slot} (hP : va_P D vwCl (wl cs LC NC ad M ++ xB cs cT sw o q1 q2 f g) H) (hD : va_D A (wl cs LC NC ad M ++ xB cs cT sw o q1 q2 f g)) (hS : va_S A s.heap H locs) (hl : lv_has ls 21 [(6, .int (nI n)), (7, .int (nI u.length)), (10, .int (nI k)), (0, .ref (ad 0)), (1, .ref b), (2, .int 0), (3, .int 60), (4, .ref o), (5, .ref q1), (8, .ref q2), (9, .int (nI P)), (11, .int x), (12, .int (nI w)), (13, .int (nI ft)), (14, .int (nI on))]) (kk : ∀ (M : Mm) (n : Nat) (cd : Nat → Nat) (u : List (Nat × Bool)) (f g : Nat → Int32) (H : Heap) (locs : List Loc) (ls : Array Slot), BI M n cd u f g → n ≤ 60 → va_P D vwCl (wl cs LC NC ad M ++ xB cs cT sw o q1 q2 f g) H → va_D A (wl cs LC NC ad M ++ xB cs cT sw o q1 q2 f g) → va_S A s.heap H locs → lv_has ls 21 [(6, .int (nI n)), (7, .int (nI u.length)), (10, .int (nI k)), (0, .ref (ad 0)), (1, .ref b), (2, .int 0), (3, .int 60), (4, .ref o), (5, .ref q1), (8, .ref q2), (9, .int (nI P))] → W p l e R s m args below meth c H locs (c0 + 100) (s0 + 1000) Q (F0 m 582 ls [])) (kn : ∀ (M : Mm) (n : Nat) (cd : Nat → Nat) (u : List (Nat × Bool)) (f g : Nat → Int32) (H : Heap) (locs : List Loc) (ls : Array Slot), BI M n cd u f g → n ≤ 60 → va_P D vwCl (wl cs LC NC ad M ++ xB cs cT sw o q1 q2 f g) H → va_D A (wl cs LC NC ad M ++ xB cs cT sw o q1 q2 f g) → va_S A s.heap H locs → lv_has ls 21 [(6, .int (nI n)), (7, .int (nI u.length)), (10, .int (nI k)), (0, .ref (ad 0)), (1, .ref b), (2, .int 0), (3, .int 60), (4, .ref o), (5, .ref q1), (8, .ref q2), (9, .int (nI P))] → W p l e R s m args below meth c H locs (c0 + 100) (s0 + 1000) Q (F0 m 593 ls [])) : W p l e R s m args below meth c H locs c0 s0 Q (F0 m 223 ls [.int (nI j), .ref q1]) := by
  obtain ⟨CX, hX, hbl, hbA, hK, hKT, hSW, hfl, hA, hR⟩ := id K
  obtain ⟨hx, hb, hml, hown, hts⟩ := id CX
  have hw : ∀ w ∈ WG, w.before args s = true := fun w h => hts w (List.mem_cons_of_mem _ h)
  have hj29 : 15 + j < 29 := by omega
  have h10 := (s_len j (List.mem_range.mpr hj)).2.2
  refine b_lds hx hb hKT hP hj dL_build_223 ?_
  refine lv_astore (lv' := [(15, .ref (sw.1 (15 + j))), (6, .int (nI n)), (7, .int (nI u.length)), (10, .int (nI k)), (0, .ref (ad 0)), (1, .ref b), (2, .int 0), (3, .int 60), (4, .ref o), (5, .ref q1), (8, .ref q2), (9, .int (nI P)), (11, .int x), (12, .int (nI w)), (13, .int (nI ft)), (14, .int (nI on))]) hx hb dL_build_224 hl (by decide) rfl (fun ls hl => ?_)
  refine lv_iload hx hb dL_build_226 (lv_at hl 1 rfl) ?_
  refine lv_aload hx hb dL_build_228 (lv_at hl 0 rfl) ?_
  refine r_calli (r := (nI (sLen j))) (W.runV (As := []) (rest := [.int (nI n)]) CX (ctJ0_length_8abf5 l sw (15 + j) hj29 (s_len j (List.mem_range.mpr hj)).1) (cwV 0 hts (gwV m3_196 m2_191 m2_192 m1_7 m2_193) rfl rfl rfl (by decide +kernel) ⟨Nat.le_trans (Nat.le_of_ble_eq_true rfl) hR.1, Nat.le_trans (Nat.le_of_ble_eq_true rfl) hR.2⟩) (sPreV (hSW.wr hS) hj29 _) rfl rfl hl.1 rfl (lv_room (Nat.le_of_ble_eq_true rfl)) dL_build_230 ⟨Nat.le_trans (show _ ≤ c0 + 100 by omega) hcs, Nat.le_trans (show _ ≤ s0 + 1000 by omega) hss⟩) ?_
  refine lv_iadd hx hb dL_build_233 ?_
  refine top_i (y := (nI (n + sLen j))) ((nI_add n (sLen j)).symm) ?_
  refine lv_iload_n hx hb dL_build_234 rfl (lv_at hl 7 rfl) ?_
  refine lv_icmp_le (tgt := 241) hx hb dL_build_235 (by decide) (fun h9 => ?_) (fun h9 => ?_)
  · have hn60 : n + sLen j ≤ 60 := (nI_leI (b := 60) (by omega) (by decide)).mp h9
    refine lv_lconst (v := 0) hx hb dL_build_241 (by decide) ?_
    refine lv_lstore (lv' := [(16, .long (0 : Int64)), (15, .ref (sw.1 (15 + j))), (6, .int (nI n)), (7, .int (nI u.length)), (10, .int (nI k)), (0, .ref (ad 0)), (1, .ref b), (2, .int 0), (3, .int 60), (4, .ref o), (5, .ref q1), (8, .ref q2), (9, .int (nI P)), (11, .int x), (12, .int (nI w)), (13, .int (nI ft)), (14, .int (nI on))]) hx hb dL_build_242 hl (by decide) rfl (fun ls hl => ?_)
    refine lv_lconst (v := 0) hx hb dL_build_244 (by decide) ?_
    refine lv_lstore (lv' := [(18, .long (0 : Int64)), (16, .long (0 : Int64)), (15, .ref (sw.1 (15 + j))), (6, .int (nI n)), (7, .int (nI u.length)), (10, .int (nI k)), (0, .ref (ad 0)), (1, .ref b), (2, .int 0), (3, .int 60), (4, .ref o), (5, .ref q1), (8, .ref q2), (9, .int (nI P)), (11, .int x), (12, .int (nI w)), (13, .int (nI ft)), (14, .int (nI on))]) hx hb dL_build_245 hl (by decide) rfl (fun ls hl => ?_)
    refine lv_iconst (v := 0) hx hb dL_build_247 (by decide) ?_
    refine lv_istore (lv' := [(20, .int (0 : Int32)), (18, .long (0 : Int64)), (16, .long (0 : Int64)), (15, .ref (sw.1 (15 + j))), (6, .int (nI n)), (7, .int (nI u.length)), (10, .int (nI k)), (0, .ref (ad 0)), (1, .ref b), (2, .int 0), (3, .int 60), (4, .ref o), (5, .ref q1), (8, .ref q2), (9, .int (nI P)), (11, .int x), (12, .int (nI w)), (13, .int (nI ft)), (14, .int (nI on))]) hx hb dL_build_248 hl (by decide) rfl (fun ls hl => ?_)
    exact bs_loop K hcs hss hj hn60 (fun H locs ls hP hD hS hl => bs_end K hcs hss hB hj hn60 hP hD hS hl kk) (sLen j) 0 (Nat.zero_add _) H locs ls hP hD hS (lv_sub hl [4, 0, 2, 1, 3, 5, 6, 7, 8, 9, 10, 11, 12, 13, 14] rfl)
  · refine lv_goto (tgt := 593) hx hb dL_build_238 (by decide) ?_
    refine W.widen (k := c0 + 100) (n := s0 + 1000) (by omega) (by omega) ?_
    exact kn M n cd u f g H locs ls hB hn hP hD hS (lv_sub hl [1, 2, 3, 4, 5, 6, 7, 8, 9, 10, 11] rfl)
set_option maxHeartbeats 4000000 in
set_option maxRecDepth 100000 in
theorem bb_str {p : Program} {l : Launch} {e : Env} {R : Room} {s : State} {m : MethodId} {args : Array Value} {below : List Frame} {meth : Method} {c : Code} {Q : State → Prop} {A : Nat → Prop} {D : va_G} {sw : Sw} {cs : Cs} {cT : ClassId} {b L : Nat} {xs : Nat → Int32} (K : BK l p R s m args c A D sw cs cT b L xs) {ad : Nat → Nat} {o q1 q2 P k : Nat} {c0 s0 : Nat} (hcs : c0 + 100 ≤ R.cells) (hss : s0 + 1000 ≤ R.slots) {M : Mm} {n : Nat} {cd : Nat → Nat} {u : List (Nat × Bool)} {f g : Nat → Int32} (hB : BI M n cd u f g) {x : Int32} {w ft on : Nat} (hn : n ≤ 60) {H : Heap} {locs : List Loc} {ls : Array Slot} (hP : va_P D vwCl (wl cs LC NC ad M ++ xB cs cT sw o q1 q2 f g) H) (hD : va_D A (wl cs LC NC ad M ++ xB cs cT sw o q1 q2 f g)) (hS : va_S A s.heap H locs) (hl : lv_has ls 21 [(6, .int (nI n)), (7, .int (nI u.length)), (10, .int (nI k)), (0, .ref (ad 0)), (1, .ref b), (2, .int 0), (3, .int 60), (4, .ref o), (5, .ref q1), (8, .ref q2), (9, .int (nI P)), (11, .int x), (12, .int (nI w)), (13, .int (nI ft)), (14, .int (nI on))]) (kk : ∀ (M : Mm) (n : Nat) (cd : Nat → Nat) (u : List (Nat × Bool)) (f g : Nat → Int32) (H : Heap) (locs : List Loc) (ls : Array Slot), BI M n cd u f g → n ≤ 60 → va_P D vwCl (wl cs LC NC ad M ++ xB cs cT sw o q1 q2 f g) H → va_D A (wl cs LC NC ad M ++ xB cs cT sw o q1 q2 f g) → va_S A s.heap H locs → lv_has ls 21 [(6, .int (nI n)), (7, .int (nI u.length)), (10, .int (nI k)), (0, .ref (ad 0)), (1, .ref b), (2, .int 0), (3, .int 60), (4, .ref o), (5, .ref q1), (8, .ref q2), (9, .int (nI P))] → W p l e R s m args below meth c H locs (c0 + 100) (s0 + 1000) Q (F0 m 582 ls [])) (kn : ∀ (M : Mm) (n : Nat) (cd : Nat → Nat) (u : List (Nat × Bool)) (f g : Nat → Int32) (H : Heap) (locs : List Loc) (ls : Array Slot), BI M n cd u f g → n ≤ 60 → va_P D vwCl (wl cs LC NC ad M ++ xB cs cT sw o q1 q2 f g) H → va_D A (wl cs LC NC ad M ++ xB cs cT sw o q1 q2 f g) → va_S A s.heap H locs → lv_has ls 21 [(6, .int (nI n)), (7, .int (nI u.length)), (10, .int (nI k)), (0, .ref (ad 0)), (1, .ref b), (2, .int 0), (3, .int 60), (4, .ref o), (5, .ref q1), (8, .ref q2), (9, .int (nI P))] → W p l e R s m args below meth c H locs (c0 + 100) (s0 + 1000) Q (F0 m 593 ls [])) : W p l e R s m args below meth c H locs c0 s0 Q (F0 m 187 ls []) := by
  obtain ⟨CX, hX, hbl, hbA, hK, hKT, hSW, hfl, hA, hR⟩ := id K
  obtain ⟨hx, hb, hml, hown, hts⟩ := id CX
  have hw : ∀ w ∈ WG, w.before args s = true := fun w h => hts w (List.mem_cons_of_mem _ h)
  refine lv_aload hx hb dL_build_187 (lv_at hl 8 rfl) ?_
  refine lv_iload hx hb dL_build_189 (lv_at hl 11 rfl) ?_
  refine lv_bipush (v := 7) hx hb dL_build_191 (by decide) ?_
  refine lv_ishr hx hb dL_build_193 ?_
  refine lv_iconst (v := 3) hx hb dL_build_194 (by decide) ?_
  refine r_calli (r := (blw (x >>> ((7 : Int32) &&& 31)) 3)) (W.runS (As := [.int (x >>> ((7 : Int32) &&& 31)), .int (3 : Int32)]) (rest := [.ref q1]) CX (ctL_below l (x >>> ((7 : Int32) &&& 31)) 3 (by decide)) (va_cwS 2 hts (gwS m3_169 m3_170 m1_0 m3_171) rfl rfl rfl (by decide +kernel) ⟨Nat.le_trans (Nat.le_of_ble_eq_true rfl) hR.1, Nat.le_trans (Nat.le_of_ble_eq_true rfl) hR.2⟩) (pPreS _) rfl rfl hl.1 rfl (lv_room (Nat.le_of_ble_eq_true rfl)) dL_build_195 ⟨Nat.le_trans (show _ ≤ c0 + 100 by omega) hcs, Nat.le_trans (show _ ≤ s0 + 1000 by omega) hss⟩) ?_
  refine lv_if_le (tgt := 213) hx hb dL_build_198 (by decide) (fun h9 => ?_) (fun h9 => ?_)
  · refine lv_iload hx hb dL_build_213 (lv_at hl 11 rfl) ?_
    refine lv_bipush (v := 9) hx hb dL_build_215 (by decide) ?_
    refine lv_ishr hx hb dL_build_217 ?_
    refine lv_bipush (v := 14) hx hb dL_build_218 (by decide) ?_
    obtain ⟨j, hj, ej⟩ := blw_j (x >>> ((9 : Int32) &&& 31)) (k := 14) (by decide) (by decide)
    have ej : nI j = blw (x >>> ((9 : Int32) &&& 31)) (14 : Int32) := ej.symm
    refine r_calli (r := (blw (x >>> ((9 : Int32) &&& 31)) (14 : Int32))) (W.runS (As := [.int (x >>> ((9 : Int32) &&& 31)), .int (14 : Int32)]) (rest := [.ref q1]) CX (ctL_below l (x >>> ((9 : Int32) &&& 31)) 14 (by decide)) (va_cwS 2 hts (gwS m3_169 m3_170 m1_0 m3_171) rfl rfl rfl (by decide +kernel) ⟨Nat.le_trans (Nat.le_of_ble_eq_true rfl) hR.1, Nat.le_trans (Nat.le_of_ble_eq_true rfl) hR.2⟩) (pPreS _) rfl rfl hl.1 rfl (lv_room (Nat.le_of_ble_eq_true rfl)) dL_build_220 ⟨Nat.le_trans (show _ ≤ c0 + 100 by omega) hcs, Nat.le_trans (show _ ≤ s0 + 1000 by omega) hss⟩) ?_
    refine top_i (y := (nI j)) (ej) ?_
    exact bb_str2 K hcs hss hB (show j < 14 by omega) hn hP hD hS hl kk kn
  · refine lv_iload hx hb dL_build_201 (lv_at hl 11 rfl) ?_
    refine lv_bipush (v := 9) hx hb dL_build_203 (by decide) ?_
    refine lv_ishr hx hb dL_build_205 ?_
    refine lv_iconst (v := 4) hx hb dL_build_206 (by decide) ?_
    obtain ⟨j, hj, ej⟩ := blw_j (x >>> ((9 : Int32) &&& 31)) (k := 4) (by decide) (by decide)
    have ej : nI j = blw (x >>> ((9 : Int32) &&& 31)) (4 : Int32) := ej.symm
    refine r_calli (r := (blw (x >>> ((9 : Int32) &&& 31)) (4 : Int32))) (W.runS (As := [.int (x >>> ((9 : Int32) &&& 31)), .int (4 : Int32)]) (rest := [.ref q1]) CX (ctL_below l (x >>> ((9 : Int32) &&& 31)) 4 (by decide)) (va_cwS 2 hts (gwS m3_169 m3_170 m1_0 m3_171) rfl rfl rfl (by decide +kernel) ⟨Nat.le_trans (Nat.le_of_ble_eq_true rfl) hR.1, Nat.le_trans (Nat.le_of_ble_eq_true rfl) hR.2⟩) (pPreS _) rfl rfl hl.1 rfl (lv_room (Nat.le_of_ble_eq_true rfl)) dL_build_207 ⟨Nat.le_trans (show _ ≤ c0 + 100 by omega) hcs, Nat.le_trans (show _ ≤ s0 + 1000 by omega) hss⟩) ?_
    refine top_i (y := (nI j)) (ej) ?_
    refine lv_goto (tgt := 223) hx hb dL_build_210 (by decide) ?_
    exact bb_str2 K hcs hss hB (show j < 14 by omega) hn hP hD hS hl kk kn
