set_option maxHeartbeats 4000000 in
set_option maxRecDepth 100000 in
theorem lB_step {p : Program} {l : Launch} {e : Env} {R : Room} {s : State} {m : MethodId} {below : List Frame} {meth : Method} {c : Code} {Q : State → Prop} {b L : Nat} {xs : Nat → Int32} {D : va_G} {sw : Sw} {cs : Cs} (K : LK l p R s m c b L xs D sw cs) {ad : Nat → Nat} {o n : Nat} {cd : Nat → Nat} (hw : st cd n = some []) (hn : n ≤ 65) {f : Nat → Int32} (hf : ∀ i, i < n → f i = nI (cd i)) {V : Int32} {c0 : Nat} (hc0 : c0 < 16) {k0 j0 : Nat} (hcs : k0 + 10 ≤ R.cells) (hss : j0 + 100 ≤ R.slots) {ad2 : Nat → Nat} {d t oth : Nat} (hd : d < 16) (ht : t < 4) (ho : oth < 16) {e9 p9 : Int32} {cd2 : Nat → Nat} (hal : Al cd d n cd2) (hw2 : st cd2 (vl cd d n).length = some []) {k : Nat} (hk : k < (vl cd d n).length) {M M2 : Mm} (hO : Ok M n cd) (hO2 : Ok M2 (vl cd d n).length cd2) {H : Heap} {locs : List Loc} {ls : Array Slot} (hP : va_P D vwCl (wl cs LC NC ad M ++ X2 cs ad2 M2 o f) H) (hD : va_D (AL s) (wl cs LC NC ad M ++ X2 cs ad2 M2 o f)) (hS : va_S (AL s) s.heap H locs) (hl : lv_has ls 14 [(13, .int (nI k)), (12, .int p9), (11, .int e9), (10, .int (nI oth)), (9, .int (nI (vl cd d n).length)), (8, .ref (ad2 0)), (7, .int (nI d)), (6, .int (nI t)), (0, .ref b), (1, .ref (ad 0)), (2, .ref o), (3, .int (nI n)), (4, .int V), (5, .int (nI c0))]) (kk : ∀ (M M2 : Mm) (H : Heap) (locs : List Loc) (ls : Array Slot), Ok M n cd → Ok M2 (vl cd d n).length cd2 → va_P D vwCl (wl cs LC NC ad M ++ X2 cs ad2 M2 o f) H → va_D (AL s) (wl cs LC NC ad M ++ X2 cs ad2 M2 o f) → va_S (AL s) s.heap H locs → lv_has ls 14 [(13, .int (nI (k + 1))), (12, .int p9), (11, .int e9), (10, .int (nI oth)), (9, .int (nI (vl cd d n).length)), (8, .ref (ad2 0)), (7, .int (nI d)), (6, .int (nI t)), (0, .ref b), (1, .ref (ad 0)), (2, .ref o), (3, .int (nI n)), (4, .int V), (5, .int (nI c0))] → W p l e R s m #[Value.ref b] below meth c H locs (k0 + 10) (j0 + 100) Q (F0 m 248 ls [])) : W p l e R s m #[Value.ref b] below meth c H locs (k0) (j0) Q (F0 m 248 ls []) := by
  obtain ⟨CX, hX, hbl, hK, hSW, hC, hAO, hfl, hR⟩ := id K
  obtain ⟨hx, hb, hml, hown, hts⟩ := id CX
  have hwd : ∀ w ∈ WG, w.before _ s = true := fun w h => hts w (List.mem_cons_of_mem _ h)
  have hA : ∀ q, s.heap.size ≤ q → AL s q := fun _ h => h
  have hbA : ¬ AL s b := Nat.not_le.mpr hbl
  have hvl := vl_len (cd := cd) (c := d) n
  refine lv_iload hx hb dL_law_248 (lv_at hl 0 rfl) ?_
  refine lv_iload hx hb dL_law_250 (lv_at hl 4 rfl) ?_
  refine lv_icmp_ge (tgt := 283) hx hb dL_law_252 (by decide) (fun h9 => absurd h9 (nI_ge hk (by omega))) (fun _ => ?_)
  refine lv_aload_n hx hb dL_law_255 rfl (lv_at hl 9 rfl) ?_
  refine lv_iload hx hb dL_law_256 (lv_at hl 6 rfl) ?_
  refine lv_iload hx hb dL_law_258 (lv_at hl 0 rfl) ?_
  obtain ⟨M4, e1, hO1⟩ := k_stack hO hw hd hk
  refine t_calli (vx_runV (As := [.int (nI d), .int (nI k)]) (rest := []) CX (ctX7_stack l hfl D sw cs ad (X2 cs ad2 M2 o f) H.size M (nI d) (nI k) e1) (cwV 2 hts (gwV m3_114 m3_115 m3_116 m1_1 m3_117) rfl rfl rfl (by decide +kernel) ⟨Nat.le_trans (Nat.le_of_ble_eq_true rfl) hR.1, Nat.le_trans (Nat.le_of_ble_eq_true rfl) hR.2⟩) (wPreV hSW hS hA hK hP hD (by decide) rfl rfl _) rfl rfl hl.1 rfl (lv_room (Nat.le_of_ble_eq_true rfl)) dL_law_260 ⟨Nat.le_trans (show _ ≤ k0 + 10 by omega) hcs, Nat.le_trans (show _ ≤ j0 + 100 by omega) hss⟩) hD hS hA (fun k9 ho9 => by cases ho9) (fun r9 ho9 H locs hP hD hS => ?_)
  cases ho9
  replace hO := hO1
  refine lv_aload hx hb dL_law_263 (lv_at hl 5 rfl) ?_
  refine lv_iload hx hb dL_law_265 (lv_at hl 3 rfl) ?_
  refine lv_iload hx hb dL_law_267 (lv_at hl 0 rfl) ?_
  obtain ⟨M5, e2, hO3⟩ := k_stack hO2 hw2 ho (show k < (vl cd2 oth (vl cd d n).length).length by rw [al_len ho hal]; exact hk)
  have hP := sw2P hP
  have hD := sw2D hD
  refine t_calli (vx_runV (As := [.int (nI oth), .int (nI k)]) (rest := [.int (stk cd d n k)]) CX (ctX7_stack l hfl D sw cs ad2 (X2 cs ad M4 o f) H.size M2 (nI oth) (nI k) e2) (cwV 2 hts (gwV m3_114 m3_115 m3_116 m1_1 m3_117) rfl rfl rfl (by decide +kernel) ⟨Nat.le_trans (Nat.le_of_ble_eq_true rfl) hR.1, Nat.le_trans (Nat.le_of_ble_eq_true rfl) hR.2⟩) (wPreV hSW hS hA hK hP hD (by decide) rfl rfl _) rfl rfl hl.1 rfl (lv_room (Nat.le_of_ble_eq_true rfl)) dL_law_269 ⟨Nat.le_trans (show _ ≤ k0 + 10 by omega) hcs, Nat.le_trans (show _ ≤ j0 + 100 by omega) hss⟩) hD hS hA (fun k9 ho9 => by cases ho9) (fun r9 ho9 H locs hP hD hS => ?_)
  cases ho9
  have hP := sw2P hP
  have hD := sw2D hD
  replace hO2 := hO3
  refine top_i (y := (stk cd d n k)) ((al_stk ho hal k).symm) ?_
  refine lv_icmp_eq (tgt := 277) hx hb dL_law_272 (by decide) (fun _ => ?_) (fun h9 => absurd (rfl) h9)
  refine lv_iinc (v := (nI (k + 1))) (lv' := [(13, .int (nI (k + 1))), (12, .int p9), (11, .int e9), (10, .int (nI oth)), (9, .int (nI (vl cd d n).length)), (8, .ref (ad2 0)), (7, .int (nI d)), (6, .int (nI t)), (0, .ref b), (1, .ref (ad 0)), (2, .ref o), (3, .int (nI n)), (4, .int V), (5, .int (nI c0))]) hx hb dL_law_277 hl (k := 0) rfl (up1 k) (by decide) rfl (fun ls hl => ?_)
  refine lv_goto (tgt := 248) hx hb dL_law_280 (by decide) ?_
  refine W.widen (k := k0 + 10) (n := j0 + 100) (by omega) (by omega) ?_
  exact kk M4 M5 H locs ls hO hO2 hP hD hS (lv_sub hl [0, 1, 2, 3, 4, 5, 6, 7, 8, 9, 10, 11, 12, 13] rfl)
set_option maxHeartbeats 4000000 in
set_option maxRecDepth 100000 in
theorem lB {p : Program} {l : Launch} {e : Env} {R : Room} {s : State} {m : MethodId} {below : List Frame} {meth : Method} {c : Code} {Q : State → Prop} {b L : Nat} {xs : Nat → Int32} {D : va_G} {sw : Sw} {cs : Cs} (K : LK l p R s m c b L xs D sw cs) {ad : Nat → Nat} {o n : Nat} {cd : Nat → Nat} (hw : st cd n = some []) (hn : n ≤ 65) {f : Nat → Int32} (hf : ∀ i, i < n → f i = nI (cd i)) {V : Int32} {c0 : Nat} (hc0 : c0 < 16) {k0 j0 : Nat} (hcs : k0 + 800 ≤ R.cells) (hss : j0 + 8000 ≤ R.slots) {ad2 : Nat → Nat} {d t oth : Nat} (hd : d < 16) (ht : t < 4) (ho : oth < 16) {e9 p9 : Int32} {cd2 : Nat → Nat} (hal : Al cd d n cd2) (hw2 : st cd2 (vl cd d n).length = some []) (kk : ∀ (M M2 : Mm) (H : Heap) (locs : List Loc) (ls : Array Slot), Ok M n cd → Ok M2 (vl cd d n).length cd2 → va_P D vwCl (wl cs LC NC ad M ++ X2 cs ad2 M2 o f) H → va_D (AL s) (wl cs LC NC ad M ++ X2 cs ad2 M2 o f) → va_S (AL s) s.heap H locs → lv_has ls 14 [(12, .int p9), (11, .int e9), (10, .int (nI oth)), (9, .int (nI (vl cd d n).length)), (8, .ref (ad2 0)), (7, .int (nI d)), (6, .int (nI t)), (0, .ref b), (1, .ref (ad 0)), (2, .ref o), (3, .int (nI n)), (4, .int V), (5, .int (nI c0))] → W p l e R s m #[Value.ref b] below meth c H locs (k0 + 10 * (vl cd d n).length) (j0 + 100 * (vl cd d n).length) Q (F0 m 283 ls [])) : ∀ (g k : Nat), k + g = (vl cd d n).length → ∀ (M M2 : Mm) (H : Heap) (locs : List Loc) (ls : Array Slot), Ok M n cd → Ok M2 (vl cd d n).length cd2 → va_P D vwCl (wl cs LC NC ad M ++ X2 cs ad2 M2 o f) H → va_D (AL s) (wl cs LC NC ad M ++ X2 cs ad2 M2 o f) → va_S (AL s) s.heap H locs → lv_has ls 14 [(13, .int (nI k)), (12, .int p9), (11, .int e9), (10, .int (nI oth)), (9, .int (nI (vl cd d n).length)), (8, .ref (ad2 0)), (7, .int (nI d)), (6, .int (nI t)), (0, .ref b), (1, .ref (ad 0)), (2, .ref o), (3, .int (nI n)), (4, .int V), (5, .int (nI c0))] → W p l e R s m #[Value.ref b] below meth c H locs (k0 + 10 * k) (j0 + 100 * k) Q (F0 m 248 ls []) := by
  obtain ⟨CX, hX, hbl, hK, hSW, hC, hAO, hfl, hR⟩ := id K
  obtain ⟨hx, hb, hml, hown, hts⟩ := id CX
  have hwd : ∀ w ∈ WG, w.before _ s = true := fun w h => hts w (List.mem_cons_of_mem _ h)
  have hA : ∀ q, s.heap.size ≤ q → AL s q := fun _ h => h
  have hbA : ¬ AL s b := Nat.not_le.mpr hbl
  have hvl := vl_len (cd := cd) (c := d) n
  intro g
  induction g with
  | zero =>
    intro k hk M M2 H locs ls hO hO2 hP hD hS hl
    refine lv_iload hx hb dL_law_248 (lv_at hl 0 rfl) ?_
    refine lv_iload hx hb dL_law_250 (lv_at hl 4 rfl) ?_
    obtain rfl : k = (vl cd d n).length := by omega
    refine lv_icmp_ge (tgt := 283) hx hb dL_law_252 (by decide) (fun _ => ?_) (fun h9 => absurd (nI_le (Nat.le_refl _) (by omega)) h9)
    exact kk M M2 H locs ls hO hO2 hP hD hS (lv_sub hl [1, 2, 3, 4, 5, 6, 7, 8, 9, 10, 11, 12, 13] rfl)
  | succ g ih =>
    intro k hk M M2 H locs ls hO hO2 hP hD hS hl
    refine lB_step K hw hn hf hc0 (k0 := k0 + 10 * k) (j0 := j0 + 100 * k) (by omega) (by omega) hd ht ho hal hw2 (show k < (vl cd d n).length by omega) hO hO2 hP hD hS hl (fun M M2 H locs ls hO hO2 hP hD hS hl => ?_)
    refine W.widen (k := k0 + 10 * (k + 1)) (n := j0 + 100 * (k + 1)) (by omega) (by omega) ?_
    exact ih (k + 1) (by omega) M M2 H locs ls hO hO2 hP hD hS hl
set_option maxHeartbeats 4000000 in
set_option maxRecDepth 100000 in
theorem lC_step {p : Program} {l : Launch} {e : Env} {R : Room} {s : State} {m : MethodId} {below : List Frame} {meth : Method} {c : Code} {Q : State → Prop} {b L : Nat} {xs : Nat → Int32} {D : va_G} {sw : Sw} {cs : Cs} (K : LK l p R s m c b L xs D sw cs) {ad : Nat → Nat} {o n : Nat} {cd : Nat → Nat} (hw : st cd n = some []) (hn : n ≤ 65) {f : Nat → Int32} (hf : ∀ i, i < n → f i = nI (cd i)) {V : Int32} {c0 : Nat} (hc0 : c0 < 16) {k0 j0 : Nat} (hcs : k0 + 30 ≤ R.cells) (hss : j0 + 300 ≤ R.slots) {ad2 : Nat → Nat} {d t oth : Nat} (hd : d < 16) (ht : t < 4) (ho : oth < 16) {e9 p9 : Int32} {cd2 : Nat → Nat} (hal : Al cd d n cd2) (hw2 : st cd2 (vl cd d n).length = some []) (hfin : fin cd d n = true) {k : Nat} (hk : k < (res cd d n).2.length) {M M2 : Mm} (hO : Ok M n cd) (hO2 : Ok M2 (vl cd d n).length cd2) {H : Heap} {locs : List Loc} {ls : Array Slot} (hP : va_P D vwCl (wl cs LC NC ad M ++ X2 cs ad2 M2 o f) H) (hD : va_D (AL s) (wl cs LC NC ad M ++ X2 cs ad2 M2 o f)) (hS : va_S (AL s) s.heap H locs) (hl : lv_has ls 14 [(13, .int (nI k)), (12, .int p9), (11, .int e9), (10, .int (nI oth)), (9, .int (nI (vl cd d n).length)), (8, .ref (ad2 0)), (7, .int (nI d)), (6, .int (nI t)), (0, .ref b), (1, .ref (ad 0)), (2, .ref o), (3, .int (nI n)), (4, .int V), (5, .int (nI c0))]) (kk : ∀ (M M2 : Mm) (H : Heap) (locs : List Loc) (ls : Array Slot), Ok M n cd → Ok M2 (vl cd d n).length cd2 → va_P D vwCl (wl cs LC NC ad M ++ X2 cs ad2 M2 o f) H → va_D (AL s) (wl cs LC NC ad M ++ X2 cs ad2 M2 o f) → va_S (AL s) s.heap H locs → lv_has ls 14 [(13, .int (nI (k + 1))), (12, .int p9), (11, .int e9), (10, .int (nI oth)), (9, .int (nI (vl cd d n).length)), (8, .ref (ad2 0)), (7, .int (nI d)), (6, .int (nI t)), (0, .ref b), (1, .ref (ad 0)), (2, .ref o), (3, .int (nI n)), (4, .int V), (5, .int (nI c0))] → W p l e R s m #[Value.ref b] below meth c H locs (k0 + 30) (j0 + 300) Q (F0 m 312 ls [])) : W p l e R s m #[Value.ref b] below meth c H locs (k0) (j0) Q (F0 m 312 ls []) := by
  obtain ⟨CX, hX, hbl, hK, hSW, hC, hAO, hfl, hR⟩ := id K
  obtain ⟨hx, hb, hml, hown, hts⟩ := id CX
  have hwd : ∀ w ∈ WG, w.before _ s = true := fun w h => hts w (List.mem_cons_of_mem _ h)
  have hA : ∀ q, s.heap.size ≤ q → AL s q := fun _ h => h
  have hbA : ¬ AL s b := Nat.not_le.mpr hbl
  have hlen := (res_ok (show n ≤ 80 by omega) hfin).2
  have hfin2 : fin cd2 oth (vl cd d n).length = true := (al_fin ho hal).trans hfin
  refine lv_iload hx hb dL_law_312 (lv_at hl 0 rfl) ?_
  refine lv_aload_n hx hb dL_law_314 rfl (lv_at hl 9 rfl) ?_
  refine lv_iload hx hb dL_law_315 (lv_at hl 6 rfl) ?_
  obtain ⟨M4, e1, hO1⟩ := k_outputs hO hw hd hfin
  refine t_calli (vx_runV (As := [.int (nI d)]) (rest := [.int (nI k)]) CX (ctX7_outputs l hfl D sw cs ad (X2 cs ad2 M2 o f) H.size M (nI d) e1) (cwV 1 hts (gwV m3_122 m3_123 m3_124 m1_1 m3_125) rfl rfl rfl (by decide +kernel) ⟨Nat.le_trans (Nat.le_of_ble_eq_true rfl) hR.1, Nat.le_trans (Nat.le_of_ble_eq_true rfl) hR.2⟩) (wPreV hSW hS hA hK hP hD (by decide) rfl rfl _) rfl rfl hl.1 rfl (lv_room (Nat.le_of_ble_eq_true rfl)) dL_law_317 ⟨Nat.le_trans (show _ ≤ k0 + 30 by omega) hcs, Nat.le_trans (show _ ≤ j0 + 300 by omega) hss⟩) hD hS hA (fun k9 ho9 => by cases ho9) (fun r9 ho9 H locs hP hD hS => ?_)
  cases ho9
  replace hO := hO1
  refine lv_icmp_ge (tgt := 351) hx hb dL_law_320 (by decide) (fun h9 => absurd h9 (nI_ge hk (by omega))) (fun _ => ?_)
  refine lv_aload_n hx hb dL_law_323 rfl (lv_at hl 9 rfl) ?_
  refine lv_iload hx hb dL_law_324 (lv_at hl 6 rfl) ?_
  refine lv_iload hx hb dL_law_326 (lv_at hl 0 rfl) ?_
  obtain ⟨M5, e1, hO1⟩ := k_output hO hw hd hfin hk
  refine t_calli (vx_runV (As := [.int (nI d), .int (nI k)]) (rest := []) CX (ctX7_output l hfl D sw cs ad (X2 cs ad2 M2 o f) H.size M4 (nI d) (nI k) e1) (cwV 2 hts (gwV m3_146 m3_147 m3_148 m1_1 m3_149) rfl rfl rfl (by decide +kernel) ⟨Nat.le_trans (Nat.le_of_ble_eq_true rfl) hR.1, Nat.le_trans (Nat.le_of_ble_eq_true rfl) hR.2⟩) (wPreV hSW hS hA hK hP hD (by decide) rfl rfl _) rfl rfl hl.1 rfl (lv_room (Nat.le_of_ble_eq_true rfl)) dL_law_328 ⟨Nat.le_trans (show _ ≤ k0 + 30 by omega) hcs, Nat.le_trans (show _ ≤ j0 + 300 by omega) hss⟩) hD hS hA (fun k9 ho9 => by cases ho9) (fun r9 ho9 H locs hP hD hS => ?_)
  cases ho9
  replace hO := hO1
  refine lv_aload hx hb dL_law_331 (lv_at hl 5 rfl) ?_
  refine lv_iload hx hb dL_law_333 (lv_at hl 3 rfl) ?_
  refine lv_iload hx hb dL_law_335 (lv_at hl 0 rfl) ?_
  obtain ⟨M6, e2, hO3⟩ := k_output hO2 hw2 ho hfin2 (show k < (res cd2 oth (vl cd d n).length).2.length by rw [al_res ho hal]; exact hk)
  have hP := sw2P hP
  have hD := sw2D hD
  refine t_calli (vx_runV (As := [.int (nI oth), .int (nI k)]) (rest := [.int ((res cd d n).2.getD k 0)]) CX (ctX7_output l hfl D sw cs ad2 (X2 cs ad M5 o f) H.size M2 (nI oth) (nI k) e2) (cwV 2 hts (gwV m3_146 m3_147 m3_148 m1_1 m3_149) rfl rfl rfl (by decide +kernel) ⟨Nat.le_trans (Nat.le_of_ble_eq_true rfl) hR.1, Nat.le_trans (Nat.le_of_ble_eq_true rfl) hR.2⟩) (wPreV hSW hS hA hK hP hD (by decide) rfl rfl _) rfl rfl hl.1 rfl (lv_room (Nat.le_of_ble_eq_true rfl)) dL_law_337 ⟨Nat.le_trans (show _ ≤ k0 + 30 by omega) hcs, Nat.le_trans (show _ ≤ j0 + 300 by omega) hss⟩) hD hS hA (fun k9 ho9 => by cases ho9) (fun r9 ho9 H locs hP hD hS => ?_)
  cases ho9
  have hP := sw2P hP
  have hD := sw2D hD
  replace hO2 := hO3
  refine top_i (y := ((res cd d n).2.getD k 0)) (by rw [al_res ho hal]) ?_
  refine lv_icmp_eq (tgt := 345) hx hb dL_law_340 (by decide) (fun _ => ?_) (fun h9 => absurd (rfl) h9)
  refine lv_iinc (v := (nI (k + 1))) (lv' := [(13, .int (nI (k + 1))), (12, .int p9), (11, .int e9), (10, .int (nI oth)), (9, .int (nI (vl cd d n).length)), (8, .ref (ad2 0)), (7, .int (nI d)), (6, .int (nI t)), (0, .ref b), (1, .ref (ad 0)), (2, .ref o), (3, .int (nI n)), (4, .int V), (5, .int (nI c0))]) hx hb dL_law_345 hl (k := 0) rfl (up1 k) (by decide) rfl (fun ls hl => ?_)
  refine lv_goto (tgt := 312) hx hb dL_law_348 (by decide) ?_
  refine W.widen (k := k0 + 30) (n := j0 + 300) (by omega) (by omega) ?_
  exact kk M5 M6 H locs ls hO hO2 hP hD hS (lv_sub hl [0, 1, 2, 3, 4, 5, 6, 7, 8, 9, 10, 11, 12, 13] rfl)
set_option maxHeartbeats 4000000 in
set_option maxRecDepth 100000 in
theorem lC {p : Program} {l : Launch} {e : Env} {R : Room} {s : State} {m : MethodId} {below : List Frame} {meth : Method} {c : Code} {Q : State → Prop} {b L : Nat} {xs : Nat → Int32} {D : va_G} {sw : Sw} {cs : Cs} (K : LK l p R s m c b L xs D sw cs) {ad : Nat → Nat} {o n : Nat} {cd : Nat → Nat} (hw : st cd n = some []) (hn : n ≤ 65) {f : Nat → Int32} (hf : ∀ i, i < n → f i = nI (cd i)) {V : Int32} {c0 : Nat} (hc0 : c0 < 16) {k0 j0 : Nat} (hcs : k0 + 2500 ≤ R.cells) (hss : j0 + 25000 ≤ R.slots) {ad2 : Nat → Nat} {d t oth : Nat} (hd : d < 16) (ht : t < 4) (ho : oth < 16) {e9 p9 : Int32} {cd2 : Nat → Nat} (hal : Al cd d n cd2) (hw2 : st cd2 (vl cd d n).length = some []) (hfin : fin cd d n = true) (kk : ∀ (M M2 : Mm) (H : Heap) (locs : List Loc) (ls : Array Slot), Ok M n cd → Ok M2 (vl cd d n).length cd2 → va_P D vwCl (wl cs LC NC ad M ++ X2 cs ad2 M2 o f) H → va_D (AL s) (wl cs LC NC ad M ++ X2 cs ad2 M2 o f) → va_S (AL s) s.heap H locs → lv_has ls 14 [(12, .int p9), (11, .int e9), (10, .int (nI oth)), (9, .int (nI (vl cd d n).length)), (8, .ref (ad2 0)), (7, .int (nI d)), (6, .int (nI t)), (0, .ref b), (1, .ref (ad 0)), (2, .ref o), (3, .int (nI n)), (4, .int V), (5, .int (nI c0))] → W p l e R s m #[Value.ref b] below meth c H locs (k0 + 30 * (res cd d n).2.length + 30) (j0 + 300 * (res cd d n).2.length + 300) Q (F0 m 351 ls [])) : ∀ (g k : Nat), k + g = (res cd d n).2.length → ∀ (M M2 : Mm) (H : Heap) (locs : List Loc) (ls : Array Slot), Ok M n cd → Ok M2 (vl cd d n).length cd2 → va_P D vwCl (wl cs LC NC ad M ++ X2 cs ad2 M2 o f) H → va_D (AL s) (wl cs LC NC ad M ++ X2 cs ad2 M2 o f) → va_S (AL s) s.heap H locs → lv_has ls 14 [(13, .int (nI k)), (12, .int p9), (11, .int e9), (10, .int (nI oth)), (9, .int (nI (vl cd d n).length)), (8, .ref (ad2 0)), (7, .int (nI d)), (6, .int (nI t)), (0, .ref b), (1, .ref (ad 0)), (2, .ref o), (3, .int (nI n)), (4, .int V), (5, .int (nI c0))] → W p l e R s m #[Value.ref b] below meth c H locs (k0 + 30 * k) (j0 + 300 * k) Q (F0 m 312 ls []) := by
  obtain ⟨CX, hX, hbl, hK, hSW, hC, hAO, hfl, hR⟩ := id K
  obtain ⟨hx, hb, hml, hown, hts⟩ := id CX
  have hwd : ∀ w ∈ WG, w.before _ s = true := fun w h => hts w (List.mem_cons_of_mem _ h)
  have hA : ∀ q, s.heap.size ≤ q → AL s q := fun _ h => h
  have hbA : ¬ AL s b := Nat.not_le.mpr hbl
  have hlen := (res_ok (show n ≤ 80 by omega) hfin).2
  intro g
  induction g with
  | zero =>
    intro k hk M M2 H locs ls hO hO2 hP hD hS hl
    have hk9 : k = (res cd d n).2.length := by omega
    refine lv_iload hx hb dL_law_312 (lv_at hl 0 rfl) ?_
    refine lv_aload_n hx hb dL_law_314 rfl (lv_at hl 9 rfl) ?_
    refine lv_iload hx hb dL_law_315 (lv_at hl 6 rfl) ?_
    obtain ⟨M4, e1, hO1⟩ := k_outputs hO hw hd hfin
    refine t_calli (vx_runV (As := [.int (nI d)]) (rest := [.int (nI k)]) CX (ctX7_outputs l hfl D sw cs ad (X2 cs ad2 M2 o f) H.size M (nI d) e1) (cwV 1 hts (gwV m3_122 m3_123 m3_124 m1_1 m3_125) rfl rfl rfl (by decide +kernel) ⟨Nat.le_trans (Nat.le_of_ble_eq_true rfl) hR.1, Nat.le_trans (Nat.le_of_ble_eq_true rfl) hR.2⟩) (wPreV hSW hS hA hK hP hD (by decide) rfl rfl _) rfl rfl hl.1 rfl (lv_room (Nat.le_of_ble_eq_true rfl)) dL_law_317 ⟨Nat.le_trans (show _ ≤ k0 + 2500 by omega) hcs, Nat.le_trans (show _ ≤ j0 + 25000 by omega) hss⟩) hD hS hA (fun k9 ho9 => by cases ho9) (fun r9 ho9 H locs hP hD hS => ?_)
    cases ho9
    replace hO := hO1
    refine lv_icmp_ge (tgt := 351) hx hb dL_law_320 (by decide) (fun _ => ?_) (fun h9 => absurd (nI_le (by omega) (by omega)) h9)
    refine W.widen (k := k0 + 30 * (res cd d n).2.length + 30) (n := j0 + 300 * (res cd d n).2.length + 300) (by omega) (by omega) ?_
    exact kk M4 M2 H locs ls hO hO2 hP hD hS (lv_sub hl [1, 2, 3, 4, 5, 6, 7, 8, 9, 10, 11, 12, 13] rfl)
  | succ g ih =>
    intro k hk M M2 H locs ls hO hO2 hP hD hS hl
    refine lC_step K hw hn hf hc0 (k0 := k0 + 30 * k) (j0 := j0 + 300 * k) (by omega) (by omega) hd ht ho hal hw2 hfin (show k < (res cd d n).2.length by omega) hO hO2 hP hD hS hl (fun M M2 H locs ls hO hO2 hP hD hS hl => ?_)
    refine W.widen (k := k0 + 30 * (k + 1)) (n := j0 + 300 * (k + 1)) (by omega) (by omega) ?_
    exact ih (k + 1) (by omega) M M2 H locs ls hO hO2 hP hD hS hl
set_option maxHeartbeats 4000000 in
set_option maxRecDepth 100000 in
theorem lD_step {p : Program} {l : Launch} {e : Env} {R : Room} {s : State} {m : MethodId} {below : List Frame} {meth : Method} {c : Code} {Q : State → Prop} {b L : Nat} {xs : Nat → Int32} {D : va_G} {sw : Sw} {cs : Cs} (K : LK l p R s m c b L xs D sw cs) {ad : Nat → Nat} {o n : Nat} {cd : Nat → Nat} (hw : st cd n = some []) (hn : n ≤ 65) {f : Nat → Int32} (hf : ∀ i, i < n → f i = nI (cd i)) {V : Int32} {c0 : Nat} (hc0 : c0 < 16) {k0 j0 : Nat} (hcs : k0 + 10 ≤ R.cells) (hss : j0 + 100 ≤ R.slots) {ad2 : Nat → Nat} {d t oth : Nat} (hd : d < 16) (ht : t < 4) (ho : oth < 16) {e9 p9 : Int32} {cd2 : Nat → Nat} (hal : Al cd d n cd2) (hw2 : st cd2 (vl cd d n).length = some []) (hfin : fin cd d n = true) {k : Nat} (hk : k < 4) {M M2 : Mm} (hO : Ok M n cd) (hO2 : Ok M2 (vl cd d n).length cd2) {H : Heap} {locs : List Loc} {ls : Array Slot} (hP : va_P D vwCl (wl cs LC NC ad M ++ X2 cs ad2 M2 o f) H) (hD : va_D (AL s) (wl cs LC NC ad M ++ X2 cs ad2 M2 o f)) (hS : va_S (AL s) s.heap H locs) (hl : lv_has ls 14 [(13, .int (nI k)), (12, .int p9), (11, .int e9), (10, .int (nI oth)), (9, .int (nI (vl cd d n).length)), (8, .ref (ad2 0)), (7, .int (nI d)), (6, .int (nI t)), (0, .ref b), (1, .ref (ad 0)), (2, .ref o), (3, .int (nI n)), (4, .int V), (5, .int (nI c0))]) (kk : ∀ (M M2 : Mm) (H : Heap) (locs : List Loc) (ls : Array Slot), Ok M n cd → Ok M2 (vl cd d n).length cd2 → va_P D vwCl (wl cs LC NC ad M ++ X2 cs ad2 M2 o f) H → va_D (AL s) (wl cs LC NC ad M ++ X2 cs ad2 M2 o f) → va_S (AL s) s.heap H locs → lv_has ls 14 [(13, .int (nI (k + 1))), (12, .int p9), (11, .int e9), (10, .int (nI oth)), (9, .int (nI (vl cd d n).length)), (8, .ref (ad2 0)), (7, .int (nI d)), (6, .int (nI t)), (0, .ref b), (1, .ref (ad 0)), (2, .ref o), (3, .int (nI n)), (4, .int V), (5, .int (nI c0))] → W p l e R s m #[Value.ref b] below meth c H locs (k0 + 10) (j0 + 100) Q (F0 m 354 ls [])) : W p l e R s m #[Value.ref b] below meth c H locs (k0) (j0) Q (F0 m 354 ls []) := by
  obtain ⟨CX, hX, hbl, hK, hSW, hC, hAO, hfl, hR⟩ := id K
  obtain ⟨hx, hb, hml, hown, hts⟩ := id CX
  have hwd : ∀ w ∈ WG, w.before _ s = true := fun w h => hts w (List.mem_cons_of_mem _ h)
  have hA : ∀ q, s.heap.size ≤ q → AL s q := fun _ h => h
  have hbA : ¬ AL s b := Nat.not_le.mpr hbl
  have hfin2 : fin cd2 oth (vl cd d n).length = true := (al_fin ho hal).trans hfin
  refine lv_iload hx hb dL_law_354 (lv_at hl 0 rfl) ?_
  refine lv_iconst (v := 4) hx hb dL_law_356 (by decide) ?_
  refine lv_icmp_ge (tgt := 388) hx hb dL_law_357 (by decide) (fun h9 => absurd h9 (nI_ge (b := 4) hk (by decide))) (fun _ => ?_)
  refine lv_aload_n hx hb dL_law_360 rfl (lv_at hl 9 rfl) ?_
  refine lv_iload hx hb dL_law_361 (lv_at hl 6 rfl) ?_
  refine lv_iload hx hb dL_law_363 (lv_at hl 0 rfl) ?_
  obtain ⟨M4, e1, hO1⟩ := k_variable hO hw hd hfin hk
  refine t_calli (vx_runV (As := [.int (nI d), .int (nI k)]) (rest := []) CX (ctX7_variable l hfl D sw cs ad (X2 cs ad2 M2 o f) H.size M (nI d) (nI k) e1) (cwV 2 hts (gwV m3_151 m3_152 m3_153 m1_1 m3_154) rfl rfl rfl (by decide +kernel) ⟨Nat.le_trans (Nat.le_of_ble_eq_true rfl) hR.1, Nat.le_trans (Nat.le_of_ble_eq_true rfl) hR.2⟩) (wPreV hSW hS hA hK hP hD (by decide) rfl rfl _) rfl rfl hl.1 rfl (lv_room (Nat.le_of_ble_eq_true rfl)) dL_law_365 ⟨Nat.le_trans (show _ ≤ k0 + 10 by omega) hcs, Nat.le_trans (show _ ≤ j0 + 100 by omega) hss⟩) hD hS hA (fun k9 ho9 => by cases ho9) (fun r9 ho9 H locs hP hD hS => ?_)
  cases ho9
  replace hO := hO1
  refine lv_aload hx hb dL_law_368 (lv_at hl 5 rfl) ?_
  refine lv_iload hx hb dL_law_370 (lv_at hl 3 rfl) ?_
  refine lv_iload hx hb dL_law_372 (lv_at hl 0 rfl) ?_
  obtain ⟨M5, e2, hO3⟩ := k_variable hO2 hw2 ho hfin2 hk
  have hP := sw2P hP
  have hD := sw2D hD
  refine t_calli (vx_runV (As := [.int (nI oth), .int (nI k)]) (rest := [.int ((res cd d n).1 k)]) CX (ctX7_variable l hfl D sw cs ad2 (X2 cs ad M4 o f) H.size M2 (nI oth) (nI k) e2) (cwV 2 hts (gwV m3_151 m3_152 m3_153 m1_1 m3_154) rfl rfl rfl (by decide +kernel) ⟨Nat.le_trans (Nat.le_of_ble_eq_true rfl) hR.1, Nat.le_trans (Nat.le_of_ble_eq_true rfl) hR.2⟩) (wPreV hSW hS hA hK hP hD (by decide) rfl rfl _) rfl rfl hl.1 rfl (lv_room (Nat.le_of_ble_eq_true rfl)) dL_law_374 ⟨Nat.le_trans (show _ ≤ k0 + 10 by omega) hcs, Nat.le_trans (show _ ≤ j0 + 100 by omega) hss⟩) hD hS hA (fun k9 ho9 => by cases ho9) (fun r9 ho9 H locs hP hD hS => ?_)
  cases ho9
  have hP := sw2P hP
  have hD := sw2D hD
  replace hO2 := hO3
  refine top_i (y := ((res cd d n).1 k)) (by rw [al_res ho hal]) ?_
  refine lv_icmp_eq (tgt := 382) hx hb dL_law_377 (by decide) (fun _ => ?_) (fun h9 => absurd (rfl) h9)
  refine lv_iinc (v := (nI (k + 1))) (lv' := [(13, .int (nI (k + 1))), (12, .int p9), (11, .int e9), (10, .int (nI oth)), (9, .int (nI (vl cd d n).length)), (8, .ref (ad2 0)), (7, .int (nI d)), (6, .int (nI t)), (0, .ref b), (1, .ref (ad 0)), (2, .ref o), (3, .int (nI n)), (4, .int V), (5, .int (nI c0))]) hx hb dL_law_382 hl (k := 0) rfl (up1 k) (by decide) rfl (fun ls hl => ?_)
  refine lv_goto (tgt := 354) hx hb dL_law_385 (by decide) ?_
  refine W.widen (k := k0 + 10) (n := j0 + 100) (by omega) (by omega) ?_
  exact kk M4 M5 H locs ls hO hO2 hP hD hS (lv_sub hl [0, 1, 2, 3, 4, 5, 6, 7, 8, 9, 10, 11, 12, 13] rfl)
set_option maxHeartbeats 4000000 in
set_option maxRecDepth 100000 in
theorem lD {p : Program} {l : Launch} {e : Env} {R : Room} {s : State} {m : MethodId} {below : List Frame} {meth : Method} {c : Code} {Q : State → Prop} {b L : Nat} {xs : Nat → Int32} {D : va_G} {sw : Sw} {cs : Cs} (K : LK l p R s m c b L xs D sw cs) {ad : Nat → Nat} {o n : Nat} {cd : Nat → Nat} (hw : st cd n = some []) (hn : n ≤ 65) {f : Nat → Int32} (hf : ∀ i, i < n → f i = nI (cd i)) {V : Int32} {c0 : Nat} (hc0 : c0 < 16) {k0 j0 : Nat} (hcs : k0 + 100 ≤ R.cells) (hss : j0 + 1000 ≤ R.slots) {ad2 : Nat → Nat} {d t oth : Nat} (hd : d < 16) (ht : t < 4) (ho : oth < 16) {e9 p9 : Int32} {cd2 : Nat → Nat} (hal : Al cd d n cd2) (hw2 : st cd2 (vl cd d n).length = some []) (hfin : fin cd d n = true) (kk : ∀ (M M2 : Mm) (H : Heap) (locs : List Loc) (ls : Array Slot), Ok M n cd → Ok M2 (vl cd d n).length cd2 → va_P D vwCl (wl cs LC NC ad M ++ X2 cs ad2 M2 o f) H → va_D (AL s) (wl cs LC NC ad M ++ X2 cs ad2 M2 o f) → va_S (AL s) s.heap H locs → lv_has ls 14 [(12, .int p9), (11, .int e9), (10, .int (nI oth)), (9, .int (nI (vl cd d n).length)), (8, .ref (ad2 0)), (7, .int (nI d)), (6, .int (nI t)), (0, .ref b), (1, .ref (ad 0)), (2, .ref o), (3, .int (nI n)), (4, .int V), (5, .int (nI c0))] → W p l e R s m #[Value.ref b] below meth c H locs (k0 + 10 * 4) (j0 + 100 * 4) Q (F0 m 388 ls [])) : ∀ (g k : Nat), k + g = 4 → ∀ (M M2 : Mm) (H : Heap) (locs : List Loc) (ls : Array Slot), Ok M n cd → Ok M2 (vl cd d n).length cd2 → va_P D vwCl (wl cs LC NC ad M ++ X2 cs ad2 M2 o f) H → va_D (AL s) (wl cs LC NC ad M ++ X2 cs ad2 M2 o f) → va_S (AL s) s.heap H locs → lv_has ls 14 [(13, .int (nI k)), (12, .int p9), (11, .int e9), (10, .int (nI oth)), (9, .int (nI (vl cd d n).length)), (8, .ref (ad2 0)), (7, .int (nI d)), (6, .int (nI t)), (0, .ref b), (1, .ref (ad 0)), (2, .ref o), (3, .int (nI n)), (4, .int V), (5, .int (nI c0))] → W p l e R s m #[Value.ref b] below meth c H locs (k0 + 10 * k) (j0 + 100 * k) Q (F0 m 354 ls []) := by
  obtain ⟨CX, hX, hbl, hK, hSW, hC, hAO, hfl, hR⟩ := id K
  obtain ⟨hx, hb, hml, hown, hts⟩ := id CX
  have hwd : ∀ w ∈ WG, w.before _ s = true := fun w h => hts w (List.mem_cons_of_mem _ h)
  have hA : ∀ q, s.heap.size ≤ q → AL s q := fun _ h => h
  have hbA : ¬ AL s b := Nat.not_le.mpr hbl
  intro g
  induction g with
  | zero =>
    intro k hk M M2 H locs ls hO hO2 hP hD hS hl
    refine lv_iload hx hb dL_law_354 (lv_at hl 0 rfl) ?_
    refine lv_iconst (v := 4) hx hb dL_law_356 (by decide) ?_
    obtain rfl : k = 4 := by omega
    refine lv_icmp_ge (tgt := 388) hx hb dL_law_357 (by decide) (fun _ => ?_) (fun h9 => absurd (nI_le (b := 4) (Nat.le_refl _) (by decide)) h9)
    exact kk M M2 H locs ls hO hO2 hP hD hS (lv_sub hl [1, 2, 3, 4, 5, 6, 7, 8, 9, 10, 11, 12, 13] rfl)
  | succ g ih =>
    intro k hk M M2 H locs ls hO hO2 hP hD hS hl
    refine lD_step K hw hn hf hc0 (k0 := k0 + 10 * k) (j0 := j0 + 100 * k) (by omega) (by omega) hd ht ho hal hw2 hfin (show k < 4 by omega) hO hO2 hP hD hS hl (fun M M2 H locs ls hO hO2 hP hD hS hl => ?_)
    refine W.widen (k := k0 + 10 * (k + 1)) (n := j0 + 100 * (k + 1)) (by omega) (by omega) ?_
    exact ih (k + 1) (by omega) M M2 H locs ls hO hO2 hP hD hS hl
set_option maxHeartbeats 4000000 in
set_option maxRecDepth 100000 in
theorem lCD {p : Program} {l : Launch} {e : Env} {R : Room} {s : State} {m : MethodId} {below : List Frame} {meth : Method} {c : Code} {Q : State → Prop} {b L : Nat} {xs : Nat → Int32} {D : va_G} {sw : Sw} {cs : Cs} (K : LK l p R s m c b L xs D sw cs) {ad : Nat → Nat} {o n : Nat} {cd : Nat → Nat} (hw : st cd n = some []) (hn : n ≤ 65) {f : Nat → Int32} (hf : ∀ i, i < n → f i = nI (cd i)) {V : Int32} {c0 : Nat} (hc0 : c0 < 16) {k0 j0 : Nat} (hcs : k0 + 2800 ≤ R.cells) (hss : j0 + 28000 ≤ R.slots) {ad2 : Nat → Nat} {d t oth : Nat} (hd : d < 16) (ht : t < 4) (ho : oth < 16) {e9 p9 : Int32} {cd2 : Nat → Nat} (hal : Al cd d n cd2) (hw2 : st cd2 (vl cd d n).length = some []) (hfin : fin cd d n = true) {M M2 : Mm} (hO : Ok M n cd) (hO2 : Ok M2 (vl cd d n).length cd2) {H : Heap} {locs : List Loc} {ls : Array Slot} (hP : va_P D vwCl (wl cs LC NC ad M ++ X2 cs ad2 M2 o f) H) (hD : va_D (AL s) (wl cs LC NC ad M ++ X2 cs ad2 M2 o f)) (hS : va_S (AL s) s.heap H locs) (hl : lv_has ls 14 [(12, .int p9), (11, .int e9), (10, .int (nI oth)), (9, .int (nI (vl cd d n).length)), (8, .ref (ad2 0)), (7, .int (nI d)), (6, .int (nI t)), (0, .ref b), (1, .ref (ad 0)), (2, .ref o), (3, .int (nI n)), (4, .int V), (5, .int (nI c0))]) (kk : ∀ (M M2 : Mm) (H : Heap) (locs : List Loc) (ls : Array Slot), Ok M n cd → Ok M2 (vl cd d n).length cd2 → va_P D vwCl (wl cs LC NC ad M ++ X2 cs ad2 M2 o f) H → va_D (AL s) (wl cs LC NC ad M ++ X2 cs ad2 M2 o f) → va_S (AL s) s.heap H locs → lv_has ls 14 [(12, .int p9), (11, .int e9), (10, .int (nI oth)), (9, .int (nI (vl cd d n).length)), (8, .ref (ad2 0)), (7, .int (nI d)), (6, .int (nI t)), (0, .ref b), (1, .ref (ad 0)), (2, .ref o), (3, .int (nI n)), (4, .int V), (5, .int (nI c0))] → W p l e R s m #[Value.ref b] below meth c H locs (k0 + 2800) (j0 + 28000) Q (F0 m 388 ls [])) : W p l e R s m #[Value.ref b] below meth c H locs (k0) (j0) Q (F0 m 291 ls []) := by
  obtain ⟨CX, hX, hbl, hK, hSW, hC, hAO, hfl, hR⟩ := id K
  obtain ⟨hx, hb, hml, hown, hts⟩ := id CX
  have hwd : ∀ w ∈ WG, w.before _ s = true := fun w h => hts w (List.mem_cons_of_mem _ h)
  have hA : ∀ q, s.heap.size ≤ q → AL s q := fun _ h => h
  have hbA : ¬ AL s b := Nat.not_le.mpr hbl
  have hlen := (res_ok (show n ≤ 80 by omega) hfin).2
  have hfin2 : fin cd2 oth (vl cd d n).length = true := (al_fin ho hal).trans hfin
  refine lv_aload_n hx hb dL_law_291 rfl (lv_at hl 8 rfl) ?_
  refine lv_iload hx hb dL_law_292 (lv_at hl 5 rfl) ?_
  obtain ⟨M4, e1, hO1⟩ := k_outputs hO hw hd hfin
  refine t_calli (vx_runV (As := [.int (nI d)]) (rest := []) CX (ctX7_outputs l hfl D sw cs ad (X2 cs ad2 M2 o f) H.size M (nI d) e1) (cwV 1 hts (gwV m3_122 m3_123 m3_124 m1_1 m3_125) rfl rfl rfl (by decide +kernel) ⟨Nat.le_trans (Nat.le_of_ble_eq_true rfl) hR.1, Nat.le_trans (Nat.le_of_ble_eq_true rfl) hR.2⟩) (wPreV hSW hS hA hK hP hD (by decide) rfl rfl _) rfl rfl hl.1 rfl (lv_room (Nat.le_of_ble_eq_true rfl)) dL_law_294 ⟨Nat.le_trans (show _ ≤ k0 + 2800 by omega) hcs, Nat.le_trans (show _ ≤ j0 + 28000 by omega) hss⟩) hD hS hA (fun k9 ho9 => by cases ho9) (fun r9 ho9 H locs hP hD hS => ?_)
  cases ho9
  replace hO := hO1
  refine lv_aload hx hb dL_law_297 (lv_at hl 4 rfl) ?_
  refine lv_iload hx hb dL_law_299 (lv_at hl 2 rfl) ?_
  obtain ⟨M5, e2, hO3⟩ := k_outputs hO2 hw2 ho hfin2
  have hP := sw2P hP
  have hD := sw2D hD
  refine t_calli (vx_runV (As := [.int (nI oth)]) (rest := [.int (nI (res cd d n).2.length)]) CX (ctX7_outputs l hfl D sw cs ad2 (X2 cs ad M4 o f) H.size M2 (nI oth) e2) (cwV 1 hts (gwV m3_122 m3_123 m3_124 m1_1 m3_125) rfl rfl rfl (by decide +kernel) ⟨Nat.le_trans (Nat.le_of_ble_eq_true rfl) hR.1, Nat.le_trans (Nat.le_of_ble_eq_true rfl) hR.2⟩) (wPreV hSW hS hA hK hP hD (by decide) rfl rfl _) rfl rfl hl.1 rfl (lv_room (Nat.le_of_ble_eq_true rfl)) dL_law_301 ⟨Nat.le_trans (show _ ≤ k0 + 2800 by omega) hcs, Nat.le_trans (show _ ≤ j0 + 28000 by omega) hss⟩) hD hS hA (fun k9 ho9 => by cases ho9) (fun r9 ho9 H locs hP hD hS => ?_)
  cases ho9
  have hP := sw2P hP
  have hD := sw2D hD
  replace hO2 := hO3
  refine top_i (y := (nI (res cd d n).2.length)) (by rw [al_res ho hal]) ?_
  refine lv_icmp_eq (tgt := 309) hx hb dL_law_304 (by decide) (fun _ => ?_) (fun h9 => absurd (rfl) h9)
  refine lv_iconst (v := 0) hx hb dL_law_309 (by decide) ?_
  refine top_i (y := (nI 0)) (rfl) ?_
  refine lv_istore (lv' := [(13, .int (nI 0)), (12, .int p9), (11, .int e9), (10, .int (nI oth)), (9, .int (nI (vl cd d n).length)), (8, .ref (ad2 0)), (7, .int (nI d)), (6, .int (nI t)), (0, .ref b), (1, .ref (ad 0)), (2, .ref o), (3, .int (nI n)), (4, .int V), (5, .int (nI c0))]) hx hb dL_law_310 hl (by decide) rfl (fun ls hl => ?_)
  refine W.widen (k := k0 + 100 + 30 * 0) (n := j0 + 1000 + 300 * 0) (by omega) (by omega) ?_
  refine lC K hw hn hf hc0 (k0 := k0 + 100) (j0 := j0 + 1000) (by omega) (by omega) hd ht ho hal hw2 hfin (fun M M2 H locs ls hO hO2 hP hD hS hl => ?_) (res cd d n).2.length 0 (Nat.zero_add _) _ _ H locs ls hO hO2 hP hD hS (lv_sub hl [0, 1, 2, 3, 4, 5, 6, 7, 8, 9, 10, 11, 12, 13] rfl)
  refine lv_iconst (v := 0) hx hb dL_law_351 (by decide) ?_
  refine top_i (y := (nI 0)) (rfl) ?_
  refine lv_istore (lv' := [(13, .int (nI 0)), (12, .int p9), (11, .int e9), (10, .int (nI oth)), (9, .int (nI (vl cd d n).length)), (8, .ref (ad2 0)), (7, .int (nI d)), (6, .int (nI t)), (0, .ref b), (1, .ref (ad 0)), (2, .ref o), (3, .int (nI n)), (4, .int V), (5, .int (nI c0))]) hx hb dL_law_352 hl (by decide) rfl (fun ls hl => ?_)
  refine W.widen (k := k0 + 2700 + 10 * 0) (n := j0 + 27000 + 100 * 0) (by omega) (by omega) ?_
  exact lD K hw hn hf hc0 (k0 := k0 + 2700) (j0 := j0 + 27000) (by omega) (by omega) hd ht ho hal hw2 hfin (fun M M2 H locs ls hO hO2 hP hD hS hl => W.widen (k := k0 + 2800) (n := j0 + 28000) (by omega) (by omega) (kk M M2 H locs ls hO hO2 hP hD hS hl)) 4 0 rfl M M2 H locs ls hO hO2 hP hD hS hl
set_option maxHeartbeats 4000000 in
set_option maxRecDepth 100000 in
theorem l245n {p : Program} {l : Launch} {e : Env} {R : Room} {s : State} {m : MethodId} {below : List Frame} {meth : Method} {c : Code} {Q : State → Prop} {b L : Nat} {xs : Nat → Int32} {D : va_G} {sw : Sw} {cs : Cs} (K : LK l p R s m c b L xs D sw cs) {ad : Nat → Nat} {o n : Nat} {cd : Nat → Nat} (hw : st cd n = some []) (hn : n ≤ 65) {f : Nat → Int32} (hf : ∀ i, i < n → f i = nI (cd i)) {V : Int32} {c0 : Nat} (hc0 : c0 < 16) {k0 j0 : Nat} (hcs : k0 + 4000 ≤ R.cells) (hss : j0 + 40000 ≤ R.slots) {ad2 : Nat → Nat} {d t oth : Nat} (hd : d < 16) (ht : t < 4) (ho : oth < 16) {e9 p9 : Int32} {cd2 : Nat → Nat} (hal : Al cd d n cd2) (hw2 : st cd2 (vl cd d n).length = some []) (he : e9 < 0) (hfin : fin cd d n = true) {M M2 : Mm} (hO : Ok M n cd) (hO2 : Ok M2 (vl cd d n).length cd2) {H : Heap} {locs : List Loc} {ls : Array Slot} (hP : va_P D vwCl (wl cs LC NC ad M ++ X2 cs ad2 M2 o f) H) (hD : va_D (AL s) (wl cs LC NC ad M ++ X2 cs ad2 M2 o f)) (hS : va_S (AL s) s.heap H locs) (hl : lv_has ls 14 [(12, .int p9), (11, .int e9), (10, .int (nI oth)), (9, .int (nI (vl cd d n).length)), (8, .ref (ad2 0)), (7, .int (nI d)), (6, .int (nI t)), (0, .ref b), (1, .ref (ad 0)), (2, .ref o), (3, .int (nI n)), (4, .int V), (5, .int (nI c0))]) (kk : ∀ (M M2 : Mm) (H : Heap) (locs : List Loc) (ls : Array Slot), Ok M n cd → Ok M2 (vl cd d n).length cd2 → va_P D vwCl (wl cs LC NC ad M ++ X2 cs ad2 M2 o f) H → va_D (AL s) (wl cs LC NC ad M ++ X2 cs ad2 M2 o f) → va_S (AL s) s.heap H locs → lv_has ls 14 [(12, .int p9), (11, .int e9), (10, .int (nI oth)), (9, .int (nI (vl cd d n).length)), (8, .ref (ad2 0)), (7, .int (nI d)), (6, .int (nI t)), (0, .ref b), (1, .ref (ad 0)), (2, .ref o), (3, .int (nI n)), (4, .int V), (5, .int (nI c0))] → W p l e R s m #[Value.ref b] below meth c H locs (k0 + 4000) (j0 + 40000) Q (F0 m 388 ls [])) : W p l e R s m #[Value.ref b] below meth c H locs (k0) (j0) Q (F0 m 245 ls []) := by
  obtain ⟨CX, hX, hbl, hK, hSW, hC, hAO, hfl, hR⟩ := id K
  obtain ⟨hx, hb, hml, hown, hts⟩ := id CX
  have hwd : ∀ w ∈ WG, w.before _ s = true := fun w h => hts w (List.mem_cons_of_mem _ h)
  have hA : ∀ q, s.heap.size ≤ q → AL s q := fun _ h => h
  have hbA : ¬ AL s b := Nat.not_le.mpr hbl
  have hvl := vl_len (cd := cd) (c := d) n
  refine lv_iconst (v := 0) hx hb dL_law_245 (by decide) ?_
  refine top_i (y := (nI 0)) (rfl) ?_
  refine lv_istore (lv' := [(13, .int (nI 0)), (12, .int p9), (11, .int e9), (10, .int (nI oth)), (9, .int (nI (vl cd d n).length)), (8, .ref (ad2 0)), (7, .int (nI d)), (6, .int (nI t)), (0, .ref b), (1, .ref (ad 0)), (2, .ref o), (3, .int (nI n)), (4, .int V), (5, .int (nI c0))]) hx hb dL_law_246 hl (by decide) rfl (fun ls hl => ?_)
  refine W.widen (k := k0 + 10 * 0) (n := j0 + 100 * 0) (by omega) (by omega) ?_
  refine lB K hw hn hf hc0 (k0 := k0) (j0 := j0) (by omega) (by omega) hd ht ho hal hw2 (fun M M2 H locs ls hO hO2 hP hD hS hl => ?_) (vl cd d n).length 0 (Nat.zero_add _) M M2 H locs ls hO hO2 hP hD hS hl
  refine lv_iload hx hb dL_law_283 (lv_at hl 1 rfl) ?_
  refine lv_if_lt (tgt := 291) hx hb dL_law_285 (by decide) (fun _ => ?_) (fun h9 => absurd (he) h9)
  refine W.widen (k := k0 + 800) (n := j0 + 8000) (by omega) (by omega) ?_
  exact lCD K hw hn hf hc0 (k0 := k0 + 800) (j0 := j0 + 8000) (by omega) (by omega) hd ht ho hal hw2 hfin hO hO2 hP hD hS hl (fun M M2 H locs ls hO hO2 hP hD hS hl => W.widen (k := k0 + 4000) (n := j0 + 40000) (by omega) (by omega) (kk M M2 H locs ls hO hO2 hP hD hS hl))
set_option maxHeartbeats 4000000 in
set_option maxRecDepth 100000 in
theorem l245e {p : Program} {l : Launch} {e : Env} {R : Room} {s : State} {m : MethodId} {below : List Frame} {meth : Method} {c : Code} {Q : State → Prop} {b L : Nat} {xs : Nat → Int32} {D : va_G} {sw : Sw} {cs : Cs} (K : LK l p R s m c b L xs D sw cs) {ad : Nat → Nat} {o n : Nat} {cd : Nat → Nat} (hw : st cd n = some []) (hn : n ≤ 65) {f : Nat → Int32} (hf : ∀ i, i < n → f i = nI (cd i)) {V : Int32} {c0 : Nat} (hc0 : c0 < 16) {k0 j0 : Nat} (hcs : k0 + 4000 ≤ R.cells) (hss : j0 + 40000 ≤ R.slots) {ad2 : Nat → Nat} {d t oth : Nat} (hd : d < 16) (ht : t < 4) (ho : oth < 16) {e9 p9 : Int32} {cd2 : Nat → Nat} (hal : Al cd d n cd2) (hw2 : st cd2 (vl cd d n).length = some []) (he : ¬ e9 < 0) {M M2 : Mm} (hO : Ok M n cd) (hO2 : Ok M2 (vl cd d n).length cd2) {H : Heap} {locs : List Loc} {ls : Array Slot} (hP : va_P D vwCl (wl cs LC NC ad M ++ X2 cs ad2 M2 o f) H) (hD : va_D (AL s) (wl cs LC NC ad M ++ X2 cs ad2 M2 o f)) (hS : va_S (AL s) s.heap H locs) (hl : lv_has ls 14 [(12, .int p9), (11, .int e9), (10, .int (nI oth)), (9, .int (nI (vl cd d n).length)), (8, .ref (ad2 0)), (7, .int (nI d)), (6, .int (nI t)), (0, .ref b), (1, .ref (ad 0)), (2, .ref o), (3, .int (nI n)), (4, .int V), (5, .int (nI c0))]) (kk : ∀ (M M2 : Mm) (H : Heap) (locs : List Loc) (ls : Array Slot), Ok M n cd → Ok M2 (vl cd d n).length cd2 → va_P D vwCl (wl cs LC NC ad M ++ X2 cs ad2 M2 o f) H → va_D (AL s) (wl cs LC NC ad M ++ X2 cs ad2 M2 o f) → va_S (AL s) s.heap H locs → lv_has ls 14 [(12, .int p9), (11, .int e9), (10, .int (nI oth)), (9, .int (nI (vl cd d n).length)), (8, .ref (ad2 0)), (7, .int (nI d)), (6, .int (nI t)), (0, .ref b), (1, .ref (ad 0)), (2, .ref o), (3, .int (nI n)), (4, .int V), (5, .int (nI c0))] → W p l e R s m #[Value.ref b] below meth c H locs (k0 + 4000) (j0 + 40000) Q (F0 m 388 ls [])) : W p l e R s m #[Value.ref b] below meth c H locs (k0) (j0) Q (F0 m 245 ls []) := by
  obtain ⟨CX, hX, hbl, hK, hSW, hC, hAO, hfl, hR⟩ := id K
  obtain ⟨hx, hb, hml, hown, hts⟩ := id CX
  have hwd : ∀ w ∈ WG, w.before _ s = true := fun w h => hts w (List.mem_cons_of_mem _ h)
  have hA : ∀ q, s.heap.size ≤ q → AL s q := fun _ h => h
  have hbA : ¬ AL s b := Nat.not_le.mpr hbl
  have hvl := vl_len (cd := cd) (c := d) n
  refine lv_iconst (v := 0) hx hb dL_law_245 (by decide) ?_
  refine top_i (y := (nI 0)) (rfl) ?_
  refine lv_istore (lv' := [(13, .int (nI 0)), (12, .int p9), (11, .int e9), (10, .int (nI oth)), (9, .int (nI (vl cd d n).length)), (8, .ref (ad2 0)), (7, .int (nI d)), (6, .int (nI t)), (0, .ref b), (1, .ref (ad 0)), (2, .ref o), (3, .int (nI n)), (4, .int V), (5, .int (nI c0))]) hx hb dL_law_246 hl (by decide) rfl (fun ls hl => ?_)
  refine W.widen (k := k0 + 10 * 0) (n := j0 + 100 * 0) (by omega) (by omega) ?_
  refine lB K hw hn hf hc0 (k0 := k0) (j0 := j0) (by omega) (by omega) hd ht ho hal hw2 (fun M M2 H locs ls hO hO2 hP hD hS hl => ?_) (vl cd d n).length 0 (Nat.zero_add _) M M2 H locs ls hO hO2 hP hD hS hl
  refine lv_iload hx hb dL_law_283 (lv_at hl 1 rfl) ?_
  refine lv_if_lt (tgt := 291) hx hb dL_law_285 (by decide) (fun h9 => absurd h9 (he)) (fun _ => ?_)
  refine lv_goto (tgt := 388) hx hb dL_law_288 (by decide) ?_
  refine W.widen (k := k0 + 4000) (n := j0 + 40000) (by omega) (by omega) ?_
  exact kk M M2 H locs ls hO hO2 hP hD hS hl
