set_option maxHeartbeats 4000000 in
set_option maxRecDepth 100000 in
theorem lG {p : Program} {l : Launch} {e : Env} {R : Room} {s : State} {m : MethodId} {below : List Frame} {meth : Method} {c : Code} {Q : State → Prop} {b L : Nat} {xs : Nat → Int32} {D : va_G} {sw : Sw} {cs : Cs} (K : LK l p R s m c b L xs D sw cs) {ad : Nat → Nat} {o n : Nat} {cd : Nat → Nat} (hw : st cd n = some []) (hn : n ≤ 65) {f : Nat → Int32} (hf : ∀ i, i < n → f i = nI (cd i)) {V : Int32} {c0 : Nat} (hc0 : c0 < 16) {k0 j0 : Nat} (hcs : k0 + 100 ≤ R.cells) (hss : j0 + 1000 ≤ R.slots) (hk6 : k0 + 100 ≤ 600172) (hj6 : j0 + 1000 ≤ 7300668) (fin : ∀ (H : Heap) (ls : Array Slot), W p l e R s m #[Value.ref b] below meth c H [] 600172 7300668 Q (F0 m 493 ls [.int 1])) {M : Mm} (hO : Ok M n cd) {H : Heap} {locs : List Loc} {ls : Array Slot} (hP : va_P D vwCl (wl cs LC NC ad M ++ [(o, .inl (cs.1, 80, .inl f))]) H) (hD : va_D (AL s) (wl cs LC NC ad M ++ [(o, .inl (cs.1, 80, .inl f))])) (hS : va_S (AL s) s.heap H locs) (hl : lv_has ls 14 [(0, .ref b), (1, .ref (ad 0)), (2, .ref o), (3, .int (nI n)), (4, .int V), (5, .int (nI c0))]) : W p l e R s m #[Value.ref b] below meth c H locs (k0) (j0) Q (F0 m 459 ls []) := by
  obtain ⟨CX, hX, hbl, hK, hSW, hC, hAO, hfl, hR⟩ := id K
  obtain ⟨hx, hb, hml, hown, hts⟩ := id CX
  have hwd : ∀ w ∈ WG, w.before _ s = true := fun w h => hts w (List.mem_cons_of_mem _ h)
  have hA : ∀ q, s.heap.size ≤ q → AL s q := fun _ h => h
  have hbA : ¬ AL s b := Nat.not_le.mpr hbl
  refine lv_aload_n hx hb dL_law_459 rfl (lv_at hl 1 rfl) ?_
  obtain ⟨M3, e1, hO1⟩ := k_gain hO hw
  refine t_calld (vx_runV (As := []) (rest := []) CX (ctX7_gain l hfl D sw cs ad ([(o, .inl (cs.1, 80, .inl f))]) H.size M  e1) (cwV 0 hts (gwV m3_106 m3_107 m3_108 m1_1 m3_109) rfl rfl rfl (by decide +kernel) ⟨Nat.le_trans (Nat.le_of_ble_eq_true rfl) hR.1, Nat.le_trans (Nat.le_of_ble_eq_true rfl) hR.2⟩) (wPreV hSW hS hA hK hP hD (by decide) rfl rfl _) rfl rfl hl.1 rfl (lv_room (Nat.le_of_ble_eq_true rfl)) dL_law_460 ⟨Nat.le_trans (show _ ≤ k0 + 100 by omega) hcs, Nat.le_trans (show _ ≤ j0 + 1000 by omega) hss⟩) hD hS hA (fun k9 ho9 => by cases ho9) (fun r9 ho9 H locs hP hD hS => ?_)
  cases ho9
  replace hO := hO1
  refine lv_dconst0 hx hb dL_law_463 ?_
  refine lv_dcmp hx hb dL_law_464 ?_
  rcases gain_law (cd := cd) (show n ≤ 80 by omega) with hg | ⟨hg1, hg2⟩
  · have h0 : Op.cmpValue (FP.dcmp (gnV cd n) FP.dconst0) .l = 0 := by rw [hg]; exact gain_zero
    refine lv_if_eq (tgt := 488) hx hb dL_law_465 (by decide) (fun _ => ?_) (fun h9 => absurd (h0) h9)
    refine lv_iconst (v := 1) hx hb dL_law_488 (by decide) ?_
    refine lv_goto (tgt := 493) hx hb dL_law_489 (by decide) ?_
    refine top_i (y := 1) (rfl) ?_
    refine va_forget (fun q hq => hS.2.2 q hq) ?_
    refine W.widen (k := 600172) (n := 7300668) (by omega) (by omega) ?_
    exact fin _ _
  · refine lv_if_eq (tgt := 488) hx hb dL_law_465 (by decide) (fun h9 => ?_) (fun h9 => ?_)
    · refine lv_iconst (v := 1) hx hb dL_law_488 (by decide) ?_
      refine lv_goto (tgt := 493) hx hb dL_law_489 (by decide) ?_
      refine top_i (y := 1) (rfl) ?_
      refine va_forget (fun q hq => hS.2.2 q hq) ?_
      refine W.widen (k := 600172) (n := 7300668) (by omega) (by omega) ?_
      exact fin _ _
    · refine lv_aload_n hx hb dL_law_468 rfl (lv_at hl 1 rfl) ?_
      obtain ⟨M4, e1, hO1⟩ := k_gain hO hw
      refine t_calld (vx_runV (As := []) (rest := []) CX (ctX7_gain l hfl D sw cs ad ([(o, .inl (cs.1, 80, .inl f))]) H.size M3  e1) (cwV 0 hts (gwV m3_106 m3_107 m3_108 m1_1 m3_109) rfl rfl rfl (by decide +kernel) ⟨Nat.le_trans (Nat.le_of_ble_eq_true rfl) hR.1, Nat.le_trans (Nat.le_of_ble_eq_true rfl) hR.2⟩) (wPreV hSW hS hA hK hP hD (by decide) rfl rfl _) rfl rfl hl.1 rfl (lv_room (Nat.le_of_ble_eq_true rfl)) dL_law_469 ⟨Nat.le_trans (show _ ≤ k0 + 100 by omega) hcs, Nat.le_trans (show _ ≤ j0 + 1000 by omega) hss⟩) hD hS hA (fun k9 ho9 => by cases ho9) (fun r9 ho9 H locs hP hD hS => ?_)
      cases ho9
      replace hO := hO1
      refine lv_dconst1 hx hb dL_law_472 ?_
      refine lv_dcmp hx hb dL_law_473 ?_
      refine lv_if_lt (tgt := 492) hx hb dL_law_474 (by decide) (fun h9 => absurd h9 (hg1)) (fun _ => ?_)
      refine lv_aload_n hx hb dL_law_477 rfl (lv_at hl 1 rfl) ?_
      obtain ⟨M5, e1, hO1⟩ := k_gain hO hw
      refine t_calld (vx_runV (As := []) (rest := []) CX (ctX7_gain l hfl D sw cs ad ([(o, .inl (cs.1, 80, .inl f))]) H.size M4  e1) (cwV 0 hts (gwV m3_106 m3_107 m3_108 m1_1 m3_109) rfl rfl rfl (by decide +kernel) ⟨Nat.le_trans (Nat.le_of_ble_eq_true rfl) hR.1, Nat.le_trans (Nat.le_of_ble_eq_true rfl) hR.2⟩) (wPreV hSW hS hA hK hP hD (by decide) rfl rfl _) rfl rfl hl.1 rfl (lv_room (Nat.le_of_ble_eq_true rfl)) dL_law_478 ⟨Nat.le_trans (show _ ≤ k0 + 100 by omega) hcs, Nat.le_trans (show _ ≤ j0 + 1000 by omega) hss⟩) hD hS hA (fun k9 ho9 => by cases ho9) (fun r9 ho9 H locs hP hD hS => ?_)
      cases ho9
      replace hO := hO1
      refine lv_ldc2d (v := 4625196817309499392) hx hb hown (hwd _ m4_18) dL_law_481 ?_
      refine lv_dcmp hx hb dL_law_484 ?_
      refine lv_if_gt (tgt := 492) hx hb dL_law_485 (by decide) (fun h9 => absurd h9 (hg2)) (fun _ => ?_)
      refine lv_iconst (v := 1) hx hb dL_law_488 (by decide) ?_
      refine lv_goto (tgt := 493) hx hb dL_law_489 (by decide) ?_
      refine top_i (y := 1) (rfl) ?_
      refine va_forget (fun q hq => hS.2.2 q hq) ?_
      refine W.widen (k := 600172) (n := 7300668) (by omega) (by omega) ?_
      exact fin _ _
set_option maxHeartbeats 4000000 in
set_option maxRecDepth 100000 in
theorem lH_step {p : Program} {l : Launch} {e : Env} {R : Room} {s : State} {m : MethodId} {below : List Frame} {meth : Method} {c : Code} {Q : State → Prop} {b L : Nat} {xs : Nat → Int32} {D : va_G} {sw : Sw} {cs : Cs} (K : LK l p R s m c b L xs D sw cs) {ad : Nat → Nat} {o n : Nat} {cd : Nat → Nat} (hw : st cd n = some []) (hn : n ≤ 65) {f : Nat → Int32} (hf : ∀ i, i < n → f i = nI (cd i)) {V : Int32} {c0 : Nat} (hc0 : c0 < 16) {k0 j0 : Nat} (hcs : k0 + 10 ≤ R.cells) (hss : j0 + 100 ≤ R.slots) {x6 : Int32} {i : Nat} (hi : i < n) {M : Mm} (hO : Ok M n cd) {H : Heap} {locs : List Loc} {ls : Array Slot} (hP : va_P D vwCl (wl cs LC NC ad M ++ [(o, .inl (cs.1, 80, .inl f))]) H) (hD : va_D (AL s) (wl cs LC NC ad M ++ [(o, .inl (cs.1, 80, .inl f))])) (hS : va_S (AL s) s.heap H locs) (hl : lv_has ls 14 [(7, .int (nI i)), (6, .int x6), (0, .ref b), (1, .ref (ad 0)), (2, .ref o), (3, .int (nI n)), (4, .int V), (5, .int (nI c0))]) (kk : ∀ (M : Mm) (H : Heap) (locs : List Loc) (ls : Array Slot), Ok M n cd → va_P D vwCl (wl cs LC NC ad M ++ [(o, .inl (cs.1, 80, .inl f))]) H → va_D (AL s) (wl cs LC NC ad M ++ [(o, .inl (cs.1, 80, .inl f))]) → va_S (AL s) s.heap H locs → lv_has ls 14 [(7, .int (nI (i + 1))), (6, .int x6), (0, .ref b), (1, .ref (ad 0)), (2, .ref o), (3, .int (nI n)), (4, .int V), (5, .int (nI c0))] → W p l e R s m #[Value.ref b] below meth c H locs (k0 + 10) (j0 + 100) Q (F0 m 427 ls [])) : W p l e R s m #[Value.ref b] below meth c H locs (k0) (j0) Q (F0 m 427 ls []) := by
  obtain ⟨CX, hX, hbl, hK, hSW, hC, hAO, hfl, hR⟩ := id K
  obtain ⟨hx, hb, hml, hown, hts⟩ := id CX
  have hwd : ∀ w ∈ WG, w.before _ s = true := fun w h => hts w (List.mem_cons_of_mem _ h)
  have hA : ∀ q, s.heap.size ≤ q → AL s q := fun _ h => h
  have hbA : ¬ AL s b := Nat.not_le.mpr hbl
  refine lv_iload hx hb dL_law_427 (lv_at hl 0 rfl) ?_
  refine lv_iload_n hx hb dL_law_429 rfl (lv_at hl 5 rfl) ?_
  refine lv_icmp_ge (tgt := 459) hx hb dL_law_430 (by decide) (fun h9 => absurd h9 (nI_ge hi (by omega))) (fun _ => ?_)
  refine lv_aload_n hx hb dL_law_433 rfl (lv_at hl 3 rfl) ?_
  refine lv_iload hx hb dL_law_434 (lv_at hl 0 rfl) ?_
  obtain ⟨M3, e1, hO1⟩ := k_groups hO hw hi
  refine t_calli (vx_runV (As := [.int (nI i)]) (rest := []) CX (ctX7_groups l hfl D sw cs ad ([(o, .inl (cs.1, 80, .inl f))]) H.size M (nI i) e1) (cwV 1 hts (gwV m3_102 m3_103 m3_104 m1_1 m3_105) rfl rfl rfl (by decide +kernel) ⟨Nat.le_trans (Nat.le_of_ble_eq_true rfl) hR.1, Nat.le_trans (Nat.le_of_ble_eq_true rfl) hR.2⟩) (wPreV hSW hS hA hK hP hD (by decide) rfl rfl _) rfl rfl hl.1 rfl (lv_room (Nat.le_of_ble_eq_true rfl)) dL_law_436 ⟨Nat.le_trans (show _ ≤ k0 + 10 by omega) hcs, Nat.le_trans (show _ ≤ j0 + 100 by omega) hss⟩) hD hS hA (fun k9 ho9 => by cases ho9) (fun r9 ho9 H locs hP hD hS => ?_)
  cases ho9
  replace hO := hO1
  refine top_i (y := (nI (grN cd i))) ((gr_N cd i).symm) ?_
  refine lv_aload_n hx hb dL_law_439 rfl (lv_at hl 3 rfl) ?_
  refine lv_iload hx hb dL_law_440 (lv_at hl 0 rfl) ?_
  obtain ⟨M4, e1, hO1⟩ := k_presence hO hi
  refine t_calli (vx_runV (As := [.int (nI i)]) (rest := [.int (nI (grN cd i))]) CX (ctX7_presence l hfl D sw cs ad ([(o, .inl (cs.1, 80, .inl f))]) H.size M3 (nI i) e1) (cwV 1 hts (gwV m2_68 m2_69 m2_70 m1_1 m2_71) rfl rfl rfl (by decide +kernel) ⟨Nat.le_trans (Nat.le_of_ble_eq_true rfl) hR.1, Nat.le_trans (Nat.le_of_ble_eq_true rfl) hR.2⟩) (wPreV hSW hS hA hK hP hD (by decide) rfl rfl _) rfl rfl hl.1 rfl (lv_room (Nat.le_of_ble_eq_true rfl)) dL_law_442 ⟨Nat.le_trans (show _ ≤ k0 + 10 by omega) hcs, Nat.le_trans (show _ ≤ j0 + 100 by omega) hss⟩) hD hS hA (fun k9 ho9 => by cases ho9) (fun r9 ho9 H locs hP hD hS => ?_)
  cases ho9
  replace hO := hO1
  refine r_calli (r := (gJ6_bitCount_0f7a4 (pres cd i))) (W.runS (As := [.int (pres cd i)]) (rest := [.int (nI (grN cd i))]) CX (ctJ6_bitCount_0f7a4 l (pres cd i)) (va_cwS 1 hts (gwS m4_12 m4_13 m1_21 m4_14) rfl rfl rfl (by decide +kernel) ⟨Nat.le_trans (Nat.le_of_ble_eq_true rfl) hR.1, Nat.le_trans (Nat.le_of_ble_eq_true rfl) hR.2⟩) (pPreS _) rfl rfl hl.1 rfl (lv_room (Nat.le_of_ble_eq_true rfl)) dL_law_445 ⟨Nat.le_trans (show _ ≤ k0 + 10 by omega) hcs, Nat.le_trans (show _ ≤ j0 + 100 by omega) hss⟩) ?_
  refine top_i (y := (nI (pN cd i))) ((bc_pres cd i).symm) ?_
  have hp16 := pN_16 cd i
  refine lv_icmp_le (tgt := 453) hx hb dL_law_448 (by decide) (fun _ => ?_) (fun h9 => absurd (nI_le (grN_pN cd i) (by omega)) h9)
  refine lv_iinc (v := (nI (i + 1))) (lv' := [(7, .int (nI (i + 1))), (6, .int x6), (0, .ref b), (1, .ref (ad 0)), (2, .ref o), (3, .int (nI n)), (4, .int V), (5, .int (nI c0))]) hx hb dL_law_453 hl (k := 0) rfl (up1 i) (by decide) rfl (fun ls hl => ?_)
  refine lv_goto (tgt := 427) hx hb dL_law_456 (by decide) ?_
  refine W.widen (k := k0 + 10) (n := j0 + 100) (by omega) (by omega) ?_
  exact kk M4 H locs ls hO hP hD hS hl
set_option maxHeartbeats 4000000 in
set_option maxRecDepth 100000 in
theorem lH {p : Program} {l : Launch} {e : Env} {R : Room} {s : State} {m : MethodId} {below : List Frame} {meth : Method} {c : Code} {Q : State → Prop} {b L : Nat} {xs : Nat → Int32} {D : va_G} {sw : Sw} {cs : Cs} (K : LK l p R s m c b L xs D sw cs) {ad : Nat → Nat} {o n : Nat} {cd : Nat → Nat} (hw : st cd n = some []) (hn : n ≤ 65) {f : Nat → Int32} (hf : ∀ i, i < n → f i = nI (cd i)) {V : Int32} {c0 : Nat} (hc0 : c0 < 16) {k0 j0 : Nat} (hcs : k0 + 800 ≤ R.cells) (hss : j0 + 8000 ≤ R.slots) {x6 : Int32} (kk : ∀ (M : Mm) (H : Heap) (locs : List Loc) (ls : Array Slot), Ok M n cd → va_P D vwCl (wl cs LC NC ad M ++ [(o, .inl (cs.1, 80, .inl f))]) H → va_D (AL s) (wl cs LC NC ad M ++ [(o, .inl (cs.1, 80, .inl f))]) → va_S (AL s) s.heap H locs → lv_has ls 14 [(0, .ref b), (1, .ref (ad 0)), (2, .ref o), (3, .int (nI n)), (4, .int V), (5, .int (nI c0))] → W p l e R s m #[Value.ref b] below meth c H locs (k0 + 10 * n) (j0 + 100 * n) Q (F0 m 459 ls [])) : ∀ (g i : Nat), i + g = n → ∀ (M : Mm) (H : Heap) (locs : List Loc) (ls : Array Slot), Ok M n cd → va_P D vwCl (wl cs LC NC ad M ++ [(o, .inl (cs.1, 80, .inl f))]) H → va_D (AL s) (wl cs LC NC ad M ++ [(o, .inl (cs.1, 80, .inl f))]) → va_S (AL s) s.heap H locs → lv_has ls 14 [(7, .int (nI i)), (6, .int x6), (0, .ref b), (1, .ref (ad 0)), (2, .ref o), (3, .int (nI n)), (4, .int V), (5, .int (nI c0))] → W p l e R s m #[Value.ref b] below meth c H locs (k0 + 10 * i) (j0 + 100 * i) Q (F0 m 427 ls []) := by
  obtain ⟨CX, hX, hbl, hK, hSW, hC, hAO, hfl, hR⟩ := id K
  obtain ⟨hx, hb, hml, hown, hts⟩ := id CX
  have hwd : ∀ w ∈ WG, w.before _ s = true := fun w h => hts w (List.mem_cons_of_mem _ h)
  have hA : ∀ q, s.heap.size ≤ q → AL s q := fun _ h => h
  have hbA : ¬ AL s b := Nat.not_le.mpr hbl
  intro g
  induction g with
  | zero =>
    intro i hi M H locs ls hO hP hD hS hl
    refine lv_iload hx hb dL_law_427 (lv_at hl 0 rfl) ?_
    refine lv_iload_n hx hb dL_law_429 rfl (lv_at hl 5 rfl) ?_
    obtain rfl : i = n := by omega
    refine lv_icmp_ge (tgt := 459) hx hb dL_law_430 (by decide) (fun _ => ?_) (fun h9 => absurd (nI_le (Nat.le_refl _) (by omega)) h9)
    exact kk M H locs ls hO hP hD hS (lv_sub hl [2, 3, 4, 5, 6, 7] rfl)
  | succ g ih =>
    intro i hi M H locs ls hO hP hD hS hl
    refine lH_step K hw hn hf hc0 (k0 := k0 + 10 * i) (j0 := j0 + 100 * i) (by omega) (by omega) (show i < n by omega) hO hP hD hS hl (fun M H locs ls hO hP hD hS hl => ?_)
    refine W.widen (k := k0 + 10 * (i + 1)) (n := j0 + 100 * (i + 1)) (by omega) (by omega) ?_
    exact ih (i + 1) (by omega) M H locs ls hO hP hD hS hl
set_option maxHeartbeats 4000000 in
set_option maxRecDepth 100000 in
theorem lZ {p : Program} {l : Launch} {e : Env} {R : Room} {s : State} {m : MethodId} {below : List Frame} {meth : Method} {c : Code} {Q : State → Prop} {b L : Nat} {xs : Nat → Int32} {D : va_G} {sw : Sw} {cs : Cs} (K : LK l p R s m c b L xs D sw cs) {ad : Nat → Nat} {o n : Nat} {cd : Nat → Nat} (hw : st cd n = some []) (hn : n ≤ 65) {f : Nat → Int32} (hf : ∀ i, i < n → f i = nI (cd i)) {V : Int32} {c0 : Nat} (hc0 : c0 < 16) {k0 j0 : Nat} (hcs : k0 + 1000 ≤ R.cells) (hss : j0 + 10000 ≤ R.slots) (hk6 : k0 + 1000 ≤ 600172) (hj6 : j0 + 10000 ≤ 7300668) (hV : V = nVar cd n) (fin : ∀ (H : Heap) (ls : Array Slot), W p l e R s m #[Value.ref b] below meth c H [] 600172 7300668 Q (F0 m 493 ls [.int 1])) {M : Mm} (hO : Ok M n cd) {H : Heap} {locs : List Loc} {ls : Array Slot} (hP : va_P D vwCl (wl cs LC NC ad M ++ [(o, .inl (cs.1, 80, .inl f))]) H) (hD : va_D (AL s) (wl cs LC NC ad M ++ [(o, .inl (cs.1, 80, .inl f))])) (hS : va_S (AL s) s.heap H locs) (hl : lv_has ls 14 [(6, .int (nI 4)), (0, .ref b), (1, .ref (ad 0)), (2, .ref o), (3, .int (nI n)), (4, .int V), (5, .int (nI c0))]) : W p l e R s m #[Value.ref b] below meth c H locs (k0) (j0) Q (F0 m 394 ls []) := by
  obtain ⟨CX, hX, hbl, hK, hSW, hC, hAO, hfl, hR⟩ := id K
  obtain ⟨hx, hb, hml, hown, hts⟩ := id CX
  have hwd : ∀ w ∈ WG, w.before _ s = true := fun w h => hts w (List.mem_cons_of_mem _ h)
  have hA : ∀ q, s.heap.size ≤ q → AL s q := fun _ h => h
  have hbA : ¬ AL s b := Nat.not_le.mpr hbl
  have hb16 := bN_16 cd n
  have hv16 := vN_16 cd n
  have he16 := eN_16 cd n
  have hbv := bN_vN (n := n) hO.2.1
  have hbe := bN_eN cd n
  refine lv_aload_n hx hb dL_law_394 rfl (lv_at hl 2 rfl) ?_
  obtain ⟨M3, e1, hO1⟩ := k_behaviours hO hw
  refine t_calli (vx_runV (As := []) (rest := []) CX (ctX7_behaviours l hfl D sw cs ad ([(o, .inl (cs.1, 80, .inl f))]) H.size M  e1) (cwV 0 hts (gwV m3_156 m3_157 m3_158 m1_1 m3_159) rfl rfl rfl (by decide +kernel) ⟨Nat.le_trans (Nat.le_of_ble_eq_true rfl) hR.1, Nat.le_trans (Nat.le_of_ble_eq_true rfl) hR.2⟩) (wPreV hSW hS hA hK hP hD (by decide) rfl rfl _) rfl rfl hl.1 rfl (lv_room (Nat.le_of_ble_eq_true rfl)) dL_law_395 ⟨Nat.le_trans (show _ ≤ k0 + 1000 by omega) hcs, Nat.le_trans (show _ ≤ j0 + 10000 by omega) hss⟩) hD hS hA (fun k9 ho9 => by cases ho9) (fun r9 ho9 H locs hP hD hS => ?_)
  cases ho9
  replace hO := hO1
  refine top_i (y := (nI (bN cd n))) ((nBeh_N cd n).symm) ?_
  refine lv_istore (lv' := [(6, .int (nI (bN cd n))), (0, .ref b), (1, .ref (ad 0)), (2, .ref o), (3, .int (nI n)), (4, .int V), (5, .int (nI c0))]) hx hb dL_law_398 hl (by decide) rfl (fun ls hl => ?_)
  refine lv_iload hx hb dL_law_400 (lv_at hl 0 rfl) ?_
  refine lv_iload hx hb dL_law_402 (lv_at hl 5 rfl) ?_
  refine top_i (y := (nI (vN cd n))) (by rw [hV, nVar_N]) ?_
  refine lv_icmp_gt (tgt := 422) hx hb dL_law_404 (by decide) (fun h9 => absurd h9 (nI_nlt hbv (by omega))) (fun _ => ?_)
  refine lv_iload hx hb dL_law_407 (lv_at hl 0 rfl) ?_
  refine lv_bipush (v := 16) hx hb dL_law_409 (by decide) ?_
  refine lv_aload_n hx hb dL_law_411 rfl (lv_at hl 2 rfl) ?_
  obtain ⟨M4, e1, hO1⟩ := k_wrong hO hw
  refine t_calli (vx_runV (As := []) (rest := [.int (16 : Int32), .int (nI (bN cd n))]) CX (ctX7_wrong l hfl D sw cs ad ([(o, .inl (cs.1, 80, .inl f))]) H.size M3  e1) (cwV 0 hts (gwV m3_98 m3_99 m3_100 m1_1 m3_101) rfl rfl rfl (by decide +kernel) ⟨Nat.le_trans (Nat.le_of_ble_eq_true rfl) hR.1, Nat.le_trans (Nat.le_of_ble_eq_true rfl) hR.2⟩) (wPreV hSW hS hA hK hP hD (by decide) rfl rfl _) rfl rfl hl.1 rfl (lv_room (Nat.le_of_ble_eq_true rfl)) dL_law_412 ⟨Nat.le_trans (show _ ≤ k0 + 1000 by omega) hcs, Nat.le_trans (show _ ≤ j0 + 10000 by omega) hss⟩) hD hS hA (fun k9 ho9 => by cases ho9) (fun r9 ho9 H locs hP hD hS => ?_)
  cases ho9
  replace hO := hO1
  refine r_calli (r := (gJ6_bitCount_0f7a4 (wrg cd n))) (W.runS (As := [.int (wrg cd n)]) (rest := [.int (16 : Int32), .int (nI (bN cd n))]) CX (ctJ6_bitCount_0f7a4 l (wrg cd n)) (va_cwS 1 hts (gwS m4_12 m4_13 m1_21 m4_14) rfl rfl rfl (by decide +kernel) ⟨Nat.le_trans (Nat.le_of_ble_eq_true rfl) hR.1, Nat.le_trans (Nat.le_of_ble_eq_true rfl) hR.2⟩) (pPreS _) rfl rfl hl.1 rfl (lv_room (Nat.le_of_ble_eq_true rfl)) dL_law_415 ⟨Nat.le_trans (show _ ≤ k0 + 1000 by omega) hcs, Nat.le_trans (show _ ≤ j0 + 10000 by omega) hss⟩) ?_
  refine top_i (y := (nI (eN cd n))) ((bc_wrg (show n ≤ 80 by omega)).symm) ?_
  refine lv_isub hx hb dL_law_418 ?_
  refine top_i (y := (nI (16 - eN cd n))) ((s_sub (a := 16) (by omega)).symm) ?_
  refine lv_icmp_le (tgt := 424) hx hb dL_law_419 (by decide) (fun _ => ?_) (fun h9 => absurd (nI_le (by omega) (by omega)) h9)
  refine lv_iconst (v := 0) hx hb dL_law_424 (by decide) ?_
  refine top_i (y := (nI 0)) (rfl) ?_
  refine lv_istore (lv' := [(7, .int (nI 0)), (6, .int (nI (bN cd n))), (0, .ref b), (1, .ref (ad 0)), (2, .ref o), (3, .int (nI n)), (4, .int V), (5, .int (nI c0))]) hx hb dL_law_425 hl (by decide) rfl (fun ls hl => ?_)
  refine W.widen (k := k0 + 50 + 10 * 0) (n := j0 + 500 + 100 * 0) (by omega) (by omega) ?_
  refine lH K hw hn hf hc0 (k0 := k0 + 50) (j0 := j0 + 500) (x6 := nI (bN cd n)) (by omega) (by omega) (fun M H locs ls hO hP hD hS hl => ?_) n 0 (Nat.zero_add _) M4 H locs ls hO hP hD hS (lv_sub hl [0, 1, 2, 3, 4, 5, 6, 7] rfl)
  refine W.widen (k := k0 + 900) (n := j0 + 9000) (by omega) (by omega) ?_
  exact lG K hw hn hf hc0 (k0 := k0 + 900) (j0 := j0 + 9000) (by omega) (by omega) (by omega) (by omega) fin hO hP hD hS hl
