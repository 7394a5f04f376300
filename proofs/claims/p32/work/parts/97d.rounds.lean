set_option maxHeartbeats 4000000 in
set_option maxRecDepth 100000 in
theorem l_new {p : Program} {l : Launch} {e : Env} {R : Room} {s : State} {m : MethodId} {below : List Frame} {meth : Method} {c : Code} {Q : State → Prop} {b L : Nat} {xs : Nat → Int32} {D : va_G} {sw : Sw} {cs : Cs} (K : LK l p R s m c b L xs D sw cs) {X0 : va_W} {pc k0 j0 : Nat} (hcs : k0 + 200 ≤ R.cells) (hss : j0 + 14000 ≤ R.slots) (d0 : decode cL_law pc = .ok (.new 58, 3)) (d3 : decode cL_law (pc + 3) = .ok (.dup, 1)) (d4 : decode cL_law (pc + 4) = .ok (.invokespecial 87, 3)) {H : Heap} {locs : List Loc} {ls : Array Slot} (hP : va_P D vwCl X0 H) (hD : va_D (AL s) X0) (hS : va_S (AL s) s.heap H locs) (hl1 : ls.size = 14)
    (kk : ∀ (ad2 : Nat → Nat) (H : Heap) (locs : List Loc), va_P D vwCl (wl cs LC NC ad2 M0 ++ X0) H → va_D (AL s) (wl cs LC NC ad2 M0 ++ X0) → va_S (AL s) s.heap H locs → W p l e R s m #[Value.ref b] below meth c H locs (k0 + 200) (j0 + 14000) Q (F0 m (pc + 7) ls [.ref (ad2 0)])) : W p l e R s m #[Value.ref b] below meth c H locs k0 j0 Q (F0 m pc ls []) := by
  obtain ⟨CX, hX, hbl, hK, hSW, hC, hAO, hfl, hR⟩ := id K
  obtain ⟨hx, hb, hml, hown, hts⟩ := id CX
  have hwd : ∀ w ∈ WG, w.before _ s = true := fun w h => hts w (List.mem_cons_of_mem _ h)
  have hA : ∀ q, s.heap.size ≤ q → AL s q := fun _ h => h
  have hts2 : ∀ w ∈ Cond.arrayClass .int :: WG, w.before #[Value.ref b] s = true := hts
  refine k_newo (X := X0) (lx := []) (ci := 5) (fs := [.null, .null, .null, .null, .int 0]) (C := RX7) (T := TX7) (N := 5) hx hb hts in_RX7 tyX7 tyX7_ok hown (hwd _ m1_22) (hwd _ m1_23) (hwd _ m1_1) hK (by rw [List.append_nil]; exact hP) (by rw [List.append_nil]; exact hD) hS hA rfl (fun j hj => by rcases (show j = 0 ∨ j = 1 ∨ j = 2 ∨ j = 3 ∨ j = 4 by omega) with rfl | rfl | rfl | rfl | rfl <;> rfl) (Nat.le_trans (show _ ≤ k0 + 200 by omega) hcs) (Nat.le_trans (show _ ≤ j0 + 14000 by omega) hss) d0 (fun h7 H hP hD hS => ?_)
  refine lv_dup hx hb d3 rfl ?_
  have hFc := cA_free (ws := X0 ++ [(h7, .inr (5, [.null, .null, .null, .null, .int 0]))]) hD hS hA
  refine va_callv (va_runI (As := []) (rest := [.ref h7]) CX (ctX7_init l D cs X0 h7 H.size) (cwI 0 hts (gwI m1_26) rfl rfl rfl (hwd _ m1_1) (hwd _ m1_24) (hwd _ m1_25) rfl (by decide +kernel) ⟨Nat.le_trans (Nat.le_of_ble_eq_true rfl) hR.1, Nat.le_trans (Nat.le_of_ble_eq_true rfl) hR.2⟩) (cPreS hK hP hD hC) rfl rfl hl1 rfl (lv_room (Nat.le_of_ble_eq_true rfl)) d4 ⟨Nat.le_trans (show _ ≤ k0 + 200 by omega) hcs, Nat.le_trans (show _ ≤ j0 + 14000 by omega) hss⟩) hS (fun q _ h => hFc q h) hFc (fun u t H1 locs ht hvm hw1 hB hz1 hk1 hS => ?_)
  obtain ⟨va, vb_, vq, vg, vw⟩ := u
  obtain ⟨hPa, hDa⟩ := hB
  rw [ht] at hPa
  have hPb := w7_P hPa
  have hDb := w7_D (hDa.weaken (fun _ _ _ h9 => hFc _ h9))
  obtain ⟨ad, had⟩ : ∃ ad, ad = ad7 h7 va vb_ vq vg vw := ⟨_, rfl⟩
  have h0 : h7 = ad 0 := by rw [had]; rfl
  dsimp only at hPb hDb
  rw [← had] at hPb hDb
  rw [h0]
  refine W.widen (k := k0 + 200) (n := j0 + 14000) (by omega) (by omega) ?_
  exact kk ad H1 locs hPb hDb hS
set_option maxHeartbeats 4000000 in
set_option maxRecDepth 100000 in
theorem lE {p : Program} {l : Launch} {e : Env} {R : Room} {s : State} {m : MethodId} {below : List Frame} {meth : Method} {c : Code} {Q : State → Prop} {b L : Nat} {xs : Nat → Int32} {D : va_G} {sw : Sw} {cs : Cs} (K : LK l p R s m c b L xs D sw cs) {ad : Nat → Nat} {o n : Nat} {cd : Nat → Nat} (hw : st cd n = some []) (hn : n ≤ 65) {f : Nat → Int32} (hf : ∀ i, i < n → f i = nI (cd i)) {V : Int32} {c0 : Nat} (hc0 : c0 < 16) {k0 j0 : Nat} (hcs : k0 + 4200 ≤ R.cells) (hss : j0 + 42000 ≤ R.slots) {ad2 : Nat → Nat} {d t : Nat} (hd : d < 16) (ht : t < 4) {cd2 : Nat → Nat} (hal : Al cd d n cd2) (hw2 : st cd2 (vl cd d n).length = some []) {M M2 : Mm} (hO : Ok M n cd) (hO2 : Ok M2 (vl cd d n).length cd2) {H : Heap} {locs : List Loc} {ls : Array Slot} (hP : va_P D vwCl (wl cs LC NC ad M ++ X2 cs ad2 M2 o f) H) (hD : va_D (AL s) (wl cs LC NC ad M ++ X2 cs ad2 M2 o f)) (hS : va_S (AL s) s.heap H locs) (hl : lv_has ls 14 [(9, .int (nI (vl cd d n).length)), (8, .ref (ad2 0)), (7, .int (nI d)), (6, .int (nI t)), (0, .ref b), (1, .ref (ad 0)), (2, .ref o), (3, .int (nI n)), (4, .int V), (5, .int (nI c0))]) (kk : ∀ (M : Mm) (H : Heap) (locs : List Loc) (ls : Array Slot), Ok M n cd → va_P D vwCl (wl cs LC NC ad M ++ [(o, .inl (cs.1, 80, .inl f))]) H → va_D (AL s) (wl cs LC NC ad M ++ [(o, .inl (cs.1, 80, .inl f))]) → va_S (AL s) s.heap H locs → lv_has ls 14 [(6, .int (nI (t + 1))), (0, .ref b), (1, .ref (ad 0)), (2, .ref o), (3, .int (nI n)), (4, .int V), (5, .int (nI c0))] → W p l e R s m #[Value.ref b] below meth c H locs (k0 + 4200) (j0 + 42000) Q (F0 m 51 ls [])) : W p l e R s m #[Value.ref b] below meth c H locs (k0) (j0) Q (F0 m 177 ls []) := by
  obtain ⟨CX, hX, hbl, hK, hSW, hC, hAO, hfl, hR⟩ := id K
  obtain ⟨hx, hb, hml, hown, hts⟩ := id CX
  have hwd : ∀ w ∈ WG, w.before _ s = true := fun w h => hts w (List.mem_cons_of_mem _ h)
  have hA : ∀ q, s.heap.size ≤ q → AL s q := fun _ h => h
  have hbA : ¬ AL s b := Nat.not_le.mpr hbl
  have hvl := vl_len (cd := cd) (c := d) n
  have hnM := vl_len (cd := cd) (c := d) n
  refine lv_aload_n hx hb dL_law_177 rfl (lv_at hl 4 rfl) ?_
  refine lv_bipush (v := 13) hx hb dL_law_178 (by decide) ?_
  refine lv_iload hx hb dL_law_180 (lv_at hl 3 rfl) ?_
  refine lv_iadd hx hb dL_law_182 ?_
  refine top_i (y := (nI (13 + t))) ((nI_add 13 t).symm) ?_
  refine r_calli (r := (cel L xs (13 + t))) (W.runS (As := [.ref b, .int (nI (13 + t))]) (rest := []) CX (ctL_cell l b L xs (13 + t) (by omega) hX.2) (va_cwS 2 hts (gwS m3_173 m3_174 m1_0 m3_175) rfl rfl rfl (by decide +kernel) ⟨Nat.le_trans (Nat.le_of_ble_eq_true rfl) hR.1, Nat.le_trans (Nat.le_of_ble_eq_true rfl) hR.2⟩) (xPreS hX.1 hbl hbA hS _) rfl rfl hl.1 rfl (lv_room (Nat.le_of_ble_eq_true rfl)) dL_law_183 ⟨Nat.le_trans (show _ ≤ k0 + 4200 by omega) hcs, Nat.le_trans (show _ ≤ j0 + 42000 by omega) hss⟩) ?_
  refine lv_bipush (v := 16) hx hb dL_law_186 (by decide) ?_
  obtain ⟨oth, ho, eo⟩ := blw_j (cel L xs (13 + t)) (k := 16) (by decide) (by decide)
  refine r_calli (r := (blw (cel L xs (13 + t)) (16 : Int32))) (W.runS (As := [.int (cel L xs (13 + t)), .int (16 : Int32)]) (rest := []) CX (ctL_below l (cel L xs (13 + t)) 16 (by decide)) (va_cwS 2 hts (gwS m3_169 m3_170 m1_0 m3_171) rfl rfl rfl (by decide +kernel) ⟨Nat.le_trans (Nat.le_of_ble_eq_true rfl) hR.1, Nat.le_trans (Nat.le_of_ble_eq_true rfl) hR.2⟩) (pPreS _) rfl rfl hl.1 rfl (lv_room (Nat.le_of_ble_eq_true rfl)) dL_law_188 ⟨Nat.le_trans (show _ ≤ k0 + 4200 by omega) hcs, Nat.le_trans (show _ ≤ j0 + 42000 by omega) hss⟩) ?_
  refine top_i (y := (nI oth)) (eo.symm) ?_
  refine lv_istore (lv' := [(10, .int (nI oth)), (9, .int (nI (vl cd d n).length)), (8, .ref (ad2 0)), (7, .int (nI d)), (6, .int (nI t)), (0, .ref b), (1, .ref (ad 0)), (2, .ref o), (3, .int (nI n)), (4, .int V), (5, .int (nI c0))]) hx hb dL_law_191 hl (by decide) rfl (fun ls hl => ?_)
  refine lv_aload hx hb dL_law_193 (lv_at hl 2 rfl) ?_
  refine lv_iload hx hb dL_law_195 (lv_at hl 0 rfl) ?_
  obtain ⟨M3, e2, hO3⟩ := k_error hO2 hw2 ho
  have hP := sw2P hP
  have hD := sw2D hD
  refine t_calli (vx_runV (As := [.int (nI oth)]) (rest := []) CX (ctX7_error l hfl D sw cs ad2 (X2 cs ad M o f) H.size M2 (nI oth) e2) (cwV 1 hts (gwV m3_89 m3_90 m3_91 m1_1 m3_92) rfl rfl rfl (by decide +kernel) ⟨Nat.le_trans (Nat.le_of_ble_eq_true rfl) hR.1, Nat.le_trans (Nat.le_of_ble_eq_true rfl) hR.2⟩) (wPreV hSW hS hA hK hP hD (by decide) rfl rfl _) rfl rfl hl.1 rfl (lv_room (Nat.le_of_ble_eq_true rfl)) dL_law_197 ⟨Nat.le_trans (show _ ≤ k0 + 4200 by omega) hcs, Nat.le_trans (show _ ≤ j0 + 42000 by omega) hss⟩) hD hS hA (fun k9 ho9 => by cases ho9) (fun r9 ho9 H locs hP hD hS => ?_)
  cases ho9
  have hP := sw2P hP
  have hD := sw2D hD
  replace hO2 := hO3
  rcases al_err ho hal with ⟨hfin, ea, eb⟩ | ⟨hfin, ea, eb⟩ | ⟨k, hk, hfin, ea, eb⟩
  · refine top_i (y := (-1 : Int32)) (ea.symm) ?_
    refine lv_istore (lv' := [(11, .int (-1 : Int32)), (10, .int (nI oth)), (9, .int (nI (vl cd d n).length)), (8, .ref (ad2 0)), (7, .int (nI d)), (6, .int (nI t)), (0, .ref b), (1, .ref (ad 0)), (2, .ref o), (3, .int (nI n)), (4, .int V), (5, .int (nI c0))]) hx hb dL_law_200 hl (by decide) rfl (fun ls hl => ?_)
    refine lv_iload hx hb dL_law_202 (lv_at hl 0 rfl) ?_
    refine lv_if_ge (tgt := 211) hx hb dL_law_204 (by decide) (fun h9 => absurd h9 (by decide)) (fun _ => ?_)
    refine lv_iconst (v := -1) hx hb dL_law_207 (by decide) ?_
    refine lv_goto (tgt := 230) hx hb dL_law_208 (by decide) ?_
    refine lv_istore (lv' := [(12, .int (-1 : Int32)), (11, .int (-1 : Int32)), (10, .int (nI oth)), (9, .int (nI (vl cd d n).length)), (8, .ref (ad2 0)), (7, .int (nI d)), (6, .int (nI t)), (0, .ref b), (1, .ref (ad 0)), (2, .ref o), (3, .int (nI n)), (4, .int V), (5, .int (nI c0))]) hx hb dL_law_230 hl (by decide) rfl (fun ls hl => ?_)
    refine lv_aload_n hx hb dL_law_232 rfl (lv_at hl 8 rfl) ?_
    refine lv_iload hx hb dL_law_233 (lv_at hl 5 rfl) ?_
    obtain ⟨M4, e1, hO1⟩ := k_error hO hw hd
    refine t_calli (vx_runV (As := [.int (nI d)]) (rest := []) CX (ctX7_error l hfl D sw cs ad (X2 cs ad2 M3 o f) H.size M (nI d) e1) (cwV 1 hts (gwV m3_89 m3_90 m3_91 m1_1 m3_92) rfl rfl rfl (by decide +kernel) ⟨Nat.le_trans (Nat.le_of_ble_eq_true rfl) hR.1, Nat.le_trans (Nat.le_of_ble_eq_true rfl) hR.2⟩) (wPreV hSW hS hA hK hP hD (by decide) rfl rfl _) rfl rfl hl.1 rfl (lv_room (Nat.le_of_ble_eq_true rfl)) dL_law_235 ⟨Nat.le_trans (show _ ≤ k0 + 4200 by omega) hcs, Nat.le_trans (show _ ≤ j0 + 42000 by omega) hss⟩) hD hS hA (fun k9 ho9 => by cases ho9) (fun r9 ho9 H locs hP hD hS => ?_)
    cases ho9
    replace hO := hO1
    refine top_i (y := (-1 : Int32)) (eb.symm) ?_
    refine lv_iload hx hb dL_law_238 (lv_at hl 0 rfl) ?_
    refine lv_icmp_eq (tgt := 245) hx hb dL_law_240 (by decide) (fun _ => ?_) (fun h9 => absurd (rfl) h9)
    refine W.widen (k := k0 + 100) (n := j0 + 1000) (by omega) (by omega) ?_
    refine l245n K hw hn hf hc0 (k0 := k0 + 100) (j0 := j0 + 1000) (by omega) (by omega) hd ht ho (e9 := (-1 : Int32)) (p9 := (-1 : Int32)) hal hw2 (by decide) hfin hO hO2 hP hD hS (lv_sub hl [0, 1, 2, 3, 4, 5, 6, 7, 8, 9, 10, 11, 12] rfl) (fun M M2 H locs ls hO hO2 hP hD hS hl => ?_)
    refine lv_iinc (v := (nI (t + 1))) (lv' := [(6, .int (nI (t + 1))), (12, .int (-1 : Int32)), (11, .int (-1 : Int32)), (10, .int (nI oth)), (9, .int (nI (vl cd d n).length)), (8, .ref (ad2 0)), (7, .int (nI d)), (0, .ref b), (1, .ref (ad 0)), (2, .ref o), (3, .int (nI n)), (4, .int V), (5, .int (nI c0))]) hx hb dL_law_388 hl (k := 6) rfl (up1 t) (by decide) rfl (fun ls hl => ?_)
    refine lv_goto (tgt := 51) hx hb dL_law_391 (by decide) ?_
    refine W.widen (k := k0 + 4200) (n := j0 + 42000) (by omega) (by omega) ?_
    exact kk M H locs ls hO (of2P hP) (of2D hD) hS (lv_sub hl [0, 7, 8, 9, 10, 11, 12] rfl)
  · refine top_i (y := (nI (vl cd d n).length)) (ea.symm) ?_
    refine lv_istore (lv' := [(11, .int (nI (vl cd d n).length)), (10, .int (nI oth)), (9, .int (nI (vl cd d n).length)), (8, .ref (ad2 0)), (7, .int (nI d)), (6, .int (nI t)), (0, .ref b), (1, .ref (ad 0)), (2, .ref o), (3, .int (nI n)), (4, .int V), (5, .int (nI c0))]) hx hb dL_law_200 hl (by decide) rfl (fun ls hl => ?_)
    refine lv_iload hx hb dL_law_202 (lv_at hl 0 rfl) ?_
    refine lv_if_ge (tgt := 211) hx hb dL_law_204 (by decide) (fun _ => ?_) (fun h9 => absurd (nI_le (a := 0) (Nat.zero_le _) (by omega)) h9)
    refine lv_iload hx hb dL_law_211 (lv_at hl 0 rfl) ?_
    refine lv_iload hx hb dL_law_213 (lv_at hl 2 rfl) ?_
    refine lv_icmp_ne (tgt := 222) hx hb dL_law_215 (by decide) (fun h9 => absurd h9 (fun q => q rfl)) (fun _ => ?_)
    refine lv_iload_n hx hb dL_law_218 rfl (lv_at hl 9 rfl) ?_
    refine lv_goto (tgt := 230) hx hb dL_law_219 (by decide) ?_
    refine lv_istore (lv' := [(12, .int (nI n)), (11, .int (nI (vl cd d n).length)), (10, .int (nI oth)), (9, .int (nI (vl cd d n).length)), (8, .ref (ad2 0)), (7, .int (nI d)), (6, .int (nI t)), (0, .ref b), (1, .ref (ad 0)), (2, .ref o), (3, .int (nI n)), (4, .int V), (5, .int (nI c0))]) hx hb dL_law_230 hl (by decide) rfl (fun ls hl => ?_)
    refine lv_aload_n hx hb dL_law_232 rfl (lv_at hl 8 rfl) ?_
    refine lv_iload hx hb dL_law_233 (lv_at hl 5 rfl) ?_
    obtain ⟨M4, e1, hO1⟩ := k_error hO hw hd
    refine t_calli (vx_runV (As := [.int (nI d)]) (rest := []) CX (ctX7_error l hfl D sw cs ad (X2 cs ad2 M3 o f) H.size M (nI d) e1) (cwV 1 hts (gwV m3_89 m3_90 m3_91 m1_1 m3_92) rfl rfl rfl (by decide +kernel) ⟨Nat.le_trans (Nat.le_of_ble_eq_true rfl) hR.1, Nat.le_trans (Nat.le_of_ble_eq_true rfl) hR.2⟩) (wPreV hSW hS hA hK hP hD (by decide) rfl rfl _) rfl rfl hl.1 rfl (lv_room (Nat.le_of_ble_eq_true rfl)) dL_law_235 ⟨Nat.le_trans (show _ ≤ k0 + 4200 by omega) hcs, Nat.le_trans (show _ ≤ j0 + 42000 by omega) hss⟩) hD hS hA (fun k9 ho9 => by cases ho9) (fun r9 ho9 H locs hP hD hS => ?_)
    cases ho9
    replace hO := hO1
    refine top_i (y := (nI n)) (eb.symm) ?_
    refine lv_iload hx hb dL_law_238 (lv_at hl 0 rfl) ?_
    refine lv_icmp_eq (tgt := 245) hx hb dL_law_240 (by decide) (fun _ => ?_) (fun h9 => absurd (rfl) h9)
    refine W.widen (k := k0 + 100) (n := j0 + 1000) (by omega) (by omega) ?_
    refine l245e K hw hn hf hc0 (k0 := k0 + 100) (j0 := j0 + 1000) (by omega) (by omega) hd ht ho (e9 := (nI (vl cd d n).length)) (p9 := (nI n)) hal hw2 (nI_pos (by omega)) hO hO2 hP hD hS (lv_sub hl [0, 1, 2, 3, 4, 5, 6, 7, 8, 9, 10, 11, 12] rfl) (fun M M2 H locs ls hO hO2 hP hD hS hl => ?_)
    refine lv_iinc (v := (nI (t + 1))) (lv' := [(6, .int (nI (t + 1))), (12, .int (nI n)), (11, .int (nI (vl cd d n).length)), (10, .int (nI oth)), (9, .int (nI (vl cd d n).length)), (8, .ref (ad2 0)), (7, .int (nI d)), (0, .ref b), (1, .ref (ad 0)), (2, .ref o), (3, .int (nI n)), (4, .int V), (5, .int (nI c0))]) hx hb dL_law_388 hl (k := 6) rfl (up1 t) (by decide) rfl (fun ls hl => ?_)
    refine lv_goto (tgt := 51) hx hb dL_law_391 (by decide) ?_
    refine W.widen (k := k0 + 4200) (n := j0 + 42000) (by omega) (by omega) ?_
    exact kk M H locs ls hO (of2P hP) (of2D hD) hS (lv_sub hl [0, 7, 8, 9, 10, 11, 12] rfl)
  · refine top_i (y := (nI k)) (ea.symm) ?_
    refine lv_istore (lv' := [(11, .int (nI k)), (10, .int (nI oth)), (9, .int (nI (vl cd d n).length)), (8, .ref (ad2 0)), (7, .int (nI d)), (6, .int (nI t)), (0, .ref b), (1, .ref (ad 0)), (2, .ref o), (3, .int (nI n)), (4, .int V), (5, .int (nI c0))]) hx hb dL_law_200 hl (by decide) rfl (fun ls hl => ?_)
    refine lv_iload hx hb dL_law_202 (lv_at hl 0 rfl) ?_
    refine lv_if_ge (tgt := 211) hx hb dL_law_204 (by decide) (fun _ => ?_) (fun h9 => absurd (nI_le (a := 0) (Nat.zero_le _) (by omega)) h9)
    refine lv_iload hx hb dL_law_211 (lv_at hl 0 rfl) ?_
    refine lv_iload hx hb dL_law_213 (lv_at hl 2 rfl) ?_
    refine lv_icmp_ne (tgt := 222) hx hb dL_law_215 (by decide) (fun _ => ?_) (fun h9 => absurd h9 (fun q => by have := (nI_eq (by omega) (by omega)).mp q; omega))
    refine lv_aload_n hx hb dL_law_222 rfl (lv_at hl 7 rfl) ?_
    refine lv_iload hx hb dL_law_223 (lv_at hl 4 rfl) ?_
    refine lv_iload hx hb dL_law_225 (lv_at hl 0 rfl) ?_
    obtain ⟨M5, e1, hO1⟩ := k_place hO hd hk
    refine t_calli (vx_runV (As := [.int (nI d), .int (nI k)]) (rest := []) CX (ctX7_place l hfl D sw cs ad (X2 cs ad2 M3 o f) H.size M (nI d) (nI k) e1) (cwV 2 hts (gwV m3_67 m3_68 m3_69 m1_1 m3_70) rfl rfl rfl (by decide +kernel) ⟨Nat.le_trans (Nat.le_of_ble_eq_true rfl) hR.1, Nat.le_trans (Nat.le_of_ble_eq_true rfl) hR.2⟩) (wPreV hSW hS hA hK hP hD (by decide) rfl rfl _) rfl rfl hl.1 rfl (lv_room (Nat.le_of_ble_eq_true rfl)) dL_law_227 ⟨Nat.le_trans (show _ ≤ k0 + 4200 by omega) hcs, Nat.le_trans (show _ ≤ j0 + 42000 by omega) hss⟩) hD hS hA (fun k9 ho9 => by cases ho9) (fun r9 ho9 H locs hP hD hS => ?_)
    cases ho9
    replace hO := hO1
    refine lv_istore (lv' := [(12, .int (nI ((vl cd d n).getD k 0))), (11, .int (nI k)), (10, .int (nI oth)), (9, .int (nI (vl cd d n).length)), (8, .ref (ad2 0)), (7, .int (nI d)), (6, .int (nI t)), (0, .ref b), (1, .ref (ad 0)), (2, .ref o), (3, .int (nI n)), (4, .int V), (5, .int (nI c0))]) hx hb dL_law_230 hl (by decide) rfl (fun ls hl => ?_)
    refine lv_aload_n hx hb dL_law_232 rfl (lv_at hl 8 rfl) ?_
    refine lv_iload hx hb dL_law_233 (lv_at hl 5 rfl) ?_
    obtain ⟨M4, e1, hO1⟩ := k_error hO hw hd
    refine t_calli (vx_runV (As := [.int (nI d)]) (rest := []) CX (ctX7_error l hfl D sw cs ad (X2 cs ad2 M3 o f) H.size M5 (nI d) e1) (cwV 1 hts (gwV m3_89 m3_90 m3_91 m1_1 m3_92) rfl rfl rfl (by decide +kernel) ⟨Nat.le_trans (Nat.le_of_ble_eq_true rfl) hR.1, Nat.le_trans (Nat.le_of_ble_eq_true rfl) hR.2⟩) (wPreV hSW hS hA hK hP hD (by decide) rfl rfl _) rfl rfl hl.1 rfl (lv_room (Nat.le_of_ble_eq_true rfl)) dL_law_235 ⟨Nat.le_trans (show _ ≤ k0 + 4200 by omega) hcs, Nat.le_trans (show _ ≤ j0 + 42000 by omega) hss⟩) hD hS hA (fun k9 ho9 => by cases ho9) (fun r9 ho9 H locs hP hD hS => ?_)
    cases ho9
    replace hO := hO1
    refine top_i (y := (nI ((vl cd d n).getD k 0))) (eb.symm) ?_
    refine lv_iload hx hb dL_law_238 (lv_at hl 0 rfl) ?_
    refine lv_icmp_eq (tgt := 245) hx hb dL_law_240 (by decide) (fun _ => ?_) (fun h9 => absurd (rfl) h9)
    refine W.widen (k := k0 + 100) (n := j0 + 1000) (by omega) (by omega) ?_
    refine l245e K hw hn hf hc0 (k0 := k0 + 100) (j0 := j0 + 1000) (by omega) (by omega) hd ht ho (e9 := (nI k)) (p9 := (nI ((vl cd d n).getD k 0))) hal hw2 (nI_pos (by omega)) hO hO2 hP hD hS (lv_sub hl [0, 1, 2, 3, 4, 5, 6, 7, 8, 9, 10, 11, 12] rfl) (fun M M2 H locs ls hO hO2 hP hD hS hl => ?_)
    refine lv_iinc (v := (nI (t + 1))) (lv' := [(6, .int (nI (t + 1))), (12, .int (nI ((vl cd d n).getD k 0))), (11, .int (nI k)), (10, .int (nI oth)), (9, .int (nI (vl cd d n).length)), (8, .ref (ad2 0)), (7, .int (nI d)), (0, .ref b), (1, .ref (ad 0)), (2, .ref o), (3, .int (nI n)), (4, .int V), (5, .int (nI c0))]) hx hb dL_law_388 hl (k := 6) rfl (up1 t) (by decide) rfl (fun ls hl => ?_)
    refine lv_goto (tgt := 51) hx hb dL_law_391 (by decide) ?_
    refine W.widen (k := k0 + 4200) (n := j0 + 42000) (by omega) (by omega) ?_
    exact kk M H locs ls hO (of2P hP) (of2D hD) hS (lv_sub hl [0, 7, 8, 9, 10, 11, 12] rfl)
set_option maxHeartbeats 4000000 in
set_option maxRecDepth 100000 in
theorem lR {p : Program} {l : Launch} {e : Env} {R : Room} {s : State} {m : MethodId} {below : List Frame} {meth : Method} {c : Code} {Q : State → Prop} {b L : Nat} {xs : Nat → Int32} {D : va_G} {sw : Sw} {cs : Cs} (K : LK l p R s m c b L xs D sw cs) {ad : Nat → Nat} {o n : Nat} {cd : Nat → Nat} (hw : st cd n = some []) (hn : n ≤ 65) {f : Nat → Int32} (hf : ∀ i, i < n → f i = nI (cd i)) {V : Int32} {c0 : Nat} (hc0 : c0 < 16) {k0 j0 : Nat} (hcs : k0 + 7000 ≤ R.cells) (hss : j0 + 80000 ≤ R.slots) {t : Nat} (ht : t < 4) {M : Mm} (hO : Ok M n cd) {H : Heap} {locs : List Loc} {ls : Array Slot} (hP : va_P D vwCl (wl cs LC NC ad M ++ [(o, .inl (cs.1, 80, .inl f))]) H) (hD : va_D (AL s) (wl cs LC NC ad M ++ [(o, .inl (cs.1, 80, .inl f))])) (hS : va_S (AL s) s.heap H locs) (hl : lv_has ls 14 [(6, .int (nI t)), (0, .ref b), (1, .ref (ad 0)), (2, .ref o), (3, .int (nI n)), (4, .int V), (5, .int (nI c0))]) (kk : ∀ (M : Mm) (H : Heap) (locs : List Loc) (ls : Array Slot), Ok M n cd → va_P D vwCl (wl cs LC NC ad M ++ [(o, .inl (cs.1, 80, .inl f))]) H → va_D (AL s) (wl cs LC NC ad M ++ [(o, .inl (cs.1, 80, .inl f))]) → va_S (AL s) s.heap H locs → lv_has ls 14 [(6, .int (nI (t + 1))), (0, .ref b), (1, .ref (ad 0)), (2, .ref o), (3, .int (nI n)), (4, .int V), (5, .int (nI c0))] → W p l e R s m #[Value.ref b] below meth c H locs (k0 + 7000) (j0 + 80000) Q (F0 m 51 ls [])) : W p l e R s m #[Value.ref b] below meth c H locs (k0) (j0) Q (F0 m 57 ls []) := by
  obtain ⟨CX, hX, hbl, hK, hSW, hC, hAO, hfl, hR⟩ := id K
  obtain ⟨hx, hb, hml, hown, hts⟩ := id CX
  have hwd : ∀ w ∈ WG, w.before _ s = true := fun w h => hts w (List.mem_cons_of_mem _ h)
  have hA : ∀ q, s.heap.size ≤ q → AL s q := fun _ h => h
  have hbA : ¬ AL s b := Nat.not_le.mpr hbl
  have hnM := fun d => vl_len (cd := cd) (c := d) n
  refine lv_iload hx hb dL_law_57 (lv_at hl 6 rfl) ?_
  refine lv_iload hx hb dL_law_59 (lv_at hl 0 rfl) ?_
  refine lv_iconst (v := 5) hx hb dL_law_61 (by decide) ?_
  refine lv_imul hx hb dL_law_62 ?_
  obtain ⟨d, hd, ed⟩ := x_or c0 (List.mem_range.mpr hc0) t (List.mem_range.mpr ht)
  have hd := List.mem_range.mp hd
  refine lv_ixor hx hb dL_law_63 ?_
  refine top_i (y := (nI d)) (ed.symm) ?_
  refine lv_istore (lv' := [(7, .int (nI d)), (6, .int (nI t)), (0, .ref b), (1, .ref (ad 0)), (2, .ref o), (3, .int (nI n)), (4, .int V), (5, .int (nI c0))]) hx hb dL_law_64 hl (by decide) rfl (fun ls hl => ?_)
  refine l_new K (X0 := wl cs LC NC ad M ++ [(o, .inl (cs.1, 80, .inl f))]) (pc := 66) (k0 := k0) (j0 := j0) (by omega) (by omega) dL_law_66 dL_law_69 dL_law_70 hP hD hS hl.1 (fun ad2 H locs hP hD hS => ?_)
  have hP : va_P D vwCl (wl cs LC NC ad2 M0 ++ X2 cs ad M o f) H := hP
  have hD : va_D (AL s) (wl cs LC NC ad2 M0 ++ X2 cs ad M o f) := hD
  have hP := sw2P hP
  have hD := sw2D hD
  refine lv_astore (lv' := [(8, .ref (ad2 0)), (7, .int (nI d)), (6, .int (nI t)), (0, .ref b), (1, .ref (ad 0)), (2, .ref o), (3, .int (nI n)), (4, .int V), (5, .int (nI c0))]) hx hb dL_law_73 hl (by decide) rfl (fun ls hl => ?_)
  refine lv_aload_n hx hb dL_law_75 rfl (lv_at hl 4 rfl) ?_
  refine lv_iload hx hb dL_law_76 (lv_at hl 1 rfl) ?_
  obtain ⟨M4, e1, hO1⟩ := k_length hO hd
  refine t_calli (vx_runV (As := [.int (nI d)]) (rest := []) CX (ctX7_length l hfl D sw cs ad (X2 cs ad2 M0 o f) H.size M (nI d) e1) (cwV 1 hts (gwV m3_58 m3_59 m3_60 m1_1 m3_61) rfl rfl rfl (by decide +kernel) ⟨Nat.le_trans (Nat.le_of_ble_eq_true rfl) hR.1, Nat.le_trans (Nat.le_of_ble_eq_true rfl) hR.2⟩) (wPreV hSW hS hA hK hP hD (by decide) rfl rfl _) rfl rfl hl.1 rfl (lv_room (Nat.le_of_ble_eq_true rfl)) dL_law_78 ⟨Nat.le_trans (show _ ≤ k0 + 7000 by omega) hcs, Nat.le_trans (show _ ≤ j0 + 80000 by omega) hss⟩) hD hS hA (fun k9 ho9 => by cases ho9) (fun r9 ho9 H locs hP hD hS => ?_)
  cases ho9
  replace hO := hO1
  refine lv_istore (lv' := [(9, .int (nI (vl cd d n).length)), (8, .ref (ad2 0)), (7, .int (nI d)), (6, .int (nI t)), (0, .ref b), (1, .ref (ad 0)), (2, .ref o), (3, .int (nI n)), (4, .int V), (5, .int (nI c0))]) hx hb dL_law_81 hl (by decide) rfl (fun ls hl => ?_)
  refine lv_iconst (v := 0) hx hb dL_law_83 (by decide) ?_
  refine top_i (y := (nI 0)) (rfl) ?_
  refine lv_istore (lv' := [(10, .int (nI 0)), (9, .int (nI (vl cd d n).length)), (8, .ref (ad2 0)), (7, .int (nI d)), (6, .int (nI t)), (0, .ref b), (1, .ref (ad 0)), (2, .ref o), (3, .int (nI n)), (4, .int V), (5, .int (nI c0))]) hx hb dL_law_84 hl (by decide) rfl (fun ls hl => ?_)
  refine W.widen (k := k0 + 300 + 20 * 0) (n := j0 + 15000 + 200 * 0) (by omega) (by omega) ?_
  refine lA K hw hn hf hc0 (k0 := k0 + 300) (j0 := j0 + 15000) (by omega) (by omega) hd ht (fun M M2 cd2 H locs ls hO hO2 hw2 hal hP hD hS hl => ?_) (vl cd d n).length 0 (Nat.zero_add _) M4 M0 (fun _ => 0) H locs ls hO (Ok_0 _) rfl (fun i hi => absurd hi (Nat.not_lt_zero _)) hP hD hS (lv_sub hl [0, 1, 2, 3, 4, 5, 6, 7, 8, 9, 10] rfl)
  have hnd := hnM d
  refine W.widen (k := k0 + 2000) (n := j0 + 33000) (by omega) (by omega) ?_
  refine lE K hw hn hf hc0 (k0 := k0 + 2000) (j0 := j0 + 33000) (by omega) (by omega) hd ht hal hw2 hO hO2 hP hD hS (lv_sub hl [1, 2, 3, 4, 5, 6, 7, 8, 9, 10] rfl) (fun M H locs ls hO hP hD hS hl => ?_)
  refine W.widen (k := k0 + 7000) (n := j0 + 80000) (by omega) (by omega) ?_
  exact kk M H locs ls hO hP hD hS hl
set_option maxHeartbeats 4000000 in
set_option maxRecDepth 100000 in
theorem lRs {p : Program} {l : Launch} {e : Env} {R : Room} {s : State} {m : MethodId} {below : List Frame} {meth : Method} {c : Code} {Q : State → Prop} {b L : Nat} {xs : Nat → Int32} {D : va_G} {sw : Sw} {cs : Cs} (K : LK l p R s m c b L xs D sw cs) {ad : Nat → Nat} {o n : Nat} {cd : Nat → Nat} (hw : st cd n = some []) (hn : n ≤ 65) {f : Nat → Int32} (hf : ∀ i, i < n → f i = nI (cd i)) {V : Int32} {c0 : Nat} (hc0 : c0 < 16) {k0 j0 : Nat} (hcs : k0 + 28000 ≤ R.cells) (hss : j0 + 320000 ≤ R.slots) (kk : ∀ (M : Mm) (H : Heap) (locs : List Loc) (ls : Array Slot), Ok M n cd → va_P D vwCl (wl cs LC NC ad M ++ [(o, .inl (cs.1, 80, .inl f))]) H → va_D (AL s) (wl cs LC NC ad M ++ [(o, .inl (cs.1, 80, .inl f))]) → va_S (AL s) s.heap H locs → lv_has ls 14 [(6, .int (nI 4)), (0, .ref b), (1, .ref (ad 0)), (2, .ref o), (3, .int (nI n)), (4, .int V), (5, .int (nI c0))] → W p l e R s m #[Value.ref b] below meth c H locs (k0 + 7000 * 4) (j0 + 80000 * 4) Q (F0 m 394 ls [])) : ∀ (g t : Nat), t + g = 4 → ∀ (M : Mm) (H : Heap) (locs : List Loc) (ls : Array Slot), Ok M n cd → va_P D vwCl (wl cs LC NC ad M ++ [(o, .inl (cs.1, 80, .inl f))]) H → va_D (AL s) (wl cs LC NC ad M ++ [(o, .inl (cs.1, 80, .inl f))]) → va_S (AL s) s.heap H locs → lv_has ls 14 [(6, .int (nI t)), (0, .ref b), (1, .ref (ad 0)), (2, .ref o), (3, .int (nI n)), (4, .int V), (5, .int (nI c0))] → W p l e R s m #[Value.ref b] below meth c H locs (k0 + 7000 * t) (j0 + 80000 * t) Q (F0 m 51 ls []) := by
  obtain ⟨CX, hX, hbl, hK, hSW, hC, hAO, hfl, hR⟩ := id K
  obtain ⟨hx, hb, hml, hown, hts⟩ := id CX
  have hwd : ∀ w ∈ WG, w.before _ s = true := fun w h => hts w (List.mem_cons_of_mem _ h)
  have hA : ∀ q, s.heap.size ≤ q → AL s q := fun _ h => h
  have hbA : ¬ AL s b := Nat.not_le.mpr hbl
  intro g
  induction g with
  | zero =>
    intro t ht M H locs ls hO hP hD hS hl
    refine lv_iload hx hb dL_law_51 (lv_at hl 0 rfl) ?_
    refine lv_iconst (v := 4) hx hb dL_law_53 (by decide) ?_
    obtain rfl : t = 4 := by omega
    refine lv_icmp_ge (tgt := 394) hx hb dL_law_54 (by decide) (fun _ => ?_) (fun h9 => absurd (by decide) h9)
    exact kk M H locs ls hO hP hD hS hl
  | succ g ih =>
    intro t ht M H locs ls hO hP hD hS hl
    refine lv_iload hx hb dL_law_51 (lv_at hl 0 rfl) ?_
    refine lv_iconst (v := 4) hx hb dL_law_53 (by decide) ?_
    refine lv_icmp_ge (tgt := 394) hx hb dL_law_54 (by decide) (fun h9 => absurd h9 (nI_ge (b := 4) (show t < 4 by omega) (by decide))) (fun _ => ?_)
    refine lR K hw hn hf hc0 (k0 := k0 + 7000 * t) (j0 := j0 + 80000 * t) (by omega) (by omega) (show t < 4 by omega) hO hP hD hS hl (fun M H locs ls hO hP hD hS hl => ?_)
    refine W.widen (k := k0 + 7000 * (t + 1)) (n := j0 + 80000 * (t + 1)) (by omega) (by omega) ?_
    exact ih (t + 1) (by omega) M H locs ls hO hP hD hS hl
