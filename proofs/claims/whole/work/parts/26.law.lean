theorem hN_ne {l : List Nat} {k : Nat} {α : Type} (h : k ∈ l ∧ l.length < 100) : hN l (.inr k : α ⊕ Nat) ≠ 0 := by
  have h1 := List.idxOf_lt_length_of_mem h.1
  exact nI_ne0 (by omega) (by have := h.2; omega)
theorem lcmp_self (x : Int64) : lg_cmp x x = 0 := by
  unfold lg_cmp
  simp
theorem lawD {D0 : Mm} {s : State} {cs : Cs} {cq : ClassId × ClassId} {ad am : Nat → Nat} {M1 N : Mm} {o od : Nat} {f f' : Nat → Int64} {g g' : Nat → UInt64} (h : va_D (AL s) (wC cs ad am D0 N (outs cq o od f g))) : va_D (AL s) (wC cs ad am M1 N (outs cq o od f' g')) := by
  have h1 := wl_D M1 h
  have h2 := w_swapD (e2 := .inl (cq.1, 1, .inr (.inl f'))) (out_get (ad := ad) (M := M1)) h1
  rw [wx_set, wx_set] at h2
  have h3 := w_swapD (e2 := .inl (cq.2, 1, .inr (.inr (.inr (.inl g'))))) (outD_get (ad := ad) (M := M1) (f := f') (g := g)) h2
  rw [wx_set, wx_set] at h3
  exact h3

set_option maxHeartbeats 4000000 in
set_option maxRecDepth 100000 in
theorem lc_2 {l : Launch} {p : Program} {e : Env} {s : State} {m : MethodId} {below : List Frame} {meth : Method} {c : Code} {Q : State → Prop} {b L : Nat} {xs : Nat → Int32} {D : va_G} {sw : Sw} {cs : Cs} {cq : ClassId × ClassId} (K : LK l p s m c b L xs D sw cs cq) {ad am : Nat → Nat} {M N : Mm} {o od : Nat} {f : Nat → Int64} {g : Nat → UInt64} {i x1 x2 : Int32} (hi1 : vp_in (i + 1) L) (hi2 : vp_in (i + 2) L) (hx1 : xs (i + 1).toNatClampNeg = x1) (hx2 : xs (i + 2).toNatClampNeg = x2) {oc : Int32 ⊕ Nat} {M1 N1 : Mm} {bv : Int32} (hq : gX7_otherwise M = some (oc, M1)) (hk : ∀ k, oc = .inr k → k ∈ ([1] : List Nat)) (hm : gX8_otherwise N = some (bv, N1)) (ht : N1 0 0 = hN [1] oc) (hv : ∀ v, oc = .inl v → v = bv) {cells slots : Nat} (hcs : cells + 16 ≤ room_1.cells) (hss : slots + 1400 ≤ room_1.slots) {H : Heap} {locs : List Loc} {ls : Array Slot} (hP : va_P D vwCl (wC cs ad am M N (outs cq o od f g)) H) (hD : va_D (AL s) (wC cs ad am M N (outs cq o od f g))) (hS : va_S (AL s) s.heap H locs) (hl : lv_has ls 9 (lLv b ad am o od i))
    (kk : ∀ (f : Nat → Int64) (g : Nat → UInt64) (H : Heap) (locs : List Loc) (ls : Array Slot), va_P D vwCl (wC cs ad am M1 N1 (outs cq o od f g)) H → va_D (AL s) (wC cs ad am M1 N1 (outs cq o od f g)) → va_S (AL s) s.heap H locs → lv_has ls 9 (lLv b ad am o od i) → W p l e room_1 s m #[Value.ref b] below meth c H locs (cells + 16) (slots + 1400) Q (F0 m 1671 ls [])) : W p l e room_1 s m #[Value.ref b] below meth c H locs cells slots Q (F0 m 348 ls []) := by
  obtain ⟨CX, hX, hbl, hK, hKL, hSW, hfl⟩ := K
  obtain ⟨hx, hb, hml, hown, hts⟩ := id CX
  have hw : ∀ w ∈ WG, w.before _ s = true := fun w h => hts w (List.mem_cons_of_mem _ h)
  have hA : ∀ q, s.heap.size ≤ q → AL s q := fun _ h => h
  have hbA : ¬ AL s b := Nat.not_le.mpr hbl
  refine lv_aload_n hx hb dL_law_348 rfl (lv_at hl 2 rfl) ?_
  refine lv_aload_n hx hb dL_law_349 rfl (lv_at hl 4 rfl) ?_
  refine va_calli (vx_runSW (As := [.ref (ad 0), .ref o]) (rest := []) CX (ctL_otherwise l hfl D sw cs cq ad (wl cs LM NM am N ++ outs cq o od f g) H.size M  hq hk (j := NM + 0) (wx_get rfl)) (vx_cwSW 2 hts (gwW m3_110 m3_111 m1_0 WL_otherwise) rfl rfl rfl (by decide +kernel) ⟨Nat.le_of_ble_eq_true rfl, Nat.le_of_ble_eq_true rfl⟩) (lPreS hSW hS hA hK hKL hP hD _) rfl rfl hl.1 rfl (lv_room (Nat.le_of_ble_eq_true rfl)) dL_law_350 ⟨Nat.le_trans (show _ ≤ cells + 16 by omega) hcs, Nat.le_trans (show _ ≤ slots + 1400 by omega) hss⟩) hS (fun q _ h => wA_free hD hS hA q h) (wA_free hD hS hA) (fun r u t H1 locs ht _ hr1 hB _ _ hS => ?_)
  subst hr1
  rw [ht] at hB
  rw [oX_out] at hB
  have hP : va_P D vwCl (wC cs ad am M1 N (outs cq o od (fo f oc) g)) H1 := hB
  have hD : va_D (AL s) (wC cs ad am M1 N (outs cq o od (fo f oc) g)) := lawD hD
  generalize H1 = H at hP hS ⊢
  refine lv_istore (lv' := [(6, .int (hN [1] oc)), (5, .int i), (0, .ref b), (1, .ref (ad 0)), (2, .ref (am 0)), (3, .ref o), (4, .ref od)]) hx hb dL_law_353 hl (by decide) rfl (fun ls hl => ?_)
  refine lv_aload_n hx hb dL_law_355 rfl (lv_at hl 4 rfl) ?_
  have hP2 := sw3P hP
  have hD2 := sw3D hD
  refine w_calli (va_runV (As := []) (rest := []) CX (ctX8_otherwise l D sw cs am (wl cs LC NC ad M1 ++ outs cq o od (fo f oc) g) H.size N  hm) (cwV 0 hts (gwV m5_14 m5_15 m5_16 m1_7 m5_17) rfl rfl rfl (by decide +kernel) ⟨Nat.le_of_ble_eq_true rfl, Nat.le_of_ble_eq_true rfl⟩) (wPreV hSW hS hA hK hP2 hD2 (by decide) rfl rfl _) rfl rfl hl.1 rfl (lv_room (Nat.le_of_ble_eq_true rfl)) dL_law_356 ⟨Nat.le_trans (show _ ≤ cells + 16 by omega) hcs, Nat.le_trans (show _ ≤ slots + 1400 by omega) hss⟩) hD2 hS hA (fun H locs hP2 hD2 hS => ?_)
  have hP : va_P D vwCl (wC cs ad am M1 N1 (outs cq o od (fo f oc) g)) H := sw3P hP2
  have hD : va_D (AL s) (wC cs ad am M1 N1 (outs cq o od (fo f oc) g)) := sw3D hD2
  refine lv_istore (lv' := [(7, .int bv), (6, .int (hN [1] oc)), (5, .int i), (0, .ref b), (1, .ref (ad 0)), (2, .ref (am 0)), (3, .ref o), (4, .ref od)]) hx hb dL_law_359 hl (by decide) rfl (fun ls hl => ?_)
  refine lv_aload_n hx hb dL_law_361 rfl (lv_at hl 5 rfl) ?_
  have hP2 := sw3P hP
  refine r_calli (r := N1 0 0) (W.runV (As := []) (rest := []) CX (ctX8_thrown l D sw cs am (wl cs LC NC ad M1 ++ outs cq o od (fo f oc) g) N1 rfl) (cwV 0 hts (gwV m4_162 m4_163 m4_164 m1_7 m4_165) rfl rfl rfl (by decide +kernel) ⟨Nat.le_of_ble_eq_true rfl, Nat.le_of_ble_eq_true rfl⟩) (rPreV (hSW.wr hS) hK hP2 (by decide) rfl rfl _) rfl rfl hl.1 rfl (lv_room (Nat.le_of_ble_eq_true rfl)) dL_law_362 ⟨Nat.le_trans (show _ ≤ cells + 16 by omega) hcs, Nat.le_trans (show _ ≤ slots + 1400 by omega) hss⟩) ?_
  refine lv_iload hx hb dL_law_365 (lv_at hl 1 rfl) ?_
  refine lv_icmp_eq (tgt := 372) hx hb dL_law_367 (by decide) (fun _ => ?_) (fun h9 => absurd ht h9)
  refine lv_iload hx hb dL_law_372 (lv_at hl 1 rfl) ?_
  rcases oc with v | k9
  · refine lv_if_ne (tgt := 389) hx hb dL_law_374 (by decide) (fun h9 => absurd rfl h9) (fun _ => ?_)
    refine lv_aload_n hx hb dL_law_377 rfl (lv_at hl 6 rfl) ?_
    refine lv_iconst (v := 0) hx hb dL_law_378 (by decide) ?_
    refine va_lald (n := 1) hx hb hKL hP (NC + (NM + 0)) 0 out_get rfl (by unfold vp_in; decide) dL_law_379 ?_
    rw [fo_0]
    refine lv_iload hx hb dL_law_380 (lv_at hl 0 rfl) ?_
    refine lv_i2l hx hb dL_law_382 rfl ?_
    refine W.lcmp hx hb dL_law_383 ?_
    refine lv_if_eq (tgt := 389) hx hb dL_law_384 (by decide) (fun _ => ?_) (fun h9 => absurd (by rw [hv v rfl]; exact lcmp_self _) h9)
    refine lv_goto (tgt := 1671) hx hb dL_law_389 (by decide) ?_
    refine W.widen (k := cells + 16) (n := slots + 1400) (by omega) (by omega) ?_
    exact kk _ _ _ _ _ hP hD hS (lv_sub hl [2, 3, 4, 5, 6, 7] rfl)
  · have hk9 := hk k9 rfl
    refine lv_if_ne (tgt := 389) hx hb dL_law_374 (by decide) (fun _ => ?_) (fun h9 => absurd h9 (hN_ne (by simpa using hk9)))
    refine lv_goto (tgt := 1671) hx hb dL_law_389 (by decide) ?_
    refine W.widen (k := cells + 16) (n := slots + 1400) (by omega) (by omega) ?_
    exact kk _ _ _ _ _ hP hD hS (lv_sub hl [2, 3, 4, 5, 6, 7] rfl)
set_option maxHeartbeats 4000000 in
set_option maxRecDepth 100000 in
theorem lc_7 {l : Launch} {p : Program} {e : Env} {s : State} {m : MethodId} {below : List Frame} {meth : Method} {c : Code} {Q : State → Prop} {b L : Nat} {xs : Nat → Int32} {D : va_G} {sw : Sw} {cs : Cs} {cq : ClassId × ClassId} (K : LK l p s m c b L xs D sw cs cq) {ad am : Nat → Nat} {M N : Mm} {o od : Nat} {f : Nat → Int64} {g : Nat → UInt64} {i x1 x2 : Int32} (hi1 : vp_in (i + 1) L) (hi2 : vp_in (i + 2) L) (hx1 : xs (i + 1).toNatClampNeg = x1) (hx2 : xs (i + 2).toNatClampNeg = x2) {N1 : Mm} {v bv : Int32} (hq : gX7_size M = some v) (hm : gX8_size N = some (bv, N1)) (hv : v = bv) {cells slots : Nat} (hcs : cells + 16 ≤ room_1.cells) (hss : slots + 1400 ≤ room_1.slots) {H : Heap} {locs : List Loc} {ls : Array Slot} (hP : va_P D vwCl (wC cs ad am M N (outs cq o od f g)) H) (hD : va_D (AL s) (wC cs ad am M N (outs cq o od f g))) (hS : va_S (AL s) s.heap H locs) (hl : lv_has ls 9 (lLv b ad am o od i))
    (kk : ∀ (f : Nat → Int64) (g : Nat → UInt64) (H : Heap) (locs : List Loc) (ls : Array Slot), va_P D vwCl (wC cs ad am M N1 (outs cq o od f g)) H → va_D (AL s) (wC cs ad am M N1 (outs cq o od f g)) → va_S (AL s) s.heap H locs → lv_has ls 9 (lLv b ad am o od i) → W p l e room_1 s m #[Value.ref b] below meth c H locs (cells + 16) (slots + 1400) Q (F0 m 1671 ls [])) : W p l e room_1 s m #[Value.ref b] below meth c H locs cells slots Q (F0 m 632 ls []) := by
  obtain ⟨CX, hX, hbl, hK, hKL, hSW, hfl⟩ := K
  obtain ⟨hx, hb, hml, hown, hts⟩ := id CX
  have hw : ∀ w ∈ WG, w.before _ s = true := fun w h => hts w (List.mem_cons_of_mem _ h)
  have hA : ∀ q, s.heap.size ≤ q → AL s q := fun _ h => h
  have hbA : ¬ AL s b := Nat.not_le.mpr hbl
  refine lv_aload_n hx hb dL_law_632 rfl (lv_at hl 2 rfl) ?_
  refine r_calli (r := v) (W.runV (As := []) (rest := []) CX (ctX7_size l D sw cs ad (wl cs LM NM am N ++ outs cq o od f g) M hq) (cwV 0 hts (gwV m1_177 m1_178 m1_179 m1_1 m1_180) rfl rfl rfl (by decide +kernel) ⟨Nat.le_of_ble_eq_true rfl, Nat.le_of_ble_eq_true rfl⟩) (rPreV (hSW.wr hS) hK hP (by decide) rfl rfl _) rfl rfl hl.1 rfl (lv_room (Nat.le_of_ble_eq_true rfl)) dL_law_633 ⟨Nat.le_trans (show _ ≤ cells + 16 by omega) hcs, Nat.le_trans (show _ ≤ slots + 1400 by omega) hss⟩) ?_
  refine lv_aload_n hx hb dL_law_636 rfl (lv_at hl 3 rfl) ?_
  have hP2 := sw3P hP
  have hD2 := sw3D hD
  refine w_calli (va_runV (As := []) (rest := [.int v]) CX (ctX8_size l D sw cs am (wl cs LC NC ad M ++ outs cq o od f g) H.size N  hm) (cwV 0 hts (gwV m5_50 m5_51 m5_52 m1_7 m5_53) rfl rfl rfl (by decide +kernel) ⟨Nat.le_of_ble_eq_true rfl, Nat.le_of_ble_eq_true rfl⟩) (wPreV hSW hS hA hK hP2 hD2 (by decide) rfl rfl _) rfl rfl hl.1 rfl (lv_room (Nat.le_of_ble_eq_true rfl)) dL_law_637 ⟨Nat.le_trans (show _ ≤ cells + 16 by omega) hcs, Nat.le_trans (show _ ≤ slots + 1400 by omega) hss⟩) hD2 hS hA (fun H locs hP2 hD2 hS => ?_)
  have hP : va_P D vwCl (wC cs ad am M N1 (outs cq o od f g)) H := sw3P hP2
  have hD : va_D (AL s) (wC cs ad am M N1 (outs cq o od f g)) := sw3D hD2
  refine lv_icmp_eq (tgt := 1671) hx hb dL_law_640 (by decide) (fun _ => ?_) (fun h9 => absurd hv h9)
  refine W.widen (k := cells + 16) (n := slots + 1400) (by omega) (by omega) ?_
  exact kk _ _ _ _ _ hP hD hS (lv_sub hl [0, 1, 2, 3, 4, 5] rfl)
set_option maxHeartbeats 4000000 in
set_option maxRecDepth 100000 in
theorem lc_0 {l : Launch} {p : Program} {e : Env} {s : State} {m : MethodId} {below : List Frame} {meth : Method} {c : Code} {Q : State → Prop} {b L : Nat} {xs : Nat → Int32} {D : va_G} {sw : Sw} {cs : Cs} {cq : ClassId × ClassId} (K : LK l p s m c b L xs D sw cs cq) {ad am : Nat → Nat} {M N : Mm} {o od : Nat} {f : Nat → Int64} {g : Nat → UInt64} {i x1 x2 : Int32} (hi1 : vp_in (i + 1) L) (hi2 : vp_in (i + 2) L) (hx1 : xs (i + 1).toNatClampNeg = x1) (hx2 : xs (i + 2).toNatClampNeg = x2) {oc : Int32 ⊕ Nat} {M1 N1 : Mm} {bv : Int32} (hq : gX7_write M (wArg x1 x2) = some (oc, M1)) (hk : ∀ k, oc = .inr k → k ∈ ([0, 1] : List Nat)) (hm : gX8_write N (wArg x1 x2) = some (bv, N1)) (ht : N1 0 0 = hN [0, 1] oc) (hv : ∀ v, oc = .inl v → v = bv) {cells slots : Nat} (hcs : cells + 16 ≤ room_1.cells) (hss : slots + 1400 ≤ room_1.slots) {H : Heap} {locs : List Loc} {ls : Array Slot} (hP : va_P D vwCl (wC cs ad am M N (outs cq o od f g)) H) (hD : va_D (AL s) (wC cs ad am M N (outs cq o od f g))) (hS : va_S (AL s) s.heap H locs) (hl : lv_has ls 9 (lLv b ad am o od i))
    (kk : ∀ (f : Nat → Int64) (g : Nat → UInt64) (H : Heap) (locs : List Loc) (ls : Array Slot), va_P D vwCl (wC cs ad am M1 N1 (outs cq o od f g)) H → va_D (AL s) (wC cs ad am M1 N1 (outs cq o od f g)) → va_S (AL s) s.heap H locs → lv_has ls 9 (lLv b ad am o od i) → W p l e room_1 s m #[Value.ref b] below meth c H locs (cells + 16) (slots + 1400) Q (F0 m 1671 ls [])) : W p l e room_1 s m #[Value.ref b] below meth c H locs cells slots Q (F0 m 176 ls []) := by
  obtain ⟨CX, hX, hbl, hK, hKL, hSW, hfl⟩ := K
  obtain ⟨hx, hb, hml, hown, hts⟩ := id CX
  have hw : ∀ w ∈ WG, w.before _ s = true := fun w h => hts w (List.mem_cons_of_mem _ h)
  have hA : ∀ q, s.heap.size ≤ q → AL s q := fun _ h => h
  have hbA : ¬ AL s b := Nat.not_le.mpr hbl
  refine lv_aload_n hx hb dL_law_176 rfl (lv_at hl 2 rfl) ?_
  refine lv_aload_n hx hb dL_law_177 rfl (lv_at hl 1 rfl) ?_
  refine lv_iload hx hb dL_law_178 (lv_at hl 0 rfl) ?_
  refine lv_iconst (v := 1) hx hb dL_law_180 (by decide) ?_
  refine lv_iadd hx hb dL_law_181 ?_
  refine va_sld hx hb hX hbl hbA hS hi1 dL_law_182 ?_
  rw [hx1]
  refine lv_i2l hx hb dL_law_183 rfl ?_
  refine lv_bipush (v := 32) hx hb dL_law_184 (by decide) ?_
  refine lv_lshl hx hb dL_law_186 rfl ?_
  refine lv_aload_n hx hb dL_law_187 rfl (lv_at hl 1 rfl) ?_
  refine lv_iload hx hb dL_law_188 (lv_at hl 0 rfl) ?_
  refine lv_iconst (v := 2) hx hb dL_law_190 (by decide) ?_
  refine lv_iadd hx hb dL_law_191 ?_
  refine va_sld hx hb hX hbl hbA hS hi2 dL_law_192 ?_
  rw [hx2]
  refine lv_i2l hx hb dL_law_193 rfl ?_
  refine lv_ldc2 (v := 4294967295) hx hb hown (hw _ m5_237) dL_law_194 ?_
  refine lv_land hx hb dL_law_197 ?_
  refine lv_lor hx hb dL_law_198 ?_
  refine lv_aload_n hx hb dL_law_199 rfl (lv_at hl 4 rfl) ?_
  refine va_calli (vx_runSW (As := [.ref (ad 0), .long (wArg x1 x2), .ref o]) (rest := []) CX (ctL_write l hfl D sw cs cq ad (wl cs LM NM am N ++ outs cq o od f g) H.size M ((wArg x1 x2)) hq hk (j := NM + 0) (wx_get rfl)) (vx_cwSW 3 hts (gwW m2_210 m2_211 m1_0 WL_write) rfl rfl rfl (by decide +kernel) ⟨Nat.le_of_ble_eq_true rfl, Nat.le_of_ble_eq_true rfl⟩) (lPreS hSW hS hA hK hKL hP hD _) rfl rfl hl.1 rfl (lv_room (Nat.le_of_ble_eq_true rfl)) dL_law_200 ⟨Nat.le_trans (show _ ≤ cells + 16 by omega) hcs, Nat.le_trans (show _ ≤ slots + 1400 by omega) hss⟩) hS (fun q _ h => wA_free hD hS hA q h) (wA_free hD hS hA) (fun r u t H1 locs ht _ hr1 hB _ _ hS => ?_)
  subst hr1
  rw [ht] at hB
  rw [oX_out] at hB
  have hP : va_P D vwCl (wC cs ad am M1 N (outs cq o od (fo f oc) g)) H1 := hB
  have hD : va_D (AL s) (wC cs ad am M1 N (outs cq o od (fo f oc) g)) := lawD hD
  generalize H1 = H at hP hS ⊢
  refine lv_istore (lv' := [(6, .int (hN [0, 1] oc)), (5, .int i), (0, .ref b), (1, .ref (ad 0)), (2, .ref (am 0)), (3, .ref o), (4, .ref od)]) hx hb dL_law_203 hl (by decide) rfl (fun ls hl => ?_)
  refine lv_aload_n hx hb dL_law_205 rfl (lv_at hl 4 rfl) ?_
  refine lv_aload_n hx hb dL_law_206 rfl (lv_at hl 2 rfl) ?_
  refine lv_iload hx hb dL_law_207 (lv_at hl 1 rfl) ?_
  refine lv_iconst (v := 1) hx hb dL_law_209 (by decide) ?_
  refine lv_iadd hx hb dL_law_210 ?_
  refine va_sld hx hb hX hbl hbA hS hi1 dL_law_211 ?_
  rw [hx1]
  refine lv_i2l hx hb dL_law_212 rfl ?_
  refine lv_bipush (v := 32) hx hb dL_law_213 (by decide) ?_
  refine lv_lshl hx hb dL_law_215 rfl ?_
  refine lv_aload_n hx hb dL_law_216 rfl (lv_at hl 2 rfl) ?_
  refine lv_iload hx hb dL_law_217 (lv_at hl 1 rfl) ?_
  refine lv_iconst (v := 2) hx hb dL_law_219 (by decide) ?_
  refine lv_iadd hx hb dL_law_220 ?_
  refine va_sld hx hb hX hbl hbA hS hi2 dL_law_221 ?_
  rw [hx2]
  refine lv_i2l hx hb dL_law_222 rfl ?_
  refine lv_ldc2 (v := 4294967295) hx hb hown (hw _ m5_237) dL_law_223 ?_
  refine lv_land hx hb dL_law_226 ?_
  refine lv_lor hx hb dL_law_227 ?_
  have hP2 := sw3P hP
  have hD2 := sw3D hD
  refine w_calli (va_runV (As := [.long (wArg x1 x2)]) (rest := []) CX (ctX8_write l D sw cs am (wl cs LC NC ad M1 ++ outs cq o od (fo f oc) g) H.size N ((wArg x1 x2)) hm) (cwV 1 hts (gwV m4_166 m4_167 m4_168 m1_7 m4_169) rfl rfl rfl (by decide +kernel) ⟨Nat.le_of_ble_eq_true rfl, Nat.le_of_ble_eq_true rfl⟩) (wPreV hSW hS hA hK hP2 hD2 (by decide) rfl rfl _) rfl rfl hl.1 rfl (lv_room (Nat.le_of_ble_eq_true rfl)) dL_law_228 ⟨Nat.le_trans (show _ ≤ cells + 16 by omega) hcs, Nat.le_trans (show _ ≤ slots + 1400 by omega) hss⟩) hD2 hS hA (fun H locs hP2 hD2 hS => ?_)
  have hP : va_P D vwCl (wC cs ad am M1 N1 (outs cq o od (fo f oc) g)) H := sw3P hP2
  have hD : va_D (AL s) (wC cs ad am M1 N1 (outs cq o od (fo f oc) g)) := sw3D hD2
  refine lv_istore (lv' := [(7, .int bv), (6, .int (hN [0, 1] oc)), (5, .int i), (0, .ref b), (1, .ref (ad 0)), (2, .ref (am 0)), (3, .ref o), (4, .ref od)]) hx hb dL_law_231 hl (by decide) rfl (fun ls hl => ?_)
  refine lv_aload_n hx hb dL_law_233 rfl (lv_at hl 5 rfl) ?_
  have hP2 := sw3P hP
  refine r_calli (r := N1 0 0) (W.runV (As := []) (rest := []) CX (ctX8_thrown l D sw cs am (wl cs LC NC ad M1 ++ outs cq o od (fo f oc) g) N1 rfl) (cwV 0 hts (gwV m4_162 m4_163 m4_164 m1_7 m4_165) rfl rfl rfl (by decide +kernel) ⟨Nat.le_of_ble_eq_true rfl, Nat.le_of_ble_eq_true rfl⟩) (rPreV (hSW.wr hS) hK hP2 (by decide) rfl rfl _) rfl rfl hl.1 rfl (lv_room (Nat.le_of_ble_eq_true rfl)) dL_law_234 ⟨Nat.le_trans (show _ ≤ cells + 16 by omega) hcs, Nat.le_trans (show _ ≤ slots + 1400 by omega) hss⟩) ?_
  refine lv_iload hx hb dL_law_237 (lv_at hl 1 rfl) ?_
  refine lv_icmp_eq (tgt := 244) hx hb dL_law_239 (by decide) (fun _ => ?_) (fun h9 => absurd ht h9)
  refine lv_iload hx hb dL_law_244 (lv_at hl 1 rfl) ?_
  rcases oc with v | k9
  · refine lv_if_ne (tgt := 261) hx hb dL_law_246 (by decide) (fun h9 => absurd rfl h9) (fun _ => ?_)
    refine lv_aload_n hx hb dL_law_249 rfl (lv_at hl 6 rfl) ?_
    refine lv_iconst (v := 0) hx hb dL_law_250 (by decide) ?_
    refine va_lald (n := 1) hx hb hKL hP (NC + (NM + 0)) 0 out_get rfl (by unfold vp_in; decide) dL_law_251 ?_
    rw [fo_0]
    refine lv_iload hx hb dL_law_252 (lv_at hl 0 rfl) ?_
    refine lv_i2l hx hb dL_law_254 rfl ?_
    refine W.lcmp hx hb dL_law_255 ?_
    refine lv_if_eq (tgt := 261) hx hb dL_law_256 (by decide) (fun _ => ?_) (fun h9 => absurd (by rw [hv v rfl]; exact lcmp_self _) h9)
    refine lv_goto (tgt := 1671) hx hb dL_law_261 (by decide) ?_
    refine W.widen (k := cells + 16) (n := slots + 1400) (by omega) (by omega) ?_
    exact kk _ _ _ _ _ hP hD hS (lv_sub hl [2, 3, 4, 5, 6, 7] rfl)
  · have hk9 := hk k9 rfl
    refine lv_if_ne (tgt := 261) hx hb dL_law_246 (by decide) (fun _ => ?_) (fun h9 => absurd h9 (hN_ne (by simpa using hk9)))
    refine lv_goto (tgt := 1671) hx hb dL_law_261 (by decide) ?_
    refine W.widen (k := cells + 16) (n := slots + 1400) (by omega) (by omega) ?_
    exact kk _ _ _ _ _ hP hD hS (lv_sub hl [2, 3, 4, 5, 6, 7] rfl)
set_option maxHeartbeats 4000000 in
set_option maxRecDepth 100000 in
theorem lc_22 {l : Launch} {p : Program} {e : Env} {s : State} {m : MethodId} {below : List Frame} {meth : Method} {c : Code} {Q : State → Prop} {b L : Nat} {xs : Nat → Int32} {D : va_G} {sw : Sw} {cs : Cs} {cq : ClassId × ClassId} (K : LK l p s m c b L xs D sw cs cq) {ad am : Nat → Nat} {M N : Mm} {o od : Nat} {f : Nat → Int64} {g : Nat → UInt64} {i x1 x2 : Int32} (hi1 : vp_in (i + 1) L) (hi2 : vp_in (i + 2) L) (hx1 : xs (i + 1).toNatClampNeg = x1) (hx2 : xs (i + 2).toNatClampNeg = x2) {oc : UInt64 ⊕ Nat} {M1 N1 : Mm} {bv : UInt64} (hq : gX7_gain M = some (oc, M1)) (hk : ∀ k, oc = .inr k → k ∈ ([1] : List Nat)) (hm : gX8_gain N = some (bv, N1)) (ht : N1 0 0 = hN [1] oc) (hv : ∀ v, oc = .inl v → v = bv ∧ vf_n64 v) {cells slots : Nat} (hcs : cells + 16 ≤ room_1.cells) (hss : slots + 1400 ≤ room_1.slots) {H : Heap} {locs : List Loc} {ls : Array Slot} (hP : va_P D vwCl (wC cs ad am M N (outs cq o od f g)) H) (hD : va_D (AL s) (wC cs ad am M N (outs cq o od f g))) (hS : va_S (AL s) s.heap H locs) (hl : lv_has ls 9 (lLv b ad am o od i))
    (kk : ∀ (f : Nat → Int64) (g : Nat → UInt64) (H : Heap) (locs : List Loc) (ls : Array Slot), va_P D vwCl (wC cs ad am M1 N1 (outs cq o od f g)) H → va_D (AL s) (wC cs ad am M1 N1 (outs cq o od f g)) → va_S (AL s) s.heap H locs → lv_has ls 9 (lLv b ad am o od i) → W p l e room_1 s m #[Value.ref b] below meth c H locs (cells + 16) (slots + 1400) Q (F0 m 1671 ls [])) : W p l e room_1 s m #[Value.ref b] below meth c H locs cells slots Q (F0 m 1288 ls []) := by
  obtain ⟨CX, hX, hbl, hK, hKL, hSW, hfl⟩ := K
  obtain ⟨hx, hb, hml, hown, hts⟩ := id CX
  have hw : ∀ w ∈ WG, w.before _ s = true := fun w h => hts w (List.mem_cons_of_mem _ h)
  have hA : ∀ q, s.heap.size ≤ q → AL s q := fun _ h => h
  have hbA : ¬ AL s b := Nat.not_le.mpr hbl
  refine lv_aload_n hx hb dL_law_1288 rfl (lv_at hl 2 rfl) ?_
  refine lv_aload hx hb dL_law_1289 (lv_at hl 5 rfl) ?_
  refine va_calli (vx_runSW (As := [.ref (ad 0), .ref od]) (rest := []) CX (ctL_gain l hfl D sw cs cq ad (wl cs LM NM am N ++ outs cq o od f g) H.size M  hq hk (j := NM + 1) (wx_get rfl)) (vx_cwSW 2 hts (gwW m4_32 m4_33 m1_0 WL_gain) rfl rfl rfl (by decide +kernel) ⟨Nat.le_of_ble_eq_true rfl, Nat.le_of_ble_eq_true rfl⟩) (lPreS hSW hS hA hK hKL hP hD _) rfl rfl hl.1 rfl (lv_room (Nat.le_of_ble_eq_true rfl)) dL_law_1291 ⟨Nat.le_trans (show _ ≤ cells + 16 by omega) hcs, Nat.le_trans (show _ ≤ slots + 1400 by omega) hss⟩) hS (fun q _ h => wA_free hD hS hA q h) (wA_free hD hS hA) (fun r u t H1 locs ht _ hr1 hB _ _ hS => ?_)
  subst hr1
  rw [ht] at hB
  rw [oD_out] at hB
  have hP : va_P D vwCl (wC cs ad am M1 N (outs cq o od f (gof g oc))) H1 := hB
  have hD : va_D (AL s) (wC cs ad am M1 N (outs cq o od f (gof g oc))) := lawD hD
  generalize H1 = H at hP hS ⊢
  refine lv_istore (lv' := [(6, .int (hN [1] oc)), (5, .int i), (0, .ref b), (1, .ref (ad 0)), (2, .ref (am 0)), (3, .ref o), (4, .ref od)]) hx hb dL_law_1294 hl (by decide) rfl (fun ls hl => ?_)
  refine lv_aload_n hx hb dL_law_1296 rfl (lv_at hl 4 rfl) ?_
  have hP2 := sw3P hP
  have hD2 := sw3D hD
  refine w_calld (va_runV (As := []) (rest := []) CX (ctX8_gain l D sw cs am (wl cs LC NC ad M1 ++ outs cq o od f (gof g oc)) H.size N  hm) (cwV 0 hts (gwV m5_179 m5_180 m5_181 m1_7 m5_182) rfl rfl rfl (by decide +kernel) ⟨Nat.le_of_ble_eq_true rfl, Nat.le_of_ble_eq_true rfl⟩) (wPreV hSW hS hA hK hP2 hD2 (by decide) rfl rfl _) rfl rfl hl.1 rfl (lv_room (Nat.le_of_ble_eq_true rfl)) dL_law_1297 ⟨Nat.le_trans (show _ ≤ cells + 16 by omega) hcs, Nat.le_trans (show _ ≤ slots + 1400 by omega) hss⟩) hD2 hS hA (fun H locs hP2 hD2 hS => ?_)
  have hP : va_P D vwCl (wC cs ad am M1 N1 (outs cq o od f (gof g oc))) H := sw3P hP2
  have hD : va_D (AL s) (wC cs ad am M1 N1 (outs cq o od f (gof g oc))) := sw3D hD2
  refine lv_dstore (lv' := [(7, .double bv), (6, .int (hN [1] oc)), (5, .int i), (0, .ref b), (1, .ref (ad 0)), (2, .ref (am 0)), (3, .ref o), (4, .ref od)]) hx hb dL_law_1300 hl (by decide) rfl (fun ls hl => ?_)
  refine lv_aload_n hx hb dL_law_1302 rfl (lv_at hl 5 rfl) ?_
  have hP2 := sw3P hP
  refine r_calli (r := N1 0 0) (W.runV (As := []) (rest := []) CX (ctX8_thrown l D sw cs am (wl cs LC NC ad M1 ++ outs cq o od f (gof g oc)) N1 rfl) (cwV 0 hts (gwV m4_162 m4_163 m4_164 m1_7 m4_165) rfl rfl rfl (by decide +kernel) ⟨Nat.le_of_ble_eq_true rfl, Nat.le_of_ble_eq_true rfl⟩) (rPreV (hSW.wr hS) hK hP2 (by decide) rfl rfl _) rfl rfl hl.1 rfl (lv_room (Nat.le_of_ble_eq_true rfl)) dL_law_1303 ⟨Nat.le_trans (show _ ≤ cells + 16 by omega) hcs, Nat.le_trans (show _ ≤ slots + 1400 by omega) hss⟩) ?_
  refine lv_iload hx hb dL_law_1306 (lv_at hl 1 rfl) ?_
  refine lv_icmp_eq (tgt := 1313) hx hb dL_law_1308 (by decide) (fun _ => ?_) (fun h9 => absurd ht h9)
  refine lv_iload hx hb dL_law_1313 (lv_at hl 1 rfl) ?_
  rcases oc with v | k9
  · refine lv_if_ne (tgt := 1350) hx hb dL_law_1315 (by decide) (fun h9 => absurd rfl h9) (fun _ => ?_)
    refine lv_aload hx hb dL_law_1318 (lv_at hl 7 rfl) ?_
    refine lv_iconst (v := 0) hx hb dL_law_1320 (by decide) ?_
    refine va_dald (n := 1) hx hb hKL hP (NC + (NM + 1)) 1 outD_get rfl (by unfold vp_in; decide) dL_law_1321 ?_
    rw [gof_0]
    refine lv_dload hx hb dL_law_1322 (lv_at hl 0 rfl) ?_
    refine lv_dcmp hx hb dL_law_1324 ?_
    refine lv_if_eq (tgt := 1350) hx hb dL_law_1325 (by decide) (fun _ => ?_) (fun h9 => absurd (by rw [(hv v rfl).1]; exact dcmp_same ((hv v rfl).1 ▸ (hv v rfl).2) _) h9)
    refine lv_goto (tgt := 1671) hx hb dL_law_1350 (by decide) ?_
    refine W.widen (k := cells + 16) (n := slots + 1400) (by omega) (by omega) ?_
    exact kk _ _ _ _ _ hP hD hS (lv_sub hl [2, 3, 4, 5, 6, 7] rfl)
  · have hk9 := hk k9 rfl
    refine lv_if_ne (tgt := 1350) hx hb dL_law_1315 (by decide) (fun _ => ?_) (fun h9 => absurd h9 (hN_ne (by simpa using hk9)))
    refine lv_goto (tgt := 1671) hx hb dL_law_1350 (by decide) ?_
    refine W.widen (k := cells + 16) (n := slots + 1400) (by omega) (by omega) ?_
    exact kk _ _ _ _ _ hP hD hS (lv_sub hl [2, 3, 4, 5, 6, 7] rfl)
