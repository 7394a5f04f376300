theorem hN_ne {l : List Nat} {k : Nat} {α : Type} (h : k ∈ l ∧ l.length < 100) : hN l (.inr k : α ⊕ Nat) ≠ 0 := by
  have h1 := List.idxOf_lt_length_of_mem h.1
  exact nI_ne0 (by omega) (by have := h.2; omega)
theorem lcmp_self (x : Int64) : lg_cmp x x = 0 := by
  unfold lg_cmp
  simp
theorem lawD {D0 : Mm} {s : State} {cs : Cs} {cq : ClassId × ClassId} {ad am : Nat → Nat} {M1 N : Mm} {o od : Nat} {f f' : Nat → Int64} {g g' : Nat → UInt64} (h : va_D (AL s) (wC cs ad am D0 N (outs cq o od f g))) : va_D (AL s) (wC cs ad am M1 N (outs cq o od f' g')) := by
  have h1 := wl_D M1 h
  have h2 := w_swapD (e2 := .inl (cq.1, 1, .inr (.inl f'))) (out_get (ad := ad) (M := M1)) h1
  rw [wx_set, wx_set] at h2
  have h3 := w_swapD (e2 := .inl (cq.2, 1, .inr (.inr (.inr (.inl g'))))) (outD_get (ad := ad) (M := M1) (f := f') (g := g)) h2
  rw [wx_set, wx_set] at h3
  exact h3

set_option maxHeartbeats 4000000 in
set_option maxRecDepth 100000 in
theorem lc_0 {l : Launch} {p : Program} {e : Env} {s : State} {m : MethodId} {below : List Frame} {meth : Method} {c : Code} {Q : State → Prop} {b L : Nat} {xs : Nat → Int32} {D : va_G} {sw : Sw} {cs : Cs} {cq : ClassId × ClassId} (K : LK l p s m c b L xs D sw cs cq) {ad am : Nat → Nat} {M N : Mm} {o od : Nat} {f : Nat → Int64} {g : Nat → UInt64} {i x1 x2 : Int32} (hi1 : vp_in (i + 1) L) (hi2 : vp_in (i + 2) L) (hx1 : xs (i + 1).toNatClampNeg = x1) (hx2 : xs (i + 2).toNatClampNeg = x2) {oc : Int32 ⊕ Nat} {M1 N1 : Mm} {bv : Int32} (hq : gX7_write M (wArg x1 x2) = some (oc, M1)) (hk : ∀ k, oc = .inr k → k ∈ ([0, 1] : List Nat)) (hm : gX8_write N (wArg x1 x2) = some (bv, N1)) (ht : N1 0 0 = hN [0, 1] oc) (hv : ∀ v, oc = .inl v → v = bv) {cells slots : Nat} (hcs : cells + 16 ≤ room_1.cells) (hss : slots + 1400 ≤ room_1.slots) {H : Heap} {locs : List Loc} {ls : Array Slot} (hP : va_P D vwCl (wC cs ad am M N (outs cq o od f g)) H) (hD : va_D (AL s) (wC cs ad am M N (outs cq o od f g))) (hS : va_S (AL s) s.heap H locs) (hl : lv_has ls 9 (lLv b ad am o od i))
    (kk : ∀ (f : Nat → Int64) (g : Nat → UInt64) (H : Heap) (locs : List Loc) (ls : Array Slot), va_P D vwCl (wC cs ad am M1 N1 (outs cq o od f g)) H → va_D (AL s) (wC cs ad am M1 N1 (outs cq o od f g)) → va_S (AL s) s.heap H locs → lv_has ls 9 (lLv b ad am o od i) → W p l e room_1 s m #[Value.ref b] below meth c H locs (cells + 16) (slots + 1400) Q (F0 m 1671 ls [])) : W p l e room_1 s m #[Value.ref b] below meth c H locs cells slots Q (F0 m 176 ls []) := by
  obtain ⟨CX, hX, hbl, hK, hKL, hSW, hfl⟩ := K
  obtain ⟨hx, hb, hml, hown, hts⟩ := id CX
  have hw : ∀ w ∈ WG, w.before _ s = true := fun w h => hts w (List.mem_cons_of_mem _ h)
  have hA : ∀ q, s.heap.size ≤ q → AL s q := fun _ h => h
  have hbA : ¬ AL s b := Nat.not_le.mpr hbl
  refine lv_aload_n hx hb dL_law_176 rfl (lv_at hl 2 rfl) ?_
  refine lv_aload_n hx hb dL_law_177 rfl (lv_at hl 1 rfl) ?_
  refine lv_iload hx hb dL_law_178 (lv_at hl 0 rfl) ?_
  refine lv_iconst (v := 1) hx hb dL_law_180 (by decide) ?_
  refine lv_iadd hx hb dL_law_181 ?_
  refine va_sld hx hb hX hbl hbA hS hi1 dL_law_182 ?_
  rw [hx1]
  refine lv_i2l hx hb dL_law_183 rfl ?_
  refine lv_bipush (v := 32) hx hb dL_law_184 (by decide) ?_
  refine lv_lshl hx hb dL_law_186 rfl ?_
  refine lv_aload_n hx hb dL_law_187 rfl (lv_at hl 1 rfl) ?_
  refine lv_iload hx hb dL_law_188 (lv_at hl 0 rfl) ?_
  refine lv_iconst (v := 2) hx hb dL_law_190 (by decide) ?_
  refine lv_iadd hx hb dL_law_191 ?_
  refine va_sld hx hb hX hbl hbA hS hi2 dL_law_192 ?_
  rw [hx2]
  refine lv_i2l hx hb dL_law_193 rfl ?_
  refine lv_ldc2 (v := 4294967295) hx hb hown (hw _ m5_237) dL_law_194 ?_
  refine lv_land hx hb dL_law_197 ?_
  refine lv_lor hx hb dL_law_198 ?_
  refine lv_aload_n hx hb dL_law_199 rfl (lv_at hl 4 rfl) ?_
  refine va_calli (vx_runSW (As := [.ref (ad 0), .long (wArg x1 x2), .ref o]) (rest := []) CX (ctL_write l hfl D sw cs cq ad (wl cs LM NM am N ++ outs cq o od f g) H.size M ((wArg x1 x2)) hq hk (j := NM + 0) (wx_get rfl)) (vx_cwSW 3 hts (gwW m2_210 m2_211 m1_0 WL_write) rfl rfl rfl (by decide +kernel) ⟨Nat.le_of_ble_eq_true rfl, Nat.le_of_ble_eq_true rfl⟩) (lPreS hSW hS hA hK hKL hP hD _) rfl rfl hl.1 rfl (lv_room (Nat.le_of_ble_eq_true rfl)) dL_law_200 ⟨Nat.le_trans (show _ ≤ cells + 16 by omega) hcs, Nat.le_trans (show _ ≤ slots + 1400 by omega) hss⟩) hS (fun q _ h => wA_free hD hS hA q h) (wA_free hD hS hA) (fun r u t H1 locs ht9 _ hr1 hB _ _ hS => ?_)
  subst hr1
  rw [ht9] at hB
  rw [oX_out] at hB
  have hP : va_P D vwCl (wC cs ad am M1 N (outs cq o od (fo f oc) g)) H1 := hB
  have hD : va_D (AL s) (wC cs ad am M1 N (outs cq o od (fo f oc) g)) := lawD hD
  generalize H1 = H at hP hS ⊢
  refine lv_istore (lv' := [(6, .int (hN [0, 1] oc)), (5, .int i), (0, .ref b), (1, .ref (ad 0)), (2, .ref (am 0)), (3, .ref o), (4, .ref od)]) hx hb dL_law_203 hl (by decide) rfl (fun ls hl => ?_)
  refine lv_aload_n hx hb dL_law_205 rfl (lv_at hl 4 rfl) ?_
  refine lv_aload_n hx hb dL_law_206 rfl (lv_at hl 2 rfl) ?_
  refine lv_iload hx hb dL_law_207 (lv_at hl 1 rfl) ?_
  refine lv_iconst (v := 1) hx hb dL_law_209 (by decide) ?_
  refine lv_iadd hx hb dL_law_210 ?_
  refine va_sld hx hb hX hbl hbA hS hi1 dL_law_211 ?_
  rw [hx1]
  refine lv_i2l hx hb dL_law_212 rfl ?_
  refine lv_bipush (v := 32) hx hb dL_law_213 (by decide) ?_
  refine lv_lshl hx hb dL_law_215 rfl ?_
  refine lv_aload_n hx hb dL_law_216 rfl (lv_at hl 2 rfl) ?_
  refine lv_iload hx hb dL_law_217 (lv_at hl 1 rfl) ?_
  refine lv_iconst (v := 2) hx hb dL_law_219 (by decide) ?_
  refine lv_iadd hx hb dL_law_220 ?_
  refine va_sld hx hb hX hbl hbA hS hi2 dL_law_221 ?_
  rw [hx2]
  refine lv_i2l hx hb dL_law_222 rfl ?_
  refine lv_ldc2 (v := 4294967295) hx hb hown (hw _ m5_237) dL_law_223 ?_
  refine lv_land hx hb dL_law_226 ?_
  refine lv_lor hx hb dL_law_227 ?_
  have hP2 := sw3P hP
  have hD2 := sw3D hD
  refine w_calli (va_runV (As := [.long (wArg x1 x2)]) (rest := []) CX (ctX8_write l D sw cs am (wl cs LC NC ad M1 ++ outs cq o od (fo f oc) g) H.size N ((wArg x1 x2)) hm) (cwV 1 hts (gwV m4_166 m4_167 m4_168 m1_7 m4_169) rfl rfl rfl (by decide +kernel) ⟨Nat.le_of_ble_eq_true rfl, Nat.le_of_ble_eq_true rfl⟩) (wPreV hSW hS hA hK hP2 hD2 (by decide) rfl rfl _) rfl rfl hl.1 rfl (lv_room (Nat.le_of_ble_eq_true rfl)) dL_law_228 ⟨Nat.le_trans (show _ ≤ cells + 16 by omega) hcs, Nat.le_trans (show _ ≤ slots + 1400 by omega) hss⟩) hD2 hS hA (fun H locs hP2 hD2 hS => ?_)
  have hP : va_P D vwCl (wC cs ad am M1 N1 (outs cq o od (fo f oc) g)) H := sw3P hP2
  have hD : va_D (AL s) (wC cs ad am M1 N1 (outs cq o od (fo f oc) g)) := sw3D hD2
  refine lv_istore (lv' := [(7, .int bv), (6, .int (hN [0, 1] oc)), (5, .int i), (0, .ref b), (1, .ref (ad 0)), (2, .ref (am 0)), (3, .ref o), (4, .ref od)]) hx hb dL_law_231 hl (by decide) rfl (fun ls hl => ?_)
  refine lv_aload_n hx hb dL_law_233 rfl (lv_at hl 5 rfl) ?_
  have hP2 := sw3P hP
  refine r_calli (r := N1 0 0) (W.runV (As := []) (rest := []) CX (ctX8_thrown l D sw cs am (wl cs LC NC ad M1 ++ outs cq o od (fo f oc) g) N1 rfl) (cwV 0 hts (gwV m4_162 m4_163 m4_164 m1_7 m4_165) rfl rfl rfl (by decide +kernel) ⟨Nat.le_of_ble_eq_true rfl, Nat.le_of_ble_eq_true rfl⟩) (rPreV (hSW.wr hS) hK hP2 (by decide) rfl rfl _) rfl rfl hl.1 rfl (lv_room (Nat.le_of_ble_eq_true rfl)) dL_law_234 ⟨Nat.le_trans (show _ ≤ cells + 16 by omega) hcs, Nat.le_trans (show _ ≤ slots + 1400 by omega) hss⟩) ?_
  refine lv_iload hx hb dL_law_237 (lv_at hl 1 rfl) ?_
  refine lv_icmp_eq (tgt := 244) hx hb dL_law_239 (by decide) (fun _ => ?_) (fun h9 => absurd ht h9)
  refine lv_iload hx hb dL_law_244 (lv_at hl 1 rfl) ?_
  rcases oc with v | k9
  · refine lv_if_ne (tgt := 261) hx hb dL_law_246 (by decide) (fun h9 => absurd rfl h9) (fun _ => ?_)
    refine lv_aload_n hx hb dL_law_249 rfl (lv_at hl 6 rfl) ?_
    refine lv_iconst (v := 0) hx hb dL_law_250 (by decide) ?_
    refine va_lald (n := 1) hx hb hKL hP (NC + (NM + 0)) 0 out_get rfl (by unfold vp_in; decide) dL_law_251 ?_
    rw [fo_0]
    refine lv_iload hx hb dL_law_252 (lv_at hl 0 rfl) ?_
    refine lv_i2l hx hb dL_law_254 rfl ?_
    refine W.lcmp hx hb dL_law_255 ?_
    refine lv_if_eq (tgt := 261) hx hb dL_law_256 (by decide) (fun _ => ?_) (fun h9 => absurd (by rw [hv v rfl]; exact lcmp_self _) h9)
    refine lv_goto (tgt := 1671) hx hb dL_law_261 (by decide) ?_
    refine W.widen (k := cells + 16) (n := slots + 1400) (by omega) (by omega) ?_
    exact kk _ _ _ _ _ hP hD hS (lv_sub hl [2, 3, 4, 5, 6, 7] rfl)
  · have hk9 := hk k9 rfl
    refine lv_if_ne (tgt := 261) hx hb dL_law_246 (by decide) (fun _ => ?_) (fun h9 => absurd h9 (hN_ne (by simpa using hk9)))
    refine lv_goto (tgt := 1671) hx hb dL_law_261 (by decide) ?_
    refine W.widen (k := cells + 16) (n := slots + 1400) (by omega) (by omega) ?_
    exact kk _ _ _ _ _ hP hD hS (lv_sub hl [2, 3, 4, 5, 6, 7] rfl)
set_option maxHeartbeats 4000000 in
set_option maxRecDepth 100000 in
theorem lc_1 {l : Launch} {p : Program} {e : Env} {s : State} {m : MethodId} {below : List Frame} {meth : Method} {c : Code} {Q : State → Prop} {b L : Nat} {xs : Nat → Int32} {D : va_G} {sw : Sw} {cs : Cs} {cq : ClassId × ClassId} (K : LK l p s m c b L xs D sw cs cq) {ad am : Nat → Nat} {M N : Mm} {o od : Nat} {f : Nat → Int64} {g : Nat → UInt64} {i x1 x2 : Int32} (hi1 : vp_in (i + 1) L) (hi2 : vp_in (i + 2) L) (hx1 : xs (i + 1).toNatClampNeg = x1) (hx2 : xs (i + 2).toNatClampNeg = x2) {oc : Int32 ⊕ Nat} {M1 N1 : Mm} {bv : Int32} (hq : gX7_when M x1 (if x2 = 0 then 0 else 1) = some (oc, M1)) (hk : ∀ k, oc = .inr k → k ∈ ([2, 1] : List Nat)) (hm : gX8_when N x1 (if x2 = 0 then 0 else 1) = some (bv, N1)) (ht : N1 0 0 = hN [2, 1] oc) (hv : ∀ v, oc = .inl v → v = bv) {cells slots : Nat} (hcs : cells + 16 ≤ room_1.cells) (hss : slots + 1400 ≤ room_1.slots) {H : Heap} {locs : List Loc} {ls : Array Slot} (hP : va_P D vwCl (wC cs ad am M N (outs cq o od f g)) H) (hD : va_D (AL s) (wC cs ad am M N (outs cq o od f g))) (hS : va_S (AL s) s.heap H locs) (hl : lv_has ls 9 (lLv b ad am o od i))
    (kk : ∀ (f : Nat → Int64) (g : Nat → UInt64) (H : Heap) (locs : List Loc) (ls : Array Slot), va_P D vwCl (wC cs ad am M1 N1 (outs cq o od f g)) H → va_D (AL s) (wC cs ad am M1 N1 (outs cq o od f g)) → va_S (AL s) s.heap H locs → lv_has ls 9 (lLv b ad am o od i) → W p l e room_1 s m #[Value.ref b] below meth c H locs (cells + 16) (slots + 1400) Q (F0 m 1671 ls [])) : W p l e room_1 s m #[Value.ref b] below meth c H locs cells slots Q (F0 m 264 ls []) := by
  obtain ⟨CX, hX, hbl, hK, hKL, hSW, hfl⟩ := K
  obtain ⟨hx, hb, hml, hown, hts⟩ := id CX
  have hw : ∀ w ∈ WG, w.before _ s = true := fun w h => hts w (List.mem_cons_of_mem _ h)
  have hA : ∀ q, s.heap.size ≤ q → AL s q := fun _ h => h
  have hbA : ¬ AL s b := Nat.not_le.mpr hbl
  by_cases hz : x2 = 0
  · rw [if_pos hz] at hq hm
    refine lv_aload_n hx hb dL_law_264 rfl (lv_at hl 2 rfl) ?_
    refine lv_aload_n hx hb dL_law_265 rfl (lv_at hl 1 rfl) ?_
    refine lv_iload hx hb dL_law_266 (lv_at hl 0 rfl) ?_
    refine lv_iconst (v := 1) hx hb dL_law_268 (by decide) ?_
    refine lv_iadd hx hb dL_law_269 ?_
    refine va_sld hx hb hX hbl hbA hS hi1 dL_law_270 ?_
    rw [hx1]
    refine lv_aload_n hx hb dL_law_271 rfl (lv_at hl 1 rfl) ?_
    refine lv_iload hx hb dL_law_272 (lv_at hl 0 rfl) ?_
    refine lv_iconst (v := 2) hx hb dL_law_274 (by decide) ?_
    refine lv_iadd hx hb dL_law_275 ?_
    refine va_sld hx hb hX hbl hbA hS hi2 dL_law_276 ?_
    rw [hx2]
    refine lv_if_eq (tgt := 284) hx hb dL_law_277 (by decide) (fun _ => ?_) (fun h9 => absurd hz h9)
    refine lv_iconst (v := 0) hx hb dL_law_284 (by decide) ?_
    refine lv_aload_n hx hb dL_law_285 rfl (lv_at hl 4 rfl) ?_
    refine va_calli (vx_runSW (As := [.ref (ad 0), .int x1, .int 0, .ref o]) (rest := []) CX (ctL_when l hfl D sw cs cq ad (wl cs LM NM am N ++ outs cq o od f g) H.size M (x1) (0) hq hk (j := NM + 0) (wx_get rfl)) (vx_cwSW 4 hts (gwW m3_74 m3_75 m1_0 WL_when) rfl rfl rfl (by decide +kernel) ⟨Nat.le_of_ble_eq_true rfl, Nat.le_of_ble_eq_true rfl⟩) (lPreS hSW hS hA hK hKL hP hD _) rfl rfl hl.1 rfl (lv_room (Nat.le_of_ble_eq_true rfl)) dL_law_286 ⟨Nat.le_trans (show _ ≤ cells + 16 by omega) hcs, Nat.le_trans (show _ ≤ slots + 1400 by omega) hss⟩) hS (fun q _ h => wA_free hD hS hA q h) (wA_free hD hS hA) (fun r u t H1 locs ht9 _ hr1 hB _ _ hS => ?_)
    subst hr1
    rw [ht9] at hB
    rw [oX_out] at hB
    have hP : va_P D vwCl (wC cs ad am M1 N (outs cq o od (fo f oc) g)) H1 := hB
    have hD : va_D (AL s) (wC cs ad am M1 N (outs cq o od (fo f oc) g)) := lawD hD
    generalize H1 = H at hP hS ⊢
    refine lv_istore (lv' := [(6, .int (hN [2, 1] oc)), (5, .int i), (0, .ref b), (1, .ref (ad 0)), (2, .ref (am 0)), (3, .ref o), (4, .ref od)]) hx hb dL_law_289 hl (by decide) rfl (fun ls hl => ?_)
    refine lv_aload_n hx hb dL_law_291 rfl (lv_at hl 4 rfl) ?_
    refine lv_aload_n hx hb dL_law_292 rfl (lv_at hl 2 rfl) ?_
    refine lv_iload hx hb dL_law_293 (lv_at hl 1 rfl) ?_
    refine lv_iconst (v := 1) hx hb dL_law_295 (by decide) ?_
    refine lv_iadd hx hb dL_law_296 ?_
    refine va_sld hx hb hX hbl hbA hS hi1 dL_law_297 ?_
    rw [hx1]
    refine lv_aload_n hx hb dL_law_298 rfl (lv_at hl 2 rfl) ?_
    refine lv_iload hx hb dL_law_299 (lv_at hl 1 rfl) ?_
    refine lv_iconst (v := 2) hx hb dL_law_301 (by decide) ?_
    refine lv_iadd hx hb dL_law_302 ?_
    refine va_sld hx hb hX hbl hbA hS hi2 dL_law_303 ?_
    rw [hx2]
    refine lv_if_eq (tgt := 311) hx hb dL_law_304 (by decide) (fun _ => ?_) (fun h9 => absurd hz h9)
    refine lv_iconst (v := 0) hx hb dL_law_311 (by decide) ?_
    have hP2 := sw3P hP
    have hD2 := sw3D hD
    refine w_calli (va_runV (As := [.int x1, .int 0]) (rest := []) CX (ctX8_when l D sw cs am (wl cs LC NC ad M1 ++ outs cq o od (fo f oc) g) H.size N (x1) (0) hm) (cwV 2 hts (gwV m5_0 m5_1 m5_2 m1_7 m5_3) rfl rfl rfl (by decide +kernel) ⟨Nat.le_of_ble_eq_true rfl, Nat.le_of_ble_eq_true rfl⟩) (wPreV hSW hS hA hK hP2 hD2 (by decide) rfl rfl _) rfl rfl hl.1 rfl (lv_room (Nat.le_of_ble_eq_true rfl)) dL_law_312 ⟨Nat.le_trans (show _ ≤ cells + 16 by omega) hcs, Nat.le_trans (show _ ≤ slots + 1400 by omega) hss⟩) hD2 hS hA (fun H locs hP2 hD2 hS => ?_)
    have hP : va_P D vwCl (wC cs ad am M1 N1 (outs cq o od (fo f oc) g)) H := sw3P hP2
    have hD : va_D (AL s) (wC cs ad am M1 N1 (outs cq o od (fo f oc) g)) := sw3D hD2
    refine lv_istore (lv' := [(7, .int bv), (6, .int (hN [2, 1] oc)), (5, .int i), (0, .ref b), (1, .ref (ad 0)), (2, .ref (am 0)), (3, .ref o), (4, .ref od)]) hx hb dL_law_315 hl (by decide) rfl (fun ls hl => ?_)
    refine lv_aload_n hx hb dL_law_317 rfl (lv_at hl 5 rfl) ?_
    have hP2 := sw3P hP
    refine r_calli (r := N1 0 0) (W.runV (As := []) (rest := []) CX (ctX8_thrown l D sw cs am (wl cs LC NC ad M1 ++ outs cq o od (fo f oc) g) N1 rfl) (cwV 0 hts (gwV m4_162 m4_163 m4_164 m1_7 m4_165) rfl rfl rfl (by decide +kernel) ⟨Nat.le_of_ble_eq_true rfl, Nat.le_of_ble_eq_true rfl⟩) (rPreV (hSW.wr hS) hK hP2 (by decide) rfl rfl _) rfl rfl hl.1 rfl (lv_room (Nat.le_of_ble_eq_true rfl)) dL_law_318 ⟨Nat.le_trans (show _ ≤ cells + 16 by omega) hcs, Nat.le_trans (show _ ≤ slots + 1400 by omega) hss⟩) ?_
    refine lv_iload hx hb dL_law_321 (lv_at hl 1 rfl) ?_
    refine lv_icmp_eq (tgt := 328) hx hb dL_law_323 (by decide) (fun _ => ?_) (fun h9 => absurd ht h9)
    refine lv_iload hx hb dL_law_328 (lv_at hl 1 rfl) ?_
    rcases oc with v | k9
    · refine lv_if_ne (tgt := 345) hx hb dL_law_330 (by decide) (fun h9 => absurd rfl h9) (fun _ => ?_)
      refine lv_aload_n hx hb dL_law_333 rfl (lv_at hl 6 rfl) ?_
      refine lv_iconst (v := 0) hx hb dL_law_334 (by decide) ?_
      refine va_lald (n := 1) hx hb hKL hP (NC + (NM + 0)) 0 out_get rfl (by unfold vp_in; decide) dL_law_335 ?_
      rw [fo_0]
      refine lv_iload hx hb dL_law_336 (lv_at hl 0 rfl) ?_
      refine lv_i2l hx hb dL_law_338 rfl ?_
      refine W.lcmp hx hb dL_law_339 ?_
      refine lv_if_eq (tgt := 345) hx hb dL_law_340 (by decide) (fun _ => ?_) (fun h9 => absurd (by rw [hv v rfl]; exact lcmp_self _) h9)
      refine lv_goto (tgt := 1671) hx hb dL_law_345 (by decide) ?_
      refine W.widen (k := cells + 16) (n := slots + 1400) (by omega) (by omega) ?_
      exact kk _ _ _ _ _ hP hD hS (lv_sub hl [2, 3, 4, 5, 6, 7] rfl)
    · have hk9 := hk k9 rfl
      refine lv_if_ne (tgt := 345) hx hb dL_law_330 (by decide) (fun _ => ?_) (fun h9 => absurd h9 (hN_ne (by simpa using hk9)))
      refine lv_goto (tgt := 1671) hx hb dL_law_345 (by decide) ?_
      refine W.widen (k := cells + 16) (n := slots + 1400) (by omega) (by omega) ?_
      exact kk _ _ _ _ _ hP hD hS (lv_sub hl [2, 3, 4, 5, 6, 7] rfl)
  · rw [if_neg hz] at hq hm
    refine lv_aload_n hx hb dL_law_264 rfl (lv_at hl 2 rfl) ?_
    refine lv_aload_n hx hb dL_law_265 rfl (lv_at hl 1 rfl) ?_
    refine lv_iload hx hb dL_law_266 (lv_at hl 0 rfl) ?_
    refine lv_iconst (v := 1) hx hb dL_law_268 (by decide) ?_
    refine lv_iadd hx hb dL_law_269 ?_
    refine va_sld hx hb hX hbl hbA hS hi1 dL_law_270 ?_
    rw [hx1]
    refine lv_aload_n hx hb dL_law_271 rfl (lv_at hl 1 rfl) ?_
    refine lv_iload hx hb dL_law_272 (lv_at hl 0 rfl) ?_
    refine lv_iconst (v := 2) hx hb dL_law_274 (by decide) ?_
    refine lv_iadd hx hb dL_law_275 ?_
    refine va_sld hx hb hX hbl hbA hS hi2 dL_law_276 ?_
    rw [hx2]
    refine lv_if_eq (tgt := 284) hx hb dL_law_277 (by decide) (fun h9 => absurd h9 hz) (fun _ => ?_)
    refine lv_iconst (v := 1) hx hb dL_law_280 (by decide) ?_
    refine lv_goto (tgt := 285) hx hb dL_law_281 (by decide) ?_
    refine lv_aload_n hx hb dL_law_285 rfl (lv_at hl 4 rfl) ?_
    refine va_calli (vx_runSW (As := [.ref (ad 0), .int x1, .int 1, .ref o]) (rest := []) CX (ctL_when l hfl D sw cs cq ad (wl cs LM NM am N ++ outs cq o od f g) H.size M (x1) (1) hq hk (j := NM + 0) (wx_get rfl)) (vx_cwSW 4 hts (gwW m3_74 m3_75 m1_0 WL_when) rfl rfl rfl (by decide +kernel) ⟨Nat.le_of_ble_eq_true rfl, Nat.le_of_ble_eq_true rfl⟩) (lPreS hSW hS hA hK hKL hP hD _) rfl rfl hl.1 rfl (lv_room (Nat.le_of_ble_eq_true rfl)) dL_law_286 ⟨Nat.le_trans (show _ ≤ cells + 16 by omega) hcs, Nat.le_trans (show _ ≤ slots + 1400 by omega) hss⟩) hS (fun q _ h => wA_free hD hS hA q h) (wA_free hD hS hA) (fun r u t H1 locs ht9 _ hr1 hB _ _ hS => ?_)
    subst hr1
    rw [ht9] at hB
    rw [oX_out] at hB
    have hP : va_P D vwCl (wC cs ad am M1 N (outs cq o od (fo f oc) g)) H1 := hB
    have hD : va_D (AL s) (wC cs ad am M1 N (outs cq o od (fo f oc) g)) := lawD hD
    generalize H1 = H at hP hS ⊢
    refine lv_istore (lv' := [(6, .int (hN [2, 1] oc)), (5, .int i), (0, .ref b), (1, .ref (ad 0)), (2, .ref (am 0)), (3, .ref o), (4, .ref od)]) hx hb dL_law_289 hl (by decide) rfl (fun ls hl => ?_)
    refine lv_aload_n hx hb dL_law_291 rfl (lv_at hl 4 rfl) ?_
    refine lv_aload_n hx hb dL_law_292 rfl (lv_at hl 2 rfl) ?_
    refine lv_iload hx hb dL_law_293 (lv_at hl 1 rfl) ?_
    refine lv_iconst (v := 1) hx hb dL_law_295 (by decide) ?_
    refine lv_iadd hx hb dL_law_296 ?_
    refine va_sld hx hb hX hbl hbA hS hi1 dL_law_297 ?_
    rw [hx1]
    refine lv_aload_n hx hb dL_law_298 rfl (lv_at hl 2 rfl) ?_
    refine lv_iload hx hb dL_law_299 (lv_at hl 1 rfl) ?_
    refine lv_iconst (v := 2) hx hb dL_law_301 (by decide) ?_
    refine lv_iadd hx hb dL_law_302 ?_
    refine va_sld hx hb hX hbl hbA hS hi2 dL_law_303 ?_
    rw [hx2]
    refine lv_if_eq (tgt := 311) hx hb dL_law_304 (by decide) (fun h9 => absurd h9 hz) (fun _ => ?_)
    refine lv_iconst (v := 1) hx hb dL_law_307 (by decide) ?_
    refine lv_goto (tgt := 312) hx hb dL_law_308 (by decide) ?_
    have hP2 := sw3P hP
    have hD2 := sw3D hD
    refine w_calli (va_runV (As := [.int x1, .int 1]) (rest := []) CX (ctX8_when l D sw cs am (wl cs LC NC ad M1 ++ outs cq o od (fo f oc) g) H.size N (x1) (1) hm) (cwV 2 hts (gwV m5_0 m5_1 m5_2 m1_7 m5_3) rfl rfl rfl (by decide +kernel) ⟨Nat.le_of_ble_eq_true rfl, Nat.le_of_ble_eq_true rfl⟩) (wPreV hSW hS hA hK hP2 hD2 (by decide) rfl rfl _) rfl rfl hl.1 rfl (lv_room (Nat.le_of_ble_eq_true rfl)) dL_law_312 ⟨Nat.le_trans (show _ ≤ cells + 16 by omega) hcs, Nat.le_trans (show _ ≤ slots + 1400 by omega) hss⟩) hD2 hS hA (fun H locs hP2 hD2 hS => ?_)
    have hP : va_P D vwCl (wC cs ad am M1 N1 (outs cq o od (fo f oc) g)) H := sw3P hP2
    have hD : va_D (AL s) (wC cs ad am M1 N1 (outs cq o od (fo f oc) g)) := sw3D hD2
    refine lv_istore (lv' := [(7, .int bv), (6, .int (hN [2, 1] oc)), (5, .int i), (0, .ref b), (1, .ref (ad 0)), (2, .ref (am 0)), (3, .ref o), (4, .ref od)]) hx hb dL_law_315 hl (by decide) rfl (fun ls hl => ?_)
    refine lv_aload_n hx hb dL_law_317 rfl (lv_at hl 5 rfl) ?_
    have hP2 := sw3P hP
    refine r_calli (r := N1 0 0) (W.runV (As := []) (rest := []) CX (ctX8_thrown l D sw cs am (wl cs LC NC ad M1 ++ outs cq o od (fo f oc) g) N1 rfl) (cwV 0 hts (gwV m4_162 m4_163 m4_164 m1_7 m4_165) rfl rfl rfl (by decide +kernel) ⟨Nat.le_of_ble_eq_true rfl, Nat.le_of_ble_eq_true rfl⟩) (rPreV (hSW.wr hS) hK hP2 (by decide) rfl rfl _) rfl rfl hl.1 rfl (lv_room (Nat.le_of_ble_eq_true rfl)) dL_law_318 ⟨Nat.le_trans (show _ ≤ cells + 16 by omega) hcs, Nat.le_trans (show _ ≤ slots + 1400 by omega) hss⟩) ?_
    refine lv_iload hx hb dL_law_321 (lv_at hl 1 rfl) ?_
    refine lv_icmp_eq (tgt := 328) hx hb dL_law_323 (by decide) (fun _ => ?_) (fun h9 => absurd ht h9)
    refine lv_iload hx hb dL_law_328 (lv_at hl 1 rfl) ?_
    rcases oc with v | k9
    · refine lv_if_ne (tgt := 345) hx hb dL_law_330 (by decide) (fun h9 => absurd rfl h9) (fun _ => ?_)
      refine lv_aload_n hx hb dL_law_333 rfl (lv_at hl 6 rfl) ?_
      refine lv_iconst (v := 0) hx hb dL_law_334 (by decide) ?_
      refine va_lald (n := 1) hx hb hKL hP (NC + (NM + 0)) 0 out_get rfl (by unfold vp_in; decide) dL_law_335 ?_
      rw [fo_0]
      refine lv_iload hx hb dL_law_336 (lv_at hl 0 rfl) ?_
      refine lv_i2l hx hb dL_law_338 rfl ?_
      refine W.lcmp hx hb dL_law_339 ?_
      refine lv_if_eq (tgt := 345) hx hb dL_law_340 (by decide) (fun _ => ?_) (fun h9 => absurd (by rw [hv v rfl]; exact lcmp_self _) h9)
      refine lv_goto (tgt := 1671) hx hb dL_law_345 (by decide) ?_
      refine W.widen (k := cells + 16) (n := slots + 1400) (by omega) (by omega) ?_
      exact kk _ _ _ _ _ hP hD hS (lv_sub hl [2, 3, 4, 5, 6, 7] rfl)
    · have hk9 := hk k9 rfl
      refine lv_if_ne (tgt := 345) hx hb dL_law_330 (by decide) (fun _ => ?_) (fun h9 => absurd h9 (hN_ne (by simpa using hk9)))
      refine lv_goto (tgt := 1671) hx hb dL_law_345 (by decide) ?_
      refine W.widen (k := cells + 16) (n := slots + 1400) (by omega) (by omega) ?_
      exact kk _ _ _ _ _ hP hD hS (lv_sub hl [2, 3, 4, 5, 6, 7] rfl)
set_option maxHeartbeats 4000000 in
set_option maxRecDepth 100000 in
theorem lc_2 {l : Launch} {p : Program} {e : Env} {s : State} {m : MethodId} {below : List Frame} {meth : Method} {c : Code} {Q : State → Prop} {b L : Nat} {xs : Nat → Int32} {D : va_G} {sw : Sw} {cs : Cs} {cq : ClassId × ClassId} (K : LK l p s m c b L xs D sw cs cq) {ad am : Nat → Nat} {M N : Mm} {o od : Nat} {f : Nat → Int64} {g : Nat → UInt64} {i x1 x2 : Int32} (hi1 : vp_in (i + 1) L) (hi2 : vp_in (i + 2) L) (hx1 : xs (i + 1).toNatClampNeg = x1) (hx2 : xs (i + 2).toNatClampNeg = x2) {oc : Int32 ⊕ Nat} {M1 N1 : Mm} {bv : Int32} (hq : gX7_otherwise M = some (oc, M1)) (hk : ∀ k, oc = .inr k → k ∈ ([1] : List Nat)) (hm : gX8_otherwise N = some (bv, N1)) (ht : N1 0 0 = hN [1] oc) (hv : ∀ v, oc = .inl v → v = bv) {cells slots : Nat} (hcs : cells + 16 ≤ room_1.cells) (hss : slots + 1400 ≤ room_1.slots) {H : Heap} {locs : List Loc} {ls : Array Slot} (hP : va_P D vwCl (wC cs ad am M N (outs cq o od f g)) H) (hD : va_D (AL s) (wC cs ad am M N (outs cq o od f g))) (hS : va_S (AL s) s.heap H locs) (hl : lv_has ls 9 (lLv b ad am o od i))
    (kk : ∀ (f : Nat → Int64) (g : Nat → UInt64) (H : Heap) (locs : List Loc) (ls : Array Slot), va_P D vwCl (wC cs ad am M1 N1 (outs cq o od f g)) H → va_D (AL s) (wC cs ad am M1 N1 (outs cq o od f g)) → va_S (AL s) s.heap H locs → lv_has ls 9 (lLv b ad am o od i) → W p l e room_1 s m #[Value.ref b] below meth c H locs (cells + 16) (slots + 1400) Q (F0 m 1671 ls [])) : W p l e room_1 s m #[Value.ref b] below meth c H locs cells slots Q (F0 m 348 ls []) := by
  obtain ⟨CX, hX, hbl, hK, hKL, hSW, hfl⟩ := K
  obtain ⟨hx, hb, hml, hown, hts⟩ := id CX
  have hw : ∀ w ∈ WG, w.before _ s = true := fun w h => hts w (List.mem_cons_of_mem _ h)
  have hA : ∀ q, s.heap.size ≤ q → AL s q := fun _ h => h
  have hbA : ¬ AL s b := Nat.not_le.mpr hbl
  refine lv_aload_n hx hb dL_law_348 rfl (lv_at hl 2 rfl) ?_
  refine lv_aload_n hx hb dL_law_349 rfl (lv_at hl 4 rfl) ?_
  refine va_calli (vx_runSW (As := [.ref (ad 0), .ref o]) (rest := []) CX (ctL_otherwise l hfl D sw cs cq ad (wl cs LM NM am N ++ outs cq o od f g) H.size M  hq hk (j := NM + 0) (wx_get rfl)) (vx_cwSW 2 hts (gwW m3_110 m3_111 m1_0 WL_otherwise) rfl rfl rfl (by decide +kernel) ⟨Nat.le_of_ble_eq_true rfl, Nat.le_of_ble_eq_true rfl⟩) (lPreS hSW hS hA hK hKL hP hD _) rfl rfl hl.1 rfl (lv_room (Nat.le_of_ble_eq_true rfl)) dL_law_350 ⟨Nat.le_trans (show _ ≤ cells + 16 by omega) hcs, Nat.le_trans (show _ ≤ slots + 1400 by omega) hss⟩) hS (fun q _ h => wA_free hD hS hA q h) (wA_free hD hS hA) (fun r u t H1 locs ht9 _ hr1 hB _ _ hS => ?_)
  subst hr1
  rw [ht9] at hB
  rw [oX_out] at hB
  have hP : va_P D vwCl (wC cs ad am M1 N (outs cq o od (fo f oc) g)) H1 := hB
  have hD : va_D (AL s) (wC cs ad am M1 N (outs cq o od (fo f oc) g)) := lawD hD
  generalize H1 = H at hP hS ⊢
  refine lv_istore (lv' := [(6, .int (hN [1] oc)), (5, .int i), (0, .ref b), (1, .ref (ad 0)), (2, .ref (am 0)), (3, .ref o), (4, .ref od)]) hx hb dL_law_353 hl (by decide) rfl (fun ls hl => ?_)
  refine lv_aload_n hx hb dL_law_355 rfl (lv_at hl 4 rfl) ?_
  have hP2 := sw3P hP
  have hD2 := sw3D hD
  refine w_calli (va_runV (As := []) (rest := []) CX (ctX8_otherwise l D sw cs am (wl cs LC NC ad M1 ++ outs cq o od (fo f oc) g) H.size N  hm) (cwV 0 hts (gwV m5_14 m5_15 m5_16 m1_7 m5_17) rfl rfl rfl (by decide +kernel) ⟨Nat.le_of_ble_eq_true rfl, Nat.le_of_ble_eq_true rfl⟩) (wPreV hSW hS hA hK hP2 hD2 (by decide) rfl rfl _) rfl rfl hl.1 rfl (lv_room (Nat.le_of_ble_eq_true rfl)) dL_law_356 ⟨Nat.le_trans (show _ ≤ cells + 16 by omega) hcs, Nat.le_trans (show _ ≤ slots + 1400 by omega) hss⟩) hD2 hS hA (fun H locs hP2 hD2 hS => ?_)
  have hP : va_P D vwCl (wC cs ad am M1 N1 (outs cq o od (fo f oc) g)) H := sw3P hP2
  have hD : va_D (AL s) (wC cs ad am M1 N1 (outs cq o od (fo f oc) g)) := sw3D hD2
  refine lv_istore (lv' := [(7, .int bv), (6, .int (hN [1] oc)), (5, .int i), (0, .ref b), (1, .ref (ad 0)), (2, .ref (am 0)), (3, .ref o), (4, .ref od)]) hx hb dL_law_359 hl (by decide) rfl (fun ls hl => ?_)
  refine lv_aload_n hx hb dL_law_361 rfl (lv_at hl 5 rfl) ?_
  have hP2 := sw3P hP
  refine r_calli (r := N1 0 0) (W.runV (As := []) (rest := []) CX (ctX8_thrown l D sw cs am (wl cs LC NC ad M1 ++ outs cq o od (fo f oc) g) N1 rfl) (cwV 0 hts (gwV m4_162 m4_163 m4_164 m1_7 m4_165) rfl rfl rfl (by decide +kernel) ⟨Nat.le_of_ble_eq_true rfl, Nat.le_of_ble_eq_true rfl⟩) (rPreV (hSW.wr hS) hK hP2 (by decide) rfl rfl _) rfl rfl hl.1 rfl (lv_room (Nat.le_of_ble_eq_true rfl)) dL_law_362 ⟨Nat.le_trans (show _ ≤ cells + 16 by omega) hcs, Nat.le_trans (show _ ≤ slots + 1400 by omega) hss⟩) ?_
  refine lv_iload hx hb dL_law_365 (lv_at hl 1 rfl) ?_
  refine lv_icmp_eq (tgt := 372) hx hb dL_law_367 (by decide) (fun _ => ?_) (fun h9 => absurd ht h9)
  refine lv_iload hx hb dL_law_372 (lv_at hl 1 rfl) ?_
  rcases oc with v | k9
  · refine lv_if_ne (tgt := 389) hx hb dL_law_374 (by decide) (fun h9 => absurd rfl h9) (fun _ => ?_)
    refine lv_aload_n hx hb dL_law_377 rfl (lv_at hl 6 rfl) ?_
    refine lv_iconst (v := 0) hx hb dL_law_378 (by decide) ?_
    refine va_lald (n := 1) hx hb hKL hP (NC + (NM + 0)) 0 out_get rfl (by unfold vp_in; decide) dL_law_379 ?_
    rw [fo_0]
    refine lv_iload hx hb dL_law_380 (lv_at hl 0 rfl) ?_
    refine lv_i2l hx hb dL_law_382 rfl ?_
    refine W.lcmp hx hb dL_law_383 ?_
    refine lv_if_eq (tgt := 389) hx hb dL_law_384 (by decide) (fun _ => ?_) (fun h9 => absurd (by rw [hv v rfl]; exact lcmp_self _) h9)
    refine lv_goto (tgt := 1671) hx hb dL_law_389 (by decide) ?_
    refine W.widen (k := cells + 16) (n := slots + 1400) (by omega) (by omega) ?_
    exact kk _ _ _ _ _ hP hD hS (lv_sub hl [2, 3, 4, 5, 6, 7] rfl)
  · have hk9 := hk k9 rfl
    refine lv_if_ne (tgt := 389) hx hb dL_law_374 (by decide) (fun _ => ?_) (fun h9 => absurd h9 (hN_ne (by simpa using hk9)))
    refine lv_goto (tgt := 1671) hx hb dL_law_389 (by decide) ?_
    refine W.widen (k := cells + 16) (n := slots + 1400) (by omega) (by omega) ?_
    exact kk _ _ _ _ _ hP hD hS (lv_sub hl [2, 3, 4, 5, 6, 7] rfl)
set_option maxHeartbeats 4000000 in
set_option maxRecDepth 100000 in
theorem lc_3 {l : Launch} {p : Program} {e : Env} {s : State} {m : MethodId} {below : List Frame} {meth : Method} {c : Code} {Q : State → Prop} {b L : Nat} {xs : Nat → Int32} {D : va_G} {sw : Sw} {cs : Cs} {cq : ClassId × ClassId} (K : LK l p s m c b L xs D sw cs cq) {ad am : Nat → Nat} {M N : Mm} {o od : Nat} {f : Nat → Int64} {g : Nat → UInt64} {i x1 x2 : Int32} (hi1 : vp_in (i + 1) L) (hi2 : vp_in (i + 2) L) (hx1 : xs (i + 1).toNatClampNeg = x1) (hx2 : xs (i + 2).toNatClampNeg = x2) {oc : Int32 ⊕ Nat} {M1 N1 : Mm} {bv : Int32} (hq : gX7_done M = some (oc, M1)) (hk : ∀ k, oc = .inr k → k ∈ ([1] : List Nat)) (hm : gX8_done N = some (bv, N1)) (ht : N1 0 0 = hN [1] oc) (hv : ∀ v, oc = .inl v → v = bv) {cells slots : Nat} (hcs : cells + 16 ≤ room_1.cells) (hss : slots + 1400 ≤ room_1.slots) {H : Heap} {locs : List Loc} {ls : Array Slot} (hP : va_P D vwCl (wC cs ad am M N (outs cq o od f g)) H) (hD : va_D (AL s) (wC cs ad am M N (outs cq o od f g))) (hS : va_S (AL s) s.heap H locs) (hl : lv_has ls 9 (lLv b ad am o od i))
    (kk : ∀ (f : Nat → Int64) (g : Nat → UInt64) (H : Heap) (locs : List Loc) (ls : Array Slot), va_P D vwCl (wC cs ad am M1 N1 (outs cq o od f g)) H → va_D (AL s) (wC cs ad am M1 N1 (outs cq o od f g)) → va_S (AL s) s.heap H locs → lv_has ls 9 (lLv b ad am o od i) → W p l e room_1 s m #[Value.ref b] below meth c H locs (cells + 16) (slots + 1400) Q (F0 m 1671 ls [])) : W p l e room_1 s m #[Value.ref b] below meth c H locs cells slots Q (F0 m 392 ls []) := by
  obtain ⟨CX, hX, hbl, hK, hKL, hSW, hfl⟩ := K
  obtain ⟨hx, hb, hml, hown, hts⟩ := id CX
  have hw : ∀ w ∈ WG, w.before _ s = true := fun w h => hts w (List.mem_cons_of_mem _ h)
  have hA : ∀ q, s.heap.size ≤ q → AL s q := fun _ h => h
  have hbA : ¬ AL s b := Nat.not_le.mpr hbl
  refine lv_aload_n hx hb dL_law_392 rfl (lv_at hl 2 rfl) ?_
  refine lv_aload_n hx hb dL_law_393 rfl (lv_at hl 4 rfl) ?_
  refine va_calli (vx_runSW (As := [.ref (ad 0), .ref o]) (rest := []) CX (ctL_done l hfl D sw cs cq ad (wl cs LM NM am N ++ outs cq o od f g) H.size M  hq hk (j := NM + 0) (wx_get rfl)) (vx_cwSW 2 hts (gwW m3_127 m3_128 m1_0 WL_done) rfl rfl rfl (by decide +kernel) ⟨Nat.le_of_ble_eq_true rfl, Nat.le_of_ble_eq_true rfl⟩) (lPreS hSW hS hA hK hKL hP hD _) rfl rfl hl.1 rfl (lv_room (Nat.le_of_ble_eq_true rfl)) dL_law_394 ⟨Nat.le_trans (show _ ≤ cells + 16 by omega) hcs, Nat.le_trans (show _ ≤ slots + 1400 by omega) hss⟩) hS (fun q _ h => wA_free hD hS hA q h) (wA_free hD hS hA) (fun r u t H1 locs ht9 _ hr1 hB _ _ hS => ?_)
  subst hr1
  rw [ht9] at hB
  rw [oX_out] at hB
  have hP : va_P D vwCl (wC cs ad am M1 N (outs cq o od (fo f oc) g)) H1 := hB
  have hD : va_D (AL s) (wC cs ad am M1 N (outs cq o od (fo f oc) g)) := lawD hD
  generalize H1 = H at hP hS ⊢
  refine lv_istore (lv' := [(6, .int (hN [1] oc)), (5, .int i), (0, .ref b), (1, .ref (ad 0)), (2, .ref (am 0)), (3, .ref o), (4, .ref od)]) hx hb dL_law_397 hl (by decide) rfl (fun ls hl => ?_)
  refine lv_aload_n hx hb dL_law_399 rfl (lv_at hl 4 rfl) ?_
  have hP2 := sw3P hP
  have hD2 := sw3D hD
  refine w_calli (va_runV (As := []) (rest := []) CX (ctX8_done l D sw cs am (wl cs LC NC ad M1 ++ outs cq o od (fo f oc) g) H.size N  hm) (cwV 0 hts (gwV m5_26 m5_27 m5_28 m1_7 m5_29) rfl rfl rfl (by decide +kernel) ⟨Nat.le_of_ble_eq_true rfl, Nat.le_of_ble_eq_true rfl⟩) (wPreV hSW hS hA hK hP2 hD2 (by decide) rfl rfl _) rfl rfl hl.1 rfl (lv_room (Nat.le_of_ble_eq_true rfl)) dL_law_400 ⟨Nat.le_trans (show _ ≤ cells + 16 by omega) hcs, Nat.le_trans (show _ ≤ slots + 1400 by omega) hss⟩) hD2 hS hA (fun H locs hP2 hD2 hS => ?_)
  have hP : va_P D vwCl (wC cs ad am M1 N1 (outs cq o od (fo f oc) g)) H := sw3P hP2
  have hD : va_D (AL s) (wC cs ad am M1 N1 (outs cq o od (fo f oc) g)) := sw3D hD2
  refine lv_istore (lv' := [(7, .int bv), (6, .int (hN [1] oc)), (5, .int i), (0, .ref b), (1, .ref (ad 0)), (2, .ref (am 0)), (3, .ref o), (4, .ref od)]) hx hb dL_law_403 hl (by decide) rfl (fun ls hl => ?_)
  refine lv_aload_n hx hb dL_law_405 rfl (lv_at hl 5 rfl) ?_
  have hP2 := sw3P hP
  refine r_calli (r := N1 0 0) (W.runV (As := []) (rest := []) CX (ctX8_thrown l D sw cs am (wl cs LC NC ad M1 ++ outs cq o od (fo f oc) g) N1 rfl) (cwV 0 hts (gwV m4_162 m4_163 m4_164 m1_7 m4_165) rfl rfl rfl (by decide +kernel) ⟨Nat.le_of_ble_eq_true rfl, Nat.le_of_ble_eq_true rfl⟩) (rPreV (hSW.wr hS) hK hP2 (by decide) rfl rfl _) rfl rfl hl.1 rfl (lv_room (Nat.le_of_ble_eq_true rfl)) dL_law_406 ⟨Nat.le_trans (show _ ≤ cells + 16 by omega) hcs, Nat.le_trans (show _ ≤ slots + 1400 by omega) hss⟩) ?_
  refine lv_iload hx hb dL_law_409 (lv_at hl 1 rfl) ?_
  refine lv_icmp_eq (tgt := 416) hx hb dL_law_411 (by decide) (fun _ => ?_) (fun h9 => absurd ht h9)
  refine lv_iload hx hb dL_law_416 (lv_at hl 1 rfl) ?_
  rcases oc with v | k9
  · refine lv_if_ne (tgt := 433) hx hb dL_law_418 (by decide) (fun h9 => absurd rfl h9) (fun _ => ?_)
    refine lv_aload_n hx hb dL_law_421 rfl (lv_at hl 6 rfl) ?_
    refine lv_iconst (v := 0) hx hb dL_law_422 (by decide) ?_
    refine va_lald (n := 1) hx hb hKL hP (NC + (NM + 0)) 0 out_get rfl (by unfold vp_in; decide) dL_law_423 ?_
    rw [fo_0]
    refine lv_iload hx hb dL_law_424 (lv_at hl 0 rfl) ?_
    refine lv_i2l hx hb dL_law_426 rfl ?_
    refine W.lcmp hx hb dL_law_427 ?_
    refine lv_if_eq (tgt := 433) hx hb dL_law_428 (by decide) (fun _ => ?_) (fun h9 => absurd (by rw [hv v rfl]; exact lcmp_self _) h9)
    refine lv_goto (tgt := 1671) hx hb dL_law_433 (by decide) ?_
    refine W.widen (k := cells + 16) (n := slots + 1400) (by omega) (by omega) ?_
    exact kk _ _ _ _ _ hP hD hS (lv_sub hl [2, 3, 4, 5, 6, 7] rfl)
  · have hk9 := hk k9 rfl
    refine lv_if_ne (tgt := 433) hx hb dL_law_418 (by decide) (fun _ => ?_) (fun h9 => absurd h9 (hN_ne (by simpa using hk9)))
    refine lv_goto (tgt := 1671) hx hb dL_law_433 (by decide) ?_
    refine W.widen (k := cells + 16) (n := slots + 1400) (by omega) (by omega) ?_
    exact kk _ _ _ _ _ hP hD hS (lv_sub hl [2, 3, 4, 5, 6, 7] rfl)
set_option maxHeartbeats 4000000 in
set_option maxRecDepth 100000 in
theorem lc_4 {l : Launch} {p : Program} {e : Env} {s : State} {m : MethodId} {below : List Frame} {meth : Method} {c : Code} {Q : State → Prop} {b L : Nat} {xs : Nat → Int32} {D : va_G} {sw : Sw} {cs : Cs} {cq : ClassId × ClassId} (K : LK l p s m c b L xs D sw cs cq) {ad am : Nat → Nat} {M N : Mm} {o od : Nat} {f : Nat → Int64} {g : Nat → UInt64} {i x1 x2 : Int32} (hi1 : vp_in (i + 1) L) (hi2 : vp_in (i + 2) L) (hx1 : xs (i + 1).toNatClampNeg = x1) (hx2 : xs (i + 2).toNatClampNeg = x2) {oc : Int32 ⊕ Nat} {M1 N1 : Mm} {bv : Int32} (hq : gX7_set M x1 (if x2 = 0 then 0 else 1) = some (oc, M1)) (hk : ∀ k, oc = .inr k → k ∈ ([2, 1] : List Nat)) (hm : gX8_set N x1 (if x2 = 0 then 0 else 1) = some (bv, N1)) (ht : N1 0 0 = hN [2, 1] oc) (hv : ∀ v, oc = .inl v → v = bv) {cells slots : Nat} (hcs : cells + 16 ≤ room_1.cells) (hss : slots + 1400 ≤ room_1.slots) {H : Heap} {locs : List Loc} {ls : Array Slot} (hP : va_P D vwCl (wC cs ad am M N (outs cq o od f g)) H) (hD : va_D (AL s) (wC cs ad am M N (outs cq o od f g))) (hS : va_S (AL s) s.heap H locs) (hl : lv_has ls 9 (lLv b ad am o od i))
    (kk : ∀ (f : Nat → Int64) (g : Nat → UInt64) (H : Heap) (locs : List Loc) (ls : Array Slot), va_P D vwCl (wC cs ad am M1 N1 (outs cq o od f g)) H → va_D (AL s) (wC cs ad am M1 N1 (outs cq o od f g)) → va_S (AL s) s.heap H locs → lv_has ls 9 (lLv b ad am o od i) → W p l e room_1 s m #[Value.ref b] below meth c H locs (cells + 16) (slots + 1400) Q (F0 m 1671 ls [])) : W p l e room_1 s m #[Value.ref b] below meth c H locs cells slots Q (F0 m 436 ls []) := by
  obtain ⟨CX, hX, hbl, hK, hKL, hSW, hfl⟩ := K
  obtain ⟨hx, hb, hml, hown, hts⟩ := id CX
  have hw : ∀ w ∈ WG, w.before _ s = true := fun w h => hts w (List.mem_cons_of_mem _ h)
  have hA : ∀ q, s.heap.size ≤ q → AL s q := fun _ h => h
  have hbA : ¬ AL s b := Nat.not_le.mpr hbl
  by_cases hz : x2 = 0
  · rw [if_pos hz] at hq hm
    refine lv_aload_n hx hb dL_law_436 rfl (lv_at hl 2 rfl) ?_
    refine lv_aload_n hx hb dL_law_437 rfl (lv_at hl 1 rfl) ?_
    refine lv_iload hx hb dL_law_438 (lv_at hl 0 rfl) ?_
    refine lv_iconst (v := 1) hx hb dL_law_440 (by decide) ?_
    refine lv_iadd hx hb dL_law_441 ?_
    refine va_sld hx hb hX hbl hbA hS hi1 dL_law_442 ?_
    rw [hx1]
    refine lv_aload_n hx hb dL_law_443 rfl (lv_at hl 1 rfl) ?_
    refine lv_iload hx hb dL_law_444 (lv_at hl 0 rfl) ?_
    refine lv_iconst (v := 2) hx hb dL_law_446 (by decide) ?_
    refine lv_iadd hx hb dL_law_447 ?_
    refine va_sld hx hb hX hbl hbA hS hi2 dL_law_448 ?_
    rw [hx2]
    refine lv_if_eq (tgt := 456) hx hb dL_law_449 (by decide) (fun _ => ?_) (fun h9 => absurd hz h9)
    refine lv_iconst (v := 0) hx hb dL_law_456 (by decide) ?_
    refine lv_aload_n hx hb dL_law_457 rfl (lv_at hl 4 rfl) ?_
    refine va_calli (vx_runSW (As := [.ref (ad 0), .int x1, .int 0, .ref o]) (rest := []) CX (ctL_set l hfl D sw cs cq ad (wl cs LM NM am N ++ outs cq o od f g) H.size M (x1) (0) hq hk (j := NM + 0) (wx_get rfl)) (vx_cwSW 4 hts (gwW m3_134 m3_135 m1_0 WL_set) rfl rfl rfl (by decide +kernel) ⟨Nat.le_of_ble_eq_true rfl, Nat.le_of_ble_eq_true rfl⟩) (lPreS hSW hS hA hK hKL hP hD _) rfl rfl hl.1 rfl (lv_room (Nat.le_of_ble_eq_true rfl)) dL_law_458 ⟨Nat.le_trans (show _ ≤ cells + 16 by omega) hcs, Nat.le_trans (show _ ≤ slots + 1400 by omega) hss⟩) hS (fun q _ h => wA_free hD hS hA q h) (wA_free hD hS hA) (fun r u t H1 locs ht9 _ hr1 hB _ _ hS => ?_)
    subst hr1
    rw [ht9] at hB
    rw [oX_out] at hB
    have hP : va_P D vwCl (wC cs ad am M1 N (outs cq o od (fo f oc) g)) H1 := hB
    have hD : va_D (AL s) (wC cs ad am M1 N (outs cq o od (fo f oc) g)) := lawD hD
    generalize H1 = H at hP hS ⊢
    refine lv_istore (lv' := [(6, .int (hN [2, 1] oc)), (5, .int i), (0, .ref b), (1, .ref (ad 0)), (2, .ref (am 0)), (3, .ref o), (4, .ref od)]) hx hb dL_law_461 hl (by decide) rfl (fun ls hl => ?_)
    refine lv_aload_n hx hb dL_law_463 rfl (lv_at hl 4 rfl) ?_
    refine lv_aload_n hx hb dL_law_464 rfl (lv_at hl 2 rfl) ?_
    refine lv_iload hx hb dL_law_465 (lv_at hl 1 rfl) ?_
    refine lv_iconst (v := 1) hx hb dL_law_467 (by decide) ?_
    refine lv_iadd hx hb dL_law_468 ?_
    refine va_sld hx hb hX hbl hbA hS hi1 dL_law_469 ?_
    rw [hx1]
    refine lv_aload_n hx hb dL_law_470 rfl (lv_at hl 2 rfl) ?_
    refine lv_iload hx hb dL_law_471 (lv_at hl 1 rfl) ?_
    refine lv_iconst (v := 2) hx hb dL_law_473 (by decide) ?_
    refine lv_iadd hx hb dL_law_474 ?_
    refine va_sld hx hb hX hbl hbA hS hi2 dL_law_475 ?_
    rw [hx2]
    refine lv_if_eq (tgt := 483) hx hb dL_law_476 (by decide) (fun _ => ?_) (fun h9 => absurd hz h9)
    refine lv_iconst (v := 0) hx hb dL_law_483 (by decide) ?_
    have hP2 := sw3P hP
    have hD2 := sw3D hD
    refine w_calli (va_runV (As := [.int x1, .int 0]) (rest := []) CX (ctX8_set l D sw cs am (wl cs LC NC ad M1 ++ outs cq o od (fo f oc) g) H.size N (x1) (0) hm) (cwV 2 hts (gwV m5_30 m5_31 m5_32 m1_7 m5_33) rfl rfl rfl (by decide +kernel) ⟨Nat.le_of_ble_eq_true rfl, Nat.le_of_ble_eq_true rfl⟩) (wPreV hSW hS hA hK hP2 hD2 (by decide) rfl rfl _) rfl rfl hl.1 rfl (lv_room (Nat.le_of_ble_eq_true rfl)) dL_law_484 ⟨Nat.le_trans (show _ ≤ cells + 16 by omega) hcs, Nat.le_trans (show _ ≤ slots + 1400 by omega) hss⟩) hD2 hS hA (fun H locs hP2 hD2 hS => ?_)
    have hP : va_P D vwCl (wC cs ad am M1 N1 (outs cq o od (fo f oc) g)) H := sw3P hP2
    have hD : va_D (AL s) (wC cs ad am M1 N1 (outs cq o od (fo f oc) g)) := sw3D hD2
    refine lv_istore (lv' := [(7, .int bv), (6, .int (hN [2, 1] oc)), (5, .int i), (0, .ref b), (1, .ref (ad 0)), (2, .ref (am 0)), (3, .ref o), (4, .ref od)]) hx hb dL_law_487 hl (by decide) rfl (fun ls hl => ?_)
    refine lv_aload_n hx hb dL_law_489 rfl (lv_at hl 5 rfl) ?_
    have hP2 := sw3P hP
    refine r_calli (r := N1 0 0) (W.runV (As := []) (rest := []) CX (ctX8_thrown l D sw cs am (wl cs LC NC ad M1 ++ outs cq o od (fo f oc) g) N1 rfl) (cwV 0 hts (gwV m4_162 m4_163 m4_164 m1_7 m4_165) rfl rfl rfl (by decide +kernel) ⟨Nat.le_of_ble_eq_true rfl, Nat.le_of_ble_eq_true rfl⟩) (rPreV (hSW.wr hS) hK hP2 (by decide) rfl rfl _) rfl rfl hl.1 rfl (lv_room (Nat.le_of_ble_eq_true rfl)) dL_law_490 ⟨Nat.le_trans (show _ ≤ cells + 16 by omega) hcs, Nat.le_trans (show _ ≤ slots + 1400 by omega) hss⟩) ?_
    refine lv_iload hx hb dL_law_493 (lv_at hl 1 rfl) ?_
    refine lv_icmp_eq (tgt := 500) hx hb dL_law_495 (by decide) (fun _ => ?_) (fun h9 => absurd ht h9)
    refine lv_iload hx hb dL_law_500 (lv_at hl 1 rfl) ?_
    rcases oc with v | k9
    · refine lv_if_ne (tgt := 517) hx hb dL_law_502 (by decide) (fun h9 => absurd rfl h9) (fun _ => ?_)
      refine lv_aload_n hx hb dL_law_505 rfl (lv_at hl 6 rfl) ?_
      refine lv_iconst (v := 0) hx hb dL_law_506 (by decide) ?_
      refine va_lald (n := 1) hx hb hKL hP (NC + (NM + 0)) 0 out_get rfl (by unfold vp_in; decide) dL_law_507 ?_
      rw [fo_0]
      refine lv_iload hx hb dL_law_508 (lv_at hl 0 rfl) ?_
      refine lv_i2l hx hb dL_law_510 rfl ?_
      refine W.lcmp hx hb dL_law_511 ?_
      refine lv_if_eq (tgt := 517) hx hb dL_law_512 (by decide) (fun _ => ?_) (fun h9 => absurd (by rw [hv v rfl]; exact lcmp_self _) h9)
      refine lv_goto (tgt := 1671) hx hb dL_law_517 (by decide) ?_
      refine W.widen (k := cells + 16) (n := slots + 1400) (by omega) (by omega) ?_
      exact kk _ _ _ _ _ hP hD hS (lv_sub hl [2, 3, 4, 5, 6, 7] rfl)
    · have hk9 := hk k9 rfl
      refine lv_if_ne (tgt := 517) hx hb dL_law_502 (by decide) (fun _ => ?_) (fun h9 => absurd h9 (hN_ne (by simpa using hk9)))
      refine lv_goto (tgt := 1671) hx hb dL_law_517 (by decide) ?_
      refine W.widen (k := cells + 16) (n := slots + 1400) (by omega) (by omega) ?_
      exact kk _ _ _ _ _ hP hD hS (lv_sub hl [2, 3, 4, 5, 6, 7] rfl)
  · rw [if_neg hz] at hq hm
    refine lv_aload_n hx hb dL_law_436 rfl (lv_at hl 2 rfl) ?_
    refine lv_aload_n hx hb dL_law_437 rfl (lv_at hl 1 rfl) ?_
    refine lv_iload hx hb dL_law_438 (lv_at hl 0 rfl) ?_
    refine lv_iconst (v := 1) hx hb dL_law_440 (by decide) ?_
    refine lv_iadd hx hb dL_law_441 ?_
    refine va_sld hx hb hX hbl hbA hS hi1 dL_law_442 ?_
    rw [hx1]
    refine lv_aload_n hx hb dL_law_443 rfl (lv_at hl 1 rfl) ?_
    refine lv_iload hx hb dL_law_444 (lv_at hl 0 rfl) ?_
    refine lv_iconst (v := 2) hx hb dL_law_446 (by decide) ?_
    refine lv_iadd hx hb dL_law_447 ?_
    refine va_sld hx hb hX hbl hbA hS hi2 dL_law_448 ?_
    rw [hx2]
    refine lv_if_eq (tgt := 456) hx hb dL_law_449 (by decide) (fun h9 => absurd h9 hz) (fun _ => ?_)
    refine lv_iconst (v := 1) hx hb dL_law_452 (by decide) ?_
    refine lv_goto (tgt := 457) hx hb dL_law_453 (by decide) ?_
    refine lv_aload_n hx hb dL_law_457 rfl (lv_at hl 4 rfl) ?_
    refine va_calli (vx_runSW (As := [.ref (ad 0), .int x1, .int 1, .ref o]) (rest := []) CX (ctL_set l hfl D sw cs cq ad (wl cs LM NM am N ++ outs cq o od f g) H.size M (x1) (1) hq hk (j := NM + 0) (wx_get rfl)) (vx_cwSW 4 hts (gwW m3_134 m3_135 m1_0 WL_set) rfl rfl rfl (by decide +kernel) ⟨Nat.le_of_ble_eq_true rfl, Nat.le_of_ble_eq_true rfl⟩) (lPreS hSW hS hA hK hKL hP hD _) rfl rfl hl.1 rfl (lv_room (Nat.le_of_ble_eq_true rfl)) dL_law_458 ⟨Nat.le_trans (show _ ≤ cells + 16 by omega) hcs, Nat.le_trans (show _ ≤ slots + 1400 by omega) hss⟩) hS (fun q _ h => wA_free hD hS hA q h) (wA_free hD hS hA) (fun r u t H1 locs ht9 _ hr1 hB _ _ hS => ?_)
    subst hr1
    rw [ht9] at hB
    rw [oX_out] at hB
    have hP : va_P D vwCl (wC cs ad am M1 N (outs cq o od (fo f oc) g)) H1 := hB
    have hD : va_D (AL s) (wC cs ad am M1 N (outs cq o od (fo f oc) g)) := lawD hD
    generalize H1 = H at hP hS ⊢
    refine lv_istore (lv' := [(6, .int (hN [2, 1] oc)), (5, .int i), (0, .ref b), (1, .ref (ad 0)), (2, .ref (am 0)), (3, .ref o), (4, .ref od)]) hx hb dL_law_461 hl (by decide) rfl (fun ls hl => ?_)
    refine lv_aload_n hx hb dL_law_463 rfl (lv_at hl 4 rfl) ?_
    refine lv_aload_n hx hb dL_law_464 rfl (lv_at hl 2 rfl) ?_
    refine lv_iload hx hb dL_law_465 (lv_at hl 1 rfl) ?_
    refine lv_iconst (v := 1) hx hb dL_law_467 (by decide) ?_
    refine lv_iadd hx hb dL_law_468 ?_
    refine va_sld hx hb hX hbl hbA hS hi1 dL_law_469 ?_
    rw [hx1]
    refine lv_aload_n hx hb dL_law_470 rfl (lv_at hl 2 rfl) ?_
    refine lv_iload hx hb dL_law_471 (lv_at hl 1 rfl) ?_
    refine lv_iconst (v := 2) hx hb dL_law_473 (by decide) ?_
    refine lv_iadd hx hb dL_law_474 ?_
    refine va_sld hx hb hX hbl hbA hS hi2 dL_law_475 ?_
    rw [hx2]
    refine lv_if_eq (tgt := 483) hx hb dL_law_476 (by decide) (fun h9 => absurd h9 hz) (fun _ => ?_)
    refine lv_iconst (v := 1) hx hb dL_law_479 (by decide) ?_
    refine lv_goto (tgt := 484) hx hb dL_law_480 (by decide) ?_
    have hP2 := sw3P hP
    have hD2 := sw3D hD
    refine w_calli (va_runV (As := [.int x1, .int 1]) (rest := []) CX (ctX8_set l D sw cs am (wl cs LC NC ad M1 ++ outs cq o od (fo f oc) g) H.size N (x1) (1) hm) (cwV 2 hts (gwV m5_30 m5_31 m5_32 m1_7 m5_33) rfl rfl rfl (by decide +kernel) ⟨Nat.le_of_ble_eq_true rfl, Nat.le_of_ble_eq_true rfl⟩) (wPreV hSW hS hA hK hP2 hD2 (by decide) rfl rfl _) rfl rfl hl.1 rfl (lv_room (Nat.le_of_ble_eq_true rfl)) dL_law_484 ⟨Nat.le_trans (show _ ≤ cells + 16 by omega) hcs, Nat.le_trans (show _ ≤ slots + 1400 by omega) hss⟩) hD2 hS hA (fun H locs hP2 hD2 hS => ?_)
    have hP : va_P D vwCl (wC cs ad am M1 N1 (outs cq o od (fo f oc) g)) H := sw3P hP2
    have hD : va_D (AL s) (wC cs ad am M1 N1 (outs cq o od (fo f oc) g)) := sw3D hD2
    refine lv_istore (lv' := [(7, .int bv), (6, .int (hN [2, 1] oc)), (5, .int i), (0, .ref b), (1, .ref (ad 0)), (2, .ref (am 0)), (3, .ref o), (4, .ref od)]) hx hb dL_law_487 hl (by decide) rfl (fun ls hl => ?_)
    refine lv_aload_n hx hb dL_law_489 rfl (lv_at hl 5 rfl) ?_
    have hP2 := sw3P hP
    refine r_calli (r := N1 0 0) (W.runV (As := []) (rest := []) CX (ctX8_thrown l D sw cs am (wl cs LC NC ad M1 ++ outs cq o od (fo f oc) g) N1 rfl) (cwV 0 hts (gwV m4_162 m4_163 m4_164 m1_7 m4_165) rfl rfl rfl (by decide +kernel) ⟨Nat.le_of_ble_eq_true rfl, Nat.le_of_ble_eq_true rfl⟩) (rPreV (hSW.wr hS) hK hP2 (by decide) rfl rfl _) rfl rfl hl.1 rfl (lv_room (Nat.le_of_ble_eq_true rfl)) dL_law_490 ⟨Nat.le_trans (show _ ≤ cells + 16 by omega) hcs, Nat.le_trans (show _ ≤ slots + 1400 by omega) hss⟩) ?_
    refine lv_iload hx hb dL_law_493 (lv_at hl 1 rfl) ?_
    refine lv_icmp_eq (tgt := 500) hx hb dL_law_495 (by decide) (fun _ => ?_) (fun h9 => absurd ht h9)
    refine lv_iload hx hb dL_law_500 (lv_at hl 1 rfl) ?_
    rcases oc with v | k9
    · refine lv_if_ne (tgt := 517) hx hb dL_law_502 (by decide) (fun h9 => absurd rfl h9) (fun _ => ?_)
      refine lv_aload_n hx hb dL_law_505 rfl (lv_at hl 6 rfl) ?_
      refine lv_iconst (v := 0) hx hb dL_law_506 (by decide) ?_
      refine va_lald (n := 1) hx hb hKL hP (NC + (NM + 0)) 0 out_get rfl (by unfold vp_in; decide) dL_law_507 ?_
      rw [fo_0]
      refine lv_iload hx hb dL_law_508 (lv_at hl 0 rfl) ?_
      refine lv_i2l hx hb dL_law_510 rfl ?_
      refine W.lcmp hx hb dL_law_511 ?_
      refine lv_if_eq (tgt := 517) hx hb dL_law_512 (by decide) (fun _ => ?_) (fun h9 => absurd (by rw [hv v rfl]; exact lcmp_self _) h9)
      refine lv_goto (tgt := 1671) hx hb dL_law_517 (by decide) ?_
      refine W.widen (k := cells + 16) (n := slots + 1400) (by omega) (by omega) ?_
      exact kk _ _ _ _ _ hP hD hS (lv_sub hl [2, 3, 4, 5, 6, 7] rfl)
    · have hk9 := hk k9 rfl
      refine lv_if_ne (tgt := 517) hx hb dL_law_502 (by decide) (fun _ => ?_) (fun h9 => absurd h9 (hN_ne (by simpa using hk9)))
      refine lv_goto (tgt := 1671) hx hb dL_law_517 (by decide) ?_
      refine W.widen (k := cells + 16) (n := slots + 1400) (by omega) (by omega) ?_
      exact kk _ _ _ _ _ hP hD hS (lv_sub hl [2, 3, 4, 5, 6, 7] rfl)
set_option maxHeartbeats 4000000 in
set_option maxRecDepth 100000 in
theorem lc_5 {l : Launch} {p : Program} {e : Env} {s : State} {m : MethodId} {below : List Frame} {meth : Method} {c : Code} {Q : State → Prop} {b L : Nat} {xs : Nat → Int32} {D : va_G} {sw : Sw} {cs : Cs} {cq : ClassId × ClassId} (K : LK l p s m c b L xs D sw cs cq) {ad am : Nat → Nat} {M N : Mm} {o od : Nat} {f : Nat → Int64} {g : Nat → UInt64} {i x1 x2 : Int32} (hi1 : vp_in (i + 1) L) (hi2 : vp_in (i + 2) L) (hx1 : xs (i + 1).toNatClampNeg = x1) (hx2 : xs (i + 2).toNatClampNeg = x2) {oc : Int32 ⊕ Nat} {M1 N1 : Mm} {bv : Int32} (hq : gX7_drop M = some (oc, M1)) (hk : ∀ k, oc = .inr k → k ∈ ([1] : List Nat)) (hm : gX8_drop N = some (bv, N1)) (ht : N1 0 0 = hN [1] oc) (hv : ∀ v, oc = .inl v → v = bv) {cells slots : Nat} (hcs : cells + 16 ≤ room_1.cells) (hss : slots + 1400 ≤ room_1.slots) {H : Heap} {locs : List Loc} {ls : Array Slot} (hP : va_P D vwCl (wC cs ad am M N (outs cq o od f g)) H) (hD : va_D (AL s) (wC cs ad am M N (outs cq o od f g))) (hS : va_S (AL s) s.heap H locs) (hl : lv_has ls 9 (lLv b ad am o od i))
    (kk : ∀ (f : Nat → Int64) (g : Nat → UInt64) (H : Heap) (locs : List Loc) (ls : Array Slot), va_P D vwCl (wC cs ad am M1 N1 (outs cq o od f g)) H → va_D (AL s) (wC cs ad am M1 N1 (outs cq o od f g)) → va_S (AL s) s.heap H locs → lv_has ls 9 (lLv b ad am o od i) → W p l e room_1 s m #[Value.ref b] below meth c H locs (cells + 16) (slots + 1400) Q (F0 m 1671 ls [])) : W p l e room_1 s m #[Value.ref b] below meth c H locs cells slots Q (F0 m 520 ls []) := by
  obtain ⟨CX, hX, hbl, hK, hKL, hSW, hfl⟩ := K
  obtain ⟨hx, hb, hml, hown, hts⟩ := id CX
  have hw : ∀ w ∈ WG, w.before _ s = true := fun w h => hts w (List.mem_cons_of_mem _ h)
  have hA : ∀ q, s.heap.size ≤ q → AL s q := fun _ h => h
  have hbA : ¬ AL s b := Nat.not_le.mpr hbl
  refine lv_aload_n hx hb dL_law_520 rfl (lv_at hl 2 rfl) ?_
  refine lv_aload_n hx hb dL_law_521 rfl (lv_at hl 4 rfl) ?_
  refine va_calli (vx_runSW (As := [.ref (ad 0), .ref o]) (rest := []) CX (ctL_drop l hfl D sw cs cq ad (wl cs LM NM am N ++ outs cq o od f g) H.size M  hq hk (j := NM + 0) (wx_get rfl)) (vx_cwSW 2 hts (gwW m3_145 m3_146 m1_0 WL_drop) rfl rfl rfl (by decide +kernel) ⟨Nat.le_of_ble_eq_true rfl, Nat.le_of_ble_eq_true rfl⟩) (lPreS hSW hS hA hK hKL hP hD _) rfl rfl hl.1 rfl (lv_room (Nat.le_of_ble_eq_true rfl)) dL_law_522 ⟨Nat.le_trans (show _ ≤ cells + 16 by omega) hcs, Nat.le_trans (show _ ≤ slots + 1400 by omega) hss⟩) hS (fun q _ h => wA_free hD hS hA q h) (wA_free hD hS hA) (fun r u t H1 locs ht9 _ hr1 hB _ _ hS => ?_)
  subst hr1
  rw [ht9] at hB
  rw [oX_out] at hB
  have hP : va_P D vwCl (wC cs ad am M1 N (outs cq o od (fo f oc) g)) H1 := hB
  have hD : va_D (AL s) (wC cs ad am M1 N (outs cq o od (fo f oc) g)) := lawD hD
  generalize H1 = H at hP hS ⊢
  refine lv_istore (lv' := [(6, .int (hN [1] oc)), (5, .int i), (0, .ref b), (1, .ref (ad 0)), (2, .ref (am 0)), (3, .ref o), (4, .ref od)]) hx hb dL_law_525 hl (by decide) rfl (fun ls hl => ?_)
  refine lv_aload_n hx hb dL_law_527 rfl (lv_at hl 4 rfl) ?_
  have hP2 := sw3P hP
  have hD2 := sw3D hD
  refine w_calli (va_runV (As := []) (rest := []) CX (ctX8_drop l D sw cs am (wl cs LC NC ad M1 ++ outs cq o od (fo f oc) g) H.size N  hm) (cwV 0 hts (gwV m5_34 m5_35 m5_36 m1_7 m5_37) rfl rfl rfl (by decide +kernel) ⟨Nat.le_of_ble_eq_true rfl, Nat.le_of_ble_eq_true rfl⟩) (wPreV hSW hS hA hK hP2 hD2 (by decide) rfl rfl _) rfl rfl hl.1 rfl (lv_room (Nat.le_of_ble_eq_true rfl)) dL_law_528 ⟨Nat.le_trans (show _ ≤ cells + 16 by omega) hcs, Nat.le_trans (show _ ≤ slots + 1400 by omega) hss⟩) hD2 hS hA (fun H locs hP2 hD2 hS => ?_)
  have hP : va_P D vwCl (wC cs ad am M1 N1 (outs cq o od (fo f oc) g)) H := sw3P hP2
  have hD : va_D (AL s) (wC cs ad am M1 N1 (outs cq o od (fo f oc) g)) := sw3D hD2
  refine lv_istore (lv' := [(7, .int bv), (6, .int (hN [1] oc)), (5, .int i), (0, .ref b), (1, .ref (ad 0)), (2, .ref (am 0)), (3, .ref o), (4, .ref od)]) hx hb dL_law_531 hl (by decide) rfl (fun ls hl => ?_)
  refine lv_aload_n hx hb dL_law_533 rfl (lv_at hl 5 rfl) ?_
  have hP2 := sw3P hP
  refine r_calli (r := N1 0 0) (W.runV (As := []) (rest := []) CX (ctX8_thrown l D sw cs am (wl cs LC NC ad M1 ++ outs cq o od (fo f oc) g) N1 rfl) (cwV 0 hts (gwV m4_162 m4_163 m4_164 m1_7 m4_165) rfl rfl rfl (by decide +kernel) ⟨Nat.le_of_ble_eq_true rfl, Nat.le_of_ble_eq_true rfl⟩) (rPreV (hSW.wr hS) hK hP2 (by decide) rfl rfl _) rfl rfl hl.1 rfl (lv_room (Nat.le_of_ble_eq_true rfl)) dL_law_534 ⟨Nat.le_trans (show _ ≤ cells + 16 by omega) hcs, Nat.le_trans (show _ ≤ slots + 1400 by omega) hss⟩) ?_
  refine lv_iload hx hb dL_law_537 (lv_at hl 1 rfl) ?_
  refine lv_icmp_eq (tgt := 544) hx hb dL_law_539 (by decide) (fun _ => ?_) (fun h9 => absurd ht h9)
  refine lv_iload hx hb dL_law_544 (lv_at hl 1 rfl) ?_
  rcases oc with v | k9
  · refine lv_if_ne (tgt := 561) hx hb dL_law_546 (by decide) (fun h9 => absurd rfl h9) (fun _ => ?_)
    refine lv_aload_n hx hb dL_law_549 rfl (lv_at hl 6 rfl) ?_
    refine lv_iconst (v := 0) hx hb dL_law_550 (by decide) ?_
    refine va_lald (n := 1) hx hb hKL hP (NC + (NM + 0)) 0 out_get rfl (by unfold vp_in; decide) dL_law_551 ?_
    rw [fo_0]
    refine lv_iload hx hb dL_law_552 (lv_at hl 0 rfl) ?_
    refine lv_i2l hx hb dL_law_554 rfl ?_
    refine W.lcmp hx hb dL_law_555 ?_
    refine lv_if_eq (tgt := 561) hx hb dL_law_556 (by decide) (fun _ => ?_) (fun h9 => absurd (by rw [hv v rfl]; exact lcmp_self _) h9)
    refine lv_goto (tgt := 1671) hx hb dL_law_561 (by decide) ?_
    refine W.widen (k := cells + 16) (n := slots + 1400) (by omega) (by omega) ?_
    exact kk _ _ _ _ _ hP hD hS (lv_sub hl [2, 3, 4, 5, 6, 7] rfl)
  · have hk9 := hk k9 rfl
    refine lv_if_ne (tgt := 561) hx hb dL_law_546 (by decide) (fun _ => ?_) (fun h9 => absurd h9 (hN_ne (by simpa using hk9)))
    refine lv_goto (tgt := 1671) hx hb dL_law_561 (by decide) ?_
    refine W.widen (k := cells + 16) (n := slots + 1400) (by omega) (by omega) ?_
    exact kk _ _ _ _ _ hP hD hS (lv_sub hl [2, 3, 4, 5, 6, 7] rfl)
set_option maxHeartbeats 4000000 in
set_option maxRecDepth 100000 in
theorem lc_6 {l : Launch} {p : Program} {e : Env} {s : State} {m : MethodId} {below : List Frame} {meth : Method} {c : Code} {Q : State → Prop} {b L : Nat} {xs : Nat → Int32} {D : va_G} {sw : Sw} {cs : Cs} {cq : ClassId × ClassId} (K : LK l p s m c b L xs D sw cs cq) {ad am : Nat → Nat} {M N : Mm} {o od : Nat} {f : Nat → Int64} {g : Nat → UInt64} {i x1 x2 : Int32} (hi1 : vp_in (i + 1) L) (hi2 : vp_in (i + 2) L) (hx1 : xs (i + 1).toNatClampNeg = x1) (hx2 : xs (i + 2).toNatClampNeg = x2) {oc : Int32 ⊕ Nat} {M1 N1 : Mm} {bv : Int32} (hq : gX7_replace M x1 x2 = some (oc, M1)) (hk : ∀ k, oc = .inr k → k ∈ ([2, 1, 0] : List Nat)) (hm : gX8_replace N x1 x2 = some (bv, N1)) (ht : N1 0 0 = hN [2, 1, 0] oc) (hv : ∀ v, oc = .inl v → v = bv) {cells slots : Nat} (hcs : cells + 16 ≤ room_1.cells) (hss : slots + 1400 ≤ room_1.slots) {H : Heap} {locs : List Loc} {ls : Array Slot} (hP : va_P D vwCl (wC cs ad am M N (outs cq o od f g)) H) (hD : va_D (AL s) (wC cs ad am M N (outs cq o od f g))) (hS : va_S (AL s) s.heap H locs) (hl : lv_has ls 9 (lLv b ad am o od i))
    (kk : ∀ (f : Nat → Int64) (g : Nat → UInt64) (H : Heap) (locs : List Loc) (ls : Array Slot), va_P D vwCl (wC cs ad am M1 N1 (outs cq o od f g)) H → va_D (AL s) (wC cs ad am M1 N1 (outs cq o od f g)) → va_S (AL s) s.heap H locs → lv_has ls 9 (lLv b ad am o od i) → W p l e room_1 s m #[Value.ref b] below meth c H locs (cells + 16) (slots + 1400) Q (F0 m 1671 ls [])) : W p l e room_1 s m #[Value.ref b] below meth c H locs cells slots Q (F0 m 564 ls []) := by
  obtain ⟨CX, hX, hbl, hK, hKL, hSW, hfl⟩ := K
  obtain ⟨hx, hb, hml, hown, hts⟩ := id CX
  have hw : ∀ w ∈ WG, w.before _ s = true := fun w h => hts w (List.mem_cons_of_mem _ h)
  have hA : ∀ q, s.heap.size ≤ q → AL s q := fun _ h => h
  have hbA : ¬ AL s b := Nat.not_le.mpr hbl
  refine lv_aload_n hx hb dL_law_564 rfl (lv_at hl 2 rfl) ?_
  refine lv_aload_n hx hb dL_law_565 rfl (lv_at hl 1 rfl) ?_
  refine lv_iload hx hb dL_law_566 (lv_at hl 0 rfl) ?_
  refine lv_iconst (v := 1) hx hb dL_law_568 (by decide) ?_
  refine lv_iadd hx hb dL_law_569 ?_
  refine va_sld hx hb hX hbl hbA hS hi1 dL_law_570 ?_
  rw [hx1]
  refine lv_aload_n hx hb dL_law_571 rfl (lv_at hl 1 rfl) ?_
  refine lv_iload hx hb dL_law_572 (lv_at hl 0 rfl) ?_
  refine lv_iconst (v := 2) hx hb dL_law_574 (by decide) ?_
  refine lv_iadd hx hb dL_law_575 ?_
  refine va_sld hx hb hX hbl hbA hS hi2 dL_law_576 ?_
  rw [hx2]
  refine lv_aload_n hx hb dL_law_577 rfl (lv_at hl 4 rfl) ?_
  refine va_calli (vx_runSW (As := [.ref (ad 0), .int x1, .int x2, .ref o]) (rest := []) CX (ctL_replace l hfl D sw cs cq ad (wl cs LM NM am N ++ outs cq o od f g) H.size M (x1) (x2) hq hk (j := NM + 0) (wx_get rfl)) (vx_cwSW 4 hts (gwW m3_157 m3_158 m1_0 WL_replace) rfl rfl rfl (by decide +kernel) ⟨Nat.le_of_ble_eq_true rfl, Nat.le_of_ble_eq_true rfl⟩) (lPreS hSW hS hA hK hKL hP hD _) rfl rfl hl.1 rfl (lv_room (Nat.le_of_ble_eq_true rfl)) dL_law_578 ⟨Nat.le_trans (show _ ≤ cells + 16 by omega) hcs, Nat.le_trans (show _ ≤ slots + 1400 by omega) hss⟩) hS (fun q _ h => wA_free hD hS hA q h) (wA_free hD hS hA) (fun r u t H1 locs ht9 _ hr1 hB _ _ hS => ?_)
  subst hr1
  rw [ht9] at hB
  rw [oX_out] at hB
  have hP : va_P D vwCl (wC cs ad am M1 N (outs cq o od (fo f oc) g)) H1 := hB
  have hD : va_D (AL s) (wC cs ad am M1 N (outs cq o od (fo f oc) g)) := lawD hD
  generalize H1 = H at hP hS ⊢
  refine lv_istore (lv' := [(6, .int (hN [2, 1, 0] oc)), (5, .int i), (0, .ref b), (1, .ref (ad 0)), (2, .ref (am 0)), (3, .ref o), (4, .ref od)]) hx hb dL_law_581 hl (by decide) rfl (fun ls hl => ?_)
  refine lv_aload_n hx hb dL_law_583 rfl (lv_at hl 4 rfl) ?_
  refine lv_aload_n hx hb dL_law_584 rfl (lv_at hl 2 rfl) ?_
  refine lv_iload hx hb dL_law_585 (lv_at hl 1 rfl) ?_
  refine lv_iconst (v := 1) hx hb dL_law_587 (by decide) ?_
  refine lv_iadd hx hb dL_law_588 ?_
  refine va_sld hx hb hX hbl hbA hS hi1 dL_law_589 ?_
  rw [hx1]
  refine lv_aload_n hx hb dL_law_590 rfl (lv_at hl 2 rfl) ?_
  refine lv_iload hx hb dL_law_591 (lv_at hl 1 rfl) ?_
  refine lv_iconst (v := 2) hx hb dL_law_593 (by decide) ?_
  refine lv_iadd hx hb dL_law_594 ?_
  refine va_sld hx hb hX hbl hbA hS hi2 dL_law_595 ?_
  rw [hx2]
  have hP2 := sw3P hP
  have hD2 := sw3D hD
  refine w_calli (va_runV (As := [.int x1, .int x2]) (rest := []) CX (ctX8_replace l D sw cs am (wl cs LC NC ad M1 ++ outs cq o od (fo f oc) g) H.size N (x1) (x2) hm) (cwV 2 hts (gwV m5_38 m5_39 m5_40 m1_7 m5_41) rfl rfl rfl (by decide +kernel) ⟨Nat.le_of_ble_eq_true rfl, Nat.le_of_ble_eq_true rfl⟩) (wPreV hSW hS hA hK hP2 hD2 (by decide) rfl rfl _) rfl rfl hl.1 rfl (lv_room (Nat.le_of_ble_eq_true rfl)) dL_law_596 ⟨Nat.le_trans (show _ ≤ cells + 16 by omega) hcs, Nat.le_trans (show _ ≤ slots + 1400 by omega) hss⟩) hD2 hS hA (fun H locs hP2 hD2 hS => ?_)
  have hP : va_P D vwCl (wC cs ad am M1 N1 (outs cq o od (fo f oc) g)) H := sw3P hP2
  have hD : va_D (AL s) (wC cs ad am M1 N1 (outs cq o od (fo f oc) g)) := sw3D hD2
  refine lv_istore (lv' := [(7, .int bv), (6, .int (hN [2, 1, 0] oc)), (5, .int i), (0, .ref b), (1, .ref (ad 0)), (2, .ref (am 0)), (3, .ref o), (4, .ref od)]) hx hb dL_law_599 hl (by decide) rfl (fun ls hl => ?_)
  refine lv_aload_n hx hb dL_law_601 rfl (lv_at hl 5 rfl) ?_
  have hP2 := sw3P hP
  refine r_calli (r := N1 0 0) (W.runV (As := []) (rest := []) CX (ctX8_thrown l D sw cs am (wl cs LC NC ad M1 ++ outs cq o od (fo f oc) g) N1 rfl) (cwV 0 hts (gwV m4_162 m4_163 m4_164 m1_7 m4_165) rfl rfl rfl (by decide +kernel) ⟨Nat.le_of_ble_eq_true rfl, Nat.le_of_ble_eq_true rfl⟩) (rPreV (hSW.wr hS) hK hP2 (by decide) rfl rfl _) rfl rfl hl.1 rfl (lv_room (Nat.le_of_ble_eq_true rfl)) dL_law_602 ⟨Nat.le_trans (show _ ≤ cells + 16 by omega) hcs, Nat.le_trans (show _ ≤ slots + 1400 by omega) hss⟩) ?_
  refine lv_iload hx hb dL_law_605 (lv_at hl 1 rfl) ?_
  refine lv_icmp_eq (tgt := 612) hx hb dL_law_607 (by decide) (fun _ => ?_) (fun h9 => absurd ht h9)
  refine lv_iload hx hb dL_law_612 (lv_at hl 1 rfl) ?_
  rcases oc with v | k9
  · refine lv_if_ne (tgt := 629) hx hb dL_law_614 (by decide) (fun h9 => absurd rfl h9) (fun _ => ?_)
    refine lv_aload_n hx hb dL_law_617 rfl (lv_at hl 6 rfl) ?_
    refine lv_iconst (v := 0) hx hb dL_law_618 (by decide) ?_
    refine va_lald (n := 1) hx hb hKL hP (NC + (NM + 0)) 0 out_get rfl (by unfold vp_in; decide) dL_law_619 ?_
    rw [fo_0]
    refine lv_iload hx hb dL_law_620 (lv_at hl 0 rfl) ?_
    refine lv_i2l hx hb dL_law_622 rfl ?_
    refine W.lcmp hx hb dL_law_623 ?_
    refine lv_if_eq (tgt := 629) hx hb dL_law_624 (by decide) (fun _ => ?_) (fun h9 => absurd (by rw [hv v rfl]; exact lcmp_self _) h9)
    refine lv_goto (tgt := 1671) hx hb dL_law_629 (by decide) ?_
    refine W.widen (k := cells + 16) (n := slots + 1400) (by omega) (by omega) ?_
    exact kk _ _ _ _ _ hP hD hS (lv_sub hl [2, 3, 4, 5, 6, 7] rfl)
  · have hk9 := hk k9 rfl
    refine lv_if_ne (tgt := 629) hx hb dL_law_614 (by decide) (fun _ => ?_) (fun h9 => absurd h9 (hN_ne (by simpa using hk9)))
    refine lv_goto (tgt := 1671) hx hb dL_law_629 (by decide) ?_
    refine W.widen (k := cells + 16) (n := slots + 1400) (by omega) (by omega) ?_
    exact kk _ _ _ _ _ hP hD hS (lv_sub hl [2, 3, 4, 5, 6, 7] rfl)
set_option maxHeartbeats 4000000 in
set_option maxRecDepth 100000 in
theorem lc_7 {l : Launch} {p : Program} {e : Env} {s : State} {m : MethodId} {below : List Frame} {meth : Method} {c : Code} {Q : State → Prop} {b L : Nat} {xs : Nat → Int32} {D : va_G} {sw : Sw} {cs : Cs} {cq : ClassId × ClassId} (K : LK l p s m c b L xs D sw cs cq) {ad am : Nat → Nat} {M N : Mm} {o od : Nat} {f : Nat → Int64} {g : Nat → UInt64} {i x1 x2 : Int32} (hi1 : vp_in (i + 1) L) (hi2 : vp_in (i + 2) L) (hx1 : xs (i + 1).toNatClampNeg = x1) (hx2 : xs (i + 2).toNatClampNeg = x2) {N1 : Mm} {v bv : Int32} (hq : gX7_size M = some v) (hm : gX8_size N = some (bv, N1)) (hv : v = bv) {cells slots : Nat} (hcs : cells + 16 ≤ room_1.cells) (hss : slots + 1400 ≤ room_1.slots) {H : Heap} {locs : List Loc} {ls : Array Slot} (hP : va_P D vwCl (wC cs ad am M N (outs cq o od f g)) H) (hD : va_D (AL s) (wC cs ad am M N (outs cq o od f g))) (hS : va_S (AL s) s.heap H locs) (hl : lv_has ls 9 (lLv b ad am o od i))
    (kk : ∀ (f : Nat → Int64) (g : Nat → UInt64) (H : Heap) (locs : List Loc) (ls : Array Slot), va_P D vwCl (wC cs ad am M N1 (outs cq o od f g)) H → va_D (AL s) (wC cs ad am M N1 (outs cq o od f g)) → va_S (AL s) s.heap H locs → lv_has ls 9 (lLv b ad am o od i) → W p l e room_1 s m #[Value.ref b] below meth c H locs (cells + 16) (slots + 1400) Q (F0 m 1671 ls [])) : W p l e room_1 s m #[Value.ref b] below meth c H locs cells slots Q (F0 m 632 ls []) := by
  obtain ⟨CX, hX, hbl, hK, hKL, hSW, hfl⟩ := K
  obtain ⟨hx, hb, hml, hown, hts⟩ := id CX
  have hw : ∀ w ∈ WG, w.before _ s = true := fun w h => hts w (List.mem_cons_of_mem _ h)
  have hA : ∀ q, s.heap.size ≤ q → AL s q := fun _ h => h
  have hbA : ¬ AL s b := Nat.not_le.mpr hbl
  refine lv_aload_n hx hb dL_law_632 rfl (lv_at hl 2 rfl) ?_
  refine r_calli (r := v) (W.runV (As := []) (rest := []) CX (ctX7_size l D sw cs ad (wl cs LM NM am N ++ outs cq o od f g) M hq) (cwV 0 hts (gwV m1_177 m1_178 m1_179 m1_1 m1_180) rfl rfl rfl (by decide +kernel) ⟨Nat.le_of_ble_eq_true rfl, Nat.le_of_ble_eq_true rfl⟩) (rPreV (hSW.wr hS) hK hP (by decide) rfl rfl _) rfl rfl hl.1 rfl (lv_room (Nat.le_of_ble_eq_true rfl)) dL_law_633 ⟨Nat.le_trans (show _ ≤ cells + 16 by omega) hcs, Nat.le_trans (show _ ≤ slots + 1400 by omega) hss⟩) ?_
  refine lv_aload_n hx hb dL_law_636 rfl (lv_at hl 3 rfl) ?_
  have hP2 := sw3P hP
  have hD2 := sw3D hD
  refine w_calli (va_runV (As := []) (rest := [.int v]) CX (ctX8_size l D sw cs am (wl cs LC NC ad M ++ outs cq o od f g) H.size N  hm) (cwV 0 hts (gwV m5_50 m5_51 m5_52 m1_7 m5_53) rfl rfl rfl (by decide +kernel) ⟨Nat.le_of_ble_eq_true rfl, Nat.le_of_ble_eq_true rfl⟩) (wPreV hSW hS hA hK hP2 hD2 (by decide) rfl rfl _) rfl rfl hl.1 rfl (lv_room (Nat.le_of_ble_eq_true rfl)) dL_law_637 ⟨Nat.le_trans (show _ ≤ cells + 16 by omega) hcs, Nat.le_trans (show _ ≤ slots + 1400 by omega) hss⟩) hD2 hS hA (fun H locs hP2 hD2 hS => ?_)
  have hP : va_P D vwCl (wC cs ad am M N1 (outs cq o od f g)) H := sw3P hP2
  have hD : va_D (AL s) (wC cs ad am M N1 (outs cq o od f g)) := sw3D hD2
  refine lv_icmp_eq (tgt := 1671) hx hb dL_law_640 (by decide) (fun _ => ?_) (fun h9 => absurd hv h9)
  refine W.widen (k := cells + 16) (n := slots + 1400) (by omega) (by omega) ?_
  exact kk _ _ _ _ _ hP hD hS (lv_sub hl [0, 1, 2, 3, 4, 5] rfl)
set_option maxHeartbeats 4000000 in
set_option maxRecDepth 100000 in
theorem lc_8 {l : Launch} {p : Program} {e : Env} {s : State} {m : MethodId} {below : List Frame} {meth : Method} {c : Code} {Q : State → Prop} {b L : Nat} {xs : Nat → Int32} {D : va_G} {sw : Sw} {cs : Cs} {cq : ClassId × ClassId} (K : LK l p s m c b L xs D sw cs cq) {ad am : Nat → Nat} {M N : Mm} {o od : Nat} {f : Nat → Int64} {g : Nat → UInt64} {i x1 x2 : Int32} (hi1 : vp_in (i + 1) L) (hi2 : vp_in (i + 2) L) (hx1 : xs (i + 1).toNatClampNeg = x1) (hx2 : xs (i + 2).toNatClampNeg = x2) {oc : Int32 ⊕ Nat} {M1 N1 : Mm} {bv : Int32} (hq : gX7_item M x1 = some (oc, M1)) (hk : ∀ k, oc = .inr k → k ∈ ([2] : List Nat)) (hm : gX8_item N x1 = some (bv, N1)) (ht : N1 0 0 = hN [2] oc) (hv : ∀ v, oc = .inl v → v = bv) {cells slots : Nat} (hcs : cells + 16 ≤ room_1.cells) (hss : slots + 1400 ≤ room_1.slots) {H : Heap} {locs : List Loc} {ls : Array Slot} (hP : va_P D vwCl (wC cs ad am M N (outs cq o od f g)) H) (hD : va_D (AL s) (wC cs ad am M N (outs cq o od f g))) (hS : va_S (AL s) s.heap H locs) (hl : lv_has ls 9 (lLv b ad am o od i))
    (kk : ∀ (f : Nat → Int64) (g : Nat → UInt64) (H : Heap) (locs : List Loc) (ls : Array Slot), va_P D vwCl (wC cs ad am M1 N1 (outs cq o od f g)) H → va_D (AL s) (wC cs ad am M1 N1 (outs cq o od f g)) → va_S (AL s) s.heap H locs → lv_has ls 9 (lLv b ad am o od i) → W p l e room_1 s m #[Value.ref b] below meth c H locs (cells + 16) (slots + 1400) Q (F0 m 1671 ls [])) : W p l e room_1 s m #[Value.ref b] below meth c H locs cells slots Q (F0 m 645 ls []) := by
  obtain ⟨CX, hX, hbl, hK, hKL, hSW, hfl⟩ := K
  obtain ⟨hx, hb, hml, hown, hts⟩ := id CX
  have hw : ∀ w ∈ WG, w.before _ s = true := fun w h => hts w (List.mem_cons_of_mem _ h)
  have hA : ∀ q, s.heap.size ≤ q → AL s q := fun _ h => h
  have hbA : ¬ AL s b := Nat.not_le.mpr hbl
  refine lv_aload_n hx hb dL_law_645 rfl (lv_at hl 2 rfl) ?_
  refine lv_aload_n hx hb dL_law_646 rfl (lv_at hl 1 rfl) ?_
  refine lv_iload hx hb dL_law_647 (lv_at hl 0 rfl) ?_
  refine lv_iconst (v := 1) hx hb dL_law_649 (by decide) ?_
  refine lv_iadd hx hb dL_law_650 ?_
  refine va_sld hx hb hX hbl hbA hS hi1 dL_law_651 ?_
  rw [hx1]
  refine lv_aload_n hx hb dL_law_652 rfl (lv_at hl 4 rfl) ?_
  refine va_calli (vx_runSW (As := [.ref (ad 0), .int x1, .ref o]) (rest := []) CX (ctL_item l hfl D sw cs cq ad (wl cs LM NM am N ++ outs cq o od f g) H.size M (x1) hq hk (j := NM + 0) (wx_get rfl)) (vx_cwSW 3 hts (gwW m3_171 m3_172 m1_0 WL_item) rfl rfl rfl (by decide +kernel) ⟨Nat.le_of_ble_eq_true rfl, Nat.le_of_ble_eq_true rfl⟩) (lPreS hSW hS hA hK hKL hP hD _) rfl rfl hl.1 rfl (lv_room (Nat.le_of_ble_eq_true rfl)) dL_law_653 ⟨Nat.le_trans (show _ ≤ cells + 16 by omega) hcs, Nat.le_trans (show _ ≤ slots + 1400 by omega) hss⟩) hS (fun q _ h => wA_free hD hS hA q h) (wA_free hD hS hA) (fun r u t H1 locs ht9 _ hr1 hB _ _ hS => ?_)
  subst hr1
  rw [ht9] at hB
  rw [oX_out] at hB
  have hP : va_P D vwCl (wC cs ad am M1 N (outs cq o od (fo f oc) g)) H1 := hB
  have hD : va_D (AL s) (wC cs ad am M1 N (outs cq o od (fo f oc) g)) := lawD hD
  generalize H1 = H at hP hS ⊢
  refine lv_istore (lv' := [(6, .int (hN [2] oc)), (5, .int i), (0, .ref b), (1, .ref (ad 0)), (2, .ref (am 0)), (3, .ref o), (4, .ref od)]) hx hb dL_law_656 hl (by decide) rfl (fun ls hl => ?_)
  refine lv_aload_n hx hb dL_law_658 rfl (lv_at hl 4 rfl) ?_
  refine lv_aload_n hx hb dL_law_659 rfl (lv_at hl 2 rfl) ?_
  refine lv_iload hx hb dL_law_660 (lv_at hl 1 rfl) ?_
  refine lv_iconst (v := 1) hx hb dL_law_662 (by decide) ?_
  refine lv_iadd hx hb dL_law_663 ?_
  refine va_sld hx hb hX hbl hbA hS hi1 dL_law_664 ?_
  rw [hx1]
  have hP2 := sw3P hP
  have hD2 := sw3D hD
  refine w_calli (va_runV (As := [.int x1]) (rest := []) CX (ctX8_item l D sw cs am (wl cs LC NC ad M1 ++ outs cq o od (fo f oc) g) H.size N (x1) hm) (cwV 1 hts (gwV m5_54 m5_55 m5_56 m1_7 m5_57) rfl rfl rfl (by decide +kernel) ⟨Nat.le_of_ble_eq_true rfl, Nat.le_of_ble_eq_true rfl⟩) (wPreV hSW hS hA hK hP2 hD2 (by decide) rfl rfl _) rfl rfl hl.1 rfl (lv_room (Nat.le_of_ble_eq_true rfl)) dL_law_665 ⟨Nat.le_trans (show _ ≤ cells + 16 by omega) hcs, Nat.le_trans (show _ ≤ slots + 1400 by omega) hss⟩) hD2 hS hA (fun H locs hP2 hD2 hS => ?_)
  have hP : va_P D vwCl (wC cs ad am M1 N1 (outs cq o od (fo f oc) g)) H := sw3P hP2
  have hD : va_D (AL s) (wC cs ad am M1 N1 (outs cq o od (fo f oc) g)) := sw3D hD2
  refine lv_istore (lv' := [(7, .int bv), (6, .int (hN [2] oc)), (5, .int i), (0, .ref b), (1, .ref (ad 0)), (2, .ref (am 0)), (3, .ref o), (4, .ref od)]) hx hb dL_law_668 hl (by decide) rfl (fun ls hl => ?_)
  refine lv_aload_n hx hb dL_law_670 rfl (lv_at hl 5 rfl) ?_
  have hP2 := sw3P hP
  refine r_calli (r := N1 0 0) (W.runV (As := []) (rest := []) CX (ctX8_thrown l D sw cs am (wl cs LC NC ad M1 ++ outs cq o od (fo f oc) g) N1 rfl) (cwV 0 hts (gwV m4_162 m4_163 m4_164 m1_7 m4_165) rfl rfl rfl (by decide +kernel) ⟨Nat.le_of_ble_eq_true rfl, Nat.le_of_ble_eq_true rfl⟩) (rPreV (hSW.wr hS) hK hP2 (by decide) rfl rfl _) rfl rfl hl.1 rfl (lv_room (Nat.le_of_ble_eq_true rfl)) dL_law_671 ⟨Nat.le_trans (show _ ≤ cells + 16 by omega) hcs, Nat.le_trans (show _ ≤ slots + 1400 by omega) hss⟩) ?_
  refine lv_iload hx hb dL_law_674 (lv_at hl 1 rfl) ?_
  refine lv_icmp_eq (tgt := 681) hx hb dL_law_676 (by decide) (fun _ => ?_) (fun h9 => absurd ht h9)
  refine lv_iload hx hb dL_law_681 (lv_at hl 1 rfl) ?_
  rcases oc with v | k9
  · refine lv_if_ne (tgt := 698) hx hb dL_law_683 (by decide) (fun h9 => absurd rfl h9) (fun _ => ?_)
    refine lv_aload_n hx hb dL_law_686 rfl (lv_at hl 6 rfl) ?_
    refine lv_iconst (v := 0) hx hb dL_law_687 (by decide) ?_
    refine va_lald (n := 1) hx hb hKL hP (NC + (NM + 0)) 0 out_get rfl (by unfold vp_in; decide) dL_law_688 ?_
    rw [fo_0]
    refine lv_iload hx hb dL_law_689 (lv_at hl 0 rfl) ?_
    refine lv_i2l hx hb dL_law_691 rfl ?_
    refine W.lcmp hx hb dL_law_692 ?_
    refine lv_if_eq (tgt := 698) hx hb dL_law_693 (by decide) (fun _ => ?_) (fun h9 => absurd (by rw [hv v rfl]; exact lcmp_self _) h9)
    refine lv_goto (tgt := 1671) hx hb dL_law_698 (by decide) ?_
    refine W.widen (k := cells + 16) (n := slots + 1400) (by omega) (by omega) ?_
    exact kk _ _ _ _ _ hP hD hS (lv_sub hl [2, 3, 4, 5, 6, 7] rfl)
  · have hk9 := hk k9 rfl
    refine lv_if_ne (tgt := 698) hx hb dL_law_683 (by decide) (fun _ => ?_) (fun h9 => absurd h9 (hN_ne (by simpa using hk9)))
    refine lv_goto (tgt := 1671) hx hb dL_law_698 (by decide) ?_
    refine W.widen (k := cells + 16) (n := slots + 1400) (by omega) (by omega) ?_
    exact kk _ _ _ _ _ hP hD hS (lv_sub hl [2, 3, 4, 5, 6, 7] rfl)
set_option maxHeartbeats 4000000 in
set_option maxRecDepth 100000 in
theorem lc_9 {l : Launch} {p : Program} {e : Env} {s : State} {m : MethodId} {below : List Frame} {meth : Method} {c : Code} {Q : State → Prop} {b L : Nat} {xs : Nat → Int32} {D : va_G} {sw : Sw} {cs : Cs} {cq : ClassId × ClassId} (K : LK l p s m c b L xs D sw cs cq) {ad am : Nat → Nat} {M N : Mm} {o od : Nat} {f : Nat → Int64} {g : Nat → UInt64} {i x1 x2 : Int32} (hi1 : vp_in (i + 1) L) (hi2 : vp_in (i + 2) L) (hx1 : xs (i + 1).toNatClampNeg = x1) (hx2 : xs (i + 2).toNatClampNeg = x2) {N1 : Mm} {v bv : Int32} (hq : gX7_unfinished M = some v) (hm : gX8_unfinished N = some (bv, N1)) (hv : v = bv) {cells slots : Nat} (hcs : cells + 16 ≤ room_1.cells) (hss : slots + 1400 ≤ room_1.slots) {H : Heap} {locs : List Loc} {ls : Array Slot} (hP : va_P D vwCl (wC cs ad am M N (outs cq o od f g)) H) (hD : va_D (AL s) (wC cs ad am M N (outs cq o od f g))) (hS : va_S (AL s) s.heap H locs) (hl : lv_has ls 9 (lLv b ad am o od i))
    (kk : ∀ (f : Nat → Int64) (g : Nat → UInt64) (H : Heap) (locs : List Loc) (ls : Array Slot), va_P D vwCl (wC cs ad am M N1 (outs cq o od f g)) H → va_D (AL s) (wC cs ad am M N1 (outs cq o od f g)) → va_S (AL s) s.heap H locs → lv_has ls 9 (lLv b ad am o od i) → W p l e room_1 s m #[Value.ref b] below meth c H locs (cells + 16) (slots + 1400) Q (F0 m 1671 ls [])) : W p l e room_1 s m #[Value.ref b] below meth c H locs cells slots Q (F0 m 701 ls []) := by
  obtain ⟨CX, hX, hbl, hK, hKL, hSW, hfl⟩ := K
  obtain ⟨hx, hb, hml, hown, hts⟩ := id CX
  have hw : ∀ w ∈ WG, w.before _ s = true := fun w h => hts w (List.mem_cons_of_mem _ h)
  have hA : ∀ q, s.heap.size ≤ q → AL s q := fun _ h => h
  have hbA : ¬ AL s b := Nat.not_le.mpr hbl
  refine lv_aload_n hx hb dL_law_701 rfl (lv_at hl 2 rfl) ?_
  refine r_calli (r := v) (W.runV (As := []) (rest := []) CX (ctX7_unfinished l D sw cs ad (wl cs LM NM am N ++ outs cq o od f g) M hq) (cwV 0 hts (gwV m1_181 m1_182 m1_183 m1_1 m1_184) rfl rfl rfl (by decide +kernel) ⟨Nat.le_of_ble_eq_true rfl, Nat.le_of_ble_eq_true rfl⟩) (rPreV (hSW.wr hS) hK hP (by decide) rfl rfl _) rfl rfl hl.1 rfl (lv_room (Nat.le_of_ble_eq_true rfl)) dL_law_702 ⟨Nat.le_trans (show _ ≤ cells + 16 by omega) hcs, Nat.le_trans (show _ ≤ slots + 1400 by omega) hss⟩) ?_
  refine lv_aload_n hx hb dL_law_705 rfl (lv_at hl 3 rfl) ?_
  have hP2 := sw3P hP
  have hD2 := sw3D hD
  refine w_calli (va_runV (As := []) (rest := [.int v]) CX (ctX8_unfinished l D sw cs am (wl cs LC NC ad M ++ outs cq o od f g) H.size N  hm) (cwV 0 hts (gwV m5_58 m5_59 m5_60 m1_7 m5_61) rfl rfl rfl (by decide +kernel) ⟨Nat.le_of_ble_eq_true rfl, Nat.le_of_ble_eq_true rfl⟩) (wPreV hSW hS hA hK hP2 hD2 (by decide) rfl rfl _) rfl rfl hl.1 rfl (lv_room (Nat.le_of_ble_eq_true rfl)) dL_law_706 ⟨Nat.le_trans (show _ ≤ cells + 16 by omega) hcs, Nat.le_trans (show _ ≤ slots + 1400 by omega) hss⟩) hD2 hS hA (fun H locs hP2 hD2 hS => ?_)
  have hP : va_P D vwCl (wC cs ad am M N1 (outs cq o od f g)) H := sw3P hP2
  have hD : va_D (AL s) (wC cs ad am M N1 (outs cq o od f g)) := sw3D hD2
  refine lv_icmp_eq (tgt := 1671) hx hb dL_law_709 (by decide) (fun _ => ?_) (fun h9 => absurd hv h9)
  refine W.widen (k := cells + 16) (n := slots + 1400) (by omega) (by omega) ?_
  exact kk _ _ _ _ _ hP hD hS (lv_sub hl [0, 1, 2, 3, 4, 5] rfl)
set_option maxHeartbeats 4000000 in
set_option maxRecDepth 100000 in
theorem lc_10 {l : Launch} {p : Program} {e : Env} {s : State} {m : MethodId} {below : List Frame} {meth : Method} {c : Code} {Q : State → Prop} {b L : Nat} {xs : Nat → Int32} {D : va_G} {sw : Sw} {cs : Cs} {cq : ClassId × ClassId} (K : LK l p s m c b L xs D sw cs cq) {ad am : Nat → Nat} {M N : Mm} {o od : Nat} {f : Nat → Int64} {g : Nat → UInt64} {i x1 x2 : Int32} (hi1 : vp_in (i + 1) L) (hi2 : vp_in (i + 2) L) (hx1 : xs (i + 1).toNatClampNeg = x1) (hx2 : xs (i + 2).toNatClampNeg = x2) {oc : Int32 ⊕ Nat} {M1 N1 : Mm} {bv : Int32} (hq : gX7_presence M x1 = some (oc, M1)) (hk : ∀ k, oc = .inr k → k ∈ ([2] : List Nat)) (hm : gX8_presence N x1 = some (bv, N1)) (ht : N1 0 0 = hN [2] oc) (hv : ∀ v, oc = .inl v → v = bv) {cells slots : Nat} (hcs : cells + 16 ≤ room_1.cells) (hss : slots + 1400 ≤ room_1.slots) {H : Heap} {locs : List Loc} {ls : Array Slot} (hP : va_P D vwCl (wC cs ad am M N (outs cq o od f g)) H) (hD : va_D (AL s) (wC cs ad am M N (outs cq o od f g))) (hS : va_S (AL s) s.heap H locs) (hl : lv_has ls 9 (lLv b ad am o od i))
    (kk : ∀ (f : Nat → Int64) (g : Nat → UInt64) (H : Heap) (locs : List Loc) (ls : Array Slot), va_P D vwCl (wC cs ad am M1 N1 (outs cq o od f g)) H → va_D (AL s) (wC cs ad am M1 N1 (outs cq o od f g)) → va_S (AL s) s.heap H locs → lv_has ls 9 (lLv b ad am o od i) → W p l e room_1 s m #[Value.ref b] below meth c H locs (cells + 16) (slots + 1400) Q (F0 m 1671 ls [])) : W p l e room_1 s m #[Value.ref b] below meth c H locs cells slots Q (F0 m 714 ls []) := by
  obtain ⟨CX, hX, hbl, hK, hKL, hSW, hfl⟩ := K
  obtain ⟨hx, hb, hml, hown, hts⟩ := id CX
  have hw : ∀ w ∈ WG, w.before _ s = true := fun w h => hts w (List.mem_cons_of_mem _ h)
  have hA : ∀ q, s.heap.size ≤ q → AL s q := fun _ h => h
  have hbA : ¬ AL s b := Nat.not_le.mpr hbl
  refine lv_aload_n hx hb dL_law_714 rfl (lv_at hl 2 rfl) ?_
  refine lv_aload_n hx hb dL_law_715 rfl (lv_at hl 1 rfl) ?_
  refine lv_iload hx hb dL_law_716 (lv_at hl 0 rfl) ?_
  refine lv_iconst (v := 1) hx hb dL_law_718 (by decide) ?_
  refine lv_iadd hx hb dL_law_719 ?_
  refine va_sld hx hb hX hbl hbA hS hi1 dL_law_720 ?_
  rw [hx1]
  refine lv_aload_n hx hb dL_law_721 rfl (lv_at hl 4 rfl) ?_
  refine va_calli (vx_runSW (As := [.ref (ad 0), .int x1, .ref o]) (rest := []) CX (ctL_presence l hfl D sw cs cq ad (wl cs LM NM am N ++ outs cq o od f g) H.size M (x1) hq hk (j := NM + 0) (wx_get rfl)) (vx_cwSW 3 hts (gwW m3_178 m3_179 m1_0 WL_presence) rfl rfl rfl (by decide +kernel) ⟨Nat.le_of_ble_eq_true rfl, Nat.le_of_ble_eq_true rfl⟩) (lPreS hSW hS hA hK hKL hP hD _) rfl rfl hl.1 rfl (lv_room (Nat.le_of_ble_eq_true rfl)) dL_law_722 ⟨Nat.le_trans (show _ ≤ cells + 16 by omega) hcs, Nat.le_trans (show _ ≤ slots + 1400 by omega) hss⟩) hS (fun q _ h => wA_free hD hS hA q h) (wA_free hD hS hA) (fun r u t H1 locs ht9 _ hr1 hB _ _ hS => ?_)
  subst hr1
  rw [ht9] at hB
  rw [oX_out] at hB
  have hP : va_P D vwCl (wC cs ad am M1 N (outs cq o od (fo f oc) g)) H1 := hB
  have hD : va_D (AL s) (wC cs ad am M1 N (outs cq o od (fo f oc) g)) := lawD hD
  generalize H1 = H at hP hS ⊢
  refine lv_istore (lv' := [(6, .int (hN [2] oc)), (5, .int i), (0, .ref b), (1, .ref (ad 0)), (2, .ref (am 0)), (3, .ref o), (4, .ref od)]) hx hb dL_law_725 hl (by decide) rfl (fun ls hl => ?_)
  refine lv_aload_n hx hb dL_law_727 rfl (lv_at hl 4 rfl) ?_
  refine lv_aload_n hx hb dL_law_728 rfl (lv_at hl 2 rfl) ?_
  refine lv_iload hx hb dL_law_729 (lv_at hl 1 rfl) ?_
  refine lv_iconst (v := 1) hx hb dL_law_731 (by decide) ?_
  refine lv_iadd hx hb dL_law_732 ?_
  refine va_sld hx hb hX hbl hbA hS hi1 dL_law_733 ?_
  rw [hx1]
  have hP2 := sw3P hP
  have hD2 := sw3D hD
  refine w_calli (va_runV (As := [.int x1]) (rest := []) CX (ctX8_presence l D sw cs am (wl cs LC NC ad M1 ++ outs cq o od (fo f oc) g) H.size N (x1) hm) (cwV 1 hts (gwV m5_62 m5_63 m5_64 m1_7 m5_65) rfl rfl rfl (by decide +kernel) ⟨Nat.le_of_ble_eq_true rfl, Nat.le_of_ble_eq_true rfl⟩) (wPreV hSW hS hA hK hP2 hD2 (by decide) rfl rfl _) rfl rfl hl.1 rfl (lv_room (Nat.le_of_ble_eq_true rfl)) dL_law_734 ⟨Nat.le_trans (show _ ≤ cells + 16 by omega) hcs, Nat.le_trans (show _ ≤ slots + 1400 by omega) hss⟩) hD2 hS hA (fun H locs hP2 hD2 hS => ?_)
  have hP : va_P D vwCl (wC cs ad am M1 N1 (outs cq o od (fo f oc) g)) H := sw3P hP2
  have hD : va_D (AL s) (wC cs ad am M1 N1 (outs cq o od (fo f oc) g)) := sw3D hD2
  refine lv_istore (lv' := [(7, .int bv), (6, .int (hN [2] oc)), (5, .int i), (0, .ref b), (1, .ref (ad 0)), (2, .ref (am 0)), (3, .ref o), (4, .ref od)]) hx hb dL_law_737 hl (by decide) rfl (fun ls hl => ?_)
  refine lv_aload_n hx hb dL_law_739 rfl (lv_at hl 5 rfl) ?_
  have hP2 := sw3P hP
  refine r_calli (r := N1 0 0) (W.runV (As := []) (rest := []) CX (ctX8_thrown l D sw cs am (wl cs LC NC ad M1 ++ outs cq o od (fo f oc) g) N1 rfl) (cwV 0 hts (gwV m4_162 m4_163 m4_164 m1_7 m4_165) rfl rfl rfl (by decide +kernel) ⟨Nat.le_of_ble_eq_true rfl, Nat.le_of_ble_eq_true rfl⟩) (rPreV (hSW.wr hS) hK hP2 (by decide) rfl rfl _) rfl rfl hl.1 rfl (lv_room (Nat.le_of_ble_eq_true rfl)) dL_law_740 ⟨Nat.le_trans (show _ ≤ cells + 16 by omega) hcs, Nat.le_trans (show _ ≤ slots + 1400 by omega) hss⟩) ?_
  refine lv_iload hx hb dL_law_743 (lv_at hl 1 rfl) ?_
  refine lv_icmp_eq (tgt := 750) hx hb dL_law_745 (by decide) (fun _ => ?_) (fun h9 => absurd ht h9)
  refine lv_iload hx hb dL_law_750 (lv_at hl 1 rfl) ?_
  rcases oc with v | k9
  · refine lv_if_ne (tgt := 767) hx hb dL_law_752 (by decide) (fun h9 => absurd rfl h9) (fun _ => ?_)
    refine lv_aload_n hx hb dL_law_755 rfl (lv_at hl 6 rfl) ?_
    refine lv_iconst (v := 0) hx hb dL_law_756 (by decide) ?_
    refine va_lald (n := 1) hx hb hKL hP (NC + (NM + 0)) 0 out_get rfl (by unfold vp_in; decide) dL_law_757 ?_
    rw [fo_0]
    refine lv_iload hx hb dL_law_758 (lv_at hl 0 rfl) ?_
    refine lv_i2l hx hb dL_law_760 rfl ?_
    refine W.lcmp hx hb dL_law_761 ?_
    refine lv_if_eq (tgt := 767) hx hb dL_law_762 (by decide) (fun _ => ?_) (fun h9 => absurd (by rw [hv v rfl]; exact lcmp_self _) h9)
    refine lv_goto (tgt := 1671) hx hb dL_law_767 (by decide) ?_
    refine W.widen (k := cells + 16) (n := slots + 1400) (by omega) (by omega) ?_
    exact kk _ _ _ _ _ hP hD hS (lv_sub hl [2, 3, 4, 5, 6, 7] rfl)
  · have hk9 := hk k9 rfl
    refine lv_if_ne (tgt := 767) hx hb dL_law_752 (by decide) (fun _ => ?_) (fun h9 => absurd h9 (hN_ne (by simpa using hk9)))
    refine lv_goto (tgt := 1671) hx hb dL_law_767 (by decide) ?_
    refine W.widen (k := cells + 16) (n := slots + 1400) (by omega) (by omega) ?_
    exact kk _ _ _ _ _ hP hD hS (lv_sub hl [2, 3, 4, 5, 6, 7] rfl)
set_option maxHeartbeats 4000000 in
set_option maxRecDepth 100000 in
theorem lc_11 {l : Launch} {p : Program} {e : Env} {s : State} {m : MethodId} {below : List Frame} {meth : Method} {c : Code} {Q : State → Prop} {b L : Nat} {xs : Nat → Int32} {D : va_G} {sw : Sw} {cs : Cs} {cq : ClassId × ClassId} (K : LK l p s m c b L xs D sw cs cq) {ad am : Nat → Nat} {M N : Mm} {o od : Nat} {f : Nat → Int64} {g : Nat → UInt64} {i x1 x2 : Int32} (hi1 : vp_in (i + 1) L) (hi2 : vp_in (i + 2) L) (hx1 : xs (i + 1).toNatClampNeg = x1) (hx2 : xs (i + 2).toNatClampNeg = x2) {oc : Int32 ⊕ Nat} {M1 N1 : Mm} {bv : Int32} (hq : gX7_on M x1 x2 = some (oc, M1)) (hk : ∀ k, oc = .inr k → k ∈ ([2] : List Nat)) (hm : gX8_on N x1 x2 = some (bv, N1)) (ht : N1 0 0 = hN [2] oc) (hv : ∀ v, oc = .inl v → v = bv) {cells slots : Nat} (hcs : cells + 16 ≤ room_1.cells) (hss : slots + 1400 ≤ room_1.slots) {H : Heap} {locs : List Loc} {ls : Array Slot} (hP : va_P D vwCl (wC cs ad am M N (outs cq o od f g)) H) (hD : va_D (AL s) (wC cs ad am M N (outs cq o od f g))) (hS : va_S (AL s) s.heap H locs) (hl : lv_has ls 9 (lLv b ad am o od i))
    (kk : ∀ (f : Nat → Int64) (g : Nat → UInt64) (H : Heap) (locs : List Loc) (ls : Array Slot), va_P D vwCl (wC cs ad am M1 N1 (outs cq o od f g)) H → va_D (AL s) (wC cs ad am M1 N1 (outs cq o od f g)) → va_S (AL s) s.heap H locs → lv_has ls 9 (lLv b ad am o od i) → W p l e room_1 s m #[Value.ref b] below meth c H locs (cells + 16) (slots + 1400) Q (F0 m 1671 ls [])) : W p l e room_1 s m #[Value.ref b] below meth c H locs cells slots Q (F0 m 770 ls []) := by
  obtain ⟨CX, hX, hbl, hK, hKL, hSW, hfl⟩ := K
  obtain ⟨hx, hb, hml, hown, hts⟩ := id CX
  have hw : ∀ w ∈ WG, w.before _ s = true := fun w h => hts w (List.mem_cons_of_mem _ h)
  have hA : ∀ q, s.heap.size ≤ q → AL s q := fun _ h => h
  have hbA : ¬ AL s b := Nat.not_le.mpr hbl
  refine lv_aload_n hx hb dL_law_770 rfl (lv_at hl 2 rfl) ?_
  refine lv_aload_n hx hb dL_law_771 rfl (lv_at hl 1 rfl) ?_
  refine lv_iload hx hb dL_law_772 (lv_at hl 0 rfl) ?_
  refine lv_iconst (v := 1) hx hb dL_law_774 (by decide) ?_
  refine lv_iadd hx hb dL_law_775 ?_
  refine va_sld hx hb hX hbl hbA hS hi1 dL_law_776 ?_
  rw [hx1]
  refine lv_aload_n hx hb dL_law_777 rfl (lv_at hl 1 rfl) ?_
  refine lv_iload hx hb dL_law_778 (lv_at hl 0 rfl) ?_
  refine lv_iconst (v := 2) hx hb dL_law_780 (by decide) ?_
  refine lv_iadd hx hb dL_law_781 ?_
  refine va_sld hx hb hX hbl hbA hS hi2 dL_law_782 ?_
  rw [hx2]
  refine lv_aload_n hx hb dL_law_783 rfl (lv_at hl 4 rfl) ?_
  refine va_calli (vx_runSW (As := [.ref (ad 0), .int x1, .int x2, .ref o]) (rest := []) CX (ctL_on l hfl D sw cs cq ad (wl cs LM NM am N ++ outs cq o od f g) H.size M (x1) (x2) hq hk (j := NM + 0) (wx_get rfl)) (vx_cwSW 4 hts (gwW m3_185 m3_186 m1_0 WL_on) rfl rfl rfl (by decide +kernel) ⟨Nat.le_of_ble_eq_true rfl, Nat.le_of_ble_eq_true rfl⟩) (lPreS hSW hS hA hK hKL hP hD _) rfl rfl hl.1 rfl (lv_room (Nat.le_of_ble_eq_true rfl)) dL_law_784 ⟨Nat.le_trans (show _ ≤ cells + 16 by omega) hcs, Nat.le_trans (show _ ≤ slots + 1400 by omega) hss⟩) hS (fun q _ h => wA_free hD hS hA q h) (wA_free hD hS hA) (fun r u t H1 locs ht9 _ hr1 hB _ _ hS => ?_)
  subst hr1
  rw [ht9] at hB
  rw [oX_out] at hB
  have hP : va_P D vwCl (wC cs ad am M1 N (outs cq o od (fo f oc) g)) H1 := hB
  have hD : va_D (AL s) (wC cs ad am M1 N (outs cq o od (fo f oc) g)) := lawD hD
  generalize H1 = H at hP hS ⊢
  refine lv_istore (lv' := [(6, .int (hN [2] oc)), (5, .int i), (0, .ref b), (1, .ref (ad 0)), (2, .ref (am 0)), (3, .ref o), (4, .ref od)]) hx hb dL_law_787 hl (by decide) rfl (fun ls hl => ?_)
  refine lv_aload_n hx hb dL_law_789 rfl (lv_at hl 4 rfl) ?_
  refine lv_aload_n hx hb dL_law_790 rfl (lv_at hl 2 rfl) ?_
  refine lv_iload hx hb dL_law_791 (lv_at hl 1 rfl) ?_
  refine lv_iconst (v := 1) hx hb dL_law_793 (by decide) ?_
  refine lv_iadd hx hb dL_law_794 ?_
  refine va_sld hx hb hX hbl hbA hS hi1 dL_law_795 ?_
  rw [hx1]
  refine lv_aload_n hx hb dL_law_796 rfl (lv_at hl 2 rfl) ?_
  refine lv_iload hx hb dL_law_797 (lv_at hl 1 rfl) ?_
  refine lv_iconst (v := 2) hx hb dL_law_799 (by decide) ?_
  refine lv_iadd hx hb dL_law_800 ?_
  refine va_sld hx hb hX hbl hbA hS hi2 dL_law_801 ?_
  rw [hx2]
  have hP2 := sw3P hP
  have hD2 := sw3D hD
  refine w_calli (va_runV (As := [.int x1, .int x2]) (rest := []) CX (ctX8_on l D sw cs am (wl cs LC NC ad M1 ++ outs cq o od (fo f oc) g) H.size N (x1) (x2) hm) (cwV 2 hts (gwV m5_74 m5_75 m5_76 m1_7 m5_77) rfl rfl rfl (by decide +kernel) ⟨Nat.le_of_ble_eq_true rfl, Nat.le_of_ble_eq_true rfl⟩) (wPreV hSW hS hA hK hP2 hD2 (by decide) rfl rfl _) rfl rfl hl.1 rfl (lv_room (Nat.le_of_ble_eq_true rfl)) dL_law_802 ⟨Nat.le_trans (show _ ≤ cells + 16 by omega) hcs, Nat.le_trans (show _ ≤ slots + 1400 by omega) hss⟩) hD2 hS hA (fun H locs hP2 hD2 hS => ?_)
  have hP : va_P D vwCl (wC cs ad am M1 N1 (outs cq o od (fo f oc) g)) H := sw3P hP2
  have hD : va_D (AL s) (wC cs ad am M1 N1 (outs cq o od (fo f oc) g)) := sw3D hD2
  refine lv_istore (lv' := [(7, .int bv), (6, .int (hN [2] oc)), (5, .int i), (0, .ref b), (1, .ref (ad 0)), (2, .ref (am 0)), (3, .ref o), (4, .ref od)]) hx hb dL_law_805 hl (by decide) rfl (fun ls hl => ?_)
  refine lv_aload_n hx hb dL_law_807 rfl (lv_at hl 5 rfl) ?_
  have hP2 := sw3P hP
  refine r_calli (r := N1 0 0) (W.runV (As := []) (rest := []) CX (ctX8_thrown l D sw cs am (wl cs LC NC ad M1 ++ outs cq o od (fo f oc) g) N1 rfl) (cwV 0 hts (gwV m4_162 m4_163 m4_164 m1_7 m4_165) rfl rfl rfl (by decide +kernel) ⟨Nat.le_of_ble_eq_true rfl, Nat.le_of_ble_eq_true rfl⟩) (rPreV (hSW.wr hS) hK hP2 (by decide) rfl rfl _) rfl rfl hl.1 rfl (lv_room (Nat.le_of_ble_eq_true rfl)) dL_law_808 ⟨Nat.le_trans (show _ ≤ cells + 16 by omega) hcs, Nat.le_trans (show _ ≤ slots + 1400 by omega) hss⟩) ?_
  refine lv_iload hx hb dL_law_811 (lv_at hl 1 rfl) ?_
  refine lv_icmp_eq (tgt := 818) hx hb dL_law_813 (by decide) (fun _ => ?_) (fun h9 => absurd ht h9)
  refine lv_iload hx hb dL_law_818 (lv_at hl 1 rfl) ?_
  rcases oc with v | k9
  · refine lv_if_ne (tgt := 835) hx hb dL_law_820 (by decide) (fun h9 => absurd rfl h9) (fun _ => ?_)
    refine lv_aload_n hx hb dL_law_823 rfl (lv_at hl 6 rfl) ?_
    refine lv_iconst (v := 0) hx hb dL_law_824 (by decide) ?_
    refine va_lald (n := 1) hx hb hKL hP (NC + (NM + 0)) 0 out_get rfl (by unfold vp_in; decide) dL_law_825 ?_
    rw [fo_0]
    refine lv_iload hx hb dL_law_826 (lv_at hl 0 rfl) ?_
    refine lv_i2l hx hb dL_law_828 rfl ?_
    refine W.lcmp hx hb dL_law_829 ?_
    refine lv_if_eq (tgt := 835) hx hb dL_law_830 (by decide) (fun _ => ?_) (fun h9 => absurd (by rw [hv v rfl]; exact lcmp_self _) h9)
    refine lv_goto (tgt := 1671) hx hb dL_law_835 (by decide) ?_
    refine W.widen (k := cells + 16) (n := slots + 1400) (by omega) (by omega) ?_
    exact kk _ _ _ _ _ hP hD hS (lv_sub hl [2, 3, 4, 5, 6, 7] rfl)
  · have hk9 := hk k9 rfl
    refine lv_if_ne (tgt := 835) hx hb dL_law_820 (by decide) (fun _ => ?_) (fun h9 => absurd h9 (hN_ne (by simpa using hk9)))
    refine lv_goto (tgt := 1671) hx hb dL_law_835 (by decide) ?_
    refine W.widen (k := cells + 16) (n := slots + 1400) (by omega) (by omega) ?_
    exact kk _ _ _ _ _ hP hD hS (lv_sub hl [2, 3, 4, 5, 6, 7] rfl)
set_option maxHeartbeats 4000000 in
set_option maxRecDepth 100000 in
theorem lc_12 {l : Launch} {p : Program} {e : Env} {s : State} {m : MethodId} {below : List Frame} {meth : Method} {c : Code} {Q : State → Prop} {b L : Nat} {xs : Nat → Int32} {D : va_G} {sw : Sw} {cs : Cs} {cq : ClassId × ClassId} (K : LK l p s m c b L xs D sw cs cq) {ad am : Nat → Nat} {M N : Mm} {o od : Nat} {f : Nat → Int64} {g : Nat → UInt64} {i x1 x2 : Int32} (hi1 : vp_in (i + 1) L) (hi2 : vp_in (i + 2) L) (hx1 : xs (i + 1).toNatClampNeg = x1) (hx2 : xs (i + 2).toNatClampNeg = x2) {oc : Int32 ⊕ Nat} {M1 N1 : Mm} {bv : Int32} (hq : gX7_features M x1 = some (oc, M1)) (hk : ∀ k, oc = .inr k → k ∈ ([0] : List Nat)) (hm : gX8_features N x1 = some (bv, N1)) (ht : N1 0 0 = hN [0] oc) (hv : ∀ v, oc = .inl v → v = bv) {cells slots : Nat} (hcs : cells + 16 ≤ room_1.cells) (hss : slots + 1400 ≤ room_1.slots) {H : Heap} {locs : List Loc} {ls : Array Slot} (hP : va_P D vwCl (wC cs ad am M N (outs cq o od f g)) H) (hD : va_D (AL s) (wC cs ad am M N (outs cq o od f g))) (hS : va_S (AL s) s.heap H locs) (hl : lv_has ls 9 (lLv b ad am o od i))
    (kk : ∀ (f : Nat → Int64) (g : Nat → UInt64) (H : Heap) (locs : List Loc) (ls : Array Slot), va_P D vwCl (wC cs ad am M1 N1 (outs cq o od f g)) H → va_D (AL s) (wC cs ad am M1 N1 (outs cq o od f g)) → va_S (AL s) s.heap H locs → lv_has ls 9 (lLv b ad am o od i) → W p l e room_1 s m #[Value.ref b] below meth c H locs (cells + 16) (slots + 1400) Q (F0 m 1671 ls [])) : W p l e room_1 s m #[Value.ref b] below meth c H locs cells slots Q (F0 m 838 ls []) := by
  obtain ⟨CX, hX, hbl, hK, hKL, hSW, hfl⟩ := K
  obtain ⟨hx, hb, hml, hown, hts⟩ := id CX
  have hw : ∀ w ∈ WG, w.before _ s = true := fun w h => hts w (List.mem_cons_of_mem _ h)
  have hA : ∀ q, s.heap.size ≤ q → AL s q := fun _ h => h
  have hbA : ¬ AL s b := Nat.not_le.mpr hbl
  refine lv_aload_n hx hb dL_law_838 rfl (lv_at hl 2 rfl) ?_
  refine lv_aload_n hx hb dL_law_839 rfl (lv_at hl 1 rfl) ?_
  refine lv_iload hx hb dL_law_840 (lv_at hl 0 rfl) ?_
  refine lv_iconst (v := 1) hx hb dL_law_842 (by decide) ?_
  refine lv_iadd hx hb dL_law_843 ?_
  refine va_sld hx hb hX hbl hbA hS hi1 dL_law_844 ?_
  rw [hx1]
  refine lv_aload_n hx hb dL_law_845 rfl (lv_at hl 4 rfl) ?_
  refine va_calli (vx_runSW (As := [.ref (ad 0), .int x1, .ref o]) (rest := []) CX (ctL_features l hfl D sw cs cq ad (wl cs LM NM am N ++ outs cq o od f g) H.size M (x1) hq hk (j := NM + 0) (wx_get rfl)) (vx_cwSW 3 hts (gwW m3_192 m3_193 m1_0 WL_features) rfl rfl rfl (by decide +kernel) ⟨Nat.le_of_ble_eq_true rfl, Nat.le_of_ble_eq_true rfl⟩) (lPreS hSW hS hA hK hKL hP hD _) rfl rfl hl.1 rfl (lv_room (Nat.le_of_ble_eq_true rfl)) dL_law_846 ⟨Nat.le_trans (show _ ≤ cells + 16 by omega) hcs, Nat.le_trans (show _ ≤ slots + 1400 by omega) hss⟩) hS (fun q _ h => wA_free hD hS hA q h) (wA_free hD hS hA) (fun r u t H1 locs ht9 _ hr1 hB _ _ hS => ?_)
  subst hr1
  rw [ht9] at hB
  rw [oX_out] at hB
  have hP : va_P D vwCl (wC cs ad am M1 N (outs cq o od (fo f oc) g)) H1 := hB
  have hD : va_D (AL s) (wC cs ad am M1 N (outs cq o od (fo f oc) g)) := lawD hD
  generalize H1 = H at hP hS ⊢
  refine lv_istore (lv' := [(6, .int (hN [0] oc)), (5, .int i), (0, .ref b), (1, .ref (ad 0)), (2, .ref (am 0)), (3, .ref o), (4, .ref od)]) hx hb dL_law_849 hl (by decide) rfl (fun ls hl => ?_)
  refine lv_aload_n hx hb dL_law_851 rfl (lv_at hl 4 rfl) ?_
  refine lv_aload_n hx hb dL_law_852 rfl (lv_at hl 2 rfl) ?_
  refine lv_iload hx hb dL_law_853 (lv_at hl 1 rfl) ?_
  refine lv_iconst (v := 1) hx hb dL_law_855 (by decide) ?_
  refine lv_iadd hx hb dL_law_856 ?_
  refine va_sld hx hb hX hbl hbA hS hi1 dL_law_857 ?_
  rw [hx1]
  have hP2 := sw3P hP
  have hD2 := sw3D hD
  refine w_calli (va_runV (As := [.int x1]) (rest := []) CX (ctX8_features l D sw cs am (wl cs LC NC ad M1 ++ outs cq o od (fo f oc) g) H.size N (x1) hm) (cwV 1 hts (gwV m5_78 m5_79 m5_80 m1_7 m5_81) rfl rfl rfl (by decide +kernel) ⟨Nat.le_of_ble_eq_true rfl, Nat.le_of_ble_eq_true rfl⟩) (wPreV hSW hS hA hK hP2 hD2 (by decide) rfl rfl _) rfl rfl hl.1 rfl (lv_room (Nat.le_of_ble_eq_true rfl)) dL_law_858 ⟨Nat.le_trans (show _ ≤ cells + 16 by omega) hcs, Nat.le_trans (show _ ≤ slots + 1400 by omega) hss⟩) hD2 hS hA (fun H locs hP2 hD2 hS => ?_)
  have hP : va_P D vwCl (wC cs ad am M1 N1 (outs cq o od (fo f oc) g)) H := sw3P hP2
  have hD : va_D (AL s) (wC cs ad am M1 N1 (outs cq o od (fo f oc) g)) := sw3D hD2
  refine lv_istore (lv' := [(7, .int bv), (6, .int (hN [0] oc)), (5, .int i), (0, .ref b), (1, .ref (ad 0)), (2, .ref (am 0)), (3, .ref o), (4, .ref od)]) hx hb dL_law_861 hl (by decide) rfl (fun ls hl => ?_)
  refine lv_aload_n hx hb dL_law_863 rfl (lv_at hl 5 rfl) ?_
  have hP2 := sw3P hP
  refine r_calli (r := N1 0 0) (W.runV (As := []) (rest := []) CX (ctX8_thrown l D sw cs am (wl cs LC NC ad M1 ++ outs cq o od (fo f oc) g) N1 rfl) (cwV 0 hts (gwV m4_162 m4_163 m4_164 m1_7 m4_165) rfl rfl rfl (by decide +kernel) ⟨Nat.le_of_ble_eq_true rfl, Nat.le_of_ble_eq_true rfl⟩) (rPreV (hSW.wr hS) hK hP2 (by decide) rfl rfl _) rfl rfl hl.1 rfl (lv_room (Nat.le_of_ble_eq_true rfl)) dL_law_864 ⟨Nat.le_trans (show _ ≤ cells + 16 by omega) hcs, Nat.le_trans (show _ ≤ slots + 1400 by omega) hss⟩) ?_
  refine lv_iload hx hb dL_law_867 (lv_at hl 1 rfl) ?_
  refine lv_icmp_eq (tgt := 874) hx hb dL_law_869 (by decide) (fun _ => ?_) (fun h9 => absurd ht h9)
  refine lv_iload hx hb dL_law_874 (lv_at hl 1 rfl) ?_
  rcases oc with v | k9
  · refine lv_if_ne (tgt := 891) hx hb dL_law_876 (by decide) (fun h9 => absurd rfl h9) (fun _ => ?_)
    refine lv_aload_n hx hb dL_law_879 rfl (lv_at hl 6 rfl) ?_
    refine lv_iconst (v := 0) hx hb dL_law_880 (by decide) ?_
    refine va_lald (n := 1) hx hb hKL hP (NC + (NM + 0)) 0 out_get rfl (by unfold vp_in; decide) dL_law_881 ?_
    rw [fo_0]
    refine lv_iload hx hb dL_law_882 (lv_at hl 0 rfl) ?_
    refine lv_i2l hx hb dL_law_884 rfl ?_
    refine W.lcmp hx hb dL_law_885 ?_
    refine lv_if_eq (tgt := 891) hx hb dL_law_886 (by decide) (fun _ => ?_) (fun h9 => absurd (by rw [hv v rfl]; exact lcmp_self _) h9)
    refine lv_goto (tgt := 1671) hx hb dL_law_891 (by decide) ?_
    refine W.widen (k := cells + 16) (n := slots + 1400) (by omega) (by omega) ?_
    exact kk _ _ _ _ _ hP hD hS (lv_sub hl [2, 3, 4, 5, 6, 7] rfl)
  · have hk9 := hk k9 rfl
    refine lv_if_ne (tgt := 891) hx hb dL_law_876 (by decide) (fun _ => ?_) (fun h9 => absurd h9 (hN_ne (by simpa using hk9)))
    refine lv_goto (tgt := 1671) hx hb dL_law_891 (by decide) ?_
    refine W.widen (k := cells + 16) (n := slots + 1400) (by omega) (by omega) ?_
    exact kk _ _ _ _ _ hP hD hS (lv_sub hl [2, 3, 4, 5, 6, 7] rfl)
set_option maxHeartbeats 4000000 in
set_option maxRecDepth 100000 in
theorem lc_13 {l : Launch} {p : Program} {e : Env} {s : State} {m : MethodId} {below : List Frame} {meth : Method} {c : Code} {Q : State → Prop} {b L : Nat} {xs : Nat → Int32} {D : va_G} {sw : Sw} {cs : Cs} {cq : ClassId × ClassId} (K : LK l p s m c b L xs D sw cs cq) {ad am : Nat → Nat} {M N : Mm} {o od : Nat} {f : Nat → Int64} {g : Nat → UInt64} {i x1 x2 : Int32} (hi1 : vp_in (i + 1) L) (hi2 : vp_in (i + 2) L) (hx1 : xs (i + 1).toNatClampNeg = x1) (hx2 : xs (i + 2).toNatClampNeg = x2) {M1 N1 : Mm} {v bv : Int32} (hq : gX7_dead M = some (v, M1)) (hm : gX8_dead N = some (bv, N1)) (hv : v = bv) {cells slots : Nat} (hcs : cells + 16 ≤ room_1.cells) (hss : slots + 1400 ≤ room_1.slots) {H : Heap} {locs : List Loc} {ls : Array Slot} (hP : va_P D vwCl (wC cs ad am M N (outs cq o od f g)) H) (hD : va_D (AL s) (wC cs ad am M N (outs cq o od f g))) (hS : va_S (AL s) s.heap H locs) (hl : lv_has ls 9 (lLv b ad am o od i))
    (kk : ∀ (f : Nat → Int64) (g : Nat → UInt64) (H : Heap) (locs : List Loc) (ls : Array Slot), va_P D vwCl (wC cs ad am M1 N1 (outs cq o od f g)) H → va_D (AL s) (wC cs ad am M1 N1 (outs cq o od f g)) → va_S (AL s) s.heap H locs → lv_has ls 9 (lLv b ad am o od i) → W p l e room_1 s m #[Value.ref b] below meth c H locs (cells + 16) (slots + 1400) Q (F0 m 1671 ls [])) : W p l e room_1 s m #[Value.ref b] below meth c H locs cells slots Q (F0 m 894 ls []) := by
  obtain ⟨CX, hX, hbl, hK, hKL, hSW, hfl⟩ := K
  obtain ⟨hx, hb, hml, hown, hts⟩ := id CX
  have hw : ∀ w ∈ WG, w.before _ s = true := fun w h => hts w (List.mem_cons_of_mem _ h)
  have hA : ∀ q, s.heap.size ≤ q → AL s q := fun _ h => h
  have hbA : ¬ AL s b := Nat.not_le.mpr hbl
  refine lv_aload_n hx hb dL_law_894 rfl (lv_at hl 2 rfl) ?_
  refine w_calli (va_runV (As := []) (rest := []) CX (ctX7_dead l D sw cs ad (wl cs LM NM am N ++ outs cq o od f g) H.size M hq) (cwV 0 hts (gwV m1_192 m1_193 m1_194 m1_1 m1_195) rfl rfl rfl (by decide +kernel) ⟨Nat.le_of_ble_eq_true rfl, Nat.le_of_ble_eq_true rfl⟩) (wPreV hSW hS hA hK hP hD (by decide) rfl rfl _) rfl rfl hl.1 rfl (lv_room (Nat.le_of_ble_eq_true rfl)) dL_law_895 ⟨Nat.le_trans (show _ ≤ cells + 16 by omega) hcs, Nat.le_trans (show _ ≤ slots + 1400 by omega) hss⟩) hD hS hA (fun H locs hP hD hS => ?_)
  refine lv_aload_n hx hb dL_law_898 rfl (lv_at hl 3 rfl) ?_
  have hP2 := sw3P hP
  have hD2 := sw3D hD
  refine w_calli (va_runV (As := []) (rest := [.int v]) CX (ctX8_dead l D sw cs am (wl cs LC NC ad M1 ++ outs cq o od f g) H.size N  hm) (cwV 0 hts (gwV m5_82 m5_83 m5_84 m1_7 m5_85) rfl rfl rfl (by decide +kernel) ⟨Nat.le_of_ble_eq_true rfl, Nat.le_of_ble_eq_true rfl⟩) (wPreV hSW hS hA hK hP2 hD2 (by decide) rfl rfl _) rfl rfl hl.1 rfl (lv_room (Nat.le_of_ble_eq_true rfl)) dL_law_899 ⟨Nat.le_trans (show _ ≤ cells + 16 by omega) hcs, Nat.le_trans (show _ ≤ slots + 1400 by omega) hss⟩) hD2 hS hA (fun H locs hP2 hD2 hS => ?_)
  have hP : va_P D vwCl (wC cs ad am M1 N1 (outs cq o od f g)) H := sw3P hP2
  have hD : va_D (AL s) (wC cs ad am M1 N1 (outs cq o od f g)) := sw3D hD2
  refine lv_icmp_eq (tgt := 1671) hx hb dL_law_902 (by decide) (fun _ => ?_) (fun h9 => absurd hv h9)
  refine W.widen (k := cells + 16) (n := slots + 1400) (by omega) (by omega) ?_
  exact kk _ _ _ _ _ hP hD hS (lv_sub hl [0, 1, 2, 3, 4, 5] rfl)
set_option maxHeartbeats 4000000 in
set_option maxRecDepth 100000 in
theorem lc_14 {l : Launch} {p : Program} {e : Env} {s : State} {m : MethodId} {below : List Frame} {meth : Method} {c : Code} {Q : State → Prop} {b L : Nat} {xs : Nat → Int32} {D : va_G} {sw : Sw} {cs : Cs} {cq : ClassId × ClassId} (K : LK l p s m c b L xs D sw cs cq) {ad am : Nat → Nat} {M N : Mm} {o od : Nat} {f : Nat → Int64} {g : Nat → UInt64} {i x1 x2 : Int32} (hi1 : vp_in (i + 1) L) (hi2 : vp_in (i + 2) L) (hx1 : xs (i + 1).toNatClampNeg = x1) (hx2 : xs (i + 2).toNatClampNeg = x2) {oc : Int32 ⊕ Nat} {M1 N1 : Mm} {bv : Int32} (hq : gX7_length M x1 = some (oc, M1)) (hk : ∀ k, oc = .inr k → k ∈ ([2] : List Nat)) (hm : gX8_length N x1 = some (bv, N1)) (ht : N1 0 0 = hN [2] oc) (hv : ∀ v, oc = .inl v → v = bv) {cells slots : Nat} (hcs : cells + 16 ≤ room_1.cells) (hss : slots + 1400 ≤ room_1.slots) {H : Heap} {locs : List Loc} {ls : Array Slot} (hP : va_P D vwCl (wC cs ad am M N (outs cq o od f g)) H) (hD : va_D (AL s) (wC cs ad am M N (outs cq o od f g))) (hS : va_S (AL s) s.heap H locs) (hl : lv_has ls 9 (lLv b ad am o od i))
    (kk : ∀ (f : Nat → Int64) (g : Nat → UInt64) (H : Heap) (locs : List Loc) (ls : Array Slot), va_P D vwCl (wC cs ad am M1 N1 (outs cq o od f g)) H → va_D (AL s) (wC cs ad am M1 N1 (outs cq o od f g)) → va_S (AL s) s.heap H locs → lv_has ls 9 (lLv b ad am o od i) → W p l e room_1 s m #[Value.ref b] below meth c H locs (cells + 16) (slots + 1400) Q (F0 m 1671 ls [])) : W p l e room_1 s m #[Value.ref b] below meth c H locs cells slots Q (F0 m 907 ls []) := by
  obtain ⟨CX, hX, hbl, hK, hKL, hSW, hfl⟩ := K
  obtain ⟨hx, hb, hml, hown, hts⟩ := id CX
  have hw : ∀ w ∈ WG, w.before _ s = true := fun w h => hts w (List.mem_cons_of_mem _ h)
  have hA : ∀ q, s.heap.size ≤ q → AL s q := fun _ h => h
  have hbA : ¬ AL s b := Nat.not_le.mpr hbl
  refine lv_aload_n hx hb dL_law_907 rfl (lv_at hl 2 rfl) ?_
  refine lv_aload_n hx hb dL_law_908 rfl (lv_at hl 1 rfl) ?_
  refine lv_iload hx hb dL_law_909 (lv_at hl 0 rfl) ?_
  refine lv_iconst (v := 1) hx hb dL_law_911 (by decide) ?_
  refine lv_iadd hx hb dL_law_912 ?_
  refine va_sld hx hb hX hbl hbA hS hi1 dL_law_913 ?_
  rw [hx1]
  refine lv_aload_n hx hb dL_law_914 rfl (lv_at hl 4 rfl) ?_
  refine va_calli (vx_runSW (As := [.ref (ad 0), .int x1, .ref o]) (rest := []) CX (ctL_length l hfl D sw cs cq ad (wl cs LM NM am N ++ outs cq o od f g) H.size M (x1) hq hk (j := NM + 0) (wx_get rfl)) (vx_cwSW 3 hts (gwW m3_204 m3_205 m1_0 WL_length) rfl rfl rfl (by decide +kernel) ⟨Nat.le_of_ble_eq_true rfl, Nat.le_of_ble_eq_true rfl⟩) (lPreS hSW hS hA hK hKL hP hD _) rfl rfl hl.1 rfl (lv_room (Nat.le_of_ble_eq_true rfl)) dL_law_915 ⟨Nat.le_trans (show _ ≤ cells + 16 by omega) hcs, Nat.le_trans (show _ ≤ slots + 1400 by omega) hss⟩) hS (fun q _ h => wA_free hD hS hA q h) (wA_free hD hS hA) (fun r u t H1 locs ht9 _ hr1 hB _ _ hS => ?_)
  subst hr1
  rw [ht9] at hB
  rw [oX_out] at hB
  have hP : va_P D vwCl (wC cs ad am M1 N (outs cq o od (fo f oc) g)) H1 := hB
  have hD : va_D (AL s) (wC cs ad am M1 N (outs cq o od (fo f oc) g)) := lawD hD
  generalize H1 = H at hP hS ⊢
  refine lv_istore (lv' := [(6, .int (hN [2] oc)), (5, .int i), (0, .ref b), (1, .ref (ad 0)), (2, .ref (am 0)), (3, .ref o), (4, .ref od)]) hx hb dL_law_918 hl (by decide) rfl (fun ls hl => ?_)
  refine lv_aload_n hx hb dL_law_920 rfl (lv_at hl 4 rfl) ?_
  refine lv_aload_n hx hb dL_law_921 rfl (lv_at hl 2 rfl) ?_
  refine lv_iload hx hb dL_law_922 (lv_at hl 1 rfl) ?_
  refine lv_iconst (v := 1) hx hb dL_law_924 (by decide) ?_
  refine lv_iadd hx hb dL_law_925 ?_
  refine va_sld hx hb hX hbl hbA hS hi1 dL_law_926 ?_
  rw [hx1]
  have hP2 := sw3P hP
  have hD2 := sw3D hD
  refine w_calli (va_runV (As := [.int x1]) (rest := []) CX (ctX8_length l D sw cs am (wl cs LC NC ad M1 ++ outs cq o od (fo f oc) g) H.size N (x1) hm) (cwV 1 hts (gwV m5_86 m5_87 m5_88 m1_7 m5_89) rfl rfl rfl (by decide +kernel) ⟨Nat.le_of_ble_eq_true rfl, Nat.le_of_ble_eq_true rfl⟩) (wPreV hSW hS hA hK hP2 hD2 (by decide) rfl rfl _) rfl rfl hl.1 rfl (lv_room (Nat.le_of_ble_eq_true rfl)) dL_law_927 ⟨Nat.le_trans (show _ ≤ cells + 16 by omega) hcs, Nat.le_trans (show _ ≤ slots + 1400 by omega) hss⟩) hD2 hS hA (fun H locs hP2 hD2 hS => ?_)
  have hP : va_P D vwCl (wC cs ad am M1 N1 (outs cq o od (fo f oc) g)) H := sw3P hP2
  have hD : va_D (AL s) (wC cs ad am M1 N1 (outs cq o od (fo f oc) g)) := sw3D hD2
  refine lv_istore (lv' := [(7, .int bv), (6, .int (hN [2] oc)), (5, .int i), (0, .ref b), (1, .ref (ad 0)), (2, .ref (am 0)), (3, .ref o), (4, .ref od)]) hx hb dL_law_930 hl (by decide) rfl (fun ls hl => ?_)
  refine lv_aload_n hx hb dL_law_932 rfl (lv_at hl 5 rfl) ?_
  have hP2 := sw3P hP
  refine r_calli (r := N1 0 0) (W.runV (As := []) (rest := []) CX (ctX8_thrown l D sw cs am (wl cs LC NC ad M1 ++ outs cq o od (fo f oc) g) N1 rfl) (cwV 0 hts (gwV m4_162 m4_163 m4_164 m1_7 m4_165) rfl rfl rfl (by decide +kernel) ⟨Nat.le_of_ble_eq_true rfl, Nat.le_of_ble_eq_true rfl⟩) (rPreV (hSW.wr hS) hK hP2 (by decide) rfl rfl _) rfl rfl hl.1 rfl (lv_room (Nat.le_of_ble_eq_true rfl)) dL_law_933 ⟨Nat.le_trans (show _ ≤ cells + 16 by omega) hcs, Nat.le_trans (show _ ≤ slots + 1400 by omega) hss⟩) ?_
  refine lv_iload hx hb dL_law_936 (lv_at hl 1 rfl) ?_
  refine lv_icmp_eq (tgt := 943) hx hb dL_law_938 (by decide) (fun _ => ?_) (fun h9 => absurd ht h9)
  refine lv_iload hx hb dL_law_943 (lv_at hl 1 rfl) ?_
  rcases oc with v | k9
  · refine lv_if_ne (tgt := 960) hx hb dL_law_945 (by decide) (fun h9 => absurd rfl h9) (fun _ => ?_)
    refine lv_aload_n hx hb dL_law_948 rfl (lv_at hl 6 rfl) ?_
    refine lv_iconst (v := 0) hx hb dL_law_949 (by decide) ?_
    refine va_lald (n := 1) hx hb hKL hP (NC + (NM + 0)) 0 out_get rfl (by unfold vp_in; decide) dL_law_950 ?_
    rw [fo_0]
    refine lv_iload hx hb dL_law_951 (lv_at hl 0 rfl) ?_
    refine lv_i2l hx hb dL_law_953 rfl ?_
    refine W.lcmp hx hb dL_law_954 ?_
    refine lv_if_eq (tgt := 960) hx hb dL_law_955 (by decide) (fun _ => ?_) (fun h9 => absurd (by rw [hv v rfl]; exact lcmp_self _) h9)
    refine lv_goto (tgt := 1671) hx hb dL_law_960 (by decide) ?_
    refine W.widen (k := cells + 16) (n := slots + 1400) (by omega) (by omega) ?_
    exact kk _ _ _ _ _ hP hD hS (lv_sub hl [2, 3, 4, 5, 6, 7] rfl)
  · have hk9 := hk k9 rfl
    refine lv_if_ne (tgt := 960) hx hb dL_law_945 (by decide) (fun _ => ?_) (fun h9 => absurd h9 (hN_ne (by simpa using hk9)))
    refine lv_goto (tgt := 1671) hx hb dL_law_960 (by decide) ?_
    refine W.widen (k := cells + 16) (n := slots + 1400) (by omega) (by omega) ?_
    exact kk _ _ _ _ _ hP hD hS (lv_sub hl [2, 3, 4, 5, 6, 7] rfl)
set_option maxHeartbeats 4000000 in
set_option maxRecDepth 100000 in
theorem lc_15 {l : Launch} {p : Program} {e : Env} {s : State} {m : MethodId} {below : List Frame} {meth : Method} {c : Code} {Q : State → Prop} {b L : Nat} {xs : Nat → Int32} {D : va_G} {sw : Sw} {cs : Cs} {cq : ClassId × ClassId} (K : LK l p s m c b L xs D sw cs cq) {ad am : Nat → Nat} {M N : Mm} {o od : Nat} {f : Nat → Int64} {g : Nat → UInt64} {i x1 x2 : Int32} (hi1 : vp_in (i + 1) L) (hi2 : vp_in (i + 2) L) (hx1 : xs (i + 1).toNatClampNeg = x1) (hx2 : xs (i + 2).toNatClampNeg = x2) {oc : Int32 ⊕ Nat} {M1 N1 : Mm} {bv : Int32} (hq : gX7_place M x1 x2 = some (oc, M1)) (hk : ∀ k, oc = .inr k → k ∈ ([2] : List Nat)) (hm : gX8_place N x1 x2 = some (bv, N1)) (ht : N1 0 0 = hN [2] oc) (hv : ∀ v, oc = .inl v → v = bv) {cells slots : Nat} (hcs : cells + 16 ≤ room_1.cells) (hss : slots + 1400 ≤ room_1.slots) {H : Heap} {locs : List Loc} {ls : Array Slot} (hP : va_P D vwCl (wC cs ad am M N (outs cq o od f g)) H) (hD : va_D (AL s) (wC cs ad am M N (outs cq o od f g))) (hS : va_S (AL s) s.heap H locs) (hl : lv_has ls 9 (lLv b ad am o od i))
    (kk : ∀ (f : Nat → Int64) (g : Nat → UInt64) (H : Heap) (locs : List Loc) (ls : Array Slot), va_P D vwCl (wC cs ad am M1 N1 (outs cq o od f g)) H → va_D (AL s) (wC cs ad am M1 N1 (outs cq o od f g)) → va_S (AL s) s.heap H locs → lv_has ls 9 (lLv b ad am o od i) → W p l e room_1 s m #[Value.ref b] below meth c H locs (cells + 16) (slots + 1400) Q (F0 m 1671 ls [])) : W p l e room_1 s m #[Value.ref b] below meth c H locs cells slots Q (F0 m 963 ls []) := by
  obtain ⟨CX, hX, hbl, hK, hKL, hSW, hfl⟩ := K
  obtain ⟨hx, hb, hml, hown, hts⟩ := id CX
  have hw : ∀ w ∈ WG, w.before _ s = true := fun w h => hts w (List.mem_cons_of_mem _ h)
  have hA : ∀ q, s.heap.size ≤ q → AL s q := fun _ h => h
  have hbA : ¬ AL s b := Nat.not_le.mpr hbl
  refine lv_aload_n hx hb dL_law_963 rfl (lv_at hl 2 rfl) ?_
  refine lv_aload_n hx hb dL_law_964 rfl (lv_at hl 1 rfl) ?_
  refine lv_iload hx hb dL_law_965 (lv_at hl 0 rfl) ?_
  refine lv_iconst (v := 1) hx hb dL_law_967 (by decide) ?_
  refine lv_iadd hx hb dL_law_968 ?_
  refine va_sld hx hb hX hbl hbA hS hi1 dL_law_969 ?_
  rw [hx1]
  refine lv_aload_n hx hb dL_law_970 rfl (lv_at hl 1 rfl) ?_
  refine lv_iload hx hb dL_law_971 (lv_at hl 0 rfl) ?_
  refine lv_iconst (v := 2) hx hb dL_law_973 (by decide) ?_
  refine lv_iadd hx hb dL_law_974 ?_
  refine va_sld hx hb hX hbl hbA hS hi2 dL_law_975 ?_
  rw [hx2]
  refine lv_aload_n hx hb dL_law_976 rfl (lv_at hl 4 rfl) ?_
  refine va_calli (vx_runSW (As := [.ref (ad 0), .int x1, .int x2, .ref o]) (rest := []) CX (ctL_place l hfl D sw cs cq ad (wl cs LM NM am N ++ outs cq o od f g) H.size M (x1) (x2) hq hk (j := NM + 0) (wx_get rfl)) (vx_cwSW 4 hts (gwW m3_216 m3_217 m1_0 WL_place) rfl rfl rfl (by decide +kernel) ⟨Nat.le_of_ble_eq_true rfl, Nat.le_of_ble_eq_true rfl⟩) (lPreS hSW hS hA hK hKL hP hD _) rfl rfl hl.1 rfl (lv_room (Nat.le_of_ble_eq_true rfl)) dL_law_977 ⟨Nat.le_trans (show _ ≤ cells + 16 by omega) hcs, Nat.le_trans (show _ ≤ slots + 1400 by omega) hss⟩) hS (fun q _ h => wA_free hD hS hA q h) (wA_free hD hS hA) (fun r u t H1 locs ht9 _ hr1 hB _ _ hS => ?_)
  subst hr1
  rw [ht9] at hB
  rw [oX_out] at hB
  have hP : va_P D vwCl (wC cs ad am M1 N (outs cq o od (fo f oc) g)) H1 := hB
  have hD : va_D (AL s) (wC cs ad am M1 N (outs cq o od (fo f oc) g)) := lawD hD
  generalize H1 = H at hP hS ⊢
  refine lv_istore (lv' := [(6, .int (hN [2] oc)), (5, .int i), (0, .ref b), (1, .ref (ad 0)), (2, .ref (am 0)), (3, .ref o), (4, .ref od)]) hx hb dL_law_980 hl (by decide) rfl (fun ls hl => ?_)
  refine lv_aload_n hx hb dL_law_982 rfl (lv_at hl 4 rfl) ?_
  refine lv_aload_n hx hb dL_law_983 rfl (lv_at hl 2 rfl) ?_
  refine lv_iload hx hb dL_law_984 (lv_at hl 1 rfl) ?_
  refine lv_iconst (v := 1) hx hb dL_law_986 (by decide) ?_
  refine lv_iadd hx hb dL_law_987 ?_
  refine va_sld hx hb hX hbl hbA hS hi1 dL_law_988 ?_
  rw [hx1]
  refine lv_aload_n hx hb dL_law_989 rfl (lv_at hl 2 rfl) ?_
  refine lv_iload hx hb dL_law_990 (lv_at hl 1 rfl) ?_
  refine lv_iconst (v := 2) hx hb dL_law_992 (by decide) ?_
  refine lv_iadd hx hb dL_law_993 ?_
  refine va_sld hx hb hX hbl hbA hS hi2 dL_law_994 ?_
  rw [hx2]
  have hP2 := sw3P hP
  have hD2 := sw3D hD
  refine w_calli (va_runV (As := [.int x1, .int x2]) (rest := []) CX (ctX8_place l D sw cs am (wl cs LC NC ad M1 ++ outs cq o od (fo f oc) g) H.size N (x1) (x2) hm) (cwV 2 hts (gwV m5_97 m5_98 m5_99 m1_7 m5_100) rfl rfl rfl (by decide +kernel) ⟨Nat.le_of_ble_eq_true rfl, Nat.le_of_ble_eq_true rfl⟩) (wPreV hSW hS hA hK hP2 hD2 (by decide) rfl rfl _) rfl rfl hl.1 rfl (lv_room (Nat.le_of_ble_eq_true rfl)) dL_law_995 ⟨Nat.le_trans (show _ ≤ cells + 16 by omega) hcs, Nat.le_trans (show _ ≤ slots + 1400 by omega) hss⟩) hD2 hS hA (fun H locs hP2 hD2 hS => ?_)
  have hP : va_P D vwCl (wC cs ad am M1 N1 (outs cq o od (fo f oc) g)) H := sw3P hP2
  have hD : va_D (AL s) (wC cs ad am M1 N1 (outs cq o od (fo f oc) g)) := sw3D hD2
  refine lv_istore (lv' := [(7, .int bv), (6, .int (hN [2] oc)), (5, .int i), (0, .ref b), (1, .ref (ad 0)), (2, .ref (am 0)), (3, .ref o), (4, .ref od)]) hx hb dL_law_998 hl (by decide) rfl (fun ls hl => ?_)
  refine lv_aload_n hx hb dL_law_1000 rfl (lv_at hl 5 rfl) ?_
  have hP2 := sw3P hP
  refine r_calli (r := N1 0 0) (W.runV (As := []) (rest := []) CX (ctX8_thrown l D sw cs am (wl cs LC NC ad M1 ++ outs cq o od (fo f oc) g) N1 rfl) (cwV 0 hts (gwV m4_162 m4_163 m4_164 m1_7 m4_165) rfl rfl rfl (by decide +kernel) ⟨Nat.le_of_ble_eq_true rfl, Nat.le_of_ble_eq_true rfl⟩) (rPreV (hSW.wr hS) hK hP2 (by decide) rfl rfl _) rfl rfl hl.1 rfl (lv_room (Nat.le_of_ble_eq_true rfl)) dL_law_1001 ⟨Nat.le_trans (show _ ≤ cells + 16 by omega) hcs, Nat.le_trans (show _ ≤ slots + 1400 by omega) hss⟩) ?_
  refine lv_iload hx hb dL_law_1004 (lv_at hl 1 rfl) ?_
  refine lv_icmp_eq (tgt := 1011) hx hb dL_law_1006 (by decide) (fun _ => ?_) (fun h9 => absurd ht h9)
  refine lv_iload hx hb dL_law_1011 (lv_at hl 1 rfl) ?_
  rcases oc with v | k9
  · refine lv_if_ne (tgt := 1028) hx hb dL_law_1013 (by decide) (fun h9 => absurd rfl h9) (fun _ => ?_)
    refine lv_aload_n hx hb dL_law_1016 rfl (lv_at hl 6 rfl) ?_
    refine lv_iconst (v := 0) hx hb dL_law_1017 (by decide) ?_
    refine va_lald (n := 1) hx hb hKL hP (NC + (NM + 0)) 0 out_get rfl (by unfold vp_in; decide) dL_law_1018 ?_
    rw [fo_0]
    refine lv_iload hx hb dL_law_1019 (lv_at hl 0 rfl) ?_
    refine lv_i2l hx hb dL_law_1021 rfl ?_
    refine W.lcmp hx hb dL_law_1022 ?_
    refine lv_if_eq (tgt := 1028) hx hb dL_law_1023 (by decide) (fun _ => ?_) (fun h9 => absurd (by rw [hv v rfl]; exact lcmp_self _) h9)
    refine lv_goto (tgt := 1671) hx hb dL_law_1028 (by decide) ?_
    refine W.widen (k := cells + 16) (n := slots + 1400) (by omega) (by omega) ?_
    exact kk _ _ _ _ _ hP hD hS (lv_sub hl [2, 3, 4, 5, 6, 7] rfl)
  · have hk9 := hk k9 rfl
    refine lv_if_ne (tgt := 1028) hx hb dL_law_1013 (by decide) (fun _ => ?_) (fun h9 => absurd h9 (hN_ne (by simpa using hk9)))
    refine lv_goto (tgt := 1671) hx hb dL_law_1028 (by decide) ?_
    refine W.widen (k := cells + 16) (n := slots + 1400) (by omega) (by omega) ?_
    exact kk _ _ _ _ _ hP hD hS (lv_sub hl [2, 3, 4, 5, 6, 7] rfl)
set_option maxHeartbeats 4000000 in
set_option maxRecDepth 100000 in
theorem lc_16 {l : Launch} {p : Program} {e : Env} {s : State} {m : MethodId} {below : List Frame} {meth : Method} {c : Code} {Q : State → Prop} {b L : Nat} {xs : Nat → Int32} {D : va_G} {sw : Sw} {cs : Cs} {cq : ClassId × ClassId} (K : LK l p s m c b L xs D sw cs cq) {ad am : Nat → Nat} {M N : Mm} {o od : Nat} {f : Nat → Int64} {g : Nat → UInt64} {i x1 x2 : Int32} (hi1 : vp_in (i + 1) L) (hi2 : vp_in (i + 2) L) (hx1 : xs (i + 1).toNatClampNeg = x1) (hx2 : xs (i + 2).toNatClampNeg = x2) {M1 N1 : Mm} {v bv : Int32} (hq : gX7_variants M = some (v, M1)) (hm : gX8_variants N = some (bv, N1)) (hv : v = bv) {cells slots : Nat} (hcs : cells + 16 ≤ room_1.cells) (hss : slots + 1400 ≤ room_1.slots) {H : Heap} {locs : List Loc} {ls : Array Slot} (hP : va_P D vwCl (wC cs ad am M N (outs cq o od f g)) H) (hD : va_D (AL s) (wC cs ad am M N (outs cq o od f g))) (hS : va_S (AL s) s.heap H locs) (hl : lv_has ls 9 (lLv b ad am o od i))
    (kk : ∀ (f : Nat → Int64) (g : Nat → UInt64) (H : Heap) (locs : List Loc) (ls : Array Slot), va_P D vwCl (wC cs ad am M1 N1 (outs cq o od f g)) H → va_D (AL s) (wC cs ad am M1 N1 (outs cq o od f g)) → va_S (AL s) s.heap H locs → lv_has ls 9 (lLv b ad am o od i) → W p l e room_1 s m #[Value.ref b] below meth c H locs (cells + 16) (slots + 1400) Q (F0 m 1671 ls [])) : W p l e room_1 s m #[Value.ref b] below meth c H locs cells slots Q (F0 m 1031 ls []) := by
  obtain ⟨CX, hX, hbl, hK, hKL, hSW, hfl⟩ := K
  obtain ⟨hx, hb, hml, hown, hts⟩ := id CX
  have hw : ∀ w ∈ WG, w.before _ s = true := fun w h => hts w (List.mem_cons_of_mem _ h)
  have hA : ∀ q, s.heap.size ≤ q → AL s q := fun _ h => h
  have hbA : ¬ AL s b := Nat.not_le.mpr hbl
  refine lv_aload_n hx hb dL_law_1031 rfl (lv_at hl 2 rfl) ?_
  refine w_calli (va_runV (As := []) (rest := []) CX (ctX7_variants l D sw cs ad (wl cs LM NM am N ++ outs cq o od f g) H.size M hq) (cwV 0 hts (gwV m2_185 m2_186 m2_187 m1_1 m2_188) rfl rfl rfl (by decide +kernel) ⟨Nat.le_of_ble_eq_true rfl, Nat.le_of_ble_eq_true rfl⟩) (wPreV hSW hS hA hK hP hD (by decide) rfl rfl _) rfl rfl hl.1 rfl (lv_room (Nat.le_of_ble_eq_true rfl)) dL_law_1032 ⟨Nat.le_trans (show _ ≤ cells + 16 by omega) hcs, Nat.le_trans (show _ ≤ slots + 1400 by omega) hss⟩) hD hS hA (fun H locs hP hD hS => ?_)
  refine lv_aload_n hx hb dL_law_1035 rfl (lv_at hl 3 rfl) ?_
  have hP2 := sw3P hP
  have hD2 := sw3D hD
  refine w_calli (va_runV (As := []) (rest := [.int v]) CX (ctX8_variants l D sw cs am (wl cs LC NC ad M1 ++ outs cq o od f g) H.size N  hm) (cwV 0 hts (gwV m5_105 m5_106 m5_107 m1_7 m5_108) rfl rfl rfl (by decide +kernel) ⟨Nat.le_of_ble_eq_true rfl, Nat.le_of_ble_eq_true rfl⟩) (wPreV hSW hS hA hK hP2 hD2 (by decide) rfl rfl _) rfl rfl hl.1 rfl (lv_room (Nat.le_of_ble_eq_true rfl)) dL_law_1036 ⟨Nat.le_trans (show _ ≤ cells + 16 by omega) hcs, Nat.le_trans (show _ ≤ slots + 1400 by omega) hss⟩) hD2 hS hA (fun H locs hP2 hD2 hS => ?_)
  have hP : va_P D vwCl (wC cs ad am M1 N1 (outs cq o od f g)) H := sw3P hP2
  have hD : va_D (AL s) (wC cs ad am M1 N1 (outs cq o od f g)) := sw3D hD2
  refine lv_icmp_eq (tgt := 1671) hx hb dL_law_1039 (by decide) (fun _ => ?_) (fun h9 => absurd hv h9)
  refine W.widen (k := cells + 16) (n := slots + 1400) (by omega) (by omega) ?_
  exact kk _ _ _ _ _ hP hD hS (lv_sub hl [0, 1, 2, 3, 4, 5] rfl)
set_option maxHeartbeats 4000000 in
set_option maxRecDepth 100000 in
theorem lc_17 {l : Launch} {p : Program} {e : Env} {s : State} {m : MethodId} {below : List Frame} {meth : Method} {c : Code} {Q : State → Prop} {b L : Nat} {xs : Nat → Int32} {D : va_G} {sw : Sw} {cs : Cs} {cq : ClassId × ClassId} (K : LK l p s m c b L xs D sw cs cq) {ad am : Nat → Nat} {M N : Mm} {o od : Nat} {f : Nat → Int64} {g : Nat → UInt64} {i x1 x2 : Int32} (hi1 : vp_in (i + 1) L) (hi2 : vp_in (i + 2) L) (hx1 : xs (i + 1).toNatClampNeg = x1) (hx2 : xs (i + 2).toNatClampNeg = x2) {oc : Int32 ⊕ Nat} {M1 N1 : Mm} {bv : Int32} (hq : gX7_error M x1 = some (oc, M1)) (hk : ∀ k, oc = .inr k → k ∈ ([2, 1] : List Nat)) (hm : gX8_error N x1 = some (bv, N1)) (ht : N1 0 0 = hN [2, 1] oc) (hv : ∀ v, oc = .inl v → v = bv) {cells slots : Nat} (hcs : cells + 16 ≤ room_1.cells) (hss : slots + 1400 ≤ room_1.slots) {H : Heap} {locs : List Loc} {ls : Array Slot} (hP : va_P D vwCl (wC cs ad am M N (outs cq o od f g)) H) (hD : va_D (AL s) (wC cs ad am M N (outs cq o od f g))) (hS : va_S (AL s) s.heap H locs) (hl : lv_has ls 9 (lLv b ad am o od i))
    (kk : ∀ (f : Nat → Int64) (g : Nat → UInt64) (H : Heap) (locs : List Loc) (ls : Array Slot), va_P D vwCl (wC cs ad am M1 N1 (outs cq o od f g)) H → va_D (AL s) (wC cs ad am M1 N1 (outs cq o od f g)) → va_S (AL s) s.heap H locs → lv_has ls 9 (lLv b ad am o od i) → W p l e room_1 s m #[Value.ref b] below meth c H locs (cells + 16) (slots + 1400) Q (F0 m 1671 ls [])) : W p l e room_1 s m #[Value.ref b] below meth c H locs cells slots Q (F0 m 1044 ls []) := by
  obtain ⟨CX, hX, hbl, hK, hKL, hSW, hfl⟩ := K
  obtain ⟨hx, hb, hml, hown, hts⟩ := id CX
  have hw : ∀ w ∈ WG, w.before _ s = true := fun w h => hts w (List.mem_cons_of_mem _ h)
  have hA : ∀ q, s.heap.size ≤ q → AL s q := fun _ h => h
  have hbA : ¬ AL s b := Nat.not_le.mpr hbl
  refine lv_aload_n hx hb dL_law_1044 rfl (lv_at hl 2 rfl) ?_
  refine lv_aload_n hx hb dL_law_1045 rfl (lv_at hl 1 rfl) ?_
  refine lv_iload hx hb dL_law_1046 (lv_at hl 0 rfl) ?_
  refine lv_iconst (v := 1) hx hb dL_law_1048 (by decide) ?_
  refine lv_iadd hx hb dL_law_1049 ?_
  refine va_sld hx hb hX hbl hbA hS hi1 dL_law_1050 ?_
  rw [hx1]
  refine lv_aload_n hx hb dL_law_1051 rfl (lv_at hl 4 rfl) ?_
  refine va_calli (vx_runSW (As := [.ref (ad 0), .int x1, .ref o]) (rest := []) CX (ctL_error l hfl D sw cs cq ad (wl cs LM NM am N ++ outs cq o od f g) H.size M (x1) hq hk (j := NM + 0) (wx_get rfl)) (vx_cwSW 3 hts (gwW m3_228 m3_229 m1_0 WL_error) rfl rfl rfl (by decide +kernel) ⟨Nat.le_of_ble_eq_true rfl, Nat.le_of_ble_eq_true rfl⟩) (lPreS hSW hS hA hK hKL hP hD _) rfl rfl hl.1 rfl (lv_room (Nat.le_of_ble_eq_true rfl)) dL_law_1052 ⟨Nat.le_trans (show _ ≤ cells + 16 by omega) hcs, Nat.le_trans (show _ ≤ slots + 1400 by omega) hss⟩) hS (fun q _ h => wA_free hD hS hA q h) (wA_free hD hS hA) (fun r u t H1 locs ht9 _ hr1 hB _ _ hS => ?_)
  subst hr1
  rw [ht9] at hB
  rw [oX_out] at hB
  have hP : va_P D vwCl (wC cs ad am M1 N (outs cq o od (fo f oc) g)) H1 := hB
  have hD : va_D (AL s) (wC cs ad am M1 N (outs cq o od (fo f oc) g)) := lawD hD
  generalize H1 = H at hP hS ⊢
  refine lv_istore (lv' := [(6, .int (hN [2, 1] oc)), (5, .int i), (0, .ref b), (1, .ref (ad 0)), (2, .ref (am 0)), (3, .ref o), (4, .ref od)]) hx hb dL_law_1055 hl (by decide) rfl (fun ls hl => ?_)
  refine lv_aload_n hx hb dL_law_1057 rfl (lv_at hl 4 rfl) ?_
  refine lv_aload_n hx hb dL_law_1058 rfl (lv_at hl 2 rfl) ?_
  refine lv_iload hx hb dL_law_1059 (lv_at hl 1 rfl) ?_
  refine lv_iconst (v := 1) hx hb dL_law_1061 (by decide) ?_
  refine lv_iadd hx hb dL_law_1062 ?_
  refine va_sld hx hb hX hbl hbA hS hi1 dL_law_1063 ?_
  rw [hx1]
  have hP2 := sw3P hP
  have hD2 := sw3D hD
  refine w_calli (va_runV (As := [.int x1]) (rest := []) CX (ctX8_error l D sw cs am (wl cs LC NC ad M1 ++ outs cq o od (fo f oc) g) H.size N (x1) hm) (cwV 1 hts (gwV m5_113 m5_114 m5_115 m1_7 m5_116) rfl rfl rfl (by decide +kernel) ⟨Nat.le_of_ble_eq_true rfl, Nat.le_of_ble_eq_true rfl⟩) (wPreV hSW hS hA hK hP2 hD2 (by decide) rfl rfl _) rfl rfl hl.1 rfl (lv_room (Nat.le_of_ble_eq_true rfl)) dL_law_1064 ⟨Nat.le_trans (show _ ≤ cells + 16 by omega) hcs, Nat.le_trans (show _ ≤ slots + 1400 by omega) hss⟩) hD2 hS hA (fun H locs hP2 hD2 hS => ?_)
  have hP : va_P D vwCl (wC cs ad am M1 N1 (outs cq o od (fo f oc) g)) H := sw3P hP2
  have hD : va_D (AL s) (wC cs ad am M1 N1 (outs cq o od (fo f oc) g)) := sw3D hD2
  refine lv_istore (lv' := [(7, .int bv), (6, .int (hN [2, 1] oc)), (5, .int i), (0, .ref b), (1, .ref (ad 0)), (2, .ref (am 0)), (3, .ref o), (4, .ref od)]) hx hb dL_law_1067 hl (by decide) rfl (fun ls hl => ?_)
  refine lv_aload_n hx hb dL_law_1069 rfl (lv_at hl 5 rfl) ?_
  have hP2 := sw3P hP
  refine r_calli (r := N1 0 0) (W.runV (As := []) (rest := []) CX (ctX8_thrown l D sw cs am (wl cs LC NC ad M1 ++ outs cq o od (fo f oc) g) N1 rfl) (cwV 0 hts (gwV m4_162 m4_163 m4_164 m1_7 m4_165) rfl rfl rfl (by decide +kernel) ⟨Nat.le_of_ble_eq_true rfl, Nat.le_of_ble_eq_true rfl⟩) (rPreV (hSW.wr hS) hK hP2 (by decide) rfl rfl _) rfl rfl hl.1 rfl (lv_room (Nat.le_of_ble_eq_true rfl)) dL_law_1070 ⟨Nat.le_trans (show _ ≤ cells + 16 by omega) hcs, Nat.le_trans (show _ ≤ slots + 1400 by omega) hss⟩) ?_
  refine lv_iload hx hb dL_law_1073 (lv_at hl 1 rfl) ?_
  refine lv_icmp_eq (tgt := 1080) hx hb dL_law_1075 (by decide) (fun _ => ?_) (fun h9 => absurd ht h9)
  refine lv_iload hx hb dL_law_1080 (lv_at hl 1 rfl) ?_
  rcases oc with v | k9
  · refine lv_if_ne (tgt := 1097) hx hb dL_law_1082 (by decide) (fun h9 => absurd rfl h9) (fun _ => ?_)
    refine lv_aload_n hx hb dL_law_1085 rfl (lv_at hl 6 rfl) ?_
    refine lv_iconst (v := 0) hx hb dL_law_1086 (by decide) ?_
    refine va_lald (n := 1) hx hb hKL hP (NC + (NM + 0)) 0 out_get rfl (by unfold vp_in; decide) dL_law_1087 ?_
    rw [fo_0]
    refine lv_iload hx hb dL_law_1088 (lv_at hl 0 rfl) ?_
    refine lv_i2l hx hb dL_law_1090 rfl ?_
    refine W.lcmp hx hb dL_law_1091 ?_
    refine lv_if_eq (tgt := 1097) hx hb dL_law_1092 (by decide) (fun _ => ?_) (fun h9 => absurd (by rw [hv v rfl]; exact lcmp_self _) h9)
    refine lv_goto (tgt := 1671) hx hb dL_law_1097 (by decide) ?_
    refine W.widen (k := cells + 16) (n := slots + 1400) (by omega) (by omega) ?_
    exact kk _ _ _ _ _ hP hD hS (lv_sub hl [2, 3, 4, 5, 6, 7] rfl)
  · have hk9 := hk k9 rfl
    refine lv_if_ne (tgt := 1097) hx hb dL_law_1082 (by decide) (fun _ => ?_) (fun h9 => absurd h9 (hN_ne (by simpa using hk9)))
    refine lv_goto (tgt := 1671) hx hb dL_law_1097 (by decide) ?_
    refine W.widen (k := cells + 16) (n := slots + 1400) (by omega) (by omega) ?_
    exact kk _ _ _ _ _ hP hD hS (lv_sub hl [2, 3, 4, 5, 6, 7] rfl)
set_option maxHeartbeats 4000000 in
set_option maxRecDepth 100000 in
theorem lc_18 {l : Launch} {p : Program} {e : Env} {s : State} {m : MethodId} {below : List Frame} {meth : Method} {c : Code} {Q : State → Prop} {b L : Nat} {xs : Nat → Int32} {D : va_G} {sw : Sw} {cs : Cs} {cq : ClassId × ClassId} (K : LK l p s m c b L xs D sw cs cq) {ad am : Nat → Nat} {M N : Mm} {o od : Nat} {f : Nat → Int64} {g : Nat → UInt64} {i x1 x2 : Int32} (hi1 : vp_in (i + 1) L) (hi2 : vp_in (i + 2) L) (hx1 : xs (i + 1).toNatClampNeg = x1) (hx2 : xs (i + 2).toNatClampNeg = x2) {oc : Int32 ⊕ Nat} {M1 N1 : Mm} {bv : Int32} (hq : gX7_wrong M = some (oc, M1)) (hk : ∀ k, oc = .inr k → k ∈ ([1] : List Nat)) (hm : gX8_wrong N = some (bv, N1)) (ht : N1 0 0 = hN [1] oc) (hv : ∀ v, oc = .inl v → v = bv) {cells slots : Nat} (hcs : cells + 16 ≤ room_1.cells) (hss : slots + 1400 ≤ room_1.slots) {H : Heap} {locs : List Loc} {ls : Array Slot} (hP : va_P D vwCl (wC cs ad am M N (outs cq o od f g)) H) (hD : va_D (AL s) (wC cs ad am M N (outs cq o od f g))) (hS : va_S (AL s) s.heap H locs) (hl : lv_has ls 9 (lLv b ad am o od i))
    (kk : ∀ (f : Nat → Int64) (g : Nat → UInt64) (H : Heap) (locs : List Loc) (ls : Array Slot), va_P D vwCl (wC cs ad am M1 N1 (outs cq o od f g)) H → va_D (AL s) (wC cs ad am M1 N1 (outs cq o od f g)) → va_S (AL s) s.heap H locs → lv_has ls 9 (lLv b ad am o od i) → W p l e room_1 s m #[Value.ref b] below meth c H locs (cells + 16) (slots + 1400) Q (F0 m 1671 ls [])) : W p l e room_1 s m #[Value.ref b] below meth c H locs cells slots Q (F0 m 1100 ls []) := by
  obtain ⟨CX, hX, hbl, hK, hKL, hSW, hfl⟩ := K
  obtain ⟨hx, hb, hml, hown, hts⟩ := id CX
  have hw : ∀ w ∈ WG, w.before _ s = true := fun w h => hts w (List.mem_cons_of_mem _ h)
  have hA : ∀ q, s.heap.size ≤ q → AL s q := fun _ h => h
  have hbA : ¬ AL s b := Nat.not_le.mpr hbl
  refine lv_aload_n hx hb dL_law_1100 rfl (lv_at hl 2 rfl) ?_
  refine lv_aload_n hx hb dL_law_1101 rfl (lv_at hl 4 rfl) ?_
  refine va_calli (vx_runSW (As := [.ref (ad 0), .ref o]) (rest := []) CX (ctL_wrong l hfl D sw cs cq ad (wl cs LM NM am N ++ outs cq o od f g) H.size M  hq hk (j := NM + 0) (wx_get rfl)) (vx_cwSW 2 hts (gwW m4_0 m4_1 m1_0 WL_wrong) rfl rfl rfl (by decide +kernel) ⟨Nat.le_of_ble_eq_true rfl, Nat.le_of_ble_eq_true rfl⟩) (lPreS hSW hS hA hK hKL hP hD _) rfl rfl hl.1 rfl (lv_room (Nat.le_of_ble_eq_true rfl)) dL_law_1102 ⟨Nat.le_trans (show _ ≤ cells + 16 by omega) hcs, Nat.le_trans (show _ ≤ slots + 1400 by omega) hss⟩) hS (fun q _ h => wA_free hD hS hA q h) (wA_free hD hS hA) (fun r u t H1 locs ht9 _ hr1 hB _ _ hS => ?_)
  subst hr1
  rw [ht9] at hB
  rw [oX_out] at hB
  have hP : va_P D vwCl (wC cs ad am M1 N (outs cq o od (fo f oc) g)) H1 := hB
  have hD : va_D (AL s) (wC cs ad am M1 N (outs cq o od (fo f oc) g)) := lawD hD
  generalize H1 = H at hP hS ⊢
  refine lv_istore (lv' := [(6, .int (hN [1] oc)), (5, .int i), (0, .ref b), (1, .ref (ad 0)), (2, .ref (am 0)), (3, .ref o), (4, .ref od)]) hx hb dL_law_1105 hl (by decide) rfl (fun ls hl => ?_)
  refine lv_aload_n hx hb dL_law_1107 rfl (lv_at hl 4 rfl) ?_
  have hP2 := sw3P hP
  have hD2 := sw3D hD
  refine w_calli (va_runV (As := []) (rest := []) CX (ctX8_wrong l D sw cs am (wl cs LC NC ad M1 ++ outs cq o od (fo f oc) g) H.size N  hm) (cwV 0 hts (gwV m5_159 m5_160 m5_161 m1_7 m5_162) rfl rfl rfl (by decide +kernel) ⟨Nat.le_of_ble_eq_true rfl, Nat.le_of_ble_eq_true rfl⟩) (wPreV hSW hS hA hK hP2 hD2 (by decide) rfl rfl _) rfl rfl hl.1 rfl (lv_room (Nat.le_of_ble_eq_true rfl)) dL_law_1108 ⟨Nat.le_trans (show _ ≤ cells + 16 by omega) hcs, Nat.le_trans (show _ ≤ slots + 1400 by omega) hss⟩) hD2 hS hA (fun H locs hP2 hD2 hS => ?_)
  have hP : va_P D vwCl (wC cs ad am M1 N1 (outs cq o od (fo f oc) g)) H := sw3P hP2
  have hD : va_D (AL s) (wC cs ad am M1 N1 (outs cq o od (fo f oc) g)) := sw3D hD2
  refine lv_istore (lv' := [(7, .int bv), (6, .int (hN [1] oc)), (5, .int i), (0, .ref b), (1, .ref (ad 0)), (2, .ref (am 0)), (3, .ref o), (4, .ref od)]) hx hb dL_law_1111 hl (by decide) rfl (fun ls hl => ?_)
  refine lv_aload_n hx hb dL_law_1113 rfl (lv_at hl 5 rfl) ?_
  have hP2 := sw3P hP
  refine r_calli (r := N1 0 0) (W.runV (As := []) (rest := []) CX (ctX8_thrown l D sw cs am (wl cs LC NC ad M1 ++ outs cq o od (fo f oc) g) N1 rfl) (cwV 0 hts (gwV m4_162 m4_163 m4_164 m1_7 m4_165) rfl rfl rfl (by decide +kernel) ⟨Nat.le_of_ble_eq_true rfl, Nat.le_of_ble_eq_true rfl⟩) (rPreV (hSW.wr hS) hK hP2 (by decide) rfl rfl _) rfl rfl hl.1 rfl (lv_room (Nat.le_of_ble_eq_true rfl)) dL_law_1114 ⟨Nat.le_trans (show _ ≤ cells + 16 by omega) hcs, Nat.le_trans (show _ ≤ slots + 1400 by omega) hss⟩) ?_
  refine lv_iload hx hb dL_law_1117 (lv_at hl 1 rfl) ?_
  refine lv_icmp_eq (tgt := 1124) hx hb dL_law_1119 (by decide) (fun _ => ?_) (fun h9 => absurd ht h9)
  refine lv_iload hx hb dL_law_1124 (lv_at hl 1 rfl) ?_
  rcases oc with v | k9
  · refine lv_if_ne (tgt := 1141) hx hb dL_law_1126 (by decide) (fun h9 => absurd rfl h9) (fun _ => ?_)
    refine lv_aload_n hx hb dL_law_1129 rfl (lv_at hl 6 rfl) ?_
    refine lv_iconst (v := 0) hx hb dL_law_1130 (by decide) ?_
    refine va_lald (n := 1) hx hb hKL hP (NC + (NM + 0)) 0 out_get rfl (by unfold vp_in; decide) dL_law_1131 ?_
    rw [fo_0]
    refine lv_iload hx hb dL_law_1132 (lv_at hl 0 rfl) ?_
    refine lv_i2l hx hb dL_law_1134 rfl ?_
    refine W.lcmp hx hb dL_law_1135 ?_
    refine lv_if_eq (tgt := 1141) hx hb dL_law_1136 (by decide) (fun _ => ?_) (fun h9 => absurd (by rw [hv v rfl]; exact lcmp_self _) h9)
    refine lv_goto (tgt := 1671) hx hb dL_law_1141 (by decide) ?_
    refine W.widen (k := cells + 16) (n := slots + 1400) (by omega) (by omega) ?_
    exact kk _ _ _ _ _ hP hD hS (lv_sub hl [2, 3, 4, 5, 6, 7] rfl)
  · have hk9 := hk k9 rfl
    refine lv_if_ne (tgt := 1141) hx hb dL_law_1126 (by decide) (fun _ => ?_) (fun h9 => absurd h9 (hN_ne (by simpa using hk9)))
    refine lv_goto (tgt := 1671) hx hb dL_law_1141 (by decide) ?_
    refine W.widen (k := cells + 16) (n := slots + 1400) (by omega) (by omega) ?_
    exact kk _ _ _ _ _ hP hD hS (lv_sub hl [2, 3, 4, 5, 6, 7] rfl)
set_option maxHeartbeats 4000000 in
set_option maxRecDepth 100000 in
theorem lc_19 {l : Launch} {p : Program} {e : Env} {s : State} {m : MethodId} {below : List Frame} {meth : Method} {c : Code} {Q : State → Prop} {b L : Nat} {xs : Nat → Int32} {D : va_G} {sw : Sw} {cs : Cs} {cq : ClassId × ClassId} (K : LK l p s m c b L xs D sw cs cq) {ad am : Nat → Nat} {M N : Mm} {o od : Nat} {f : Nat → Int64} {g : Nat → UInt64} {i x1 x2 : Int32} (hi1 : vp_in (i + 1) L) (hi2 : vp_in (i + 2) L) (hx1 : xs (i + 1).toNatClampNeg = x1) (hx2 : xs (i + 2).toNatClampNeg = x2) {oc : Int32 ⊕ Nat} {M1 N1 : Mm} {bv : Int32} (hq : gX7_firstError M = some (oc, M1)) (hk : ∀ k, oc = .inr k → k ∈ ([1] : List Nat)) (hm : gX8_firstError N = some (bv, N1)) (ht : N1 0 0 = hN [1] oc) (hv : ∀ v, oc = .inl v → v = bv) {cells slots : Nat} (hcs : cells + 16 ≤ room_1.cells) (hss : slots + 1400 ≤ room_1.slots) {H : Heap} {locs : List Loc} {ls : Array Slot} (hP : va_P D vwCl (wC cs ad am M N (outs cq o od f g)) H) (hD : va_D (AL s) (wC cs ad am M N (outs cq o od f g))) (hS : va_S (AL s) s.heap H locs) (hl : lv_has ls 9 (lLv b ad am o od i))
    (kk : ∀ (f : Nat → Int64) (g : Nat → UInt64) (H : Heap) (locs : List Loc) (ls : Array Slot), va_P D vwCl (wC cs ad am M1 N1 (outs cq o od f g)) H → va_D (AL s) (wC cs ad am M1 N1 (outs cq o od f g)) → va_S (AL s) s.heap H locs → lv_has ls 9 (lLv b ad am o od i) → W p l e room_1 s m #[Value.ref b] below meth c H locs (cells + 16) (slots + 1400) Q (F0 m 1671 ls [])) : W p l e room_1 s m #[Value.ref b] below meth c H locs cells slots Q (F0 m 1144 ls []) := by
  obtain ⟨CX, hX, hbl, hK, hKL, hSW, hfl⟩ := K
  obtain ⟨hx, hb, hml, hown, hts⟩ := id CX
  have hw : ∀ w ∈ WG, w.before _ s = true := fun w h => hts w (List.mem_cons_of_mem _ h)
  have hA : ∀ q, s.heap.size ≤ q → AL s q := fun _ h => h
  have hbA : ¬ AL s b := Nat.not_le.mpr hbl
  refine lv_aload_n hx hb dL_law_1144 rfl (lv_at hl 2 rfl) ?_
  refine lv_aload_n hx hb dL_law_1145 rfl (lv_at hl 4 rfl) ?_
  refine va_calli (vx_runSW (As := [.ref (ad 0), .ref o]) (rest := []) CX (ctL_firstError l hfl D sw cs cq ad (wl cs LM NM am N ++ outs cq o od f g) H.size M  hq hk (j := NM + 0) (wx_get rfl)) (vx_cwSW 2 hts (gwW m4_7 m4_8 m1_0 WL_firstError) rfl rfl rfl (by decide +kernel) ⟨Nat.le_of_ble_eq_true rfl, Nat.le_of_ble_eq_true rfl⟩) (lPreS hSW hS hA hK hKL hP hD _) rfl rfl hl.1 rfl (lv_room (Nat.le_of_ble_eq_true rfl)) dL_law_1146 ⟨Nat.le_trans (show _ ≤ cells + 16 by omega) hcs, Nat.le_trans (show _ ≤ slots + 1400 by omega) hss⟩) hS (fun q _ h => wA_free hD hS hA q h) (wA_free hD hS hA) (fun r u t H1 locs ht9 _ hr1 hB _ _ hS => ?_)
  subst hr1
  rw [ht9] at hB
  rw [oX_out] at hB
  have hP : va_P D vwCl (wC cs ad am M1 N (outs cq o od (fo f oc) g)) H1 := hB
  have hD : va_D (AL s) (wC cs ad am M1 N (outs cq o od (fo f oc) g)) := lawD hD
  generalize H1 = H at hP hS ⊢
  refine lv_istore (lv' := [(6, .int (hN [1] oc)), (5, .int i), (0, .ref b), (1, .ref (ad 0)), (2, .ref (am 0)), (3, .ref o), (4, .ref od)]) hx hb dL_law_1149 hl (by decide) rfl (fun ls hl => ?_)
  refine lv_aload_n hx hb dL_law_1151 rfl (lv_at hl 4 rfl) ?_
  have hP2 := sw3P hP
  have hD2 := sw3D hD
  refine w_calli (va_runV (As := []) (rest := []) CX (ctX8_firstError l D sw cs am (wl cs LC NC ad M1 ++ outs cq o od (fo f oc) g) H.size N  hm) (cwV 0 hts (gwV m5_163 m5_164 m5_165 m1_7 m5_166) rfl rfl rfl (by decide +kernel) ⟨Nat.le_of_ble_eq_true rfl, Nat.le_of_ble_eq_true rfl⟩) (wPreV hSW hS hA hK hP2 hD2 (by decide) rfl rfl _) rfl rfl hl.1 rfl (lv_room (Nat.le_of_ble_eq_true rfl)) dL_law_1152 ⟨Nat.le_trans (show _ ≤ cells + 16 by omega) hcs, Nat.le_trans (show _ ≤ slots + 1400 by omega) hss⟩) hD2 hS hA (fun H locs hP2 hD2 hS => ?_)
  have hP : va_P D vwCl (wC cs ad am M1 N1 (outs cq o od (fo f oc) g)) H := sw3P hP2
  have hD : va_D (AL s) (wC cs ad am M1 N1 (outs cq o od (fo f oc) g)) := sw3D hD2
  refine lv_istore (lv' := [(7, .int bv), (6, .int (hN [1] oc)), (5, .int i), (0, .ref b), (1, .ref (ad 0)), (2, .ref (am 0)), (3, .ref o), (4, .ref od)]) hx hb dL_law_1155 hl (by decide) rfl (fun ls hl => ?_)
  refine lv_aload_n hx hb dL_law_1157 rfl (lv_at hl 5 rfl) ?_
  have hP2 := sw3P hP
  refine r_calli (r := N1 0 0) (W.runV (As := []) (rest := []) CX (ctX8_thrown l D sw cs am (wl cs LC NC ad M1 ++ outs cq o od (fo f oc) g) N1 rfl) (cwV 0 hts (gwV m4_162 m4_163 m4_164 m1_7 m4_165) rfl rfl rfl (by decide +kernel) ⟨Nat.le_of_ble_eq_true rfl, Nat.le_of_ble_eq_true rfl⟩) (rPreV (hSW.wr hS) hK hP2 (by decide) rfl rfl _) rfl rfl hl.1 rfl (lv_room (Nat.le_of_ble_eq_true rfl)) dL_law_1158 ⟨Nat.le_trans (show _ ≤ cells + 16 by omega) hcs, Nat.le_trans (show _ ≤ slots + 1400 by omega) hss⟩) ?_
  refine lv_iload hx hb dL_law_1161 (lv_at hl 1 rfl) ?_
  refine lv_icmp_eq (tgt := 1168) hx hb dL_law_1163 (by decide) (fun _ => ?_) (fun h9 => absurd ht h9)
  refine lv_iload hx hb dL_law_1168 (lv_at hl 1 rfl) ?_
  rcases oc with v | k9
  · refine lv_if_ne (tgt := 1185) hx hb dL_law_1170 (by decide) (fun h9 => absurd rfl h9) (fun _ => ?_)
    refine lv_aload_n hx hb dL_law_1173 rfl (lv_at hl 6 rfl) ?_
    refine lv_iconst (v := 0) hx hb dL_law_1174 (by decide) ?_
    refine va_lald (n := 1) hx hb hKL hP (NC + (NM + 0)) 0 out_get rfl (by unfold vp_in; decide) dL_law_1175 ?_
    rw [fo_0]
    refine lv_iload hx hb dL_law_1176 (lv_at hl 0 rfl) ?_
    refine lv_i2l hx hb dL_law_1178 rfl ?_
    refine W.lcmp hx hb dL_law_1179 ?_
    refine lv_if_eq (tgt := 1185) hx hb dL_law_1180 (by decide) (fun _ => ?_) (fun h9 => absurd (by rw [hv v rfl]; exact lcmp_self _) h9)
    refine lv_goto (tgt := 1671) hx hb dL_law_1185 (by decide) ?_
    refine W.widen (k := cells + 16) (n := slots + 1400) (by omega) (by omega) ?_
    exact kk _ _ _ _ _ hP hD hS (lv_sub hl [2, 3, 4, 5, 6, 7] rfl)
  · have hk9 := hk k9 rfl
    refine lv_if_ne (tgt := 1185) hx hb dL_law_1170 (by decide) (fun _ => ?_) (fun h9 => absurd h9 (hN_ne (by simpa using hk9)))
    refine lv_goto (tgt := 1671) hx hb dL_law_1185 (by decide) ?_
    refine W.widen (k := cells + 16) (n := slots + 1400) (by omega) (by omega) ?_
    exact kk _ _ _ _ _ hP hD hS (lv_sub hl [2, 3, 4, 5, 6, 7] rfl)
set_option maxHeartbeats 4000000 in
set_option maxRecDepth 100000 in
theorem lc_20 {l : Launch} {p : Program} {e : Env} {s : State} {m : MethodId} {below : List Frame} {meth : Method} {c : Code} {Q : State → Prop} {b L : Nat} {xs : Nat → Int32} {D : va_G} {sw : Sw} {cs : Cs} {cq : ClassId × ClassId} (K : LK l p s m c b L xs D sw cs cq) {ad am : Nat → Nat} {M N : Mm} {o od : Nat} {f : Nat → Int64} {g : Nat → UInt64} {i x1 x2 : Int32} (hi1 : vp_in (i + 1) L) (hi2 : vp_in (i + 2) L) (hx1 : xs (i + 1).toNatClampNeg = x1) (hx2 : xs (i + 2).toNatClampNeg = x2) {oc : Int32 ⊕ Nat} {M1 N1 : Mm} {bv : Int32} (hq : gX7_groups M x1 = some (oc, M1)) (hk : ∀ k, oc = .inr k → k ∈ ([2, 1] : List Nat)) (hm : gX8_groups N x1 = some (bv, N1)) (ht : N1 0 0 = hN [2, 1] oc) (hv : ∀ v, oc = .inl v → v = bv) {cells slots : Nat} (hcs : cells + 16 ≤ room_1.cells) (hss : slots + 1400 ≤ room_1.slots) {H : Heap} {locs : List Loc} {ls : Array Slot} (hP : va_P D vwCl (wC cs ad am M N (outs cq o od f g)) H) (hD : va_D (AL s) (wC cs ad am M N (outs cq o od f g))) (hS : va_S (AL s) s.heap H locs) (hl : lv_has ls 9 (lLv b ad am o od i))
    (kk : ∀ (f : Nat → Int64) (g : Nat → UInt64) (H : Heap) (locs : List Loc) (ls : Array Slot), va_P D vwCl (wC cs ad am M1 N1 (outs cq o od f g)) H → va_D (AL s) (wC cs ad am M1 N1 (outs cq o od f g)) → va_S (AL s) s.heap H locs → lv_has ls 9 (lLv b ad am o od i) → W p l e room_1 s m #[Value.ref b] below meth c H locs (cells + 16) (slots + 1400) Q (F0 m 1671 ls [])) : W p l e room_1 s m #[Value.ref b] below meth c H locs cells slots Q (F0 m 1188 ls []) := by
  obtain ⟨CX, hX, hbl, hK, hKL, hSW, hfl⟩ := K
  obtain ⟨hx, hb, hml, hown, hts⟩ := id CX
  have hw : ∀ w ∈ WG, w.before _ s = true := fun w h => hts w (List.mem_cons_of_mem _ h)
  have hA : ∀ q, s.heap.size ≤ q → AL s q := fun _ h => h
  have hbA : ¬ AL s b := Nat.not_le.mpr hbl
  refine lv_aload_n hx hb dL_law_1188 rfl (lv_at hl 2 rfl) ?_
  refine lv_aload_n hx hb dL_law_1189 rfl (lv_at hl 1 rfl) ?_
  refine lv_iload hx hb dL_law_1190 (lv_at hl 0 rfl) ?_
  refine lv_iconst (v := 1) hx hb dL_law_1192 (by decide) ?_
  refine lv_iadd hx hb dL_law_1193 ?_
  refine va_sld hx hb hX hbl hbA hS hi1 dL_law_1194 ?_
  rw [hx1]
  refine lv_aload_n hx hb dL_law_1195 rfl (lv_at hl 4 rfl) ?_
  refine va_calli (vx_runSW (As := [.ref (ad 0), .int x1, .ref o]) (rest := []) CX (ctL_groups l hfl D sw cs cq ad (wl cs LM NM am N ++ outs cq o od f g) H.size M (x1) hq hk (j := NM + 0) (wx_get rfl)) (vx_cwSW 3 hts (gwW m4_14 m4_15 m1_0 WL_groups) rfl rfl rfl (by decide +kernel) ⟨Nat.le_of_ble_eq_true rfl, Nat.le_of_ble_eq_true rfl⟩) (lPreS hSW hS hA hK hKL hP hD _) rfl rfl hl.1 rfl (lv_room (Nat.le_of_ble_eq_true rfl)) dL_law_1196 ⟨Nat.le_trans (show _ ≤ cells + 16 by omega) hcs, Nat.le_trans (show _ ≤ slots + 1400 by omega) hss⟩) hS (fun q _ h => wA_free hD hS hA q h) (wA_free hD hS hA) (fun r u t H1 locs ht9 _ hr1 hB _ _ hS => ?_)
  subst hr1
  rw [ht9] at hB
  rw [oX_out] at hB
  have hP : va_P D vwCl (wC cs ad am M1 N (outs cq o od (fo f oc) g)) H1 := hB
  have hD : va_D (AL s) (wC cs ad am M1 N (outs cq o od (fo f oc) g)) := lawD hD
  generalize H1 = H at hP hS ⊢
  refine lv_istore (lv' := [(6, .int (hN [2, 1] oc)), (5, .int i), (0, .ref b), (1, .ref (ad 0)), (2, .ref (am 0)), (3, .ref o), (4, .ref od)]) hx hb dL_law_1199 hl (by decide) rfl (fun ls hl => ?_)
  refine lv_aload_n hx hb dL_law_1201 rfl (lv_at hl 4 rfl) ?_
  refine lv_aload_n hx hb dL_law_1202 rfl (lv_at hl 2 rfl) ?_
  refine lv_iload hx hb dL_law_1203 (lv_at hl 1 rfl) ?_
  refine lv_iconst (v := 1) hx hb dL_law_1205 (by decide) ?_
  refine lv_iadd hx hb dL_law_1206 ?_
  refine va_sld hx hb hX hbl hbA hS hi1 dL_law_1207 ?_
  rw [hx1]
  have hP2 := sw3P hP
  have hD2 := sw3D hD
  refine w_calli (va_runV (As := [.int x1]) (rest := []) CX (ctX8_groups l D sw cs am (wl cs LC NC ad M1 ++ outs cq o od (fo f oc) g) H.size N (x1) hm) (cwV 1 hts (gwV m5_167 m5_168 m5_169 m1_7 m5_170) rfl rfl rfl (by decide +kernel) ⟨Nat.le_of_ble_eq_true rfl, Nat.le_of_ble_eq_true rfl⟩) (wPreV hSW hS hA hK hP2 hD2 (by decide) rfl rfl _) rfl rfl hl.1 rfl (lv_room (Nat.le_of_ble_eq_true rfl)) dL_law_1208 ⟨Nat.le_trans (show _ ≤ cells + 16 by omega) hcs, Nat.le_trans (show _ ≤ slots + 1400 by omega) hss⟩) hD2 hS hA (fun H locs hP2 hD2 hS => ?_)
  have hP : va_P D vwCl (wC cs ad am M1 N1 (outs cq o od (fo f oc) g)) H := sw3P hP2
  have hD : va_D (AL s) (wC cs ad am M1 N1 (outs cq o od (fo f oc) g)) := sw3D hD2
  refine lv_istore (lv' := [(7, .int bv), (6, .int (hN [2, 1] oc)), (5, .int i), (0, .ref b), (1, .ref (ad 0)), (2, .ref (am 0)), (3, .ref o), (4, .ref od)]) hx hb dL_law_1211 hl (by decide) rfl (fun ls hl => ?_)
  refine lv_aload_n hx hb dL_law_1213 rfl (lv_at hl 5 rfl) ?_
  have hP2 := sw3P hP
  refine r_calli (r := N1 0 0) (W.runV (As := []) (rest := []) CX (ctX8_thrown l D sw cs am (wl cs LC NC ad M1 ++ outs cq o od (fo f oc) g) N1 rfl) (cwV 0 hts (gwV m4_162 m4_163 m4_164 m1_7 m4_165) rfl rfl rfl (by decide +kernel) ⟨Nat.le_of_ble_eq_true rfl, Nat.le_of_ble_eq_true rfl⟩) (rPreV (hSW.wr hS) hK hP2 (by decide) rfl rfl _) rfl rfl hl.1 rfl (lv_room (Nat.le_of_ble_eq_true rfl)) dL_law_1214 ⟨Nat.le_trans (show _ ≤ cells + 16 by omega) hcs, Nat.le_trans (show _ ≤ slots + 1400 by omega) hss⟩) ?_
  refine lv_iload hx hb dL_law_1217 (lv_at hl 1 rfl) ?_
  refine lv_icmp_eq (tgt := 1224) hx hb dL_law_1219 (by decide) (fun _ => ?_) (fun h9 => absurd ht h9)
  refine lv_iload hx hb dL_law_1224 (lv_at hl 1 rfl) ?_
  rcases oc with v | k9
  · refine lv_if_ne (tgt := 1241) hx hb dL_law_1226 (by decide) (fun h9 => absurd rfl h9) (fun _ => ?_)
    refine lv_aload_n hx hb dL_law_1229 rfl (lv_at hl 6 rfl) ?_
    refine lv_iconst (v := 0) hx hb dL_law_1230 (by decide) ?_
    refine va_lald (n := 1) hx hb hKL hP (NC + (NM + 0)) 0 out_get rfl (by unfold vp_in; decide) dL_law_1231 ?_
    rw [fo_0]
    refine lv_iload hx hb dL_law_1232 (lv_at hl 0 rfl) ?_
    refine lv_i2l hx hb dL_law_1234 rfl ?_
    refine W.lcmp hx hb dL_law_1235 ?_
    refine lv_if_eq (tgt := 1241) hx hb dL_law_1236 (by decide) (fun _ => ?_) (fun h9 => absurd (by rw [hv v rfl]; exact lcmp_self _) h9)
    refine lv_goto (tgt := 1671) hx hb dL_law_1241 (by decide) ?_
    refine W.widen (k := cells + 16) (n := slots + 1400) (by omega) (by omega) ?_
    exact kk _ _ _ _ _ hP hD hS (lv_sub hl [2, 3, 4, 5, 6, 7] rfl)
  · have hk9 := hk k9 rfl
    refine lv_if_ne (tgt := 1241) hx hb dL_law_1226 (by decide) (fun _ => ?_) (fun h9 => absurd h9 (hN_ne (by simpa using hk9)))
    refine lv_goto (tgt := 1671) hx hb dL_law_1241 (by decide) ?_
    refine W.widen (k := cells + 16) (n := slots + 1400) (by omega) (by omega) ?_
    exact kk _ _ _ _ _ hP hD hS (lv_sub hl [2, 3, 4, 5, 6, 7] rfl)
set_option maxHeartbeats 4000000 in
set_option maxRecDepth 100000 in
theorem lc_21 {l : Launch} {p : Program} {e : Env} {s : State} {m : MethodId} {below : List Frame} {meth : Method} {c : Code} {Q : State → Prop} {b L : Nat} {xs : Nat → Int32} {D : va_G} {sw : Sw} {cs : Cs} {cq : ClassId × ClassId} (K : LK l p s m c b L xs D sw cs cq) {ad am : Nat → Nat} {M N : Mm} {o od : Nat} {f : Nat → Int64} {g : Nat → UInt64} {i x1 x2 : Int32} (hi1 : vp_in (i + 1) L) (hi2 : vp_in (i + 2) L) (hx1 : xs (i + 1).toNatClampNeg = x1) (hx2 : xs (i + 2).toNatClampNeg = x2) {oc : Int32 ⊕ Nat} {M1 N1 : Mm} {bv : Int32} (hq : gX7_work M = some (oc, M1)) (hk : ∀ k, oc = .inr k → k ∈ ([1] : List Nat)) (hm : gX8_work N = some (bv, N1)) (ht : N1 0 0 = hN [1] oc) (hv : ∀ v, oc = .inl v → v = bv) {cells slots : Nat} (hcs : cells + 16 ≤ room_1.cells) (hss : slots + 1400 ≤ room_1.slots) {H : Heap} {locs : List Loc} {ls : Array Slot} (hP : va_P D vwCl (wC cs ad am M N (outs cq o od f g)) H) (hD : va_D (AL s) (wC cs ad am M N (outs cq o od f g))) (hS : va_S (AL s) s.heap H locs) (hl : lv_has ls 9 (lLv b ad am o od i))
    (kk : ∀ (f : Nat → Int64) (g : Nat → UInt64) (H : Heap) (locs : List Loc) (ls : Array Slot), va_P D vwCl (wC cs ad am M1 N1 (outs cq o od f g)) H → va_D (AL s) (wC cs ad am M1 N1 (outs cq o od f g)) → va_S (AL s) s.heap H locs → lv_has ls 9 (lLv b ad am o od i) → W p l e room_1 s m #[Value.ref b] below meth c H locs (cells + 16) (slots + 1400) Q (F0 m 1671 ls [])) : W p l e room_1 s m #[Value.ref b] below meth c H locs cells slots Q (F0 m 1244 ls []) := by
  obtain ⟨CX, hX, hbl, hK, hKL, hSW, hfl⟩ := K
  obtain ⟨hx, hb, hml, hown, hts⟩ := id CX
  have hw : ∀ w ∈ WG, w.before _ s = true := fun w h => hts w (List.mem_cons_of_mem _ h)
  have hA : ∀ q, s.heap.size ≤ q → AL s q := fun _ h => h
  have hbA : ¬ AL s b := Nat.not_le.mpr hbl
  refine lv_aload_n hx hb dL_law_1244 rfl (lv_at hl 2 rfl) ?_
  refine lv_aload_n hx hb dL_law_1245 rfl (lv_at hl 4 rfl) ?_
  refine va_calli (vx_runSW (As := [.ref (ad 0), .ref o]) (rest := []) CX (ctL_work l hfl D sw cs cq ad (wl cs LM NM am N ++ outs cq o od f g) H.size M  hq hk (j := NM + 0) (wx_get rfl)) (vx_cwSW 2 hts (gwW m4_21 m4_22 m1_0 WL_work) rfl rfl rfl (by decide +kernel) ⟨Nat.le_of_ble_eq_true rfl, Nat.le_of_ble_eq_true rfl⟩) (lPreS hSW hS hA hK hKL hP hD _) rfl rfl hl.1 rfl (lv_room (Nat.le_of_ble_eq_true rfl)) dL_law_1246 ⟨Nat.le_trans (show _ ≤ cells + 16 by omega) hcs, Nat.le_trans (show _ ≤ slots + 1400 by omega) hss⟩) hS (fun q _ h => wA_free hD hS hA q h) (wA_free hD hS hA) (fun r u t H1 locs ht9 _ hr1 hB _ _ hS => ?_)
  subst hr1
  rw [ht9] at hB
  rw [oX_out] at hB
  have hP : va_P D vwCl (wC cs ad am M1 N (outs cq o od (fo f oc) g)) H1 := hB
  have hD : va_D (AL s) (wC cs ad am M1 N (outs cq o od (fo f oc) g)) := lawD hD
  generalize H1 = H at hP hS ⊢
  refine lv_istore (lv' := [(6, .int (hN [1] oc)), (5, .int i), (0, .ref b), (1, .ref (ad 0)), (2, .ref (am 0)), (3, .ref o), (4, .ref od)]) hx hb dL_law_1249 hl (by decide) rfl (fun ls hl => ?_)
  refine lv_aload_n hx hb dL_law_1251 rfl (lv_at hl 4 rfl) ?_
  have hP2 := sw3P hP
  have hD2 := sw3D hD
  refine w_calli (va_runV (As := []) (rest := []) CX (ctX8_work l D sw cs am (wl cs LC NC ad M1 ++ outs cq o od (fo f oc) g) H.size N  hm) (cwV 0 hts (gwV m5_171 m5_172 m5_173 m1_7 m5_174) rfl rfl rfl (by decide +kernel) ⟨Nat.le_of_ble_eq_true rfl, Nat.le_of_ble_eq_true rfl⟩) (wPreV hSW hS hA hK hP2 hD2 (by decide) rfl rfl _) rfl rfl hl.1 rfl (lv_room (Nat.le_of_ble_eq_true rfl)) dL_law_1252 ⟨Nat.le_trans (show _ ≤ cells + 16 by omega) hcs, Nat.le_trans (show _ ≤ slots + 1400 by omega) hss⟩) hD2 hS hA (fun H locs hP2 hD2 hS => ?_)
  have hP : va_P D vwCl (wC cs ad am M1 N1 (outs cq o od (fo f oc) g)) H := sw3P hP2
  have hD : va_D (AL s) (wC cs ad am M1 N1 (outs cq o od (fo f oc) g)) := sw3D hD2
  refine lv_istore (lv' := [(7, .int bv), (6, .int (hN [1] oc)), (5, .int i), (0, .ref b), (1, .ref (ad 0)), (2, .ref (am 0)), (3, .ref o), (4, .ref od)]) hx hb dL_law_1255 hl (by decide) rfl (fun ls hl => ?_)
  refine lv_aload_n hx hb dL_law_1257 rfl (lv_at hl 5 rfl) ?_
  have hP2 := sw3P hP
  refine r_calli (r := N1 0 0) (W.runV (As := []) (rest := []) CX (ctX8_thrown l D sw cs am (wl cs LC NC ad M1 ++ outs cq o od (fo f oc) g) N1 rfl) (cwV 0 hts (gwV m4_162 m4_163 m4_164 m1_7 m4_165) rfl rfl rfl (by decide +kernel) ⟨Nat.le_of_ble_eq_true rfl, Nat.le_of_ble_eq_true rfl⟩) (rPreV (hSW.wr hS) hK hP2 (by decide) rfl rfl _) rfl rfl hl.1 rfl (lv_room (Nat.le_of_ble_eq_true rfl)) dL_law_1258 ⟨Nat.le_trans (show _ ≤ cells + 16 by omega) hcs, Nat.le_trans (show _ ≤ slots + 1400 by omega) hss⟩) ?_
  refine lv_iload hx hb dL_law_1261 (lv_at hl 1 rfl) ?_
  refine lv_icmp_eq (tgt := 1268) hx hb dL_law_1263 (by decide) (fun _ => ?_) (fun h9 => absurd ht h9)
  refine lv_iload hx hb dL_law_1268 (lv_at hl 1 rfl) ?_
  rcases oc with v | k9
  · refine lv_if_ne (tgt := 1285) hx hb dL_law_1270 (by decide) (fun h9 => absurd rfl h9) (fun _ => ?_)
    refine lv_aload_n hx hb dL_law_1273 rfl (lv_at hl 6 rfl) ?_
    refine lv_iconst (v := 0) hx hb dL_law_1274 (by decide) ?_
    refine va_lald (n := 1) hx hb hKL hP (NC + (NM + 0)) 0 out_get rfl (by unfold vp_in; decide) dL_law_1275 ?_
    rw [fo_0]
    refine lv_iload hx hb dL_law_1276 (lv_at hl 0 rfl) ?_
    refine lv_i2l hx hb dL_law_1278 rfl ?_
    refine W.lcmp hx hb dL_law_1279 ?_
    refine lv_if_eq (tgt := 1285) hx hb dL_law_1280 (by decide) (fun _ => ?_) (fun h9 => absurd (by rw [hv v rfl]; exact lcmp_self _) h9)
    refine lv_goto (tgt := 1671) hx hb dL_law_1285 (by decide) ?_
    refine W.widen (k := cells + 16) (n := slots + 1400) (by omega) (by omega) ?_
    exact kk _ _ _ _ _ hP hD hS (lv_sub hl [2, 3, 4, 5, 6, 7] rfl)
  · have hk9 := hk k9 rfl
    refine lv_if_ne (tgt := 1285) hx hb dL_law_1270 (by decide) (fun _ => ?_) (fun h9 => absurd h9 (hN_ne (by simpa using hk9)))
    refine lv_goto (tgt := 1671) hx hb dL_law_1285 (by decide) ?_
    refine W.widen (k := cells + 16) (n := slots + 1400) (by omega) (by omega) ?_
    exact kk _ _ _ _ _ hP hD hS (lv_sub hl [2, 3, 4, 5, 6, 7] rfl)
set_option maxHeartbeats 4000000 in
set_option maxRecDepth 100000 in
theorem lc_22 {l : Launch} {p : Program} {e : Env} {s : State} {m : MethodId} {below : List Frame} {meth : Method} {c : Code} {Q : State → Prop} {b L : Nat} {xs : Nat → Int32} {D : va_G} {sw : Sw} {cs : Cs} {cq : ClassId × ClassId} (K : LK l p s m c b L xs D sw cs cq) {ad am : Nat → Nat} {M N : Mm} {o od : Nat} {f : Nat → Int64} {g : Nat → UInt64} {i x1 x2 : Int32} (hi1 : vp_in (i + 1) L) (hi2 : vp_in (i + 2) L) (hx1 : xs (i + 1).toNatClampNeg = x1) (hx2 : xs (i + 2).toNatClampNeg = x2) {oc : UInt64 ⊕ Nat} {M1 N1 : Mm} {bv : UInt64} (hq : gX7_gain M = some (oc, M1)) (hk : ∀ k, oc = .inr k → k ∈ ([1] : List Nat)) (hm : gX8_gain N = some (bv, N1)) (ht : N1 0 0 = hN [1] oc) (hv : ∀ v, oc = .inl v → v = bv ∧ vf_n64 v) {cells slots : Nat} (hcs : cells + 16 ≤ room_1.cells) (hss : slots + 1400 ≤ room_1.slots) {H : Heap} {locs : List Loc} {ls : Array Slot} (hP : va_P D vwCl (wC cs ad am M N (outs cq o od f g)) H) (hD : va_D (AL s) (wC cs ad am M N (outs cq o od f g))) (hS : va_S (AL s) s.heap H locs) (hl : lv_has ls 9 (lLv b ad am o od i))
    (kk : ∀ (f : Nat → Int64) (g : Nat → UInt64) (H : Heap) (locs : List Loc) (ls : Array Slot), va_P D vwCl (wC cs ad am M1 N1 (outs cq o od f g)) H → va_D (AL s) (wC cs ad am M1 N1 (outs cq o od f g)) → va_S (AL s) s.heap H locs → lv_has ls 9 (lLv b ad am o od i) → W p l e room_1 s m #[Value.ref b] below meth c H locs (cells + 16) (slots + 1400) Q (F0 m 1671 ls [])) : W p l e room_1 s m #[Value.ref b] below meth c H locs cells slots Q (F0 m 1288 ls []) := by
  obtain ⟨CX, hX, hbl, hK, hKL, hSW, hfl⟩ := K
  obtain ⟨hx, hb, hml, hown, hts⟩ := id CX
  have hw : ∀ w ∈ WG, w.before _ s = true := fun w h => hts w (List.mem_cons_of_mem _ h)
  have hA : ∀ q, s.heap.size ≤ q → AL s q := fun _ h => h
  have hbA : ¬ AL s b := Nat.not_le.mpr hbl
  refine lv_aload_n hx hb dL_law_1288 rfl (lv_at hl 2 rfl) ?_
  refine lv_aload hx hb dL_law_1289 (lv_at hl 5 rfl) ?_
  refine va_calli (vx_runSW (As := [.ref (ad 0), .ref od]) (rest := []) CX (ctL_gain l hfl D sw cs cq ad (wl cs LM NM am N ++ outs cq o od f g) H.size M  hq hk (j := NM + 1) (wx_get rfl)) (vx_cwSW 2 hts (gwW m4_32 m4_33 m1_0 WL_gain) rfl rfl rfl (by decide +kernel) ⟨Nat.le_of_ble_eq_true rfl, Nat.le_of_ble_eq_true rfl⟩) (lPreS hSW hS hA hK hKL hP hD _) rfl rfl hl.1 rfl (lv_room (Nat.le_of_ble_eq_true rfl)) dL_law_1291 ⟨Nat.le_trans (show _ ≤ cells + 16 by omega) hcs, Nat.le_trans (show _ ≤ slots + 1400 by omega) hss⟩) hS (fun q _ h => wA_free hD hS hA q h) (wA_free hD hS hA) (fun r u t H1 locs ht9 _ hr1 hB _ _ hS => ?_)
  subst hr1
  rw [ht9] at hB
  rw [oD_out] at hB
  have hP : va_P D vwCl (wC cs ad am M1 N (outs cq o od f (gof g oc))) H1 := hB
  have hD : va_D (AL s) (wC cs ad am M1 N (outs cq o od f (gof g oc))) := lawD hD
  generalize H1 = H at hP hS ⊢
  refine lv_istore (lv' := [(6, .int (hN [1] oc)), (5, .int i), (0, .ref b), (1, .ref (ad 0)), (2, .ref (am 0)), (3, .ref o), (4, .ref od)]) hx hb dL_law_1294 hl (by decide) rfl (fun ls hl => ?_)
  refine lv_aload_n hx hb dL_law_1296 rfl (lv_at hl 4 rfl) ?_
  have hP2 := sw3P hP
  have hD2 := sw3D hD
  refine w_calld (va_runV (As := []) (rest := []) CX (ctX8_gain l D sw cs am (wl cs LC NC ad M1 ++ outs cq o od f (gof g oc)) H.size N  hm) (cwV 0 hts (gwV m5_179 m5_180 m5_181 m1_7 m5_182) rfl rfl rfl (by decide +kernel) ⟨Nat.le_of_ble_eq_true rfl, Nat.le_of_ble_eq_true rfl⟩) (wPreV hSW hS hA hK hP2 hD2 (by decide) rfl rfl _) rfl rfl hl.1 rfl (lv_room (Nat.le_of_ble_eq_true rfl)) dL_law_1297 ⟨Nat.le_trans (show _ ≤ cells + 16 by omega) hcs, Nat.le_trans (show _ ≤ slots + 1400 by omega) hss⟩) hD2 hS hA (fun H locs hP2 hD2 hS => ?_)
  have hP : va_P D vwCl (wC cs ad am M1 N1 (outs cq o od f (gof g oc))) H := sw3P hP2
  have hD : va_D (AL s) (wC cs ad am M1 N1 (outs cq o od f (gof g oc))) := sw3D hD2
  refine lv_dstore (lv' := [(7, .double bv), (6, .int (hN [1] oc)), (5, .int i), (0, .ref b), (1, .ref (ad 0)), (2, .ref (am 0)), (3, .ref o), (4, .ref od)]) hx hb dL_law_1300 hl (by decide) rfl (fun ls hl => ?_)
  refine lv_aload_n hx hb dL_law_1302 rfl (lv_at hl 5 rfl) ?_
  have hP2 := sw3P hP
  refine r_calli (r := N1 0 0) (W.runV (As := []) (rest := []) CX (ctX8_thrown l D sw cs am (wl cs LC NC ad M1 ++ outs cq o od f (gof g oc)) N1 rfl) (cwV 0 hts (gwV m4_162 m4_163 m4_164 m1_7 m4_165) rfl rfl rfl (by decide +kernel) ⟨Nat.le_of_ble_eq_true rfl, Nat.le_of_ble_eq_true rfl⟩) (rPreV (hSW.wr hS) hK hP2 (by decide) rfl rfl _) rfl rfl hl.1 rfl (lv_room (Nat.le_of_ble_eq_true rfl)) dL_law_1303 ⟨Nat.le_trans (show _ ≤ cells + 16 by omega) hcs, Nat.le_trans (show _ ≤ slots + 1400 by omega) hss⟩) ?_
  refine lv_iload hx hb dL_law_1306 (lv_at hl 1 rfl) ?_
  refine lv_icmp_eq (tgt := 1313) hx hb dL_law_1308 (by decide) (fun _ => ?_) (fun h9 => absurd ht h9)
  refine lv_iload hx hb dL_law_1313 (lv_at hl 1 rfl) ?_
  rcases oc with v | k9
  · refine lv_if_ne (tgt := 1350) hx hb dL_law_1315 (by decide) (fun h9 => absurd rfl h9) (fun _ => ?_)
    refine lv_aload hx hb dL_law_1318 (lv_at hl 7 rfl) ?_
    refine lv_iconst (v := 0) hx hb dL_law_1320 (by decide) ?_
    refine va_dald (n := 1) hx hb hKL hP (NC + (NM + 1)) 1 outD_get rfl (by unfold vp_in; decide) dL_law_1321 ?_
    rw [gof_0]
    refine lv_dload hx hb dL_law_1322 (lv_at hl 0 rfl) ?_
    refine lv_dcmp hx hb dL_law_1324 ?_
    refine lv_if_eq (tgt := 1350) hx hb dL_law_1325 (by decide) (fun _ => ?_) (fun h9 => absurd (by rw [(hv v rfl).1]; exact dcmp_same ((hv v rfl).1 ▸ (hv v rfl).2) _) h9)
    refine lv_goto (tgt := 1671) hx hb dL_law_1350 (by decide) ?_
    refine W.widen (k := cells + 16) (n := slots + 1400) (by omega) (by omega) ?_
    exact kk _ _ _ _ _ hP hD hS (lv_sub hl [2, 3, 4, 5, 6, 7] rfl)
  · have hk9 := hk k9 rfl
    refine lv_if_ne (tgt := 1350) hx hb dL_law_1315 (by decide) (fun _ => ?_) (fun h9 => absurd h9 (hN_ne (by simpa using hk9)))
    refine lv_goto (tgt := 1671) hx hb dL_law_1350 (by decide) ?_
    refine W.widen (k := cells + 16) (n := slots + 1400) (by omega) (by omega) ?_
    exact kk _ _ _ _ _ hP hD hS (lv_sub hl [2, 3, 4, 5, 6, 7] rfl)
set_option maxHeartbeats 4000000 in
set_option maxRecDepth 100000 in
theorem lc_23 {l : Launch} {p : Program} {e : Env} {s : State} {m : MethodId} {below : List Frame} {meth : Method} {c : Code} {Q : State → Prop} {b L : Nat} {xs : Nat → Int32} {D : va_G} {sw : Sw} {cs : Cs} {cq : ClassId × ClassId} (K : LK l p s m c b L xs D sw cs cq) {ad am : Nat → Nat} {M N : Mm} {o od : Nat} {f : Nat → Int64} {g : Nat → UInt64} {i x1 x2 : Int32} (hi1 : vp_in (i + 1) L) (hi2 : vp_in (i + 2) L) (hx1 : xs (i + 1).toNatClampNeg = x1) (hx2 : xs (i + 2).toNatClampNeg = x2) {oc : Int32 ⊕ Nat} {M1 N1 : Mm} {bv : Int32} (hq : gX7_stack M x1 x2 = some (oc, M1)) (hk : ∀ k, oc = .inr k → k ∈ ([2, 1] : List Nat)) (hm : gX8_stack N x1 x2 = some (bv, N1)) (ht : N1 0 0 = hN [2, 1] oc) (hv : ∀ v, oc = .inl v → v = bv) {cells slots : Nat} (hcs : cells + 16 ≤ room_1.cells) (hss : slots + 1400 ≤ room_1.slots) {H : Heap} {locs : List Loc} {ls : Array Slot} (hP : va_P D vwCl (wC cs ad am M N (outs cq o od f g)) H) (hD : va_D (AL s) (wC cs ad am M N (outs cq o od f g))) (hS : va_S (AL s) s.heap H locs) (hl : lv_has ls 9 (lLv b ad am o od i))
    (kk : ∀ (f : Nat → Int64) (g : Nat → UInt64) (H : Heap) (locs : List Loc) (ls : Array Slot), va_P D vwCl (wC cs ad am M1 N1 (outs cq o od f g)) H → va_D (AL s) (wC cs ad am M1 N1 (outs cq o od f g)) → va_S (AL s) s.heap H locs → lv_has ls 9 (lLv b ad am o od i) → W p l e room_1 s m #[Value.ref b] below meth c H locs (cells + 16) (slots + 1400) Q (F0 m 1671 ls [])) : W p l e room_1 s m #[Value.ref b] below meth c H locs cells slots Q (F0 m 1353 ls []) := by
  obtain ⟨CX, hX, hbl, hK, hKL, hSW, hfl⟩ := K
  obtain ⟨hx, hb, hml, hown, hts⟩ := id CX
  have hw : ∀ w ∈ WG, w.before _ s = true := fun w h => hts w (List.mem_cons_of_mem _ h)
  have hA : ∀ q, s.heap.size ≤ q → AL s q := fun _ h => h
  have hbA : ¬ AL s b := Nat.not_le.mpr hbl
  refine lv_aload_n hx hb dL_law_1353 rfl (lv_at hl 2 rfl) ?_
  refine lv_aload_n hx hb dL_law_1354 rfl (lv_at hl 1 rfl) ?_
  refine lv_iload hx hb dL_law_1355 (lv_at hl 0 rfl) ?_
  refine lv_iconst (v := 1) hx hb dL_law_1357 (by decide) ?_
  refine lv_iadd hx hb dL_law_1358 ?_
  refine va_sld hx hb hX hbl hbA hS hi1 dL_law_1359 ?_
  rw [hx1]
  refine lv_aload_n hx hb dL_law_1360 rfl (lv_at hl 1 rfl) ?_
  refine lv_iload hx hb dL_law_1361 (lv_at hl 0 rfl) ?_
  refine lv_iconst (v := 2) hx hb dL_law_1363 (by decide) ?_
  refine lv_iadd hx hb dL_law_1364 ?_
  refine va_sld hx hb hX hbl hbA hS hi2 dL_law_1365 ?_
  rw [hx2]
  refine lv_aload_n hx hb dL_law_1366 rfl (lv_at hl 4 rfl) ?_
  refine va_calli (vx_runSW (As := [.ref (ad 0), .int x1, .int x2, .ref o]) (rest := []) CX (ctL_stack l hfl D sw cs cq ad (wl cs LM NM am N ++ outs cq o od f g) H.size M (x1) (x2) hq hk (j := NM + 0) (wx_get rfl)) (vx_cwSW 4 hts (gwW m4_39 m4_40 m1_0 WL_stack) rfl rfl rfl (by decide +kernel) ⟨Nat.le_of_ble_eq_true rfl, Nat.le_of_ble_eq_true rfl⟩) (lPreS hSW hS hA hK hKL hP hD _) rfl rfl hl.1 rfl (lv_room (Nat.le_of_ble_eq_true rfl)) dL_law_1367 ⟨Nat.le_trans (show _ ≤ cells + 16 by omega) hcs, Nat.le_trans (show _ ≤ slots + 1400 by omega) hss⟩) hS (fun q _ h => wA_free hD hS hA q h) (wA_free hD hS hA) (fun r u t H1 locs ht9 _ hr1 hB _ _ hS => ?_)
  subst hr1
  rw [ht9] at hB
  rw [oX_out] at hB
  have hP : va_P D vwCl (wC cs ad am M1 N (outs cq o od (fo f oc) g)) H1 := hB
  have hD : va_D (AL s) (wC cs ad am M1 N (outs cq o od (fo f oc) g)) := lawD hD
  generalize H1 = H at hP hS ⊢
  refine lv_istore (lv' := [(6, .int (hN [2, 1] oc)), (5, .int i), (0, .ref b), (1, .ref (ad 0)), (2, .ref (am 0)), (3, .ref o), (4, .ref od)]) hx hb dL_law_1370 hl (by decide) rfl (fun ls hl => ?_)
  refine lv_aload_n hx hb dL_law_1372 rfl (lv_at hl 4 rfl) ?_
  refine lv_aload_n hx hb dL_law_1373 rfl (lv_at hl 2 rfl) ?_
  refine lv_iload hx hb dL_law_1374 (lv_at hl 1 rfl) ?_
  refine lv_iconst (v := 1) hx hb dL_law_1376 (by decide) ?_
  refine lv_iadd hx hb dL_law_1377 ?_
  refine va_sld hx hb hX hbl hbA hS hi1 dL_law_1378 ?_
  rw [hx1]
  refine lv_aload_n hx hb dL_law_1379 rfl (lv_at hl 2 rfl) ?_
  refine lv_iload hx hb dL_law_1380 (lv_at hl 1 rfl) ?_
  refine lv_iconst (v := 2) hx hb dL_law_1382 (by decide) ?_
  refine lv_iadd hx hb dL_law_1383 ?_
  refine va_sld hx hb hX hbl hbA hS hi2 dL_law_1384 ?_
  rw [hx2]
  have hP2 := sw3P hP
  have hD2 := sw3D hD
  refine w_calli (va_runV (As := [.int x1, .int x2]) (rest := []) CX (ctX8_stack l D sw cs am (wl cs LC NC ad M1 ++ outs cq o od (fo f oc) g) H.size N (x1) (x2) hm) (cwV 2 hts (gwV m5_183 m5_184 m5_185 m1_7 m5_186) rfl rfl rfl (by decide +kernel) ⟨Nat.le_of_ble_eq_true rfl, Nat.le_of_ble_eq_true rfl⟩) (wPreV hSW hS hA hK hP2 hD2 (by decide) rfl rfl _) rfl rfl hl.1 rfl (lv_room (Nat.le_of_ble_eq_true rfl)) dL_law_1385 ⟨Nat.le_trans (show _ ≤ cells + 16 by omega) hcs, Nat.le_trans (show _ ≤ slots + 1400 by omega) hss⟩) hD2 hS hA (fun H locs hP2 hD2 hS => ?_)
  have hP : va_P D vwCl (wC cs ad am M1 N1 (outs cq o od (fo f oc) g)) H := sw3P hP2
  have hD : va_D (AL s) (wC cs ad am M1 N1 (outs cq o od (fo f oc) g)) := sw3D hD2
  refine lv_istore (lv' := [(7, .int bv), (6, .int (hN [2, 1] oc)), (5, .int i), (0, .ref b), (1, .ref (ad 0)), (2, .ref (am 0)), (3, .ref o), (4, .ref od)]) hx hb dL_law_1388 hl (by decide) rfl (fun ls hl => ?_)
  refine lv_aload_n hx hb dL_law_1390 rfl (lv_at hl 5 rfl) ?_
  have hP2 := sw3P hP
  refine r_calli (r := N1 0 0) (W.runV (As := []) (rest := []) CX (ctX8_thrown l D sw cs am (wl cs LC NC ad M1 ++ outs cq o od (fo f oc) g) N1 rfl) (cwV 0 hts (gwV m4_162 m4_163 m4_164 m1_7 m4_165) rfl rfl rfl (by decide +kernel) ⟨Nat.le_of_ble_eq_true rfl, Nat.le_of_ble_eq_true rfl⟩) (rPreV (hSW.wr hS) hK hP2 (by decide) rfl rfl _) rfl rfl hl.1 rfl (lv_room (Nat.le_of_ble_eq_true rfl)) dL_law_1391 ⟨Nat.le_trans (show _ ≤ cells + 16 by omega) hcs, Nat.le_trans (show _ ≤ slots + 1400 by omega) hss⟩) ?_
  refine lv_iload hx hb dL_law_1394 (lv_at hl 1 rfl) ?_
  refine lv_icmp_eq (tgt := 1401) hx hb dL_law_1396 (by decide) (fun _ => ?_) (fun h9 => absurd ht h9)
  refine lv_iload hx hb dL_law_1401 (lv_at hl 1 rfl) ?_
  rcases oc with v | k9
  · refine lv_if_ne (tgt := 1418) hx hb dL_law_1403 (by decide) (fun h9 => absurd rfl h9) (fun _ => ?_)
    refine lv_aload_n hx hb dL_law_1406 rfl (lv_at hl 6 rfl) ?_
    refine lv_iconst (v := 0) hx hb dL_law_1407 (by decide) ?_
    refine va_lald (n := 1) hx hb hKL hP (NC + (NM + 0)) 0 out_get rfl (by unfold vp_in; decide) dL_law_1408 ?_
    rw [fo_0]
    refine lv_iload hx hb dL_law_1409 (lv_at hl 0 rfl) ?_
    refine lv_i2l hx hb dL_law_1411 rfl ?_
    refine W.lcmp hx hb dL_law_1412 ?_
    refine lv_if_eq (tgt := 1418) hx hb dL_law_1413 (by decide) (fun _ => ?_) (fun h9 => absurd (by rw [hv v rfl]; exact lcmp_self _) h9)
    refine lv_goto (tgt := 1671) hx hb dL_law_1418 (by decide) ?_
    refine W.widen (k := cells + 16) (n := slots + 1400) (by omega) (by omega) ?_
    exact kk _ _ _ _ _ hP hD hS (lv_sub hl [2, 3, 4, 5, 6, 7] rfl)
  · have hk9 := hk k9 rfl
    refine lv_if_ne (tgt := 1418) hx hb dL_law_1403 (by decide) (fun _ => ?_) (fun h9 => absurd h9 (hN_ne (by simpa using hk9)))
    refine lv_goto (tgt := 1671) hx hb dL_law_1418 (by decide) ?_
    refine W.widen (k := cells + 16) (n := slots + 1400) (by omega) (by omega) ?_
    exact kk _ _ _ _ _ hP hD hS (lv_sub hl [2, 3, 4, 5, 6, 7] rfl)
set_option maxHeartbeats 4000000 in
set_option maxRecDepth 100000 in
theorem lc_24 {l : Launch} {p : Program} {e : Env} {s : State} {m : MethodId} {below : List Frame} {meth : Method} {c : Code} {Q : State → Prop} {b L : Nat} {xs : Nat → Int32} {D : va_G} {sw : Sw} {cs : Cs} {cq : ClassId × ClassId} (K : LK l p s m c b L xs D sw cs cq) {ad am : Nat → Nat} {M N : Mm} {o od : Nat} {f : Nat → Int64} {g : Nat → UInt64} {i x1 x2 : Int32} (hi1 : vp_in (i + 1) L) (hi2 : vp_in (i + 2) L) (hx1 : xs (i + 1).toNatClampNeg = x1) (hx2 : xs (i + 2).toNatClampNeg = x2) {oc : Int32 ⊕ Nat} {M1 N1 : Mm} {bv : Int32} (hq : gX7_outputs M x1 = some (oc, M1)) (hk : ∀ k, oc = .inr k → k ∈ ([2, 1, 3] : List Nat)) (hm : gX8_outputs N x1 = some (bv, N1)) (ht : N1 0 0 = hN [2, 1, 3] oc) (hv : ∀ v, oc = .inl v → v = bv) {cells slots : Nat} (hcs : cells + 16 ≤ room_1.cells) (hss : slots + 1400 ≤ room_1.slots) {H : Heap} {locs : List Loc} {ls : Array Slot} (hP : va_P D vwCl (wC cs ad am M N (outs cq o od f g)) H) (hD : va_D (AL s) (wC cs ad am M N (outs cq o od f g))) (hS : va_S (AL s) s.heap H locs) (hl : lv_has ls 9 (lLv b ad am o od i))
    (kk : ∀ (f : Nat → Int64) (g : Nat → UInt64) (H : Heap) (locs : List Loc) (ls : Array Slot), va_P D vwCl (wC cs ad am M1 N1 (outs cq o od f g)) H → va_D (AL s) (wC cs ad am M1 N1 (outs cq o od f g)) → va_S (AL s) s.heap H locs → lv_has ls 9 (lLv b ad am o od i) → W p l e room_1 s m #[Value.ref b] below meth c H locs (cells + 16) (slots + 1400) Q (F0 m 1671 ls [])) : W p l e room_1 s m #[Value.ref b] below meth c H locs cells slots Q (F0 m 1421 ls []) := by
  obtain ⟨CX, hX, hbl, hK, hKL, hSW, hfl⟩ := K
  obtain ⟨hx, hb, hml, hown, hts⟩ := id CX
  have hw : ∀ w ∈ WG, w.before _ s = true := fun w h => hts w (List.mem_cons_of_mem _ h)
  have hA : ∀ q, s.heap.size ≤ q → AL s q := fun _ h => h
  have hbA : ¬ AL s b := Nat.not_le.mpr hbl
  refine lv_aload_n hx hb dL_law_1421 rfl (lv_at hl 2 rfl) ?_
  refine lv_aload_n hx hb dL_law_1422 rfl (lv_at hl 1 rfl) ?_
  refine lv_iload hx hb dL_law_1423 (lv_at hl 0 rfl) ?_
  refine lv_iconst (v := 1) hx hb dL_law_1425 (by decide) ?_
  refine lv_iadd hx hb dL_law_1426 ?_
  refine va_sld hx hb hX hbl hbA hS hi1 dL_law_1427 ?_
  rw [hx1]
  refine lv_aload_n hx hb dL_law_1428 rfl (lv_at hl 4 rfl) ?_
  refine va_calli (vx_runSW (As := [.ref (ad 0), .int x1, .ref o]) (rest := []) CX (ctL_outputs l hfl D sw cs cq ad (wl cs LM NM am N ++ outs cq o od f g) H.size M (x1) hq hk (j := NM + 0) (wx_get rfl)) (vx_cwSW 3 hts (gwW m4_50 m4_51 m1_0 WL_outputs) rfl rfl rfl (by decide +kernel) ⟨Nat.le_of_ble_eq_true rfl, Nat.le_of_ble_eq_true rfl⟩) (lPreS hSW hS hA hK hKL hP hD _) rfl rfl hl.1 rfl (lv_room (Nat.le_of_ble_eq_true rfl)) dL_law_1429 ⟨Nat.le_trans (show _ ≤ cells + 16 by omega) hcs, Nat.le_trans (show _ ≤ slots + 1400 by omega) hss⟩) hS (fun q _ h => wA_free hD hS hA q h) (wA_free hD hS hA) (fun r u t H1 locs ht9 _ hr1 hB _ _ hS => ?_)
  subst hr1
  rw [ht9] at hB
  rw [oX_out] at hB
  have hP : va_P D vwCl (wC cs ad am M1 N (outs cq o od (fo f oc) g)) H1 := hB
  have hD : va_D (AL s) (wC cs ad am M1 N (outs cq o od (fo f oc) g)) := lawD hD
  generalize H1 = H at hP hS ⊢
  refine lv_istore (lv' := [(6, .int (hN [2, 1, 3] oc)), (5, .int i), (0, .ref b), (1, .ref (ad 0)), (2, .ref (am 0)), (3, .ref o), (4, .ref od)]) hx hb dL_law_1432 hl (by decide) rfl (fun ls hl => ?_)
  refine lv_aload_n hx hb dL_law_1434 rfl (lv_at hl 4 rfl) ?_
  refine lv_aload_n hx hb dL_law_1435 rfl (lv_at hl 2 rfl) ?_
  refine lv_iload hx hb dL_law_1436 (lv_at hl 1 rfl) ?_
  refine lv_iconst (v := 1) hx hb dL_law_1438 (by decide) ?_
  refine lv_iadd hx hb dL_law_1439 ?_
  refine va_sld hx hb hX hbl hbA hS hi1 dL_law_1440 ?_
  rw [hx1]
  have hP2 := sw3P hP
  have hD2 := sw3D hD
  refine w_calli (va_runV (As := [.int x1]) (rest := []) CX (ctX8_outputs l D sw cs am (wl cs LC NC ad M1 ++ outs cq o od (fo f oc) g) H.size N (x1) hm) (cwV 1 hts (gwV m5_187 m5_188 m5_189 m1_7 m5_190) rfl rfl rfl (by decide +kernel) ⟨Nat.le_of_ble_eq_true rfl, Nat.le_of_ble_eq_true rfl⟩) (wPreV hSW hS hA hK hP2 hD2 (by decide) rfl rfl _) rfl rfl hl.1 rfl (lv_room (Nat.le_of_ble_eq_true rfl)) dL_law_1441 ⟨Nat.le_trans (show _ ≤ cells + 16 by omega) hcs, Nat.le_trans (show _ ≤ slots + 1400 by omega) hss⟩) hD2 hS hA (fun H locs hP2 hD2 hS => ?_)
  have hP : va_P D vwCl (wC cs ad am M1 N1 (outs cq o od (fo f oc) g)) H := sw3P hP2
  have hD : va_D (AL s) (wC cs ad am M1 N1 (outs cq o od (fo f oc) g)) := sw3D hD2
  refine lv_istore (lv' := [(7, .int bv), (6, .int (hN [2, 1, 3] oc)), (5, .int i), (0, .ref b), (1, .ref (ad 0)), (2, .ref (am 0)), (3, .ref o), (4, .ref od)]) hx hb dL_law_1444 hl (by decide) rfl (fun ls hl => ?_)
  refine lv_aload_n hx hb dL_law_1446 rfl (lv_at hl 5 rfl) ?_
  have hP2 := sw3P hP
  refine r_calli (r := N1 0 0) (W.runV (As := []) (rest := []) CX (ctX8_thrown l D sw cs am (wl cs LC NC ad M1 ++ outs cq o od (fo f oc) g) N1 rfl) (cwV 0 hts (gwV m4_162 m4_163 m4_164 m1_7 m4_165) rfl rfl rfl (by decide +kernel) ⟨Nat.le_of_ble_eq_true rfl, Nat.le_of_ble_eq_true rfl⟩) (rPreV (hSW.wr hS) hK hP2 (by decide) rfl rfl _) rfl rfl hl.1 rfl (lv_room (Nat.le_of_ble_eq_true rfl)) dL_law_1447 ⟨Nat.le_trans (show _ ≤ cells + 16 by omega) hcs, Nat.le_trans (show _ ≤ slots + 1400 by omega) hss⟩) ?_
  refine lv_iload hx hb dL_law_1450 (lv_at hl 1 rfl) ?_
  refine lv_icmp_eq (tgt := 1457) hx hb dL_law_1452 (by decide) (fun _ => ?_) (fun h9 => absurd ht h9)
  refine lv_iload hx hb dL_law_1457 (lv_at hl 1 rfl) ?_
  rcases oc with v | k9
  · refine lv_if_ne (tgt := 1474) hx hb dL_law_1459 (by decide) (fun h9 => absurd rfl h9) (fun _ => ?_)
    refine lv_aload_n hx hb dL_law_1462 rfl (lv_at hl 6 rfl) ?_
    refine lv_iconst (v := 0) hx hb dL_law_1463 (by decide) ?_
    refine va_lald (n := 1) hx hb hKL hP (NC + (NM + 0)) 0 out_get rfl (by unfold vp_in; decide) dL_law_1464 ?_
    rw [fo_0]
    refine lv_iload hx hb dL_law_1465 (lv_at hl 0 rfl) ?_
    refine lv_i2l hx hb dL_law_1467 rfl ?_
    refine W.lcmp hx hb dL_law_1468 ?_
    refine lv_if_eq (tgt := 1474) hx hb dL_law_1469 (by decide) (fun _ => ?_) (fun h9 => absurd (by rw [hv v rfl]; exact lcmp_self _) h9)
    refine lv_goto (tgt := 1671) hx hb dL_law_1474 (by decide) ?_
    refine W.widen (k := cells + 16) (n := slots + 1400) (by omega) (by omega) ?_
    exact kk _ _ _ _ _ hP hD hS (lv_sub hl [2, 3, 4, 5, 6, 7] rfl)
  · have hk9 := hk k9 rfl
    refine lv_if_ne (tgt := 1474) hx hb dL_law_1459 (by decide) (fun _ => ?_) (fun h9 => absurd h9 (hN_ne (by simpa using hk9)))
    refine lv_goto (tgt := 1671) hx hb dL_law_1474 (by decide) ?_
    refine W.widen (k := cells + 16) (n := slots + 1400) (by omega) (by omega) ?_
    exact kk _ _ _ _ _ hP hD hS (lv_sub hl [2, 3, 4, 5, 6, 7] rfl)
set_option maxHeartbeats 4000000 in
set_option maxRecDepth 100000 in
theorem lc_25 {l : Launch} {p : Program} {e : Env} {s : State} {m : MethodId} {below : List Frame} {meth : Method} {c : Code} {Q : State → Prop} {b L : Nat} {xs : Nat → Int32} {D : va_G} {sw : Sw} {cs : Cs} {cq : ClassId × ClassId} (K : LK l p s m c b L xs D sw cs cq) {ad am : Nat → Nat} {M N : Mm} {o od : Nat} {f : Nat → Int64} {g : Nat → UInt64} {i x1 x2 : Int32} (hi1 : vp_in (i + 1) L) (hi2 : vp_in (i + 2) L) (hx1 : xs (i + 1).toNatClampNeg = x1) (hx2 : xs (i + 2).toNatClampNeg = x2) {oc : Int32 ⊕ Nat} {M1 N1 : Mm} {bv : Int32} (hq : gX7_output M x1 x2 = some (oc, M1)) (hk : ∀ k, oc = .inr k → k ∈ ([2, 1, 3, 0] : List Nat)) (hm : gX8_output N x1 x2 = some (bv, N1)) (ht : N1 0 0 = hN [2, 1, 3, 0] oc) (hv : ∀ v, oc = .inl v → v = bv) {cells slots : Nat} (hcs : cells + 16 ≤ room_1.cells) (hss : slots + 1400 ≤ room_1.slots) {H : Heap} {locs : List Loc} {ls : Array Slot} (hP : va_P D vwCl (wC cs ad am M N (outs cq o od f g)) H) (hD : va_D (AL s) (wC cs ad am M N (outs cq o od f g))) (hS : va_S (AL s) s.heap H locs) (hl : lv_has ls 9 (lLv b ad am o od i))
    (kk : ∀ (f : Nat → Int64) (g : Nat → UInt64) (H : Heap) (locs : List Loc) (ls : Array Slot), va_P D vwCl (wC cs ad am M1 N1 (outs cq o od f g)) H → va_D (AL s) (wC cs ad am M1 N1 (outs cq o od f g)) → va_S (AL s) s.heap H locs → lv_has ls 9 (lLv b ad am o od i) → W p l e room_1 s m #[Value.ref b] below meth c H locs (cells + 16) (slots + 1400) Q (F0 m 1671 ls [])) : W p l e room_1 s m #[Value.ref b] below meth c H locs cells slots Q (F0 m 1477 ls []) := by
  obtain ⟨CX, hX, hbl, hK, hKL, hSW, hfl⟩ := K
  obtain ⟨hx, hb, hml, hown, hts⟩ := id CX
  have hw : ∀ w ∈ WG, w.before _ s = true := fun w h => hts w (List.mem_cons_of_mem _ h)
  have hA : ∀ q, s.heap.size ≤ q → AL s q := fun _ h => h
  have hbA : ¬ AL s b := Nat.not_le.mpr hbl
  refine lv_aload_n hx hb dL_law_1477 rfl (lv_at hl 2 rfl) ?_
  refine lv_aload_n hx hb dL_law_1478 rfl (lv_at hl 1 rfl) ?_
  refine lv_iload hx hb dL_law_1479 (lv_at hl 0 rfl) ?_
  refine lv_iconst (v := 1) hx hb dL_law_1481 (by decide) ?_
  refine lv_iadd hx hb dL_law_1482 ?_
  refine va_sld hx hb hX hbl hbA hS hi1 dL_law_1483 ?_
  rw [hx1]
  refine lv_aload_n hx hb dL_law_1484 rfl (lv_at hl 1 rfl) ?_
  refine lv_iload hx hb dL_law_1485 (lv_at hl 0 rfl) ?_
  refine lv_iconst (v := 2) hx hb dL_law_1487 (by decide) ?_
  refine lv_iadd hx hb dL_law_1488 ?_
  refine va_sld hx hb hX hbl hbA hS hi2 dL_law_1489 ?_
  rw [hx2]
  refine lv_aload_n hx hb dL_law_1490 rfl (lv_at hl 4 rfl) ?_
  refine va_calli (vx_runSW (As := [.ref (ad 0), .int x1, .int x2, .ref o]) (rest := []) CX (ctL_output l hfl D sw cs cq ad (wl cs LM NM am N ++ outs cq o od f g) H.size M (x1) (x2) hq hk (j := NM + 0) (wx_get rfl)) (vx_cwSW 4 hts (gwW m4_78 m4_79 m1_0 WL_output) rfl rfl rfl (by decide +kernel) ⟨Nat.le_of_ble_eq_true rfl, Nat.le_of_ble_eq_true rfl⟩) (lPreS hSW hS hA hK hKL hP hD _) rfl rfl hl.1 rfl (lv_room (Nat.le_of_ble_eq_true rfl)) dL_law_1491 ⟨Nat.le_trans (show _ ≤ cells + 16 by omega) hcs, Nat.le_trans (show _ ≤ slots + 1400 by omega) hss⟩) hS (fun q _ h => wA_free hD hS hA q h) (wA_free hD hS hA) (fun r u t H1 locs ht9 _ hr1 hB _ _ hS => ?_)
  subst hr1
  rw [ht9] at hB
  rw [oX_out] at hB
  have hP : va_P D vwCl (wC cs ad am M1 N (outs cq o od (fo f oc) g)) H1 := hB
  have hD : va_D (AL s) (wC cs ad am M1 N (outs cq o od (fo f oc) g)) := lawD hD
  generalize H1 = H at hP hS ⊢
  refine lv_istore (lv' := [(6, .int (hN [2, 1, 3, 0] oc)), (5, .int i), (0, .ref b), (1, .ref (ad 0)), (2, .ref (am 0)), (3, .ref o), (4, .ref od)]) hx hb dL_law_1494 hl (by decide) rfl (fun ls hl => ?_)
  refine lv_aload_n hx hb dL_law_1496 rfl (lv_at hl 4 rfl) ?_
  refine lv_aload_n hx hb dL_law_1497 rfl (lv_at hl 2 rfl) ?_
  refine lv_iload hx hb dL_law_1498 (lv_at hl 1 rfl) ?_
  refine lv_iconst (v := 1) hx hb dL_law_1500 (by decide) ?_
  refine lv_iadd hx hb dL_law_1501 ?_
  refine va_sld hx hb hX hbl hbA hS hi1 dL_law_1502 ?_
  rw [hx1]
  refine lv_aload_n hx hb dL_law_1503 rfl (lv_at hl 2 rfl) ?_
  refine lv_iload hx hb dL_law_1504 (lv_at hl 1 rfl) ?_
  refine lv_iconst (v := 2) hx hb dL_law_1506 (by decide) ?_
  refine lv_iadd hx hb dL_law_1507 ?_
  refine va_sld hx hb hX hbl hbA hS hi2 dL_law_1508 ?_
  rw [hx2]
  have hP2 := sw3P hP
  have hD2 := sw3D hD
  refine w_calli (va_runV (As := [.int x1, .int x2]) (rest := []) CX (ctX8_output l D sw cs am (wl cs LC NC ad M1 ++ outs cq o od (fo f oc) g) H.size N (x1) (x2) hm) (cwV 2 hts (gwV m5_219 m5_220 m5_221 m1_7 m5_222) rfl rfl rfl (by decide +kernel) ⟨Nat.le_of_ble_eq_true rfl, Nat.le_of_ble_eq_true rfl⟩) (wPreV hSW hS hA hK hP2 hD2 (by decide) rfl rfl _) rfl rfl hl.1 rfl (lv_room (Nat.le_of_ble_eq_true rfl)) dL_law_1509 ⟨Nat.le_trans (show _ ≤ cells + 16 by omega) hcs, Nat.le_trans (show _ ≤ slots + 1400 by omega) hss⟩) hD2 hS hA (fun H locs hP2 hD2 hS => ?_)
  have hP : va_P D vwCl (wC cs ad am M1 N1 (outs cq o od (fo f oc) g)) H := sw3P hP2
  have hD : va_D (AL s) (wC cs ad am M1 N1 (outs cq o od (fo f oc) g)) := sw3D hD2
  refine lv_istore (lv' := [(7, .int bv), (6, .int (hN [2, 1, 3, 0] oc)), (5, .int i), (0, .ref b), (1, .ref (ad 0)), (2, .ref (am 0)), (3, .ref o), (4, .ref od)]) hx hb dL_law_1512 hl (by decide) rfl (fun ls hl => ?_)
  refine lv_aload_n hx hb dL_law_1514 rfl (lv_at hl 5 rfl) ?_
  have hP2 := sw3P hP
  refine r_calli (r := N1 0 0) (W.runV (As := []) (rest := []) CX (ctX8_thrown l D sw cs am (wl cs LC NC ad M1 ++ outs cq o od (fo f oc) g) N1 rfl) (cwV 0 hts (gwV m4_162 m4_163 m4_164 m1_7 m4_165) rfl rfl rfl (by decide +kernel) ⟨Nat.le_of_ble_eq_true rfl, Nat.le_of_ble_eq_true rfl⟩) (rPreV (hSW.wr hS) hK hP2 (by decide) rfl rfl _) rfl rfl hl.1 rfl (lv_room (Nat.le_of_ble_eq_true rfl)) dL_law_1515 ⟨Nat.le_trans (show _ ≤ cells + 16 by omega) hcs, Nat.le_trans (show _ ≤ slots + 1400 by omega) hss⟩) ?_
  refine lv_iload hx hb dL_law_1518 (lv_at hl 1 rfl) ?_
  refine lv_icmp_eq (tgt := 1525) hx hb dL_law_1520 (by decide) (fun _ => ?_) (fun h9 => absurd ht h9)
  refine lv_iload hx hb dL_law_1525 (lv_at hl 1 rfl) ?_
  rcases oc with v | k9
  · refine lv_if_ne (tgt := 1542) hx hb dL_law_1527 (by decide) (fun h9 => absurd rfl h9) (fun _ => ?_)
    refine lv_aload_n hx hb dL_law_1530 rfl (lv_at hl 6 rfl) ?_
    refine lv_iconst (v := 0) hx hb dL_law_1531 (by decide) ?_
    refine va_lald (n := 1) hx hb hKL hP (NC + (NM + 0)) 0 out_get rfl (by unfold vp_in; decide) dL_law_1532 ?_
    rw [fo_0]
    refine lv_iload hx hb dL_law_1533 (lv_at hl 0 rfl) ?_
    refine lv_i2l hx hb dL_law_1535 rfl ?_
    refine W.lcmp hx hb dL_law_1536 ?_
    refine lv_if_eq (tgt := 1542) hx hb dL_law_1537 (by decide) (fun _ => ?_) (fun h9 => absurd (by rw [hv v rfl]; exact lcmp_self _) h9)
    refine lv_goto (tgt := 1671) hx hb dL_law_1542 (by decide) ?_
    refine W.widen (k := cells + 16) (n := slots + 1400) (by omega) (by omega) ?_
    exact kk _ _ _ _ _ hP hD hS (lv_sub hl [2, 3, 4, 5, 6, 7] rfl)
  · have hk9 := hk k9 rfl
    refine lv_if_ne (tgt := 1542) hx hb dL_law_1527 (by decide) (fun _ => ?_) (fun h9 => absurd h9 (hN_ne (by simpa using hk9)))
    refine lv_goto (tgt := 1671) hx hb dL_law_1542 (by decide) ?_
    refine W.widen (k := cells + 16) (n := slots + 1400) (by omega) (by omega) ?_
    exact kk _ _ _ _ _ hP hD hS (lv_sub hl [2, 3, 4, 5, 6, 7] rfl)
set_option maxHeartbeats 4000000 in
set_option maxRecDepth 100000 in
theorem lc_26 {l : Launch} {p : Program} {e : Env} {s : State} {m : MethodId} {below : List Frame} {meth : Method} {c : Code} {Q : State → Prop} {b L : Nat} {xs : Nat → Int32} {D : va_G} {sw : Sw} {cs : Cs} {cq : ClassId × ClassId} (K : LK l p s m c b L xs D sw cs cq) {ad am : Nat → Nat} {M N : Mm} {o od : Nat} {f : Nat → Int64} {g : Nat → UInt64} {i x1 x2 : Int32} (hi1 : vp_in (i + 1) L) (hi2 : vp_in (i + 2) L) (hx1 : xs (i + 1).toNatClampNeg = x1) (hx2 : xs (i + 2).toNatClampNeg = x2) {oc : Int32 ⊕ Nat} {M1 N1 : Mm} {bv : Int32} (hq : gX7_variable M x1 x2 = some (oc, M1)) (hk : ∀ k, oc = .inr k → k ∈ ([2, 1, 3, 0] : List Nat)) (hm : gX8_variable N x1 x2 = some (bv, N1)) (ht : N1 0 0 = hN [2, 1, 3, 0] oc) (hv : ∀ v, oc = .inl v → v = bv) {cells slots : Nat} (hcs : cells + 16 ≤ room_1.cells) (hss : slots + 1400 ≤ room_1.slots) {H : Heap} {locs : List Loc} {ls : Array Slot} (hP : va_P D vwCl (wC cs ad am M N (outs cq o od f g)) H) (hD : va_D (AL s) (wC cs ad am M N (outs cq o od f g))) (hS : va_S (AL s) s.heap H locs) (hl : lv_has ls 9 (lLv b ad am o od i))
    (kk : ∀ (f : Nat → Int64) (g : Nat → UInt64) (H : Heap) (locs : List Loc) (ls : Array Slot), va_P D vwCl (wC cs ad am M1 N1 (outs cq o od f g)) H → va_D (AL s) (wC cs ad am M1 N1 (outs cq o od f g)) → va_S (AL s) s.heap H locs → lv_has ls 9 (lLv b ad am o od i) → W p l e room_1 s m #[Value.ref b] below meth c H locs (cells + 16) (slots + 1400) Q (F0 m 1671 ls [])) : W p l e room_1 s m #[Value.ref b] below meth c H locs cells slots Q (F0 m 1545 ls []) := by
  obtain ⟨CX, hX, hbl, hK, hKL, hSW, hfl⟩ := K
  obtain ⟨hx, hb, hml, hown, hts⟩ := id CX
  have hw : ∀ w ∈ WG, w.before _ s = true := fun w h => hts w (List.mem_cons_of_mem _ h)
  have hA : ∀ q, s.heap.size ≤ q → AL s q := fun _ h => h
  have hbA : ¬ AL s b := Nat.not_le.mpr hbl
  refine lv_aload_n hx hb dL_law_1545 rfl (lv_at hl 2 rfl) ?_
  refine lv_aload_n hx hb dL_law_1546 rfl (lv_at hl 1 rfl) ?_
  refine lv_iload hx hb dL_law_1547 (lv_at hl 0 rfl) ?_
  refine lv_iconst (v := 1) hx hb dL_law_1549 (by decide) ?_
  refine lv_iadd hx hb dL_law_1550 ?_
  refine va_sld hx hb hX hbl hbA hS hi1 dL_law_1551 ?_
  rw [hx1]
  refine lv_aload_n hx hb dL_law_1552 rfl (lv_at hl 1 rfl) ?_
  refine lv_iload hx hb dL_law_1553 (lv_at hl 0 rfl) ?_
  refine lv_iconst (v := 2) hx hb dL_law_1555 (by decide) ?_
  refine lv_iadd hx hb dL_law_1556 ?_
  refine va_sld hx hb hX hbl hbA hS hi2 dL_law_1557 ?_
  rw [hx2]
  refine lv_aload_n hx hb dL_law_1558 rfl (lv_at hl 4 rfl) ?_
  refine va_calli (vx_runSW (As := [.ref (ad 0), .int x1, .int x2, .ref o]) (rest := []) CX (ctL_variable l hfl D sw cs cq ad (wl cs LM NM am N ++ outs cq o od f g) H.size M (x1) (x2) hq hk (j := NM + 0) (wx_get rfl)) (vx_cwSW 4 hts (gwW m4_86 m4_87 m1_0 WL_variable) rfl rfl rfl (by decide +kernel) ⟨Nat.le_of_ble_eq_true rfl, Nat.le_of_ble_eq_true rfl⟩) (lPreS hSW hS hA hK hKL hP hD _) rfl rfl hl.1 rfl (lv_room (Nat.le_of_ble_eq_true rfl)) dL_law_1559 ⟨Nat.le_trans (show _ ≤ cells + 16 by omega) hcs, Nat.le_trans (show _ ≤ slots + 1400 by omega) hss⟩) hS (fun q _ h => wA_free hD hS hA q h) (wA_free hD hS hA) (fun r u t H1 locs ht9 _ hr1 hB _ _ hS => ?_)
  subst hr1
  rw [ht9] at hB
  rw [oX_out] at hB
  have hP : va_P D vwCl (wC cs ad am M1 N (outs cq o od (fo f oc) g)) H1 := hB
  have hD : va_D (AL s) (wC cs ad am M1 N (outs cq o od (fo f oc) g)) := lawD hD
  generalize H1 = H at hP hS ⊢
  refine lv_istore (lv' := [(6, .int (hN [2, 1, 3, 0] oc)), (5, .int i), (0, .ref b), (1, .ref (ad 0)), (2, .ref (am 0)), (3, .ref o), (4, .ref od)]) hx hb dL_law_1562 hl (by decide) rfl (fun ls hl => ?_)
  refine lv_aload_n hx hb dL_law_1564 rfl (lv_at hl 4 rfl) ?_
  refine lv_aload_n hx hb dL_law_1565 rfl (lv_at hl 2 rfl) ?_
  refine lv_iload hx hb dL_law_1566 (lv_at hl 1 rfl) ?_
  refine lv_iconst (v := 1) hx hb dL_law_1568 (by decide) ?_
  refine lv_iadd hx hb dL_law_1569 ?_
  refine va_sld hx hb hX hbl hbA hS hi1 dL_law_1570 ?_
  rw [hx1]
  refine lv_aload_n hx hb dL_law_1571 rfl (lv_at hl 2 rfl) ?_
  refine lv_iload hx hb dL_law_1572 (lv_at hl 1 rfl) ?_
  refine lv_iconst (v := 2) hx hb dL_law_1574 (by decide) ?_
  refine lv_iadd hx hb dL_law_1575 ?_
  refine va_sld hx hb hX hbl hbA hS hi2 dL_law_1576 ?_
  rw [hx2]
  have hP2 := sw3P hP
  have hD2 := sw3D hD
  refine w_calli (va_runV (As := [.int x1, .int x2]) (rest := []) CX (ctX8_variable l D sw cs am (wl cs LC NC ad M1 ++ outs cq o od (fo f oc) g) H.size N (x1) (x2) hm) (cwV 2 hts (gwV m5_223 m5_224 m5_225 m1_7 m5_226) rfl rfl rfl (by decide +kernel) ⟨Nat.le_of_ble_eq_true rfl, Nat.le_of_ble_eq_true rfl⟩) (wPreV hSW hS hA hK hP2 hD2 (by decide) rfl rfl _) rfl rfl hl.1 rfl (lv_room (Nat.le_of_ble_eq_true rfl)) dL_law_1577 ⟨Nat.le_trans (show _ ≤ cells + 16 by omega) hcs, Nat.le_trans (show _ ≤ slots + 1400 by omega) hss⟩) hD2 hS hA (fun H locs hP2 hD2 hS => ?_)
  have hP : va_P D vwCl (wC cs ad am M1 N1 (outs cq o od (fo f oc) g)) H := sw3P hP2
  have hD : va_D (AL s) (wC cs ad am M1 N1 (outs cq o od (fo f oc) g)) := sw3D hD2
  refine lv_istore (lv' := [(7, .int bv), (6, .int (hN [2, 1, 3, 0] oc)), (5, .int i), (0, .ref b), (1, .ref (ad 0)), (2, .ref (am 0)), (3, .ref o), (4, .ref od)]) hx hb dL_law_1580 hl (by decide) rfl (fun ls hl => ?_)
  refine lv_aload_n hx hb dL_law_1582 rfl (lv_at hl 5 rfl) ?_
  have hP2 := sw3P hP
  refine r_calli (r := N1 0 0) (W.runV (As := []) (rest := []) CX (ctX8_thrown l D sw cs am (wl cs LC NC ad M1 ++ outs cq o od (fo f oc) g) N1 rfl) (cwV 0 hts (gwV m4_162 m4_163 m4_164 m1_7 m4_165) rfl rfl rfl (by decide +kernel) ⟨Nat.le_of_ble_eq_true rfl, Nat.le_of_ble_eq_true rfl⟩) (rPreV (hSW.wr hS) hK hP2 (by decide) rfl rfl _) rfl rfl hl.1 rfl (lv_room (Nat.le_of_ble_eq_true rfl)) dL_law_1583 ⟨Nat.le_trans (show _ ≤ cells + 16 by omega) hcs, Nat.le_trans (show _ ≤ slots + 1400 by omega) hss⟩) ?_
  refine lv_iload hx hb dL_law_1586 (lv_at hl 1 rfl) ?_
  refine lv_icmp_eq (tgt := 1593) hx hb dL_law_1588 (by decide) (fun _ => ?_) (fun h9 => absurd ht h9)
  refine lv_iload hx hb dL_law_1593 (lv_at hl 1 rfl) ?_
  rcases oc with v | k9
  · refine lv_if_ne (tgt := 1610) hx hb dL_law_1595 (by decide) (fun h9 => absurd rfl h9) (fun _ => ?_)
    refine lv_aload_n hx hb dL_law_1598 rfl (lv_at hl 6 rfl) ?_
    refine lv_iconst (v := 0) hx hb dL_law_1599 (by decide) ?_
    refine va_lald (n := 1) hx hb hKL hP (NC + (NM + 0)) 0 out_get rfl (by unfold vp_in; decide) dL_law_1600 ?_
    rw [fo_0]
    refine lv_iload hx hb dL_law_1601 (lv_at hl 0 rfl) ?_
    refine lv_i2l hx hb dL_law_1603 rfl ?_
    refine W.lcmp hx hb dL_law_1604 ?_
    refine lv_if_eq (tgt := 1610) hx hb dL_law_1605 (by decide) (fun _ => ?_) (fun h9 => absurd (by rw [hv v rfl]; exact lcmp_self _) h9)
    refine lv_goto (tgt := 1671) hx hb dL_law_1610 (by decide) ?_
    refine W.widen (k := cells + 16) (n := slots + 1400) (by omega) (by omega) ?_
    exact kk _ _ _ _ _ hP hD hS (lv_sub hl [2, 3, 4, 5, 6, 7] rfl)
  · have hk9 := hk k9 rfl
    refine lv_if_ne (tgt := 1610) hx hb dL_law_1595 (by decide) (fun _ => ?_) (fun h9 => absurd h9 (hN_ne (by simpa using hk9)))
    refine lv_goto (tgt := 1671) hx hb dL_law_1610 (by decide) ?_
    refine W.widen (k := cells + 16) (n := slots + 1400) (by omega) (by omega) ?_
    exact kk _ _ _ _ _ hP hD hS (lv_sub hl [2, 3, 4, 5, 6, 7] rfl)
set_option maxHeartbeats 4000000 in
set_option maxRecDepth 100000 in
theorem lc_27 {l : Launch} {p : Program} {e : Env} {s : State} {m : MethodId} {below : List Frame} {meth : Method} {c : Code} {Q : State → Prop} {b L : Nat} {xs : Nat → Int32} {D : va_G} {sw : Sw} {cs : Cs} {cq : ClassId × ClassId} (K : LK l p s m c b L xs D sw cs cq) {ad am : Nat → Nat} {M N : Mm} {o od : Nat} {f : Nat → Int64} {g : Nat → UInt64} {i x1 x2 : Int32} (hi1 : vp_in (i + 1) L) (hi2 : vp_in (i + 2) L) (hx1 : xs (i + 1).toNatClampNeg = x1) (hx2 : xs (i + 2).toNatClampNeg = x2) {oc : Int32 ⊕ Nat} {M1 N1 : Mm} {bv : Int32} (hq : gX7_behaviours M = some (oc, M1)) (hk : ∀ k, oc = .inr k → k ∈ ([1] : List Nat)) (hm : gX8_behaviours N = some (bv, N1)) (ht : N1 0 0 = hN [1] oc) (hv : ∀ v, oc = .inl v → v = bv) {cells slots : Nat} (hcs : cells + 16 ≤ room_1.cells) (hss : slots + 1400 ≤ room_1.slots) {H : Heap} {locs : List Loc} {ls : Array Slot} (hP : va_P D vwCl (wC cs ad am M N (outs cq o od f g)) H) (hD : va_D (AL s) (wC cs ad am M N (outs cq o od f g))) (hS : va_S (AL s) s.heap H locs) (hl : lv_has ls 9 (lLv b ad am o od i))
    (kk : ∀ (f : Nat → Int64) (g : Nat → UInt64) (H : Heap) (locs : List Loc) (ls : Array Slot), va_P D vwCl (wC cs ad am M1 N1 (outs cq o od f g)) H → va_D (AL s) (wC cs ad am M1 N1 (outs cq o od f g)) → va_S (AL s) s.heap H locs → lv_has ls 9 (lLv b ad am o od i) → W p l e room_1 s m #[Value.ref b] below meth c H locs (cells + 16) (slots + 1400) Q (F0 m 1671 ls [])) : W p l e room_1 s m #[Value.ref b] below meth c H locs cells slots Q (F0 m 1613 ls []) := by
  obtain ⟨CX, hX, hbl, hK, hKL, hSW, hfl⟩ := K
  obtain ⟨hx, hb, hml, hown, hts⟩ := id CX
  have hw : ∀ w ∈ WG, w.before _ s = true := fun w h => hts w (List.mem_cons_of_mem _ h)
  have hA : ∀ q, s.heap.size ≤ q → AL s q := fun _ h => h
  have hbA : ¬ AL s b := Nat.not_le.mpr hbl
  refine lv_aload_n hx hb dL_law_1613 rfl (lv_at hl 2 rfl) ?_
  refine lv_aload_n hx hb dL_law_1614 rfl (lv_at hl 4 rfl) ?_
  refine va_calli (vx_runSW (As := [.ref (ad 0), .ref o]) (rest := []) CX (ctL_behaviours l hfl D sw cs cq ad (wl cs LM NM am N ++ outs cq o od f g) H.size M  hq hk (j := NM + 0) (wx_get rfl)) (vx_cwSW 2 hts (gwW m4_94 m4_95 m1_0 WL_behaviours) rfl rfl rfl (by decide +kernel) ⟨Nat.le_of_ble_eq_true rfl, Nat.le_of_ble_eq_true rfl⟩) (lPreS hSW hS hA hK hKL hP hD _) rfl rfl hl.1 rfl (lv_room (Nat.le_of_ble_eq_true rfl)) dL_law_1615 ⟨Nat.le_trans (show _ ≤ cells + 16 by omega) hcs, Nat.le_trans (show _ ≤ slots + 1400 by omega) hss⟩) hS (fun q _ h => wA_free hD hS hA q h) (wA_free hD hS hA) (fun r u t H1 locs ht9 _ hr1 hB _ _ hS => ?_)
  subst hr1
  rw [ht9] at hB
  rw [oX_out] at hB
  have hP : va_P D vwCl (wC cs ad am M1 N (outs cq o od (fo f oc) g)) H1 := hB
  have hD : va_D (AL s) (wC cs ad am M1 N (outs cq o od (fo f oc) g)) := lawD hD
  generalize H1 = H at hP hS ⊢
  refine lv_istore (lv' := [(6, .int (hN [1] oc)), (5, .int i), (0, .ref b), (1, .ref (ad 0)), (2, .ref (am 0)), (3, .ref o), (4, .ref od)]) hx hb dL_law_1618 hl (by decide) rfl (fun ls hl => ?_)
  refine lv_aload_n hx hb dL_law_1620 rfl (lv_at hl 4 rfl) ?_
  have hP2 := sw3P hP
  have hD2 := sw3D hD
  refine w_calli (va_runV (As := []) (rest := []) CX (ctX8_behaviours l D sw cs am (wl cs LC NC ad M1 ++ outs cq o od (fo f oc) g) H.size N  hm) (cwV 0 hts (gwV m5_227 m5_228 m5_229 m1_7 m5_230) rfl rfl rfl (by decide +kernel) ⟨Nat.le_of_ble_eq_true rfl, Nat.le_of_ble_eq_true rfl⟩) (wPreV hSW hS hA hK hP2 hD2 (by decide) rfl rfl _) rfl rfl hl.1 rfl (lv_room (Nat.le_of_ble_eq_true rfl)) dL_law_1621 ⟨Nat.le_trans (show _ ≤ cells + 16 by omega) hcs, Nat.le_trans (show _ ≤ slots + 1400 by omega) hss⟩) hD2 hS hA (fun H locs hP2 hD2 hS => ?_)
  have hP : va_P D vwCl (wC cs ad am M1 N1 (outs cq o od (fo f oc) g)) H := sw3P hP2
  have hD : va_D (AL s) (wC cs ad am M1 N1 (outs cq o od (fo f oc) g)) := sw3D hD2
  refine lv_istore (lv' := [(7, .int bv), (6, .int (hN [1] oc)), (5, .int i), (0, .ref b), (1, .ref (ad 0)), (2, .ref (am 0)), (3, .ref o), (4, .ref od)]) hx hb dL_law_1624 hl (by decide) rfl (fun ls hl => ?_)
  refine lv_aload_n hx hb dL_law_1626 rfl (lv_at hl 5 rfl) ?_
  have hP2 := sw3P hP
  refine r_calli (r := N1 0 0) (W.runV (As := []) (rest := []) CX (ctX8_thrown l D sw cs am (wl cs LC NC ad M1 ++ outs cq o od (fo f oc) g) N1 rfl) (cwV 0 hts (gwV m4_162 m4_163 m4_164 m1_7 m4_165) rfl rfl rfl (by decide +kernel) ⟨Nat.le_of_ble_eq_true rfl, Nat.le_of_ble_eq_true rfl⟩) (rPreV (hSW.wr hS) hK hP2 (by decide) rfl rfl _) rfl rfl hl.1 rfl (lv_room (Nat.le_of_ble_eq_true rfl)) dL_law_1627 ⟨Nat.le_trans (show _ ≤ cells + 16 by omega) hcs, Nat.le_trans (show _ ≤ slots + 1400 by omega) hss⟩) ?_
  refine lv_iload hx hb dL_law_1630 (lv_at hl 1 rfl) ?_
  refine lv_icmp_eq (tgt := 1637) hx hb dL_law_1632 (by decide) (fun _ => ?_) (fun h9 => absurd ht h9)
  refine lv_iload hx hb dL_law_1637 (lv_at hl 1 rfl) ?_
  rcases oc with v | k9
  · refine lv_if_ne (tgt := 1654) hx hb dL_law_1639 (by decide) (fun h9 => absurd rfl h9) (fun _ => ?_)
    refine lv_aload_n hx hb dL_law_1642 rfl (lv_at hl 6 rfl) ?_
    refine lv_iconst (v := 0) hx hb dL_law_1643 (by decide) ?_
    refine va_lald (n := 1) hx hb hKL hP (NC + (NM + 0)) 0 out_get rfl (by unfold vp_in; decide) dL_law_1644 ?_
    rw [fo_0]
    refine lv_iload hx hb dL_law_1645 (lv_at hl 0 rfl) ?_
    refine lv_i2l hx hb dL_law_1647 rfl ?_
    refine W.lcmp hx hb dL_law_1648 ?_
    refine lv_if_eq (tgt := 1654) hx hb dL_law_1649 (by decide) (fun _ => ?_) (fun h9 => absurd (by rw [hv v rfl]; exact lcmp_self _) h9)
    refine lv_goto (tgt := 1671) hx hb dL_law_1654 (by decide) ?_
    refine W.widen (k := cells + 16) (n := slots + 1400) (by omega) (by omega) ?_
    exact kk _ _ _ _ _ hP hD hS (lv_sub hl [2, 3, 4, 5, 6, 7] rfl)
  · have hk9 := hk k9 rfl
    refine lv_if_ne (tgt := 1654) hx hb dL_law_1639 (by decide) (fun _ => ?_) (fun h9 => absurd h9 (hN_ne (by simpa using hk9)))
    refine lv_goto (tgt := 1671) hx hb dL_law_1654 (by decide) ?_
    refine W.widen (k := cells + 16) (n := slots + 1400) (by omega) (by omega) ?_
    exact kk _ _ _ _ _ hP hD hS (lv_sub hl [2, 3, 4, 5, 6, 7] rfl)
set_option maxHeartbeats 4000000 in
set_option maxRecDepth 100000 in
theorem lc_28 {l : Launch} {p : Program} {e : Env} {s : State} {m : MethodId} {below : List Frame} {meth : Method} {c : Code} {Q : State → Prop} {b L : Nat} {xs : Nat → Int32} {D : va_G} {sw : Sw} {cs : Cs} {cq : ClassId × ClassId} (K : LK l p s m c b L xs D sw cs cq) {ad am : Nat → Nat} {M N : Mm} {o od : Nat} {f : Nat → Int64} {g : Nat → UInt64} {i x1 x2 : Int32} (hi1 : vp_in (i + 1) L) (hi2 : vp_in (i + 2) L) (hx1 : xs (i + 1).toNatClampNeg = x1) (hx2 : xs (i + 2).toNatClampNeg = x2) {M1 N1 : Mm} {v bv : Int64} (hq : gX7_digest M = some (v, M1)) (hm : gX8_digest N = some (bv, N1)) (hv : v = bv) {cells slots : Nat} (hcs : cells + 16 ≤ room_1.cells) (hss : slots + 1400 ≤ room_1.slots) {H : Heap} {locs : List Loc} {ls : Array Slot} (hP : va_P D vwCl (wC cs ad am M N (outs cq o od f g)) H) (hD : va_D (AL s) (wC cs ad am M N (outs cq o od f g))) (hS : va_S (AL s) s.heap H locs) (hl : lv_has ls 9 (lLv b ad am o od i))
    (kk : ∀ (f : Nat → Int64) (g : Nat → UInt64) (H : Heap) (locs : List Loc) (ls : Array Slot), va_P D vwCl (wC cs ad am M1 N1 (outs cq o od f g)) H → va_D (AL s) (wC cs ad am M1 N1 (outs cq o od f g)) → va_S (AL s) s.heap H locs → lv_has ls 9 (lLv b ad am o od i) → W p l e room_1 s m #[Value.ref b] below meth c H locs (cells + 16) (slots + 1400) Q (F0 m 1671 ls [])) : W p l e room_1 s m #[Value.ref b] below meth c H locs cells slots Q (F0 m 1657 ls []) := by
  obtain ⟨CX, hX, hbl, hK, hKL, hSW, hfl⟩ := K
  obtain ⟨hx, hb, hml, hown, hts⟩ := id CX
  have hw : ∀ w ∈ WG, w.before _ s = true := fun w h => hts w (List.mem_cons_of_mem _ h)
  have hA : ∀ q, s.heap.size ≤ q → AL s q := fun _ h => h
  have hbA : ¬ AL s b := Nat.not_le.mpr hbl
  refine lv_aload_n hx hb dL_law_1657 rfl (lv_at hl 2 rfl) ?_
  refine w_calll (va_runV (As := []) (rest := []) CX (ctX7_digest l D sw cs ad (wl cs LM NM am N ++ outs cq o od f g) H.size M hq) (cwV 0 hts (gwV m2_198 m2_199 m2_200 m1_1 m2_201) rfl rfl rfl (by decide +kernel) ⟨Nat.le_of_ble_eq_true rfl, Nat.le_of_ble_eq_true rfl⟩) (wPreV hSW hS hA hK hP hD (by decide) rfl rfl _) rfl rfl hl.1 rfl (lv_room (Nat.le_of_ble_eq_true rfl)) dL_law_1658 ⟨Nat.le_trans (show _ ≤ cells + 16 by omega) hcs, Nat.le_trans (show _ ≤ slots + 1400 by omega) hss⟩) hD hS hA (fun H locs hP hD hS => ?_)
  refine lv_aload_n hx hb dL_law_1661 rfl (lv_at hl 3 rfl) ?_
  have hP2 := sw3P hP
  have hD2 := sw3D hD
  refine w_calll (va_runV (As := []) (rest := [.long v]) CX (ctX8_digest l D sw cs am (wl cs LC NC ad M1 ++ outs cq o od f g) H.size N  hm) (cwV 0 hts (gwV m5_231 m5_232 m5_233 m1_7 m5_234) rfl rfl rfl (by decide +kernel) ⟨Nat.le_of_ble_eq_true rfl, Nat.le_of_ble_eq_true rfl⟩) (wPreV hSW hS hA hK hP2 hD2 (by decide) rfl rfl _) rfl rfl hl.1 rfl (lv_room (Nat.le_of_ble_eq_true rfl)) dL_law_1662 ⟨Nat.le_trans (show _ ≤ cells + 16 by omega) hcs, Nat.le_trans (show _ ≤ slots + 1400 by omega) hss⟩) hD2 hS hA (fun H locs hP2 hD2 hS => ?_)
  have hP : va_P D vwCl (wC cs ad am M1 N1 (outs cq o od f g)) H := sw3P hP2
  have hD : va_D (AL s) (wC cs ad am M1 N1 (outs cq o od f g)) := sw3D hD2
  refine W.lcmp hx hb dL_law_1665 ?_
  refine lv_if_eq (tgt := 1671) hx hb dL_law_1666 (by decide) (fun _ => ?_) (fun h9 => absurd (by rw [hv]; exact lcmp_self _) h9)
  refine W.widen (k := cells + 16) (n := slots + 1400) (by omega) (by omega) ?_
  exact kk _ _ _ _ _ hP hD hS (lv_sub hl [0, 1, 2, 3, 4, 5] rfl)
