theorem WL_write : Cond.codeWith yL_write cL_write 5 (some .int) [(0, 9, 12, 13), (0, 9, 16, 15)] ∈ WG := wg2 (List.mem_of_getElem? (i := 212) rfl) rfl
abbrev wsL_write : List Cond := Cond.codeWith yL_write cL_write 5 (some .int) [(0, 9, 12, 13), (0, 9, 16, 15)] :: WG
set_option maxHeartbeats 4000000 in
set_option maxRecDepth 100000 in
theorem ctL_write (l : Launch) (hfl : l.stackTraces = false) (D : va_G) (sw : Sw) (cs : Cs) (cq : ClassId × ClassId) (ad : Nat → Nat) (X : va_W) (sz : Nat) (M : Mm) (a1 : Int64) {oc : Int32 ⊕ Nat} {M1 : Mm} (hq : gX7_write M a1 = some (oc, M1)) (hk : ∀ k, oc = .inr k → k ∈ [0, 1]) {j o : Nat} {f : Nat → Int64} (hX : X[j]? = some (o, .inl (cq.1, 1, .inr (.inl f)))) : Met l yL_write wsL_write { frames := 7, cells := 1, slots := 6, locals := 115 } (va_Pc [.ref (ad 0), .long a1, .ref o] (lPre D sw cs cq ad M X sz)) (va_Qi (fun (r' : Int32) (_ : Unit) => r' = hN [0, 1] oc) (fun _ t => va_P D vwCl (wl cs LC NC ad M1 ++ oX X j o cq.1 f oc) t.heap) (wA NC ad X sz)) 1 6 (wA NC ad X sz) := by
  refine met_h rfl rfl (Nat.le_of_ble_eq_true rfl) (fun p e s m args below meth c ls CX hr hlk htab hK hKL hSW hP hD hS hA hl => ?_)
  obtain ⟨hx, hb, hml, hown, hts⟩ := id CX
  have hw : ∀ w ∈ WG, w.before args s = true := fun w h => hts w (List.mem_cons_of_mem _ h)
  have hR : 7 ≤ ({ frames := 7, cells := 1, slots := 6, locals := 115 } : Room).frames ∧ 115 ≤ ({ frames := 7, cells := 1, slots := 6, locals := 115 } : Room).locals := ⟨Nat.le_refl _, Nat.le_refl _⟩
  have hRc : 1 ≤ ({ frames := 7, cells := 1, slots := 6, locals := 115 } : Room).cells ∧ 6 ≤ ({ frames := 7, cells := 1, slots := 6, locals := 115 } : Room).slots := ⟨Nat.le_refl _, Nat.le_refl _⟩
  have hl : lv_has ls 5 [(0, .ref (ad 0)), (1, .long a1), (3, .ref o)] := hl
  refine lv_aload_n hx hb dL_write_0 rfl (lv_at hl 2 rfl) ?_
  refine lv_iconst (v := 0) hx hb dL_write_1 (by decide) ?_
  refine lv_aload_n hx hb dL_write_2 rfl (lv_at hl 0 rfl) ?_
  refine lv_lload_n hx hb dL_write_3 rfl (lv_at hl 1 rfl) ?_
  refine t_calli (vx_runV (As := [.long a1]) (rest := [.int 0, .ref o]) CX (ctX7_write l hfl D sw cs ad X s.heap.size M a1 hq) (cwV 1 hts (gwV m2_215 m2_216 m2_217 m1_1 m2_218) rfl rfl rfl (by decide +kernel) ⟨Nat.le_trans (Nat.le_of_ble_eq_true rfl) hR.1, Nat.le_trans (Nat.le_of_ble_eq_true rfl) hR.2⟩) (wPreV hSW hS hA hK hP hD (by decide) rfl rfl _) rfl rfl hl.1 rfl (lv_room (Nat.le_of_ble_eq_true rfl)) dL_write_4 ⟨Nat.le_trans (Nat.le_of_ble_eq_true rfl) hRc.1, Nat.le_trans (Nat.le_of_ble_eq_true rfl) hRc.2⟩) hD hS hA (fun k9 ho9 H locs ce9 q9 hP hD hS hce9 hcv9 hcl9 => ?_) (fun r ho9 H locs hP hD hS => ?_)
  · have hk9 := hk k9 ho9
    rcases (show k9 = 0 ∨ k9 = 1 by simpa using hk9) with rfl | rfl
    · refine vx_catch (E := "java/lang/IllegalArgumentException") (name := "java/lang/IllegalArgumentException") hown [] (⟨0, 9, 12, 13⟩ : ExceptionTableEntry) [(⟨0, 9, 16, 15⟩ : ExceptionTableEntry)] (by rw [htab]; rfl) (fun z hz => by cases hz) (by decide) (by decide) (hw _ m2_213) (va_Nw.use rfl (hSW.ca _ (List.mem_of_getElem? (i := 0) rfl))) hce9 hcv9 hcl9 ?_
      refine lv_astore (lv' := [(4, .ref q9), (0, .ref (ad 0)), (1, .long a1), (3, .ref o)]) hx hb dL_write_12 hl (by decide) rfl (fun ls hl => ?_)
      refine lv_iconst (v := 1) hx hb dL_write_14 (by decide) ?_
      refine W.widen (k := 1) (n := 6) (by decide) (by decide) ?_
      exact W.iret hx hb hr (fun t ht hW => ⟨⟨_, (), rfl, (by subst ho9; first | rfl | decide), (by subst ho9; rw [← ht] at hP; exact hP)⟩, hS.F ht⟩) hS.2.2 dL_write_15 hlk
    · have hps : ∀ z ∈ [(⟨0, 9, 12, 13⟩ : ExceptionTableEntry)], covers z 4 = false ∨ (z.catchType ≠ 0 ∧ ∃ nm : String, (Cond.classLink RL z.catchType nm).before args s = true ∧ va_Nc "java/lang/IllegalStateException" nm s) := by
        intro z hz
        rcases (show z = (⟨0, 9, 12, 13⟩ : ExceptionTableEntry) by simpa using hz) with rfl
        · exact Or.inr ⟨by decide, "java/lang/IllegalArgumentException", hw _ m2_213, hSW.nc _ (List.mem_of_getElem? (i := 1) rfl) _ (List.mem_of_getElem? (i := 0) rfl) (by decide)⟩
      refine vx_catch (E := "java/lang/IllegalStateException") (name := "java/lang/IllegalStateException") hown [(⟨0, 9, 12, 13⟩ : ExceptionTableEntry)] (⟨0, 9, 16, 15⟩ : ExceptionTableEntry) [] (by rw [htab]; rfl) hps (by decide) (by decide) (hw _ m2_214) (va_Nw.use rfl (hSW.ca _ (List.mem_of_getElem? (i := 1) rfl))) hce9 hcv9 hcl9 ?_
      refine lv_astore (lv' := [(4, .ref q9), (0, .ref (ad 0)), (1, .long a1), (3, .ref o)]) hx hb dL_write_16 hl (by decide) rfl (fun ls hl => ?_)
      refine lv_iconst (v := 2) hx hb dL_write_18 (by decide) ?_
      refine W.widen (k := 1) (n := 6) (by decide) (by decide) ?_
      exact W.iret hx hb hr (fun t ht hW => ⟨⟨_, (), rfl, (by subst ho9; first | rfl | decide), (by subst ho9; rw [← ht] at hP; exact hP)⟩, hS.F ht⟩) hS.2.2 dL_write_19 hlk
  · refine lv_i2l hx hb dL_write_7 rfl ?_
    refine va_last (n := 1) hx hb hKL hP hD hS (NC + j) 0 (wx_get hX) rfl (by unfold vp_in; decide) dL_write_8 (fun H locs hP hD hS => ?_)
    rw [wx_set] at hP
    refine lv_goto (tgt := 20) hx hb dL_write_9 (by decide) ?_
    refine lv_iconst (v := 0) hx hb dL_write_20 (by decide) ?_
    refine W.widen (k := 1) (n := 6) (by decide) (by decide) ?_
    exact W.iret hx hb hr (fun t ht hW => ⟨⟨_, (), rfl, (by subst ho9; first | rfl | decide), (by subst ho9; rw [← ht] at hP; exact hP)⟩, hS.F ht⟩) hS.2.2 dL_write_21 hlk
theorem WL_when : Cond.codeWith yL_when cL_when 5 (some .int) [(0, 10, 13, 21), (0, 10, 17, 15)] ∈ WG := wg3 (List.mem_of_getElem? (i := 76) rfl) rfl
abbrev wsL_when : List Cond := Cond.codeWith yL_when cL_when 5 (some .int) [(0, 10, 13, 21), (0, 10, 17, 15)] :: WG
set_option maxHeartbeats 4000000 in
set_option maxRecDepth 100000 in
theorem ctL_when (l : Launch) (hfl : l.stackTraces = false) (D : va_G) (sw : Sw) (cs : Cs) (cq : ClassId × ClassId) (ad : Nat → Nat) (X : va_W) (sz : Nat) (M : Mm) (a1 : Int32) (a2 : Int32) {oc : Int32 ⊕ Nat} {M1 : Mm} (hq : gX7_when M a1 a2 = some (oc, M1)) (hk : ∀ k, oc = .inr k → k ∈ [2, 1]) {j o : Nat} {f : Nat → Int64} (hX : X[j]? = some (o, .inl (cq.1, 1, .inr (.inl f)))) : Met l yL_when wsL_when { frames := 8, cells := 3, slots := 18, locals := 133 } (va_Pc [.ref (ad 0), .int a1, .int a2, .ref o] (lPre D sw cs cq ad M X sz)) (va_Qi (fun (r' : Int32) (_ : Unit) => r' = hN [2, 1] oc) (fun _ t => va_P D vwCl (wl cs LC NC ad M1 ++ oX X j o cq.1 f oc) t.heap) (wA NC ad X sz)) 3 18 (wA NC ad X sz) := by
  refine met_h rfl rfl (Nat.le_of_ble_eq_true rfl) (fun p e s m args below meth c ls CX hr hlk htab hK hKL hSW hP hD hS hA hl => ?_)
  obtain ⟨hx, hb, hml, hown, hts⟩ := id CX
  have hw : ∀ w ∈ WG, w.before args s = true := fun w h => hts w (List.mem_cons_of_mem _ h)
  have hR : 8 ≤ ({ frames := 8, cells := 3, slots := 18, locals := 133 } : Room).frames ∧ 133 ≤ ({ frames := 8, cells := 3, slots := 18, locals := 133 } : Room).locals := ⟨Nat.le_refl _, Nat.le_refl _⟩
  have hRc : 3 ≤ ({ frames := 8, cells := 3, slots := 18, locals := 133 } : Room).cells ∧ 18 ≤ ({ frames := 8, cells := 3, slots := 18, locals := 133 } : Room).slots := ⟨Nat.le_refl _, Nat.le_refl _⟩
  have hl : lv_has ls 5 [(0, .ref (ad 0)), (1, .int a1), (2, .int a2), (3, .ref o)] := hl
  refine lv_aload_n hx hb dL_when_0 rfl (lv_at hl 3 rfl) ?_
  refine lv_iconst (v := 0) hx hb dL_when_1 (by decide) ?_
  refine lv_aload_n hx hb dL_when_2 rfl (lv_at hl 0 rfl) ?_
  refine lv_iload_n hx hb dL_when_3 rfl (lv_at hl 1 rfl) ?_
  refine lv_iload_n hx hb dL_when_4 rfl (lv_at hl 2 rfl) ?_
  refine t_calli (vx_runV (As := [.int a1, .int a2]) (rest := [.int 0, .ref o]) CX (ctX7_when l hfl D sw cs ad X s.heap.size M a1 a2 hq) (cwV 2 hts (gwV m3_78 m3_79 m3_80 m1_1 m3_81) rfl rfl rfl (by decide +kernel) ⟨Nat.le_trans (Nat.le_of_ble_eq_true rfl) hR.1, Nat.le_trans (Nat.le_of_ble_eq_true rfl) hR.2⟩) (wPreV hSW hS hA hK hP hD (by decide) rfl rfl _) rfl rfl hl.1 rfl (lv_room (Nat.le_of_ble_eq_true rfl)) dL_when_5 ⟨Nat.le_trans (Nat.le_of_ble_eq_true rfl) hRc.1, Nat.le_trans (Nat.le_of_ble_eq_true rfl) hRc.2⟩) hD hS hA (fun k9 ho9 H locs ce9 q9 hP hD hS hce9 hcv9 hcl9 => ?_) (fun r ho9 H locs hP hD hS => ?_)
  · have hk9 := hk k9 ho9
    rcases (show k9 = 2 ∨ k9 = 1 by simpa using hk9) with rfl | rfl
    · refine vx_catch (E := "java/lang/IndexOutOfBoundsException") (name := "java/lang/IndexOutOfBoundsException") hown [] (⟨0, 10, 13, 21⟩ : ExceptionTableEntry) [(⟨0, 10, 17, 15⟩ : ExceptionTableEntry)] (by rw [htab]; rfl) (fun z hz => by cases hz) (by decide) (by decide) (hw _ m3_77) (va_Nw.use rfl (hSW.ca _ (List.mem_of_getElem? (i := 2) rfl))) hce9 hcv9 hcl9 ?_
      refine lv_astore (lv' := [(4, .ref q9), (0, .ref (ad 0)), (1, .int a1), (2, .int a2), (3, .ref o)]) hx hb dL_when_13 hl (by decide) rfl (fun ls hl => ?_)
      refine lv_iconst (v := 1) hx hb dL_when_15 (by decide) ?_
      refine W.widen (k := 3) (n := 18) (by decide) (by decide) ?_
      exact W.iret hx hb hr (fun t ht hW => ⟨⟨_, (), rfl, (by subst ho9; first | rfl | decide), (by subst ho9; rw [← ht] at hP; exact hP)⟩, hS.F ht⟩) hS.2.2 dL_when_16 hlk
    · have hps : ∀ z ∈ [(⟨0, 10, 13, 21⟩ : ExceptionTableEntry)], covers z 5 = false ∨ (z.catchType ≠ 0 ∧ ∃ nm : String, (Cond.classLink RL z.catchType nm).before args s = true ∧ va_Nc "java/lang/IllegalStateException" nm s) := by
        intro z hz
        rcases (show z = (⟨0, 10, 13, 21⟩ : ExceptionTableEntry) by simpa using hz) with rfl
        · exact Or.inr ⟨by decide, "java/lang/IndexOutOfBoundsException", hw _ m3_77, hSW.nc _ (List.mem_of_getElem? (i := 1) rfl) _ (List.mem_of_getElem? (i := 2) rfl) (by decide)⟩
      refine vx_catch (E := "java/lang/IllegalStateException") (name := "java/lang/IllegalStateException") hown [(⟨0, 10, 13, 21⟩ : ExceptionTableEntry)] (⟨0, 10, 17, 15⟩ : ExceptionTableEntry) [] (by rw [htab]; rfl) hps (by decide) (by decide) (hw _ m2_214) (va_Nw.use rfl (hSW.ca _ (List.mem_of_getElem? (i := 1) rfl))) hce9 hcv9 hcl9 ?_
      refine lv_astore (lv' := [(4, .ref q9), (0, .ref (ad 0)), (1, .int a1), (2, .int a2), (3, .ref o)]) hx hb dL_when_17 hl (by decide) rfl (fun ls hl => ?_)
      refine lv_iconst (v := 2) hx hb dL_when_19 (by decide) ?_
      refine W.widen (k := 3) (n := 18) (by decide) (by decide) ?_
      exact W.iret hx hb hr (fun t ht hW => ⟨⟨_, (), rfl, (by subst ho9; first | rfl | decide), (by subst ho9; rw [← ht] at hP; exact hP)⟩, hS.F ht⟩) hS.2.2 dL_when_20 hlk
  · refine lv_i2l hx hb dL_when_8 rfl ?_
    refine va_last (n := 1) hx hb hKL hP hD hS (NC + j) 0 (wx_get hX) rfl (by unfold vp_in; decide) dL_when_9 (fun H locs hP hD hS => ?_)
    rw [wx_set] at hP
    refine lv_goto (tgt := 21) hx hb dL_when_10 (by decide) ?_
    refine lv_iconst (v := 0) hx hb dL_when_21 (by decide) ?_
    refine W.widen (k := 3) (n := 18) (by decide) (by decide) ?_
    exact W.iret hx hb hr (fun t ht hW => ⟨⟨_, (), rfl, (by subst ho9; first | rfl | decide), (by subst ho9; rw [← ht] at hP; exact hP)⟩, hS.F ht⟩) hS.2.2 dL_when_22 hlk
theorem WL_otherwise : Cond.codeWith yL_otherwise cL_otherwise 3 (some .int) [(0, 8, 11, 15)] ∈ WG := wg3 (List.mem_of_getElem? (i := 112) rfl) rfl
abbrev wsL_otherwise : List Cond := Cond.codeWith yL_otherwise cL_otherwise 3 (some .int) [(0, 8, 11, 15)] :: WG
set_option maxHeartbeats 4000000 in
set_option maxRecDepth 100000 in
theorem ctL_otherwise (l : Launch) (hfl : l.stackTraces = false) (D : va_G) (sw : Sw) (cs : Cs) (cq : ClassId × ClassId) (ad : Nat → Nat) (X : va_W) (sz : Nat) (M : Mm) {oc : Int32 ⊕ Nat} {M1 : Mm} (hq : gX7_otherwise M = some (oc, M1)) (hk : ∀ k, oc = .inr k → k ∈ [1]) {j o : Nat} {f : Nat → Int64} (hX : X[j]? = some (o, .inl (cq.1, 1, .inr (.inl f)))) : Met l yL_otherwise wsL_otherwise { frames := 8, cells := 3, slots := 18, locals := 130 } (va_Pc [.ref (ad 0), .ref o] (lPre D sw cs cq ad M X sz)) (va_Qi (fun (r' : Int32) (_ : Unit) => r' = hN [1] oc) (fun _ t => va_P D vwCl (wl cs LC NC ad M1 ++ oX X j o cq.1 f oc) t.heap) (wA NC ad X sz)) 3 18 (wA NC ad X sz) := by
  refine met_h rfl rfl (Nat.le_of_ble_eq_true rfl) (fun p e s m args below meth c ls CX hr hlk htab hK hKL hSW hP hD hS hA hl => ?_)
  obtain ⟨hx, hb, hml, hown, hts⟩ := id CX
  have hw : ∀ w ∈ WG, w.before args s = true := fun w h => hts w (List.mem_cons_of_mem _ h)
  have hR : 8 ≤ ({ frames := 8, cells := 3, slots := 18, locals := 130 } : Room).frames ∧ 130 ≤ ({ frames := 8, cells := 3, slots := 18, locals := 130 } : Room).locals := ⟨Nat.le_refl _, Nat.le_refl _⟩
  have hRc : 3 ≤ ({ frames := 8, cells := 3, slots := 18, locals := 130 } : Room).cells ∧ 18 ≤ ({ frames := 8, cells := 3, slots := 18, locals := 130 } : Room).slots := ⟨Nat.le_refl _, Nat.le_refl _⟩
  have hl : lv_has ls 3 [(0, .ref (ad 0)), (1, .ref o)] := hl
  refine lv_aload_n hx hb dL_otherwise_0 rfl (lv_at hl 1 rfl) ?_
  refine lv_iconst (v := 0) hx hb dL_otherwise_1 (by decide) ?_
  refine lv_aload_n hx hb dL_otherwise_2 rfl (lv_at hl 0 rfl) ?_
  refine t_calli (vx_runV (As := []) (rest := [.int 0, .ref o]) CX (ctX7_otherwise l hfl D sw cs ad X s.heap.size M hq) (cwV 0 hts (gwV m3_113 m3_114 m3_115 m1_1 m3_116) rfl rfl rfl (by decide +kernel) ⟨Nat.le_trans (Nat.le_of_ble_eq_true rfl) hR.1, Nat.le_trans (Nat.le_of_ble_eq_true rfl) hR.2⟩) (wPreV hSW hS hA hK hP hD (by decide) rfl rfl _) rfl rfl hl.1 rfl (lv_room (Nat.le_of_ble_eq_true rfl)) dL_otherwise_3 ⟨Nat.le_trans (Nat.le_of_ble_eq_true rfl) hRc.1, Nat.le_trans (Nat.le_of_ble_eq_true rfl) hRc.2⟩) hD hS hA (fun k9 ho9 H locs ce9 q9 hP hD hS hce9 hcv9 hcl9 => ?_) (fun r ho9 H locs hP hD hS => ?_)
  · have hk9 := hk k9 ho9
    obtain rfl : k9 = 1 := by simpa using hk9
    refine vx_catch (E := "java/lang/IllegalStateException") (name := "java/lang/IllegalStateException") hown [] (⟨0, 8, 11, 15⟩ : ExceptionTableEntry) [] (by rw [htab]; rfl) (fun z hz => by cases hz) (by decide) (by decide) (hw _ m2_214) (va_Nw.use rfl (hSW.ca _ (List.mem_of_getElem? (i := 1) rfl))) hce9 hcv9 hcl9 ?_
    refine lv_astore_n (lv' := [(2, .ref q9), (0, .ref (ad 0)), (1, .ref o)]) hx hb dL_otherwise_11 rfl hl (by decide) rfl (fun ls hl => ?_)
    refine lv_iconst (v := 1) hx hb dL_otherwise_12 (by decide) ?_
    refine W.widen (k := 3) (n := 18) (by decide) (by decide) ?_
    exact W.iret hx hb hr (fun t ht hW => ⟨⟨_, (), rfl, (by subst ho9; first | rfl | decide), (by subst ho9; rw [← ht] at hP; exact hP)⟩, hS.F ht⟩) hS.2.2 dL_otherwise_13 hlk
  · refine lv_i2l hx hb dL_otherwise_6 rfl ?_
    refine va_last (n := 1) hx hb hKL hP hD hS (NC + j) 0 (wx_get hX) rfl (by unfold vp_in; decide) dL_otherwise_7 (fun H locs hP hD hS => ?_)
    rw [wx_set] at hP
    refine lv_goto (tgt := 14) hx hb dL_otherwise_8 (by decide) ?_
    refine lv_iconst (v := 0) hx hb dL_otherwise_14 (by decide) ?_
    refine W.widen (k := 3) (n := 18) (by decide) (by decide) ?_
    exact W.iret hx hb hr (fun t ht hW => ⟨⟨_, (), rfl, (by subst ho9; first | rfl | decide), (by subst ho9; rw [← ht] at hP; exact hP)⟩, hS.F ht⟩) hS.2.2 dL_otherwise_15 hlk
theorem WL_done : Cond.codeWith yL_done cL_done 3 (some .int) [(0, 8, 11, 15)] ∈ WG := wg3 (List.mem_of_getElem? (i := 129) rfl) rfl
abbrev wsL_done : List Cond := Cond.codeWith yL_done cL_done 3 (some .int) [(0, 8, 11, 15)] :: WG
set_option maxHeartbeats 4000000 in
set_option maxRecDepth 100000 in
theorem ctL_done (l : Launch) (hfl : l.stackTraces = false) (D : va_G) (sw : Sw) (cs : Cs) (cq : ClassId × ClassId) (ad : Nat → Nat) (X : va_W) (sz : Nat) (M : Mm) {oc : Int32 ⊕ Nat} {M1 : Mm} (hq : gX7_done M = some (oc, M1)) (hk : ∀ k, oc = .inr k → k ∈ [1]) {j o : Nat} {f : Nat → Int64} (hX : X[j]? = some (o, .inl (cq.1, 1, .inr (.inl f)))) : Met l yL_done wsL_done { frames := 8, cells := 2, slots := 12, locals := 130 } (va_Pc [.ref (ad 0), .ref o] (lPre D sw cs cq ad M X sz)) (va_Qi (fun (r' : Int32) (_ : Unit) => r' = hN [1] oc) (fun _ t => va_P D vwCl (wl cs LC NC ad M1 ++ oX X j o cq.1 f oc) t.heap) (wA NC ad X sz)) 2 12 (wA NC ad X sz) := by
  refine met_h rfl rfl (Nat.le_of_ble_eq_true rfl) (fun p e s m args below meth c ls CX hr hlk htab hK hKL hSW hP hD hS hA hl => ?_)
  obtain ⟨hx, hb, hml, hown, hts⟩ := id CX
  have hw : ∀ w ∈ WG, w.before args s = true := fun w h => hts w (List.mem_cons_of_mem _ h)
  have hR : 8 ≤ ({ frames := 8, cells := 2, slots := 12, locals := 130 } : Room).frames ∧ 130 ≤ ({ frames := 8, cells := 2, slots := 12, locals := 130 } : Room).locals := ⟨Nat.le_refl _, Nat.le_refl _⟩
  have hRc : 2 ≤ ({ frames := 8, cells := 2, slots := 12, locals := 130 } : Room).cells ∧ 12 ≤ ({ frames := 8, cells := 2, slots := 12, locals := 130 } : Room).slots := ⟨Nat.le_refl _, Nat.le_refl _⟩
  have hl : lv_has ls 3 [(0, .ref (ad 0)), (1, .ref o)] := hl
  refine lv_aload_n hx hb dL_done_0 rfl (lv_at hl 1 rfl) ?_
  refine lv_iconst (v := 0) hx hb dL_done_1 (by decide) ?_
  refine lv_aload_n hx hb dL_done_2 rfl (lv_at hl 0 rfl) ?_
  refine t_calli (vx_runV (As := []) (rest := [.int 0, .ref o]) CX (ctX7_done l hfl D sw cs ad X s.heap.size M hq) (cwV 0 hts (gwV m3_130 m3_131 m3_132 m1_1 m3_133) rfl rfl rfl (by decide +kernel) ⟨Nat.le_trans (Nat.le_of_ble_eq_true rfl) hR.1, Nat.le_trans (Nat.le_of_ble_eq_true rfl) hR.2⟩) (wPreV hSW hS hA hK hP hD (by decide) rfl rfl _) rfl rfl hl.1 rfl (lv_room (Nat.le_of_ble_eq_true rfl)) dL_done_3 ⟨Nat.le_trans (Nat.le_of_ble_eq_true rfl) hRc.1, Nat.le_trans (Nat.le_of_ble_eq_true rfl) hRc.2⟩) hD hS hA (fun k9 ho9 H locs ce9 q9 hP hD hS hce9 hcv9 hcl9 => ?_) (fun r ho9 H locs hP hD hS => ?_)
  · have hk9 := hk k9 ho9
    obtain rfl : k9 = 1 := by simpa using hk9
    refine vx_catch (E := "java/lang/IllegalStateException") (name := "java/lang/IllegalStateException") hown [] (⟨0, 8, 11, 15⟩ : ExceptionTableEntry) [] (by rw [htab]; rfl) (fun z hz => by cases hz) (by decide) (by decide) (hw _ m2_214) (va_Nw.use rfl (hSW.ca _ (List.mem_of_getElem? (i := 1) rfl))) hce9 hcv9 hcl9 ?_
    refine lv_astore_n (lv' := [(2, .ref q9), (0, .ref (ad 0)), (1, .ref o)]) hx hb dL_done_11 rfl hl (by decide) rfl (fun ls hl => ?_)
    refine lv_iconst (v := 1) hx hb dL_done_12 (by decide) ?_
    refine W.widen (k := 2) (n := 12) (by decide) (by decide) ?_
    exact W.iret hx hb hr (fun t ht hW => ⟨⟨_, (), rfl, (by subst ho9; first | rfl | decide), (by subst ho9; rw [← ht] at hP; exact hP)⟩, hS.F ht⟩) hS.2.2 dL_done_13 hlk
  · refine lv_i2l hx hb dL_done_6 rfl ?_
    refine va_last (n := 1) hx hb hKL hP hD hS (NC + j) 0 (wx_get hX) rfl (by unfold vp_in; decide) dL_done_7 (fun H locs hP hD hS => ?_)
    rw [wx_set] at hP
    refine lv_goto (tgt := 14) hx hb dL_done_8 (by decide) ?_
    refine lv_iconst (v := 0) hx hb dL_done_14 (by decide) ?_
    refine W.widen (k := 2) (n := 12) (by decide) (by decide) ?_
    exact W.iret hx hb hr (fun t ht hW => ⟨⟨_, (), rfl, (by subst ho9; first | rfl | decide), (by subst ho9; rw [← ht] at hP; exact hP)⟩, hS.F ht⟩) hS.2.2 dL_done_15 hlk
theorem WL_set : Cond.codeWith yL_set cL_set 5 (some .int) [(0, 10, 13, 21), (0, 10, 17, 15)] ∈ WG := wg3 (List.mem_of_getElem? (i := 136) rfl) rfl
abbrev wsL_set : List Cond := Cond.codeWith yL_set cL_set 5 (some .int) [(0, 10, 13, 21), (0, 10, 17, 15)] :: WG
set_option maxHeartbeats 4000000 in
set_option maxRecDepth 100000 in
theorem ctL_set (l : Launch) (hfl : l.stackTraces = false) (D : va_G) (sw : Sw) (cs : Cs) (cq : ClassId × ClassId) (ad : Nat → Nat) (X : va_W) (sz : Nat) (M : Mm) (a1 : Int32) (a2 : Int32) {oc : Int32 ⊕ Nat} {M1 : Mm} (hq : gX7_set M a1 a2 = some (oc, M1)) (hk : ∀ k, oc = .inr k → k ∈ [2, 1]) {j o : Nat} {f : Nat → Int64} (hX : X[j]? = some (o, .inl (cq.1, 1, .inr (.inl f)))) : Met l yL_set wsL_set { frames := 8, cells := 2, slots := 12, locals := 133 } (va_Pc [.ref (ad 0), .int a1, .int a2, .ref o] (lPre D sw cs cq ad M X sz)) (va_Qi (fun (r' : Int32) (_ : Unit) => r' = hN [2, 1] oc) (fun _ t => va_P D vwCl (wl cs LC NC ad M1 ++ oX X j o cq.1 f oc) t.heap) (wA NC ad X sz)) 2 12 (wA NC ad X sz) := by
  refine met_h rfl rfl (Nat.le_of_ble_eq_true rfl) (fun p e s m args below meth c ls CX hr hlk htab hK hKL hSW hP hD hS hA hl => ?_)
  obtain ⟨hx, hb, hml, hown, hts⟩ := id CX
  have hw : ∀ w ∈ WG, w.before args s = true := fun w h => hts w (List.mem_cons_of_mem _ h)
  have hR : 8 ≤ ({ frames := 8, cells := 2, slots := 12, locals := 133 } : Room).frames ∧ 133 ≤ ({ frames := 8, cells := 2, slots := 12, locals := 133 } : Room).locals := ⟨Nat.le_refl _, Nat.le_refl _⟩
  have hRc : 2 ≤ ({ frames := 8, cells := 2, slots := 12, locals := 133 } : Room).cells ∧ 12 ≤ ({ frames := 8, cells := 2, slots := 12, locals := 133 } : Room).slots := ⟨Nat.le_refl _, Nat.le_refl _⟩
  have hl : lv_has ls 5 [(0, .ref (ad 0)), (1, .int a1), (2, .int a2), (3, .ref o)] := hl
  refine lv_aload_n hx hb dL_set_0 rfl (lv_at hl 3 rfl) ?_
  refine lv_iconst (v := 0) hx hb dL_set_1 (by decide) ?_
  refine lv_aload_n hx hb dL_set_2 rfl (lv_at hl 0 rfl) ?_
  refine lv_iload_n hx hb dL_set_3 rfl (lv_at hl 1 rfl) ?_
  refine lv_iload_n hx hb dL_set_4 rfl (lv_at hl 2 rfl) ?_
  refine t_calli (vx_runV (As := [.int a1, .int a2]) (rest := [.int 0, .ref o]) CX (ctX7_set l hfl D sw cs ad X s.heap.size M a1 a2 hq) (cwV 2 hts (gwV m3_137 m3_138 m3_139 m1_1 m3_140) rfl rfl rfl (by decide +kernel) ⟨Nat.le_trans (Nat.le_of_ble_eq_true rfl) hR.1, Nat.le_trans (Nat.le_of_ble_eq_true rfl) hR.2⟩) (wPreV hSW hS hA hK hP hD (by decide) rfl rfl _) rfl rfl hl.1 rfl (lv_room (Nat.le_of_ble_eq_true rfl)) dL_set_5 ⟨Nat.le_trans (Nat.le_of_ble_eq_true rfl) hRc.1, Nat.le_trans (Nat.le_of_ble_eq_true rfl) hRc.2⟩) hD hS hA (fun k9 ho9 H locs ce9 q9 hP hD hS hce9 hcv9 hcl9 => ?_) (fun r ho9 H locs hP hD hS => ?_)
  · have hk9 := hk k9 ho9
    rcases (show k9 = 2 ∨ k9 = 1 by simpa using hk9) with rfl | rfl
    · refine vx_catch (E := "java/lang/IndexOutOfBoundsException") (name := "java/lang/IndexOutOfBoundsException") hown [] (⟨0, 10, 13, 21⟩ : ExceptionTableEntry) [(⟨0, 10, 17, 15⟩ : ExceptionTableEntry)] (by rw [htab]; rfl) (fun z hz => by cases hz) (by decide) (by decide) (hw _ m3_77) (va_Nw.use rfl (hSW.ca _ (List.mem_of_getElem? (i := 2) rfl))) hce9 hcv9 hcl9 ?_
      refine lv_astore (lv' := [(4, .ref q9), (0, .ref (ad 0)), (1, .int a1), (2, .int a2), (3, .ref o)]) hx hb dL_set_13 hl (by decide) rfl (fun ls hl => ?_)
      refine lv_iconst (v := 1) hx hb dL_set_15 (by decide) ?_
      refine W.widen (k := 2) (n := 12) (by decide) (by decide) ?_
      exact W.iret hx hb hr (fun t ht hW => ⟨⟨_, (), rfl, (by subst ho9; first | rfl | decide), (by subst ho9; rw [← ht] at hP; exact hP)⟩, hS.F ht⟩) hS.2.2 dL_set_16 hlk
    · have hps : ∀ z ∈ [(⟨0, 10, 13, 21⟩ : ExceptionTableEntry)], covers z 5 = false ∨ (z.catchType ≠ 0 ∧ ∃ nm : String, (Cond.classLink RL z.catchType nm).before args s = true ∧ va_Nc "java/lang/IllegalStateException" nm s) := by
        intro z hz
        rcases (show z = (⟨0, 10, 13, 21⟩ : ExceptionTableEntry) by simpa using hz) with rfl
        · exact Or.inr ⟨by decide, "java/lang/IndexOutOfBoundsException", hw _ m3_77, hSW.nc _ (List.mem_of_getElem? (i := 1) rfl) _ (List.mem_of_getElem? (i := 2) rfl) (by decide)⟩
      refine vx_catch (E := "java/lang/IllegalStateException") (name := "java/lang/IllegalStateException") hown [(⟨0, 10, 13, 21⟩ : ExceptionTableEntry)] (⟨0, 10, 17, 15⟩ : ExceptionTableEntry) [] (by rw [htab]; rfl) hps (by decide) (by decide) (hw _ m2_214) (va_Nw.use rfl (hSW.ca _ (List.mem_of_getElem? (i := 1) rfl))) hce9 hcv9 hcl9 ?_
      refine lv_astore (lv' := [(4, .ref q9), (0, .ref (ad 0)), (1, .int a1), (2, .int a2), (3, .ref o)]) hx hb dL_set_17 hl (by decide) rfl (fun ls hl => ?_)
      refine lv_iconst (v := 2) hx hb dL_set_19 (by decide) ?_
      refine W.widen (k := 2) (n := 12) (by decide) (by decide) ?_
      exact W.iret hx hb hr (fun t ht hW => ⟨⟨_, (), rfl, (by subst ho9; first | rfl | decide), (by subst ho9; rw [← ht] at hP; exact hP)⟩, hS.F ht⟩) hS.2.2 dL_set_20 hlk
  · refine lv_i2l hx hb dL_set_8 rfl ?_
    refine va_last (n := 1) hx hb hKL hP hD hS (NC + j) 0 (wx_get hX) rfl (by unfold vp_in; decide) dL_set_9 (fun H locs hP hD hS => ?_)
    rw [wx_set] at hP
    refine lv_goto (tgt := 21) hx hb dL_set_10 (by decide) ?_
    refine lv_iconst (v := 0) hx hb dL_set_21 (by decide) ?_
    refine W.widen (k := 2) (n := 12) (by decide) (by decide) ?_
    exact W.iret hx hb hr (fun t ht hW => ⟨⟨_, (), rfl, (by subst ho9; first | rfl | decide), (by subst ho9; rw [← ht] at hP; exact hP)⟩, hS.F ht⟩) hS.2.2 dL_set_22 hlk
theorem WL_drop : Cond.codeWith yL_drop cL_drop 3 (some .int) [(0, 8, 11, 15)] ∈ WG := wg3 (List.mem_of_getElem? (i := 147) rfl) rfl
abbrev wsL_drop : List Cond := Cond.codeWith yL_drop cL_drop 3 (some .int) [(0, 8, 11, 15)] :: WG
set_option maxHeartbeats 4000000 in
set_option maxRecDepth 100000 in
theorem ctL_drop (l : Launch) (hfl : l.stackTraces = false) (D : va_G) (sw : Sw) (cs : Cs) (cq : ClassId × ClassId) (ad : Nat → Nat) (X : va_W) (sz : Nat) (M : Mm) {oc : Int32 ⊕ Nat} {M1 : Mm} (hq : gX7_drop M = some (oc, M1)) (hk : ∀ k, oc = .inr k → k ∈ [1]) {j o : Nat} {f : Nat → Int64} (hX : X[j]? = some (o, .inl (cq.1, 1, .inr (.inl f)))) : Met l yL_drop wsL_drop { frames := 7, cells := 1, slots := 6, locals := 110 } (va_Pc [.ref (ad 0), .ref o] (lPre D sw cs cq ad M X sz)) (va_Qi (fun (r' : Int32) (_ : Unit) => r' = hN [1] oc) (fun _ t => va_P D vwCl (wl cs LC NC ad M1 ++ oX X j o cq.1 f oc) t.heap) (wA NC ad X sz)) 1 6 (wA NC ad X sz) := by
  refine met_h rfl rfl (Nat.le_of_ble_eq_true rfl) (fun p e s m args below meth c ls CX hr hlk htab hK hKL hSW hP hD hS hA hl => ?_)
  obtain ⟨hx, hb, hml, hown, hts⟩ := id CX
  have hw : ∀ w ∈ WG, w.before args s = true := fun w h => hts w (List.mem_cons_of_mem _ h)
  have hR : 7 ≤ ({ frames := 7, cells := 1, slots := 6, locals := 110 } : Room).frames ∧ 110 ≤ ({ frames := 7, cells := 1, slots := 6, locals := 110 } : Room).locals := ⟨Nat.le_refl _, Nat.le_refl _⟩
  have hRc : 1 ≤ ({ frames := 7, cells := 1, slots := 6, locals := 110 } : Room).cells ∧ 6 ≤ ({ frames := 7, cells := 1, slots := 6, locals := 110 } : Room).slots := ⟨Nat.le_refl _, Nat.le_refl _⟩
  have hl : lv_has ls 3 [(0, .ref (ad 0)), (1, .ref o)] := hl
  refine lv_aload_n hx hb dL_drop_0 rfl (lv_at hl 1 rfl) ?_
  refine lv_iconst (v := 0) hx hb dL_drop_1 (by decide) ?_
  refine lv_aload_n hx hb dL_drop_2 rfl (lv_at hl 0 rfl) ?_
  refine t_calli (vx_runV (As := []) (rest := [.int 0, .ref o]) CX (ctX7_drop l hfl D sw cs ad X s.heap.size M hq) (cwV 0 hts (gwV m3_148 m3_149 m3_150 m1_1 m3_151) rfl rfl rfl (by decide +kernel) ⟨Nat.le_trans (Nat.le_of_ble_eq_true rfl) hR.1, Nat.le_trans (Nat.le_of_ble_eq_true rfl) hR.2⟩) (wPreV hSW hS hA hK hP hD (by decide) rfl rfl _) rfl rfl hl.1 rfl (lv_room (Nat.le_of_ble_eq_true rfl)) dL_drop_3 ⟨Nat.le_trans (Nat.le_of_ble_eq_true rfl) hRc.1, Nat.le_trans (Nat.le_of_ble_eq_true rfl) hRc.2⟩) hD hS hA (fun k9 ho9 H locs ce9 q9 hP hD hS hce9 hcv9 hcl9 => ?_) (fun r ho9 H locs hP hD hS => ?_)
  · have hk9 := hk k9 ho9
    obtain rfl : k9 = 1 := by simpa using hk9
    refine vx_catch (E := "java/lang/IllegalStateException") (name := "java/lang/IllegalStateException") hown [] (⟨0, 8, 11, 15⟩ : ExceptionTableEntry) [] (by rw [htab]; rfl) (fun z hz => by cases hz) (by decide) (by decide) (hw _ m2_214) (va_Nw.use rfl (hSW.ca _ (List.mem_of_getElem? (i := 1) rfl))) hce9 hcv9 hcl9 ?_
    refine lv_astore_n (lv' := [(2, .ref q9), (0, .ref (ad 0)), (1, .ref o)]) hx hb dL_drop_11 rfl hl (by decide) rfl (fun ls hl => ?_)
    refine lv_iconst (v := 1) hx hb dL_drop_12 (by decide) ?_
    refine W.widen (k := 1) (n := 6) (by decide) (by decide) ?_
    exact W.iret hx hb hr (fun t ht hW => ⟨⟨_, (), rfl, (by subst ho9; first | rfl | decide), (by subst ho9; rw [← ht] at hP; exact hP)⟩, hS.F ht⟩) hS.2.2 dL_drop_13 hlk
  · refine lv_i2l hx hb dL_drop_6 rfl ?_
    refine va_last (n := 1) hx hb hKL hP hD hS (NC + j) 0 (wx_get hX) rfl (by unfold vp_in; decide) dL_drop_7 (fun H locs hP hD hS => ?_)
    rw [wx_set] at hP
    refine lv_goto (tgt := 14) hx hb dL_drop_8 (by decide) ?_
    refine lv_iconst (v := 0) hx hb dL_drop_14 (by decide) ?_
    refine W.widen (k := 1) (n := 6) (by decide) (by decide) ?_
    exact W.iret hx hb hr (fun t ht hW => ⟨⟨_, (), rfl, (by subst ho9; first | rfl | decide), (by subst ho9; rw [← ht] at hP; exact hP)⟩, hS.F ht⟩) hS.2.2 dL_drop_15 hlk
theorem WL_replace : Cond.codeWith yL_replace cL_replace 5 (some .int) [(0, 10, 13, 21), (0, 10, 17, 15), (0, 10, 21, 13)] ∈ WG := wg3 (List.mem_of_getElem? (i := 159) rfl) rfl
abbrev wsL_replace : List Cond := Cond.codeWith yL_replace cL_replace 5 (some .int) [(0, 10, 13, 21), (0, 10, 17, 15), (0, 10, 21, 13)] :: WG
set_option maxHeartbeats 4000000 in
set_option maxRecDepth 100000 in
theorem ctL_replace (l : Launch) (hfl : l.stackTraces = false) (D : va_G) (sw : Sw) (cs : Cs) (cq : ClassId × ClassId) (ad : Nat → Nat) (X : va_W) (sz : Nat) (M : Mm) (a1 : Int32) (a2 : Int32) {oc : Int32 ⊕ Nat} {M1 : Mm} (hq : gX7_replace M a1 a2 = some (oc, M1)) (hk : ∀ k, oc = .inr k → k ∈ [2, 1, 0]) {j o : Nat} {f : Nat → Int64} (hX : X[j]? = some (o, .inl (cq.1, 1, .inr (.inl f)))) : Met l yL_replace wsL_replace { frames := 8, cells := 2, slots := 12, locals := 134 } (va_Pc [.ref (ad 0), .int a1, .int a2, .ref o] (lPre D sw cs cq ad M X sz)) (va_Qi (fun (r' : Int32) (_ : Unit) => r' = hN [2, 1, 0] oc) (fun _ t => va_P D vwCl (wl cs LC NC ad M1 ++ oX X j o cq.1 f oc) t.heap) (wA NC ad X sz)) 2 12 (wA NC ad X sz) := by
  refine met_h rfl rfl (Nat.le_of_ble_eq_true rfl) (fun p e s m args below meth c ls CX hr hlk htab hK hKL hSW hP hD hS hA hl => ?_)
  obtain ⟨hx, hb, hml, hown, hts⟩ := id CX
  have hw : ∀ w ∈ WG, w.before args s = true := fun w h => hts w (List.mem_cons_of_mem _ h)
  have hR : 8 ≤ ({ frames := 8, cells := 2, slots := 12, locals := 134 } : Room).frames ∧ 134 ≤ ({ frames := 8, cells := 2, slots := 12, locals := 134 } : Room).locals := ⟨Nat.le_refl _, Nat.le_refl _⟩
  have hRc : 2 ≤ ({ frames := 8, cells := 2, slots := 12, locals := 134 } : Room).cells ∧ 12 ≤ ({ frames := 8, cells := 2, slots := 12, locals := 134 } : Room).slots := ⟨Nat.le_refl _, Nat.le_refl _⟩
  have hl : lv_has ls 5 [(0, .ref (ad 0)), (1, .int a1), (2, .int a2), (3, .ref o)] := hl
  refine lv_aload_n hx hb dL_replace_0 rfl (lv_at hl 3 rfl) ?_
  refine lv_iconst (v := 0) hx hb dL_replace_1 (by decide) ?_
  refine lv_aload_n hx hb dL_replace_2 rfl (lv_at hl 0 rfl) ?_
  refine lv_iload_n hx hb dL_replace_3 rfl (lv_at hl 1 rfl) ?_
  refine lv_iload_n hx hb dL_replace_4 rfl (lv_at hl 2 rfl) ?_
  refine t_calli (vx_runV (As := [.int a1, .int a2]) (rest := [.int 0, .ref o]) CX (ctX7_replace l hfl D sw cs ad X s.heap.size M a1 a2 hq) (cwV 2 hts (gwV m3_160 m3_161 m3_162 m1_1 m3_163) rfl rfl rfl (by decide +kernel) ⟨Nat.le_trans (Nat.le_of_ble_eq_true rfl) hR.1, Nat.le_trans (Nat.le_of_ble_eq_true rfl) hR.2⟩) (wPreV hSW hS hA hK hP hD (by decide) rfl rfl _) rfl rfl hl.1 rfl (lv_room (Nat.le_of_ble_eq_true rfl)) dL_replace_5 ⟨Nat.le_trans (Nat.le_of_ble_eq_true rfl) hRc.1, Nat.le_trans (Nat.le_of_ble_eq_true rfl) hRc.2⟩) hD hS hA (fun k9 ho9 H locs ce9 q9 hP hD hS hce9 hcv9 hcl9 => ?_) (fun r ho9 H locs hP hD hS => ?_)
  · have hk9 := hk k9 ho9
    rcases (show k9 = 2 ∨ k9 = 1 ∨ k9 = 0 by simpa using hk9) with rfl | rfl | rfl
    · refine vx_catch (E := "java/lang/IndexOutOfBoundsException") (name := "java/lang/IndexOutOfBoundsException") hown [] (⟨0, 10, 13, 21⟩ : ExceptionTableEntry) [(⟨0, 10, 17, 15⟩ : ExceptionTableEntry), (⟨0, 10, 21, 13⟩ : ExceptionTableEntry)] (by rw [htab]; rfl) (fun z hz => by cases hz) (by decide) (by decide) (hw _ m3_77) (va_Nw.use rfl (hSW.ca _ (List.mem_of_getElem? (i := 2) rfl))) hce9 hcv9 hcl9 ?_
      refine lv_astore (lv' := [(4, .ref q9), (0, .ref (ad 0)), (1, .int a1), (2, .int a2), (3, .ref o)]) hx hb dL_replace_13 hl (by decide) rfl (fun ls hl => ?_)
      refine lv_iconst (v := 1) hx hb dL_replace_15 (by decide) ?_
      refine W.widen (k := 2) (n := 12) (by decide) (by decide) ?_
      exact W.iret hx hb hr (fun t ht hW => ⟨⟨_, (), rfl, (by subst ho9; first | rfl | decide), (by subst ho9; rw [← ht] at hP; exact hP)⟩, hS.F ht⟩) hS.2.2 dL_replace_16 hlk
    · have hps : ∀ z ∈ [(⟨0, 10, 13, 21⟩ : ExceptionTableEntry)], covers z 5 = false ∨ (z.catchType ≠ 0 ∧ ∃ nm : String, (Cond.classLink RL z.catchType nm).before args s = true ∧ va_Nc "java/lang/IllegalStateException" nm s) := by
        intro z hz
        rcases (show z = (⟨0, 10, 13, 21⟩ : ExceptionTableEntry) by simpa using hz) with rfl
        · exact Or.inr ⟨by decide, "java/lang/IndexOutOfBoundsException", hw _ m3_77, hSW.nc _ (List.mem_of_getElem? (i := 1) rfl) _ (List.mem_of_getElem? (i := 2) rfl) (by decide)⟩
      refine vx_catch (E := "java/lang/IllegalStateException") (name := "java/lang/IllegalStateException") hown [(⟨0, 10, 13, 21⟩ : ExceptionTableEntry)] (⟨0, 10, 17, 15⟩ : ExceptionTableEntry) [(⟨0, 10, 21, 13⟩ : ExceptionTableEntry)] (by rw [htab]; rfl) hps (by decide) (by decide) (hw _ m2_214) (va_Nw.use rfl (hSW.ca _ (List.mem_of_getElem? (i := 1) rfl))) hce9 hcv9 hcl9 ?_
      refine lv_astore (lv' := [(4, .ref q9), (0, .ref (ad 0)), (1, .int a1), (2, .int a2), (3, .ref o)]) hx hb dL_replace_17 hl (by decide) rfl (fun ls hl => ?_)
      refine lv_iconst (v := 2) hx hb dL_replace_19 (by decide) ?_
      refine W.widen (k := 2) (n := 12) (by decide) (by decide) ?_
      exact W.iret hx hb hr (fun t ht hW => ⟨⟨_, (), rfl, (by subst ho9; first | rfl | decide), (by subst ho9; rw [← ht] at hP; exact hP)⟩, hS.F ht⟩) hS.2.2 dL_replace_20 hlk
    · have hps : ∀ z ∈ [(⟨0, 10, 13, 21⟩ : ExceptionTableEntry), (⟨0, 10, 17, 15⟩ : ExceptionTableEntry)], covers z 5 = false ∨ (z.catchType ≠ 0 ∧ ∃ nm : String, (Cond.classLink RL z.catchType nm).before args s = true ∧ va_Nc "java/lang/IllegalArgumentException" nm s) := by
        intro z hz
        rcases (show z = (⟨0, 10, 13, 21⟩ : ExceptionTableEntry) ∨ z = (⟨0, 10, 17, 15⟩ : ExceptionTableEntry) by simpa using hz) with rfl | rfl
        · exact Or.inr ⟨by decide, "java/lang/IndexOutOfBoundsException", hw _ m3_77, hSW.nc _ (List.mem_of_getElem? (i := 0) rfl) _ (List.mem_of_getElem? (i := 2) rfl) (by decide)⟩
        · exact Or.inr ⟨by decide, "java/lang/IllegalStateException", hw _ m2_214, hSW.nc _ (List.mem_of_getElem? (i := 0) rfl) _ (List.mem_of_getElem? (i := 1) rfl) (by decide)⟩
      refine vx_catch (E := "java/lang/IllegalArgumentException") (name := "java/lang/IllegalArgumentException") hown [(⟨0, 10, 13, 21⟩ : ExceptionTableEntry), (⟨0, 10, 17, 15⟩ : ExceptionTableEntry)] (⟨0, 10, 21, 13⟩ : ExceptionTableEntry) [] (by rw [htab]; rfl) hps (by decide) (by decide) (hw _ m2_213) (va_Nw.use rfl (hSW.ca _ (List.mem_of_getElem? (i := 0) rfl))) hce9 hcv9 hcl9 ?_
      refine lv_astore (lv' := [(4, .ref q9), (0, .ref (ad 0)), (1, .int a1), (2, .int a2), (3, .ref o)]) hx hb dL_replace_21 hl (by decide) rfl (fun ls hl => ?_)
      refine lv_iconst (v := 3) hx hb dL_replace_23 (by decide) ?_
      refine W.widen (k := 2) (n := 12) (by decide) (by decide) ?_
      exact W.iret hx hb hr (fun t ht hW => ⟨⟨_, (), rfl, (by subst ho9; first | rfl | decide), (by subst ho9; rw [← ht] at hP; exact hP)⟩, hS.F ht⟩) hS.2.2 dL_replace_24 hlk
  · refine lv_i2l hx hb dL_replace_8 rfl ?_
    refine va_last (n := 1) hx hb hKL hP hD hS (NC + j) 0 (wx_get hX) rfl (by unfold vp_in; decide) dL_replace_9 (fun H locs hP hD hS => ?_)
    rw [wx_set] at hP
    refine lv_goto (tgt := 25) hx hb dL_replace_10 (by decide) ?_
    refine lv_iconst (v := 0) hx hb dL_replace_25 (by decide) ?_
    refine W.widen (k := 2) (n := 12) (by decide) (by decide) ?_
    exact W.iret hx hb hr (fun t ht hW => ⟨⟨_, (), rfl, (by subst ho9; first | rfl | decide), (by subst ho9; rw [← ht] at hP; exact hP)⟩, hS.F ht⟩) hS.2.2 dL_replace_26 hlk
theorem WL_item : Cond.codeWith yL_item cL_item 4 (some .int) [(0, 9, 12, 21)] ∈ WG := wg3 (List.mem_of_getElem? (i := 173) rfl) rfl
abbrev wsL_item : List Cond := Cond.codeWith yL_item cL_item 4 (some .int) [(0, 9, 12, 21)] :: WG
set_option maxHeartbeats 4000000 in
set_option maxRecDepth 100000 in
theorem ctL_item (l : Launch) (hfl : l.stackTraces = false) (D : va_G) (sw : Sw) (cs : Cs) (cq : ClassId × ClassId) (ad : Nat → Nat) (X : va_W) (sz : Nat) (M : Mm) (a1 : Int32) {oc : Int32 ⊕ Nat} {M1 : Mm} (hq : gX7_item M a1 = some (oc, M1)) (hk : ∀ k, oc = .inr k → k ∈ [2]) {j o : Nat} {f : Nat → Int64} (hX : X[j]? = some (o, .inl (cq.1, 1, .inr (.inl f)))) : Met l yL_item wsL_item { frames := 8, cells := 1, slots := 6, locals := 132 } (va_Pc [.ref (ad 0), .int a1, .ref o] (lPre D sw cs cq ad M X sz)) (va_Qi (fun (r' : Int32) (_ : Unit) => r' = hN [2] oc) (fun _ t => va_P D vwCl (wl cs LC NC ad M1 ++ oX X j o cq.1 f oc) t.heap) (wA NC ad X sz)) 1 6 (wA NC ad X sz) := by
  refine met_h rfl rfl (Nat.le_of_ble_eq_true rfl) (fun p e s m args below meth c ls CX hr hlk htab hK hKL hSW hP hD hS hA hl => ?_)
  obtain ⟨hx, hb, hml, hown, hts⟩ := id CX
  have hw : ∀ w ∈ WG, w.before args s = true := fun w h => hts w (List.mem_cons_of_mem _ h)
  have hR : 8 ≤ ({ frames := 8, cells := 1, slots := 6, locals := 132 } : Room).frames ∧ 132 ≤ ({ frames := 8, cells := 1, slots := 6, locals := 132 } : Room).locals := ⟨Nat.le_refl _, Nat.le_refl _⟩
  have hRc : 1 ≤ ({ frames := 8, cells := 1, slots := 6, locals := 132 } : Room).cells ∧ 6 ≤ ({ frames := 8, cells := 1, slots := 6, locals := 132 } : Room).slots := ⟨Nat.le_refl _, Nat.le_refl _⟩
  have hl : lv_has ls 4 [(0, .ref (ad 0)), (1, .int a1), (2, .ref o)] := hl
  refine lv_aload_n hx hb dL_item_0 rfl (lv_at hl 2 rfl) ?_
  refine lv_iconst (v := 0) hx hb dL_item_1 (by decide) ?_
  refine lv_aload_n hx hb dL_item_2 rfl (lv_at hl 0 rfl) ?_
  refine lv_iload_n hx hb dL_item_3 rfl (lv_at hl 1 rfl) ?_
  refine t_calli (vx_runV (As := [.int a1]) (rest := [.int 0, .ref o]) CX (ctX7_item l hfl D sw cs ad X s.heap.size M a1 hq) (cwV 1 hts (gwV m3_174 m3_175 m3_176 m1_1 m3_177) rfl rfl rfl (by decide +kernel) ⟨Nat.le_trans (Nat.le_of_ble_eq_true rfl) hR.1, Nat.le_trans (Nat.le_of_ble_eq_true rfl) hR.2⟩) (wPreV hSW hS hA hK hP hD (by decide) rfl rfl _) rfl rfl hl.1 rfl (lv_room (Nat.le_of_ble_eq_true rfl)) dL_item_4 ⟨Nat.le_trans (Nat.le_of_ble_eq_true rfl) hRc.1, Nat.le_trans (Nat.le_of_ble_eq_true rfl) hRc.2⟩) hD hS hA (fun k9 ho9 H locs ce9 q9 hP hD hS hce9 hcv9 hcl9 => ?_) (fun r ho9 H locs hP hD hS => ?_)
  · have hk9 := hk k9 ho9
    obtain rfl : k9 = 2 := by simpa using hk9
    refine vx_catch (E := "java/lang/IndexOutOfBoundsException") (name := "java/lang/IndexOutOfBoundsException") hown [] (⟨0, 9, 12, 21⟩ : ExceptionTableEntry) [] (by rw [htab]; rfl) (fun z hz => by cases hz) (by decide) (by decide) (hw _ m3_77) (va_Nw.use rfl (hSW.ca _ (List.mem_of_getElem? (i := 2) rfl))) hce9 hcv9 hcl9 ?_
    refine lv_astore_n (lv' := [(3, .ref q9), (0, .ref (ad 0)), (1, .int a1), (2, .ref o)]) hx hb dL_item_12 rfl hl (by decide) rfl (fun ls hl => ?_)
    refine lv_iconst (v := 1) hx hb dL_item_13 (by decide) ?_
    refine W.widen (k := 1) (n := 6) (by decide) (by decide) ?_
    exact W.iret hx hb hr (fun t ht hW => ⟨⟨_, (), rfl, (by subst ho9; first | rfl | decide), (by subst ho9; rw [← ht] at hP; exact hP)⟩, hS.F ht⟩) hS.2.2 dL_item_14 hlk
  · refine lv_i2l hx hb dL_item_7 rfl ?_
    refine va_last (n := 1) hx hb hKL hP hD hS (NC + j) 0 (wx_get hX) rfl (by unfold vp_in; decide) dL_item_8 (fun H locs hP hD hS => ?_)
    rw [wx_set] at hP
    refine lv_goto (tgt := 15) hx hb dL_item_9 (by decide) ?_
    refine lv_iconst (v := 0) hx hb dL_item_15 (by decide) ?_
    refine W.widen (k := 1) (n := 6) (by decide) (by decide) ?_
    exact W.iret hx hb hr (fun t ht hW => ⟨⟨_, (), rfl, (by subst ho9; first | rfl | decide), (by subst ho9; rw [← ht] at hP; exact hP)⟩, hS.F ht⟩) hS.2.2 dL_item_16 hlk
theorem WL_presence : Cond.codeWith yL_presence cL_presence 4 (some .int) [(0, 9, 12, 21)] ∈ WG := wg3 (List.mem_of_getElem? (i := 180) rfl) rfl
abbrev wsL_presence : List Cond := Cond.codeWith yL_presence cL_presence 4 (some .int) [(0, 9, 12, 21)] :: WG
set_option maxHeartbeats 4000000 in
set_option maxRecDepth 100000 in
theorem ctL_presence (l : Launch) (hfl : l.stackTraces = false) (D : va_G) (sw : Sw) (cs : Cs) (cq : ClassId × ClassId) (ad : Nat → Nat) (X : va_W) (sz : Nat) (M : Mm) (a1 : Int32) {oc : Int32 ⊕ Nat} {M1 : Mm} (hq : gX7_presence M a1 = some (oc, M1)) (hk : ∀ k, oc = .inr k → k ∈ [2]) {j o : Nat} {f : Nat → Int64} (hX : X[j]? = some (o, .inl (cq.1, 1, .inr (.inl f)))) : Met l yL_presence wsL_presence { frames := 407, cells := 1, slots := 6, locals := 9750 } (va_Pc [.ref (ad 0), .int a1, .ref o] (lPre D sw cs cq ad M X sz)) (va_Qi (fun (r' : Int32) (_ : Unit) => r' = hN [2] oc) (fun _ t => va_P D vwCl (wl cs LC NC ad M1 ++ oX X j o cq.1 f oc) t.heap) (wA NC ad X sz)) 1 6 (wA NC ad X sz) := by
  refine met_h rfl rfl (Nat.le_of_ble_eq_true rfl) (fun p e s m args below meth c ls CX hr hlk htab hK hKL hSW hP hD hS hA hl => ?_)
  obtain ⟨hx, hb, hml, hown, hts⟩ := id CX
  have hw : ∀ w ∈ WG, w.before args s = true := fun w h => hts w (List.mem_cons_of_mem _ h)
  have hR : 407 ≤ ({ frames := 407, cells := 1, slots := 6, locals := 9750 } : Room).frames ∧ 9750 ≤ ({ frames := 407, cells := 1, slots := 6, locals := 9750 } : Room).locals := ⟨Nat.le_refl _, Nat.le_refl _⟩
  have hRc : 1 ≤ ({ frames := 407, cells := 1, slots := 6, locals := 9750 } : Room).cells ∧ 6 ≤ ({ frames := 407, cells := 1, slots := 6, locals := 9750 } : Room).slots := ⟨Nat.le_refl _, Nat.le_refl _⟩
  have hl : lv_has ls 4 [(0, .ref (ad 0)), (1, .int a1), (2, .ref o)] := hl
  refine lv_aload_n hx hb dL_presence_0 rfl (lv_at hl 2 rfl) ?_
  refine lv_iconst (v := 0) hx hb dL_presence_1 (by decide) ?_
  refine lv_aload_n hx hb dL_presence_2 rfl (lv_at hl 0 rfl) ?_
  refine lv_iload_n hx hb dL_presence_3 rfl (lv_at hl 1 rfl) ?_
  refine t_calli (vx_runV (As := [.int a1]) (rest := [.int 0, .ref o]) CX (ctX7_presence l hfl D sw cs ad X s.heap.size M a1 hq) (cwV 1 hts (gwV m3_181 m3_182 m3_183 m1_1 m3_184) rfl rfl rfl (by decide +kernel) ⟨Nat.le_trans (Nat.le_of_ble_eq_true rfl) hR.1, Nat.le_trans (Nat.le_of_ble_eq_true rfl) hR.2⟩) (wPreV hSW hS hA hK hP hD (by decide) rfl rfl _) rfl rfl hl.1 rfl (lv_room (Nat.le_of_ble_eq_true rfl)) dL_presence_4 ⟨Nat.le_trans (Nat.le_of_ble_eq_true rfl) hRc.1, Nat.le_trans (Nat.le_of_ble_eq_true rfl) hRc.2⟩) hD hS hA (fun k9 ho9 H locs ce9 q9 hP hD hS hce9 hcv9 hcl9 => ?_) (fun r ho9 H locs hP hD hS => ?_)
  · have hk9 := hk k9 ho9
    obtain rfl : k9 = 2 := by simpa using hk9
    refine vx_catch (E := "java/lang/IndexOutOfBoundsException") (name := "java/lang/IndexOutOfBoundsException") hown [] (⟨0, 9, 12, 21⟩ : ExceptionTableEntry) [] (by rw [htab]; rfl) (fun z hz => by cases hz) (by decide) (by decide) (hw _ m3_77) (va_Nw.use rfl (hSW.ca _ (List.mem_of_getElem? (i := 2) rfl))) hce9 hcv9 hcl9 ?_
    refine lv_astore_n (lv' := [(3, .ref q9), (0, .ref (ad 0)), (1, .int a1), (2, .ref o)]) hx hb dL_presence_12 rfl hl (by decide) rfl (fun ls hl => ?_)
    refine lv_iconst (v := 1) hx hb dL_presence_13 (by decide) ?_
    refine W.widen (k := 1) (n := 6) (by decide) (by decide) ?_
    exact W.iret hx hb hr (fun t ht hW => ⟨⟨_, (), rfl, (by subst ho9; first | rfl | decide), (by subst ho9; rw [← ht] at hP; exact hP)⟩, hS.F ht⟩) hS.2.2 dL_presence_14 hlk
  · refine lv_i2l hx hb dL_presence_7 rfl ?_
    refine va_last (n := 1) hx hb hKL hP hD hS (NC + j) 0 (wx_get hX) rfl (by unfold vp_in; decide) dL_presence_8 (fun H locs hP hD hS => ?_)
    rw [wx_set] at hP
    refine lv_goto (tgt := 15) hx hb dL_presence_9 (by decide) ?_
    refine lv_iconst (v := 0) hx hb dL_presence_15 (by decide) ?_
    refine W.widen (k := 1) (n := 6) (by decide) (by decide) ?_
    exact W.iret hx hb hr (fun t ht hW => ⟨⟨_, (), rfl, (by subst ho9; first | rfl | decide), (by subst ho9; rw [← ht] at hP; exact hP)⟩, hS.F ht⟩) hS.2.2 dL_presence_16 hlk
theorem WL_on : Cond.codeWith yL_on cL_on 5 (some .int) [(0, 10, 13, 21)] ∈ WG := wg3 (List.mem_of_getElem? (i := 187) rfl) rfl
abbrev wsL_on : List Cond := Cond.codeWith yL_on cL_on 5 (some .int) [(0, 10, 13, 21)] :: WG
set_option maxHeartbeats 4000000 in
set_option maxRecDepth 100000 in
theorem ctL_on (l : Launch) (hfl : l.stackTraces = false) (D : va_G) (sw : Sw) (cs : Cs) (cq : ClassId × ClassId) (ad : Nat → Nat) (X : va_W) (sz : Nat) (M : Mm) (a1 : Int32) (a2 : Int32) {oc : Int32 ⊕ Nat} {M1 : Mm} (hq : gX7_on M a1 a2 = some (oc, M1)) (hk : ∀ k, oc = .inr k → k ∈ [2]) {j o : Nat} {f : Nat → Int64} (hX : X[j]? = some (o, .inl (cq.1, 1, .inr (.inl f)))) : Met l yL_on wsL_on { frames := 407, cells := 2, slots := 12, locals := 9751 } (va_Pc [.ref (ad 0), .int a1, .int a2, .ref o] (lPre D sw cs cq ad M X sz)) (va_Qi (fun (r' : Int32) (_ : Unit) => r' = hN [2] oc) (fun _ t => va_P D vwCl (wl cs LC NC ad M1 ++ oX X j o cq.1 f oc) t.heap) (wA NC ad X sz)) 2 12 (wA NC ad X sz) := by
  refine met_h rfl rfl (Nat.le_of_ble_eq_true rfl) (fun p e s m args below meth c ls CX hr hlk htab hK hKL hSW hP hD hS hA hl => ?_)
  obtain ⟨hx, hb, hml, hown, hts⟩ := id CX
  have hw : ∀ w ∈ WG, w.before args s = true := fun w h => hts w (List.mem_cons_of_mem _ h)
  have hR : 407 ≤ ({ frames := 407, cells := 2, slots := 12, locals := 9751 } : Room).frames ∧ 9751 ≤ ({ frames := 407, cells := 2, slots := 12, locals := 9751 } : Room).locals := ⟨Nat.le_refl _, Nat.le_refl _⟩
  have hRc : 2 ≤ ({ frames := 407, cells := 2, slots := 12, locals := 9751 } : Room).cells ∧ 12 ≤ ({ frames := 407, cells := 2, slots := 12, locals := 9751 } : Room).slots := ⟨Nat.le_refl _, Nat.le_refl _⟩
  have hl : lv_has ls 5 [(0, .ref (ad 0)), (1, .int a1), (2, .int a2), (3, .ref o)] := hl
  refine lv_aload_n hx hb dL_on_0 rfl (lv_at hl 3 rfl) ?_
  refine lv_iconst (v := 0) hx hb dL_on_1 (by decide) ?_
  refine lv_aload_n hx hb dL_on_2 rfl (lv_at hl 0 rfl) ?_
  refine lv_iload_n hx hb dL_on_3 rfl (lv_at hl 1 rfl) ?_
  refine lv_iload_n hx hb dL_on_4 rfl (lv_at hl 2 rfl) ?_
  refine t_calli (vx_runV (As := [.int a1, .int a2]) (rest := [.int 0, .ref o]) CX (ctX7_on l hfl D sw cs ad X s.heap.size M a1 a2 hq) (cwV 2 hts (gwV m3_188 m3_189 m3_190 m1_1 m3_191) rfl rfl rfl (by decide +kernel) ⟨Nat.le_trans (Nat.le_of_ble_eq_true rfl) hR.1, Nat.le_trans (Nat.le_of_ble_eq_true rfl) hR.2⟩) (wPreV hSW hS hA hK hP hD (by decide) rfl rfl _) rfl rfl hl.1 rfl (lv_room (Nat.le_of_ble_eq_true rfl)) dL_on_5 ⟨Nat.le_trans (Nat.le_of_ble_eq_true rfl) hRc.1, Nat.le_trans (Nat.le_of_ble_eq_true rfl) hRc.2⟩) hD hS hA (fun k9 ho9 H locs ce9 q9 hP hD hS hce9 hcv9 hcl9 => ?_) (fun r ho9 H locs hP hD hS => ?_)
  · have hk9 := hk k9 ho9
    obtain rfl : k9 = 2 := by simpa using hk9
    refine vx_catch (E := "java/lang/IndexOutOfBoundsException") (name := "java/lang/IndexOutOfBoundsException") hown [] (⟨0, 10, 13, 21⟩ : ExceptionTableEntry) [] (by rw [htab]; rfl) (fun z hz => by cases hz) (by decide) (by decide) (hw _ m3_77) (va_Nw.use rfl (hSW.ca _ (List.mem_of_getElem? (i := 2) rfl))) hce9 hcv9 hcl9 ?_
    refine lv_astore (lv' := [(4, .ref q9), (0, .ref (ad 0)), (1, .int a1), (2, .int a2), (3, .ref o)]) hx hb dL_on_13 hl (by decide) rfl (fun ls hl => ?_)
    refine lv_iconst (v := 1) hx hb dL_on_15 (by decide) ?_
    refine W.widen (k := 2) (n := 12) (by decide) (by decide) ?_
    exact W.iret hx hb hr (fun t ht hW => ⟨⟨_, (), rfl, (by subst ho9; first | rfl | decide), (by subst ho9; rw [← ht] at hP; exact hP)⟩, hS.F ht⟩) hS.2.2 dL_on_16 hlk
  · refine lv_i2l hx hb dL_on_8 rfl ?_
    refine va_last (n := 1) hx hb hKL hP hD hS (NC + j) 0 (wx_get hX) rfl (by unfold vp_in; decide) dL_on_9 (fun H locs hP hD hS => ?_)
    rw [wx_set] at hP
    refine lv_goto (tgt := 17) hx hb dL_on_10 (by decide) ?_
    refine lv_iconst (v := 0) hx hb dL_on_17 (by decide) ?_
    refine W.widen (k := 2) (n := 12) (by decide) (by decide) ?_
    exact W.iret hx hb hr (fun t ht hW => ⟨⟨_, (), rfl, (by subst ho9; first | rfl | decide), (by subst ho9; rw [← ht] at hP; exact hP)⟩, hS.F ht⟩) hS.2.2 dL_on_18 hlk
theorem WL_features : Cond.codeWith yL_features cL_features 4 (some .int) [(0, 9, 12, 13)] ∈ WG := wg3 (List.mem_of_getElem? (i := 194) rfl) rfl
abbrev wsL_features : List Cond := Cond.codeWith yL_features cL_features 4 (some .int) [(0, 9, 12, 13)] :: WG
set_option maxHeartbeats 4000000 in
set_option maxRecDepth 100000 in
theorem ctL_features (l : Launch) (hfl : l.stackTraces = false) (D : va_G) (sw : Sw) (cs : Cs) (cq : ClassId × ClassId) (ad : Nat → Nat) (X : va_W) (sz : Nat) (M : Mm) (a1 : Int32) {oc : Int32 ⊕ Nat} {M1 : Mm} (hq : gX7_features M a1 = some (oc, M1)) (hk : ∀ k, oc = .inr k → k ∈ [0]) {j o : Nat} {f : Nat → Int64} (hX : X[j]? = some (o, .inl (cq.1, 1, .inr (.inl f)))) : Met l yL_features wsL_features { frames := 7, cells := 1, slots := 6, locals := 113 } (va_Pc [.ref (ad 0), .int a1, .ref o] (lPre D sw cs cq ad M X sz)) (va_Qi (fun (r' : Int32) (_ : Unit) => r' = hN [0] oc) (fun _ t => va_P D vwCl (wl cs LC NC ad M1 ++ oX X j o cq.1 f oc) t.heap) (wA NC ad X sz)) 1 6 (wA NC ad X sz) := by
  refine met_h rfl rfl (Nat.le_of_ble_eq_true rfl) (fun p e s m args below meth c ls CX hr hlk htab hK hKL hSW hP hD hS hA hl => ?_)
  obtain ⟨hx, hb, hml, hown, hts⟩ := id CX
  have hw : ∀ w ∈ WG, w.before args s = true := fun w h => hts w (List.mem_cons_of_mem _ h)
  have hR : 7 ≤ ({ frames := 7, cells := 1, slots := 6, locals := 113 } : Room).frames ∧ 113 ≤ ({ frames := 7, cells := 1, slots := 6, locals := 113 } : Room).locals := ⟨Nat.le_refl _, Nat.le_refl _⟩
  have hRc : 1 ≤ ({ frames := 7, cells := 1, slots := 6, locals := 113 } : Room).cells ∧ 6 ≤ ({ frames := 7, cells := 1, slots := 6, locals := 113 } : Room).slots := ⟨Nat.le_refl _, Nat.le_refl _⟩
  have hl : lv_has ls 4 [(0, .ref (ad 0)), (1, .int a1), (2, .ref o)] := hl
  refine lv_aload_n hx hb dL_features_0 rfl (lv_at hl 2 rfl) ?_
  refine lv_iconst (v := 0) hx hb dL_features_1 (by decide) ?_
  refine lv_aload_n hx hb dL_features_2 rfl (lv_at hl 0 rfl) ?_
  refine lv_iload_n hx hb dL_features_3 rfl (lv_at hl 1 rfl) ?_
  refine t_calli (vx_runV (As := [.int a1]) (rest := [.int 0, .ref o]) CX (ctX7_features l hfl D sw cs ad X s.heap.size M a1 hq) (cwV 1 hts (gwV m3_195 m3_196 m3_197 m1_1 m3_198) rfl rfl rfl (by decide +kernel) ⟨Nat.le_trans (Nat.le_of_ble_eq_true rfl) hR.1, Nat.le_trans (Nat.le_of_ble_eq_true rfl) hR.2⟩) (wPreV hSW hS hA hK hP hD (by decide) rfl rfl _) rfl rfl hl.1 rfl (lv_room (Nat.le_of_ble_eq_true rfl)) dL_features_4 ⟨Nat.le_trans (Nat.le_of_ble_eq_true rfl) hRc.1, Nat.le_trans (Nat.le_of_ble_eq_true rfl) hRc.2⟩) hD hS hA (fun k9 ho9 H locs ce9 q9 hP hD hS hce9 hcv9 hcl9 => ?_) (fun r ho9 H locs hP hD hS => ?_)
  · have hk9 := hk k9 ho9
    obtain rfl : k9 = 0 := by simpa using hk9
    refine vx_catch (E := "java/lang/IllegalArgumentException") (name := "java/lang/IllegalArgumentException") hown [] (⟨0, 9, 12, 13⟩ : ExceptionTableEntry) [] (by rw [htab]; rfl) (fun z hz => by cases hz) (by decide) (by decide) (hw _ m2_213) (va_Nw.use rfl (hSW.ca _ (List.mem_of_getElem? (i := 0) rfl))) hce9 hcv9 hcl9 ?_
    refine lv_astore_n (lv' := [(3, .ref q9), (0, .ref (ad 0)), (1, .int a1), (2, .ref o)]) hx hb dL_features_12 rfl hl (by decide) rfl (fun ls hl => ?_)
    refine lv_iconst (v := 1) hx hb dL_features_13 (by decide) ?_
    refine W.widen (k := 1) (n := 6) (by decide) (by decide) ?_
    exact W.iret hx hb hr (fun t ht hW => ⟨⟨_, (), rfl, (by subst ho9; first | rfl | decide), (by subst ho9; rw [← ht] at hP; exact hP)⟩, hS.F ht⟩) hS.2.2 dL_features_14 hlk
  · refine lv_i2l hx hb dL_features_7 rfl ?_
    refine va_last (n := 1) hx hb hKL hP hD hS (NC + j) 0 (wx_get hX) rfl (by unfold vp_in; decide) dL_features_8 (fun H locs hP hD hS => ?_)
    rw [wx_set] at hP
    refine lv_goto (tgt := 15) hx hb dL_features_9 (by decide) ?_
    refine lv_iconst (v := 0) hx hb dL_features_15 (by decide) ?_
    refine W.widen (k := 1) (n := 6) (by decide) (by decide) ?_
    exact W.iret hx hb hr (fun t ht hW => ⟨⟨_, (), rfl, (by subst ho9; first | rfl | decide), (by subst ho9; rw [← ht] at hP; exact hP)⟩, hS.F ht⟩) hS.2.2 dL_features_16 hlk
theorem WL_length : Cond.codeWith yL_length cL_length 4 (some .int) [(0, 9, 12, 21)] ∈ WG := wg3 (List.mem_of_getElem? (i := 206) rfl) rfl
abbrev wsL_length : List Cond := Cond.codeWith yL_length cL_length 4 (some .int) [(0, 9, 12, 21)] :: WG
set_option maxHeartbeats 4000000 in
set_option maxRecDepth 100000 in
theorem ctL_length (l : Launch) (hfl : l.stackTraces = false) (D : va_G) (sw : Sw) (cs : Cs) (cq : ClassId × ClassId) (ad : Nat → Nat) (X : va_W) (sz : Nat) (M : Mm) (a1 : Int32) {oc : Int32 ⊕ Nat} {M1 : Mm} (hq : gX7_length M a1 = some (oc, M1)) (hk : ∀ k, oc = .inr k → k ∈ [2]) {j o : Nat} {f : Nat → Int64} (hX : X[j]? = some (o, .inl (cq.1, 1, .inr (.inl f)))) : Met l yL_length wsL_length { frames := 407, cells := 1, slots := 6, locals := 9750 } (va_Pc [.ref (ad 0), .int a1, .ref o] (lPre D sw cs cq ad M X sz)) (va_Qi (fun (r' : Int32) (_ : Unit) => r' = hN [2] oc) (fun _ t => va_P D vwCl (wl cs LC NC ad M1 ++ oX X j o cq.1 f oc) t.heap) (wA NC ad X sz)) 1 6 (wA NC ad X sz) := by
  refine met_h rfl rfl (Nat.le_of_ble_eq_true rfl) (fun p e s m args below meth c ls CX hr hlk htab hK hKL hSW hP hD hS hA hl => ?_)
  obtain ⟨hx, hb, hml, hown, hts⟩ := id CX
  have hw : ∀ w ∈ WG, w.before args s = true := fun w h => hts w (List.mem_cons_of_mem _ h)
  have hR : 407 ≤ ({ frames := 407, cells := 1, slots := 6, locals := 9750 } : Room).frames ∧ 9750 ≤ ({ frames := 407, cells := 1, slots := 6, locals := 9750 } : Room).locals := ⟨Nat.le_refl _, Nat.le_refl _⟩
  have hRc : 1 ≤ ({ frames := 407, cells := 1, slots := 6, locals := 9750 } : Room).cells ∧ 6 ≤ ({ frames := 407, cells := 1, slots := 6, locals := 9750 } : Room).slots := ⟨Nat.le_refl _, Nat.le_refl _⟩
  have hl : lv_has ls 4 [(0, .ref (ad 0)), (1, .int a1), (2, .ref o)] := hl
  refine lv_aload_n hx hb dL_length_0 rfl (lv_at hl 2 rfl) ?_
  refine lv_iconst (v := 0) hx hb dL_length_1 (by decide) ?_
  refine lv_aload_n hx hb dL_length_2 rfl (lv_at hl 0 rfl) ?_
  refine lv_iload_n hx hb dL_length_3 rfl (lv_at hl 1 rfl) ?_
  refine t_calli (vx_runV (As := [.int a1]) (rest := [.int 0, .ref o]) CX (ctX7_length l hfl D sw cs ad X s.heap.size M a1 hq) (cwV 1 hts (gwV m3_207 m3_208 m3_209 m1_1 m3_210) rfl rfl rfl (by decide +kernel) ⟨Nat.le_trans (Nat.le_of_ble_eq_true rfl) hR.1, Nat.le_trans (Nat.le_of_ble_eq_true rfl) hR.2⟩) (wPreV hSW hS hA hK hP hD (by decide) rfl rfl _) rfl rfl hl.1 rfl (lv_room (Nat.le_of_ble_eq_true rfl)) dL_length_4 ⟨Nat.le_trans (Nat.le_of_ble_eq_true rfl) hRc.1, Nat.le_trans (Nat.le_of_ble_eq_true rfl) hRc.2⟩) hD hS hA (fun k9 ho9 H locs ce9 q9 hP hD hS hce9 hcv9 hcl9 => ?_) (fun r ho9 H locs hP hD hS => ?_)
  · have hk9 := hk k9 ho9
    obtain rfl : k9 = 2 := by simpa using hk9
    refine vx_catch (E := "java/lang/IndexOutOfBoundsException") (name := "java/lang/IndexOutOfBoundsException") hown [] (⟨0, 9, 12, 21⟩ : ExceptionTableEntry) [] (by rw [htab]; rfl) (fun z hz => by cases hz) (by decide) (by decide) (hw _ m3_77) (va_Nw.use rfl (hSW.ca _ (List.mem_of_getElem? (i := 2) rfl))) hce9 hcv9 hcl9 ?_
    refine lv_astore_n (lv' := [(3, .ref q9), (0, .ref (ad 0)), (1, .int a1), (2, .ref o)]) hx hb dL_length_12 rfl hl (by decide) rfl (fun ls hl => ?_)
    refine lv_iconst (v := 1) hx hb dL_length_13 (by decide) ?_
    refine W.widen (k := 1) (n := 6) (by decide) (by decide) ?_
    exact W.iret hx hb hr (fun t ht hW => ⟨⟨_, (), rfl, (by subst ho9; first | rfl | decide), (by subst ho9; rw [← ht] at hP; exact hP)⟩, hS.F ht⟩) hS.2.2 dL_length_14 hlk
  · refine lv_i2l hx hb dL_length_7 rfl ?_
    refine va_last (n := 1) hx hb hKL hP hD hS (NC + j) 0 (wx_get hX) rfl (by unfold vp_in; decide) dL_length_8 (fun H locs hP hD hS => ?_)
    rw [wx_set] at hP
    refine lv_goto (tgt := 15) hx hb dL_length_9 (by decide) ?_
    refine lv_iconst (v := 0) hx hb dL_length_15 (by decide) ?_
    refine W.widen (k := 1) (n := 6) (by decide) (by decide) ?_
    exact W.iret hx hb hr (fun t ht hW => ⟨⟨_, (), rfl, (by subst ho9; first | rfl | decide), (by subst ho9; rw [← ht] at hP; exact hP)⟩, hS.F ht⟩) hS.2.2 dL_length_16 hlk
theorem WL_place : Cond.codeWith yL_place cL_place 5 (some .int) [(0, 10, 13, 21)] ∈ WG := wg3 (List.mem_of_getElem? (i := 218) rfl) rfl
abbrev wsL_place : List Cond := Cond.codeWith yL_place cL_place 5 (some .int) [(0, 10, 13, 21)] :: WG
set_option maxHeartbeats 4000000 in
set_option maxRecDepth 100000 in
theorem ctL_place (l : Launch) (hfl : l.stackTraces = false) (D : va_G) (sw : Sw) (cs : Cs) (cq : ClassId × ClassId) (ad : Nat → Nat) (X : va_W) (sz : Nat) (M : Mm) (a1 : Int32) (a2 : Int32) {oc : Int32 ⊕ Nat} {M1 : Mm} (hq : gX7_place M a1 a2 = some (oc, M1)) (hk : ∀ k, oc = .inr k → k ∈ [2]) {j o : Nat} {f : Nat → Int64} (hX : X[j]? = some (o, .inl (cq.1, 1, .inr (.inl f)))) : Met l yL_place wsL_place { frames := 407, cells := 2, slots := 12, locals := 9751 } (va_Pc [.ref (ad 0), .int a1, .int a2, .ref o] (lPre D sw cs cq ad M X sz)) (va_Qi (fun (r' : Int32) (_ : Unit) => r' = hN [2] oc) (fun _ t => va_P D vwCl (wl cs LC NC ad M1 ++ oX X j o cq.1 f oc) t.heap) (wA NC ad X sz)) 2 12 (wA NC ad X sz) := by
  refine met_h rfl rfl (Nat.le_of_ble_eq_true rfl) (fun p e s m args below meth c ls CX hr hlk htab hK hKL hSW hP hD hS hA hl => ?_)
  obtain ⟨hx, hb, hml, hown, hts⟩ := id CX
  have hw : ∀ w ∈ WG, w.before args s = true := fun w h => hts w (List.mem_cons_of_mem _ h)
  have hR : 407 ≤ ({ frames := 407, cells := 2, slots := 12, locals := 9751 } : Room).frames ∧ 9751 ≤ ({ frames := 407, cells := 2, slots := 12, locals := 9751 } : Room).locals := ⟨Nat.le_refl _, Nat.le_refl _⟩
  have hRc : 2 ≤ ({ frames := 407, cells := 2, slots := 12, locals := 9751 } : Room).cells ∧ 12 ≤ ({ frames := 407, cells := 2, slots := 12, locals := 9751 } : Room).slots := ⟨Nat.le_refl _, Nat.le_refl _⟩
  have hl : lv_has ls 5 [(0, .ref (ad 0)), (1, .int a1), (2, .int a2), (3, .ref o)] := hl
  refine lv_aload_n hx hb dL_place_0 rfl (lv_at hl 3 rfl) ?_
  refine lv_iconst (v := 0) hx hb dL_place_1 (by decide) ?_
  refine lv_aload_n hx hb dL_place_2 rfl (lv_at hl 0 rfl) ?_
  refine lv_iload_n hx hb dL_place_3 rfl (lv_at hl 1 rfl) ?_
  refine lv_iload_n hx hb dL_place_4 rfl (lv_at hl 2 rfl) ?_
  refine t_calli (vx_runV (As := [.int a1, .int a2]) (rest := [.int 0, .ref o]) CX (ctX7_place l hfl D sw cs ad X s.heap.size M a1 a2 hq) (cwV 2 hts (gwV m3_219 m3_220 m3_221 m1_1 m3_222) rfl rfl rfl (by decide +kernel) ⟨Nat.le_trans (Nat.le_of_ble_eq_true rfl) hR.1, Nat.le_trans (Nat.le_of_ble_eq_true rfl) hR.2⟩) (wPreV hSW hS hA hK hP hD (by decide) rfl rfl _) rfl rfl hl.1 rfl (lv_room (Nat.le_of_ble_eq_true rfl)) dL_place_5 ⟨Nat.le_trans (Nat.le_of_ble_eq_true rfl) hRc.1, Nat.le_trans (Nat.le_of_ble_eq_true rfl) hRc.2⟩) hD hS hA (fun k9 ho9 H locs ce9 q9 hP hD hS hce9 hcv9 hcl9 => ?_) (fun r ho9 H locs hP hD hS => ?_)
  · have hk9 := hk k9 ho9
    obtain rfl : k9 = 2 := by simpa using hk9
    refine vx_catch (E := "java/lang/IndexOutOfBoundsException") (name := "java/lang/IndexOutOfBoundsException") hown [] (⟨0, 10, 13, 21⟩ : ExceptionTableEntry) [] (by rw [htab]; rfl) (fun z hz => by cases hz) (by decide) (by decide) (hw _ m3_77) (va_Nw.use rfl (hSW.ca _ (List.mem_of_getElem? (i := 2) rfl))) hce9 hcv9 hcl9 ?_
    refine lv_astore (lv' := [(4, .ref q9), (0, .ref (ad 0)), (1, .int a1), (2, .int a2), (3, .ref o)]) hx hb dL_place_13 hl (by decide) rfl (fun ls hl => ?_)
    refine lv_iconst (v := 1) hx hb dL_place_15 (by decide) ?_
    refine W.widen (k := 2) (n := 12) (by decide) (by decide) ?_
    exact W.iret hx hb hr (fun t ht hW => ⟨⟨_, (), rfl, (by subst ho9; first | rfl | decide), (by subst ho9; rw [← ht] at hP; exact hP)⟩, hS.F ht⟩) hS.2.2 dL_place_16 hlk
  · refine lv_i2l hx hb dL_place_8 rfl ?_
    refine va_last (n := 1) hx hb hKL hP hD hS (NC + j) 0 (wx_get hX) rfl (by unfold vp_in; decide) dL_place_9 (fun H locs hP hD hS => ?_)
    rw [wx_set] at hP
    refine lv_goto (tgt := 17) hx hb dL_place_10 (by decide) ?_
    refine lv_iconst (v := 0) hx hb dL_place_17 (by decide) ?_
    refine W.widen (k := 2) (n := 12) (by decide) (by decide) ?_
    exact W.iret hx hb hr (fun t ht hW => ⟨⟨_, (), rfl, (by subst ho9; first | rfl | decide), (by subst ho9; rw [← ht] at hP; exact hP)⟩, hS.F ht⟩) hS.2.2 dL_place_18 hlk
theorem WL_error : Cond.codeWith yL_error cL_error 4 (some .int) [(0, 9, 12, 21), (0, 9, 15, 15)] ∈ WG := wg3 (List.mem_of_getElem? (i := 230) rfl) rfl
abbrev wsL_error : List Cond := Cond.codeWith yL_error cL_error 4 (some .int) [(0, 9, 12, 21), (0, 9, 15, 15)] :: WG
set_option maxHeartbeats 4000000 in
set_option maxRecDepth 100000 in
theorem ctL_error (l : Launch) (hfl : l.stackTraces = false) (D : va_G) (sw : Sw) (cs : Cs) (cq : ClassId × ClassId) (ad : Nat → Nat) (X : va_W) (sz : Nat) (M : Mm) (a1 : Int32) {oc : Int32 ⊕ Nat} {M1 : Mm} (hq : gX7_error M a1 = some (oc, M1)) (hk : ∀ k, oc = .inr k → k ∈ [2, 1]) {j o : Nat} {f : Nat → Int64} (hX : X[j]? = some (o, .inl (cq.1, 1, .inr (.inl f)))) : Met l yL_error wsL_error { frames := 407, cells := 2, slots := 12, locals := 9750 } (va_Pc [.ref (ad 0), .int a1, .ref o] (lPre D sw cs cq ad M X sz)) (va_Qi (fun (r' : Int32) (_ : Unit) => r' = hN [2, 1] oc) (fun _ t => va_P D vwCl (wl cs LC NC ad M1 ++ oX X j o cq.1 f oc) t.heap) (wA NC ad X sz)) 2 12 (wA NC ad X sz) := by
  refine met_h rfl rfl (Nat.le_of_ble_eq_true rfl) (fun p e s m args below meth c ls CX hr hlk htab hK hKL hSW hP hD hS hA hl => ?_)
  obtain ⟨hx, hb, hml, hown, hts⟩ := id CX
  have hw : ∀ w ∈ WG, w.before args s = true := fun w h => hts w (List.mem_cons_of_mem _ h)
  have hR : 407 ≤ ({ frames := 407, cells := 2, slots := 12, locals := 9750 } : Room).frames ∧ 9750 ≤ ({ frames := 407, cells := 2, slots := 12, locals := 9750 } : Room).locals := ⟨Nat.le_refl _, Nat.le_refl _⟩
  have hRc : 2 ≤ ({ frames := 407, cells := 2, slots := 12, locals := 9750 } : Room).cells ∧ 12 ≤ ({ frames := 407, cells := 2, slots := 12, locals := 9750 } : Room).slots := ⟨Nat.le_refl _, Nat.le_refl _⟩
  have hl : lv_has ls 4 [(0, .ref (ad 0)), (1, .int a1), (2, .ref o)] := hl
  refine lv_aload_n hx hb dL_error_0 rfl (lv_at hl 2 rfl) ?_
  refine lv_iconst (v := 0) hx hb dL_error_1 (by decide) ?_
  refine lv_aload_n hx hb dL_error_2 rfl (lv_at hl 0 rfl) ?_
  refine lv_iload_n hx hb dL_error_3 rfl (lv_at hl 1 rfl) ?_
  refine t_calli (vx_runV (As := [.int a1]) (rest := [.int 0, .ref o]) CX (ctX7_error l hfl D sw cs ad X s.heap.size M a1 hq) (cwV 1 hts (gwV m3_231 m3_232 m3_233 m1_1 m3_234) rfl rfl rfl (by decide +kernel) ⟨Nat.le_trans (Nat.le_of_ble_eq_true rfl) hR.1, Nat.le_trans (Nat.le_of_ble_eq_true rfl) hR.2⟩) (wPreV hSW hS hA hK hP hD (by decide) rfl rfl _) rfl rfl hl.1 rfl (lv_room (Nat.le_of_ble_eq_true rfl)) dL_error_4 ⟨Nat.le_trans (Nat.le_of_ble_eq_true rfl) hRc.1, Nat.le_trans (Nat.le_of_ble_eq_true rfl) hRc.2⟩) hD hS hA (fun k9 ho9 H locs ce9 q9 hP hD hS hce9 hcv9 hcl9 => ?_) (fun r ho9 H locs hP hD hS => ?_)
  · have hk9 := hk k9 ho9
    rcases (show k9 = 2 ∨ k9 = 1 by simpa using hk9) with rfl | rfl
    · refine vx_catch (E := "java/lang/IndexOutOfBoundsException") (name := "java/lang/IndexOutOfBoundsException") hown [] (⟨0, 9, 12, 21⟩ : ExceptionTableEntry) [(⟨0, 9, 15, 15⟩ : ExceptionTableEntry)] (by rw [htab]; rfl) (fun z hz => by cases hz) (by decide) (by decide) (hw _ m3_77) (va_Nw.use rfl (hSW.ca _ (List.mem_of_getElem? (i := 2) rfl))) hce9 hcv9 hcl9 ?_
      refine lv_astore_n (lv' := [(3, .ref q9), (0, .ref (ad 0)), (1, .int a1), (2, .ref o)]) hx hb dL_error_12 rfl hl (by decide) rfl (fun ls hl => ?_)
      refine lv_iconst (v := 1) hx hb dL_error_13 (by decide) ?_
      refine W.widen (k := 2) (n := 12) (by decide) (by decide) ?_
      exact W.iret hx hb hr (fun t ht hW => ⟨⟨_, (), rfl, (by subst ho9; first | rfl | decide), (by subst ho9; rw [← ht] at hP; exact hP)⟩, hS.F ht⟩) hS.2.2 dL_error_14 hlk
    · have hps : ∀ z ∈ [(⟨0, 9, 12, 21⟩ : ExceptionTableEntry)], covers z 4 = false ∨ (z.catchType ≠ 0 ∧ ∃ nm : String, (Cond.classLink RL z.catchType nm).before args s = true ∧ va_Nc "java/lang/IllegalStateException" nm s) := by
        intro z hz
        rcases (show z = (⟨0, 9, 12, 21⟩ : ExceptionTableEntry) by simpa using hz) with rfl
        · exact Or.inr ⟨by decide, "java/lang/IndexOutOfBoundsException", hw _ m3_77, hSW.nc _ (List.mem_of_getElem? (i := 1) rfl) _ (List.mem_of_getElem? (i := 2) rfl) (by decide)⟩
      refine vx_catch (E := "java/lang/IllegalStateException") (name := "java/lang/IllegalStateException") hown [(⟨0, 9, 12, 21⟩ : ExceptionTableEntry)] (⟨0, 9, 15, 15⟩ : ExceptionTableEntry) [] (by rw [htab]; rfl) hps (by decide) (by decide) (hw _ m2_214) (va_Nw.use rfl (hSW.ca _ (List.mem_of_getElem? (i := 1) rfl))) hce9 hcv9 hcl9 ?_
      refine lv_astore_n (lv' := [(3, .ref q9), (0, .ref (ad 0)), (1, .int a1), (2, .ref o)]) hx hb dL_error_15 rfl hl (by decide) rfl (fun ls hl => ?_)
      refine lv_iconst (v := 2) hx hb dL_error_16 (by decide) ?_
      refine W.widen (k := 2) (n := 12) (by decide) (by decide) ?_
      exact W.iret hx hb hr (fun t ht hW => ⟨⟨_, (), rfl, (by subst ho9; first | rfl | decide), (by subst ho9; rw [← ht] at hP; exact hP)⟩, hS.F ht⟩) hS.2.2 dL_error_17 hlk
  · refine lv_i2l hx hb dL_error_7 rfl ?_
    refine va_last (n := 1) hx hb hKL hP hD hS (NC + j) 0 (wx_get hX) rfl (by unfold vp_in; decide) dL_error_8 (fun H locs hP hD hS => ?_)
    rw [wx_set] at hP
    refine lv_goto (tgt := 18) hx hb dL_error_9 (by decide) ?_
    refine lv_iconst (v := 0) hx hb dL_error_18 (by decide) ?_
    refine W.widen (k := 2) (n := 12) (by decide) (by decide) ?_
    exact W.iret hx hb hr (fun t ht hW => ⟨⟨_, (), rfl, (by subst ho9; first | rfl | decide), (by subst ho9; rw [← ht] at hP; exact hP)⟩, hS.F ht⟩) hS.2.2 dL_error_19 hlk
theorem WL_wrong : Cond.codeWith yL_wrong cL_wrong 3 (some .int) [(0, 8, 11, 15)] ∈ WG := wg4 (List.mem_of_getElem? (i := 2) rfl) rfl
abbrev wsL_wrong : List Cond := Cond.codeWith yL_wrong cL_wrong 3 (some .int) [(0, 8, 11, 15)] :: WG
set_option maxHeartbeats 4000000 in
set_option maxRecDepth 100000 in
theorem ctL_wrong (l : Launch) (hfl : l.stackTraces = false) (D : va_G) (sw : Sw) (cs : Cs) (cq : ClassId × ClassId) (ad : Nat → Nat) (X : va_W) (sz : Nat) (M : Mm) {oc : Int32 ⊕ Nat} {M1 : Mm} (hq : gX7_wrong M = some (oc, M1)) (hk : ∀ k, oc = .inr k → k ∈ [1]) {j o : Nat} {f : Nat → Int64} (hX : X[j]? = some (o, .inl (cq.1, 1, .inr (.inl f)))) : Met l yL_wrong wsL_wrong { frames := 407, cells := 1, slots := 6, locals := 9751 } (va_Pc [.ref (ad 0), .ref o] (lPre D sw cs cq ad M X sz)) (va_Qi (fun (r' : Int32) (_ : Unit) => r' = hN [1] oc) (fun _ t => va_P D vwCl (wl cs LC NC ad M1 ++ oX X j o cq.1 f oc) t.heap) (wA NC ad X sz)) 1 6 (wA NC ad X sz) := by
  refine met_h rfl rfl (Nat.le_of_ble_eq_true rfl) (fun p e s m args below meth c ls CX hr hlk htab hK hKL hSW hP hD hS hA hl => ?_)
  obtain ⟨hx, hb, hml, hown, hts⟩ := id CX
  have hw : ∀ w ∈ WG, w.before args s = true := fun w h => hts w (List.mem_cons_of_mem _ h)
  have hR : 407 ≤ ({ frames := 407, cells := 1, slots := 6, locals := 9751 } : Room).frames ∧ 9751 ≤ ({ frames := 407, cells := 1, slots := 6, locals := 9751 } : Room).locals := ⟨Nat.le_refl _, Nat.le_refl _⟩
  have hRc : 1 ≤ ({ frames := 407, cells := 1, slots := 6, locals := 9751 } : Room).cells ∧ 6 ≤ ({ frames := 407, cells := 1, slots := 6, locals := 9751 } : Room).slots := ⟨Nat.le_refl _, Nat.le_refl _⟩
  have hl : lv_has ls 3 [(0, .ref (ad 0)), (1, .ref o)] := hl
  refine lv_aload_n hx hb dL_wrong_0 rfl (lv_at hl 1 rfl) ?_
  refine lv_iconst (v := 0) hx hb dL_wrong_1 (by decide) ?_
  refine lv_aload_n hx hb dL_wrong_2 rfl (lv_at hl 0 rfl) ?_
  refine t_calli (vx_runV (As := []) (rest := [.int 0, .ref o]) CX (ctX7_wrong l hfl D sw cs ad X s.heap.size M hq) (cwV 0 hts (gwV m4_3 m4_4 m4_5 m1_1 m4_6) rfl rfl rfl (by decide +kernel) ⟨Nat.le_trans (Nat.le_of_ble_eq_true rfl) hR.1, Nat.le_trans (Nat.le_of_ble_eq_true rfl) hR.2⟩) (wPreV hSW hS hA hK hP hD (by decide) rfl rfl _) rfl rfl hl.1 rfl (lv_room (Nat.le_of_ble_eq_true rfl)) dL_wrong_3 ⟨Nat.le_trans (Nat.le_of_ble_eq_true rfl) hRc.1, Nat.le_trans (Nat.le_of_ble_eq_true rfl) hRc.2⟩) hD hS hA (fun k9 ho9 H locs ce9 q9 hP hD hS hce9 hcv9 hcl9 => ?_) (fun r ho9 H locs hP hD hS => ?_)
  · have hk9 := hk k9 ho9
    obtain rfl : k9 = 1 := by simpa using hk9
    refine vx_catch (E := "java/lang/IllegalStateException") (name := "java/lang/IllegalStateException") hown [] (⟨0, 8, 11, 15⟩ : ExceptionTableEntry) [] (by rw [htab]; rfl) (fun z hz => by cases hz) (by decide) (by decide) (hw _ m2_214) (va_Nw.use rfl (hSW.ca _ (List.mem_of_getElem? (i := 1) rfl))) hce9 hcv9 hcl9 ?_
    refine lv_astore_n (lv' := [(2, .ref q9), (0, .ref (ad 0)), (1, .ref o)]) hx hb dL_wrong_11 rfl hl (by decide) rfl (fun ls hl => ?_)
    refine lv_iconst (v := 1) hx hb dL_wrong_12 (by decide) ?_
    refine W.widen (k := 1) (n := 6) (by decide) (by decide) ?_
    exact W.iret hx hb hr (fun t ht hW => ⟨⟨_, (), rfl, (by subst ho9; first | rfl | decide), (by subst ho9; rw [← ht] at hP; exact hP)⟩, hS.F ht⟩) hS.2.2 dL_wrong_13 hlk
  · refine lv_i2l hx hb dL_wrong_6 rfl ?_
    refine va_last (n := 1) hx hb hKL hP hD hS (NC + j) 0 (wx_get hX) rfl (by unfold vp_in; decide) dL_wrong_7 (fun H locs hP hD hS => ?_)
    rw [wx_set] at hP
    refine lv_goto (tgt := 14) hx hb dL_wrong_8 (by decide) ?_
    refine lv_iconst (v := 0) hx hb dL_wrong_14 (by decide) ?_
    refine W.widen (k := 1) (n := 6) (by decide) (by decide) ?_
    exact W.iret hx hb hr (fun t ht hW => ⟨⟨_, (), rfl, (by subst ho9; first | rfl | decide), (by subst ho9; rw [← ht] at hP; exact hP)⟩, hS.F ht⟩) hS.2.2 dL_wrong_15 hlk
theorem WL_firstError : Cond.codeWith yL_firstError cL_firstError 3 (some .int) [(0, 8, 11, 15)] ∈ WG := wg4 (List.mem_of_getElem? (i := 9) rfl) rfl
abbrev wsL_firstError : List Cond := Cond.codeWith yL_firstError cL_firstError 3 (some .int) [(0, 8, 11, 15)] :: WG
set_option maxHeartbeats 4000000 in
set_option maxRecDepth 100000 in
theorem ctL_firstError (l : Launch) (hfl : l.stackTraces = false) (D : va_G) (sw : Sw) (cs : Cs) (cq : ClassId × ClassId) (ad : Nat → Nat) (X : va_W) (sz : Nat) (M : Mm) {oc : Int32 ⊕ Nat} {M1 : Mm} (hq : gX7_firstError M = some (oc, M1)) (hk : ∀ k, oc = .inr k → k ∈ [1]) {j o : Nat} {f : Nat → Int64} (hX : X[j]? = some (o, .inl (cq.1, 1, .inr (.inl f)))) : Met l yL_firstError wsL_firstError { frames := 407, cells := 1, slots := 6, locals := 9752 } (va_Pc [.ref (ad 0), .ref o] (lPre D sw cs cq ad M X sz)) (va_Qi (fun (r' : Int32) (_ : Unit) => r' = hN [1] oc) (fun _ t => va_P D vwCl (wl cs LC NC ad M1 ++ oX X j o cq.1 f oc) t.heap) (wA NC ad X sz)) 1 6 (wA NC ad X sz) := by
  refine met_h rfl rfl (Nat.le_of_ble_eq_true rfl) (fun p e s m args below meth c ls CX hr hlk htab hK hKL hSW hP hD hS hA hl => ?_)
  obtain ⟨hx, hb, hml, hown, hts⟩ := id CX
  have hw : ∀ w ∈ WG, w.before args s = true := fun w h => hts w (List.mem_cons_of_mem _ h)
  have hR : 407 ≤ ({ frames := 407, cells := 1, slots := 6, locals := 9752 } : Room).frames ∧ 9752 ≤ ({ frames := 407, cells := 1, slots := 6, locals := 9752 } : Room).locals := ⟨Nat.le_refl _, Nat.le_refl _⟩
  have hRc : 1 ≤ ({ frames := 407, cells := 1, slots := 6, locals := 9752 } : Room).cells ∧ 6 ≤ ({ frames := 407, cells := 1, slots := 6, locals := 9752 } : Room).slots := ⟨Nat.le_refl _, Nat.le_refl _⟩
  have hl : lv_has ls 3 [(0, .ref (ad 0)), (1, .ref o)] := hl
  refine lv_aload_n hx hb dL_firstError_0 rfl (lv_at hl 1 rfl) ?_
  refine lv_iconst (v := 0) hx hb dL_firstError_1 (by decide) ?_
  refine lv_aload_n hx hb dL_firstError_2 rfl (lv_at hl 0 rfl) ?_
  refine t_calli (vx_runV (As := []) (rest := [.int 0, .ref o]) CX (ctX7_firstError l hfl D sw cs ad X s.heap.size M hq) (cwV 0 hts (gwV m4_10 m4_11 m4_12 m1_1 m4_13) rfl rfl rfl (by decide +kernel) ⟨Nat.le_trans (Nat.le_of_ble_eq_true rfl) hR.1, Nat.le_trans (Nat.le_of_ble_eq_true rfl) hR.2⟩) (wPreV hSW hS hA hK hP hD (by decide) rfl rfl _) rfl rfl hl.1 rfl (lv_room (Nat.le_of_ble_eq_true rfl)) dL_firstError_3 ⟨Nat.le_trans (Nat.le_of_ble_eq_true rfl) hRc.1, Nat.le_trans (Nat.le_of_ble_eq_true rfl) hRc.2⟩) hD hS hA (fun k9 ho9 H locs ce9 q9 hP hD hS hce9 hcv9 hcl9 => ?_) (fun r ho9 H locs hP hD hS => ?_)
  · have hk9 := hk k9 ho9
    obtain rfl : k9 = 1 := by simpa using hk9
    refine vx_catch (E := "java/lang/IllegalStateException") (name := "java/lang/IllegalStateException") hown [] (⟨0, 8, 11, 15⟩ : ExceptionTableEntry) [] (by rw [htab]; rfl) (fun z hz => by cases hz) (by decide) (by decide) (hw _ m2_214) (va_Nw.use rfl (hSW.ca _ (List.mem_of_getElem? (i := 1) rfl))) hce9 hcv9 hcl9 ?_
    refine lv_astore_n (lv' := [(2, .ref q9), (0, .ref (ad 0)), (1, .ref o)]) hx hb dL_firstError_11 rfl hl (by decide) rfl (fun ls hl => ?_)
    refine lv_iconst (v := 1) hx hb dL_firstError_12 (by decide) ?_
    refine W.widen (k := 1) (n := 6) (by decide) (by decide) ?_
    exact W.iret hx hb hr (fun t ht hW => ⟨⟨_, (), rfl, (by subst ho9; first | rfl | decide), (by subst ho9; rw [← ht] at hP; exact hP)⟩, hS.F ht⟩) hS.2.2 dL_firstError_13 hlk
  · refine lv_i2l hx hb dL_firstError_6 rfl ?_
    refine va_last (n := 1) hx hb hKL hP hD hS (NC + j) 0 (wx_get hX) rfl (by unfold vp_in; decide) dL_firstError_7 (fun H locs hP hD hS => ?_)
    rw [wx_set] at hP
    refine lv_goto (tgt := 14) hx hb dL_firstError_8 (by decide) ?_
    refine lv_iconst (v := 0) hx hb dL_firstError_14 (by decide) ?_
    refine W.widen (k := 1) (n := 6) (by decide) (by decide) ?_
    exact W.iret hx hb hr (fun t ht hW => ⟨⟨_, (), rfl, (by subst ho9; first | rfl | decide), (by subst ho9; rw [← ht] at hP; exact hP)⟩, hS.F ht⟩) hS.2.2 dL_firstError_15 hlk
theorem WL_groups : Cond.codeWith yL_groups cL_groups 4 (some .int) [(0, 9, 12, 21), (0, 9, 15, 15)] ∈ WG := wg4 (List.mem_of_getElem? (i := 16) rfl) rfl
abbrev wsL_groups : List Cond := Cond.codeWith yL_groups cL_groups 4 (some .int) [(0, 9, 12, 21), (0, 9, 15, 15)] :: WG
set_option maxHeartbeats 4000000 in
set_option maxRecDepth 100000 in
theorem ctL_groups (l : Launch) (hfl : l.stackTraces = false) (D : va_G) (sw : Sw) (cs : Cs) (cq : ClassId × ClassId) (ad : Nat → Nat) (X : va_W) (sz : Nat) (M : Mm) (a1 : Int32) {oc : Int32 ⊕ Nat} {M1 : Mm} (hq : gX7_groups M a1 = some (oc, M1)) (hk : ∀ k, oc = .inr k → k ∈ [2, 1]) {j o : Nat} {f : Nat → Int64} (hX : X[j]? = some (o, .inl (cq.1, 1, .inr (.inl f)))) : Met l yL_groups wsL_groups { frames := 407, cells := 2, slots := 12, locals := 9750 } (va_Pc [.ref (ad 0), .int a1, .ref o] (lPre D sw cs cq ad M X sz)) (va_Qi (fun (r' : Int32) (_ : Unit) => r' = hN [2, 1] oc) (fun _ t => va_P D vwCl (wl cs LC NC ad M1 ++ oX X j o cq.1 f oc) t.heap) (wA NC ad X sz)) 2 12 (wA NC ad X sz) := by
  refine met_h rfl rfl (Nat.le_of_ble_eq_true rfl) (fun p e s m args below meth c ls CX hr hlk htab hK hKL hSW hP hD hS hA hl => ?_)
  obtain ⟨hx, hb, hml, hown, hts⟩ := id CX
  have hw : ∀ w ∈ WG, w.before args s = true := fun w h => hts w (List.mem_cons_of_mem _ h)
  have hR : 407 ≤ ({ frames := 407, cells := 2, slots := 12, locals := 9750 } : Room).frames ∧ 9750 ≤ ({ frames := 407, cells := 2, slots := 12, locals := 9750 } : Room).locals := ⟨Nat.le_refl _, Nat.le_refl _⟩
  have hRc : 2 ≤ ({ frames := 407, cells := 2, slots := 12, locals := 9750 } : Room).cells ∧ 12 ≤ ({ frames := 407, cells := 2, slots := 12, locals := 9750 } : Room).slots := ⟨Nat.le_refl _, Nat.le_refl _⟩
  have hl : lv_has ls 4 [(0, .ref (ad 0)), (1, .int a1), (2, .ref o)] := hl
  refine lv_aload_n hx hb dL_groups_0 rfl (lv_at hl 2 rfl) ?_
  refine lv_iconst (v := 0) hx hb dL_groups_1 (by decide) ?_
  refine lv_aload_n hx hb dL_groups_2 rfl (lv_at hl 0 rfl) ?_
  refine lv_iload_n hx hb dL_groups_3 rfl (lv_at hl 1 rfl) ?_
  refine t_calli (vx_runV (As := [.int a1]) (rest := [.int 0, .ref o]) CX (ctX7_groups l hfl D sw cs ad X s.heap.size M a1 hq) (cwV 1 hts (gwV m4_17 m4_18 m4_19 m1_1 m4_20) rfl rfl rfl (by decide +kernel) ⟨Nat.le_trans (Nat.le_of_ble_eq_true rfl) hR.1, Nat.le_trans (Nat.le_of_ble_eq_true rfl) hR.2⟩) (wPreV hSW hS hA hK hP hD (by decide) rfl rfl _) rfl rfl hl.1 rfl (lv_room (Nat.le_of_ble_eq_true rfl)) dL_groups_4 ⟨Nat.le_trans (Nat.le_of_ble_eq_true rfl) hRc.1, Nat.le_trans (Nat.le_of_ble_eq_true rfl) hRc.2⟩) hD hS hA (fun k9 ho9 H locs ce9 q9 hP hD hS hce9 hcv9 hcl9 => ?_) (fun r ho9 H locs hP hD hS => ?_)
  · have hk9 := hk k9 ho9
    rcases (show k9 = 2 ∨ k9 = 1 by simpa using hk9) with rfl | rfl
    · refine vx_catch (E := "java/lang/IndexOutOfBoundsException") (name := "java/lang/IndexOutOfBoundsException") hown [] (⟨0, 9, 12, 21⟩ : ExceptionTableEntry) [(⟨0, 9, 15, 15⟩ : ExceptionTableEntry)] (by rw [htab]; rfl) (fun z hz => by cases hz) (by decide) (by decide) (hw _ m3_77) (va_Nw.use rfl (hSW.ca _ (List.mem_of_getElem? (i := 2) rfl))) hce9 hcv9 hcl9 ?_
      refine lv_astore_n (lv' := [(3, .ref q9), (0, .ref (ad 0)), (1, .int a1), (2, .ref o)]) hx hb dL_groups_12 rfl hl (by decide) rfl (fun ls hl => ?_)
      refine lv_iconst (v := 1) hx hb dL_groups_13 (by decide) ?_
      refine W.widen (k := 2) (n := 12) (by decide) (by decide) ?_
      exact W.iret hx hb hr (fun t ht hW => ⟨⟨_, (), rfl, (by subst ho9; first | rfl | decide), (by subst ho9; rw [← ht] at hP; exact hP)⟩, hS.F ht⟩) hS.2.2 dL_groups_14 hlk
    · have hps : ∀ z ∈ [(⟨0, 9, 12, 21⟩ : ExceptionTableEntry)], covers z 4 = false ∨ (z.catchType ≠ 0 ∧ ∃ nm : String, (Cond.classLink RL z.catchType nm).before args s = true ∧ va_Nc "java/lang/IllegalStateException" nm s) := by
        intro z hz
        rcases (show z = (⟨0, 9, 12, 21⟩ : ExceptionTableEntry) by simpa using hz) with rfl
        · exact Or.inr ⟨by decide, "java/lang/IndexOutOfBoundsException", hw _ m3_77, hSW.nc _ (List.mem_of_getElem? (i := 1) rfl) _ (List.mem_of_getElem? (i := 2) rfl) (by decide)⟩
      refine vx_catch (E := "java/lang/IllegalStateException") (name := "java/lang/IllegalStateException") hown [(⟨0, 9, 12, 21⟩ : ExceptionTableEntry)] (⟨0, 9, 15, 15⟩ : ExceptionTableEntry) [] (by rw [htab]; rfl) hps (by decide) (by decide) (hw _ m2_214) (va_Nw.use rfl (hSW.ca _ (List.mem_of_getElem? (i := 1) rfl))) hce9 hcv9 hcl9 ?_
      refine lv_astore_n (lv' := [(3, .ref q9), (0, .ref (ad 0)), (1, .int a1), (2, .ref o)]) hx hb dL_groups_15 rfl hl (by decide) rfl (fun ls hl => ?_)
      refine lv_iconst (v := 2) hx hb dL_groups_16 (by decide) ?_
      refine W.widen (k := 2) (n := 12) (by decide) (by decide) ?_
      exact W.iret hx hb hr (fun t ht hW => ⟨⟨_, (), rfl, (by subst ho9; first | rfl | decide), (by subst ho9; rw [← ht] at hP; exact hP)⟩, hS.F ht⟩) hS.2.2 dL_groups_17 hlk
  · refine lv_i2l hx hb dL_groups_7 rfl ?_
    refine va_last (n := 1) hx hb hKL hP hD hS (NC + j) 0 (wx_get hX) rfl (by unfold vp_in; decide) dL_groups_8 (fun H locs hP hD hS => ?_)
    rw [wx_set] at hP
    refine lv_goto (tgt := 18) hx hb dL_groups_9 (by decide) ?_
    refine lv_iconst (v := 0) hx hb dL_groups_18 (by decide) ?_
    refine W.widen (k := 2) (n := 12) (by decide) (by decide) ?_
    exact W.iret hx hb hr (fun t ht hW => ⟨⟨_, (), rfl, (by subst ho9; first | rfl | decide), (by subst ho9; rw [← ht] at hP; exact hP)⟩, hS.F ht⟩) hS.2.2 dL_groups_19 hlk
theorem WL_work : Cond.codeWith yL_work cL_work 3 (some .int) [(0, 8, 11, 15)] ∈ WG := wg4 (List.mem_of_getElem? (i := 23) rfl) rfl
abbrev wsL_work : List Cond := Cond.codeWith yL_work cL_work 3 (some .int) [(0, 8, 11, 15)] :: WG
set_option maxHeartbeats 4000000 in
set_option maxRecDepth 100000 in
theorem ctL_work (l : Launch) (hfl : l.stackTraces = false) (D : va_G) (sw : Sw) (cs : Cs) (cq : ClassId × ClassId) (ad : Nat → Nat) (X : va_W) (sz : Nat) (M : Mm) {oc : Int32 ⊕ Nat} {M1 : Mm} (hq : gX7_work M = some (oc, M1)) (hk : ∀ k, oc = .inr k → k ∈ [1]) {j o : Nat} {f : Nat → Int64} (hX : X[j]? = some (o, .inl (cq.1, 1, .inr (.inl f)))) : Met l yL_work wsL_work { frames := 407, cells := 1, slots := 6, locals := 9749 } (va_Pc [.ref (ad 0), .ref o] (lPre D sw cs cq ad M X sz)) (va_Qi (fun (r' : Int32) (_ : Unit) => r' = hN [1] oc) (fun _ t => va_P D vwCl (wl cs LC NC ad M1 ++ oX X j o cq.1 f oc) t.heap) (wA NC ad X sz)) 1 6 (wA NC ad X sz) := by
  refine met_h rfl rfl (Nat.le_of_ble_eq_true rfl) (fun p e s m args below meth c ls CX hr hlk htab hK hKL hSW hP hD hS hA hl => ?_)
  obtain ⟨hx, hb, hml, hown, hts⟩ := id CX
  have hw : ∀ w ∈ WG, w.before args s = true := fun w h => hts w (List.mem_cons_of_mem _ h)
  have hR : 407 ≤ ({ frames := 407, cells := 1, slots := 6, locals := 9749 } : Room).frames ∧ 9749 ≤ ({ frames := 407, cells := 1, slots := 6, locals := 9749 } : Room).locals := ⟨Nat.le_refl _, Nat.le_refl _⟩
  have hRc : 1 ≤ ({ frames := 407, cells := 1, slots := 6, locals := 9749 } : Room).cells ∧ 6 ≤ ({ frames := 407, cells := 1, slots := 6, locals := 9749 } : Room).slots := ⟨Nat.le_refl _, Nat.le_refl _⟩
  have hl : lv_has ls 3 [(0, .ref (ad 0)), (1, .ref o)] := hl
  refine lv_aload_n hx hb dL_work_0 rfl (lv_at hl 1 rfl) ?_
  refine lv_iconst (v := 0) hx hb dL_work_1 (by decide) ?_
  refine lv_aload_n hx hb dL_work_2 rfl (lv_at hl 0 rfl) ?_
  refine t_calli (vx_runV (As := []) (rest := [.int 0, .ref o]) CX (ctX7_work l hfl D sw cs ad X s.heap.size M hq) (cwV 0 hts (gwV m4_24 m4_25 m4_26 m1_1 m4_27) rfl rfl rfl (by decide +kernel) ⟨Nat.le_trans (Nat.le_of_ble_eq_true rfl) hR.1, Nat.le_trans (Nat.le_of_ble_eq_true rfl) hR.2⟩) (wPreV hSW hS hA hK hP hD (by decide) rfl rfl _) rfl rfl hl.1 rfl (lv_room (Nat.le_of_ble_eq_true rfl)) dL_work_3 ⟨Nat.le_trans (Nat.le_of_ble_eq_true rfl) hRc.1, Nat.le_trans (Nat.le_of_ble_eq_true rfl) hRc.2⟩) hD hS hA (fun k9 ho9 H locs ce9 q9 hP hD hS hce9 hcv9 hcl9 => ?_) (fun r ho9 H locs hP hD hS => ?_)
  · have hk9 := hk k9 ho9
    obtain rfl : k9 = 1 := by simpa using hk9
    refine vx_catch (E := "java/lang/IllegalStateException") (name := "java/lang/IllegalStateException") hown [] (⟨0, 8, 11, 15⟩ : ExceptionTableEntry) [] (by rw [htab]; rfl) (fun z hz => by cases hz) (by decide) (by decide) (hw _ m2_214) (va_Nw.use rfl (hSW.ca _ (List.mem_of_getElem? (i := 1) rfl))) hce9 hcv9 hcl9 ?_
    refine lv_astore_n (lv' := [(2, .ref q9), (0, .ref (ad 0)), (1, .ref o)]) hx hb dL_work_11 rfl hl (by decide) rfl (fun ls hl => ?_)
    refine lv_iconst (v := 1) hx hb dL_work_12 (by decide) ?_
    refine W.widen (k := 1) (n := 6) (by decide) (by decide) ?_
    exact W.iret hx hb hr (fun t ht hW => ⟨⟨_, (), rfl, (by subst ho9; first | rfl | decide), (by subst ho9; rw [← ht] at hP; exact hP)⟩, hS.F ht⟩) hS.2.2 dL_work_13 hlk
  · refine lv_i2l hx hb dL_work_6 rfl ?_
    refine va_last (n := 1) hx hb hKL hP hD hS (NC + j) 0 (wx_get hX) rfl (by unfold vp_in; decide) dL_work_7 (fun H locs hP hD hS => ?_)
    rw [wx_set] at hP
    refine lv_goto (tgt := 14) hx hb dL_work_8 (by decide) ?_
    refine lv_iconst (v := 0) hx hb dL_work_14 (by decide) ?_
    refine W.widen (k := 1) (n := 6) (by decide) (by decide) ?_
    exact W.iret hx hb hr (fun t ht hW => ⟨⟨_, (), rfl, (by subst ho9; first | rfl | decide), (by subst ho9; rw [← ht] at hP; exact hP)⟩, hS.F ht⟩) hS.2.2 dL_work_15 hlk
theorem WL_gain : Cond.codeWith yL_gain cL_gain 3 (some .int) [(0, 7, 10, 15)] ∈ WG := wg4 (List.mem_of_getElem? (i := 34) rfl) rfl
abbrev wsL_gain : List Cond := Cond.codeWith yL_gain cL_gain 3 (some .int) [(0, 7, 10, 15)] :: WG
set_option maxHeartbeats 4000000 in
set_option maxRecDepth 100000 in
theorem ctL_gain (l : Launch) (hfl : l.stackTraces = false) (D : va_G) (sw : Sw) (cs : Cs) (cq : ClassId × ClassId) (ad : Nat → Nat) (X : va_W) (sz : Nat) (M : Mm) {oc : UInt64 ⊕ Nat} {M1 : Mm} (hq : gX7_gain M = some (oc, M1)) (hk : ∀ k, oc = .inr k → k ∈ [1]) {j o : Nat} {f : Nat → UInt64} (hX : X[j]? = some (o, .inl (cq.2, 1, .inr (.inr (.inr (.inl f)))))) : Met l yL_gain wsL_gain { frames := 407, cells := 1, slots := 6, locals := 9752 } (va_Pc [.ref (ad 0), .ref o] (lPre D sw cs cq ad M X sz)) (va_Qi (fun (r' : Int32) (_ : Unit) => r' = hN [1] oc) (fun _ t => va_P D vwCl (wl cs LC NC ad M1 ++ oD X j o cq.2 f oc) t.heap) (wA NC ad X sz)) 1 6 (wA NC ad X sz) := by
  refine met_h rfl rfl (Nat.le_of_ble_eq_true rfl) (fun p e s m args below meth c ls CX hr hlk htab hK hKL hSW hP hD hS hA hl => ?_)
  obtain ⟨hx, hb, hml, hown, hts⟩ := id CX
  have hw : ∀ w ∈ WG, w.before args s = true := fun w h => hts w (List.mem_cons_of_mem _ h)
  have hR : 407 ≤ ({ frames := 407, cells := 1, slots := 6, locals := 9752 } : Room).frames ∧ 9752 ≤ ({ frames := 407, cells := 1, slots := 6, locals := 9752 } : Room).locals := ⟨Nat.le_refl _, Nat.le_refl _⟩
  have hRc : 1 ≤ ({ frames := 407, cells := 1, slots := 6, locals := 9752 } : Room).cells ∧ 6 ≤ ({ frames := 407, cells := 1, slots := 6, locals := 9752 } : Room).slots := ⟨Nat.le_refl _, Nat.le_refl _⟩
  have hl : lv_has ls 3 [(0, .ref (ad 0)), (1, .ref o)] := hl
  refine lv_aload_n hx hb dL_gain_0 rfl (lv_at hl 1 rfl) ?_
  refine lv_iconst (v := 0) hx hb dL_gain_1 (by decide) ?_
  refine lv_aload_n hx hb dL_gain_2 rfl (lv_at hl 0 rfl) ?_
  refine t_calld (vx_runV (As := []) (rest := [.int 0, .ref o]) CX (ctX7_gain l hfl D sw cs ad X s.heap.size M hq) (cwV 0 hts (gwV m4_35 m4_36 m4_37 m1_1 m4_38) rfl rfl rfl (by decide +kernel) ⟨Nat.le_trans (Nat.le_of_ble_eq_true rfl) hR.1, Nat.le_trans (Nat.le_of_ble_eq_true rfl) hR.2⟩) (wPreV hSW hS hA hK hP hD (by decide) rfl rfl _) rfl rfl hl.1 rfl (lv_room (Nat.le_of_ble_eq_true rfl)) dL_gain_3 ⟨Nat.le_trans (Nat.le_of_ble_eq_true rfl) hRc.1, Nat.le_trans (Nat.le_of_ble_eq_true rfl) hRc.2⟩) hD hS hA (fun k9 ho9 H locs ce9 q9 hP hD hS hce9 hcv9 hcl9 => ?_) (fun r ho9 H locs hP hD hS => ?_)
  · have hk9 := hk k9 ho9
    obtain rfl : k9 = 1 := by simpa using hk9
    refine vx_catch (E := "java/lang/IllegalStateException") (name := "java/lang/IllegalStateException") hown [] (⟨0, 7, 10, 15⟩ : ExceptionTableEntry) [] (by rw [htab]; rfl) (fun z hz => by cases hz) (by decide) (by decide) (hw _ m2_214) (va_Nw.use rfl (hSW.ca _ (List.mem_of_getElem? (i := 1) rfl))) hce9 hcv9 hcl9 ?_
    refine lv_astore_n (lv' := [(2, .ref q9), (0, .ref (ad 0)), (1, .ref o)]) hx hb dL_gain_10 rfl hl (by decide) rfl (fun ls hl => ?_)
    refine lv_iconst (v := 1) hx hb dL_gain_11 (by decide) ?_
    refine W.widen (k := 1) (n := 6) (by decide) (by decide) ?_
    exact W.iret hx hb hr (fun t ht hW => ⟨⟨_, (), rfl, (by subst ho9; first | rfl | decide), (by subst ho9; rw [← ht] at hP; exact hP)⟩, hS.F ht⟩) hS.2.2 dL_gain_12 hlk
  · refine va_dast (n := 1) hx hb hKL hP hD hS (NC + j) 1 (wx_get hX) rfl (by unfold vp_in; decide) dL_gain_6 (fun H locs hP hD hS => ?_)
    rw [wx_set] at hP
    refine lv_goto (tgt := 13) hx hb dL_gain_7 (by decide) ?_
    refine lv_iconst (v := 0) hx hb dL_gain_13 (by decide) ?_
    refine W.widen (k := 1) (n := 6) (by decide) (by decide) ?_
    exact W.iret hx hb hr (fun t ht hW => ⟨⟨_, (), rfl, (by subst ho9; first | rfl | decide), (by subst ho9; rw [← ht] at hP; exact hP)⟩, hS.F ht⟩) hS.2.2 dL_gain_14 hlk
theorem WL_stack : Cond.codeWith yL_stack cL_stack 5 (some .int) [(0, 10, 13, 21), (0, 10, 17, 15)] ∈ WG := wg4 (List.mem_of_getElem? (i := 41) rfl) rfl
abbrev wsL_stack : List Cond := Cond.codeWith yL_stack cL_stack 5 (some .int) [(0, 10, 13, 21), (0, 10, 17, 15)] :: WG
set_option maxHeartbeats 4000000 in
set_option maxRecDepth 100000 in
theorem ctL_stack (l : Launch) (hfl : l.stackTraces = false) (D : va_G) (sw : Sw) (cs : Cs) (cq : ClassId × ClassId) (ad : Nat → Nat) (X : va_W) (sz : Nat) (M : Mm) (a1 : Int32) (a2 : Int32) {oc : Int32 ⊕ Nat} {M1 : Mm} (hq : gX7_stack M a1 a2 = some (oc, M1)) (hk : ∀ k, oc = .inr k → k ∈ [2, 1]) {j o : Nat} {f : Nat → Int64} (hX : X[j]? = some (o, .inl (cq.1, 1, .inr (.inl f)))) : Met l yL_stack wsL_stack { frames := 407, cells := 3, slots := 18, locals := 9751 } (va_Pc [.ref (ad 0), .int a1, .int a2, .ref o] (lPre D sw cs cq ad M X sz)) (va_Qi (fun (r' : Int32) (_ : Unit) => r' = hN [2, 1] oc) (fun _ t => va_P D vwCl (wl cs LC NC ad M1 ++ oX X j o cq.1 f oc) t.heap) (wA NC ad X sz)) 3 18 (wA NC ad X sz) := by
  refine met_h rfl rfl (Nat.le_of_ble_eq_true rfl) (fun p e s m args below meth c ls CX hr hlk htab hK hKL hSW hP hD hS hA hl => ?_)
  obtain ⟨hx, hb, hml, hown, hts⟩ := id CX
  have hw : ∀ w ∈ WG, w.before args s = true := fun w h => hts w (List.mem_cons_of_mem _ h)
  have hR : 407 ≤ ({ frames := 407, cells := 3, slots := 18, locals := 9751 } : Room).frames ∧ 9751 ≤ ({ frames := 407, cells := 3, slots := 18, locals := 9751 } : Room).locals := ⟨Nat.le_refl _, Nat.le_refl _⟩
  have hRc : 3 ≤ ({ frames := 407, cells := 3, slots := 18, locals := 9751 } : Room).cells ∧ 18 ≤ ({ frames := 407, cells := 3, slots := 18, locals := 9751 } : Room).slots := ⟨Nat.le_refl _, Nat.le_refl _⟩
  have hl : lv_has ls 5 [(0, .ref (ad 0)), (1, .int a1), (2, .int a2), (3, .ref o)] := hl
  refine lv_aload_n hx hb dL_stack_0 rfl (lv_at hl 3 rfl) ?_
  refine lv_iconst (v := 0) hx hb dL_stack_1 (by decide) ?_
  refine lv_aload_n hx hb dL_stack_2 rfl (lv_at hl 0 rfl) ?_
  refine lv_iload_n hx hb dL_stack_3 rfl (lv_at hl 1 rfl) ?_
  refine lv_iload_n hx hb dL_stack_4 rfl (lv_at hl 2 rfl) ?_
  refine t_calli (vx_runV (As := [.int a1, .int a2]) (rest := [.int 0, .ref o]) CX (ctX7_stack l hfl D sw cs ad X s.heap.size M a1 a2 hq) (cwV 2 hts (gwV m4_42 m4_43 m4_44 m1_1 m4_45) rfl rfl rfl (by decide +kernel) ⟨Nat.le_trans (Nat.le_of_ble_eq_true rfl) hR.1, Nat.le_trans (Nat.le_of_ble_eq_true rfl) hR.2⟩) (wPreV hSW hS hA hK hP hD (by decide) rfl rfl _) rfl rfl hl.1 rfl (lv_room (Nat.le_of_ble_eq_true rfl)) dL_stack_5 ⟨Nat.le_trans (Nat.le_of_ble_eq_true rfl) hRc.1, Nat.le_trans (Nat.le_of_ble_eq_true rfl) hRc.2⟩) hD hS hA (fun k9 ho9 H locs ce9 q9 hP hD hS hce9 hcv9 hcl9 => ?_) (fun r ho9 H locs hP hD hS => ?_)
  · have hk9 := hk k9 ho9
    rcases (show k9 = 2 ∨ k9 = 1 by simpa using hk9) with rfl | rfl
    · refine vx_catch (E := "java/lang/IndexOutOfBoundsException") (name := "java/lang/IndexOutOfBoundsException") hown [] (⟨0, 10, 13, 21⟩ : ExceptionTableEntry) [(⟨0, 10, 17, 15⟩ : ExceptionTableEntry)] (by rw [htab]; rfl) (fun z hz => by cases hz) (by decide) (by decide) (hw _ m3_77) (va_Nw.use rfl (hSW.ca _ (List.mem_of_getElem? (i := 2) rfl))) hce9 hcv9 hcl9 ?_
      refine lv_astore (lv' := [(4, .ref q9), (0, .ref (ad 0)), (1, .int a1), (2, .int a2), (3, .ref o)]) hx hb dL_stack_13 hl (by decide) rfl (fun ls hl => ?_)
      refine lv_iconst (v := 1) hx hb dL_stack_15 (by decide) ?_
      refine W.widen (k := 3) (n := 18) (by decide) (by decide) ?_
      exact W.iret hx hb hr (fun t ht hW => ⟨⟨_, (), rfl, (by subst ho9; first | rfl | decide), (by subst ho9; rw [← ht] at hP; exact hP)⟩, hS.F ht⟩) hS.2.2 dL_stack_16 hlk
    · have hps : ∀ z ∈ [(⟨0, 10, 13, 21⟩ : ExceptionTableEntry)], covers z 5 = false ∨ (z.catchType ≠ 0 ∧ ∃ nm : String, (Cond.classLink RL z.catchType nm).before args s = true ∧ va_Nc "java/lang/IllegalStateException" nm s) := by
        intro z hz
        rcases (show z = (⟨0, 10, 13, 21⟩ : ExceptionTableEntry) by simpa using hz) with rfl
        · exact Or.inr ⟨by decide, "java/lang/IndexOutOfBoundsException", hw _ m3_77, hSW.nc _ (List.mem_of_getElem? (i := 1) rfl) _ (List.mem_of_getElem? (i := 2) rfl) (by decide)⟩
      refine vx_catch (E := "java/lang/IllegalStateException") (name := "java/lang/IllegalStateException") hown [(⟨0, 10, 13, 21⟩ : ExceptionTableEntry)] (⟨0, 10, 17, 15⟩ : ExceptionTableEntry) [] (by rw [htab]; rfl) hps (by decide) (by decide) (hw _ m2_214) (va_Nw.use rfl (hSW.ca _ (List.mem_of_getElem? (i := 1) rfl))) hce9 hcv9 hcl9 ?_
      refine lv_astore (lv' := [(4, .ref q9), (0, .ref (ad 0)), (1, .int a1), (2, .int a2), (3, .ref o)]) hx hb dL_stack_17 hl (by decide) rfl (fun ls hl => ?_)
      refine lv_iconst (v := 2) hx hb dL_stack_19 (by decide) ?_
      refine W.widen (k := 3) (n := 18) (by decide) (by decide) ?_
      exact W.iret hx hb hr (fun t ht hW => ⟨⟨_, (), rfl, (by subst ho9; first | rfl | decide), (by subst ho9; rw [← ht] at hP; exact hP)⟩, hS.F ht⟩) hS.2.2 dL_stack_20 hlk
  · refine lv_i2l hx hb dL_stack_8 rfl ?_
    refine va_last (n := 1) hx hb hKL hP hD hS (NC + j) 0 (wx_get hX) rfl (by unfold vp_in; decide) dL_stack_9 (fun H locs hP hD hS => ?_)
    rw [wx_set] at hP
    refine lv_goto (tgt := 21) hx hb dL_stack_10 (by decide) ?_
    refine lv_iconst (v := 0) hx hb dL_stack_21 (by decide) ?_
    refine W.widen (k := 3) (n := 18) (by decide) (by decide) ?_
    exact W.iret hx hb hr (fun t ht hW => ⟨⟨_, (), rfl, (by subst ho9; first | rfl | decide), (by subst ho9; rw [← ht] at hP; exact hP)⟩, hS.F ht⟩) hS.2.2 dL_stack_22 hlk
theorem WL_outputs : Cond.codeWith yL_outputs cL_outputs 4 (some .int) [(0, 9, 12, 21), (0, 9, 15, 15), (0, 9, 18, 84)] ∈ WG := wg4 (List.mem_of_getElem? (i := 52) rfl) rfl
abbrev wsL_outputs : List Cond := Cond.codeWith yL_outputs cL_outputs 4 (some .int) [(0, 9, 12, 21), (0, 9, 15, 15), (0, 9, 18, 84)] :: WG
set_option maxHeartbeats 4000000 in
set_option maxRecDepth 100000 in
theorem ctL_outputs (l : Launch) (hfl : l.stackTraces = false) (D : va_G) (sw : Sw) (cs : Cs) (cq : ClassId × ClassId) (ad : Nat → Nat) (X : va_W) (sz : Nat) (M : Mm) (a1 : Int32) {oc : Int32 ⊕ Nat} {M1 : Mm} (hq : gX7_outputs M a1 = some (oc, M1)) (hk : ∀ k, oc = .inr k → k ∈ [2, 1, 3]) {j o : Nat} {f : Nat → Int64} (hX : X[j]? = some (o, .inl (cq.1, 1, .inr (.inl f)))) : Met l yL_outputs wsL_outputs { frames := 407, cells := 3, slots := 18, locals := 9750 } (va_Pc [.ref (ad 0), .int a1, .ref o] (lPre D sw cs cq ad M X sz)) (va_Qi (fun (r' : Int32) (_ : Unit) => r' = hN [2, 1, 3] oc) (fun _ t => va_P D vwCl (wl cs LC NC ad M1 ++ oX X j o cq.1 f oc) t.heap) (wA NC ad X sz)) 3 18 (wA NC ad X sz) := by
  refine met_h rfl rfl (Nat.le_of_ble_eq_true rfl) (fun p e s m args below meth c ls CX hr hlk htab hK hKL hSW hP hD hS hA hl => ?_)
  obtain ⟨hx, hb, hml, hown, hts⟩ := id CX
  have hw : ∀ w ∈ WG, w.before args s = true := fun w h => hts w (List.mem_cons_of_mem _ h)
  have hR : 407 ≤ ({ frames := 407, cells := 3, slots := 18, locals := 9750 } : Room).frames ∧ 9750 ≤ ({ frames := 407, cells := 3, slots := 18, locals := 9750 } : Room).locals := ⟨Nat.le_refl _, Nat.le_refl _⟩
  have hRc : 3 ≤ ({ frames := 407, cells := 3, slots := 18, locals := 9750 } : Room).cells ∧ 18 ≤ ({ frames := 407, cells := 3, slots := 18, locals := 9750 } : Room).slots := ⟨Nat.le_refl _, Nat.le_refl _⟩
  have hl : lv_has ls 4 [(0, .ref (ad 0)), (1, .int a1), (2, .ref o)] := hl
  refine lv_aload_n hx hb dL_outputs_0 rfl (lv_at hl 2 rfl) ?_
  refine lv_iconst (v := 0) hx hb dL_outputs_1 (by decide) ?_
  refine lv_aload_n hx hb dL_outputs_2 rfl (lv_at hl 0 rfl) ?_
  refine lv_iload_n hx hb dL_outputs_3 rfl (lv_at hl 1 rfl) ?_
  refine t_calli (vx_runV (As := [.int a1]) (rest := [.int 0, .ref o]) CX (ctX7_outputs l hfl D sw cs ad X s.heap.size M a1 hq) (cwV 1 hts (gwV m4_54 m4_55 m4_56 m1_1 m4_57) rfl rfl rfl (by decide +kernel) ⟨Nat.le_trans (Nat.le_of_ble_eq_true rfl) hR.1, Nat.le_trans (Nat.le_of_ble_eq_true rfl) hR.2⟩) (wPreV hSW hS hA hK hP hD (by decide) rfl rfl _) rfl rfl hl.1 rfl (lv_room (Nat.le_of_ble_eq_true rfl)) dL_outputs_4 ⟨Nat.le_trans (Nat.le_of_ble_eq_true rfl) hRc.1, Nat.le_trans (Nat.le_of_ble_eq_true rfl) hRc.2⟩) hD hS hA (fun k9 ho9 H locs ce9 q9 hP hD hS hce9 hcv9 hcl9 => ?_) (fun r ho9 H locs hP hD hS => ?_)
  · have hk9 := hk k9 ho9
    rcases (show k9 = 2 ∨ k9 = 1 ∨ k9 = 3 by simpa using hk9) with rfl | rfl | rfl
    · refine vx_catch (E := "java/lang/IndexOutOfBoundsException") (name := "java/lang/IndexOutOfBoundsException") hown [] (⟨0, 9, 12, 21⟩ : ExceptionTableEntry) [(⟨0, 9, 15, 15⟩ : ExceptionTableEntry), (⟨0, 9, 18, 84⟩ : ExceptionTableEntry)] (by rw [htab]; rfl) (fun z hz => by cases hz) (by decide) (by decide) (hw _ m3_77) (va_Nw.use rfl (hSW.ca _ (List.mem_of_getElem? (i := 2) rfl))) hce9 hcv9 hcl9 ?_
      refine lv_astore_n (lv' := [(3, .ref q9), (0, .ref (ad 0)), (1, .int a1), (2, .ref o)]) hx hb dL_outputs_12 rfl hl (by decide) rfl (fun ls hl => ?_)
      refine lv_iconst (v := 1) hx hb dL_outputs_13 (by decide) ?_
      refine W.widen (k := 3) (n := 18) (by decide) (by decide) ?_
      exact W.iret hx hb hr (fun t ht hW => ⟨⟨_, (), rfl, (by subst ho9; first | rfl | decide), (by subst ho9; rw [← ht] at hP; exact hP)⟩, hS.F ht⟩) hS.2.2 dL_outputs_14 hlk
    · have hps : ∀ z ∈ [(⟨0, 9, 12, 21⟩ : ExceptionTableEntry)], covers z 4 = false ∨ (z.catchType ≠ 0 ∧ ∃ nm : String, (Cond.classLink RL z.catchType nm).before args s = true ∧ va_Nc "java/lang/IllegalStateException" nm s) := by
        intro z hz
        rcases (show z = (⟨0, 9, 12, 21⟩ : ExceptionTableEntry) by simpa using hz) with rfl
        · exact Or.inr ⟨by decide, "java/lang/IndexOutOfBoundsException", hw _ m3_77, hSW.nc _ (List.mem_of_getElem? (i := 1) rfl) _ (List.mem_of_getElem? (i := 2) rfl) (by decide)⟩
      refine vx_catch (E := "java/lang/IllegalStateException") (name := "java/lang/IllegalStateException") hown [(⟨0, 9, 12, 21⟩ : ExceptionTableEntry)] (⟨0, 9, 15, 15⟩ : ExceptionTableEntry) [(⟨0, 9, 18, 84⟩ : ExceptionTableEntry)] (by rw [htab]; rfl) hps (by decide) (by decide) (hw _ m2_214) (va_Nw.use rfl (hSW.ca _ (List.mem_of_getElem? (i := 1) rfl))) hce9 hcv9 hcl9 ?_
      refine lv_astore_n (lv' := [(3, .ref q9), (0, .ref (ad 0)), (1, .int a1), (2, .ref o)]) hx hb dL_outputs_15 rfl hl (by decide) rfl (fun ls hl => ?_)
      refine lv_iconst (v := 2) hx hb dL_outputs_16 (by decide) ?_
      refine W.widen (k := 3) (n := 18) (by decide) (by decide) ?_
      exact W.iret hx hb hr (fun t ht hW => ⟨⟨_, (), rfl, (by subst ho9; first | rfl | decide), (by subst ho9; rw [← ht] at hP; exact hP)⟩, hS.F ht⟩) hS.2.2 dL_outputs_17 hlk
    · have hps : ∀ z ∈ [(⟨0, 9, 12, 21⟩ : ExceptionTableEntry), (⟨0, 9, 15, 15⟩ : ExceptionTableEntry)], covers z 4 = false ∨ (z.catchType ≠ 0 ∧ ∃ nm : String, (Cond.classLink RL z.catchType nm).before args s = true ∧ va_Nc "java/util/NoSuchElementException" nm s) := by
        intro z hz
        rcases (show z = (⟨0, 9, 12, 21⟩ : ExceptionTableEntry) ∨ z = (⟨0, 9, 15, 15⟩ : ExceptionTableEntry) by simpa using hz) with rfl | rfl
        · exact Or.inr ⟨by decide, "java/lang/IndexOutOfBoundsException", hw _ m3_77, hSW.nc _ (List.mem_of_getElem? (i := 3) rfl) _ (List.mem_of_getElem? (i := 2) rfl) (by decide)⟩
        · exact Or.inr ⟨by decide, "java/lang/IllegalStateException", hw _ m2_214, hSW.nc _ (List.mem_of_getElem? (i := 3) rfl) _ (List.mem_of_getElem? (i := 1) rfl) (by decide)⟩
      refine vx_catch (E := "java/util/NoSuchElementException") (name := "java/util/NoSuchElementException") hown [(⟨0, 9, 12, 21⟩ : ExceptionTableEntry), (⟨0, 9, 15, 15⟩ : ExceptionTableEntry)] (⟨0, 9, 18, 84⟩ : ExceptionTableEntry) [] (by rw [htab]; rfl) hps (by decide) (by decide) (hw _ m4_53) (va_Nw.use rfl (hSW.ca _ (List.mem_of_getElem? (i := 3) rfl))) hce9 hcv9 hcl9 ?_
      refine lv_astore_n (lv' := [(3, .ref q9), (0, .ref (ad 0)), (1, .int a1), (2, .ref o)]) hx hb dL_outputs_18 rfl hl (by decide) rfl (fun ls hl => ?_)
      refine lv_iconst (v := 3) hx hb dL_outputs_19 (by decide) ?_
      refine W.widen (k := 3) (n := 18) (by decide) (by decide) ?_
      exact W.iret hx hb hr (fun t ht hW => ⟨⟨_, (), rfl, (by subst ho9; first | rfl | decide), (by subst ho9; rw [← ht] at hP; exact hP)⟩, hS.F ht⟩) hS.2.2 dL_outputs_20 hlk
  · refine lv_i2l hx hb dL_outputs_7 rfl ?_
    refine va_last (n := 1) hx hb hKL hP hD hS (NC + j) 0 (wx_get hX) rfl (by unfold vp_in; decide) dL_outputs_8 (fun H locs hP hD hS => ?_)
    rw [wx_set] at hP
    refine lv_goto (tgt := 21) hx hb dL_outputs_9 (by decide) ?_
    refine lv_iconst (v := 0) hx hb dL_outputs_21 (by decide) ?_
    refine W.widen (k := 3) (n := 18) (by decide) (by decide) ?_
    exact W.iret hx hb hr (fun t ht hW => ⟨⟨_, (), rfl, (by subst ho9; first | rfl | decide), (by subst ho9; rw [← ht] at hP; exact hP)⟩, hS.F ht⟩) hS.2.2 dL_outputs_22 hlk
theorem WL_output : Cond.codeWith yL_output cL_output 5 (some .int) [(0, 10, 13, 21), (0, 10, 17, 15), (0, 10, 21, 84), (0, 10, 25, 13)] ∈ WG := wg4 (List.mem_of_getElem? (i := 80) rfl) rfl
abbrev wsL_output : List Cond := Cond.codeWith yL_output cL_output 5 (some .int) [(0, 10, 13, 21), (0, 10, 17, 15), (0, 10, 21, 84), (0, 10, 25, 13)] :: WG
set_option maxHeartbeats 4000000 in
set_option maxRecDepth 100000 in
theorem ctL_output (l : Launch) (hfl : l.stackTraces = false) (D : va_G) (sw : Sw) (cs : Cs) (cq : ClassId × ClassId) (ad : Nat → Nat) (X : va_W) (sz : Nat) (M : Mm) (a1 : Int32) (a2 : Int32) {oc : Int32 ⊕ Nat} {M1 : Mm} (hq : gX7_output M a1 a2 = some (oc, M1)) (hk : ∀ k, oc = .inr k → k ∈ [2, 1, 3, 0]) {j o : Nat} {f : Nat → Int64} (hX : X[j]? = some (o, .inl (cq.1, 1, .inr (.inl f)))) : Met l yL_output wsL_output { frames := 407, cells := 4, slots := 24, locals := 9752 } (va_Pc [.ref (ad 0), .int a1, .int a2, .ref o] (lPre D sw cs cq ad M X sz)) (va_Qi (fun (r' : Int32) (_ : Unit) => r' = hN [2, 1, 3, 0] oc) (fun _ t => va_P D vwCl (wl cs LC NC ad M1 ++ oX X j o cq.1 f oc) t.heap) (wA NC ad X sz)) 4 24 (wA NC ad X sz) := by
  refine met_h rfl rfl (Nat.le_of_ble_eq_true rfl) (fun p e s m args below meth c ls CX hr hlk htab hK hKL hSW hP hD hS hA hl => ?_)
  obtain ⟨hx, hb, hml, hown, hts⟩ := id CX
  have hw : ∀ w ∈ WG, w.before args s = true := fun w h => hts w (List.mem_cons_of_mem _ h)
  have hR : 407 ≤ ({ frames := 407, cells := 4, slots := 24, locals := 9752 } : Room).frames ∧ 9752 ≤ ({ frames := 407, cells := 4, slots := 24, locals := 9752 } : Room).locals := ⟨Nat.le_refl _, Nat.le_refl _⟩
  have hRc : 4 ≤ ({ frames := 407, cells := 4, slots := 24, locals := 9752 } : Room).cells ∧ 24 ≤ ({ frames := 407, cells := 4, slots := 24, locals := 9752 } : Room).slots := ⟨Nat.le_refl _, Nat.le_refl _⟩
  have hl : lv_has ls 5 [(0, .ref (ad 0)), (1, .int a1), (2, .int a2), (3, .ref o)] := hl
  refine lv_aload_n hx hb dL_output_0 rfl (lv_at hl 3 rfl) ?_
  refine lv_iconst (v := 0) hx hb dL_output_1 (by decide) ?_
  refine lv_aload_n hx hb dL_output_2 rfl (lv_at hl 0 rfl) ?_
  refine lv_iload_n hx hb dL_output_3 rfl (lv_at hl 1 rfl) ?_
  refine lv_iload_n hx hb dL_output_4 rfl (lv_at hl 2 rfl) ?_
  refine t_calli (vx_runV (As := [.int a1, .int a2]) (rest := [.int 0, .ref o]) CX (ctX7_output l hfl D sw cs ad X s.heap.size M a1 a2 hq) (cwV 2 hts (gwV m4_81 m4_82 m4_83 m1_1 m4_84) rfl rfl rfl (by decide +kernel) ⟨Nat.le_trans (Nat.le_of_ble_eq_true rfl) hR.1, Nat.le_trans (Nat.le_of_ble_eq_true rfl) hR.2⟩) (wPreV hSW hS hA hK hP hD (by decide) rfl rfl _) rfl rfl hl.1 rfl (lv_room (Nat.le_of_ble_eq_true rfl)) dL_output_5 ⟨Nat.le_trans (Nat.le_of_ble_eq_true rfl) hRc.1, Nat.le_trans (Nat.le_of_ble_eq_true rfl) hRc.2⟩) hD hS hA (fun k9 ho9 H locs ce9 q9 hP hD hS hce9 hcv9 hcl9 => ?_) (fun r ho9 H locs hP hD hS => ?_)
  · have hk9 := hk k9 ho9
    rcases (show k9 = 2 ∨ k9 = 1 ∨ k9 = 3 ∨ k9 = 0 by simpa using hk9) with rfl | rfl | rfl | rfl
    · refine vx_catch (E := "java/lang/IndexOutOfBoundsException") (name := "java/lang/IndexOutOfBoundsException") hown [] (⟨0, 10, 13, 21⟩ : ExceptionTableEntry) [(⟨0, 10, 17, 15⟩ : ExceptionTableEntry), (⟨0, 10, 21, 84⟩ : ExceptionTableEntry), (⟨0, 10, 25, 13⟩ : ExceptionTableEntry)] (by rw [htab]; rfl) (fun z hz => by cases hz) (by decide) (by decide) (hw _ m3_77) (va_Nw.use rfl (hSW.ca _ (List.mem_of_getElem? (i := 2) rfl))) hce9 hcv9 hcl9 ?_
      refine lv_astore (lv' := [(4, .ref q9), (0, .ref (ad 0)), (1, .int a1), (2, .int a2), (3, .ref o)]) hx hb dL_output_13 hl (by decide) rfl (fun ls hl => ?_)
      refine lv_iconst (v := 1) hx hb dL_output_15 (by decide) ?_
      refine W.widen (k := 4) (n := 24) (by decide) (by decide) ?_
      exact W.iret hx hb hr (fun t ht hW => ⟨⟨_, (), rfl, (by subst ho9; first | rfl | decide), (by subst ho9; rw [← ht] at hP; exact hP)⟩, hS.F ht⟩) hS.2.2 dL_output_16 hlk
    · have hps : ∀ z ∈ [(⟨0, 10, 13, 21⟩ : ExceptionTableEntry)], covers z 5 = false ∨ (z.catchType ≠ 0 ∧ ∃ nm : String, (Cond.classLink RL z.catchType nm).before args s = true ∧ va_Nc "java/lang/IllegalStateException" nm s) := by
        intro z hz
        rcases (show z = (⟨0, 10, 13, 21⟩ : ExceptionTableEntry) by simpa using hz) with rfl
        · exact Or.inr ⟨by decide, "java/lang/IndexOutOfBoundsException", hw _ m3_77, hSW.nc _ (List.mem_of_getElem? (i := 1) rfl) _ (List.mem_of_getElem? (i := 2) rfl) (by decide)⟩
      refine vx_catch (E := "java/lang/IllegalStateException") (name := "java/lang/IllegalStateException") hown [(⟨0, 10, 13, 21⟩ : ExceptionTableEntry)] (⟨0, 10, 17, 15⟩ : ExceptionTableEntry) [(⟨0, 10, 21, 84⟩ : ExceptionTableEntry), (⟨0, 10, 25, 13⟩ : ExceptionTableEntry)] (by rw [htab]; rfl) hps (by decide) (by decide) (hw _ m2_214) (va_Nw.use rfl (hSW.ca _ (List.mem_of_getElem? (i := 1) rfl))) hce9 hcv9 hcl9 ?_
      refine lv_astore (lv' := [(4, .ref q9), (0, .ref (ad 0)), (1, .int a1), (2, .int a2), (3, .ref o)]) hx hb dL_output_17 hl (by decide) rfl (fun ls hl => ?_)
      refine lv_iconst (v := 2) hx hb dL_output_19 (by decide) ?_
      refine W.widen (k := 4) (n := 24) (by decide) (by decide) ?_
      exact W.iret hx hb hr (fun t ht hW => ⟨⟨_, (), rfl, (by subst ho9; first | rfl | decide), (by subst ho9; rw [← ht] at hP; exact hP)⟩, hS.F ht⟩) hS.2.2 dL_output_20 hlk
    · have hps : ∀ z ∈ [(⟨0, 10, 13, 21⟩ : ExceptionTableEntry), (⟨0, 10, 17, 15⟩ : ExceptionTableEntry)], covers z 5 = false ∨ (z.catchType ≠ 0 ∧ ∃ nm : String, (Cond.classLink RL z.catchType nm).before args s = true ∧ va_Nc "java/util/NoSuchElementException" nm s) := by
        intro z hz
        rcases (show z = (⟨0, 10, 13, 21⟩ : ExceptionTableEntry) ∨ z = (⟨0, 10, 17, 15⟩ : ExceptionTableEntry) by simpa using hz) with rfl | rfl
        · exact Or.inr ⟨by decide, "java/lang/IndexOutOfBoundsException", hw _ m3_77, hSW.nc _ (List.mem_of_getElem? (i := 3) rfl) _ (List.mem_of_getElem? (i := 2) rfl) (by decide)⟩
        · exact Or.inr ⟨by decide, "java/lang/IllegalStateException", hw _ m2_214, hSW.nc _ (List.mem_of_getElem? (i := 3) rfl) _ (List.mem_of_getElem? (i := 1) rfl) (by decide)⟩
      refine vx_catch (E := "java/util/NoSuchElementException") (name := "java/util/NoSuchElementException") hown [(⟨0, 10, 13, 21⟩ : ExceptionTableEntry), (⟨0, 10, 17, 15⟩ : ExceptionTableEntry)] (⟨0, 10, 21, 84⟩ : ExceptionTableEntry) [(⟨0, 10, 25, 13⟩ : ExceptionTableEntry)] (by rw [htab]; rfl) hps (by decide) (by decide) (hw _ m4_53) (va_Nw.use rfl (hSW.ca _ (List.mem_of_getElem? (i := 3) rfl))) hce9 hcv9 hcl9 ?_
      refine lv_astore (lv' := [(4, .ref q9), (0, .ref (ad 0)), (1, .int a1), (2, .int a2), (3, .ref o)]) hx hb dL_output_21 hl (by decide) rfl (fun ls hl => ?_)
      refine lv_iconst (v := 3) hx hb dL_output_23 (by decide) ?_
      refine W.widen (k := 4) (n := 24) (by decide) (by decide) ?_
      exact W.iret hx hb hr (fun t ht hW => ⟨⟨_, (), rfl, (by subst ho9; first | rfl | decide), (by subst ho9; rw [← ht] at hP; exact hP)⟩, hS.F ht⟩) hS.2.2 dL_output_24 hlk
    · have hps : ∀ z ∈ [(⟨0, 10, 13, 21⟩ : ExceptionTableEntry), (⟨0, 10, 17, 15⟩ : ExceptionTableEntry), (⟨0, 10, 21, 84⟩ : ExceptionTableEntry)], covers z 5 = false ∨ (z.catchType ≠ 0 ∧ ∃ nm : String, (Cond.classLink RL z.catchType nm).before args s = true ∧ va_Nc "java/lang/IllegalArgumentException" nm s) := by
        intro z hz
        rcases (show z = (⟨0, 10, 13, 21⟩ : ExceptionTableEntry) ∨ z = (⟨0, 10, 17, 15⟩ : ExceptionTableEntry) ∨ z = (⟨0, 10, 21, 84⟩ : ExceptionTableEntry) by simpa using hz) with rfl | rfl | rfl
        · exact Or.inr ⟨by decide, "java/lang/IndexOutOfBoundsException", hw _ m3_77, hSW.nc _ (List.mem_of_getElem? (i := 0) rfl) _ (List.mem_of_getElem? (i := 2) rfl) (by decide)⟩
        · exact Or.inr ⟨by decide, "java/lang/IllegalStateException", hw _ m2_214, hSW.nc _ (List.mem_of_getElem? (i := 0) rfl) _ (List.mem_of_getElem? (i := 1) rfl) (by decide)⟩
        · exact Or.inr ⟨by decide, "java/util/NoSuchElementException", hw _ m4_53, hSW.nc _ (List.mem_of_getElem? (i := 0) rfl) _ (List.mem_of_getElem? (i := 3) rfl) (by decide)⟩
      refine vx_catch (E := "java/lang/IllegalArgumentException") (name := "java/lang/IllegalArgumentException") hown [(⟨0, 10, 13, 21⟩ : ExceptionTableEntry), (⟨0, 10, 17, 15⟩ : ExceptionTableEntry), (⟨0, 10, 21, 84⟩ : ExceptionTableEntry)] (⟨0, 10, 25, 13⟩ : ExceptionTableEntry) [] (by rw [htab]; rfl) hps (by decide) (by decide) (hw _ m2_213) (va_Nw.use rfl (hSW.ca _ (List.mem_of_getElem? (i := 0) rfl))) hce9 hcv9 hcl9 ?_
      refine lv_astore (lv' := [(4, .ref q9), (0, .ref (ad 0)), (1, .int a1), (2, .int a2), (3, .ref o)]) hx hb dL_output_25 hl (by decide) rfl (fun ls hl => ?_)
      refine lv_iconst (v := 4) hx hb dL_output_27 (by decide) ?_
      refine W.widen (k := 4) (n := 24) (by decide) (by decide) ?_
      exact W.iret hx hb hr (fun t ht hW => ⟨⟨_, (), rfl, (by subst ho9; first | rfl | decide), (by subst ho9; rw [← ht] at hP; exact hP)⟩, hS.F ht⟩) hS.2.2 dL_output_28 hlk
  · refine lv_i2l hx hb dL_output_8 rfl ?_
    refine va_last (n := 1) hx hb hKL hP hD hS (NC + j) 0 (wx_get hX) rfl (by unfold vp_in; decide) dL_output_9 (fun H locs hP hD hS => ?_)
    rw [wx_set] at hP
    refine lv_goto (tgt := 29) hx hb dL_output_10 (by decide) ?_
    refine lv_iconst (v := 0) hx hb dL_output_29 (by decide) ?_
    refine W.widen (k := 4) (n := 24) (by decide) (by decide) ?_
    exact W.iret hx hb hr (fun t ht hW => ⟨⟨_, (), rfl, (by subst ho9; first | rfl | decide), (by subst ho9; rw [← ht] at hP; exact hP)⟩, hS.F ht⟩) hS.2.2 dL_output_30 hlk
theorem WL_variable : Cond.codeWith yL_variable cL_variable 5 (some .int) [(0, 10, 13, 21), (0, 10, 17, 15), (0, 10, 21, 84), (0, 10, 25, 13)] ∈ WG := wg4 (List.mem_of_getElem? (i := 88) rfl) rfl
abbrev wsL_variable : List Cond := Cond.codeWith yL_variable cL_variable 5 (some .int) [(0, 10, 13, 21), (0, 10, 17, 15), (0, 10, 21, 84), (0, 10, 25, 13)] :: WG
set_option maxHeartbeats 4000000 in
set_option maxRecDepth 100000 in
theorem ctL_variable (l : Launch) (hfl : l.stackTraces = false) (D : va_G) (sw : Sw) (cs : Cs) (cq : ClassId × ClassId) (ad : Nat → Nat) (X : va_W) (sz : Nat) (M : Mm) (a1 : Int32) (a2 : Int32) {oc : Int32 ⊕ Nat} {M1 : Mm} (hq : gX7_variable M a1 a2 = some (oc, M1)) (hk : ∀ k, oc = .inr k → k ∈ [2, 1, 3, 0]) {j o : Nat} {f : Nat → Int64} (hX : X[j]? = some (o, .inl (cq.1, 1, .inr (.inl f)))) : Met l yL_variable wsL_variable { frames := 407, cells := 4, slots := 24, locals := 9751 } (va_Pc [.ref (ad 0), .int a1, .int a2, .ref o] (lPre D sw cs cq ad M X sz)) (va_Qi (fun (r' : Int32) (_ : Unit) => r' = hN [2, 1, 3, 0] oc) (fun _ t => va_P D vwCl (wl cs LC NC ad M1 ++ oX X j o cq.1 f oc) t.heap) (wA NC ad X sz)) 4 24 (wA NC ad X sz) := by
  refine met_h rfl rfl (Nat.le_of_ble_eq_true rfl) (fun p e s m args below meth c ls CX hr hlk htab hK hKL hSW hP hD hS hA hl => ?_)
  obtain ⟨hx, hb, hml, hown, hts⟩ := id CX
  have hw : ∀ w ∈ WG, w.before args s = true := fun w h => hts w (List.mem_cons_of_mem _ h)
  have hR : 407 ≤ ({ frames := 407, cells := 4, slots := 24, locals := 9751 } : Room).frames ∧ 9751 ≤ ({ frames := 407, cells := 4, slots := 24, locals := 9751 } : Room).locals := ⟨Nat.le_refl _, Nat.le_refl _⟩
  have hRc : 4 ≤ ({ frames := 407, cells := 4, slots := 24, locals := 9751 } : Room).cells ∧ 24 ≤ ({ frames := 407, cells := 4, slots := 24, locals := 9751 } : Room).slots := ⟨Nat.le_refl _, Nat.le_refl _⟩
  have hl : lv_has ls 5 [(0, .ref (ad 0)), (1, .int a1), (2, .int a2), (3, .ref o)] := hl
  refine lv_aload_n hx hb dL_variable_0 rfl (lv_at hl 3 rfl) ?_
  refine lv_iconst (v := 0) hx hb dL_variable_1 (by decide) ?_
  refine lv_aload_n hx hb dL_variable_2 rfl (lv_at hl 0 rfl) ?_
  refine lv_iload_n hx hb dL_variable_3 rfl (lv_at hl 1 rfl) ?_
  refine lv_iload_n hx hb dL_variable_4 rfl (lv_at hl 2 rfl) ?_
  refine t_calli (vx_runV (As := [.int a1, .int a2]) (rest := [.int 0, .ref o]) CX (ctX7_variable l hfl D sw cs ad X s.heap.size M a1 a2 hq) (cwV 2 hts (gwV m4_89 m4_90 m4_91 m1_1 m4_92) rfl rfl rfl (by decide +kernel) ⟨Nat.le_trans (Nat.le_of_ble_eq_true rfl) hR.1, Nat.le_trans (Nat.le_of_ble_eq_true rfl) hR.2⟩) (wPreV hSW hS hA hK hP hD (by decide) rfl rfl _) rfl rfl hl.1 rfl (lv_room (Nat.le_of_ble_eq_true rfl)) dL_variable_5 ⟨Nat.le_trans (Nat.le_of_ble_eq_true rfl) hRc.1, Nat.le_trans (Nat.le_of_ble_eq_true rfl) hRc.2⟩) hD hS hA (fun k9 ho9 H locs ce9 q9 hP hD hS hce9 hcv9 hcl9 => ?_) (fun r ho9 H locs hP hD hS => ?_)
  · have hk9 := hk k9 ho9
    rcases (show k9 = 2 ∨ k9 = 1 ∨ k9 = 3 ∨ k9 = 0 by simpa using hk9) with rfl | rfl | rfl | rfl
    · refine vx_catch (E := "java/lang/IndexOutOfBoundsException") (name := "java/lang/IndexOutOfBoundsException") hown [] (⟨0, 10, 13, 21⟩ : ExceptionTableEntry) [(⟨0, 10, 17, 15⟩ : ExceptionTableEntry), (⟨0, 10, 21, 84⟩ : ExceptionTableEntry), (⟨0, 10, 25, 13⟩ : ExceptionTableEntry)] (by rw [htab]; rfl) (fun z hz => by cases hz) (by decide) (by decide) (hw _ m3_77) (va_Nw.use rfl (hSW.ca _ (List.mem_of_getElem? (i := 2) rfl))) hce9 hcv9 hcl9 ?_
      refine lv_astore (lv' := [(4, .ref q9), (0, .ref (ad 0)), (1, .int a1), (2, .int a2), (3, .ref o)]) hx hb dL_variable_13 hl (by decide) rfl (fun ls hl => ?_)
      refine lv_iconst (v := 1) hx hb dL_variable_15 (by decide) ?_
      refine W.widen (k := 4) (n := 24) (by decide) (by decide) ?_
      exact W.iret hx hb hr (fun t ht hW => ⟨⟨_, (), rfl, (by subst ho9; first | rfl | decide), (by subst ho9; rw [← ht] at hP; exact hP)⟩, hS.F ht⟩) hS.2.2 dL_variable_16 hlk
    · have hps : ∀ z ∈ [(⟨0, 10, 13, 21⟩ : ExceptionTableEntry)], covers z 5 = false ∨ (z.catchType ≠ 0 ∧ ∃ nm : String, (Cond.classLink RL z.catchType nm).before args s = true ∧ va_Nc "java/lang/IllegalStateException" nm s) := by
        intro z hz
        rcases (show z = (⟨0, 10, 13, 21⟩ : ExceptionTableEntry) by simpa using hz) with rfl
        · exact Or.inr ⟨by decide, "java/lang/IndexOutOfBoundsException", hw _ m3_77, hSW.nc _ (List.mem_of_getElem? (i := 1) rfl) _ (List.mem_of_getElem? (i := 2) rfl) (by decide)⟩
      refine vx_catch (E := "java/lang/IllegalStateException") (name := "java/lang/IllegalStateException") hown [(⟨0, 10, 13, 21⟩ : ExceptionTableEntry)] (⟨0, 10, 17, 15⟩ : ExceptionTableEntry) [(⟨0, 10, 21, 84⟩ : ExceptionTableEntry), (⟨0, 10, 25, 13⟩ : ExceptionTableEntry)] (by rw [htab]; rfl) hps (by decide) (by decide) (hw _ m2_214) (va_Nw.use rfl (hSW.ca _ (List.mem_of_getElem? (i := 1) rfl))) hce9 hcv9 hcl9 ?_
      refine lv_astore (lv' := [(4, .ref q9), (0, .ref (ad 0)), (1, .int a1), (2, .int a2), (3, .ref o)]) hx hb dL_variable_17 hl (by decide) rfl (fun ls hl => ?_)
      refine lv_iconst (v := 2) hx hb dL_variable_19 (by decide) ?_
      refine W.widen (k := 4) (n := 24) (by decide) (by decide) ?_
      exact W.iret hx hb hr (fun t ht hW => ⟨⟨_, (), rfl, (by subst ho9; first | rfl | decide), (by subst ho9; rw [← ht] at hP; exact hP)⟩, hS.F ht⟩) hS.2.2 dL_variable_20 hlk
    · have hps : ∀ z ∈ [(⟨0, 10, 13, 21⟩ : ExceptionTableEntry), (⟨0, 10, 17, 15⟩ : ExceptionTableEntry)], covers z 5 = false ∨ (z.catchType ≠ 0 ∧ ∃ nm : String, (Cond.classLink RL z.catchType nm).before args s = true ∧ va_Nc "java/util/NoSuchElementException" nm s) := by
        intro z hz
        rcases (show z = (⟨0, 10, 13, 21⟩ : ExceptionTableEntry) ∨ z = (⟨0, 10, 17, 15⟩ : ExceptionTableEntry) by simpa using hz) with rfl | rfl
        · exact Or.inr ⟨by decide, "java/lang/IndexOutOfBoundsException", hw _ m3_77, hSW.nc _ (List.mem_of_getElem? (i := 3) rfl) _ (List.mem_of_getElem? (i := 2) rfl) (by decide)⟩
        · exact Or.inr ⟨by decide, "java/lang/IllegalStateException", hw _ m2_214, hSW.nc _ (List.mem_of_getElem? (i := 3) rfl) _ (List.mem_of_getElem? (i := 1) rfl) (by decide)⟩
      refine vx_catch (E := "java/util/NoSuchElementException") (name := "java/util/NoSuchElementException") hown [(⟨0, 10, 13, 21⟩ : ExceptionTableEntry), (⟨0, 10, 17, 15⟩ : ExceptionTableEntry)] (⟨0, 10, 21, 84⟩ : ExceptionTableEntry) [(⟨0, 10, 25, 13⟩ : ExceptionTableEntry)] (by rw [htab]; rfl) hps (by decide) (by decide) (hw _ m4_53) (va_Nw.use rfl (hSW.ca _ (List.mem_of_getElem? (i := 3) rfl))) hce9 hcv9 hcl9 ?_
      refine lv_astore (lv' := [(4, .ref q9), (0, .ref (ad 0)), (1, .int a1), (2, .int a2), (3, .ref o)]) hx hb dL_variable_21 hl (by decide) rfl (fun ls hl => ?_)
      refine lv_iconst (v := 3) hx hb dL_variable_23 (by decide) ?_
      refine W.widen (k := 4) (n := 24) (by decide) (by decide) ?_
      exact W.iret hx hb hr (fun t ht hW => ⟨⟨_, (), rfl, (by subst ho9; first | rfl | decide), (by subst ho9; rw [← ht] at hP; exact hP)⟩, hS.F ht⟩) hS.2.2 dL_variable_24 hlk
    · have hps : ∀ z ∈ [(⟨0, 10, 13, 21⟩ : ExceptionTableEntry), (⟨0, 10, 17, 15⟩ : ExceptionTableEntry), (⟨0, 10, 21, 84⟩ : ExceptionTableEntry)], covers z 5 = false ∨ (z.catchType ≠ 0 ∧ ∃ nm : String, (Cond.classLink RL z.catchType nm).before args s = true ∧ va_Nc "java/lang/IllegalArgumentException" nm s) := by
        intro z hz
        rcases (show z = (⟨0, 10, 13, 21⟩ : ExceptionTableEntry) ∨ z = (⟨0, 10, 17, 15⟩ : ExceptionTableEntry) ∨ z = (⟨0, 10, 21, 84⟩ : ExceptionTableEntry) by simpa using hz) with rfl | rfl | rfl
        · exact Or.inr ⟨by decide, "java/lang/IndexOutOfBoundsException", hw _ m3_77, hSW.nc _ (List.mem_of_getElem? (i := 0) rfl) _ (List.mem_of_getElem? (i := 2) rfl) (by decide)⟩
        · exact Or.inr ⟨by decide, "java/lang/IllegalStateException", hw _ m2_214, hSW.nc _ (List.mem_of_getElem? (i := 0) rfl) _ (List.mem_of_getElem? (i := 1) rfl) (by decide)⟩
        · exact Or.inr ⟨by decide, "java/util/NoSuchElementException", hw _ m4_53, hSW.nc _ (List.mem_of_getElem? (i := 0) rfl) _ (List.mem_of_getElem? (i := 3) rfl) (by decide)⟩
      refine vx_catch (E := "java/lang/IllegalArgumentException") (name := "java/lang/IllegalArgumentException") hown [(⟨0, 10, 13, 21⟩ : ExceptionTableEntry), (⟨0, 10, 17, 15⟩ : ExceptionTableEntry), (⟨0, 10, 21, 84⟩ : ExceptionTableEntry)] (⟨0, 10, 25, 13⟩ : ExceptionTableEntry) [] (by rw [htab]; rfl) hps (by decide) (by decide) (hw _ m2_213) (va_Nw.use rfl (hSW.ca _ (List.mem_of_getElem? (i := 0) rfl))) hce9 hcv9 hcl9 ?_
      refine lv_astore (lv' := [(4, .ref q9), (0, .ref (ad 0)), (1, .int a1), (2, .int a2), (3, .ref o)]) hx hb dL_variable_25 hl (by decide) rfl (fun ls hl => ?_)
      refine lv_iconst (v := 4) hx hb dL_variable_27 (by decide) ?_
      refine W.widen (k := 4) (n := 24) (by decide) (by decide) ?_
      exact W.iret hx hb hr (fun t ht hW => ⟨⟨_, (), rfl, (by subst ho9; first | rfl | decide), (by subst ho9; rw [← ht] at hP; exact hP)⟩, hS.F ht⟩) hS.2.2 dL_variable_28 hlk
  · refine lv_i2l hx hb dL_variable_8 rfl ?_
    refine va_last (n := 1) hx hb hKL hP hD hS (NC + j) 0 (wx_get hX) rfl (by unfold vp_in; decide) dL_variable_9 (fun H locs hP hD hS => ?_)
    rw [wx_set] at hP
    refine lv_goto (tgt := 29) hx hb dL_variable_10 (by decide) ?_
    refine lv_iconst (v := 0) hx hb dL_variable_29 (by decide) ?_
    refine W.widen (k := 4) (n := 24) (by decide) (by decide) ?_
    exact W.iret hx hb hr (fun t ht hW => ⟨⟨_, (), rfl, (by subst ho9; first | rfl | decide), (by subst ho9; rw [← ht] at hP; exact hP)⟩, hS.F ht⟩) hS.2.2 dL_variable_30 hlk
theorem WL_behaviours : Cond.codeWith yL_behaviours cL_behaviours 3 (some .int) [(0, 8, 11, 15)] ∈ WG := wg4 (List.mem_of_getElem? (i := 96) rfl) rfl
abbrev wsL_behaviours : List Cond := Cond.codeWith yL_behaviours cL_behaviours 3 (some .int) [(0, 8, 11, 15)] :: WG
set_option maxHeartbeats 4000000 in
set_option maxRecDepth 100000 in
theorem ctL_behaviours (l : Launch) (hfl : l.stackTraces = false) (D : va_G) (sw : Sw) (cs : Cs) (cq : ClassId × ClassId) (ad : Nat → Nat) (X : va_W) (sz : Nat) (M : Mm) {oc : Int32 ⊕ Nat} {M1 : Mm} (hq : gX7_behaviours M = some (oc, M1)) (hk : ∀ k, oc = .inr k → k ∈ [1]) {j o : Nat} {f : Nat → Int64} (hX : X[j]? = some (o, .inl (cq.1, 1, .inr (.inl f)))) : Met l yL_behaviours wsL_behaviours { frames := 407, cells := 1, slots := 6, locals := 9751 } (va_Pc [.ref (ad 0), .ref o] (lPre D sw cs cq ad M X sz)) (va_Qi (fun (r' : Int32) (_ : Unit) => r' = hN [1] oc) (fun _ t => va_P D vwCl (wl cs LC NC ad M1 ++ oX X j o cq.1 f oc) t.heap) (wA NC ad X sz)) 1 6 (wA NC ad X sz) := by
  refine met_h rfl rfl (Nat.le_of_ble_eq_true rfl) (fun p e s m args below meth c ls CX hr hlk htab hK hKL hSW hP hD hS hA hl => ?_)
  obtain ⟨hx, hb, hml, hown, hts⟩ := id CX
  have hw : ∀ w ∈ WG, w.before args s = true := fun w h => hts w (List.mem_cons_of_mem _ h)
  have hR : 407 ≤ ({ frames := 407, cells := 1, slots := 6, locals := 9751 } : Room).frames ∧ 9751 ≤ ({ frames := 407, cells := 1, slots := 6, locals := 9751 } : Room).locals := ⟨Nat.le_refl _, Nat.le_refl _⟩
  have hRc : 1 ≤ ({ frames := 407, cells := 1, slots := 6, locals := 9751 } : Room).cells ∧ 6 ≤ ({ frames := 407, cells := 1, slots := 6, locals := 9751 } : Room).slots := ⟨Nat.le_refl _, Nat.le_refl _⟩
  have hl : lv_has ls 3 [(0, .ref (ad 0)), (1, .ref o)] := hl
  refine lv_aload_n hx hb dL_behaviours_0 rfl (lv_at hl 1 rfl) ?_
  refine lv_iconst (v := 0) hx hb dL_behaviours_1 (by decide) ?_
  refine lv_aload_n hx hb dL_behaviours_2 rfl (lv_at hl 0 rfl) ?_
  refine t_calli (vx_runV (As := []) (rest := [.int 0, .ref o]) CX (ctX7_behaviours l hfl D sw cs ad X s.heap.size M hq) (cwV 0 hts (gwV m4_97 m4_98 m4_99 m1_1 m4_100) rfl rfl rfl (by decide +kernel) ⟨Nat.le_trans (Nat.le_of_ble_eq_true rfl) hR.1, Nat.le_trans (Nat.le_of_ble_eq_true rfl) hR.2⟩) (wPreV hSW hS hA hK hP hD (by decide) rfl rfl _) rfl rfl hl.1 rfl (lv_room (Nat.le_of_ble_eq_true rfl)) dL_behaviours_3 ⟨Nat.le_trans (Nat.le_of_ble_eq_true rfl) hRc.1, Nat.le_trans (Nat.le_of_ble_eq_true rfl) hRc.2⟩) hD hS hA (fun k9 ho9 H locs ce9 q9 hP hD hS hce9 hcv9 hcl9 => ?_) (fun r ho9 H locs hP hD hS => ?_)
  · have hk9 := hk k9 ho9
    obtain rfl : k9 = 1 := by simpa using hk9
    refine vx_catch (E := "java/lang/IllegalStateException") (name := "java/lang/IllegalStateException") hown [] (⟨0, 8, 11, 15⟩ : ExceptionTableEntry) [] (by rw [htab]; rfl) (fun z hz => by cases hz) (by decide) (by decide) (hw _ m2_214) (va_Nw.use rfl (hSW.ca _ (List.mem_of_getElem? (i := 1) rfl))) hce9 hcv9 hcl9 ?_
    refine lv_astore_n (lv' := [(2, .ref q9), (0, .ref (ad 0)), (1, .ref o)]) hx hb dL_behaviours_11 rfl hl (by decide) rfl (fun ls hl => ?_)
    refine lv_iconst (v := 1) hx hb dL_behaviours_12 (by decide) ?_
    refine W.widen (k := 1) (n := 6) (by decide) (by decide) ?_
    exact W.iret hx hb hr (fun t ht hW => ⟨⟨_, (), rfl, (by subst ho9; first | rfl | decide), (by subst ho9; rw [← ht] at hP; exact hP)⟩, hS.F ht⟩) hS.2.2 dL_behaviours_13 hlk
  · refine lv_i2l hx hb dL_behaviours_6 rfl ?_
    refine va_last (n := 1) hx hb hKL hP hD hS (NC + j) 0 (wx_get hX) rfl (by unfold vp_in; decide) dL_behaviours_7 (fun H locs hP hD hS => ?_)
    rw [wx_set] at hP
    refine lv_goto (tgt := 14) hx hb dL_behaviours_8 (by decide) ?_
    refine lv_iconst (v := 0) hx hb dL_behaviours_14 (by decide) ?_
    refine W.widen (k := 1) (n := 6) (by decide) (by decide) ?_
    exact W.iret hx hb hr (fun t ht hW => ⟨⟨_, (), rfl, (by subst ho9; first | rfl | decide), (by subst ho9; rw [← ht] at hP; exact hP)⟩, hS.F ht⟩) hS.2.2 dL_behaviours_15 hlk
