abbrev wsX7_checkNoError : List Cond := Cond.code yX7_checkNoError cX7_checkNoError 2 none :: WG
def gX7_checkNoError (M : Mm) (a1 : Int32) : Option ((Int32 ⊕ Nat) × Mm) := if (a1 < 0 ∨ 16 ≤ (a1).toNatClampNeg) then none else lt ((a1).toNatClampNeg) fun v2 => if (M (vb v2 + 3) 4) = (-1 : Int32) then (some (.inl 0, M)) else some (.inr 3, M)
set_option maxHeartbeats 4000000 in
set_option maxRecDepth 100000 in
theorem bX7_checkNoError {p : Program} {l : Launch} {e : Env} {R : Room} {s : State} {m : MethodId} {args : Array Value} {below : List Frame} {meth : Method} {c : Code} {H : Heap} {locs : List Loc} {Q : State → Prop} {D : va_G} {sw : Sw} {cs : Cs} {ad : Nat → Nat} {X : va_W} {A : Nat → Prop} {Qc : Array Value → State → Outcome → State → Prop} {XC : String → State → State → Prop} (M : Mm) (a1 : Int32) {res : Option ((Int32 ⊕ Nat) × Mm)} (hg : gX7_checkNoError M a1 = res) (hne : res ≠ none) (CX : CallFix p m c cX7_checkNoError 2 s args wsX7_checkNoError RX7) (hR : 6 ≤ R.frames ∧ 90 ≤ R.locals) (hQ : Q = vx_MQ below Qc XC args s 1 6 A) (hfl : l.stackTraces = false) (hlk : meth.locks = false) (hnx : ∀ x ∈ c.exceptionTable.toList, False) (hXC : ∀ (k : Nat) (M9 : Mm) (t : State), some (.inr k, M9) = res → va_P D vwCl (wl cs LC NC ad M9 ++ X) t.heap → va_F A s t → XC (exn k) s t) (hK : va_K D vwCl (tysC cs) s) (hSW : SW sw A s s.heap) (hP : va_P D vwCl (wl cs LC NC ad M ++ X) H) (hD : va_D A (wl cs LC NC ad M ++ X)) (hS : va_S A s.heap H locs) (hA : ∀ q, s.heap.size ≤ q → A q) (hRc : 1 ≤ R.cells ∧ 6 ≤ R.slots) {ls : Array Slot} (hl : lv_has ls 2 [(0, .ref (ad 0)), (1, .int a1)]) (hret : ∀ (pc : Nat) (ls : Array Slot) (H : Heap) (locs : List Loc) (M9 : Mm), some (.inl 0, M9) = res → decode cX7_checkNoError pc = .ok (.return_, 1) → va_P D vwCl (wl cs LC NC ad M9 ++ X) H → va_D A (wl cs LC NC ad M9 ++ X) → va_S A s.heap H locs → W p l e R s m args below meth c H locs 1 6 Q (F0 m pc ls [])) : W p l e R s m args below meth c H locs 0 0 Q (F0 m 0 ls []) := by
  obtain ⟨hx, hb, hml, hown, hts⟩ := id CX
  have hw : ∀ w ∈ WG, w.before args s = true := fun w h => hts w (List.mem_cons_of_mem _ h)
  have lk_25 := hw _ m1_161
  have lk_148 := hw _ m1_145
  have lk_152 := hw _ m1_98
  unfold gX7_checkNoError at hg
  refine lv_aload_n hx hb dX7_checkNoError_0 rfl (lv_at hl 0 rfl) ?_
  refine m_gr (C := RX7) (T := TX7) (n := 5) (ci := 5) hx hb hts in_RX7 hown hK hP (by decide) rfl rfl 2 (by decide) rfl lk_25 (fun _ h9 => h9) dX7_checkNoError_1 ?_
  refine lv_iload_n hx hb dX7_checkNoError_4 rfl (lv_at hl 1 rfl) ?_
  obtain ⟨b1, hg⟩ := ck_e hg hne
  obtain ⟨v2, hv2, hg⟩ := lt_e hg
  have h3 := ix_lt b1 hv2
  refine m_lq (k := 13) hx hb hK hP (by decide) rfl b1 dX7_checkNoError_5 ?_
  rw [← hv2]
  refine m_gr (C := RX5) (T := TX5) (n := 5) (ci := 3) hx hb hts in_RX5 hown hK hP (kC_v0 h3) (LC_VAR v2) rfl 3 (by decide) rfl lk_148 (fun _ h9 => h9) dX7_checkNoError_6 ?_
  refine m_gi (C := RX1) (T := TX1) (n := 5) (ci := 0) hx hb hts in_RX1 hown hK hP (kC_v (j := 3) h3 (by decide)) (LC_RDG v2) rfl 4 (by decide) rfl lk_152 (fun _ h9 => h9) dX7_checkNoError_9 ?_
  refine lv_iconst (v := -1) hx hb dX7_checkNoError_12 (by decide) ?_
  refine lv_icmp_eq (tgt := 26) hx hb dX7_checkNoError_13 (by decide) (fun c4 => ?_) (fun c4 => ?_)
  · have hg := if_t hg c4
    refine W.widen (k := 1) (n := 6) (by decide) (by decide) ?_
    exact hret _ _ _ _ _ hg dX7_checkNoError_26 hP hD hS
  · have hg := if_f hg c4
    rw [hQ]
    obtain ⟨sa, hsa⟩ := hSW.ms (218, "the variant has an error") (List.mem_of_getElem? (i := 10) rfl)
    exact nx_throw  hx hb hfl hown (hw _ m3_130) (hw _ m1_20) hsa (nx_hat hw hSW) hSW.us hSW.sp hS (hl.1.trans hml.symm) dX7_checkNoError_16 dX7_checkNoError_19 dX7_checkNoError_20 dX7_checkNoError_22 dX7_checkNoError_25 (fun x9 h9 => (hnx x9 h9).elim) (Nat.lt_of_lt_of_le (Nat.le_of_ble_eq_true rfl) hR.1) (Nat.le_trans (Nat.le_of_ble_eq_true rfl) hR.2) (Nat.le_trans (Nat.le_of_ble_eq_true rfl) hRc.1) (Nat.le_trans (Nat.le_of_ble_eq_true rfl) hRc.2) hlk (fun t9 ha9 hz9 hk9 => hXC 3 _ t9 hg (t_x hP hS hz9 hk9).1 (t_x hP hS hz9 hk9).2) hS.2.2 (by decide) (by decide)
theorem ctX7_checkNoError (l : Launch) (hfl : l.stackTraces = false) (D : va_G) (sw : Sw) (cs : Cs) (ad : Nat → Nat) (X : va_W) (sz : Nat) (M : Mm) (a1 : Int32) {o : Int32 ⊕ Nat} {M1 : Mm} (hq : gX7_checkNoError M a1 = some (o, M1)) : vx_Met l yX7_checkNoError wsX7_checkNoError ({ frames := 6, cells := 1, slots := 6, locals := 90 }) (va_Pc [.ref (ad 0), .int a1] (wPre D sw cs LC NC ad M X sz)) (tQv D cs LC NC ad M1 X sz o) (tX D cs LC NC ad M1 X sz o) 1 6 (wA NC ad X sz) :=
  met_t rfl rfl (Nat.le_of_ble_eq_true rfl) (fun p e s m args below meth c ls CX hr hlk hnx hK hSW hP hD hS hA hsz hl => bX7_checkNoError M a1 hq (by simp) CX ⟨Nat.le_refl _, Nat.le_refl _⟩ rfl hfl hlk hnx (fun k M9 t he hB hF => ⟨(), trivial, ⟨⟨k, (Prod.mk.inj (Option.some.inj he)).1.symm, rfl⟩, wpost hB rfl (Prod.mk.inj (Option.some.inj he)).2⟩, hF⟩) hK hSW hP hD hS hA ⟨Nat.le_refl _, Nat.le_refl _⟩ hl (fun pc ls H locs M9 hv dg hP hD hS => vx_ret (W.vret CX.1 CX.2.1 hr (fun t ht hW => ⟨⟨(), rfl, (Prod.mk.inj (Option.some.inj hv)).1.symm, wpost hP ht (Prod.mk.inj (Option.some.inj hv)).2⟩, hS.F ht⟩) hS.2.2 dg)))

abbrev wsX7_outputs : List Cond := Cond.code yX7_outputs cX7_outputs 2 (some .int) :: WG
def gX7_outputs (M : Mm) (a1 : Int32) : Option ((Int32 ⊕ Nat) × Mm) := te (gX7_checkConfiguration M a1) fun r6 M2 => te (gX7_checkFinished M2 ) fun r12 M8 => bd (gX7_refresh M8 ) fun M14 => te (gX7_checkNoError M14 a1) fun r20 M16 => if (a1 < 0 ∨ 16 ≤ (a1).toNatClampNeg) then none else lt ((a1).toNatClampNeg) fun v22 => some (.inl (M16 (vb v22 + 6) 5), M16)
set_option maxHeartbeats 4000000 in
set_option maxRecDepth 100000 in
theorem bX7_outputs {p : Program} {l : Launch} {e : Env} {R : Room} {s : State} {m : MethodId} {args : Array Value} {below : List Frame} {meth : Method} {c : Code} {H : Heap} {locs : List Loc} {Q : State → Prop} {D : va_G} {sw : Sw} {cs : Cs} {ad : Nat → Nat} {X : va_W} {A : Nat → Prop} {Qc : Array Value → State → Outcome → State → Prop} {XC : String → State → State → Prop} (M : Mm) (a1 : Int32) {res : Option ((Int32 ⊕ Nat) × Mm)} (hg : gX7_outputs M a1 = res) (hne : res ≠ none) (CX : CallFix p m c cX7_outputs 2 s args wsX7_outputs RX7) (hR : 406 ≤ R.frames ∧ 9729 ≤ R.locals) (hQ : Q = vx_MQ below Qc XC args s 3 18 A) (hfl : l.stackTraces = false) (hlk : meth.locks = false) (hnx : ∀ x ∈ c.exceptionTable.toList, False) (hXC : ∀ (k : Nat) (M9 : Mm) (t : State), some (.inr k, M9) = res → va_P D vwCl (wl cs LC NC ad M9 ++ X) t.heap → va_F A s t → XC (exn k) s t) (hK : va_K D vwCl (tysC cs) s) (hSW : SW sw A s s.heap) (hP : va_P D vwCl (wl cs LC NC ad M ++ X) H) (hD : va_D A (wl cs LC NC ad M ++ X)) (hS : va_S A s.heap H locs) (hA : ∀ q, s.heap.size ≤ q → A q) (hRc : 3 ≤ R.cells ∧ 18 ≤ R.slots) {ls : Array Slot} (hl : lv_has ls 2 [(0, .ref (ad 0)), (1, .int a1)]) (hret : ∀ (pc : Nat) (ls : Array Slot) (H : Heap) (locs : List Loc) (v : Int32) (M9 : Mm), some (.inl v, M9) = res → decode cX7_outputs pc = .ok (.ireturn, 1) → va_P D vwCl (wl cs LC NC ad M9 ++ X) H → va_D A (wl cs LC NC ad M9 ++ X) → va_S A s.heap H locs → W p l e R s m args below meth c H locs 3 18 Q (F0 m pc ls [.int v])) : W p l e R s m args below meth c H locs 0 0 Q (F0 m 0 ls []) := by
  obtain ⟨hx, hb, hml, hown, hts⟩ := id CX
  have hw : ∀ w ∈ WG, w.before args s = true := fun w h => hts w (List.mem_cons_of_mem _ h)
  have lk_25 := hw _ m1_161
  have lk_169 := hw _ m1_147
  have lk_173 := hw _ m1_124
  unfold gX7_outputs at hg
  refine lv_aload_n hx hb dX7_outputs_0 rfl (lv_at hl 0 rfl) ?_
  refine lv_iload_n hx hb dX7_outputs_1 rfl (lv_at hl 1 rfl) ?_
  obtain ⟨o1, M2, q3, k4, v5⟩ := te_e hg hne
  refine t_callv (vx_runV (As := [.int a1]) (rest := []) CX (ctX7_checkConfiguration l hfl D sw cs ad X H.size M a1 q3) (cwV 1 hts (gwV m3_62 m3_64 mp2_10 m1_1 m3_65) rfl rfl rfl (by decide +kernel) ⟨Nat.le_trans (Nat.le_of_ble_eq_true rfl) hR.1, Nat.le_trans (Nat.le_of_ble_eq_true rfl) hR.2⟩) (wPreV hSW hS hA hK hP hD (by decide) rfl rfl _) rfl rfl hl.1 rfl (lv_room (Nat.le_of_ble_eq_true rfl)) dX7_outputs_2 ⟨Nat.le_trans (Nat.le_of_ble_eq_true rfl) hRc.1, Nat.le_trans (Nat.le_of_ble_eq_true rfl) hRc.2⟩) hD hS hA (fun k9 ho9 H locs ce9 q9 hP hD hS hce9 hcv9 hcl9 => ?_) (fun r6 ho9 H locs hP hD hS => ?_)
  · rw [hQ]
    exact vx_out (fun x9 h9 => (hnx x9 h9).elim) hlk hce9 hcv9 hcl9 (fun t9 ht9 ha9 => hXC k9 _ t9 (k4 k9 ho9) (by rw [ht9]; exact hP) (hS.F ht9)) hS.2.2 (by decide) (by decide)
  · have hg := v5 r6 ho9
    refine lv_aload_n hx hb dX7_outputs_5 rfl (lv_at hl 0 rfl) ?_
    obtain ⟨o7, M8, q9, k10, v11⟩ := te_e hg hne
    refine t_callv (vx_runV (As := []) (rest := []) CX (ctX7_checkFinished l hfl D sw cs ad X H.size M2  q9) (cwV 0 hts (gwV m3_93 m3_95 mp2_13 m1_1 m3_96) rfl rfl rfl (by decide +kernel) ⟨Nat.le_trans (Nat.le_of_ble_eq_true rfl) hR.1, Nat.le_trans (Nat.le_of_ble_eq_true rfl) hR.2⟩) (wPreV hSW hS hA hK hP hD (by decide) rfl rfl _) rfl rfl hl.1 rfl (lv_room (Nat.le_of_ble_eq_true rfl)) dX7_outputs_6 ⟨Nat.le_trans (Nat.le_of_ble_eq_true rfl) hRc.1, Nat.le_trans (Nat.le_of_ble_eq_true rfl) hRc.2⟩) hD hS hA (fun k9 ho9 H locs ce9 q9 hP hD hS hce9 hcv9 hcl9 => ?_) (fun r12 ho9 H locs hP hD hS => ?_)
    · rw [hQ]
      exact vx_out (fun x9 h9 => (hnx x9 h9).elim) hlk hce9 hcv9 hcl9 (fun t9 ht9 ha9 => hXC k9 _ t9 (k10 k9 ho9) (by rw [ht9]; exact hP) (hS.F ht9)) hS.2.2 (by decide) (by decide)
    · have hg := v11 r12 ho9
      refine lv_aload_n hx hb dX7_outputs_9 rfl (lv_at hl 0 rfl) ?_
      obtain ⟨M14, q13, hg⟩ := bd_e hg hne
      refine w_callv (va_runV (As := []) (rest := []) CX (ctX7_refresh l D sw cs ad X H.size M8  q13) (cwV 0 hts (gwV m2_72 m2_74 mp1_3 m1_1 m2_75) rfl rfl rfl (by decide +kernel) ⟨Nat.le_trans (Nat.le_of_ble_eq_true rfl) hR.1, Nat.le_trans (Nat.le_of_ble_eq_true rfl) hR.2⟩) (wPreV hSW hS hA hK hP hD (by decide) rfl rfl _) rfl rfl hl.1 rfl (lv_room (Nat.le_of_ble_eq_true rfl)) dX7_outputs_10 ⟨Nat.le_trans (Nat.le_of_ble_eq_true rfl) hRc.1, Nat.le_trans (Nat.le_of_ble_eq_true rfl) hRc.2⟩) hD hS hA (fun H locs hP hD hS => ?_)
      refine lv_aload_n hx hb dX7_outputs_13 rfl (lv_at hl 0 rfl) ?_
      refine lv_iload_n hx hb dX7_outputs_14 rfl (lv_at hl 1 rfl) ?_
      obtain ⟨o15, M16, q17, k18, v19⟩ := te_e hg hne
      refine t_callv (vx_runV (As := [.int a1]) (rest := []) CX (ctX7_checkNoError l hfl D sw cs ad X H.size M14 a1 q17) (cwV 1 hts (gwV m3_126 m3_128 mp2_15 m1_1 m3_129) rfl rfl rfl (by decide +kernel) ⟨Nat.le_trans (Nat.le_of_ble_eq_true rfl) hR.1, Nat.le_trans (Nat.le_of_ble_eq_true rfl) hR.2⟩) (wPreV hSW hS hA hK hP hD (by decide) rfl rfl _) rfl rfl hl.1 rfl (lv_room (Nat.le_of_ble_eq_true rfl)) dX7_outputs_15 ⟨Nat.le_trans (Nat.le_of_ble_eq_true rfl) hRc.1, Nat.le_trans (Nat.le_of_ble_eq_true rfl) hRc.2⟩) hD hS hA (fun k9 ho9 H locs ce9 q9 hP hD hS hce9 hcv9 hcl9 => ?_) (fun r20 ho9 H locs hP hD hS => ?_)
      · rw [hQ]
        exact vx_out (fun x9 h9 => (hnx x9 h9).elim) hlk hce9 hcv9 hcl9 (fun t9 ht9 ha9 => hXC k9 _ t9 (k18 k9 ho9) (by rw [ht9]; exact hP) (hS.F ht9)) hS.2.2 (by decide) (by decide)
      · have hg := v19 r20 ho9
        refine lv_aload_n hx hb dX7_outputs_18 rfl (lv_at hl 0 rfl) ?_
        refine m_gr (C := RX7) (T := TX7) (n := 5) (ci := 5) hx hb hts in_RX7 hown hK hP (by decide) rfl rfl 2 (by decide) rfl lk_25 (fun _ h9 => h9) dX7_outputs_19 ?_
        refine lv_iload_n hx hb dX7_outputs_22 rfl (lv_at hl 1 rfl) ?_
        obtain ⟨b21, hg⟩ := ck_e hg hne
        obtain ⟨v22, hv22, hg⟩ := lt_e hg
        have h23 := ix_lt b21 hv22
        refine m_lq (k := 13) hx hb hK hP (by decide) rfl b21 dX7_outputs_23 ?_
        rw [← hv22]
        refine m_gr (C := RX5) (T := TX5) (n := 5) (ci := 3) hx hb hts in_RX5 hown hK hP (kC_v0 h23) (LC_VAR v22) rfl 4 (by decide) rfl lk_169 (fun _ h9 => h9) dX7_outputs_24 ?_
        refine m_gi (C := RX3) (T := TX3) (n := 6) (ci := 1) hx hb hts in_RX3 hown hK hP (kC_v (j := 6) h23 (by decide)) (LC_RUN v22) rfl 5 (by decide) rfl lk_173 (fun _ h9 => h9) dX7_outputs_27 ?_
        refine W.widen (k := 3) (n := 18) (by decide) (by decide) ?_
        exact hret _ _ _ _ _ _ hg dX7_outputs_30 hP hD hS
theorem ctX7_outputs (l : Launch) (hfl : l.stackTraces = false) (D : va_G) (sw : Sw) (cs : Cs) (ad : Nat → Nat) (X : va_W) (sz : Nat) (M : Mm) (a1 : Int32) {o : Int32 ⊕ Nat} {M1 : Mm} (hq : gX7_outputs M a1 = some (o, M1)) : vx_Met l yX7_outputs wsX7_outputs ({ frames := 406, cells := 3, slots := 18, locals := 9729 }) (va_Pc [.ref (ad 0), .int a1] (wPre D sw cs LC NC ad M X sz)) (tQi D cs LC NC ad M1 X sz o) (tX D cs LC NC ad M1 X sz o) 3 18 (wA NC ad X sz) :=
  met_t rfl rfl (Nat.le_of_ble_eq_true rfl) (fun p e s m args below meth c ls CX hr hlk hnx hK hSW hP hD hS hA hsz hl => bX7_outputs M a1 hq (by simp) CX ⟨Nat.le_refl _, Nat.le_refl _⟩ rfl hfl hlk hnx (fun k M9 t he hB hF => ⟨(), trivial, ⟨⟨k, (Prod.mk.inj (Option.some.inj he)).1.symm, rfl⟩, wpost hB rfl (Prod.mk.inj (Option.some.inj he)).2⟩, hF⟩) hK hSW hP hD hS hA ⟨Nat.le_refl _, Nat.le_refl _⟩ hl (fun pc ls H locs v M9 hv dg hP hD hS => vx_ret (W.iret CX.1 CX.2.1 hr (fun t ht hW => ⟨⟨v, (), rfl, (Prod.mk.inj (Option.some.inj hv)).1.symm, wpost hP ht (Prod.mk.inj (Option.some.inj hv)).2⟩, hS.F ht⟩) hS.2.2 dg)))

abbrev wsX7_output : List Cond := Cond.code yX7_output cX7_output 4 (some .int) :: WG
def gX7_output (M : Mm) (a1 : Int32) (a2 : Int32) : Option ((Int32 ⊕ Nat) × Mm) := te (gX7_checkConfiguration M a1) fun r6 M2 => te (gX7_checkFinished M2 ) fun r12 M8 => bd (gX7_refresh M8 ) fun M14 => te (gX7_checkNoError M14 a1) fun r20 M16 => if (a1 < 0 ∨ 16 ≤ (a1).toNatClampNeg) then none else lt ((a1).toNatClampNeg) fun v22 => if a2 < 0 then (some (.inr 0, M16)) else if a2 < (M16 (vb v22 + 6) 5) then (if (a2 < 0 ∨ 80 ≤ (a2).toNatClampNeg) then none else some (.inl (M16 (vb v22 + 9) (a2).toNatClampNeg), M16)) else some (.inr 0, M16)
set_option maxHeartbeats 4000000 in
set_option maxRecDepth 100000 in
theorem bX7_output {p : Program} {l : Launch} {e : Env} {R : Room} {s : State} {m : MethodId} {args : Array Value} {below : List Frame} {meth : Method} {c : Code} {H : Heap} {locs : List Loc} {Q : State → Prop} {D : va_G} {sw : Sw} {cs : Cs} {ad : Nat → Nat} {X : va_W} {A : Nat → Prop} {Qc : Array Value → State → Outcome → State → Prop} {XC : String → State → State → Prop} (M : Mm) (a1 : Int32) (a2 : Int32) {res : Option ((Int32 ⊕ Nat) × Mm)} (hg : gX7_output M a1 a2 = res) (hne : res ≠ none) (CX : CallFix p m c cX7_output 4 s args wsX7_output RX7) (hR : 406 ≤ R.frames ∧ 9729 ≤ R.locals) (hQ : Q = vx_MQ below Qc XC args s 4 24 A) (hfl : l.stackTraces = false) (hlk : meth.locks = false) (hnx : ∀ x ∈ c.exceptionTable.toList, False) (hXC : ∀ (k : Nat) (M9 : Mm) (t : State), some (.inr k, M9) = res → va_P D vwCl (wl cs LC NC ad M9 ++ X) t.heap → va_F A s t → XC (exn k) s t) (hK : va_K D vwCl (tysC cs) s) (hSW : SW sw A s s.heap) (hP : va_P D vwCl (wl cs LC NC ad M ++ X) H) (hD : va_D A (wl cs LC NC ad M ++ X)) (hS : va_S A s.heap H locs) (hA : ∀ q, s.heap.size ≤ q → A q) (hRc : 4 ≤ R.cells ∧ 24 ≤ R.slots) {ls : Array Slot} (hl : lv_has ls 4 [(0, .ref (ad 0)), (1, .int a1), (2, .int a2)]) (hret : ∀ (pc : Nat) (ls : Array Slot) (H : Heap) (locs : List Loc) (v : Int32) (M9 : Mm), some (.inl v, M9) = res → decode cX7_output pc = .ok (.ireturn, 1) → va_P D vwCl (wl cs LC NC ad M9 ++ X) H → va_D A (wl cs LC NC ad M9 ++ X) → va_S A s.heap H locs → W p l e R s m args below meth c H locs 4 24 Q (F0 m pc ls [.int v])) : W p l e R s m args below meth c H locs 0 0 Q (F0 m 0 ls []) := by
  obtain ⟨hx, hb, hml, hown, hts⟩ := id CX
  have hw : ∀ w ∈ WG, w.before args s = true := fun w h => hts w (List.mem_cons_of_mem _ h)
  have lk_25 := hw _ m1_161
  have lk_169 := hw _ m1_147
  have lk_173 := hw _ m1_124
  have lk_180 := hw _ m1_122
  unfold gX7_output at hg
  refine lv_aload_n hx hb dX7_output_0 rfl (lv_at hl 0 rfl) ?_
  refine lv_iload_n hx hb dX7_output_1 rfl (lv_at hl 1 rfl) ?_
  obtain ⟨o1, M2, q3, k4, v5⟩ := te_e hg hne
  refine t_callv (vx_runV (As := [.int a1]) (rest := []) CX (ctX7_checkConfiguration l hfl D sw cs ad X H.size M a1 q3) (cwV 1 hts (gwV m3_62 m3_64 mp2_10 m1_1 m3_65) rfl rfl rfl (by decide +kernel) ⟨Nat.le_trans (Nat.le_of_ble_eq_true rfl) hR.1, Nat.le_trans (Nat.le_of_ble_eq_true rfl) hR.2⟩) (wPreV hSW hS hA hK hP hD (by decide) rfl rfl _) rfl rfl hl.1 rfl (lv_room (Nat.le_of_ble_eq_true rfl)) dX7_output_2 ⟨Nat.le_trans (Nat.le_of_ble_eq_true rfl) hRc.1, Nat.le_trans (Nat.le_of_ble_eq_true rfl) hRc.2⟩) hD hS hA (fun k9 ho9 H locs ce9 q9 hP hD hS hce9 hcv9 hcl9 => ?_) (fun r6 ho9 H locs hP hD hS => ?_)
  · rw [hQ]
    exact vx_out (fun x9 h9 => (hnx x9 h9).elim) hlk hce9 hcv9 hcl9 (fun t9 ht9 ha9 => hXC k9 _ t9 (k4 k9 ho9) (by rw [ht9]; exact hP) (hS.F ht9)) hS.2.2 (by decide) (by decide)
  · have hg := v5 r6 ho9
    refine lv_aload_n hx hb dX7_output_5 rfl (lv_at hl 0 rfl) ?_
    obtain ⟨o7, M8, q9, k10, v11⟩ := te_e hg hne
    refine t_callv (vx_runV (As := []) (rest := []) CX (ctX7_checkFinished l hfl D sw cs ad X H.size M2  q9) (cwV 0 hts (gwV m3_93 m3_95 mp2_13 m1_1 m3_96) rfl rfl rfl (by decide +kernel) ⟨Nat.le_trans (Nat.le_of_ble_eq_true rfl) hR.1, Nat.le_trans (Nat.le_of_ble_eq_true rfl) hR.2⟩) (wPreV hSW hS hA hK hP hD (by decide) rfl rfl _) rfl rfl hl.1 rfl (lv_room (Nat.le_of_ble_eq_true rfl)) dX7_output_6 ⟨Nat.le_trans (Nat.le_of_ble_eq_true rfl) hRc.1, Nat.le_trans (Nat.le_of_ble_eq_true rfl) hRc.2⟩) hD hS hA (fun k9 ho9 H locs ce9 q9 hP hD hS hce9 hcv9 hcl9 => ?_) (fun r12 ho9 H locs hP hD hS => ?_)
    · rw [hQ]
      exact vx_out (fun x9 h9 => (hnx x9 h9).elim) hlk hce9 hcv9 hcl9 (fun t9 ht9 ha9 => hXC k9 _ t9 (k10 k9 ho9) (by rw [ht9]; exact hP) (hS.F ht9)) hS.2.2 (by decide) (by decide)
    · have hg := v11 r12 ho9
      refine lv_aload_n hx hb dX7_output_9 rfl (lv_at hl 0 rfl) ?_
      obtain ⟨M14, q13, hg⟩ := bd_e hg hne
      refine w_callv (va_runV (As := []) (rest := []) CX (ctX7_refresh l D sw cs ad X H.size M8  q13) (cwV 0 hts (gwV m2_72 m2_74 mp1_3 m1_1 m2_75) rfl rfl rfl (by decide +kernel) ⟨Nat.le_trans (Nat.le_of_ble_eq_true rfl) hR.1, Nat.le_trans (Nat.le_of_ble_eq_true rfl) hR.2⟩) (wPreV hSW hS hA hK hP hD (by decide) rfl rfl _) rfl rfl hl.1 rfl (lv_room (Nat.le_of_ble_eq_true rfl)) dX7_output_10 ⟨Nat.le_trans (Nat.le_of_ble_eq_true rfl) hRc.1, Nat.le_trans (Nat.le_of_ble_eq_true rfl) hRc.2⟩) hD hS hA (fun H locs hP hD hS => ?_)
      refine lv_aload_n hx hb dX7_output_13 rfl (lv_at hl 0 rfl) ?_
      refine lv_iload_n hx hb dX7_output_14 rfl (lv_at hl 1 rfl) ?_
      obtain ⟨o15, M16, q17, k18, v19⟩ := te_e hg hne
      refine t_callv (vx_runV (As := [.int a1]) (rest := []) CX (ctX7_checkNoError l hfl D sw cs ad X H.size M14 a1 q17) (cwV 1 hts (gwV m3_126 m3_128 mp2_15 m1_1 m3_129) rfl rfl rfl (by decide +kernel) ⟨Nat.le_trans (Nat.le_of_ble_eq_true rfl) hR.1, Nat.le_trans (Nat.le_of_ble_eq_true rfl) hR.2⟩) (wPreV hSW hS hA hK hP hD (by decide) rfl rfl _) rfl rfl hl.1 rfl (lv_room (Nat.le_of_ble_eq_true rfl)) dX7_output_15 ⟨Nat.le_trans (Nat.le_of_ble_eq_true rfl) hRc.1, Nat.le_trans (Nat.le_of_ble_eq_true rfl) hRc.2⟩) hD hS hA (fun k9 ho9 H locs ce9 q9 hP hD hS hce9 hcv9 hcl9 => ?_) (fun r20 ho9 H locs hP hD hS => ?_)
      · rw [hQ]
        exact vx_out (fun x9 h9 => (hnx x9 h9).elim) hlk hce9 hcv9 hcl9 (fun t9 ht9 ha9 => hXC k9 _ t9 (k18 k9 ho9) (by rw [ht9]; exact hP) (hS.F ht9)) hS.2.2 (by decide) (by decide)
      · have hg := v19 r20 ho9
        refine lv_aload_n hx hb dX7_output_18 rfl (lv_at hl 0 rfl) ?_
        refine m_gr (C := RX7) (T := TX7) (n := 5) (ci := 5) hx hb hts in_RX7 hown hK hP (by decide) rfl rfl 2 (by decide) rfl lk_25 (fun _ h9 => h9) dX7_output_19 ?_
        refine lv_iload_n hx hb dX7_output_22 rfl (lv_at hl 1 rfl) ?_
        obtain ⟨b21, hg⟩ := ck_e hg hne
        obtain ⟨v22, hv22, hg⟩ := lt_e hg
        have h23 := ix_lt b21 hv22
        refine m_lq (k := 13) hx hb hK hP (by decide) rfl b21 dX7_output_23 ?_
        rw [← hv22]
        refine m_gr (C := RX5) (T := TX5) (n := 5) (ci := 3) hx hb hts in_RX5 hown hK hP (kC_v0 h23) (LC_VAR v22) rfl 4 (by decide) rfl lk_169 (fun _ h9 => h9) dX7_output_24 ?_
        refine lv_astore_n (lv' := [(3, .ref (ad (vb v22 + 6))), (0, .ref (ad 0)), (1, .int a1), (2, .int a2)]) hx hb dX7_output_27 rfl hl (by decide) rfl (fun ls hl => ?_)
        refine lv_iload_n hx hb dX7_output_28 rfl (lv_at hl 3 rfl) ?_
        refine lv_if_lt (tgt := 40) hx hb dX7_output_29 (by decide) (fun c24 => ?_) (fun c24 => ?_)
        · have hg := if_t hg c24
          rw [hQ]
          obtain ⟨sa, hsa⟩ := hSW.ms (178, "there is no such value") (List.mem_of_getElem? (i := 11) rfl)
          exact vx_throwS (cls := "java/lang/IllegalArgumentException") (names := exU) hx hb hfl hown (by decide) (by decide) (hw _ m1_191) (hw _ m1_15) hsa (ex_hat hw hSW (List.mem_of_getElem? (i := 0) rfl) ex0_1 ex0_2) ex0_3 hSW.us hSW.sp hS (hl.1.trans hml.symm) dX7_output_40 dX7_output_43 dX7_output_44 dX7_output_46 dX7_output_49 (fun x9 h9 => (hnx x9 h9).elim) (Nat.lt_of_lt_of_le (Nat.le_of_ble_eq_true rfl) hR.1) (Nat.le_trans (Nat.le_of_ble_eq_true rfl) hR.2) (Nat.le_trans (Nat.le_of_ble_eq_true rfl) hRc.1) (Nat.le_trans (Nat.le_of_ble_eq_true rfl) hRc.2) hlk (fun t9 ha9 hz9 hk9 => hXC 0 _ t9 hg (t_x hP hS hz9 hk9).1 (t_x hP hS hz9 hk9).2) hS.2.2 (by decide) (by decide)
        · have hg := if_f hg c24
          refine lv_iload_n hx hb dX7_output_32 rfl (lv_at hl 3 rfl) ?_
          refine lv_aload_n hx hb dX7_output_33 rfl (lv_at hl 0 rfl) ?_
          refine m_gi (C := RX3) (T := TX3) (n := 6) (ci := 1) hx hb hts in_RX3 hown hK hP (kC_v (j := 6) h23 (by decide)) (LC_RUN v22) rfl 5 (by decide) rfl lk_173 (fun _ h9 => h9) dX7_output_34 ?_
          refine lv_icmp_lt (tgt := 50) hx hb dX7_output_37 (by decide) (fun c25 => ?_) (fun c25 => ?_)
          · have hg := if_t hg c25
            refine lv_aload_n hx hb dX7_output_50 rfl (lv_at hl 0 rfl) ?_
            refine m_gr (C := RX3) (T := TX3) (n := 6) (ci := 1) hx hb hts in_RX3 hown hK hP (kC_v (j := 6) h23 (by decide)) (LC_RUN v22) rfl 4 (by decide) rfl lk_180 (fun _ h9 => h9) dX7_output_51 ?_
            refine lv_iload_n hx hb dX7_output_54 rfl (lv_at hl 3 rfl) ?_
            obtain ⟨b26, hg⟩ := ck_e hg hne
            refine m_ld hx hb hK hP (kC_v (j := 9) h23 (by decide)) (LC_ROUT v22) b26 dX7_output_55 ?_
            refine W.widen (k := 4) (n := 24) (by decide) (by decide) ?_
            exact hret _ _ _ _ _ _ hg dX7_output_56 hP hD hS
          · have hg := if_f hg c25
            rw [hQ]
            obtain ⟨sa, hsa⟩ := hSW.ms (178, "there is no such value") (List.mem_of_getElem? (i := 11) rfl)
            exact vx_throwS (cls := "java/lang/IllegalArgumentException") (names := exU) hx hb hfl hown (by decide) (by decide) (hw _ m1_191) (hw _ m1_15) hsa (ex_hat hw hSW (List.mem_of_getElem? (i := 0) rfl) ex0_1 ex0_2) ex0_3 hSW.us hSW.sp hS (hl.1.trans hml.symm) dX7_output_40 dX7_output_43 dX7_output_44 dX7_output_46 dX7_output_49 (fun x9 h9 => (hnx x9 h9).elim) (Nat.lt_of_lt_of_le (Nat.le_of_ble_eq_true rfl) hR.1) (Nat.le_trans (Nat.le_of_ble_eq_true rfl) hR.2) (Nat.le_trans (Nat.le_of_ble_eq_true rfl) hRc.1) (Nat.le_trans (Nat.le_of_ble_eq_true rfl) hRc.2) hlk (fun t9 ha9 hz9 hk9 => hXC 0 _ t9 hg (t_x hP hS hz9 hk9).1 (t_x hP hS hz9 hk9).2) hS.2.2 (by decide) (by decide)
theorem ctX7_output (l : Launch) (hfl : l.stackTraces = false) (D : va_G) (sw : Sw) (cs : Cs) (ad : Nat → Nat) (X : va_W) (sz : Nat) (M : Mm) (a1 : Int32) (a2 : Int32) {o : Int32 ⊕ Nat} {M1 : Mm} (hq : gX7_output M a1 a2 = some (o, M1)) : vx_Met l yX7_output wsX7_output ({ frames := 406, cells := 4, slots := 24, locals := 9729 }) (va_Pc [.ref (ad 0), .int a1, .int a2] (wPre D sw cs LC NC ad M X sz)) (tQi D cs LC NC ad M1 X sz o) (tX D cs LC NC ad M1 X sz o) 4 24 (wA NC ad X sz) :=
  met_t rfl rfl (Nat.le_of_ble_eq_true rfl) (fun p e s m args below meth c ls CX hr hlk hnx hK hSW hP hD hS hA hsz hl => bX7_output M a1 a2 hq (by simp) CX ⟨Nat.le_refl _, Nat.le_refl _⟩ rfl hfl hlk hnx (fun k M9 t he hB hF => ⟨(), trivial, ⟨⟨k, (Prod.mk.inj (Option.some.inj he)).1.symm, rfl⟩, wpost hB rfl (Prod.mk.inj (Option.some.inj he)).2⟩, hF⟩) hK hSW hP hD hS hA ⟨Nat.le_refl _, Nat.le_refl _⟩ hl (fun pc ls H locs v M9 hv dg hP hD hS => vx_ret (W.iret CX.1 CX.2.1 hr (fun t ht hW => ⟨⟨v, (), rfl, (Prod.mk.inj (Option.some.inj hv)).1.symm, wpost hP ht (Prod.mk.inj (Option.some.inj hv)).2⟩, hS.F ht⟩) hS.2.2 dg)))

abbrev wsX7_variable : List Cond := Cond.code yX7_variable cX7_variable 3 (some .int) :: WG
def gX7_variable (M : Mm) (a1 : Int32) (a2 : Int32) : Option ((Int32 ⊕ Nat) × Mm) := te (gX7_checkConfiguration M a1) fun r6 M2 => te (gX7_checkFinished M2 ) fun r12 M8 => bd (gX7_refresh M8 ) fun M14 => te (gX7_checkNoError M14 a1) fun r20 M16 => if a2 < 0 then (some (.inr 0, M16)) else if a2 < (4 : Int32) then (if (a1 < 0 ∨ 16 ≤ (a1).toNatClampNeg) then none else lt ((a1).toNatClampNeg) fun v24 => if (a2 < 0 ∨ 4 ≤ (a2).toNatClampNeg) then none else some (.inl (M16 (vb v24 + 8) (a2).toNatClampNeg), M16)) else some (.inr 0, M16)
set_option maxHeartbeats 4000000 in
set_option maxRecDepth 100000 in
theorem bX7_variable {p : Program} {l : Launch} {e : Env} {R : Room} {s : State} {m : MethodId} {args : Array Value} {below : List Frame} {meth : Method} {c : Code} {H : Heap} {locs : List Loc} {Q : State → Prop} {D : va_G} {sw : Sw} {cs : Cs} {ad : Nat → Nat} {X : va_W} {A : Nat → Prop} {Qc : Array Value → State → Outcome → State → Prop} {XC : String → State → State → Prop} (M : Mm) (a1 : Int32) (a2 : Int32) {res : Option ((Int32 ⊕ Nat) × Mm)} (hg : gX7_variable M a1 a2 = res) (hne : res ≠ none) (CX : CallFix p m c cX7_variable 3 s args wsX7_variable RX7) (hR : 406 ≤ R.frames ∧ 9729 ≤ R.locals) (hQ : Q = vx_MQ below Qc XC args s 4 24 A) (hfl : l.stackTraces = false) (hlk : meth.locks = false) (hnx : ∀ x ∈ c.exceptionTable.toList, False) (hXC : ∀ (k : Nat) (M9 : Mm) (t : State), some (.inr k, M9) = res → va_P D vwCl (wl cs LC NC ad M9 ++ X) t.heap → va_F A s t → XC (exn k) s t) (hK : va_K D vwCl (tysC cs) s) (hSW : SW sw A s s.heap) (hP : va_P D vwCl (wl cs LC NC ad M ++ X) H) (hD : va_D A (wl cs LC NC ad M ++ X)) (hS : va_S A s.heap H locs) (hA : ∀ q, s.heap.size ≤ q → A q) (hRc : 4 ≤ R.cells ∧ 24 ≤ R.slots) {ls : Array Slot} (hl : lv_has ls 3 [(0, .ref (ad 0)), (1, .int a1), (2, .int a2)]) (hret : ∀ (pc : Nat) (ls : Array Slot) (H : Heap) (locs : List Loc) (v : Int32) (M9 : Mm), some (.inl v, M9) = res → decode cX7_variable pc = .ok (.ireturn, 1) → va_P D vwCl (wl cs LC NC ad M9 ++ X) H → va_D A (wl cs LC NC ad M9 ++ X) → va_S A s.heap H locs → W p l e R s m args below meth c H locs 4 24 Q (F0 m pc ls [.int v])) : W p l e R s m args below meth c H locs 0 0 Q (F0 m 0 ls []) := by
  obtain ⟨hx, hb, hml, hown, hts⟩ := id CX
  have hw : ∀ w ∈ WG, w.before args s = true := fun w h => hts w (List.mem_cons_of_mem _ h)
  have lk_25 := hw _ m1_161
  have lk_169 := hw _ m1_147
  have lk_185 := hw _ m1_120
  unfold gX7_variable at hg
  refine lv_aload_n hx hb dX7_variable_0 rfl (lv_at hl 0 rfl) ?_
  refine lv_iload_n hx hb dX7_variable_1 rfl (lv_at hl 1 rfl) ?_
  obtain ⟨o1, M2, q3, k4, v5⟩ := te_e hg hne
  refine t_callv (vx_runV (As := [.int a1]) (rest := []) CX (ctX7_checkConfiguration l hfl D sw cs ad X H.size M a1 q3) (cwV 1 hts (gwV m3_62 m3_64 mp2_10 m1_1 m3_65) rfl rfl rfl (by decide +kernel) ⟨Nat.le_trans (Nat.le_of_ble_eq_true rfl) hR.1, Nat.le_trans (Nat.le_of_ble_eq_true rfl) hR.2⟩) (wPreV hSW hS hA hK hP hD (by decide) rfl rfl _) rfl rfl hl.1 rfl (lv_room (Nat.le_of_ble_eq_true rfl)) dX7_variable_2 ⟨Nat.le_trans (Nat.le_of_ble_eq_true rfl) hRc.1, Nat.le_trans (Nat.le_of_ble_eq_true rfl) hRc.2⟩) hD hS hA (fun k9 ho9 H locs ce9 q9 hP hD hS hce9 hcv9 hcl9 => ?_) (fun r6 ho9 H locs hP hD hS => ?_)
  · rw [hQ]
    exact vx_out (fun x9 h9 => (hnx x9 h9).elim) hlk hce9 hcv9 hcl9 (fun t9 ht9 ha9 => hXC k9 _ t9 (k4 k9 ho9) (by rw [ht9]; exact hP) (hS.F ht9)) hS.2.2 (by decide) (by decide)
  · have hg := v5 r6 ho9
    refine lv_aload_n hx hb dX7_variable_5 rfl (lv_at hl 0 rfl) ?_
    obtain ⟨o7, M8, q9, k10, v11⟩ := te_e hg hne
    refine t_callv (vx_runV (As := []) (rest := []) CX (ctX7_checkFinished l hfl D sw cs ad X H.size M2  q9) (cwV 0 hts (gwV m3_93 m3_95 mp2_13 m1_1 m3_96) rfl rfl rfl (by decide +kernel) ⟨Nat.le_trans (Nat.le_of_ble_eq_true rfl) hR.1, Nat.le_trans (Nat.le_of_ble_eq_true rfl) hR.2⟩) (wPreV hSW hS hA hK hP hD (by decide) rfl rfl _) rfl rfl hl.1 rfl (lv_room (Nat.le_of_ble_eq_true rfl)) dX7_variable_6 ⟨Nat.le_trans (Nat.le_of_ble_eq_true rfl) hRc.1, Nat.le_trans (Nat.le_of_ble_eq_true rfl) hRc.2⟩) hD hS hA (fun k9 ho9 H locs ce9 q9 hP hD hS hce9 hcv9 hcl9 => ?_) (fun r12 ho9 H locs hP hD hS => ?_)
    · rw [hQ]
      exact vx_out (fun x9 h9 => (hnx x9 h9).elim) hlk hce9 hcv9 hcl9 (fun t9 ht9 ha9 => hXC k9 _ t9 (k10 k9 ho9) (by rw [ht9]; exact hP) (hS.F ht9)) hS.2.2 (by decide) (by decide)
    · have hg := v11 r12 ho9
      refine lv_aload_n hx hb dX7_variable_9 rfl (lv_at hl 0 rfl) ?_
      obtain ⟨M14, q13, hg⟩ := bd_e hg hne
      refine w_callv (va_runV (As := []) (rest := []) CX (ctX7_refresh l D sw cs ad X H.size M8  q13) (cwV 0 hts (gwV m2_72 m2_74 mp1_3 m1_1 m2_75) rfl rfl rfl (by decide +kernel) ⟨Nat.le_trans (Nat.le_of_ble_eq_true rfl) hR.1, Nat.le_trans (Nat.le_of_ble_eq_true rfl) hR.2⟩) (wPreV hSW hS hA hK hP hD (by decide) rfl rfl _) rfl rfl hl.1 rfl (lv_room (Nat.le_of_ble_eq_true rfl)) dX7_variable_10 ⟨Nat.le_trans (Nat.le_of_ble_eq_true rfl) hRc.1, Nat.le_trans (Nat.le_of_ble_eq_true rfl) hRc.2⟩) hD hS hA (fun H locs hP hD hS => ?_)
      refine lv_aload_n hx hb dX7_variable_13 rfl (lv_at hl 0 rfl) ?_
      refine lv_iload_n hx hb dX7_variable_14 rfl (lv_at hl 1 rfl) ?_
      obtain ⟨o15, M16, q17, k18, v19⟩ := te_e hg hne
      refine t_callv (vx_runV (As := [.int a1]) (rest := []) CX (ctX7_checkNoError l hfl D sw cs ad X H.size M14 a1 q17) (cwV 1 hts (gwV m3_126 m3_128 mp2_15 m1_1 m3_129) rfl rfl rfl (by decide +kernel) ⟨Nat.le_trans (Nat.le_of_ble_eq_true rfl) hR.1, Nat.le_trans (Nat.le_of_ble_eq_true rfl) hR.2⟩) (wPreV hSW hS hA hK hP hD (by decide) rfl rfl _) rfl rfl hl.1 rfl (lv_room (Nat.le_of_ble_eq_true rfl)) dX7_variable_15 ⟨Nat.le_trans (Nat.le_of_ble_eq_true rfl) hRc.1, Nat.le_trans (Nat.le_of_ble_eq_true rfl) hRc.2⟩) hD hS hA (fun k9 ho9 H locs ce9 q9 hP hD hS hce9 hcv9 hcl9 => ?_) (fun r20 ho9 H locs hP hD hS => ?_)
      · rw [hQ]
        exact vx_out (fun x9 h9 => (hnx x9 h9).elim) hlk hce9 hcv9 hcl9 (fun t9 ht9 ha9 => hXC k9 _ t9 (k18 k9 ho9) (by rw [ht9]; exact hP) (hS.F ht9)) hS.2.2 (by decide) (by decide)
      · have hg := v19 r20 ho9
        refine lv_iload_n hx hb dX7_variable_18 rfl (lv_at hl 2 rfl) ?_
        refine lv_if_lt (tgt := 27) hx hb dX7_variable_19 (by decide) (fun c21 => ?_) (fun c21 => ?_)
        · have hg := if_t hg c21
          rw [hQ]
          obtain ⟨sa, hsa⟩ := hSW.ms (183, "there is no such variable") (List.mem_of_getElem? (i := 12) rfl)
          exact vx_throwS (cls := "java/lang/IllegalArgumentException") (names := exU) hx hb hfl hown (by decide) (by decide) (hw _ m1_191) (hw _ m1_15) hsa (ex_hat hw hSW (List.mem_of_getElem? (i := 0) rfl) ex0_1 ex0_2) ex0_3 hSW.us hSW.sp hS (hl.1.trans hml.symm) dX7_variable_27 dX7_variable_30 dX7_variable_31 dX7_variable_33 dX7_variable_36 (fun x9 h9 => (hnx x9 h9).elim) (Nat.lt_of_lt_of_le (Nat.le_of_ble_eq_true rfl) hR.1) (Nat.le_trans (Nat.le_of_ble_eq_true rfl) hR.2) (Nat.le_trans (Nat.le_of_ble_eq_true rfl) hRc.1) (Nat.le_trans (Nat.le_of_ble_eq_true rfl) hRc.2) hlk (fun t9 ha9 hz9 hk9 => hXC 0 _ t9 hg (t_x hP hS hz9 hk9).1 (t_x hP hS hz9 hk9).2) hS.2.2 (by decide) (by decide)
        · have hg := if_f hg c21
          refine lv_iload_n hx hb dX7_variable_22 rfl (lv_at hl 2 rfl) ?_
          refine lv_iconst (v := 4) hx hb dX7_variable_23 (by decide) ?_
          refine lv_icmp_lt (tgt := 37) hx hb dX7_variable_24 (by decide) (fun c22 => ?_) (fun c22 => ?_)
          · have hg := if_t hg c22
            refine lv_aload_n hx hb dX7_variable_37 rfl (lv_at hl 0 rfl) ?_
            refine m_gr (C := RX7) (T := TX7) (n := 5) (ci := 5) hx hb hts in_RX7 hown hK hP (by decide) rfl rfl 2 (by decide) rfl lk_25 (fun _ h9 => h9) dX7_variable_38 ?_
            refine lv_iload_n hx hb dX7_variable_41 rfl (lv_at hl 1 rfl) ?_
            obtain ⟨b23, hg⟩ := ck_e hg hne
            obtain ⟨v24, hv24, hg⟩ := lt_e hg
            have h25 := ix_lt b23 hv24
            refine m_lq (k := 13) hx hb hK hP (by decide) rfl b23 dX7_variable_42 ?_
            rw [← hv24]
            refine m_gr (C := RX5) (T := TX5) (n := 5) (ci := 3) hx hb hts in_RX5 hown hK hP (kC_v0 h25) (LC_VAR v24) rfl 4 (by decide) rfl lk_169 (fun _ h9 => h9) dX7_variable_43 ?_
            refine m_gr (C := RX3) (T := TX3) (n := 6) (ci := 1) hx hb hts in_RX3 hown hK hP (kC_v (j := 6) h25 (by decide)) (LC_RUN v24) rfl 3 (by decide) rfl lk_185 (fun _ h9 => h9) dX7_variable_46 ?_
            refine lv_iload_n hx hb dX7_variable_49 rfl (lv_at hl 2 rfl) ?_
            obtain ⟨b26, hg⟩ := ck_e hg hne
            refine m_ld hx hb hK hP (kC_v (j := 8) h25 (by decide)) (LC_RVARS v24) b26 dX7_variable_50 ?_
            refine W.widen (k := 4) (n := 24) (by decide) (by decide) ?_
            exact hret _ _ _ _ _ _ hg dX7_variable_51 hP hD hS
          · have hg := if_f hg c22
            rw [hQ]
            obtain ⟨sa, hsa⟩ := hSW.ms (183, "there is no such variable") (List.mem_of_getElem? (i := 12) rfl)
            exact vx_throwS (cls := "java/lang/IllegalArgumentException") (names := exU) hx hb hfl hown (by decide) (by decide) (hw _ m1_191) (hw _ m1_15) hsa (ex_hat hw hSW (List.mem_of_getElem? (i := 0) rfl) ex0_1 ex0_2) ex0_3 hSW.us hSW.sp hS (hl.1.trans hml.symm) dX7_variable_27 dX7_variable_30 dX7_variable_31 dX7_variable_33 dX7_variable_36 (fun x9 h9 => (hnx x9 h9).elim) (Nat.lt_of_lt_of_le (Nat.le_of_ble_eq_true rfl) hR.1) (Nat.le_trans (Nat.le_of_ble_eq_true rfl) hR.2) (Nat.le_trans (Nat.le_of_ble_eq_true rfl) hRc.1) (Nat.le_trans (Nat.le_of_ble_eq_true rfl) hRc.2) hlk (fun t9 ha9 hz9 hk9 => hXC 0 _ t9 hg (t_x hP hS hz9 hk9).1 (t_x hP hS hz9 hk9).2) hS.2.2 (by decide) (by decide)
theorem ctX7_variable (l : Launch) (hfl : l.stackTraces = false) (D : va_G) (sw : Sw) (cs : Cs) (ad : Nat → Nat) (X : va_W) (sz : Nat) (M : Mm) (a1 : Int32) (a2 : Int32) {o : Int32 ⊕ Nat} {M1 : Mm} (hq : gX7_variable M a1 a2 = some (o, M1)) : vx_Met l yX7_variable wsX7_variable ({ frames := 406, cells := 4, slots := 24, locals := 9729 }) (va_Pc [.ref (ad 0), .int a1, .int a2] (wPre D sw cs LC NC ad M X sz)) (tQi D cs LC NC ad M1 X sz o) (tX D cs LC NC ad M1 X sz o) 4 24 (wA NC ad X sz) :=
  met_t rfl rfl (Nat.le_of_ble_eq_true rfl) (fun p e s m args below meth c ls CX hr hlk hnx hK hSW hP hD hS hA hsz hl => bX7_variable M a1 a2 hq (by simp) CX ⟨Nat.le_refl _, Nat.le_refl _⟩ rfl hfl hlk hnx (fun k M9 t he hB hF => ⟨(), trivial, ⟨⟨k, (Prod.mk.inj (Option.some.inj he)).1.symm, rfl⟩, wpost hB rfl (Prod.mk.inj (Option.some.inj he)).2⟩, hF⟩) hK hSW hP hD hS hA ⟨Nat.le_refl _, Nat.le_refl _⟩ hl (fun pc ls H locs v M9 hv dg hP hD hS => vx_ret (W.iret CX.1 CX.2.1 hr (fun t ht hW => ⟨⟨v, (), rfl, (Prod.mk.inj (Option.some.inj hv)).1.symm, wpost hP ht (Prod.mk.inj (Option.some.inj hv)).2⟩, hS.F ht⟩) hS.2.2 dg)))
