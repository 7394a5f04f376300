abbrev wsX7_gain : List Cond := Cond.code yX7_gain cX7_gain 4 (some .double) :: WG
def gX7_gain_L23 (E15 : Mm → Int32 → Int32 → Option ((UInt64 ⊕ Nat) × Mm)) : Nat → Mm → Int32 → Int32 → Int32 → Option ((UInt64 ⊕ Nat) × Mm)
  | 0, _, _, _, _ => none
  | n21 + 1, M17, x18, x19, x20 => if (16 : Int32) ≤ x20 then (E15 M17 x18 x19) else if (x20 < 0 ∨ 16 ≤ (x20).toNatClampNeg) then none else lt ((x20).toNatClampNeg) fun v24 => lt (x19 + (M17 (vb v24 + 3) 3)) fun x26 => lt (x20 + (1 : Int32)) fun x27 => gX7_gain_L23 E15 n21 M17 x18 x26 x27
def gX7_gain (M : Mm) : Option ((UInt64 ⊕ Nat) × Mm) := te (gX7_checkFinished M ) fun r6 M2 => bd (gX7_refresh M2 ) fun M8 => bd (gX7_sumOfGroups M8 ) fun r9 => if r9 = 0 then (some (.inl FP.dconst0, M8)) else lt (fun (M12 : Mm) (x13 : Int32) (x14 : Int32) => if ¬ ((FP.ddiv (FP.i2d x14) (FP.i2d x13)) &&& 0x7fffffffffffffff ≤ (0x7ff0000000000000 : UInt64)) then none else some (.inl (FP.ddiv (FP.i2d x14) (FP.i2d x13)), M12)) fun E15 => gX7_gain_L23 E15 FU M8 r9 (0 : Int32) (0 : Int32)
set_option maxHeartbeats 4000000 in
set_option maxRecDepth 100000 in
theorem bX7_gain {p : Program} {l : Launch} {e : Env} {R : Room} {s : State} {m : MethodId} {args : Array Value} {below : List Frame} {meth : Method} {c : Code} {H : Heap} {locs : List Loc} {Q : State → Prop} {D : va_G} {sw : Sw} {cs : Cs} {ad : Nat → Nat} {X : va_W} {A : Nat → Prop} {Qc : Array Value → State → Outcome → State → Prop} {XC : String → State → State → Prop} (M : Mm) {res : Option ((UInt64 ⊕ Nat) × Mm)} (hg : gX7_gain M = res) (hne : res ≠ none) (CX : CallFix p m c cX7_gain 4 s args wsX7_gain RX7) (hR : 406 ≤ R.frames ∧ 9729 ≤ R.locals) (hQ : Q = vx_MQ below Qc XC args s 1 6 A) (hfl : l.stackTraces = false) (hlk : meth.locks = false) (hnx : ∀ x ∈ c.exceptionTable.toList, False) (hXC : ∀ (k : Nat) (M9 : Mm) (t : State), some (.inr k, M9) = res → va_P D vwCl (wl cs LC NC ad M9 ++ X) t.heap → va_F A s t → XC (exn k) s t) (hK : va_K D vwCl (tysC cs) s) (hSW : SW sw A s s.heap) (hP : va_P D vwCl (wl cs LC NC ad M ++ X) H) (hD : va_D A (wl cs LC NC ad M ++ X)) (hS : va_S A s.heap H locs) (hA : ∀ q, s.heap.size ≤ q → A q) (hRc : 1 ≤ R.cells ∧ 6 ≤ R.slots) {ls : Array Slot} (hl : lv_has ls 4 [(0, .ref (ad 0))]) (hret : ∀ (pc : Nat) (ls : Array Slot) (H : Heap) (locs : List Loc) (v : UInt64) (M9 : Mm), some (.inl v, M9) = res → decode cX7_gain pc = .ok (.dreturn, 1) → va_P D vwCl (wl cs LC NC ad M9 ++ X) H → va_D A (wl cs LC NC ad M9 ++ X) → va_S A s.heap H locs → W p l e R s m args below meth c H locs 1 6 Q (F0 m pc ls [.double v])) : W p l e R s m args below meth c H locs 0 0 Q (F0 m 0 ls []) := by
  obtain ⟨hx, hb, hml, hown, hts⟩ := id CX
  have hw : ∀ w ∈ WG, w.before args s = true := fun w h => hts w (List.mem_cons_of_mem _ h)
  have lk_25 := hw _ m1_163
  have lk_148 := hw _ m1_147
  have lk_160 := hw _ m1_98
  unfold gX7_gain at hg
  refine lv_aload_n hx hb dX7_gain_0 rfl (lv_at hl 0 rfl) ?_
  obtain ⟨o1, M2, q3, k4, v5⟩ := te_e hg hne
  refine t_callv (vx_runV (As := []) (rest := []) CX (ctX7_checkFinished l hfl D sw cs ad X H.size M  q3) (cwV 0 hts (gwV m3_235 m3_237 mp3_0 m1_1 m3_238) rfl rfl rfl (by decide +kernel) ⟨Nat.le_trans (Nat.le_of_ble_eq_true rfl) hR.1, Nat.le_trans (Nat.le_of_ble_eq_true rfl) hR.2⟩) (wPreV hSW hS hA hK hP hD (by decide) rfl rfl _) rfl rfl hl.1 rfl (lv_room (Nat.le_of_ble_eq_true rfl)) dX7_gain_1 ⟨Nat.le_trans (Nat.le_of_ble_eq_true rfl) hRc.1, Nat.le_trans (Nat.le_of_ble_eq_true rfl) hRc.2⟩) hD hS hA (fun k9 ho9 H locs ce9 q9 hP hD hS hce9 hcv9 hcl9 => ?_) (fun r6 ho9 H locs hP hD hS => ?_)
  · rw [hQ]
    exact vx_out (fun x9 h9 => (hnx x9 h9).elim) hlk hce9 hcv9 hcl9 (fun t9 ht9 ha9 => hXC k9 _ t9 (k4 k9 ho9) (by rw [ht9]; exact hP) (hS.F ht9)) hS.2.2 (by decide) (by decide)
  · have hg := v5 r6 ho9
    refine lv_aload_n hx hb dX7_gain_4 rfl (lv_at hl 0 rfl) ?_
    obtain ⟨M8, q7, hg⟩ := bd_e hg hne
    refine w_callv (va_runV (As := []) (rest := []) CX (ctX7_refresh l D sw cs ad X H.size M2  q7) (cwV 0 hts (gwV m1_196 m1_198 mp1_0 m1_1 m1_199) rfl rfl rfl (by decide +kernel) ⟨Nat.le_trans (Nat.le_of_ble_eq_true rfl) hR.1, Nat.le_trans (Nat.le_of_ble_eq_true rfl) hR.2⟩) (wPreV hSW hS hA hK hP hD (by decide) rfl rfl _) rfl rfl hl.1 rfl (lv_room (Nat.le_of_ble_eq_true rfl)) dX7_gain_5 ⟨Nat.le_trans (Nat.le_of_ble_eq_true rfl) hRc.1, Nat.le_trans (Nat.le_of_ble_eq_true rfl) hRc.2⟩) hD hS hA (fun H locs hP hD hS => ?_)
    refine lv_aload_n hx hb dX7_gain_8 rfl (lv_at hl 0 rfl) ?_
    obtain ⟨r9, q10, hg⟩ := bd_e hg hne
    refine r_calli (W.runV (As := []) (rest := []) CX (ctX7_sumOfGroups l D sw cs ad X M8  q10) (cwV 0 hts (gwV m4_28 m4_30 mp3_1 m1_1 m4_31) rfl rfl rfl (by decide +kernel) ⟨Nat.le_trans (Nat.le_of_ble_eq_true rfl) hR.1, Nat.le_trans (Nat.le_of_ble_eq_true rfl) hR.2⟩) (rPreV (hSW.wr hS) hK hP (by decide) rfl rfl _) rfl rfl hl.1 rfl (lv_room (Nat.le_of_ble_eq_true rfl)) dX7_gain_9 ⟨Nat.le_trans (Nat.le_of_ble_eq_true rfl) hRc.1, Nat.le_trans (Nat.le_of_ble_eq_true rfl) hRc.2⟩) ?_
    refine lv_istore_n (lv' := [(1, .int r9), (0, .ref (ad 0))]) hx hb dX7_gain_12 rfl hl (by decide) rfl (fun ls hl => ?_)
    refine lv_iload_n hx hb dX7_gain_13 rfl (lv_at hl 0 rfl) ?_
    refine lv_if_ne (tgt := 19) hx hb dX7_gain_14 (by decide) (fun c11 => ?_) (fun c11 => ?_)
    · have hg := if_f hg c11
      refine lv_iconst (v := 0) hx hb dX7_gain_19 (by decide) ?_
      refine lv_istore_n (lv' := [(2, .int (0 : Int32)), (1, .int r9), (0, .ref (ad 0))]) hx hb dX7_gain_20 rfl hl (by decide) rfl (fun ls hl => ?_)
      refine lv_iconst (v := 0) hx hb dX7_gain_21 (by decide) ?_
      refine lv_istore_n (lv' := [(3, .int (0 : Int32)), (2, .int (0 : Int32)), (1, .int r9), (0, .ref (ad 0))]) hx hb dX7_gain_22 rfl hl (by decide) rfl (fun ls hl => ?_)
      obtain ⟨E15, hE15, hg⟩ := lf3 hg
      have kE15 : ∀ (M12 : Mm) (x13 : Int32) (x14 : Int32) (H : Heap) (locs : List Loc) (ls : Array Slot), va_P D vwCl (wl cs LC NC ad M12 ++ X) H → va_D A (wl cs LC NC ad M12 ++ X) → va_S A s.heap H locs → lv_has ls 4 [(1, .int x13), (2, .int x14)] → E15 M12 x13 x14 = res → W p l e R s m args below meth c H locs (0 + 1) (0 + 6) Q (F0 m 50 ls []) := by
        intro M12 x13 x14 H locs ls hP hD hS hl hg
        rw [hE15] at hg
        refine lv_iload_n hx hb dX7_gain_50 rfl (lv_at hl 1 rfl) ?_
        refine lv_i2d hx hb dX7_gain_51 ?_
        refine lv_iload_n hx hb dX7_gain_52 rfl (lv_at hl 0 rfl) ?_
        refine lv_i2d hx hb dX7_gain_53 ?_
        obtain ⟨b16, hg⟩ := ck_e hg hne
        refine lv_ddiv hx hb dX7_gain_54 (dn64 b16) ?_
        refine W.widen (k := 1) (n := 6) (by decide) (by decide) ?_
        exact hret _ _ _ _ _ _ hg dX7_gain_55 hP hD hS
      have kL23_28 : ∀ (n21 : Nat) (M17 : Mm) (x18 : Int32) (x19 : Int32) (x20 : Int32) (H : Heap) (locs : List Loc) (ls : Array Slot), va_P D vwCl (wl cs LC NC ad M17 ++ X) H → va_D A (wl cs LC NC ad M17 ++ X) → va_S A s.heap H locs → lv_has ls 4 [(0, .ref (ad 0)), (1, .int x18), (2, .int x19), (3, .int x20)] → gX7_gain_L23 E15 n21 M17 x18 x19 x20 = res → W p l e R s m args below meth c H locs (0 + 1) (0 + 6) Q (F0 m 23 ls []) := by
        intro n21
        induction n21 with
        | zero =>
          intro M17 x18 x19 x20 H locs ls hP hD hS hl hg
          rw [gX7_gain_L23] at hg
          exact absurd hg.symm hne
        | succ n21 ih =>
          intro M17 x18 x19 x20 H locs ls hP hD hS hl hg
          rw [gX7_gain_L23] at hg
          refine lv_iload_n hx hb dX7_gain_23 rfl (lv_at hl 3 rfl) ?_
          refine lv_bipush (v := 16) hx hb dX7_gain_24 (by decide) ?_
          refine lv_icmp_ge (tgt := 50) hx hb dX7_gain_26 (by decide) (fun c22 => ?_) (fun c22 => ?_)
          · have hg := if_t hg c22
            exact kE15 _ _ _ _ _ _ hP hD hS (lv_sub hl [1, 2] rfl) hg
          · have hg := if_f hg c22
            refine lv_iload_n hx hb dX7_gain_29 rfl (lv_at hl 2 rfl) ?_
            refine lv_aload_n hx hb dX7_gain_30 rfl (lv_at hl 0 rfl) ?_
            refine m_gr (C := RX7) (T := TX7) (n := 5) (ci := 5) hx hb hts in_RX7 hown hK hP (by decide) rfl rfl 2 (by decide) rfl lk_25 (fun _ h9 => h9) dX7_gain_31 ?_
            refine lv_iload_n hx hb dX7_gain_34 rfl (lv_at hl 3 rfl) ?_
            obtain ⟨b23, hg⟩ := ck_e hg hne
            obtain ⟨v24, hv24, hg⟩ := lt_e hg
            have h25 := ix_lt b23 hv24
            refine m_lq (k := 13) hx hb hK hP (by decide) rfl b23 dX7_gain_35 ?_
            rw [← hv24]
            refine m_gr (C := RX5) (T := TX5) (n := 5) (ci := 3) hx hb hts in_RX5 hown hK hP (kC_v0 h25) (LC_VAR v24) rfl 3 (by decide) rfl lk_148 (fun _ h9 => h9) dX7_gain_36 ?_
            refine m_gi (C := RX1) (T := TX1) (n := 5) (ci := 0) hx hb hts in_RX1 hown hK hP (kC_v (j := 3) h25 (by decide)) (LC_RDG v24) rfl 3 (by decide) rfl lk_160 (fun _ h9 => h9) dX7_gain_39 ?_
            refine lv_iadd hx hb dX7_gain_42 ?_
            obtain ⟨x26, hx26, hg⟩ := lt_e hg
            refine top_i hx26 ?_
            refine lv_istore_n (lv' := [(2, .int x26), (0, .ref (ad 0)), (1, .int x18), (3, .int x20)]) hx hb dX7_gain_43 rfl hl (by decide) rfl (fun ls hl => ?_)
            obtain ⟨x27, hx27, hg⟩ := lt_e hg
            refine lv_iinc (v := x27) (lv' := [(3, .int x27), (2, .int x26), (0, .ref (ad 0)), (1, .int x18)]) hx hb dX7_gain_44 hl (k := 3) rfl (hx27.symm) (by decide) rfl (fun ls hl => ?_)
            refine lv_goto (tgt := 23) hx hb dX7_gain_47 (by decide) ?_
            exact ih _ _ _ _ _ _ _ hP hD hS (lv_sub hl [2, 3, 1, 0] rfl) hg
      exact kL23_28 FU _ _ _ _ _ _ _ hP hD hS (lv_sub hl [3, 2, 1, 0] rfl) hg
    · have hg := if_t hg c11
      refine lv_dconst0 hx hb dX7_gain_17 ?_
      refine W.widen (k := 1) (n := 6) (by decide) (by decide) ?_
      exact hret _ _ _ _ _ _ hg dX7_gain_18 hP hD hS
theorem ctX7_gain (l : Launch) (hfl : l.stackTraces = false) (D : va_G) (sw : Sw) (cs : Cs) (ad : Nat → Nat) (X : va_W) (sz : Nat) (M : Mm) {o : UInt64 ⊕ Nat} {M1 : Mm} (hq : gX7_gain M = some (o, M1)) : vx_Met l yX7_gain wsX7_gain ({ frames := 406, cells := 1, slots := 6, locals := 9729 }) (va_Pc [.ref (ad 0)] (wPre D sw cs LC NC ad M X sz)) (tQd D cs LC NC ad M1 X sz o) (tX D cs LC NC ad M1 X sz o) 1 6 (wA NC ad X sz) :=
  met_t rfl rfl (Nat.le_of_ble_eq_true rfl) (fun p e s m args below meth c ls CX hr hlk hnx hK hSW hP hD hS hA hsz hl => bX7_gain M hq (by simp) CX ⟨Nat.le_refl _, Nat.le_refl _⟩ rfl hfl hlk hnx (fun k M9 t he hB hF => ⟨(), trivial, ⟨⟨k, (Prod.mk.inj (Option.some.inj he)).1.symm, rfl⟩, wpost hB rfl (Prod.mk.inj (Option.some.inj he)).2⟩, hF⟩) hK hSW hP hD hS hA ⟨Nat.le_refl _, Nat.le_refl _⟩ hl (fun pc ls H locs v M9 hv dg hP hD hS => vx_ret (W.dret CX.1 CX.2.1 hr (fun t ht hW => ⟨⟨v, (), rfl, (Prod.mk.inj (Option.some.inj hv)).1.symm, wpost hP ht (Prod.mk.inj (Option.some.inj hv)).2⟩, hS.F ht⟩) hS.2.2 dg)))

abbrev wsX8_gain : List Cond := Cond.code yX8_gain cX8_gain 4 (some .double) :: WG
def gX8_gain_L41 (E28 : Mm → Int32 → Int32 → Option (UInt64 × Mm)) : Nat → Mm → Int32 → Int32 → Int32 → Option (UInt64 × Mm)
  | 0, _, _, _, _ => none
  | n34 + 1, M30, x31, x32, x33 => if (M30 0 1) ≤ x33 then (E28 M30 x31 x32) else bd (gX8_isToken M30 x33) fun r36 => if r36 = 0 then (lt (x33 + (1 : Int32)) fun x39 => gX8_gain_L41 E28 n34 M30 (x31 + (0 : Int32)) x32 x39) else if (x33 < 0 ∨ 80 ≤ (x33).toNatClampNeg) then none else if (gX8_has (M30 2 (x33).toNatClampNeg) x32) = 0 then (lt (x33 + (1 : Int32)) fun x42 => gX8_gain_L41 E28 n34 M30 (x31 + (0 : Int32)) x32 x42) else if (x32 < 0 ∨ 16 ≤ (x32).toNatClampNeg) then none else if (M30 6 (x32).toNatClampNeg) = (-1 : Int32) then (lt (x33 + (1 : Int32)) fun x45 => gX8_gain_L41 E28 n34 M30 (x31 + (1 : Int32)) x32 x45) else if (x32 < 0 ∨ 16 ≤ (x32).toNatClampNeg) then none else if (M30 6 (x32).toNatClampNeg) < x33 then (lt (x33 + (1 : Int32)) fun x48 => gX8_gain_L41 E28 n34 M30 (x31 + (0 : Int32)) x32 x48) else lt (x33 + (1 : Int32)) fun x49 => gX8_gain_L41 E28 n34 M30 (x31 + (1 : Int32)) x32 x49
def gX8_gain_L33 (E13 : Mm → Int32 → Option (UInt64 × Mm)) : Nat → Mm → Int32 → Int32 → Option (UInt64 × Mm)
  | 0, _, _, _ => none
  | n23 + 1, M20, x21, x22 => if (16 : Int32) ≤ x22 then (E13 M20 x21) else lt (fun (M25 : Mm) (x26 : Int32) (x27 : Int32) => lt (x27 + (1 : Int32)) fun x29 => gX8_gain_L33 E13 n23 M25 x26 x29) fun E28 => gX8_gain_L41 E28 FU M20 x21 x22 (0 : Int32)
def gX8_gain (M : Mm) : Option (UInt64 × Mm) := bd (gX8_isWhole M ) fun r1 => lt (fun (M4 : Mm) (s5 : Int32) => lt (um M4 0 0 s5) fun M7 => if (M7 0 0) = 0 then (bd (gX8_read M7 ) fun M10 => lt (fun (M11 : Mm) (x12 : Int32) => bd (gX8_sumOfGroups M11 ) fun r14 => if r14 = 0 then (some (FP.dconst0, M11)) else bd (gX8_sumOfGroups M11 ) fun r17 => if ¬ ((FP.ddiv (FP.i2d x12) (FP.i2d r17)) &&& 0x7fffffffffffffff ≤ (0x7ff0000000000000 : UInt64)) then none else some ((FP.ddiv (FP.i2d x12) (FP.i2d r17)), M11)) fun E13 => gX8_gain_L33 E13 FU M10 (0 : Int32) (0 : Int32)) else some (FP.dconst0, M7)) fun J6 => if r1 = 0 then (J6 M (1 : Int32)) else J6 M (0 : Int32)
set_option maxHeartbeats 4000000 in
set_option maxRecDepth 100000 in
theorem bX8_gain {p : Program} {l : Launch} {e : Env} {R : Room} {s : State} {m : MethodId} {args : Array Value} {below : List Frame} {meth : Method} {c : Code} {H : Heap} {locs : List Loc} {Q : State → Prop} {D : va_G} {sw : Sw} {cs : Cs} {ad : Nat → Nat} {X : va_W} {A : Nat → Prop} (M : Mm) {res : Option (UInt64 × Mm)} (hg : gX8_gain M = res) (hne : res ≠ none) (CX : CallFix p m c cX8_gain 4 s args wsX8_gain RX8) (hR : 6 ≤ R.frames ∧ 131 ≤ R.locals) (hK : va_K D vwCl (tysC cs) s) (hSW : SW sw A s s.heap) (hP : va_P D vwCl (wl cs LM NM ad M ++ X) H) (hD : va_D A (wl cs LM NM ad M ++ X)) (hS : va_S A s.heap H locs) (hA : ∀ q, s.heap.size ≤ q → A q) (hRc : 3 ≤ R.cells ∧ 14 ≤ R.slots) {ls : Array Slot} (hl : lv_has ls 4 [(0, .ref (ad 0))]) (hret : ∀ (pc : Nat) (ls : Array Slot) (H : Heap) (locs : List Loc) (v : UInt64) (M9 : Mm), some (v, M9) = res → decode cX8_gain pc = .ok (.dreturn, 1) → va_P D vwCl (wl cs LM NM ad M9 ++ X) H → va_D A (wl cs LM NM ad M9 ++ X) → va_S A s.heap H locs → W p l e R s m args below meth c H locs 3 14 Q (F0 m pc ls [.double v])) : W p l e R s m args below meth c H locs 0 0 Q (F0 m 0 ls []) := by
  obtain ⟨hx, hb, hml, hown, hts⟩ := id CX
  have hw : ∀ w ∈ WG, w.before args s = true := fun w h => hts w (List.mem_cons_of_mem _ h)
  have lk_43 := hw _ m4_116
  have lk_47 := hw _ m4_117
  have lk_13 := hw _ m4_119
  have lk_25 := hw _ m4_123
  unfold gX8_gain at hg
  refine lv_aload_n hx hb dX8_gain_0 rfl (lv_at hl 0 rfl) ?_
  refine lv_aload_n hx hb dX8_gain_1 rfl (lv_at hl 0 rfl) ?_
  obtain ⟨r1, q2, hg⟩ := bd_e hg hne
  refine r_calli (W.runV (As := []) (rest := [.ref (ad 0)]) CX (ctX8_isWhole l D sw cs ad X M  q2) (cwV 0 hts (gwV m5_117 m5_119 mp3_15 m1_7 m5_120) rfl rfl rfl (by decide +kernel) ⟨Nat.le_trans (Nat.le_of_ble_eq_true rfl) hR.1, Nat.le_trans (Nat.le_of_ble_eq_true rfl) hR.2⟩) (rPreV (hSW.wr hS) hK hP (by decide) rfl rfl _) rfl rfl hl.1 rfl (lv_room (Nat.le_of_ble_eq_true rfl)) dX8_gain_2 ⟨Nat.zero_le _, Nat.zero_le _⟩) ?_
  obtain ⟨J6, hJ6, hg⟩ := lf2 hg
  have kJ6 : ∀ (M4 : Mm) (s5 : Int32) (H : Heap) (locs : List Loc) (ls : Array Slot), va_P D vwCl (wl cs LM NM ad M4 ++ X) H → va_D A (wl cs LM NM ad M4 ++ X) → va_S A s.heap H locs → lv_has ls 4 [(0, .ref (ad 0))] → J6 M4 s5 = res → W p l e R s m args below meth c H locs 0 0 Q (F0 m 13 ls [.int s5, .ref (ad 0)]) := by
    intro M4 s5 H locs ls hP hD hS hl hg
    rw [hJ6] at hg
    obtain ⟨M7, hM7, hg⟩ := lt_e hg
    refine m_pi (C := RX8) (T := TX8) (n := 15) (ci := 6) hx hb hts in_RX8 tyX8 tyX8_ok nmX8 hown hK hP hD hS (by decide) rfl rfl 0 (by decide) rfl lk_43 (fun _ h9 => h9) rfl rfl rfl dX8_gain_13 hM7 (fun H locs hP hD hS => ?_)
    refine lv_aload_n hx hb dX8_gain_16 rfl (lv_at hl 0 rfl) ?_
    refine m_gi (C := RX8) (T := TX8) (n := 15) (ci := 6) hx hb hts in_RX8 hown hK hP (by decide) rfl rfl 0 (by decide) rfl lk_43 (fun _ h9 => h9) dX8_gain_17 ?_
    refine lv_if_eq (tgt := 25) hx hb dX8_gain_20 (by decide) (fun c8 => ?_) (fun c8 => ?_)
    · have hg := if_t hg c8
      refine lv_aload_n hx hb dX8_gain_25 rfl (lv_at hl 0 rfl) ?_
      obtain ⟨M10, q9, hg⟩ := bd_e hg hne
      refine w_callv (va_runV (As := []) (rest := []) CX (ctX8_read l D sw cs ad X H.size M7  q9) (cwV 0 hts (gwV m5_121 m5_123 mp4_0 m1_7 m5_124) rfl rfl rfl (by decide +kernel) ⟨Nat.le_trans (Nat.le_of_ble_eq_true rfl) hR.1, Nat.le_trans (Nat.le_of_ble_eq_true rfl) hR.2⟩) (wPreV hSW hS hA hK hP hD (by decide) rfl rfl _) rfl rfl hl.1 rfl (lv_room (Nat.le_of_ble_eq_true rfl)) dX8_gain_26 ⟨Nat.le_trans (Nat.le_of_ble_eq_true rfl) hRc.1, Nat.le_trans (Nat.le_of_ble_eq_true rfl) hRc.2⟩) hD hS hA (fun H locs hP hD hS => ?_)
      refine lv_iconst (v := 0) hx hb dX8_gain_29 (by decide) ?_
      refine lv_istore_n (lv' := [(1, .int (0 : Int32)), (0, .ref (ad 0))]) hx hb dX8_gain_30 rfl hl (by decide) rfl (fun ls hl => ?_)
      refine lv_iconst (v := 0) hx hb dX8_gain_31 (by decide) ?_
      refine lv_istore_n (lv' := [(2, .int (0 : Int32)), (1, .int (0 : Int32)), (0, .ref (ad 0))]) hx hb dX8_gain_32 rfl hl (by decide) rfl (fun ls hl => ?_)
      obtain ⟨E13, hE13, hg⟩ := lf2 hg
      have kE13 : ∀ (M11 : Mm) (x12 : Int32) (H : Heap) (locs : List Loc) (ls : Array Slot), va_P D vwCl (wl cs LM NM ad M11 ++ X) H → va_D A (wl cs LM NM ad M11 ++ X) → va_S A s.heap H locs → lv_has ls 4 [(0, .ref (ad 0)), (1, .int x12)] → E13 M11 x12 = res → W p l e R s m args below meth c H locs (0 + 3) (0 + 14) Q (F0 m 110 ls []) := by
        intro M11 x12 H locs ls hP hD hS hl hg
        rw [hE13] at hg
        refine lv_aload_n hx hb dX8_gain_110 rfl (lv_at hl 0 rfl) ?_
        obtain ⟨r14, q15, hg⟩ := bd_e hg hne
        refine r_calli (W.runV (As := []) (rest := []) CX (ctX8_sumOfGroups l D sw cs ad X M11  q15) (cwV 0 hts (gwV m5_175 m5_177 mp4_8 m1_7 m5_178) rfl rfl rfl (by decide +kernel) ⟨Nat.le_trans (Nat.le_of_ble_eq_true rfl) hR.1, Nat.le_trans (Nat.le_of_ble_eq_true rfl) hR.2⟩) (rPreV (hSW.wr hS) hK hP (by decide) rfl rfl _) rfl rfl hl.1 rfl (lv_room (Nat.le_of_ble_eq_true rfl)) dX8_gain_111 ⟨Nat.le_trans (Nat.le_of_ble_eq_true rfl) hRc.1, Nat.le_trans (Nat.le_of_ble_eq_true rfl) hRc.2⟩) ?_
        refine lv_if_ne (tgt := 121) hx hb dX8_gain_114 (by decide) (fun c16 => ?_) (fun c16 => ?_)
        · have hg := if_f hg c16
          refine lv_iload_n hx hb dX8_gain_121 rfl (lv_at hl 1 rfl) ?_
          refine lv_i2d hx hb dX8_gain_122 ?_
          refine lv_aload_n hx hb dX8_gain_123 rfl (lv_at hl 0 rfl) ?_
          obtain ⟨r17, q18, hg⟩ := bd_e hg hne
          refine r_calli (W.runV (As := []) (rest := [.double (FP.i2d x12)]) CX (ctX8_sumOfGroups l D sw cs ad X M11  q18) (cwV 0 hts (gwV m5_175 m5_177 mp4_8 m1_7 m5_178) rfl rfl rfl (by decide +kernel) ⟨Nat.le_trans (Nat.le_of_ble_eq_true rfl) hR.1, Nat.le_trans (Nat.le_of_ble_eq_true rfl) hR.2⟩) (rPreV (hSW.wr hS) hK hP (by decide) rfl rfl _) rfl rfl hl.1 rfl (lv_room (Nat.le_of_ble_eq_true rfl)) dX8_gain_124 ⟨Nat.le_trans (Nat.le_of_ble_eq_true rfl) hRc.1, Nat.le_trans (Nat.le_of_ble_eq_true rfl) hRc.2⟩) ?_
          refine lv_i2d hx hb dX8_gain_127 ?_
          obtain ⟨b19, hg⟩ := ck_e hg hne
          refine lv_ddiv hx hb dX8_gain_128 (dn64 b19) ?_
          refine W.widen (k := 3) (n := 14) (by decide) (by decide) ?_
          exact hret _ _ _ _ _ _ hg dX8_gain_129 hP hD hS
        · have hg := if_t hg c16
          refine lv_dconst0 hx hb dX8_gain_117 ?_
          refine lv_goto (tgt := 129) hx hb dX8_gain_118 (by decide) ?_
          refine W.widen (k := 3) (n := 14) (by decide) (by decide) ?_
          exact hret _ _ _ _ _ _ hg dX8_gain_129 hP hD hS
      have kL33_51 : ∀ (n23 : Nat) (M20 : Mm) (x21 : Int32) (x22 : Int32) (H : Heap) (locs : List Loc) (ls : Array Slot), va_P D vwCl (wl cs LM NM ad M20 ++ X) H → va_D A (wl cs LM NM ad M20 ++ X) → va_S A s.heap H locs → lv_has ls 4 [(0, .ref (ad 0)), (1, .int x21), (2, .int x22)] → gX8_gain_L33 E13 n23 M20 x21 x22 = res → W p l e R s m args below meth c H locs (0 + 3) (0 + 14) Q (F0 m 33 ls []) := by
        intro n23
        induction n23 with
        | zero =>
          intro M20 x21 x22 H locs ls hP hD hS hl hg
          rw [gX8_gain_L33] at hg
          exact absurd hg.symm hne
        | succ n23 ih =>
          intro M20 x21 x22 H locs ls hP hD hS hl hg
          rw [gX8_gain_L33] at hg
          refine lv_iload_n hx hb dX8_gain_33 rfl (lv_at hl 2 rfl) ?_
          refine lv_bipush (v := 16) hx hb dX8_gain_34 (by decide) ?_
          refine lv_icmp_ge (tgt := 110) hx hb dX8_gain_36 (by decide) (fun c24 => ?_) (fun c24 => ?_)
          · have hg := if_t hg c24
            exact kE13 _ _ _ _ _ hP hD hS (lv_sub hl [0, 1] rfl) hg
          · have hg := if_f hg c24
            refine lv_iconst (v := 0) hx hb dX8_gain_39 (by decide) ?_
            refine lv_istore_n (lv' := [(3, .int (0 : Int32)), (0, .ref (ad 0)), (1, .int x21), (2, .int x22)]) hx hb dX8_gain_40 rfl hl (by decide) rfl (fun ls hl => ?_)
            obtain ⟨E28, hE28, hg⟩ := lf3 hg
            have kE28 : ∀ (M25 : Mm) (x26 : Int32) (x27 : Int32) (H : Heap) (locs : List Loc) (ls : Array Slot), va_P D vwCl (wl cs LM NM ad M25 ++ X) H → va_D A (wl cs LM NM ad M25 ++ X) → va_S A s.heap H locs → lv_has ls 4 [(0, .ref (ad 0)), (1, .int x26), (2, .int x27)] → E28 M25 x26 x27 = res → W p l e R s m args below meth c H locs (0 + 3) (0 + 14) Q (F0 m 104 ls []) := by
              intro M25 x26 x27 H locs ls hP hD hS hl hg
              rw [hE28] at hg
              obtain ⟨x29, hx29, hg⟩ := lt_e hg
              refine lv_iinc (v := x29) (lv' := [(2, .int x29), (0, .ref (ad 0)), (1, .int x26)]) hx hb dX8_gain_104 hl (k := 2) rfl (hx29.symm) (by decide) rfl (fun ls hl => ?_)
              refine lv_goto (tgt := 33) hx hb dX8_gain_107 (by decide) ?_
              exact ih _ _ _ _ _ _ hP hD hS (lv_sub hl [1, 2, 0] rfl) hg
            have kL41_50 : ∀ (n34 : Nat) (M30 : Mm) (x31 : Int32) (x32 : Int32) (x33 : Int32) (H : Heap) (locs : List Loc) (ls : Array Slot), va_P D vwCl (wl cs LM NM ad M30 ++ X) H → va_D A (wl cs LM NM ad M30 ++ X) → va_S A s.heap H locs → lv_has ls 4 [(0, .ref (ad 0)), (1, .int x31), (2, .int x32), (3, .int x33)] → gX8_gain_L41 E28 n34 M30 x31 x32 x33 = res → W p l e R s m args below meth c H locs (0 + 3) (0 + 14) Q (F0 m 41 ls []) := by
              intro n34
              induction n34 with
              | zero =>
                intro M30 x31 x32 x33 H locs ls hP hD hS hl hg
                rw [gX8_gain_L41] at hg
                exact absurd hg.symm hne
              | succ n34 ih =>
                intro M30 x31 x32 x33 H locs ls hP hD hS hl hg
                rw [gX8_gain_L41] at hg
                refine lv_iload_n hx hb dX8_gain_41 rfl (lv_at hl 3 rfl) ?_
                refine lv_aload_n hx hb dX8_gain_42 rfl (lv_at hl 0 rfl) ?_
                refine m_gi (C := RX8) (T := TX8) (n := 15) (ci := 6) hx hb hts in_RX8 hown hK hP (by decide) rfl rfl 1 (by decide) rfl lk_47 (fun _ h9 => h9) dX8_gain_43 ?_
                refine lv_icmp_ge (tgt := 104) hx hb dX8_gain_46 (by decide) (fun c35 => ?_) (fun c35 => ?_)
                · have hg := if_t hg c35
                  exact kE28 _ _ _ _ _ _ hP hD hS (lv_sub hl [0, 1, 2] rfl) hg
                · have hg := if_f hg c35
                  refine lv_iload_n hx hb dX8_gain_49 rfl (lv_at hl 1 rfl) ?_
                  refine lv_aload_n hx hb dX8_gain_50 rfl (lv_at hl 0 rfl) ?_
                  refine lv_iload_n hx hb dX8_gain_51 rfl (lv_at hl 3 rfl) ?_
                  obtain ⟨r36, q37, hg⟩ := bd_e hg hne
                  refine r_calli (W.runV (As := [.int x33]) (rest := [.int x31]) CX (ctX8_isToken l D sw cs ad X M30 x33 q37) (cwV 1 hts (gwV m5_46 m5_48 mp3_10 m1_7 m5_49) rfl rfl rfl (by decide +kernel) ⟨Nat.le_trans (Nat.le_of_ble_eq_true rfl) hR.1, Nat.le_trans (Nat.le_of_ble_eq_true rfl) hR.2⟩) (rPreV (hSW.wr hS) hK hP (by decide) rfl rfl _) rfl rfl hl.1 rfl (lv_room (Nat.le_of_ble_eq_true rfl)) dX8_gain_52 ⟨Nat.le_trans (Nat.le_of_ble_eq_true rfl) hRc.1, Nat.le_trans (Nat.le_of_ble_eq_true rfl) hRc.2⟩) ?_
                  refine lv_if_eq (tgt := 95) hx hb dX8_gain_55 (by decide) (fun c38 => ?_) (fun c38 => ?_)
                  · have hg := if_t hg c38
                    refine lv_iconst (v := 0) hx hb dX8_gain_95 (by decide) ?_
                    refine lv_iadd hx hb dX8_gain_96 ?_
                    refine lv_istore_n (lv' := [(1, .int (x31 + (0 : Int32))), (0, .ref (ad 0)), (2, .int x32), (3, .int x33)]) hx hb dX8_gain_97 rfl hl (by decide) rfl (fun ls hl => ?_)
                    obtain ⟨x39, hx39, hg⟩ := lt_e hg
                    refine lv_iinc (v := x39) (lv' := [(3, .int x39), (1, .int (x31 + (0 : Int32))), (0, .ref (ad 0)), (2, .int x32)]) hx hb dX8_gain_98 hl (k := 3) rfl (hx39.symm) (by decide) rfl (fun ls hl => ?_)
                    refine lv_goto (tgt := 41) hx hb dX8_gain_101 (by decide) ?_
                    exact ih _ _ _ _ _ _ _ hP hD hS (lv_sub hl [2, 1, 3, 0] rfl) hg
                  · have hg := if_f hg c38
                    refine lv_aload_n hx hb dX8_gain_58 rfl (lv_at hl 0 rfl) ?_
                    refine m_gr (C := RX8) (T := TX8) (n := 15) (ci := 6) hx hb hts in_RX8 hown hK hP (by decide) rfl rfl 3 (by decide) rfl lk_13 (fun _ h9 => h9) dX8_gain_59 ?_
                    refine lv_iload_n hx hb dX8_gain_62 rfl (lv_at hl 3 rfl) ?_
                    obtain ⟨b40, hg⟩ := ck_e hg hne
                    refine m_ld hx hb hK hP (by decide) rfl b40 dX8_gain_63 ?_
                    refine lv_iload_n hx hb dX8_gain_64 rfl (lv_at hl 2 rfl) ?_
                    refine r_calli (W.runS (As := [.int (M30 2 (x33).toNatClampNeg), .int x32]) (rest := [.int x31]) CX (ctX8_has l (M30 2 (x33).toNatClampNeg) x32) (va_cwS 2 hts (gwS m5_70 m5_71 m1_7 m5_72) rfl rfl rfl (by decide +kernel) ⟨Nat.le_trans (Nat.le_of_ble_eq_true rfl) hR.1, Nat.le_trans (Nat.le_of_ble_eq_true rfl) hR.2⟩) (pPreS _) rfl rfl hl.1 rfl (lv_room (Nat.le_of_ble_eq_true rfl)) dX8_gain_65 ⟨Nat.le_trans (Nat.le_of_ble_eq_true rfl) hRc.1, Nat.le_trans (Nat.le_of_ble_eq_true rfl) hRc.2⟩) ?_
                    refine lv_if_eq (tgt := 95) hx hb dX8_gain_68 (by decide) (fun c41 => ?_) (fun c41 => ?_)
                    · have hg := if_t hg c41
                      refine lv_iconst (v := 0) hx hb dX8_gain_95 (by decide) ?_
                      refine lv_iadd hx hb dX8_gain_96 ?_
                      refine lv_istore_n (lv' := [(1, .int (x31 + (0 : Int32))), (0, .ref (ad 0)), (2, .int x32), (3, .int x33)]) hx hb dX8_gain_97 rfl hl (by decide) rfl (fun ls hl => ?_)
                      obtain ⟨x42, hx42, hg⟩ := lt_e hg
                      refine lv_iinc (v := x42) (lv' := [(3, .int x42), (1, .int (x31 + (0 : Int32))), (0, .ref (ad 0)), (2, .int x32)]) hx hb dX8_gain_98 hl (k := 3) rfl (hx42.symm) (by decide) rfl (fun ls hl => ?_)
                      refine lv_goto (tgt := 41) hx hb dX8_gain_101 (by decide) ?_
                      exact ih _ _ _ _ _ _ _ hP hD hS (lv_sub hl [2, 1, 3, 0] rfl) hg
                    · have hg := if_f hg c41
                      refine lv_aload_n hx hb dX8_gain_71 rfl (lv_at hl 0 rfl) ?_
                      refine m_gr (C := RX8) (T := TX8) (n := 15) (ci := 6) hx hb hts in_RX8 hown hK hP (by decide) rfl rfl 7 (by decide) rfl lk_25 (fun _ h9 => h9) dX8_gain_72 ?_
                      refine lv_iload_n hx hb dX8_gain_75 rfl (lv_at hl 2 rfl) ?_
                      obtain ⟨b43, hg⟩ := ck_e hg hne
                      refine m_ld hx hb hK hP (by decide) rfl b43 dX8_gain_76 ?_
                      refine lv_iconst (v := -1) hx hb dX8_gain_77 (by decide) ?_
                      refine lv_icmp_eq (tgt := 91) hx hb dX8_gain_78 (by decide) (fun c44 => ?_) (fun c44 => ?_)
                      · have hg := if_t hg c44
                        refine lv_iconst (v := 1) hx hb dX8_gain_91 (by decide) ?_
                        refine lv_goto (tgt := 96) hx hb dX8_gain_92 (by decide) ?_
                        refine lv_iadd hx hb dX8_gain_96 ?_
                        refine lv_istore_n (lv' := [(1, .int (x31 + (1 : Int32))), (0, .ref (ad 0)), (2, .int x32), (3, .int x33)]) hx hb dX8_gain_97 rfl hl (by decide) rfl (fun ls hl => ?_)
                        obtain ⟨x45, hx45, hg⟩ := lt_e hg
                        refine lv_iinc (v := x45) (lv' := [(3, .int x45), (1, .int (x31 + (1 : Int32))), (0, .ref (ad 0)), (2, .int x32)]) hx hb dX8_gain_98 hl (k := 3) rfl (hx45.symm) (by decide) rfl (fun ls hl => ?_)
                        refine lv_goto (tgt := 41) hx hb dX8_gain_101 (by decide) ?_
                        exact ih _ _ _ _ _ _ _ hP hD hS (lv_sub hl [2, 1, 3, 0] rfl) hg
                      · have hg := if_f hg c44
                        refine lv_iload_n hx hb dX8_gain_81 rfl (lv_at hl 3 rfl) ?_
                        refine lv_aload_n hx hb dX8_gain_82 rfl (lv_at hl 0 rfl) ?_
                        refine m_gr (C := RX8) (T := TX8) (n := 15) (ci := 6) hx hb hts in_RX8 hown hK hP (by decide) rfl rfl 7 (by decide) rfl lk_25 (fun _ h9 => h9) dX8_gain_83 ?_
                        refine lv_iload_n hx hb dX8_gain_86 rfl (lv_at hl 2 rfl) ?_
                        obtain ⟨b46, hg⟩ := ck_e hg hne
                        refine m_ld hx hb hK hP (by decide) rfl b46 dX8_gain_87 ?_
                        refine lv_icmp_gt (tgt := 95) hx hb dX8_gain_88 (by decide) (fun c47 => ?_) (fun c47 => ?_)
                        · have hg := if_t hg c47
                          refine lv_iconst (v := 0) hx hb dX8_gain_95 (by decide) ?_
                          refine lv_iadd hx hb dX8_gain_96 ?_
                          refine lv_istore_n (lv' := [(1, .int (x31 + (0 : Int32))), (0, .ref (ad 0)), (2, .int x32), (3, .int x33)]) hx hb dX8_gain_97 rfl hl (by decide) rfl (fun ls hl => ?_)
                          obtain ⟨x48, hx48, hg⟩ := lt_e hg
                          refine lv_iinc (v := x48) (lv' := [(3, .int x48), (1, .int (x31 + (0 : Int32))), (0, .ref (ad 0)), (2, .int x32)]) hx hb dX8_gain_98 hl (k := 3) rfl (hx48.symm) (by decide) rfl (fun ls hl => ?_)
                          refine lv_goto (tgt := 41) hx hb dX8_gain_101 (by decide) ?_
                          exact ih _ _ _ _ _ _ _ hP hD hS (lv_sub hl [2, 1, 3, 0] rfl) hg
                        · have hg := if_f hg c47
                          refine lv_iconst (v := 1) hx hb dX8_gain_91 (by decide) ?_
                          refine lv_goto (tgt := 96) hx hb dX8_gain_92 (by decide) ?_
                          refine lv_iadd hx hb dX8_gain_96 ?_
                          refine lv_istore_n (lv' := [(1, .int (x31 + (1 : Int32))), (0, .ref (ad 0)), (2, .int x32), (3, .int x33)]) hx hb dX8_gain_97 rfl hl (by decide) rfl (fun ls hl => ?_)
                          obtain ⟨x49, hx49, hg⟩ := lt_e hg
                          refine lv_iinc (v := x49) (lv' := [(3, .int x49), (1, .int (x31 + (1 : Int32))), (0, .ref (ad 0)), (2, .int x32)]) hx hb dX8_gain_98 hl (k := 3) rfl (hx49.symm) (by decide) rfl (fun ls hl => ?_)
                          refine lv_goto (tgt := 41) hx hb dX8_gain_101 (by decide) ?_
                          exact ih _ _ _ _ _ _ _ hP hD hS (lv_sub hl [2, 1, 3, 0] rfl) hg
            exact kL41_50 FU _ _ _ _ _ _ _ hP hD hS (lv_sub hl [1, 2, 3, 0] rfl) hg
      exact kL33_51 FU _ _ _ _ _ _ hP hD hS (lv_sub hl [2, 1, 0] rfl) hg
    · have hg := if_f hg c8
      refine lv_dconst0 hx hb dX8_gain_23 ?_
      refine W.widen (k := 3) (n := 14) (by decide) (by decide) ?_
      exact hret _ _ _ _ _ _ hg dX8_gain_24 hP hD hS
  refine lv_if_eq (tgt := 12) hx hb dX8_gain_5 (by decide) (fun c3 => ?_) (fun c3 => ?_)
  · have hg := if_t hg c3
    refine lv_iconst (v := 1) hx hb dX8_gain_12 (by decide) ?_
    exact kJ6 _ _ _ _ _ hP hD hS (lv_sub hl [0] rfl) hg
  · have hg := if_f hg c3
    refine lv_iconst (v := 0) hx hb dX8_gain_8 (by decide) ?_
    refine lv_goto (tgt := 13) hx hb dX8_gain_9 (by decide) ?_
    exact kJ6 _ _ _ _ _ hP hD hS (lv_sub hl [0] rfl) hg
theorem ctX8_gain (l : Launch) (D : va_G) (sw : Sw) (cs : Cs) (ad : Nat → Nat) (X : va_W) (sz : Nat) (M : Mm) {r : UInt64} {M1 : Mm} (hq : gX8_gain M = some (r, M1)) : Met l yX8_gain wsX8_gain ({ frames := 6, cells := 3, slots := 14, locals := 131 }) (va_Pc [.ref (ad 0)] (wPre D sw cs LM NM ad M X sz)) (wQd D cs LM NM ad M1 X sz r) 3 14 (wA NM ad X sz) :=
  met_w rfl rfl (Nat.le_of_ble_eq_true rfl) (fun p e s m args below meth c ls CX hr hlk hK hSW hP hD hS hA hl => bX8_gain M hq (by simp) CX ⟨Nat.le_refl _, Nat.le_refl _⟩ hK hSW hP hD hS hA ⟨Nat.le_refl _, Nat.le_refl _⟩ hl (fun pc ls H locs v M9 hv dg hP hD hS => W.dret (hlocks := hlk) CX.1 CX.2.1 hr (fun t ht hW => ⟨⟨_, (), rfl, (Prod.mk.inj (Option.some.inj hv)).1, wpost hP ht (Prod.mk.inj (Option.some.inj hv)).2⟩, hS.F ht⟩) hS.2.2 dg))
