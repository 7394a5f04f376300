abbrev wsX7_gain : List Cond := Cond.code yX7_gain cX7_gain 4 (some .double) :: WG
def gX7_gain_L23 (E15 : Mm → Int32 → Int32 → Option ((UInt64 ⊕ Nat) × Mm)) : Nat → Mm → Int32 → Int32 → Int32 → Option ((UInt64 ⊕ Nat) × Mm)
  | 0, _, _, _, _ => none
  | n21 + 1, M17, x18, x19, x20 => if (16 : Int32) ≤ x20 then (E15 M17 x18 x19) else if (x20 < 0 ∨ 16 ≤ (x20).toNatClampNeg) then none else lt ((x20).toNatClampNeg) fun v24 => lt (x19 + (M17 (vb v24 + 3) 3)) fun x26 => lt (x20 + (1 : Int32)) fun x27 => gX7_gain_L23 E15 n21 M17 x18 x26 x27
def gX7_gain (M : Mm) : Option ((UInt64 ⊕ Nat) × Mm) := te (gX7_checkFinished M ) fun r6 M2 => bd (gX7_refresh M2 ) fun M8 => bd (gX7_sumOfGroups M8 ) fun r9 => if r9 = 0 then (some (.inl FP.dconst0, M8)) else lt (fun (M12 : Mm) (x13 : Int32) (x14 : Int32) => if ¬ ((FP.ddiv (FP.i2d x14) (FP.i2d x13)) &&& 0x7fffffffffffffff ≤ (0x7ff0000000000000 : UInt64)) then none else some (.inl (FP.ddiv (FP.i2d x14) (FP.i2d x13)), M12)) fun E15 => gX7_gain_L23 E15 FU M8 r9 (0 : Int32) (0 : Int32)
set_option maxHeartbeats 4000000 in
set_option maxRecDepth 100000 in
theorem bX7_gain {p : Program} {l : Launch} {e : Env} {R : Room} {s : State} {m : MethodId} {args : Array Value} {below : List Frame} {meth : Method} {c : Code} {H : Heap} {locs : List Loc} {Q : State → Prop} {D : va_G} {sw : Sw} {cs : Cs} {ad : Nat → Nat} {X : va_W} {A : Nat → Prop} {Qc : Array Value → State → Outcome → State → Prop} {XC : String → State → State → Prop} (M : Mm) {res : Option ((UInt64 ⊕ Nat) × Mm)} (hg : gX7_gain M = res) (hne : res ≠ none) (CX : CallFix p m c cX7_gain 4 s args wsX7_gain RX7) (hR : 406 ≤ R.frames ∧ 9729 ≤ R.locals) (hQ : Q = vx_MQ below Qc XC args s 1 6 A) (hfl : l.stackTraces = false) (hlk : meth.locks = false) (hnx : ∀ x ∈ c.exceptionTable.toList, False) (hXC : ∀ (k : Nat) (M9 : Mm) (t : State), some (.inr k, M9) = res → va_P D vwCl (wl cs LC NC ad M9 ++ X) t.heap → va_F A s t → XC (exn k) s t) (hK : va_K D vwCl (tysC cs) s) (hSW : SW sw A s s.heap) (hP : va_P D vwCl (wl cs LC NC ad M ++ X) H) (hD : va_D A (wl cs LC NC ad M ++ X)) (hS : va_S A s.heap H locs) (hA : ∀ q, s.heap.size ≤ q → A q) (hRc : 1 ≤ R.cells ∧ 6 ≤ R.slots) {ls : Array Slot} (hl : lv_has ls 4 [(0, .ref (ad 0))]) (hret : ∀ (pc : Nat) (ls : Array Slot) (H : Heap) (locs : List Loc) (v : UInt64) (M9 : Mm), some (.inl v, M9) = res → decode cX7_gain pc = .ok (.dreturn, 1) → va_P D vwCl (wl cs LC NC ad M9 ++ X) H → va_D A (wl cs LC NC ad M9 ++ X) → va_S A s.heap H locs → W p l e R s m args below meth c H locs 1 6 Q (F0 m pc ls [.double v])) : W p l e R s m args below meth c H locs 0 0 Q (F0 m 0 ls []) := by
  obtain ⟨hx, hb, hml, hown, hts⟩ := id CX
  have hw : ∀ w ∈ WG, w.before args s = true := fun w h => hts w (List.mem_cons_of_mem _ h)
  have lk_25 := hw _ m1_161
  have lk_148 := hw _ m1_145
  have lk_160 := hw _ m1_96
  unfold gX7_gain at hg
  refine lv_aload_n hx hb dX7_gain_0 rfl (lv_at hl 0 rfl) ?_
  obtain ⟨o1, M2, q3, k4, v5⟩ := te_e hg hne
  refine t_callv (vx_runV (As := []) (rest := []) CX (ctX7_checkFinished l hfl D sw cs ad X H.size M  q3) (cwV 0 hts (gwV m3_93 m3_95 mp2_13 m1_1 m3_96) rfl rfl rfl (by decide +kernel) ⟨Nat.le_trans (Nat.le_of_ble_eq_true rfl) hR.1, Nat.le_trans (Nat.le_of_ble_eq_true rfl) hR.2⟩) (wPreV hSW hS hA hK hP hD (by decide) rfl rfl _) rfl rfl hl.1 rfl (lv_room (Nat.le_of_ble_eq_true rfl)) dX7_gain_1 ⟨Nat.le_trans (Nat.le_of_ble_eq_true rfl) hRc.1, Nat.le_trans (Nat.le_of_ble_eq_true rfl) hRc.2⟩) hD hS hA (fun k9 ho9 H locs ce9 q9 hP hD hS hce9 hcv9 hcl9 => ?_) (fun r6 ho9 H locs hP hD hS => ?_)
  · rw [hQ]
    exact vx_out (fun x9 h9 => (hnx x9 h9).elim) hlk hce9 hcv9 hcl9 (fun t9 ht9 ha9 => hXC k9 _ t9 (k4 k9 ho9) (by rw [ht9]; exact hP) (hS.F ht9)) hS.2.2 (by decide) (by decide)
  · have hg := v5 r6 ho9
    refine lv_aload_n hx hb dX7_gain_4 rfl (lv_at hl 0 rfl) ?_
    obtain ⟨M8, q7, hg⟩ := bd_e hg hne
    refine w_callv (va_runV (As := []) (rest := []) CX (ctX7_refresh l D sw cs ad X H.size M2  q7) (cwV 0 hts (gwV m2_72 m2_74 mp1_3 m1_1 m2_75) rfl rfl rfl (by decide +kernel) ⟨Nat.le_trans (Nat.le_of_ble_eq_true rfl) hR.1, Nat.le_trans (Nat.le_of_ble_eq_true rfl) hR.2⟩) (wPreV hSW hS hA hK hP hD (by decide) rfl rfl _) rfl rfl hl.1 rfl (lv_room (Nat.le_of_ble_eq_true rfl)) dX7_gain_5 ⟨Nat.le_trans (Nat.le_of_ble_eq_true rfl) hRc.1, Nat.le_trans (Nat.le_of_ble_eq_true rfl) hRc.2⟩) hD hS hA (fun H locs hP hD hS => ?_)
    refine lv_aload_n hx hb dX7_gain_8 rfl (lv_at hl 0 rfl) ?_
    obtain ⟨r9, q10, hg⟩ := bd_e hg hne
    refine r_calli (W.runV (As := []) (rest := []) CX (ctX7_sumOfGroups l D sw cs ad X M8  q10) (cwV 0 hts (gwV m3_110 m3_112 mp2_14 m1_1 m3_113) rfl rfl rfl (by decide +kernel) ⟨Nat.le_trans (Nat.le_of_ble_eq_true rfl) hR.1, Nat.le_trans (Nat.le_of_ble_eq_true rfl) hR.2⟩) (rPreV (hSW.wr hS) hK hP (by decide) rfl rfl _) rfl rfl hl.1 rfl (lv_room (Nat.le_of_ble_eq_true rfl)) dX7_gain_9 ⟨Nat.le_trans (Nat.le_of_ble_eq_true rfl) hRc.1, Nat.le_trans (Nat.le_of_ble_eq_true rfl) hRc.2⟩) ?_
    refine lv_istore_n (lv' := [(1, .int r9), (0, .ref (ad 0))]) hx hb dX7_gain_12 rfl hl (by decide) rfl (fun ls hl => ?_)
    refine lv_iload_n hx hb dX7_gain_13 rfl (lv_at hl 0 rfl) ?_
    refine lv_if_ne (tgt := 19) hx hb dX7_gain_14 (by decide) (fun c11 => ?_) (fun c11 => ?_)
    · have hg := if_f hg c11
      refine lv_iconst (v := 0) hx hb dX7_gain_19 (by decide) ?_
      refine lv_istore_n (lv' := [(2, .int (0 : Int32)), (1, .int r9), (0, .ref (ad 0))]) hx hb dX7_gain_20 rfl hl (by decide) rfl (fun ls hl => ?_)
      refine lv_iconst (v := 0) hx hb dX7_gain_21 (by decide) ?_
      refine lv_istore_n (lv' := [(3, .int (0 : Int32)), (2, .int (0 : Int32)), (1, .int r9), (0, .ref (ad 0))]) hx hb dX7_gain_22 rfl hl (by decide) rfl (fun ls hl => ?_)
      obtain ⟨E15, hE15, hg⟩ := lf3 hg
      have kE15 : ∀ (M12 : Mm) (x13 : Int32) (x14 : Int32) (H : Heap) (locs : List Loc) (ls : Array Slot), va_P D vwCl (wl cs LC NC ad M12 ++ X) H → va_D A (wl cs LC NC ad M12 ++ X) → va_S A s.heap H locs → lv_has ls 4 [(1, .int x13), (2, .int x14)] → E15 M12 x13 x14 = res → W p l e R s m args below meth c H locs (0 + 1) (0 + 6) Q (F0 m 50 ls []) := by
        intro M12 x13 x14 H locs ls hP hD hS hl hg
        rw [hE15] at hg
        refine lv_iload_n hx hb dX7_gain_50 rfl (lv_at hl 1 rfl) ?_
        refine lv_i2d hx hb dX7_gain_51 ?_
        refine lv_iload_n hx hb dX7_gain_52 rfl (lv_at hl 0 rfl) ?_
        refine lv_i2d hx hb dX7_gain_53 ?_
        obtain ⟨b16, hg⟩ := ck_e hg hne
        refine lv_ddiv hx hb dX7_gain_54 (dn64 b16) ?_
        refine W.widen (k := 1) (n := 6) (by decide) (by decide) ?_
        exact hret _ _ _ _ _ _ hg dX7_gain_55 hP hD hS
      have kL23_28 : ∀ (n21 : Nat) (M17 : Mm) (x18 : Int32) (x19 : Int32) (x20 : Int32) (H : Heap) (locs : List Loc) (ls : Array Slot), va_P D vwCl (wl cs LC NC ad M17 ++ X) H → va_D A (wl cs LC NC ad M17 ++ X) → va_S A s.heap H locs → lv_has ls 4 [(0, .ref (ad 0)), (1, .int x18), (2, .int x19), (3, .int x20)] → gX7_gain_L23 E15 n21 M17 x18 x19 x20 = res → W p l e R s m args below meth c H locs (0 + 1) (0 + 6) Q (F0 m 23 ls []) := by
        intro n21
        induction n21 with
        | zero =>
          intro M17 x18 x19 x20 H locs ls hP hD hS hl hg
          rw [gX7_gain_L23] at hg
          exact absurd hg.symm hne
        | succ n21 ih =>
          intro M17 x18 x19 x20 H locs ls hP hD hS hl hg
          rw [gX7_gain_L23] at hg
          refine lv_iload_n hx hb dX7_gain_23 rfl (lv_at hl 3 rfl) ?_
          refine lv_bipush (v := 16) hx hb dX7_gain_24 (by decide) ?_
          refine lv_icmp_ge (tgt := 50) hx hb dX7_gain_26 (by decide) (fun c22 => ?_) (fun c22 => ?_)
          · have hg := if_t hg c22
            exact kE15 _ _ _ _ _ _ hP hD hS (lv_sub hl [1, 2] rfl) hg
          · have hg := if_f hg c22
            refine lv_iload_n hx hb dX7_gain_29 rfl (lv_at hl 2 rfl) ?_
            refine lv_aload_n hx hb dX7_gain_30 rfl (lv_at hl 0 rfl) ?_
            refine m_gr (C := RX7) (T := TX7) (n := 5) (ci := 5) hx hb hts in_RX7 hown hK hP (by decide) rfl rfl 2 (by decide) rfl lk_25 (fun _ h9 => h9) dX7_gain_31 ?_
            refine lv_iload_n hx hb dX7_gain_34 rfl (lv_at hl 3 rfl) ?_
            obtain ⟨b23, hg⟩ := ck_e hg hne
            obtain ⟨v24, hv24, hg⟩ := lt_e hg
            have h25 := ix_lt b23 hv24
            refine m_lq (k := 13) hx hb hK hP (by decide) rfl b23 dX7_gain_35 ?_
            rw [← hv24]
            refine m_gr (C := RX5) (T := TX5) (n := 5) (ci := 3) hx hb hts in_RX5 hown hK hP (kC_v0 h25) (LC_VAR v24) rfl 3 (by decide) rfl lk_148 (fun _ h9 => h9) dX7_gain_36 ?_
            refine m_gi (C := RX1) (T := TX1) (n := 5) (ci := 0) hx hb hts in_RX1 hown hK hP (kC_v (j := 3) h25 (by decide)) (LC_RDG v24) rfl 3 (by decide) rfl lk_160 (fun _ h9 => h9) dX7_gain_39 ?_
            refine lv_iadd hx hb dX7_gain_42 ?_
            obtain ⟨x26, hx26, hg⟩ := lt_e hg
            refine top_i hx26 ?_
            refine lv_istore_n (lv' := [(2, .int x26), (0, .ref (ad 0)), (1, .int x18), (3, .int x20)]) hx hb dX7_gain_43 rfl hl (by decide) rfl (fun ls hl => ?_)
            obtain ⟨x27, hx27, hg⟩ := lt_e hg
            refine lv_iinc (v := x27) (lv' := [(3, .int x27), (2, .int x26), (0, .ref (ad 0)), (1, .int x18)]) hx hb dX7_gain_44 hl (k := 3) rfl (hx27.symm) (by decide) rfl (fun ls hl => ?_)
            refine lv_goto (tgt := 23) hx hb dX7_gain_47 (by decide) ?_
            exact ih _ _ _ _ _ _ _ hP hD hS (lv_sub hl [2, 3, 1, 0] rfl) hg
      exact kL23_28 FU _ _ _ _ _ _ _ hP hD hS (lv_sub hl [3, 2, 1, 0] rfl) hg
    · have hg := if_t hg c11
      refine lv_dconst0 hx hb dX7_gain_17 ?_
      refine W.widen (k := 1) (n := 6) (by decide) (by decide) ?_
      exact hret _ _ _ _ _ _ hg dX7_gain_18 hP hD hS
theorem ctX7_gain (l : Launch) (hfl : l.stackTraces = false) (D : va_G) (sw : Sw) (cs : Cs) (ad : Nat → Nat) (X : va_W) (sz : Nat) (M : Mm) {o : UInt64 ⊕ Nat} {M1 : Mm} (hq : gX7_gain M = some (o, M1)) : vx_Met l yX7_gain wsX7_gain ({ frames := 406, cells := 1, slots := 6, locals := 9729 }) (va_Pc [.ref (ad 0)] (wPre D sw cs LC NC ad M X sz)) (tQd D cs LC NC ad M1 X sz o) (tX D cs LC NC ad M1 X sz o) 1 6 (wA NC ad X sz) :=
  met_t rfl rfl (Nat.le_of_ble_eq_true rfl) (fun p e s m args below meth c ls CX hr hlk hnx hK hSW hP hD hS hA hsz hl => bX7_gain M hq (by simp) CX ⟨Nat.le_refl _, Nat.le_refl _⟩ rfl hfl hlk hnx (fun k M9 t he hB hF => ⟨(), trivial, ⟨⟨k, (Prod.mk.inj (Option.some.inj he)).1.symm, rfl⟩, wpost hB rfl (Prod.mk.inj (Option.some.inj he)).2⟩, hF⟩) hK hSW hP hD hS hA ⟨Nat.le_refl _, Nat.le_refl _⟩ hl (fun pc ls H locs v M9 hv dg hP hD hS => vx_ret (W.dret CX.1 CX.2.1 hr (fun t ht hW => ⟨⟨v, (), rfl, (Prod.mk.inj (Option.some.inj hv)).1.symm, wpost hP ht (Prod.mk.inj (Option.some.inj hv)).2⟩, hS.F ht⟩) hS.2.2 dg)))
