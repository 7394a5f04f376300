abbrev wsX7_byteOf : List Cond := Cond.code yX7_byteOf cX7_byteOf 3 (some .int) :: WG
def gX7_byteOf (a0 : Int64) (a2 : Int32) : Int32 := ((((((a0).toUInt64 >>> ((a2).toInt64.toUInt64 &&& Int64.toUInt64 63)).toInt64)).toInt32) &&& (255 : Int32))
set_option maxHeartbeats 4000000 in
set_option maxRecDepth 100000 in
theorem bX7_byteOf {p : Program} {l : Launch} {e : Env} {R : Room} {s : State} {m : MethodId} {args : Array Value} {below : List Frame} {meth : Method} {c : Code} {H : Heap} {locs : List Loc} {Q : State → Prop} (a0 : Int64) (a2 : Int32) {res : Int32} (hg : gX7_byteOf a0 a2 = res) (CX : CallFix p m c cX7_byteOf 3 s args wsX7_byteOf RX7) (hR : 0 ≤ R.frames ∧ 0 ≤ R.locals) {ls : Array Slot} (hl : lv_has ls 3 [(0, .long a0), (2, .int a2)]) (hret : ∀ (pc : Nat) (ls : Array Slot) (v : Int32), v = res → decode cX7_byteOf pc = .ok (.ireturn, 1) → W p l e R s m args below meth c H locs 0 0 Q (F0 m pc ls [.int v])) : W p l e R s m args below meth c H locs 0 0 Q (F0 m 0 ls []) := by
  obtain ⟨hx, hb, hml, hown, hts⟩ := id CX
  have hw : ∀ w ∈ WG, w.before args s = true := fun w h => hts w (List.mem_cons_of_mem _ h)
  unfold gX7_byteOf at hg
  refine lv_lload_n hx hb dX7_byteOf_0 rfl (lv_at hl 0 rfl) ?_
  refine lv_iload_n hx hb dX7_byteOf_1 rfl (lv_at hl 1 rfl) ?_
  refine lv_lushr hx hb dX7_byteOf_2 rfl ?_
  refine lv_l2i hx hb dX7_byteOf_3 rfl ?_
  refine lv_sipush (v := 255) hx hb dX7_byteOf_4 (by decide) ?_
  refine lv_iand hx hb dX7_byteOf_7 ?_
  exact hret _ _ _ hg dX7_byteOf_8
theorem ctX7_byteOf (l : Launch) (a0 : Int64) (a2 : Int32) : Met l yX7_byteOf wsX7_byteOf ({ frames := 0, cells := 0, slots := 0, locals := 0 }) (va_Pc [.long a0, .int a2] (fun _ => True)) (vp_Si (fun r' => r' = gX7_byteOf a0 a2)) 0 0 (fun _ => False) :=
  met_p rfl rfl (Nat.le_of_ble_eq_true rfl) (fun p e s m args below meth c ls CX hr hlk hl => bX7_byteOf a0 a2 rfl CX ⟨Nat.le_refl _, Nat.le_refl _⟩ hl (fun pc ls v hv dg => W.iret CX.1 CX.2.1 hr (fun t ht hW => ⟨_, rfl, hv, ht⟩) (fun _ h => by cases h) dg))

abbrev wsX7_append : List Cond := Cond.code yX7_append cX7_append 2 (some .int) :: WG
def gX7_append (M : Mm) (a1 : Int32) : Option (Int32 × Mm) := bd (gX4_add M a1) fun M2 => lt (um M2 0 4 (0 : Int32)) fun M3 => some ((M3 1 1), M3)
set_option maxHeartbeats 4000000 in
set_option maxRecDepth 100000 in
theorem bX7_append {p : Program} {l : Launch} {e : Env} {R : Room} {s : State} {m : MethodId} {args : Array Value} {below : List Frame} {meth : Method} {c : Code} {H : Heap} {locs : List Loc} {Q : State → Prop} {D : va_G} {sw : Sw} {cs : Cs} {ad : Nat → Nat} {X : va_W} {A : Nat → Prop} (M : Mm) (a1 : Int32) {res : Option (Int32 × Mm)} (hg : gX7_append M a1 = res) (hne : res ≠ none) (CX : CallFix p m c cX7_append 2 s args wsX7_append RX7) (hR : 1 ≤ R.frames ∧ 21 ≤ R.locals) (hK : va_K D vwCl (tysC cs) s) (hSW : SW sw A s s.heap) (hP : va_P D vwCl (wl cs LC NC ad M ++ X) H) (hD : va_D A (wl cs LC NC ad M ++ X)) (hS : va_S A s.heap H locs) (hA : ∀ q, s.heap.size ≤ q → A q) {ls : Array Slot} (hl : lv_has ls 2 [(0, .ref (ad 0)), (1, .int a1)]) (hret : ∀ (pc : Nat) (ls : Array Slot) (H : Heap) (locs : List Loc) (v : Int32) (M9 : Mm), some (v, M9) = res → decode cX7_append pc = .ok (.ireturn, 1) → va_P D vwCl (wl cs LC NC ad M9 ++ X) H → va_D A (wl cs LC NC ad M9 ++ X) → va_S A s.heap H locs → W p l e R s m args below meth c H locs 0 0 Q (F0 m pc ls [.int v])) : W p l e R s m args below meth c H locs 0 0 Q (F0 m 0 ls []) := by
  obtain ⟨hx, hb, hml, hown, hts⟩ := id CX
  have hw : ∀ w ∈ WG, w.before args s = true := fun w h => hts w (List.mem_cons_of_mem _ h)
  have lk_10 := hw _ m1_159
  have lk_34 := hw _ m1_163
  have lk_55 := hw _ m1_39
  unfold gX7_append at hg
  refine lv_aload_n hx hb dX7_append_0 rfl (lv_at hl 0 rfl) ?_
  refine m_gr (C := RX7) (T := TX7) (n := 5) (ci := 5) hx hb hts in_RX7 hown hK hP (by decide) rfl rfl 0 (by decide) rfl lk_10 (fun _ h9 => h9) dX7_append_1 ?_
  refine lv_iload_n hx hb dX7_append_4 rfl (lv_at hl 1 rfl) ?_
  obtain ⟨M2, q1, hg⟩ := bd_e hg hne
  refine w_callv (va_runV (As := [.int a1]) (rest := []) CX (ctX4_add l D sw cs ad X H.size M a1 q1) (cwV 1 hts (gwV m2_40 m2_41 m2_42 m1_2 m2_43) rfl rfl rfl (by decide +kernel) ⟨Nat.le_trans (Nat.le_of_ble_eq_true rfl) hR.1, Nat.le_trans (Nat.le_of_ble_eq_true rfl) hR.2⟩) (wPreV hSW hS hA hK hP hD (by decide) rfl rfl _) rfl rfl hl.1 rfl (lv_room (Nat.le_of_ble_eq_true rfl)) dX7_append_5 ⟨Nat.zero_le _, Nat.zero_le _⟩) hD hS hA (fun H locs hP hD hS => ?_)
  refine lv_aload_n hx hb dX7_append_8 rfl (lv_at hl 0 rfl) ?_
  refine lv_iconst (v := 0) hx hb dX7_append_9 (by decide) ?_
  obtain ⟨M3, hM3, hg⟩ := lt_e hg
  refine m_pi (C := RX7) (T := TX7) (n := 5) (ci := 5) hx hb hts in_RX7 tyX7 tyX7_ok nmX7 hown hK hP hD hS (by decide) rfl rfl 4 (by decide) rfl lk_34 (fun _ h9 => h9) rfl rfl rfl dX7_append_10 hM3 (fun H locs hP hD hS => ?_)
  refine lv_aload_n hx hb dX7_append_13 rfl (lv_at hl 0 rfl) ?_
  refine m_gr (C := RX7) (T := TX7) (n := 5) (ci := 5) hx hb hts in_RX7 hown hK hP (by decide) rfl rfl 0 (by decide) rfl lk_10 (fun _ h9 => h9) dX7_append_14 ?_
  refine m_gi (C := RX4) (T := TX4) (n := 2) (ci := 2) hx hb hts in_RX4 hown hK hP (by decide) rfl rfl 1 (by decide) rfl lk_55 (fun _ h9 => h9) dX7_append_17 ?_
  exact hret _ _ _ _ _ _ hg dX7_append_20 hP hD hS
theorem ctX7_append (l : Launch) (D : va_G) (sw : Sw) (cs : Cs) (ad : Nat → Nat) (X : va_W) (sz : Nat) (M : Mm) (a1 : Int32) {r : Int32} {M1 : Mm} (hq : gX7_append M a1 = some (r, M1)) : Met l yX7_append wsX7_append ({ frames := 1, cells := 0, slots := 0, locals := 21 }) (va_Pc [.ref (ad 0), .int a1] (wPre D sw cs LC NC ad M X sz)) (wQi D cs LC NC ad M1 X sz r) 0 0 (wA NC ad X sz) :=
  met_w rfl rfl (Nat.le_of_ble_eq_true rfl) (fun p e s m args below meth c ls CX hr hlk hK hSW hP hD hS hA hl => bX7_append M a1 hq (by simp) CX ⟨Nat.le_refl _, Nat.le_refl _⟩ hK hSW hP hD hS hA hl (fun pc ls H locs v M9 hv dg hP hD hS => W.iret CX.1 CX.2.1 hr (fun t ht hW => ⟨⟨_, (), rfl, (Prod.mk.inj (Option.some.inj hv)).1, wpost hP ht (Prod.mk.inj (Option.some.inj hv)).2⟩, hS.F ht⟩) hS.2.2 dg))

abbrev wsX7_isFirstOfItsText : List Cond := Cond.code yX7_isFirstOfItsText cX7_isFirstOfItsText 3 (some .boolean) :: WG
def gX7_isFirstOfItsText_L2 (M : Mm) (a1 : Int32) : Nat → Int32 → Option Int32
  | 0, _ => none
  | n2 + 1, x1 => if a1 ≤ x1 then (some (1 : Int32)) else if (a1 < 0 ∨ 16 ≤ (a1).toNatClampNeg) then none else lt ((a1).toNatClampNeg) fun v5 => if (x1 < 0 ∨ 16 ≤ (x1).toNatClampNeg) then none else lt ((x1).toNatClampNeg) fun v8 => bd (gX5_hasSameTokens M v5 v8) fun r10 => if r10 = 0 then (lt (x1 + (1 : Int32)) fun x13 => gX7_isFirstOfItsText_L2 M a1 n2 x13) else some (0 : Int32)
def gX7_isFirstOfItsText (M : Mm) (a1 : Int32) : Option Int32 := gX7_isFirstOfItsText_L2 M a1 FU (0 : Int32)
set_option maxHeartbeats 4000000 in
set_option maxRecDepth 100000 in
theorem bX7_isFirstOfItsText {p : Program} {l : Launch} {e : Env} {R : Room} {s : State} {m : MethodId} {args : Array Value} {below : List Frame} {meth : Method} {c : Code} {H : Heap} {locs : List Loc} {Q : State → Prop} {D : va_G} {sw : Sw} {cs : Cs} {ad : Nat → Nat} {X : va_W} (M : Mm) (a1 : Int32) {res : Option Int32} (hg : gX7_isFirstOfItsText M a1 = res) (hne : res ≠ none) (CX : CallFix p m c cX7_isFirstOfItsText 3 s args wsX7_isFirstOfItsText RX7) (hR : 3 ≤ R.frames ∧ 65 ≤ R.locals) (hK : va_K D vwCl (tysC cs) s) (hSW : SW sw (fun _ => False) s H) (hP : va_P D vwCl (wl cs LC NC ad M ++ X) H) {ls : Array Slot} (hl : lv_has ls 3 [(0, .ref (ad 0)), (1, .int a1)]) (hret : ∀ (pc : Nat) (ls : Array Slot) (v : Int32), some v = res → decode cX7_isFirstOfItsText pc = .ok (.ireturn, 1) → narrow .boolean (.int v) = .int v → W p l e R s m args below meth c H locs 0 0 Q (F0 m pc ls [.int v])) : W p l e R s m args below meth c H locs 0 0 Q (F0 m 0 ls []) := by
  obtain ⟨hx, hb, hml, hown, hts⟩ := id CX
  have hw : ∀ w ∈ WG, w.before args s = true := fun w h => hts w (List.mem_cons_of_mem _ h)
  have lk_25 := hw _ m1_161
  unfold gX7_isFirstOfItsText at hg
  refine lv_iconst (v := 0) hx hb dX7_isFirstOfItsText_0 (by decide) ?_
  refine lv_istore_n (lv' := [(2, .int (0 : Int32)), (0, .ref (ad 0)), (1, .int a1)]) hx hb dX7_isFirstOfItsText_1 rfl hl (by decide) rfl (fun ls hl => ?_)
  have kL2_14 : ∀ (n2 : Nat) (x1 : Int32) (ls : Array Slot), lv_has ls 3 [(0, .ref (ad 0)), (1, .int a1), (2, .int x1)] → gX7_isFirstOfItsText_L2 M a1 n2 x1 = res → W p l e R s m args below meth c H locs 0 0 Q (F0 m 2 ls []) := by
    intro n2
    induction n2 with
    | zero =>
      intro x1 ls hl hg
      rw [gX7_isFirstOfItsText_L2] at hg
      exact absurd hg.symm hne
    | succ n2 ih =>
      intro x1 ls hl hg
      rw [gX7_isFirstOfItsText_L2] at hg
      refine lv_iload_n hx hb dX7_isFirstOfItsText_2 rfl (lv_at hl 2 rfl) ?_
      refine lv_iload_n hx hb dX7_isFirstOfItsText_3 rfl (lv_at hl 1 rfl) ?_
      refine lv_icmp_ge (tgt := 33) hx hb dX7_isFirstOfItsText_4 (by decide) (fun c3 => ?_) (fun c3 => ?_)
      · have hg := if_t hg c3
        refine lv_iconst (v := 1) hx hb dX7_isFirstOfItsText_33 (by decide) ?_
        exact hret _ _ _ hg dX7_isFirstOfItsText_34 rfl
      · have hg := if_f hg c3
        refine lv_aload_n hx hb dX7_isFirstOfItsText_7 rfl (lv_at hl 0 rfl) ?_
        refine m_gr (C := RX7) (T := TX7) (n := 5) (ci := 5) hx hb hts in_RX7 hown hK hP (by decide) rfl rfl 2 (by decide) rfl lk_25 (fun _ h9 => h9) dX7_isFirstOfItsText_8 ?_
        refine lv_iload_n hx hb dX7_isFirstOfItsText_11 rfl (lv_at hl 1 rfl) ?_
        obtain ⟨b4, hg⟩ := ck_e hg hne
        obtain ⟨v5, hv5, hg⟩ := lt_e hg
        have h6 := ix_lt b4 hv5
        refine m_lq (k := 13) hx hb hK hP (by decide) rfl b4 dX7_isFirstOfItsText_12 ?_
        rw [← hv5]
        refine lv_aload_n hx hb dX7_isFirstOfItsText_13 rfl (lv_at hl 0 rfl) ?_
        refine m_gr (C := RX7) (T := TX7) (n := 5) (ci := 5) hx hb hts in_RX7 hown hK hP (by decide) rfl rfl 2 (by decide) rfl lk_25 (fun _ h9 => h9) dX7_isFirstOfItsText_14 ?_
        refine lv_iload_n hx hb dX7_isFirstOfItsText_17 rfl (lv_at hl 2 rfl) ?_
        obtain ⟨b7, hg⟩ := ck_e hg hne
        obtain ⟨v8, hv8, hg⟩ := lt_e hg
        have h9 := ix_lt b7 hv8
        refine m_lq (k := 13) hx hb hK hP (by decide) rfl b7 dX7_isFirstOfItsText_18 ?_
        rw [← hv8]
        obtain ⟨r10, q11, hg⟩ := bd_e hg hne
        refine r_calli (W.runV (As := [.ref (ad (vb v8))]) (rest := []) CX (ctX5_hasSameTokens l D sw cs ad X M v5 h6 v8 h9 q11) (cwV 1 hts (gwV m3_84 m3_85 m3_86 m1_4 m3_87) rfl rfl rfl (by decide +kernel) ⟨Nat.le_trans (Nat.le_of_ble_eq_true rfl) hR.1, Nat.le_trans (Nat.le_of_ble_eq_true rfl) hR.2⟩) (rPreV hSW hK hP (kC_v0 h6) (LC_VAR v5) rfl _) rfl rfl hl.1 rfl (lv_room (Nat.le_of_ble_eq_true rfl)) dX7_isFirstOfItsText_19 ⟨Nat.zero_le _, Nat.zero_le _⟩) ?_
        refine lv_if_eq (tgt := 27) hx hb dX7_isFirstOfItsText_22 (by decide) (fun c12 => ?_) (fun c12 => ?_)
        · have hg := if_t hg c12
          obtain ⟨x13, hx13, hg⟩ := lt_e hg
          refine lv_iinc (v := x13) (lv' := [(2, .int x13), (0, .ref (ad 0)), (1, .int a1)]) hx hb dX7_isFirstOfItsText_27 hl (k := 2) rfl (hx13.symm) (by decide) rfl (fun ls hl => ?_)
          refine lv_goto (tgt := 2) hx hb dX7_isFirstOfItsText_30 (by decide) ?_
          exact ih _ _ (lv_sub hl [1, 2, 0] rfl) hg
        · have hg := if_f hg c12
          refine lv_iconst (v := 0) hx hb dX7_isFirstOfItsText_25 (by decide) ?_
          exact hret _ _ _ hg dX7_isFirstOfItsText_26 rfl
  exact kL2_14 FU _ _ (lv_sub hl [1, 2, 0] rfl) hg
theorem ctX7_isFirstOfItsText (l : Launch) (D : va_G) (sw : Sw) (cs : Cs) (ad : Nat → Nat) (X : va_W) (M : Mm) (a1 : Int32) {r : Int32} (hq : gX7_isFirstOfItsText M a1 = some r) : Met l yX7_isFirstOfItsText wsX7_isFirstOfItsText ({ frames := 3, cells := 0, slots := 0, locals := 65 }) (va_Pc [.ref (ad 0), .int a1] (rPre D sw cs LC NC ad M X)) (vp_Si (fun r' => r' = r)) 0 0 (fun _ => False) :=
  met_r rfl rfl (Nat.le_of_ble_eq_true rfl) (fun p e s m args below meth c ls CX hr hlk hK hSW hP hl => bX7_isFirstOfItsText M a1 hq (by simp) CX ⟨Nat.le_refl _, Nat.le_refl _⟩ hK hSW hP hl (fun pc ls v hv dg hz => W.zret (ty := .boolean) CX.1 CX.2.1 hr hz (fun t ht hW => ⟨_, rfl, Option.some.inj hv, ht⟩) (fun _ h => by cases h) dg))

abbrev wsX7_isFirstOfItsBehaviour : List Cond := Cond.code yX7_isFirstOfItsBehaviour cX7_isFirstOfItsBehaviour 4 (some .boolean) :: WG
def gX7_isFirstOfItsBehaviour_L12 (M : Mm) (a1 : Int32) : Nat → Nat → Int32 → Option Int32
  | 0, _, _ => none
  | n7 + 1, v4, x6 => if a1 ≤ x6 then (some (1 : Int32)) else if (x6 < 0 ∨ 16 ≤ (x6).toNatClampNeg) then none else lt ((x6).toNatClampNeg) fun v10 => if (M (vb v10 + 3) 4) = (-1 : Int32) then (if (x6 < 0 ∨ 16 ≤ (x6).toNatClampNeg) then none else lt ((x6).toNatClampNeg) fun v15 => bd (gX3_hasSameOutputs M v4 v15) fun r17 => if r17 = 0 then (lt (x6 + (1 : Int32)) fun x20 => gX7_isFirstOfItsBehaviour_L12 M a1 n7 v4 x20) else some (0 : Int32)) else lt (x6 + (1 : Int32)) fun x13 => gX7_isFirstOfItsBehaviour_L12 M a1 n7 v4 x13
def gX7_isFirstOfItsBehaviour (M : Mm) (a1 : Int32) : Option Int32 := if (a1 < 0 ∨ 16 ≤ (a1).toNatClampNeg) then none else lt ((a1).toNatClampNeg) fun v2 => gX7_isFirstOfItsBehaviour_L12 M a1 FU v2 (0 : Int32)
set_option maxHeartbeats 4000000 in
set_option maxRecDepth 100000 in
theorem bX7_isFirstOfItsBehaviour {p : Program} {l : Launch} {e : Env} {R : Room} {s : State} {m : MethodId} {args : Array Value} {below : List Frame} {meth : Method} {c : Code} {H : Heap} {locs : List Loc} {Q : State → Prop} {D : va_G} {sw : Sw} {cs : Cs} {ad : Nat → Nat} {X : va_W} (M : Mm) (a1 : Int32) {res : Option Int32} (hg : gX7_isFirstOfItsBehaviour M a1 = res) (hne : res ≠ none) (CX : CallFix p m c cX7_isFirstOfItsBehaviour 4 s args wsX7_isFirstOfItsBehaviour RX7) (hR : 3 ≤ R.frames ∧ 65 ≤ R.locals) (hK : va_K D vwCl (tysC cs) s) (hSW : SW sw (fun _ => False) s H) (hP : va_P D vwCl (wl cs LC NC ad M ++ X) H) {ls : Array Slot} (hl : lv_has ls 4 [(0, .ref (ad 0)), (1, .int a1)]) (hret : ∀ (pc : Nat) (ls : Array Slot) (v : Int32), some v = res → decode cX7_isFirstOfItsBehaviour pc = .ok (.ireturn, 1) → narrow .boolean (.int v) = .int v → W p l e R s m args below meth c H locs 0 0 Q (F0 m pc ls [.int v])) : W p l e R s m args below meth c H locs 0 0 Q (F0 m 0 ls []) := by
  obtain ⟨hx, hb, hml, hown, hts⟩ := id CX
  have hw : ∀ w ∈ WG, w.before args s = true := fun w h => hts w (List.mem_cons_of_mem _ h)
  have lk_25 := hw _ m1_161
  have lk_169 := hw _ m1_147
  have lk_148 := hw _ m1_145
  have lk_152 := hw _ m1_98
  unfold gX7_isFirstOfItsBehaviour at hg
  refine lv_aload_n hx hb dX7_isFirstOfItsBehaviour_0 rfl (lv_at hl 0 rfl) ?_
  refine m_gr (C := RX7) (T := TX7) (n := 5) (ci := 5) hx hb hts in_RX7 hown hK hP (by decide) rfl rfl 2 (by decide) rfl lk_25 (fun _ h9 => h9) dX7_isFirstOfItsBehaviour_1 ?_
  refine lv_iload_n hx hb dX7_isFirstOfItsBehaviour_4 rfl (lv_at hl 1 rfl) ?_
  obtain ⟨b1, hg⟩ := ck_e hg hne
  obtain ⟨v2, hv2, hg⟩ := lt_e hg
  have h3 := ix_lt b1 hv2
  refine m_lq (k := 13) hx hb hK hP (by decide) rfl b1 dX7_isFirstOfItsBehaviour_5 ?_
  rw [← hv2]
  refine m_gr (C := RX5) (T := TX5) (n := 5) (ci := 3) hx hb hts in_RX5 hown hK hP (kC_v0 h3) (LC_VAR v2) rfl 4 (by decide) rfl lk_169 (fun _ h9 => h9) dX7_isFirstOfItsBehaviour_6 ?_
  refine lv_astore_n (lv' := [(2, .ref (ad (vb v2 + 6))), (0, .ref (ad 0)), (1, .int a1)]) hx hb dX7_isFirstOfItsBehaviour_9 rfl hl (by decide) rfl (fun ls hl => ?_)
  refine lv_iconst (v := 0) hx hb dX7_isFirstOfItsBehaviour_10 (by decide) ?_
  refine lv_istore_n (lv' := [(3, .int (0 : Int32)), (2, .ref (ad (vb v2 + 6))), (0, .ref (ad 0)), (1, .int a1)]) hx hb dX7_isFirstOfItsBehaviour_11 rfl hl (by decide) rfl (fun ls hl => ?_)
  have kL12_21 : ∀ (n7 : Nat) (v4 : Nat) (h5 : v4 < 16) (x6 : Int32) (ls : Array Slot), lv_has ls 4 [(0, .ref (ad 0)), (1, .int a1), (2, .ref (ad (vb v4 + 6))), (3, .int x6)] → gX7_isFirstOfItsBehaviour_L12 M a1 n7 v4 x6 = res → W p l e R s m args below meth c H locs 0 0 Q (F0 m 12 ls []) := by
    intro n7
    induction n7 with
    | zero =>
      intro v4 h5 x6 ls hl hg
      rw [gX7_isFirstOfItsBehaviour_L12] at hg
      exact absurd hg.symm hne
    | succ n7 ih =>
      intro v4 h5 x6 ls hl hg
      rw [gX7_isFirstOfItsBehaviour_L12] at hg
      refine lv_iload_n hx hb dX7_isFirstOfItsBehaviour_12 rfl (lv_at hl 3 rfl) ?_
      refine lv_iload_n hx hb dX7_isFirstOfItsBehaviour_13 rfl (lv_at hl 1 rfl) ?_
      refine lv_icmp_ge (tgt := 57) hx hb dX7_isFirstOfItsBehaviour_14 (by decide) (fun c8 => ?_) (fun c8 => ?_)
      · have hg := if_t hg c8
        refine lv_iconst (v := 1) hx hb dX7_isFirstOfItsBehaviour_57 (by decide) ?_
        exact hret _ _ _ hg dX7_isFirstOfItsBehaviour_58 rfl
      · have hg := if_f hg c8
        refine lv_aload_n hx hb dX7_isFirstOfItsBehaviour_17 rfl (lv_at hl 0 rfl) ?_
        refine m_gr (C := RX7) (T := TX7) (n := 5) (ci := 5) hx hb hts in_RX7 hown hK hP (by decide) rfl rfl 2 (by decide) rfl lk_25 (fun _ h9 => h9) dX7_isFirstOfItsBehaviour_18 ?_
        refine lv_iload_n hx hb dX7_isFirstOfItsBehaviour_21 rfl (lv_at hl 3 rfl) ?_
        obtain ⟨b9, hg⟩ := ck_e hg hne
        obtain ⟨v10, hv10, hg⟩ := lt_e hg
        have h11 := ix_lt b9 hv10
        refine m_lq (k := 13) hx hb hK hP (by decide) rfl b9 dX7_isFirstOfItsBehaviour_22 ?_
        rw [← hv10]
        refine m_gr (C := RX5) (T := TX5) (n := 5) (ci := 3) hx hb hts in_RX5 hown hK hP (kC_v0 h11) (LC_VAR v10) rfl 3 (by decide) rfl lk_148 (fun _ h9 => h9) dX7_isFirstOfItsBehaviour_23 ?_
        refine m_gi (C := RX1) (T := TX1) (n := 5) (ci := 0) hx hb hts in_RX1 hown hK hP (kC_v (j := 3) h11 (by decide)) (LC_RDG v10) rfl 4 (by decide) rfl lk_152 (fun _ h9 => h9) dX7_isFirstOfItsBehaviour_26 ?_
        refine lv_iconst (v := -1) hx hb dX7_isFirstOfItsBehaviour_29 (by decide) ?_
        refine lv_icmp_ne (tgt := 51) hx hb dX7_isFirstOfItsBehaviour_30 (by decide) (fun c12 => ?_) (fun c12 => ?_)
        · have hg := if_f hg c12
          obtain ⟨x13, hx13, hg⟩ := lt_e hg
          refine lv_iinc (v := x13) (lv' := [(3, .int x13), (0, .ref (ad 0)), (1, .int a1), (2, .ref (ad (vb v4 + 6)))]) hx hb dX7_isFirstOfItsBehaviour_51 hl (k := 3) rfl (hx13.symm) (by decide) rfl (fun ls hl => ?_)
          refine lv_goto (tgt := 12) hx hb dX7_isFirstOfItsBehaviour_54 (by decide) ?_
          exact ih _ h5 _ _ (lv_sub hl [1, 2, 3, 0] rfl) hg
        · have hg := if_t hg c12
          refine lv_aload_n hx hb dX7_isFirstOfItsBehaviour_33 rfl (lv_at hl 2 rfl) ?_
          refine lv_aload_n hx hb dX7_isFirstOfItsBehaviour_34 rfl (lv_at hl 0 rfl) ?_
          refine m_gr (C := RX7) (T := TX7) (n := 5) (ci := 5) hx hb hts in_RX7 hown hK hP (by decide) rfl rfl 2 (by decide) rfl lk_25 (fun _ h9 => h9) dX7_isFirstOfItsBehaviour_35 ?_
          refine lv_iload_n hx hb dX7_isFirstOfItsBehaviour_38 rfl (lv_at hl 3 rfl) ?_
          obtain ⟨b14, hg⟩ := ck_e hg hne
          obtain ⟨v15, hv15, hg⟩ := lt_e hg
          have h16 := ix_lt b14 hv15
          refine m_lq (k := 13) hx hb hK hP (by decide) rfl b14 dX7_isFirstOfItsBehaviour_39 ?_
          rw [← hv15]
          refine m_gr (C := RX5) (T := TX5) (n := 5) (ci := 3) hx hb hts in_RX5 hown hK hP (kC_v0 h16) (LC_VAR v15) rfl 4 (by decide) rfl lk_169 (fun _ h9 => h9) dX7_isFirstOfItsBehaviour_40 ?_
          obtain ⟨r17, q18, hg⟩ := bd_e hg hne
          refine r_calli (W.runV (As := [.ref (ad (vb v15 + 6))]) (rest := []) CX (ctX3_hasSameOutputs l D sw cs ad X M v4 h5 v15 h16 q18) (cwV 1 hts (gwV m3_164 m3_165 m3_166 m1_6 m3_167) rfl rfl rfl (by decide +kernel) ⟨Nat.le_trans (Nat.le_of_ble_eq_true rfl) hR.1, Nat.le_trans (Nat.le_of_ble_eq_true rfl) hR.2⟩) (rPreV hSW hK hP (kC_v (j := 6) h5 (by decide)) (LC_RUN v4) rfl _) rfl rfl hl.1 rfl (lv_room (Nat.le_of_ble_eq_true rfl)) dX7_isFirstOfItsBehaviour_43 ⟨Nat.zero_le _, Nat.zero_le _⟩) ?_
          refine lv_if_eq (tgt := 51) hx hb dX7_isFirstOfItsBehaviour_46 (by decide) (fun c19 => ?_) (fun c19 => ?_)
          · have hg := if_t hg c19
            obtain ⟨x20, hx20, hg⟩ := lt_e hg
            refine lv_iinc (v := x20) (lv' := [(3, .int x20), (0, .ref (ad 0)), (1, .int a1), (2, .ref (ad (vb v4 + 6)))]) hx hb dX7_isFirstOfItsBehaviour_51 hl (k := 3) rfl (hx20.symm) (by decide) rfl (fun ls hl => ?_)
            refine lv_goto (tgt := 12) hx hb dX7_isFirstOfItsBehaviour_54 (by decide) ?_
            exact ih _ h5 _ _ (lv_sub hl [1, 2, 3, 0] rfl) hg
          · have hg := if_f hg c19
            refine lv_iconst (v := 0) hx hb dX7_isFirstOfItsBehaviour_49 (by decide) ?_
            exact hret _ _ _ hg dX7_isFirstOfItsBehaviour_50 rfl
  exact kL12_21 FU _ h3 _ _ (lv_sub hl [2, 3, 1, 0] rfl) hg
theorem ctX7_isFirstOfItsBehaviour (l : Launch) (D : va_G) (sw : Sw) (cs : Cs) (ad : Nat → Nat) (X : va_W) (M : Mm) (a1 : Int32) {r : Int32} (hq : gX7_isFirstOfItsBehaviour M a1 = some r) : Met l yX7_isFirstOfItsBehaviour wsX7_isFirstOfItsBehaviour ({ frames := 3, cells := 0, slots := 0, locals := 65 }) (va_Pc [.ref (ad 0), .int a1] (rPre D sw cs LC NC ad M X)) (vp_Si (fun r' => r' = r)) 0 0 (fun _ => False) :=
  met_r rfl rfl (Nat.le_of_ble_eq_true rfl) (fun p e s m args below meth c ls CX hr hlk hK hSW hP hl => bX7_isFirstOfItsBehaviour M a1 hq (by simp) CX ⟨Nat.le_refl _, Nat.le_refl _⟩ hK hSW hP hl (fun pc ls v hv dg hz => W.zret (ty := .boolean) CX.1 CX.2.1 hr hz (fun t ht hW => ⟨_, rfl, Option.some.inj hv, ht⟩) (fun _ h => by cases h) dg))

abbrev wsX7_sumOfGroups : List Cond := Cond.code yX7_sumOfGroups cX7_sumOfGroups 3 (some .int) :: WG
def gX7_sumOfGroups_L4 (M : Mm) : Nat → Int32 → Int32 → Option Int32
  | 0, _, _ => none
  | n3 + 1, x1, x2 => if (M 1 1) ≤ x2 then (some x1) else if (x2 < 0 ∨ 80 ≤ (x2).toNatClampNeg) then none else lt (x1 + (M 14 (x2).toNatClampNeg)) fun x6 => lt (x2 + (1 : Int32)) fun x7 => gX7_sumOfGroups_L4 M n3 x6 x7
def gX7_sumOfGroups (M : Mm) : Option Int32 := gX7_sumOfGroups_L4 M FU (0 : Int32) (0 : Int32)
set_option maxHeartbeats 4000000 in
set_option maxRecDepth 100000 in
theorem bX7_sumOfGroups {p : Program} {l : Launch} {e : Env} {R : Room} {s : State} {m : MethodId} {args : Array Value} {below : List Frame} {meth : Method} {c : Code} {H : Heap} {locs : List Loc} {Q : State → Prop} {D : va_G} {sw : Sw} {cs : Cs} {ad : Nat → Nat} {X : va_W} (M : Mm) {res : Option Int32} (hg : gX7_sumOfGroups M = res) (hne : res ≠ none) (CX : CallFix p m c cX7_sumOfGroups 3 s args wsX7_sumOfGroups RX7) (hR : 0 ≤ R.frames ∧ 0 ≤ R.locals) (hK : va_K D vwCl (tysC cs) s) (hSW : SW sw (fun _ => False) s H) (hP : va_P D vwCl (wl cs LC NC ad M ++ X) H) {ls : Array Slot} (hl : lv_has ls 3 [(0, .ref (ad 0))]) (hret : ∀ (pc : Nat) (ls : Array Slot) (v : Int32), some v = res → decode cX7_sumOfGroups pc = .ok (.ireturn, 1) → W p l e R s m args below meth c H locs 0 0 Q (F0 m pc ls [.int v])) : W p l e R s m args below meth c H locs 0 0 Q (F0 m 0 ls []) := by
  obtain ⟨hx, hb, hml, hown, hts⟩ := id CX
  have hw : ∀ w ∈ WG, w.before args s = true := fun w h => hts w (List.mem_cons_of_mem _ h)
  have lk_10 := hw _ m1_159
  have lk_55 := hw _ m1_39
  have lk_30 := hw _ m1_162
  unfold gX7_sumOfGroups at hg
  refine lv_iconst (v := 0) hx hb dX7_sumOfGroups_0 (by decide) ?_
  refine lv_istore_n (lv' := [(1, .int (0 : Int32)), (0, .ref (ad 0))]) hx hb dX7_sumOfGroups_1 rfl hl (by decide) rfl (fun ls hl => ?_)
  refine lv_iconst (v := 0) hx hb dX7_sumOfGroups_2 (by decide) ?_
  refine lv_istore_n (lv' := [(2, .int (0 : Int32)), (1, .int (0 : Int32)), (0, .ref (ad 0))]) hx hb dX7_sumOfGroups_3 rfl hl (by decide) rfl (fun ls hl => ?_)
  have kL4_8 : ∀ (n3 : Nat) (x1 : Int32) (x2 : Int32) (ls : Array Slot), lv_has ls 3 [(0, .ref (ad 0)), (1, .int x1), (2, .int x2)] → gX7_sumOfGroups_L4 M n3 x1 x2 = res → W p l e R s m args below meth c H locs 0 0 Q (F0 m 4 ls []) := by
    intro n3
    induction n3 with
    | zero =>
      intro x1 x2 ls hl hg
      rw [gX7_sumOfGroups_L4] at hg
      exact absurd hg.symm hne
    | succ n3 ih =>
      intro x1 x2 ls hl hg
      rw [gX7_sumOfGroups_L4] at hg
      refine lv_iload_n hx hb dX7_sumOfGroups_4 rfl (lv_at hl 2 rfl) ?_
      refine lv_aload_n hx hb dX7_sumOfGroups_5 rfl (lv_at hl 0 rfl) ?_
      refine m_gr (C := RX7) (T := TX7) (n := 5) (ci := 5) hx hb hts in_RX7 hown hK hP (by decide) rfl rfl 0 (by decide) rfl lk_10 (fun _ h9 => h9) dX7_sumOfGroups_6 ?_
      refine m_gi (C := RX4) (T := TX4) (n := 2) (ci := 2) hx hb hts in_RX4 hown hK hP (by decide) rfl rfl 1 (by decide) rfl lk_55 (fun _ h9 => h9) dX7_sumOfGroups_9 ?_
      refine lv_icmp_ge (tgt := 30) hx hb dX7_sumOfGroups_12 (by decide) (fun c4 => ?_) (fun c4 => ?_)
      · have hg := if_t hg c4
        refine lv_iload_n hx hb dX7_sumOfGroups_30 rfl (lv_at hl 1 rfl) ?_
        exact hret _ _ _ hg dX7_sumOfGroups_31
      · have hg := if_f hg c4
        refine lv_iload_n hx hb dX7_sumOfGroups_15 rfl (lv_at hl 1 rfl) ?_
        refine lv_aload_n hx hb dX7_sumOfGroups_16 rfl (lv_at hl 0 rfl) ?_
        refine m_gr (C := RX7) (T := TX7) (n := 5) (ci := 5) hx hb hts in_RX7 hown hK hP (by decide) rfl rfl 3 (by decide) rfl lk_30 (fun _ h9 => h9) dX7_sumOfGroups_17 ?_
        refine lv_iload_n hx hb dX7_sumOfGroups_20 rfl (lv_at hl 2 rfl) ?_
        obtain ⟨b5, hg⟩ := ck_e hg hne
        refine m_ld hx hb hK hP (by decide) rfl b5 dX7_sumOfGroups_21 ?_
        refine lv_iadd hx hb dX7_sumOfGroups_22 ?_
        obtain ⟨x6, hx6, hg⟩ := lt_e hg
        refine top_i hx6 ?_
        refine lv_istore_n (lv' := [(1, .int x6), (0, .ref (ad 0)), (2, .int x2)]) hx hb dX7_sumOfGroups_23 rfl hl (by decide) rfl (fun ls hl => ?_)
        obtain ⟨x7, hx7, hg⟩ := lt_e hg
        refine lv_iinc (v := x7) (lv' := [(2, .int x7), (1, .int x6), (0, .ref (ad 0))]) hx hb dX7_sumOfGroups_24 hl (k := 2) rfl (hx7.symm) (by decide) rfl (fun ls hl => ?_)
        refine lv_goto (tgt := 4) hx hb dX7_sumOfGroups_27 (by decide) ?_
        exact ih _ _ _ (lv_sub hl [2, 1, 0] rfl) hg
  exact kL4_8 FU _ _ _ (lv_sub hl [2, 1, 0] rfl) hg
theorem ctX7_sumOfGroups (l : Launch) (D : va_G) (sw : Sw) (cs : Cs) (ad : Nat → Nat) (X : va_W) (M : Mm) {r : Int32} (hq : gX7_sumOfGroups M = some r) : Met l yX7_sumOfGroups wsX7_sumOfGroups ({ frames := 0, cells := 0, slots := 0, locals := 0 }) (va_Pc [.ref (ad 0)] (rPre D sw cs LC NC ad M X)) (vp_Si (fun r' => r' = r)) 0 0 (fun _ => False) :=
  met_r rfl rfl (Nat.le_of_ble_eq_true rfl) (fun p e s m args below meth c ls CX hr hlk hK hSW hP hl => bX7_sumOfGroups M hq (by simp) CX ⟨Nat.le_refl _, Nat.le_refl _⟩ hK hSW hP hl (fun pc ls v hv dg => W.iret CX.1 CX.2.1 hr (fun t ht hW => ⟨_, rfl, Option.some.inj hv, ht⟩) (fun _ h => by cases h) dg))

abbrev wsX7_isReadBy : List Cond := Cond.code yX7_isReadBy cX7_isReadBy 3 (some .boolean) :: WG
def gX7_isReadBy (M : Mm) (a1 : Int32) (a2 : Int32) : Option Int32 := bd (gX6_isPresent M a2 a1) fun r1 => if r1 = 0 then (some (0 : Int32)) else if (a1 < 0 ∨ 16 ≤ (a1).toNatClampNeg) then none else lt ((a1).toNatClampNeg) fun v5 => if (M (vb v5 + 3) 4) = (-1 : Int32) then (some (1 : Int32)) else some (0 : Int32)
set_option maxHeartbeats 4000000 in
set_option maxRecDepth 100000 in
theorem bX7_isReadBy {p : Program} {l : Launch} {e : Env} {R : Room} {s : State} {m : MethodId} {args : Array Value} {below : List Frame} {meth : Method} {c : Code} {H : Heap} {locs : List Loc} {Q : State → Prop} {D : va_G} {sw : Sw} {cs : Cs} {ad : Nat → Nat} {X : va_W} (M : Mm) (a1 : Int32) (a2 : Int32) {res : Option Int32} (hg : gX7_isReadBy M a1 a2 = res) (hne : res ≠ none) (CX : CallFix p m c cX7_isReadBy 3 s args wsX7_isReadBy RX7) (hR : 1 ≤ R.frames ∧ 22 ≤ R.locals) (hK : va_K D vwCl (tysC cs) s) (hSW : SW sw (fun _ => False) s H) (hP : va_P D vwCl (wl cs LC NC ad M ++ X) H) {ls : Array Slot} (hl : lv_has ls 3 [(0, .ref (ad 0)), (1, .int a1), (2, .int a2)]) (hret : ∀ (pc : Nat) (ls : Array Slot) (v : Int32), some v = res → decode cX7_isReadBy pc = .ok (.ireturn, 1) → narrow .boolean (.int v) = .int v → W p l e R s m args below meth c H locs 0 0 Q (F0 m pc ls [.int v])) : W p l e R s m args below meth c H locs 0 0 Q (F0 m 0 ls []) := by
  obtain ⟨hx, hb, hml, hown, hts⟩ := id CX
  have hw : ∀ w ∈ WG, w.before args s = true := fun w h => hts w (List.mem_cons_of_mem _ h)
  have lk_19 := hw _ m1_160
  have lk_25 := hw _ m1_161
  have lk_148 := hw _ m1_145
  have lk_152 := hw _ m1_98
  unfold gX7_isReadBy at hg
  refine lv_aload_n hx hb dX7_isReadBy_0 rfl (lv_at hl 0 rfl) ?_
  refine m_gr (C := RX7) (T := TX7) (n := 5) (ci := 5) hx hb hts in_RX7 hown hK hP (by decide) rfl rfl 1 (by decide) rfl lk_19 (fun _ h9 => h9) dX7_isReadBy_1 ?_
  refine lv_iload_n hx hb dX7_isReadBy_4 rfl (lv_at hl 2 rfl) ?_
  refine lv_iload_n hx hb dX7_isReadBy_5 rfl (lv_at hl 1 rfl) ?_
  obtain ⟨r1, q2, hg⟩ := bd_e hg hne
  refine r_calli (W.runV (As := [.int a2, .int a1]) (rest := []) CX (ctX6_isPresent l D sw cs ad X M a2 a1 q2) (cwV 2 hts (gwV m2_111 m2_112 m2_113 m1_3 m2_114) rfl rfl rfl (by decide +kernel) ⟨Nat.le_trans (Nat.le_of_ble_eq_true rfl) hR.1, Nat.le_trans (Nat.le_of_ble_eq_true rfl) hR.2⟩) (rPreV hSW hK hP (by decide) rfl rfl _) rfl rfl hl.1 rfl (lv_room (Nat.le_of_ble_eq_true rfl)) dX7_isReadBy_6 ⟨Nat.zero_le _, Nat.zero_le _⟩) ?_
  refine lv_if_eq (tgt := 32) hx hb dX7_isReadBy_9 (by decide) (fun c3 => ?_) (fun c3 => ?_)
  · have hg := if_t hg c3
    refine lv_iconst (v := 0) hx hb dX7_isReadBy_32 (by decide) ?_
    exact hret _ _ _ hg dX7_isReadBy_33 rfl
  · have hg := if_f hg c3
    refine lv_aload_n hx hb dX7_isReadBy_12 rfl (lv_at hl 0 rfl) ?_
    refine m_gr (C := RX7) (T := TX7) (n := 5) (ci := 5) hx hb hts in_RX7 hown hK hP (by decide) rfl rfl 2 (by decide) rfl lk_25 (fun _ h9 => h9) dX7_isReadBy_13 ?_
    refine lv_iload_n hx hb dX7_isReadBy_16 rfl (lv_at hl 1 rfl) ?_
    obtain ⟨b4, hg⟩ := ck_e hg hne
    obtain ⟨v5, hv5, hg⟩ := lt_e hg
    have h6 := ix_lt b4 hv5
    refine m_lq (k := 13) hx hb hK hP (by decide) rfl b4 dX7_isReadBy_17 ?_
    rw [← hv5]
    refine m_gr (C := RX5) (T := TX5) (n := 5) (ci := 3) hx hb hts in_RX5 hown hK hP (kC_v0 h6) (LC_VAR v5) rfl 3 (by decide) rfl lk_148 (fun _ h9 => h9) dX7_isReadBy_18 ?_
    refine m_gi (C := RX1) (T := TX1) (n := 5) (ci := 0) hx hb hts in_RX1 hown hK hP (kC_v (j := 3) h6 (by decide)) (LC_RDG v5) rfl 4 (by decide) rfl lk_152 (fun _ h9 => h9) dX7_isReadBy_21 ?_
    refine lv_iconst (v := -1) hx hb dX7_isReadBy_24 (by decide) ?_
    refine lv_icmp_ne (tgt := 32) hx hb dX7_isReadBy_25 (by decide) (fun c7 => ?_) (fun c7 => ?_)
    · have hg := if_f hg c7
      refine lv_iconst (v := 0) hx hb dX7_isReadBy_32 (by decide) ?_
      exact hret _ _ _ hg dX7_isReadBy_33 rfl
    · have hg := if_t hg c7
      refine lv_iconst (v := 1) hx hb dX7_isReadBy_28 (by decide) ?_
      refine lv_goto (tgt := 33) hx hb dX7_isReadBy_29 (by decide) ?_
      exact hret _ _ _ hg dX7_isReadBy_33 rfl
theorem ctX7_isReadBy (l : Launch) (D : va_G) (sw : Sw) (cs : Cs) (ad : Nat → Nat) (X : va_W) (M : Mm) (a1 : Int32) (a2 : Int32) {r : Int32} (hq : gX7_isReadBy M a1 a2 = some r) : Met l yX7_isReadBy wsX7_isReadBy ({ frames := 1, cells := 0, slots := 0, locals := 22 }) (va_Pc [.ref (ad 0), .int a1, .int a2] (rPre D sw cs LC NC ad M X)) (vp_Si (fun r' => r' = r)) 0 0 (fun _ => False) :=
  met_r rfl rfl (Nat.le_of_ble_eq_true rfl) (fun p e s m args below meth c ls CX hr hlk hK hSW hP hl => bX7_isReadBy M a1 a2 hq (by simp) CX ⟨Nat.le_refl _, Nat.le_refl _⟩ hK hSW hP hl (fun pc ls v hv dg hz => W.zret (ty := .boolean) CX.1 CX.2.1 hr hz (fun t ht hW => ⟨_, rfl, Option.some.inj hv, ht⟩) (fun _ h => by cases h) dg))

abbrev wsX7_isFirstOfItsGroup : List Cond := Cond.code yX7_isFirstOfItsGroup cX7_isFirstOfItsGroup 5 (some .boolean) :: WG
def gX7_isFirstOfItsGroup_L13 (M : Mm) (a1 : Int32) (a2 : Int32) : Nat → Nat → Int32 → Option Int32
  | 0, _, _ => none
  | n7 + 1, v4, x6 => if a1 ≤ x6 then (some (1 : Int32)) else bd (gX7_isReadBy M x6 a2) fun r9 => if r9 = 0 then (lt (x6 + (1 : Int32)) fun x12 => gX7_isFirstOfItsGroup_L13 M a1 a2 n7 v4 x12) else if (x6 < 0 ∨ 16 ≤ (x6).toNatClampNeg) then none else lt ((x6).toNatClampNeg) fun v14 => bd (gX1_hasSameStack M v4 v14) fun r16 => if r16 = 0 then (lt (x6 + (1 : Int32)) fun x19 => gX7_isFirstOfItsGroup_L13 M a1 a2 n7 v4 x19) else some (0 : Int32)
def gX7_isFirstOfItsGroup (M : Mm) (a1 : Int32) (a2 : Int32) : Option Int32 := if (a1 < 0 ∨ 16 ≤ (a1).toNatClampNeg) then none else lt ((a1).toNatClampNeg) fun v2 => gX7_isFirstOfItsGroup_L13 M a1 a2 FU v2 (0 : Int32)
set_option maxHeartbeats 4000000 in
set_option maxRecDepth 100000 in
theorem bX7_isFirstOfItsGroup {p : Program} {l : Launch} {e : Env} {R : Room} {s : State} {m : MethodId} {args : Array Value} {below : List Frame} {meth : Method} {c : Code} {H : Heap} {locs : List Loc} {Q : State → Prop} {D : va_G} {sw : Sw} {cs : Cs} {ad : Nat → Nat} {X : va_W} (M : Mm) (a1 : Int32) (a2 : Int32) {res : Option Int32} (hg : gX7_isFirstOfItsGroup M a1 a2 = res) (hne : res ≠ none) (CX : CallFix p m c cX7_isFirstOfItsGroup 5 s args wsX7_isFirstOfItsGroup RX7) (hR : 3 ≤ R.frames ∧ 65 ≤ R.locals) (hK : va_K D vwCl (tysC cs) s) (hSW : SW sw (fun _ => False) s H) (hP : va_P D vwCl (wl cs LC NC ad M ++ X) H) {ls : Array Slot} (hl : lv_has ls 5 [(0, .ref (ad 0)), (1, .int a1), (2, .int a2)]) (hret : ∀ (pc : Nat) (ls : Array Slot) (v : Int32), some v = res → decode cX7_isFirstOfItsGroup pc = .ok (.ireturn, 1) → narrow .boolean (.int v) = .int v → W p l e R s m args below meth c H locs 0 0 Q (F0 m pc ls [.int v])) : W p l e R s m args below meth c H locs 0 0 Q (F0 m 0 ls []) := by
  obtain ⟨hx, hb, hml, hown, hts⟩ := id CX
  have hw : ∀ w ∈ WG, w.before args s = true := fun w h => hts w (List.mem_cons_of_mem _ h)
  have lk_25 := hw _ m1_161
  have lk_148 := hw _ m1_145
  unfold gX7_isFirstOfItsGroup at hg
  refine lv_aload_n hx hb dX7_isFirstOfItsGroup_0 rfl (lv_at hl 0 rfl) ?_
  refine m_gr (C := RX7) (T := TX7) (n := 5) (ci := 5) hx hb hts in_RX7 hown hK hP (by decide) rfl rfl 2 (by decide) rfl lk_25 (fun _ h9 => h9) dX7_isFirstOfItsGroup_1 ?_
  refine lv_iload_n hx hb dX7_isFirstOfItsGroup_4 rfl (lv_at hl 1 rfl) ?_
  obtain ⟨b1, hg⟩ := ck_e hg hne
  obtain ⟨v2, hv2, hg⟩ := lt_e hg
  have h3 := ix_lt b1 hv2
  refine m_lq (k := 13) hx hb hK hP (by decide) rfl b1 dX7_isFirstOfItsGroup_5 ?_
  rw [← hv2]
  refine m_gr (C := RX5) (T := TX5) (n := 5) (ci := 3) hx hb hts in_RX5 hown hK hP (kC_v0 h3) (LC_VAR v2) rfl 3 (by decide) rfl lk_148 (fun _ h9 => h9) dX7_isFirstOfItsGroup_6 ?_
  refine lv_astore_n (lv' := [(3, .ref (ad (vb v2 + 3))), (0, .ref (ad 0)), (1, .int a1), (2, .int a2)]) hx hb dX7_isFirstOfItsGroup_9 rfl hl (by decide) rfl (fun ls hl => ?_)
  refine lv_iconst (v := 0) hx hb dX7_isFirstOfItsGroup_10 (by decide) ?_
  refine lv_istore (lv' := [(4, .int (0 : Int32)), (3, .ref (ad (vb v2 + 3))), (0, .ref (ad 0)), (1, .int a1), (2, .int a2)]) hx hb dX7_isFirstOfItsGroup_11 hl (by decide) rfl (fun ls hl => ?_)
  have kL13_20 : ∀ (n7 : Nat) (v4 : Nat) (h5 : v4 < 16) (x6 : Int32) (ls : Array Slot), lv_has ls 5 [(0, .ref (ad 0)), (1, .int a1), (2, .int a2), (3, .ref (ad (vb v4 + 3))), (4, .int x6)] → gX7_isFirstOfItsGroup_L13 M a1 a2 n7 v4 x6 = res → W p l e R s m args below meth c H locs 0 0 Q (F0 m 13 ls []) := by
    intro n7
    induction n7 with
    | zero =>
      intro v4 h5 x6 ls hl hg
      rw [gX7_isFirstOfItsGroup_L13] at hg
      exact absurd hg.symm hne
    | succ n7 ih =>
      intro v4 h5 x6 ls hl hg
      rw [gX7_isFirstOfItsGroup_L13] at hg
      refine lv_iload hx hb dX7_isFirstOfItsGroup_13 (lv_at hl 4 rfl) ?_
      refine lv_iload_n hx hb dX7_isFirstOfItsGroup_15 rfl (lv_at hl 1 rfl) ?_
      refine lv_icmp_ge (tgt := 54) hx hb dX7_isFirstOfItsGroup_16 (by decide) (fun c8 => ?_) (fun c8 => ?_)
      · have hg := if_t hg c8
        refine lv_iconst (v := 1) hx hb dX7_isFirstOfItsGroup_54 (by decide) ?_
        exact hret _ _ _ hg dX7_isFirstOfItsGroup_55 rfl
      · have hg := if_f hg c8
        refine lv_aload_n hx hb dX7_isFirstOfItsGroup_19 rfl (lv_at hl 0 rfl) ?_
        refine lv_iload hx hb dX7_isFirstOfItsGroup_20 (lv_at hl 4 rfl) ?_
        refine lv_iload_n hx hb dX7_isFirstOfItsGroup_22 rfl (lv_at hl 2 rfl) ?_
        obtain ⟨r9, q10, hg⟩ := bd_e hg hne
        refine r_calli (W.runV (As := [.int x6, .int a2]) (rest := []) CX (ctX7_isReadBy l D sw cs ad X M x6 a2 q10) (cwV 2 hts (gwV m2_140 m2_142 mp1_11 m1_1 m2_143) rfl rfl rfl (by decide +kernel) ⟨Nat.le_trans (Nat.le_of_ble_eq_true rfl) hR.1, Nat.le_trans (Nat.le_of_ble_eq_true rfl) hR.2⟩) (rPreV hSW hK hP (by decide) rfl rfl _) rfl rfl hl.1 rfl (lv_room (Nat.le_of_ble_eq_true rfl)) dX7_isFirstOfItsGroup_23 ⟨Nat.zero_le _, Nat.zero_le _⟩) ?_
        refine lv_if_eq (tgt := 48) hx hb dX7_isFirstOfItsGroup_26 (by decide) (fun c11 => ?_) (fun c11 => ?_)
        · have hg := if_t hg c11
          obtain ⟨x12, hx12, hg⟩ := lt_e hg
          refine lv_iinc (v := x12) (lv' := [(4, .int x12), (0, .ref (ad 0)), (1, .int a1), (2, .int a2), (3, .ref (ad (vb v4 + 3)))]) hx hb dX7_isFirstOfItsGroup_48 hl (k := 4) rfl (hx12.symm) (by decide) rfl (fun ls hl => ?_)
          refine lv_goto (tgt := 13) hx hb dX7_isFirstOfItsGroup_51 (by decide) ?_
          exact ih _ h5 _ _ (lv_sub hl [1, 2, 3, 4, 0] rfl) hg
        · have hg := if_f hg c11
          refine lv_aload_n hx hb dX7_isFirstOfItsGroup_29 rfl (lv_at hl 3 rfl) ?_
          refine lv_aload_n hx hb dX7_isFirstOfItsGroup_30 rfl (lv_at hl 0 rfl) ?_
          refine m_gr (C := RX7) (T := TX7) (n := 5) (ci := 5) hx hb hts in_RX7 hown hK hP (by decide) rfl rfl 2 (by decide) rfl lk_25 (fun _ h9 => h9) dX7_isFirstOfItsGroup_31 ?_
          refine lv_iload hx hb dX7_isFirstOfItsGroup_34 (lv_at hl 4 rfl) ?_
          obtain ⟨b13, hg⟩ := ck_e hg hne
          obtain ⟨v14, hv14, hg⟩ := lt_e hg
          have h15 := ix_lt b13 hv14
          refine m_lq (k := 13) hx hb hK hP (by decide) rfl b13 dX7_isFirstOfItsGroup_36 ?_
          rw [← hv14]
          refine m_gr (C := RX5) (T := TX5) (n := 5) (ci := 3) hx hb hts in_RX5 hown hK hP (kC_v0 h15) (LC_VAR v14) rfl 3 (by decide) rfl lk_148 (fun _ h9 => h9) dX7_isFirstOfItsGroup_37 ?_
          obtain ⟨r16, q17, hg⟩ := bd_e hg hne
          refine r_calli (W.runV (As := [.ref (ad (vb v14 + 3))]) (rest := []) CX (ctX1_hasSameStack l D sw cs ad X M v4 h5 v14 h15 q17) (cwV 1 hts (gwV m2_148 m2_149 m2_150 m1_5 m2_151) rfl rfl rfl (by decide +kernel) ⟨Nat.le_trans (Nat.le_of_ble_eq_true rfl) hR.1, Nat.le_trans (Nat.le_of_ble_eq_true rfl) hR.2⟩) (rPreV hSW hK hP (kC_v (j := 3) h5 (by decide)) (LC_RDG v4) rfl _) rfl rfl hl.1 rfl (lv_room (Nat.le_of_ble_eq_true rfl)) dX7_isFirstOfItsGroup_40 ⟨Nat.zero_le _, Nat.zero_le _⟩) ?_
          refine lv_if_eq (tgt := 48) hx hb dX7_isFirstOfItsGroup_43 (by decide) (fun c18 => ?_) (fun c18 => ?_)
          · have hg := if_t hg c18
            obtain ⟨x19, hx19, hg⟩ := lt_e hg
            refine lv_iinc (v := x19) (lv' := [(4, .int x19), (0, .ref (ad 0)), (1, .int a1), (2, .int a2), (3, .ref (ad (vb v4 + 3)))]) hx hb dX7_isFirstOfItsGroup_48 hl (k := 4) rfl (hx19.symm) (by decide) rfl (fun ls hl => ?_)
            refine lv_goto (tgt := 13) hx hb dX7_isFirstOfItsGroup_51 (by decide) ?_
            exact ih _ h5 _ _ (lv_sub hl [1, 2, 3, 4, 0] rfl) hg
          · have hg := if_f hg c18
            refine lv_iconst (v := 0) hx hb dX7_isFirstOfItsGroup_46 (by decide) ?_
            exact hret _ _ _ hg dX7_isFirstOfItsGroup_47 rfl
  exact kL13_20 FU _ h3 _ _ (lv_sub hl [2, 3, 4, 1, 0] rfl) hg
theorem ctX7_isFirstOfItsGroup (l : Launch) (D : va_G) (sw : Sw) (cs : Cs) (ad : Nat → Nat) (X : va_W) (M : Mm) (a1 : Int32) (a2 : Int32) {r : Int32} (hq : gX7_isFirstOfItsGroup M a1 a2 = some r) : Met l yX7_isFirstOfItsGroup wsX7_isFirstOfItsGroup ({ frames := 3, cells := 0, slots := 0, locals := 65 }) (va_Pc [.ref (ad 0), .int a1, .int a2] (rPre D sw cs LC NC ad M X)) (vp_Si (fun r' => r' = r)) 0 0 (fun _ => False) :=
  met_r rfl rfl (Nat.le_of_ble_eq_true rfl) (fun p e s m args below meth c ls CX hr hlk hK hSW hP hl => bX7_isFirstOfItsGroup M a1 a2 hq (by simp) CX ⟨Nat.le_refl _, Nat.le_refl _⟩ hK hSW hP hl (fun pc ls v hv dg hz => W.zret (ty := .boolean) CX.1 CX.2.1 hr hz (fun t ht hW => ⟨_, rfl, Option.some.inj hv, ht⟩) (fun _ h => by cases h) dg))

abbrev wsX7_countGroups : List Cond := Cond.code yX7_countGroups cX7_countGroups 4 (some .int) :: WG
def gX7_countGroups_L4 (M : Mm) (a1 : Int32) : Nat → Int32 → Int32 → Option Int32
  | 0, _, _ => none
  | n3 + 1, x1, x2 => if (16 : Int32) ≤ x2 then (some x1) else bd (gX7_isReadBy M x2 a1) fun r5 => if r5 = 0 then (lt (x2 + (1 : Int32)) fun x8 => gX7_countGroups_L4 M a1 n3 x1 x8) else bd (gX7_isFirstOfItsGroup M x2 a1) fun r9 => if r9 = 0 then (lt (x2 + (1 : Int32)) fun x12 => gX7_countGroups_L4 M a1 n3 x1 x12) else lt (x1 + (1 : Int32)) fun x13 => lt (x2 + (1 : Int32)) fun x14 => gX7_countGroups_L4 M a1 n3 x13 x14
def gX7_countGroups (M : Mm) (a1 : Int32) : Option Int32 := gX7_countGroups_L4 M a1 FU (0 : Int32) (0 : Int32)
set_option maxHeartbeats 4000000 in
set_option maxRecDepth 100000 in
theorem bX7_countGroups {p : Program} {l : Launch} {e : Env} {R : Room} {s : State} {m : MethodId} {args : Array Value} {below : List Frame} {meth : Method} {c : Code} {H : Heap} {locs : List Loc} {Q : State → Prop} {D : va_G} {sw : Sw} {cs : Cs} {ad : Nat → Nat} {X : va_W} (M : Mm) (a1 : Int32) {res : Option Int32} (hg : gX7_countGroups M a1 = res) (hne : res ≠ none) (CX : CallFix p m c cX7_countGroups 4 s args wsX7_countGroups RX7) (hR : 4 ≤ R.frames ∧ 89 ≤ R.locals) (hK : va_K D vwCl (tysC cs) s) (hSW : SW sw (fun _ => False) s H) (hP : va_P D vwCl (wl cs LC NC ad M ++ X) H) {ls : Array Slot} (hl : lv_has ls 4 [(0, .ref (ad 0)), (1, .int a1)]) (hret : ∀ (pc : Nat) (ls : Array Slot) (v : Int32), some v = res → decode cX7_countGroups pc = .ok (.ireturn, 1) → W p l e R s m args below meth c H locs 0 0 Q (F0 m pc ls [.int v])) : W p l e R s m args below meth c H locs 0 0 Q (F0 m 0 ls []) := by
  obtain ⟨hx, hb, hml, hown, hts⟩ := id CX
  have hw : ∀ w ∈ WG, w.before args s = true := fun w h => hts w (List.mem_cons_of_mem _ h)
  unfold gX7_countGroups at hg
  refine lv_iconst (v := 0) hx hb dX7_countGroups_0 (by decide) ?_
  refine lv_istore_n (lv' := [(2, .int (0 : Int32)), (0, .ref (ad 0)), (1, .int a1)]) hx hb dX7_countGroups_1 rfl hl (by decide) rfl (fun ls hl => ?_)
  refine lv_iconst (v := 0) hx hb dX7_countGroups_2 (by decide) ?_
  refine lv_istore_n (lv' := [(3, .int (0 : Int32)), (2, .int (0 : Int32)), (0, .ref (ad 0)), (1, .int a1)]) hx hb dX7_countGroups_3 rfl hl (by decide) rfl (fun ls hl => ?_)
  have kL4_15 : ∀ (n3 : Nat) (x1 : Int32) (x2 : Int32) (ls : Array Slot), lv_has ls 4 [(0, .ref (ad 0)), (1, .int a1), (2, .int x1), (3, .int x2)] → gX7_countGroups_L4 M a1 n3 x1 x2 = res → W p l e R s m args below meth c H locs 0 0 Q (F0 m 4 ls []) := by
    intro n3
    induction n3 with
    | zero =>
      intro x1 x2 ls hl hg
      rw [gX7_countGroups_L4] at hg
      exact absurd hg.symm hne
    | succ n3 ih =>
      intro x1 x2 ls hl hg
      rw [gX7_countGroups_L4] at hg
      refine lv_iload_n hx hb dX7_countGroups_4 rfl (lv_at hl 3 rfl) ?_
      refine lv_bipush (v := 16) hx hb dX7_countGroups_5 (by decide) ?_
      refine lv_icmp_ge (tgt := 37) hx hb dX7_countGroups_7 (by decide) (fun c4 => ?_) (fun c4 => ?_)
      · have hg := if_t hg c4
        refine lv_iload_n hx hb dX7_countGroups_37 rfl (lv_at hl 2 rfl) ?_
        exact hret _ _ _ hg dX7_countGroups_38
      · have hg := if_f hg c4
        refine lv_aload_n hx hb dX7_countGroups_10 rfl (lv_at hl 0 rfl) ?_
        refine lv_iload_n hx hb dX7_countGroups_11 rfl (lv_at hl 3 rfl) ?_
        refine lv_iload_n hx hb dX7_countGroups_12 rfl (lv_at hl 1 rfl) ?_
        obtain ⟨r5, q6, hg⟩ := bd_e hg hne
        refine r_calli (W.runV (As := [.int x2, .int a1]) (rest := []) CX (ctX7_isReadBy l D sw cs ad X M x2 a1 q6) (cwV 2 hts (gwV m2_140 m2_142 mp1_11 m1_1 m2_143) rfl rfl rfl (by decide +kernel) ⟨Nat.le_trans (Nat.le_of_ble_eq_true rfl) hR.1, Nat.le_trans (Nat.le_of_ble_eq_true rfl) hR.2⟩) (rPreV hSW hK hP (by decide) rfl rfl _) rfl rfl hl.1 rfl (lv_room (Nat.le_of_ble_eq_true rfl)) dX7_countGroups_13 ⟨Nat.zero_le _, Nat.zero_le _⟩) ?_
        refine lv_if_eq (tgt := 31) hx hb dX7_countGroups_16 (by decide) (fun c7 => ?_) (fun c7 => ?_)
        · have hg := if_t hg c7
          obtain ⟨x8, hx8, hg⟩ := lt_e hg
          refine lv_iinc (v := x8) (lv' := [(3, .int x8), (0, .ref (ad 0)), (1, .int a1), (2, .int x1)]) hx hb dX7_countGroups_31 hl (k := 3) rfl (hx8.symm) (by decide) rfl (fun ls hl => ?_)
          refine lv_goto (tgt := 4) hx hb dX7_countGroups_34 (by decide) ?_
          exact ih _ _ _ (lv_sub hl [1, 2, 3, 0] rfl) hg
        · have hg := if_f hg c7
          refine lv_aload_n hx hb dX7_countGroups_19 rfl (lv_at hl 0 rfl) ?_
          refine lv_iload_n hx hb dX7_countGroups_20 rfl (lv_at hl 3 rfl) ?_
          refine lv_iload_n hx hb dX7_countGroups_21 rfl (lv_at hl 1 rfl) ?_
          obtain ⟨r9, q10, hg⟩ := bd_e hg hne
          refine r_calli (W.runV (As := [.int x2, .int a1]) (rest := []) CX (ctX7_isFirstOfItsGroup l D sw cs ad X M x2 a1 q10) (cwV 2 hts (gwV m2_144 m2_146 mp1_12 m1_1 m2_147) rfl rfl rfl (by decide +kernel) ⟨Nat.le_trans (Nat.le_of_ble_eq_true rfl) hR.1, Nat.le_trans (Nat.le_of_ble_eq_true rfl) hR.2⟩) (rPreV hSW hK hP (by decide) rfl rfl _) rfl rfl hl.1 rfl (lv_room (Nat.le_of_ble_eq_true rfl)) dX7_countGroups_22 ⟨Nat.zero_le _, Nat.zero_le _⟩) ?_
          refine lv_if_eq (tgt := 31) hx hb dX7_countGroups_25 (by decide) (fun c11 => ?_) (fun c11 => ?_)
          · have hg := if_t hg c11
            obtain ⟨x12, hx12, hg⟩ := lt_e hg
            refine lv_iinc (v := x12) (lv' := [(3, .int x12), (0, .ref (ad 0)), (1, .int a1), (2, .int x1)]) hx hb dX7_countGroups_31 hl (k := 3) rfl (hx12.symm) (by decide) rfl (fun ls hl => ?_)
            refine lv_goto (tgt := 4) hx hb dX7_countGroups_34 (by decide) ?_
            exact ih _ _ _ (lv_sub hl [1, 2, 3, 0] rfl) hg
          · have hg := if_f hg c11
            obtain ⟨x13, hx13, hg⟩ := lt_e hg
            refine lv_iinc (v := x13) (lv' := [(2, .int x13), (0, .ref (ad 0)), (1, .int a1), (3, .int x2)]) hx hb dX7_countGroups_28 hl (k := 2) rfl (hx13.symm) (by decide) rfl (fun ls hl => ?_)
            obtain ⟨x14, hx14, hg⟩ := lt_e hg
            refine lv_iinc (v := x14) (lv' := [(3, .int x14), (2, .int x13), (0, .ref (ad 0)), (1, .int a1)]) hx hb dX7_countGroups_31 hl (k := 3) rfl (hx14.symm) (by decide) rfl (fun ls hl => ?_)
            refine lv_goto (tgt := 4) hx hb dX7_countGroups_34 (by decide) ?_
            exact ih _ _ _ (lv_sub hl [2, 3, 1, 0] rfl) hg
  exact kL4_15 FU _ _ _ (lv_sub hl [2, 3, 1, 0] rfl) hg
theorem ctX7_countGroups (l : Launch) (D : va_G) (sw : Sw) (cs : Cs) (ad : Nat → Nat) (X : va_W) (M : Mm) (a1 : Int32) {r : Int32} (hq : gX7_countGroups M a1 = some r) : Met l yX7_countGroups wsX7_countGroups ({ frames := 4, cells := 0, slots := 0, locals := 89 }) (va_Pc [.ref (ad 0), .int a1] (rPre D sw cs LC NC ad M X)) (vp_Si (fun r' => r' = r)) 0 0 (fun _ => False) :=
  met_r rfl rfl (Nat.le_of_ble_eq_true rfl) (fun p e s m args below meth c ls CX hr hlk hK hSW hP hl => bX7_countGroups M a1 hq (by simp) CX ⟨Nat.le_refl _, Nat.le_refl _⟩ hK hSW hP hl (fun pc ls v hv dg => W.iret CX.1 CX.2.1 hr (fun t ht hW => ⟨_, rfl, Option.some.inj hv, ht⟩) (fun _ h => by cases h) dg))

abbrev wsX7_collectVariants : List Cond := Cond.code yX7_collectVariants cX7_collectVariants 4 none :: WG
def gX7_collectVariants_L22 (E11 : Mm → Int32 → Option Mm) : Nat → Mm → Int32 → Nat → Int32 → Option Mm
  | 0, _, _, _, _ => none
  | n18 + 1, M13, x14, v15, x17 => if (M13 1 1) ≤ x17 then (E11 M13 x14) else if (x17 < 0 ∨ 80 ≤ (x17).toNatClampNeg) then none else if (gX0_isToken (M13 2 (x17).toNatClampNeg)) = 0 then (lt (x17 + (1 : Int32)) fun x22 => gX7_collectVariants_L22 E11 n18 M13 x14 v15 x22) else bd (gX6_isPresent M13 x17 x14) fun r23 => if r23 = 0 then (lt (x17 + (1 : Int32)) fun x26 => gX7_collectVariants_L22 E11 n18 M13 x14 v15 x26) else if (x17 < 0 ∨ 80 ≤ (x17).toNatClampNeg) then none else bd (gX5_add M13 v15 (M13 2 (x17).toNatClampNeg) x17) fun M29 => lt (x17 + (1 : Int32)) fun x30 => gX7_collectVariants_L22 E11 n18 M29 x14 v15 x30
def gX7_collectVariants_L2 : Nat → Mm → Int32 → Option Mm
  | 0, _, _ => none
  | n3 + 1, M1, x2 => if (16 : Int32) ≤ x2 then (some M1) else if (x2 < 0 ∨ 16 ≤ (x2).toNatClampNeg) then none else lt ((x2).toNatClampNeg) fun v6 => lt (um M1 (vb v6) 2 (0 : Int32)) fun M8 => lt (fun (M9 : Mm) (x10 : Int32) => lt (x10 + (1 : Int32)) fun x12 => gX7_collectVariants_L2 n3 M9 x12) fun E11 => gX7_collectVariants_L22 E11 FU M8 x2 v6 (0 : Int32)
def gX7_collectVariants (M : Mm) : Option Mm := gX7_collectVariants_L2 FU M (0 : Int32)
set_option maxHeartbeats 4000000 in
set_option maxRecDepth 100000 in
theorem bX7_collectVariants {p : Program} {l : Launch} {e : Env} {R : Room} {s : State} {m : MethodId} {args : Array Value} {below : List Frame} {meth : Method} {c : Code} {H : Heap} {locs : List Loc} {Q : State → Prop} {D : va_G} {sw : Sw} {cs : Cs} {ad : Nat → Nat} {X : va_W} {A : Nat → Prop} (M : Mm) {res : Option Mm} (hg : gX7_collectVariants M = res) (hne : res ≠ none) (CX : CallFix p m c cX7_collectVariants 4 s args wsX7_collectVariants RX7) (hR : 2 ≤ R.frames ∧ 40 ≤ R.locals) (hK : va_K D vwCl (tysC cs) s) (hSW : SW sw A s s.heap) (hP : va_P D vwCl (wl cs LC NC ad M ++ X) H) (hD : va_D A (wl cs LC NC ad M ++ X)) (hS : va_S A s.heap H locs) (hA : ∀ q, s.heap.size ≤ q → A q) {ls : Array Slot} (hl : lv_has ls 4 [(0, .ref (ad 0))]) (hret : ∀ (pc : Nat) (ls : Array Slot) (H : Heap) (locs : List Loc) (M9 : Mm), some M9 = res → decode cX7_collectVariants pc = .ok (.return_, 1) → va_P D vwCl (wl cs LC NC ad M9 ++ X) H → va_D A (wl cs LC NC ad M9 ++ X) → va_S A s.heap H locs → W p l e R s m args below meth c H locs 0 0 Q (F0 m pc ls [])) : W p l e R s m args below meth c H locs 0 0 Q (F0 m 0 ls []) := by
  obtain ⟨hx, hb, hml, hown, hts⟩ := id CX
  have hw : ∀ w ∈ WG, w.before args s = true := fun w h => hts w (List.mem_cons_of_mem _ h)
  have lk_25 := hw _ m1_161
  have lk_132 := hw _ m1_143
  have lk_10 := hw _ m1_159
  have lk_55 := hw _ m1_39
  have lk_105 := hw _ m1_38
  have lk_19 := hw _ m1_160
  unfold gX7_collectVariants at hg
  refine lv_iconst (v := 0) hx hb dX7_collectVariants_0 (by decide) ?_
  refine lv_istore_n (lv' := [(1, .int (0 : Int32)), (0, .ref (ad 0))]) hx hb dX7_collectVariants_1 rfl hl (by decide) rfl (fun ls hl => ?_)
  have kL2_32 : ∀ (n3 : Nat) (M1 : Mm) (x2 : Int32) (H : Heap) (locs : List Loc) (ls : Array Slot), va_P D vwCl (wl cs LC NC ad M1 ++ X) H → va_D A (wl cs LC NC ad M1 ++ X) → va_S A s.heap H locs → lv_has ls 4 [(0, .ref (ad 0)), (1, .int x2)] → gX7_collectVariants_L2 n3 M1 x2 = res → W p l e R s m args below meth c H locs 0 0 Q (F0 m 2 ls []) := by
    intro n3
    induction n3 with
    | zero =>
      intro M1 x2 H locs ls hP hD hS hl hg
      rw [gX7_collectVariants_L2] at hg
      exact absurd hg.symm hne
    | succ n3 ih =>
      intro M1 x2 H locs ls hP hD hS hl hg
      rw [gX7_collectVariants_L2] at hg
      refine lv_iload_n hx hb dX7_collectVariants_2 rfl (lv_at hl 1 rfl) ?_
      refine lv_bipush (v := 16) hx hb dX7_collectVariants_3 (by decide) ?_
      refine lv_icmp_ge (tgt := 86) hx hb dX7_collectVariants_5 (by decide) (fun c4 => ?_) (fun c4 => ?_)
      · have hg := if_t hg c4
        exact hret _ _ _ _ _ hg dX7_collectVariants_86 hP hD hS
      · have hg := if_f hg c4
        refine lv_aload_n hx hb dX7_collectVariants_8 rfl (lv_at hl 0 rfl) ?_
        refine m_gr (C := RX7) (T := TX7) (n := 5) (ci := 5) hx hb hts in_RX7 hown hK hP (by decide) rfl rfl 2 (by decide) rfl lk_25 (fun _ h9 => h9) dX7_collectVariants_9 ?_
        refine lv_iload_n hx hb dX7_collectVariants_12 rfl (lv_at hl 1 rfl) ?_
        obtain ⟨b5, hg⟩ := ck_e hg hne
        obtain ⟨v6, hv6, hg⟩ := lt_e hg
        have h7 := ix_lt b5 hv6
        refine m_lq (k := 13) hx hb hK hP (by decide) rfl b5 dX7_collectVariants_13 ?_
        rw [← hv6]
        refine lv_astore_n (lv' := [(2, .ref (ad (vb v6))), (0, .ref (ad 0)), (1, .int x2)]) hx hb dX7_collectVariants_14 rfl hl (by decide) rfl (fun ls hl => ?_)
        refine lv_aload_n hx hb dX7_collectVariants_15 rfl (lv_at hl 0 rfl) ?_
        refine lv_iconst (v := 0) hx hb dX7_collectVariants_16 (by decide) ?_
        obtain ⟨M8, hM8, hg⟩ := lt_e hg
        refine m_pi (C := RX5) (T := TX5) (n := 5) (ci := 3) hx hb hts in_RX5 tyX5 tyX5_ok nmX5 hown hK hP hD hS (kC_v0 h7) (LC_VAR v6) rfl 2 (by decide) rfl lk_132 (fun _ h9 => h9) rfl rfl rfl dX7_collectVariants_17 hM8 (fun H locs hP hD hS => ?_)
        refine lv_iconst (v := 0) hx hb dX7_collectVariants_20 (by decide) ?_
        refine lv_istore_n (lv' := [(3, .int (0 : Int32)), (2, .ref (ad (vb v6))), (0, .ref (ad 0)), (1, .int x2)]) hx hb dX7_collectVariants_21 rfl hl (by decide) rfl (fun ls hl => ?_)
        obtain ⟨E11, hE11, hg⟩ := lf2 hg
        have kE11 : ∀ (M9 : Mm) (x10 : Int32) (H : Heap) (locs : List Loc) (ls : Array Slot), va_P D vwCl (wl cs LC NC ad M9 ++ X) H → va_D A (wl cs LC NC ad M9 ++ X) → va_S A s.heap H locs → lv_has ls 4 [(0, .ref (ad 0)), (1, .int x10)] → E11 M9 x10 = res → W p l e R s m args below meth c H locs 0 0 Q (F0 m 80 ls []) := by
          intro M9 x10 H locs ls hP hD hS hl hg
          rw [hE11] at hg
          obtain ⟨x12, hx12, hg⟩ := lt_e hg
          refine lv_iinc (v := x12) (lv' := [(1, .int x12), (0, .ref (ad 0))]) hx hb dX7_collectVariants_80 hl (k := 1) rfl (hx12.symm) (by decide) rfl (fun ls hl => ?_)
          refine lv_goto (tgt := 2) hx hb dX7_collectVariants_83 (by decide) ?_
          exact ih _ _ _ _ _ hP hD hS (lv_sub hl [1, 0] rfl) hg
        have kL22_31 : ∀ (n18 : Nat) (M13 : Mm) (x14 : Int32) (v15 : Nat) (h16 : v15 < 16) (x17 : Int32) (H : Heap) (locs : List Loc) (ls : Array Slot), va_P D vwCl (wl cs LC NC ad M13 ++ X) H → va_D A (wl cs LC NC ad M13 ++ X) → va_S A s.heap H locs → lv_has ls 4 [(0, .ref (ad 0)), (1, .int x14), (2, .ref (ad (vb v15))), (3, .int x17)] → gX7_collectVariants_L22 E11 n18 M13 x14 v15 x17 = res → W p l e R s m args below meth c H locs 0 0 Q (F0 m 22 ls []) := by
          intro n18
          induction n18 with
          | zero =>
            intro M13 x14 v15 h16 x17 H locs ls hP hD hS hl hg
            rw [gX7_collectVariants_L22] at hg
            exact absurd hg.symm hne
          | succ n18 ih =>
            intro M13 x14 v15 h16 x17 H locs ls hP hD hS hl hg
            rw [gX7_collectVariants_L22] at hg
            refine lv_iload_n hx hb dX7_collectVariants_22 rfl (lv_at hl 3 rfl) ?_
            refine lv_aload_n hx hb dX7_collectVariants_23 rfl (lv_at hl 0 rfl) ?_
            refine m_gr (C := RX7) (T := TX7) (n := 5) (ci := 5) hx hb hts in_RX7 hown hK hP (by decide) rfl rfl 0 (by decide) rfl lk_10 (fun _ h9 => h9) dX7_collectVariants_24 ?_
            refine m_gi (C := RX4) (T := TX4) (n := 2) (ci := 2) hx hb hts in_RX4 hown hK hP (by decide) rfl rfl 1 (by decide) rfl lk_55 (fun _ h9 => h9) dX7_collectVariants_27 ?_
            refine lv_icmp_ge (tgt := 80) hx hb dX7_collectVariants_30 (by decide) (fun c19 => ?_) (fun c19 => ?_)
            · have hg := if_t hg c19
              exact kE11 _ _ _ _ _ hP hD hS (lv_sub hl [0, 1] rfl) hg
            · have hg := if_f hg c19
              refine lv_aload_n hx hb dX7_collectVariants_33 rfl (lv_at hl 0 rfl) ?_
              refine m_gr (C := RX7) (T := TX7) (n := 5) (ci := 5) hx hb hts in_RX7 hown hK hP (by decide) rfl rfl 0 (by decide) rfl lk_10 (fun _ h9 => h9) dX7_collectVariants_34 ?_
              refine m_gr (C := RX4) (T := TX4) (n := 2) (ci := 2) hx hb hts in_RX4 hown hK hP (by decide) rfl rfl 0 (by decide) rfl lk_105 (fun _ h9 => h9) dX7_collectVariants_37 ?_
              refine lv_iload_n hx hb dX7_collectVariants_40 rfl (lv_at hl 3 rfl) ?_
              obtain ⟨b20, hg⟩ := ck_e hg hne
              refine m_ld hx hb hK hP (by decide) rfl b20 dX7_collectVariants_41 ?_
              refine r_calli (W.runS (As := [.int (M13 2 (x17).toNatClampNeg)]) (rest := []) CX (ctX0_isToken l (M13 2 (x17).toNatClampNeg)) (va_cwS 1 hts (gwS m1_182 m1_183 m1_11 m1_184) rfl rfl rfl (by decide +kernel) ⟨Nat.le_trans (Nat.le_of_ble_eq_true rfl) hR.1, Nat.le_trans (Nat.le_of_ble_eq_true rfl) hR.2⟩) (pPreS _) rfl rfl hl.1 rfl (lv_room (Nat.le_of_ble_eq_true rfl)) dX7_collectVariants_42 ⟨Nat.zero_le _, Nat.zero_le _⟩) ?_
              refine lv_if_eq (tgt := 74) hx hb dX7_collectVariants_45 (by decide) (fun c21 => ?_) (fun c21 => ?_)
              · have hg := if_t hg c21
                obtain ⟨x22, hx22, hg⟩ := lt_e hg
                refine lv_iinc (v := x22) (lv' := [(3, .int x22), (0, .ref (ad 0)), (1, .int x14), (2, .ref (ad (vb v15)))]) hx hb dX7_collectVariants_74 hl (k := 3) rfl (hx22.symm) (by decide) rfl (fun ls hl => ?_)
                refine lv_goto (tgt := 22) hx hb dX7_collectVariants_77 (by decide) ?_
                exact ih _ _ _ h16 _ _ _ _ hP hD hS (lv_sub hl [1, 2, 3, 0] rfl) hg
              · have hg := if_f hg c21
                refine lv_aload_n hx hb dX7_collectVariants_48 rfl (lv_at hl 0 rfl) ?_
                refine m_gr (C := RX7) (T := TX7) (n := 5) (ci := 5) hx hb hts in_RX7 hown hK hP (by decide) rfl rfl 1 (by decide) rfl lk_19 (fun _ h9 => h9) dX7_collectVariants_49 ?_
                refine lv_iload_n hx hb dX7_collectVariants_52 rfl (lv_at hl 3 rfl) ?_
                refine lv_iload_n hx hb dX7_collectVariants_53 rfl (lv_at hl 1 rfl) ?_
                obtain ⟨r23, q24, hg⟩ := bd_e hg hne
                refine r_calli (W.runV (As := [.int x17, .int x14]) (rest := []) CX (ctX6_isPresent l D sw cs ad X M13 x17 x14 q24) (cwV 2 hts (gwV m2_111 m2_112 m2_113 m1_3 m2_114) rfl rfl rfl (by decide +kernel) ⟨Nat.le_trans (Nat.le_of_ble_eq_true rfl) hR.1, Nat.le_trans (Nat.le_of_ble_eq_true rfl) hR.2⟩) (rPreV (hSW.wr hS) hK hP (by decide) rfl rfl _) rfl rfl hl.1 rfl (lv_room (Nat.le_of_ble_eq_true rfl)) dX7_collectVariants_54 ⟨Nat.zero_le _, Nat.zero_le _⟩) ?_
                refine lv_if_eq (tgt := 74) hx hb dX7_collectVariants_57 (by decide) (fun c25 => ?_) (fun c25 => ?_)
                · have hg := if_t hg c25
                  obtain ⟨x26, hx26, hg⟩ := lt_e hg
                  refine lv_iinc (v := x26) (lv' := [(3, .int x26), (0, .ref (ad 0)), (1, .int x14), (2, .ref (ad (vb v15)))]) hx hb dX7_collectVariants_74 hl (k := 3) rfl (hx26.symm) (by decide) rfl (fun ls hl => ?_)
                  refine lv_goto (tgt := 22) hx hb dX7_collectVariants_77 (by decide) ?_
                  exact ih _ _ _ h16 _ _ _ _ hP hD hS (lv_sub hl [1, 2, 3, 0] rfl) hg
                · have hg := if_f hg c25
                  refine lv_aload_n hx hb dX7_collectVariants_60 rfl (lv_at hl 2 rfl) ?_
                  refine lv_aload_n hx hb dX7_collectVariants_61 rfl (lv_at hl 0 rfl) ?_
                  refine m_gr (C := RX7) (T := TX7) (n := 5) (ci := 5) hx hb hts in_RX7 hown hK hP (by decide) rfl rfl 0 (by decide) rfl lk_10 (fun _ h9 => h9) dX7_collectVariants_62 ?_
                  refine m_gr (C := RX4) (T := TX4) (n := 2) (ci := 2) hx hb hts in_RX4 hown hK hP (by decide) rfl rfl 0 (by decide) rfl lk_105 (fun _ h9 => h9) dX7_collectVariants_65 ?_
                  refine lv_iload_n hx hb dX7_collectVariants_68 rfl (lv_at hl 3 rfl) ?_
                  obtain ⟨b27, hg⟩ := ck_e hg hne
                  refine m_ld hx hb hK hP (by decide) rfl b27 dX7_collectVariants_69 ?_
                  refine lv_iload_n hx hb dX7_collectVariants_70 rfl (lv_at hl 3 rfl) ?_
                  obtain ⟨M29, q28, hg⟩ := bd_e hg hne
                  refine w_callv (va_runV (As := [.int (M13 2 (x17).toNatClampNeg), .int x17]) (rest := []) CX (ctX5_add l D sw cs ad X H.size M13 v15 h16 (M13 2 (x17).toNatClampNeg) x17 q28) (cwV 2 hts (gwV m2_115 m2_116 m2_117 m1_4 m2_118) rfl rfl rfl (by decide +kernel) ⟨Nat.le_trans (Nat.le_of_ble_eq_true rfl) hR.1, Nat.le_trans (Nat.le_of_ble_eq_true rfl) hR.2⟩) (wPreV hSW hS hA hK hP hD (kC_v0 h16) (LC_VAR v15) rfl _) rfl rfl hl.1 rfl (lv_room (Nat.le_of_ble_eq_true rfl)) dX7_collectVariants_71 ⟨Nat.zero_le _, Nat.zero_le _⟩) hD hS hA (fun H locs hP hD hS => ?_)
                  obtain ⟨x30, hx30, hg⟩ := lt_e hg
                  refine lv_iinc (v := x30) (lv' := [(3, .int x30), (0, .ref (ad 0)), (1, .int x14), (2, .ref (ad (vb v15)))]) hx hb dX7_collectVariants_74 hl (k := 3) rfl (hx30.symm) (by decide) rfl (fun ls hl => ?_)
                  refine lv_goto (tgt := 22) hx hb dX7_collectVariants_77 (by decide) ?_
                  exact ih _ _ _ h16 _ _ _ _ hP hD hS (lv_sub hl [1, 2, 3, 0] rfl) hg
        exact kL22_31 FU _ _ _ h7 _ _ _ _ hP hD hS (lv_sub hl [2, 3, 1, 0] rfl) hg
  exact kL2_32 FU _ _ _ _ _ hP hD hS (lv_sub hl [1, 0] rfl) hg
theorem ctX7_collectVariants (l : Launch) (D : va_G) (sw : Sw) (cs : Cs) (ad : Nat → Nat) (X : va_W) (sz : Nat) (M : Mm) {M1 : Mm} (hq : gX7_collectVariants M = some M1) : Met l yX7_collectVariants wsX7_collectVariants ({ frames := 2, cells := 0, slots := 0, locals := 40 }) (va_Pc [.ref (ad 0)] (wPre D sw cs LC NC ad M X sz)) (wQv D cs LC NC ad M1 X sz) 0 0 (wA NC ad X sz) :=
  met_w rfl rfl (Nat.le_of_ble_eq_true rfl) (fun p e s m args below meth c ls CX hr hlk hK hSW hP hD hS hA hl => bX7_collectVariants M hq (by simp) CX ⟨Nat.le_refl _, Nat.le_refl _⟩ hK hSW hP hD hS hA hl (fun pc ls H locs M9 hv dg hP hD hS => W.vret CX.1 CX.2.1 hr (fun t ht hW => ⟨⟨(), rfl, trivial, wpost hP ht (Option.some.inj hv)⟩, hS.F ht⟩) hS.2.2 dg))
