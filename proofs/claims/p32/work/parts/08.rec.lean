abbrev wsX3_runStatements : List Cond := Cond.code yX3_runStatements cX3_runStatements 4 none :: WG
abbrev wsX3_runStatement : List Cond := Cond.code yX3_runStatement cX3_runStatement 5 none :: WG
abbrev wsX3_runChoice : List Cond := Cond.code yX3_runChoice cX3_runChoice 4 none :: WG
abbrev wsX3_sum : List Cond := Cond.code yX3_sum cX3_sum 4 (some .int) :: WG
abbrev wsX3_product : List Cond := Cond.code yX3_product cX3_product 4 (some .int) :: WG
abbrev wsX3_factor : List Cond := Cond.code yX3_factor cX3_factor 4 (some .int) :: WG
abbrev wsX3_operand : List Cond := Cond.code yX3_operand cX3_operand 4 (some .int) :: WG
def gX3_runStatements_L2 (rec : Nat → Mm → Int32 → Int32 → Option (Int32 × Mm)) (v0 : Nat) (a1 : Int32) (a2 : Int32) : Nat → Mm → Int32 → Option Mm
  | 0, _, _ => none
  | n3 + 1, M1, x2 => if (80 : Int32) ≤ x2 then (some M1) else bd (gX3_peek M1 v0) fun r5 => if (gX0_canBeginStatement r5) = 0 then (some M1) else bd2 (rec 1 M1 a1 a2) fun r10 M9 => lt (x2 + (1 : Int32)) fun x11 => gX3_runStatements_L2 rec v0 a1 a2 n3 M9 x11
def gX3_runStatements (rec : Nat → Mm → Int32 → Int32 → Option (Int32 × Mm)) (M : Mm) (v0 : Nat) (a1 : Int32) (a2 : Int32) : Option Mm := gX3_runStatements_L2 rec v0 a1 a2 FU M (0 : Int32)
set_option maxHeartbeats 4000000 in
set_option maxRecDepth 100000 in
theorem bX3_runStatements {p : Program} {l : Launch} {e : Env} {R : Room} {s : State} {m : MethodId} {args : Array Value} {below : List Frame} {meth : Method} {c : Code} {H : Heap} {locs : List Loc} {Q : State → Prop} {D : va_G} {sw : Sw} {cs : Cs} {ad : Nat → Nat} {X : va_W} {A : Nat → Prop} (rec : Nat → Mm → Int32 → Int32 → Option (Int32 × Mm)) (M : Mm) (v0 : Nat) (hv0 : v0 < 16) (a1 : Int32) (a2 : Int32) {d : Nat} (h1 : ∀ (X : va_W) (sz : Nat) (M : Mm) (a1 a2 : Int32) (r : Int32) (M1 : Mm), rec 1 M a1 a2 = some (r, M1) → Met l yX3_runStatement wsX3_runStatement ({ frames := 2 + d, cells := 0, slots := 0, locals := 42 + 24 * d }) (va_Pc [.ref (ad (vb v0 + 6)), .int a1, .int a2] (wPre D sw cs LC NC ad M X sz)) (wQv D cs LC NC ad M1 X sz) 0 0 (wA NC ad X sz)) {res : Option Mm} (hg : gX3_runStatements rec M v0 a1 a2 = res) (hne : res ≠ none) (CX : CallFix p m c cX3_runStatements 4 s args wsX3_runStatements RX3) (hR : 1 ≤ R.frames ∧ 20 ≤ R.locals) (hR2 : 2 + d + 1 ≤ R.frames ∧ 24 + (42 + 24 * d) ≤ R.locals) (hK : va_K D vwCl (tysC cs) s) (hSW : SW sw A s s.heap) (hP : va_P D vwCl (wl cs LC NC ad M ++ X) H) (hD : va_D A (wl cs LC NC ad M ++ X)) (hS : va_S A s.heap H locs) (hA : ∀ q, s.heap.size ≤ q → A q) {ls : Array Slot} (hl : lv_has ls 4 [(0, .ref (ad (vb v0 + 6))), (1, .int a1), (2, .int a2)]) (hret : ∀ (pc : Nat) (ls : Array Slot) (H : Heap) (locs : List Loc) (M9 : Mm), some M9 = res → decode cX3_runStatements pc = .ok (.return_, 1) → va_P D vwCl (wl cs LC NC ad M9 ++ X) H → va_D A (wl cs LC NC ad M9 ++ X) → va_S A s.heap H locs → W p l e R s m args below meth c H locs 0 0 Q (F0 m pc ls [])) : W p l e R s m args below meth c H locs 0 0 Q (F0 m 0 ls []) := by
  obtain ⟨hx, hb, hml, hown, hts⟩ := id CX
  have hw : ∀ w ∈ WG, w.before args s = true := fun w h => hts w (List.mem_cons_of_mem _ h)
  unfold gX3_runStatements at hg
  refine lv_iconst (v := 0) hx hb dX3_runStatements_0 (by decide) ?_
  refine lv_istore_n (lv' := [(3, .int (0 : Int32)), (0, .ref (ad (vb v0 + 6))), (1, .int a1), (2, .int a2)]) hx hb dX3_runStatements_1 rfl hl (by decide) rfl (fun ls hl => ?_)
  have kL2_12 : ∀ (n3 : Nat) (M1 : Mm) (x2 : Int32) (H : Heap) (locs : List Loc) (ls : Array Slot), va_P D vwCl (wl cs LC NC ad M1 ++ X) H → va_D A (wl cs LC NC ad M1 ++ X) → va_S A s.heap H locs → lv_has ls 4 [(0, .ref (ad (vb v0 + 6))), (1, .int a1), (2, .int a2), (3, .int x2)] → gX3_runStatements_L2 rec v0 a1 a2 n3 M1 x2 = res → W p l e R s m args below meth c H locs 0 0 Q (F0 m 2 ls []) := by
    intro n3
    induction n3 with
    | zero =>
      intro M1 x2 H locs ls hP hD hS hl hg
      rw [gX3_runStatements_L2] at hg
      exact absurd hg.symm hne
    | succ n3 ih =>
      intro M1 x2 H locs ls hP hD hS hl hg
      rw [gX3_runStatements_L2] at hg
      refine lv_iload_n hx hb dX3_runStatements_2 rfl (lv_at hl 3 rfl) ?_
      refine lv_bipush (v := 80) hx hb dX3_runStatements_3 (by decide) ?_
      refine lv_icmp_ge (tgt := 30) hx hb dX3_runStatements_5 (by decide) (fun c4 => ?_) (fun c4 => ?_)
      · have hg := if_t hg c4
        exact hret _ _ _ _ _ hg dX3_runStatements_30 hP hD hS
      · have hg := if_f hg c4
        refine lv_aload_n hx hb dX3_runStatements_8 rfl (lv_at hl 0 rfl) ?_
        obtain ⟨r5, q6, hg⟩ := bd_e hg hne
        refine r_calli (W.runV (As := []) (rest := []) CX (ctX3_peek l D sw cs ad X M1 v0 hv0 q6) (cwV 0 hts (gwV m3_15 m3_17 mp2_0 m1_6 m3_18) rfl rfl rfl (by decide +kernel) ⟨Nat.le_trans (Nat.le_of_ble_eq_true rfl) hR.1, Nat.le_trans (Nat.le_of_ble_eq_true rfl) hR.2⟩) (rPreV (hSW.wr hS) hK hP (kC_v (j := 6) hv0 (by decide)) (LC_RUN v0) rfl _) rfl rfl hl.1 rfl (lv_room (Nat.le_of_ble_eq_true rfl)) dX3_runStatements_9 ⟨Nat.zero_le _, Nat.zero_le _⟩) ?_
        refine r_calli (W.runS (As := [.int r5]) (rest := []) CX (ctX0_canBeginStatement l r5) (va_cwS 1 hts (gwS m3_19 m2_173 m1_11 m2_174) rfl rfl rfl (by decide +kernel) ⟨Nat.le_trans (Nat.le_of_ble_eq_true rfl) hR.1, Nat.le_trans (Nat.le_of_ble_eq_true rfl) hR.2⟩) (pPreS _) rfl rfl hl.1 rfl (lv_room (Nat.le_of_ble_eq_true rfl)) dX3_runStatements_12 ⟨Nat.zero_le _, Nat.zero_le _⟩) ?_
        refine lv_if_eq (tgt := 30) hx hb dX3_runStatements_15 (by decide) (fun c7 => ?_) (fun c7 => ?_)
        · have hg := if_t hg c7
          exact hret _ _ _ _ _ hg dX3_runStatements_30 hP hD hS
        · have hg := if_f hg c7
          refine lv_aload_n hx hb dX3_runStatements_18 rfl (lv_at hl 0 rfl) ?_
          refine lv_iload_n hx hb dX3_runStatements_19 rfl (lv_at hl 1 rfl) ?_
          refine lv_iload_n hx hb dX3_runStatements_20 rfl (lv_at hl 2 rfl) ?_
          obtain ⟨r10, M9, q8, hg⟩ := bd2_e hg hne
          refine w_callv (va_runV (As := [.int a1, .int a2]) (rest := []) CX (h1 X H.size M1 _ _ r10 M9 q8) (cwV 2 hts (gwV m3_20 m3_22 mp2_1 m1_6 m3_23) rfl rfl rfl (by decide +kernel) ⟨hR2.1, Nat.le_trans (Nat.add_le_add_right (Nat.le_of_ble_eq_true rfl) _) hR2.2⟩) (wPreV hSW hS hA hK hP hD (kC_v (j := 6) hv0 (by decide)) (LC_RUN v0) rfl _) rfl rfl hl.1 rfl (lv_room (Nat.le_of_ble_eq_true rfl)) dX3_runStatements_21 ⟨Nat.zero_le _, Nat.zero_le _⟩) hD hS hA (fun H locs hP hD hS => ?_)
          obtain ⟨x11, hx11, hg⟩ := lt_e hg
          refine lv_iinc (v := x11) (lv' := [(3, .int x11), (0, .ref (ad (vb v0 + 6))), (1, .int a1), (2, .int a2)]) hx hb dX3_runStatements_24 hl (k := 3) rfl (hx11.symm) (by decide) rfl (fun ls hl => ?_)
          refine lv_goto (tgt := 2) hx hb dX3_runStatements_27 (by decide) ?_
          exact ih _ _ _ _ _ hP hD hS (lv_sub hl [1, 2, 3, 0] rfl) hg
  exact kL2_12 FU _ _ _ _ _ hP hD hS (lv_sub hl [1, 2, 3, 0] rfl) hg

def gX3_runStatement (rec : Nat → Mm → Int32 → Int32 → Option (Int32 × Mm)) (M : Mm) (v0 : Nat) (a1 : Int32) (a2 : Int32) : Option Mm := if a2 ≤ (40 : Int32) then (bd2 (gX3_advance M v0) fun r4 M3 => if r4 = (123 : Int32) then (bd2 (rec 0 M3 a1 (a2 + (1 : Int32))) fun r34 M33 => bd2 (gX3_advance M33 v0) fun r37 M36 => some M36) else if r4 = (63 : Int32) then (bd2 (rec 2 M3 a1 (a2 + (1 : Int32))) fun r31 M30 => some M30) else if r4 = (33 : Int32) then (bd2 (rec 3 M3 a2 0) fun r22 M21 => bd2 (gX3_advance M21 v0) fun r25 M24 => if a1 = 0 then (some M24) else bd (gX3_put M24 v0 r22) fun M28 => some M28) else bd2 (gX3_advance M3 v0) fun r10 M9 => bd2 (rec 3 M9 a2 0) fun r13 M12 => bd2 (gX3_advance M12 v0) fun r16 M15 => if a1 = 0 then (some M15) else bd (gX3_assign M15 v0 r4 r13) fun M19 => some M19) else some M
set_option maxHeartbeats 4000000 in
set_option maxRecDepth 100000 in
theorem bX3_runStatement {p : Program} {l : Launch} {e : Env} {R : Room} {s : State} {m : MethodId} {args : Array Value} {below : List Frame} {meth : Method} {c : Code} {H : Heap} {locs : List Loc} {Q : State → Prop} {D : va_G} {sw : Sw} {cs : Cs} {ad : Nat → Nat} {X : va_W} {A : Nat → Prop} (rec : Nat → Mm → Int32 → Int32 → Option (Int32 × Mm)) (M : Mm) (v0 : Nat) (hv0 : v0 < 16) (a1 : Int32) (a2 : Int32) {d : Nat} (h0 : ∀ (X : va_W) (sz : Nat) (M : Mm) (a1 a2 : Int32) (r : Int32) (M1 : Mm), rec 0 M a1 a2 = some (r, M1) → Met l yX3_runStatements wsX3_runStatements ({ frames := 2 + d, cells := 0, slots := 0, locals := 42 + 24 * d }) (va_Pc [.ref (ad (vb v0 + 6)), .int a1, .int a2] (wPre D sw cs LC NC ad M X sz)) (wQv D cs LC NC ad M1 X sz) 0 0 (wA NC ad X sz)) (h2 : ∀ (X : va_W) (sz : Nat) (M : Mm) (a1 a2 : Int32) (r : Int32) (M1 : Mm), rec 2 M a1 a2 = some (r, M1) → Met l yX3_runChoice wsX3_runChoice ({ frames := 2 + d, cells := 0, slots := 0, locals := 42 + 24 * d }) (va_Pc [.ref (ad (vb v0 + 6)), .int a1, .int a2] (wPre D sw cs LC NC ad M X sz)) (wQv D cs LC NC ad M1 X sz) 0 0 (wA NC ad X sz)) (h3 : ∀ (X : va_W) (sz : Nat) (M : Mm) (a1 a2 : Int32) (r : Int32) (M1 : Mm), rec 3 M a1 a2 = some (r, M1) → Met l yX3_sum wsX3_sum ({ frames := 2 + d, cells := 0, slots := 0, locals := 42 + 24 * d }) (va_Pc [.ref (ad (vb v0 + 6)), .int a1] (wPre D sw cs LC NC ad M X sz)) (wQi D cs LC NC ad M1 X sz r) 0 0 (wA NC ad X sz)) {res : Option Mm} (hg : gX3_runStatement rec M v0 a1 a2 = res) (hne : res ≠ none) (CX : CallFix p m c cX3_runStatement 5 s args wsX3_runStatement RX3) (hR : 2 ≤ R.frames ∧ 42 ≤ R.locals) (hR2 : 2 + d + 1 ≤ R.frames ∧ 24 + (42 + 24 * d) ≤ R.locals) (hK : va_K D vwCl (tysC cs) s) (hSW : SW sw A s s.heap) (hP : va_P D vwCl (wl cs LC NC ad M ++ X) H) (hD : va_D A (wl cs LC NC ad M ++ X)) (hS : va_S A s.heap H locs) (hA : ∀ q, s.heap.size ≤ q → A q) {ls : Array Slot} (hl : lv_has ls 5 [(0, .ref (ad (vb v0 + 6))), (1, .int a1), (2, .int a2)]) (hret : ∀ (pc : Nat) (ls : Array Slot) (H : Heap) (locs : List Loc) (M9 : Mm), some M9 = res → decode cX3_runStatement pc = .ok (.return_, 1) → va_P D vwCl (wl cs LC NC ad M9 ++ X) H → va_D A (wl cs LC NC ad M9 ++ X) → va_S A s.heap H locs → W p l e R s m args below meth c H locs 0 0 Q (F0 m pc ls [])) : W p l e R s m args below meth c H locs 0 0 Q (F0 m 0 ls []) := by
  obtain ⟨hx, hb, hml, hown, hts⟩ := id CX
  have hw : ∀ w ∈ WG, w.before args s = true := fun w h => hts w (List.mem_cons_of_mem _ h)
  unfold gX3_runStatement at hg
  refine lv_iload_n hx hb dX3_runStatement_0 rfl (lv_at hl 2 rfl) ?_
  refine lv_bipush (v := 40) hx hb dX3_runStatement_1 (by decide) ?_
  refine lv_icmp_le (tgt := 7) hx hb dX3_runStatement_3 (by decide) (fun c1 => ?_) (fun c1 => ?_)
  · have hg := if_t hg c1
    refine lv_aload_n hx hb dX3_runStatement_7 rfl (lv_at hl 0 rfl) ?_
    obtain ⟨r4, M3, q2, hg⟩ := bd2_e hg hne
    refine w_calli (va_runV (As := []) (rest := []) CX (ctX3_advance l D sw cs ad X H.size M v0 hv0 q2) (cwV 0 hts (gwV m3_24 m3_26 mp2_2 m1_6 m3_27) rfl rfl rfl (by decide +kernel) ⟨Nat.le_trans (Nat.le_of_ble_eq_true rfl) hR.1, Nat.le_trans (Nat.le_of_ble_eq_true rfl) hR.2⟩) (wPreV hSW hS hA hK hP hD (kC_v (j := 6) hv0 (by decide)) (LC_RUN v0) rfl _) rfl rfl hl.1 rfl (lv_room (Nat.le_of_ble_eq_true rfl)) dX3_runStatement_8 ⟨Nat.zero_le _, Nat.zero_le _⟩) hD hS hA (fun H locs hP hD hS => ?_)
    refine lv_istore_n (lv' := [(3, .int r4), (0, .ref (ad (vb v0 + 6))), (1, .int a1), (2, .int a2)]) hx hb dX3_runStatement_11 rfl hl (by decide) rfl (fun ls hl => ?_)
    refine lv_iload_n hx hb dX3_runStatement_12 rfl (lv_at hl 0 rfl) ?_
    refine lv_bipush (v := 123) hx hb dX3_runStatement_13 (by decide) ?_
    refine lv_icmp_ne (tgt := 34) hx hb dX3_runStatement_15 (by decide) (fun c5 => ?_) (fun c5 => ?_)
    · have hg := if_f hg c5
      refine lv_iload_n hx hb dX3_runStatement_34 rfl (lv_at hl 0 rfl) ?_
      refine lv_bipush (v := 63) hx hb dX3_runStatement_35 (by decide) ?_
      refine lv_icmp_ne (tgt := 51) hx hb dX3_runStatement_37 (by decide) (fun c6 => ?_) (fun c6 => ?_)
      · have hg := if_f hg c6
        refine lv_iload_n hx hb dX3_runStatement_51 rfl (lv_at hl 0 rfl) ?_
        refine lv_bipush (v := 33) hx hb dX3_runStatement_52 (by decide) ?_
        refine lv_icmp_ne (tgt := 82) hx hb dX3_runStatement_54 (by decide) (fun c7 => ?_) (fun c7 => ?_)
        · have hg := if_f hg c7
          refine lv_aload_n hx hb dX3_runStatement_82 rfl (lv_at hl 1 rfl) ?_
          obtain ⟨r10, M9, q8, hg⟩ := bd2_e hg hne
          refine w_calli (va_runV (As := []) (rest := []) CX (ctX3_advance l D sw cs ad X H.size M3 v0 hv0 q8) (cwV 0 hts (gwV m3_24 m3_26 mp2_2 m1_6 m3_27) rfl rfl rfl (by decide +kernel) ⟨Nat.le_trans (Nat.le_of_ble_eq_true rfl) hR.1, Nat.le_trans (Nat.le_of_ble_eq_true rfl) hR.2⟩) (wPreV hSW hS hA hK hP hD (kC_v (j := 6) hv0 (by decide)) (LC_RUN v0) rfl _) rfl rfl hl.1 rfl (lv_room (Nat.le_of_ble_eq_true rfl)) dX3_runStatement_83 ⟨Nat.zero_le _, Nat.zero_le _⟩) hD hS hA (fun H locs hP hD hS => ?_)
          refine lv_pop hx hb dX3_runStatement_86 rfl ?_
          refine lv_aload_n hx hb dX3_runStatement_87 rfl (lv_at hl 1 rfl) ?_
          refine lv_iload_n hx hb dX3_runStatement_88 rfl (lv_at hl 3 rfl) ?_
          obtain ⟨r13, M12, q11, hg⟩ := bd2_e hg hne
          refine w_calli (va_runV (As := [.int a2]) (rest := []) CX (h3 X H.size M9 _ _ r13 M12 q11) (cwV 1 hts (gwV m3_32 m3_34 mp2_4 m1_6 m3_35) rfl rfl rfl (by decide +kernel) ⟨hR2.1, Nat.le_trans (Nat.add_le_add_right (Nat.le_of_ble_eq_true rfl) _) hR2.2⟩) (wPreV hSW hS hA hK hP hD (kC_v (j := 6) hv0 (by decide)) (LC_RUN v0) rfl _) rfl rfl hl.1 rfl (lv_room (Nat.le_of_ble_eq_true rfl)) dX3_runStatement_89 ⟨Nat.zero_le _, Nat.zero_le _⟩) hD hS hA (fun H locs hP hD hS => ?_)
          refine lv_istore (lv' := [(4, .int r13), (3, .int r4), (0, .ref (ad (vb v0 + 6))), (1, .int a1), (2, .int a2)]) hx hb dX3_runStatement_92 hl (by decide) rfl (fun ls hl => ?_)
          refine lv_aload_n hx hb dX3_runStatement_94 rfl (lv_at hl 2 rfl) ?_
          obtain ⟨r16, M15, q14, hg⟩ := bd2_e hg hne
          refine w_calli (va_runV (As := []) (rest := []) CX (ctX3_advance l D sw cs ad X H.size M12 v0 hv0 q14) (cwV 0 hts (gwV m3_24 m3_26 mp2_2 m1_6 m3_27) rfl rfl rfl (by decide +kernel) ⟨Nat.le_trans (Nat.le_of_ble_eq_true rfl) hR.1, Nat.le_trans (Nat.le_of_ble_eq_true rfl) hR.2⟩) (wPreV hSW hS hA hK hP hD (kC_v (j := 6) hv0 (by decide)) (LC_RUN v0) rfl _) rfl rfl hl.1 rfl (lv_room (Nat.le_of_ble_eq_true rfl)) dX3_runStatement_95 ⟨Nat.zero_le _, Nat.zero_le _⟩) hD hS hA (fun H locs hP hD hS => ?_)
          refine lv_pop hx hb dX3_runStatement_98 rfl ?_
          refine lv_iload_n hx hb dX3_runStatement_99 rfl (lv_at hl 3 rfl) ?_
          refine lv_if_eq (tgt := 110) hx hb dX3_runStatement_100 (by decide) (fun c17 => ?_) (fun c17 => ?_)
          · have hg := if_t hg c17
            exact hret _ _ _ _ _ hg dX3_runStatement_110 hP hD hS
          · have hg := if_f hg c17
            refine lv_aload_n hx hb dX3_runStatement_103 rfl (lv_at hl 2 rfl) ?_
            refine lv_iload_n hx hb dX3_runStatement_104 rfl (lv_at hl 1 rfl) ?_
            refine lv_iload hx hb dX3_runStatement_105 (lv_at hl 0 rfl) ?_
            obtain ⟨M19, q18, hg⟩ := bd_e hg hne
            refine w_callv (va_runV (As := [.int r4, .int r13]) (rest := []) CX (ctX3_assign l D sw cs ad X H.size M15 v0 hv0 r4 r13 q18) (cwV 2 hts (gwV m3_54 m3_56 mp2_9 m1_6 m3_57) rfl rfl rfl (by decide +kernel) ⟨Nat.le_trans (Nat.le_of_ble_eq_true rfl) hR.1, Nat.le_trans (Nat.le_of_ble_eq_true rfl) hR.2⟩) (wPreV hSW hS hA hK hP hD (kC_v (j := 6) hv0 (by decide)) (LC_RUN v0) rfl _) rfl rfl hl.1 rfl (lv_room (Nat.le_of_ble_eq_true rfl)) dX3_runStatement_107 ⟨Nat.zero_le _, Nat.zero_le _⟩) hD hS hA (fun H locs hP hD hS => ?_)
            exact hret _ _ _ _ _ hg dX3_runStatement_110 hP hD hS
        · have hg := if_t hg c7
          refine lv_aload_n hx hb dX3_runStatement_57 rfl (lv_at hl 1 rfl) ?_
          refine lv_iload_n hx hb dX3_runStatement_58 rfl (lv_at hl 3 rfl) ?_
          obtain ⟨r22, M21, q20, hg⟩ := bd2_e hg hne
          refine w_calli (va_runV (As := [.int a2]) (rest := []) CX (h3 X H.size M3 _ _ r22 M21 q20) (cwV 1 hts (gwV m3_32 m3_34 mp2_4 m1_6 m3_35) rfl rfl rfl (by decide +kernel) ⟨hR2.1, Nat.le_trans (Nat.add_le_add_right (Nat.le_of_ble_eq_true rfl) _) hR2.2⟩) (wPreV hSW hS hA hK hP hD (kC_v (j := 6) hv0 (by decide)) (LC_RUN v0) rfl _) rfl rfl hl.1 rfl (lv_room (Nat.le_of_ble_eq_true rfl)) dX3_runStatement_59 ⟨Nat.zero_le _, Nat.zero_le _⟩) hD hS hA (fun H locs hP hD hS => ?_)
          refine lv_istore (lv' := [(4, .int r22), (3, .int r4), (0, .ref (ad (vb v0 + 6))), (1, .int a1), (2, .int a2)]) hx hb dX3_runStatement_62 hl (by decide) rfl (fun ls hl => ?_)
          refine lv_aload_n hx hb dX3_runStatement_64 rfl (lv_at hl 2 rfl) ?_
          obtain ⟨r25, M24, q23, hg⟩ := bd2_e hg hne
          refine w_calli (va_runV (As := []) (rest := []) CX (ctX3_advance l D sw cs ad X H.size M21 v0 hv0 q23) (cwV 0 hts (gwV m3_24 m3_26 mp2_2 m1_6 m3_27) rfl rfl rfl (by decide +kernel) ⟨Nat.le_trans (Nat.le_of_ble_eq_true rfl) hR.1, Nat.le_trans (Nat.le_of_ble_eq_true rfl) hR.2⟩) (wPreV hSW hS hA hK hP hD (kC_v (j := 6) hv0 (by decide)) (LC_RUN v0) rfl _) rfl rfl hl.1 rfl (lv_room (Nat.le_of_ble_eq_true rfl)) dX3_runStatement_65 ⟨Nat.zero_le _, Nat.zero_le _⟩) hD hS hA (fun H locs hP hD hS => ?_)
          refine lv_pop hx hb dX3_runStatement_68 rfl ?_
          refine lv_iload_n hx hb dX3_runStatement_69 rfl (lv_at hl 3 rfl) ?_
          refine lv_if_eq (tgt := 79) hx hb dX3_runStatement_70 (by decide) (fun c26 => ?_) (fun c26 => ?_)
          · have hg := if_t hg c26
            refine lv_goto (tgt := 110) hx hb dX3_runStatement_79 (by decide) ?_
            exact hret _ _ _ _ _ hg dX3_runStatement_110 hP hD hS
          · have hg := if_f hg c26
            refine lv_aload_n hx hb dX3_runStatement_73 rfl (lv_at hl 2 rfl) ?_
            refine lv_iload hx hb dX3_runStatement_74 (lv_at hl 0 rfl) ?_
            obtain ⟨M28, q27, hg⟩ := bd_e hg hne
            refine w_callv (va_runV (As := [.int r22]) (rest := []) CX (ctX3_put l D sw cs ad X H.size M24 v0 hv0 r22 q27) (cwV 1 hts (gwV m3_50 m3_52 mp2_8 m1_6 m3_53) rfl rfl rfl (by decide +kernel) ⟨Nat.le_trans (Nat.le_of_ble_eq_true rfl) hR.1, Nat.le_trans (Nat.le_of_ble_eq_true rfl) hR.2⟩) (wPreV hSW hS hA hK hP hD (kC_v (j := 6) hv0 (by decide)) (LC_RUN v0) rfl _) rfl rfl hl.1 rfl (lv_room (Nat.le_of_ble_eq_true rfl)) dX3_runStatement_76 ⟨Nat.zero_le _, Nat.zero_le _⟩) hD hS hA (fun H locs hP hD hS => ?_)
            refine lv_goto (tgt := 110) hx hb dX3_runStatement_79 (by decide) ?_
            exact hret _ _ _ _ _ hg dX3_runStatement_110 hP hD hS
      · have hg := if_t hg c6
        refine lv_aload_n hx hb dX3_runStatement_40 rfl (lv_at hl 1 rfl) ?_
        refine lv_iload_n hx hb dX3_runStatement_41 rfl (lv_at hl 2 rfl) ?_
        refine lv_iload_n hx hb dX3_runStatement_42 rfl (lv_at hl 3 rfl) ?_
        refine lv_iconst (v := 1) hx hb dX3_runStatement_43 (by decide) ?_
        refine lv_iadd hx hb dX3_runStatement_44 ?_
        obtain ⟨r31, M30, q29, hg⟩ := bd2_e hg hne
        refine w_callv (va_runV (As := [.int a1, .int (a2 + (1 : Int32))]) (rest := []) CX (h2 X H.size M3 _ _ r31 M30 q29) (cwV 2 hts (gwV m3_28 m3_30 mp2_3 m1_6 m3_31) rfl rfl rfl (by decide +kernel) ⟨hR2.1, Nat.le_trans (Nat.add_le_add_right (Nat.le_of_ble_eq_true rfl) _) hR2.2⟩) (wPreV hSW hS hA hK hP hD (kC_v (j := 6) hv0 (by decide)) (LC_RUN v0) rfl _) rfl rfl hl.1 rfl (lv_room (Nat.le_of_ble_eq_true rfl)) dX3_runStatement_45 ⟨Nat.zero_le _, Nat.zero_le _⟩) hD hS hA (fun H locs hP hD hS => ?_)
        refine lv_goto (tgt := 110) hx hb dX3_runStatement_48 (by decide) ?_
        exact hret _ _ _ _ _ hg dX3_runStatement_110 hP hD hS
    · have hg := if_t hg c5
      refine lv_aload_n hx hb dX3_runStatement_18 rfl (lv_at hl 1 rfl) ?_
      refine lv_iload_n hx hb dX3_runStatement_19 rfl (lv_at hl 2 rfl) ?_
      refine lv_iload_n hx hb dX3_runStatement_20 rfl (lv_at hl 3 rfl) ?_
      refine lv_iconst (v := 1) hx hb dX3_runStatement_21 (by decide) ?_
      refine lv_iadd hx hb dX3_runStatement_22 ?_
      obtain ⟨r34, M33, q32, hg⟩ := bd2_e hg hne
      refine w_callv (va_runV (As := [.int a1, .int (a2 + (1 : Int32))]) (rest := []) CX (h0 X H.size M3 _ _ r34 M33 q32) (cwV 2 hts (gwV m3_11 m3_13 mp1_15 m1_6 m3_14) rfl rfl rfl (by decide +kernel) ⟨hR2.1, Nat.le_trans (Nat.add_le_add_right (Nat.le_of_ble_eq_true rfl) _) hR2.2⟩) (wPreV hSW hS hA hK hP hD (kC_v (j := 6) hv0 (by decide)) (LC_RUN v0) rfl _) rfl rfl hl.1 rfl (lv_room (Nat.le_of_ble_eq_true rfl)) dX3_runStatement_23 ⟨Nat.zero_le _, Nat.zero_le _⟩) hD hS hA (fun H locs hP hD hS => ?_)
      refine lv_aload_n hx hb dX3_runStatement_26 rfl (lv_at hl 1 rfl) ?_
      obtain ⟨r37, M36, q35, hg⟩ := bd2_e hg hne
      refine w_calli (va_runV (As := []) (rest := []) CX (ctX3_advance l D sw cs ad X H.size M33 v0 hv0 q35) (cwV 0 hts (gwV m3_24 m3_26 mp2_2 m1_6 m3_27) rfl rfl rfl (by decide +kernel) ⟨Nat.le_trans (Nat.le_of_ble_eq_true rfl) hR.1, Nat.le_trans (Nat.le_of_ble_eq_true rfl) hR.2⟩) (wPreV hSW hS hA hK hP hD (kC_v (j := 6) hv0 (by decide)) (LC_RUN v0) rfl _) rfl rfl hl.1 rfl (lv_room (Nat.le_of_ble_eq_true rfl)) dX3_runStatement_27 ⟨Nat.zero_le _, Nat.zero_le _⟩) hD hS hA (fun H locs hP hD hS => ?_)
      refine lv_pop hx hb dX3_runStatement_30 rfl ?_
      refine lv_goto (tgt := 110) hx hb dX3_runStatement_31 (by decide) ?_
      exact hret _ _ _ _ _ hg dX3_runStatement_110 hP hD hS
  · have hg := if_f hg c1
    exact hret _ _ _ _ _ hg dX3_runStatement_6 hP hD hS

def gX3_runChoice (rec : Nat → Mm → Int32 → Int32 → Option (Int32 × Mm)) (M : Mm) (v0 : Nat) (a1 : Int32) (a2 : Int32) : Option Mm := bd2 (rec 3 M a2 0) fun r3 M2 => lt (fun (M5 : Mm) (s6 : Int32) => lt (fun (M9 : Mm) (x10 : Int32) (s11 : Int32) => bd2 (rec 1 M9 s11 a2) fun r15 M14 => bd (gX3_peek M14 v0) fun r16 => if r16 = (58 : Int32) then (bd2 (gX3_advance M14 v0) fun r21 M20 => if a1 = 0 then (bd2 (rec 1 M20 (0 : Int32) a2) fun r25 M24 => some M24) else if x10 = 0 then (bd2 (rec 1 M20 (1 : Int32) a2) fun r32 M31 => some M31) else bd2 (rec 1 M20 (0 : Int32) a2) fun r29 M28 => some M28) else some M14) fun J12 => if a1 = 0 then (J12 M5 s6 (0 : Int32)) else if s6 = 0 then (J12 M5 s6 (0 : Int32)) else J12 M5 s6 (1 : Int32)) fun J7 => if r3 = 0 then (J7 M2 (0 : Int32)) else J7 M2 (1 : Int32)
set_option maxHeartbeats 4000000 in
set_option maxRecDepth 100000 in
theorem bX3_runChoice {p : Program} {l : Launch} {e : Env} {R : Room} {s : State} {m : MethodId} {args : Array Value} {below : List Frame} {meth : Method} {c : Code} {H : Heap} {locs : List Loc} {Q : State → Prop} {D : va_G} {sw : Sw} {cs : Cs} {ad : Nat → Nat} {X : va_W} {A : Nat → Prop} (rec : Nat → Mm → Int32 → Int32 → Option (Int32 × Mm)) (M : Mm) (v0 : Nat) (hv0 : v0 < 16) (a1 : Int32) (a2 : Int32) {d : Nat} (h1 : ∀ (X : va_W) (sz : Nat) (M : Mm) (a1 a2 : Int32) (r : Int32) (M1 : Mm), rec 1 M a1 a2 = some (r, M1) → Met l yX3_runStatement wsX3_runStatement ({ frames := 2 + d, cells := 0, slots := 0, locals := 42 + 24 * d }) (va_Pc [.ref (ad (vb v0 + 6)), .int a1, .int a2] (wPre D sw cs LC NC ad M X sz)) (wQv D cs LC NC ad M1 X sz) 0 0 (wA NC ad X sz)) (h3 : ∀ (X : va_W) (sz : Nat) (M : Mm) (a1 a2 : Int32) (r : Int32) (M1 : Mm), rec 3 M a1 a2 = some (r, M1) → Met l yX3_sum wsX3_sum ({ frames := 2 + d, cells := 0, slots := 0, locals := 42 + 24 * d }) (va_Pc [.ref (ad (vb v0 + 6)), .int a1] (wPre D sw cs LC NC ad M X sz)) (wQi D cs LC NC ad M1 X sz r) 0 0 (wA NC ad X sz)) {res : Option Mm} (hg : gX3_runChoice rec M v0 a1 a2 = res) (hne : res ≠ none) (CX : CallFix p m c cX3_runChoice 4 s args wsX3_runChoice RX3) (hR : 2 ≤ R.frames ∧ 41 ≤ R.locals) (hR2 : 2 + d + 1 ≤ R.frames ∧ 24 + (42 + 24 * d) ≤ R.locals) (hK : va_K D vwCl (tysC cs) s) (hSW : SW sw A s s.heap) (hP : va_P D vwCl (wl cs LC NC ad M ++ X) H) (hD : va_D A (wl cs LC NC ad M ++ X)) (hS : va_S A s.heap H locs) (hA : ∀ q, s.heap.size ≤ q → A q) {ls : Array Slot} (hl : lv_has ls 4 [(0, .ref (ad (vb v0 + 6))), (1, .int a1), (2, .int a2)]) (hret : ∀ (pc : Nat) (ls : Array Slot) (H : Heap) (locs : List Loc) (M9 : Mm), some M9 = res → decode cX3_runChoice pc = .ok (.return_, 1) → va_P D vwCl (wl cs LC NC ad M9 ++ X) H → va_D A (wl cs LC NC ad M9 ++ X) → va_S A s.heap H locs → W p l e R s m args below meth c H locs 0 0 Q (F0 m pc ls [])) : W p l e R s m args below meth c H locs 0 0 Q (F0 m 0 ls []) := by
  obtain ⟨hx, hb, hml, hown, hts⟩ := id CX
  have hw : ∀ w ∈ WG, w.before args s = true := fun w h => hts w (List.mem_cons_of_mem _ h)
  unfold gX3_runChoice at hg
  refine lv_aload_n hx hb dX3_runChoice_0 rfl (lv_at hl 0 rfl) ?_
  refine lv_iload_n hx hb dX3_runChoice_1 rfl (lv_at hl 2 rfl) ?_
  obtain ⟨r3, M2, q1, hg⟩ := bd2_e hg hne
  refine w_calli (va_runV (As := [.int a2]) (rest := []) CX (h3 X H.size M _ _ r3 M2 q1) (cwV 1 hts (gwV m3_32 m3_34 mp2_4 m1_6 m3_35) rfl rfl rfl (by decide +kernel) ⟨hR2.1, Nat.le_trans (Nat.add_le_add_right (Nat.le_of_ble_eq_true rfl) _) hR2.2⟩) (wPreV hSW hS hA hK hP hD (kC_v (j := 6) hv0 (by decide)) (LC_RUN v0) rfl _) rfl rfl hl.1 rfl (lv_room (Nat.le_of_ble_eq_true rfl)) dX3_runChoice_2 ⟨Nat.zero_le _, Nat.zero_le _⟩) hD hS hA (fun H locs hP hD hS => ?_)
  obtain ⟨J7, hJ7, hg⟩ := lf2 hg
  have kJ7 : ∀ (M5 : Mm) (s6 : Int32) (H : Heap) (locs : List Loc) (ls : Array Slot), va_P D vwCl (wl cs LC NC ad M5 ++ X) H → va_D A (wl cs LC NC ad M5 ++ X) → va_S A s.heap H locs → lv_has ls 4 [(0, .ref (ad (vb v0 + 6))), (1, .int a1), (2, .int a2)] → J7 M5 s6 = res → W p l e R s m args below meth c H locs 0 0 Q (F0 m 13 ls [.int s6]) := by
    intro M5 s6 H locs ls hP hD hS hl hg
    rw [hJ7] at hg
    refine lv_istore_n (lv' := [(3, .int s6), (0, .ref (ad (vb v0 + 6))), (1, .int a1), (2, .int a2)]) hx hb dX3_runChoice_13 rfl hl (by decide) rfl (fun ls hl => ?_)
    refine lv_aload_n hx hb dX3_runChoice_14 rfl (lv_at hl 1 rfl) ?_
    refine lv_iload_n hx hb dX3_runChoice_15 rfl (lv_at hl 2 rfl) ?_
    obtain ⟨J12, hJ12, hg⟩ := lf3 hg
    have kJ12 : ∀ (M9 : Mm) (x10 : Int32) (s11 : Int32) (H : Heap) (locs : List Loc) (ls : Array Slot), va_P D vwCl (wl cs LC NC ad M9 ++ X) H → va_D A (wl cs LC NC ad M9 ++ X) → va_S A s.heap H locs → lv_has ls 4 [(0, .ref (ad (vb v0 + 6))), (1, .int a1), (2, .int a2), (3, .int x10)] → J12 M9 x10 s11 = res → W p l e R s m args below meth c H locs 0 0 Q (F0 m 28 ls [.int s11, .ref (ad (vb v0 + 6))]) := by
      intro M9 x10 s11 H locs ls hP hD hS hl hg
      rw [hJ12] at hg
      refine lv_iload_n hx hb dX3_runChoice_28 rfl (lv_at hl 2 rfl) ?_
      obtain ⟨r15, M14, q13, hg⟩ := bd2_e hg hne
      refine w_callv (va_runV (As := [.int s11, .int a2]) (rest := []) CX (h1 X H.size M9 _ _ r15 M14 q13) (cwV 2 hts (gwV m3_20 m3_22 mp2_1 m1_6 m3_23) rfl rfl rfl (by decide +kernel) ⟨hR2.1, Nat.le_trans (Nat.add_le_add_right (Nat.le_of_ble_eq_true rfl) _) hR2.2⟩) (wPreV hSW hS hA hK hP hD (kC_v (j := 6) hv0 (by decide)) (LC_RUN v0) rfl _) rfl rfl hl.1 rfl (lv_room (Nat.le_of_ble_eq_true rfl)) dX3_runChoice_29 ⟨Nat.zero_le _, Nat.zero_le _⟩) hD hS hA (fun H locs hP hD hS => ?_)
      refine lv_aload_n hx hb dX3_runChoice_32 rfl (lv_at hl 0 rfl) ?_
      obtain ⟨r16, q17, hg⟩ := bd_e hg hne
      refine r_calli (W.runV (As := []) (rest := []) CX (ctX3_peek l D sw cs ad X M14 v0 hv0 q17) (cwV 0 hts (gwV m3_15 m3_17 mp2_0 m1_6 m3_18) rfl rfl rfl (by decide +kernel) ⟨Nat.le_trans (Nat.le_of_ble_eq_true rfl) hR.1, Nat.le_trans (Nat.le_of_ble_eq_true rfl) hR.2⟩) (rPreV (hSW.wr hS) hK hP (kC_v (j := 6) hv0 (by decide)) (LC_RUN v0) rfl _) rfl rfl hl.1 rfl (lv_room (Nat.le_of_ble_eq_true rfl)) dX3_runChoice_33 ⟨Nat.zero_le _, Nat.zero_le _⟩) ?_
      refine lv_bipush (v := 58) hx hb dX3_runChoice_36 (by decide) ?_
      refine lv_icmp_ne (tgt := 64) hx hb dX3_runChoice_38 (by decide) (fun c18 => ?_) (fun c18 => ?_)
      · have hg := if_f hg c18
        exact hret _ _ _ _ _ hg dX3_runChoice_64 hP hD hS
      · have hg := if_t hg c18
        refine lv_aload_n hx hb dX3_runChoice_41 rfl (lv_at hl 0 rfl) ?_
        obtain ⟨r21, M20, q19, hg⟩ := bd2_e hg hne
        refine w_calli (va_runV (As := []) (rest := []) CX (ctX3_advance l D sw cs ad X H.size M14 v0 hv0 q19) (cwV 0 hts (gwV m3_24 m3_26 mp2_2 m1_6 m3_27) rfl rfl rfl (by decide +kernel) ⟨Nat.le_trans (Nat.le_of_ble_eq_true rfl) hR.1, Nat.le_trans (Nat.le_of_ble_eq_true rfl) hR.2⟩) (wPreV hSW hS hA hK hP hD (kC_v (j := 6) hv0 (by decide)) (LC_RUN v0) rfl _) rfl rfl hl.1 rfl (lv_room (Nat.le_of_ble_eq_true rfl)) dX3_runChoice_42 ⟨Nat.zero_le _, Nat.zero_le _⟩) hD hS hA (fun H locs hP hD hS => ?_)
        refine lv_pop hx hb dX3_runChoice_45 rfl ?_
        refine lv_aload_n hx hb dX3_runChoice_46 rfl (lv_at hl 0 rfl) ?_
        refine lv_iload_n hx hb dX3_runChoice_47 rfl (lv_at hl 1 rfl) ?_
        refine lv_if_eq (tgt := 59) hx hb dX3_runChoice_48 (by decide) (fun c22 => ?_) (fun c22 => ?_)
        · have hg := if_t hg c22
          refine lv_iconst (v := 0) hx hb dX3_runChoice_59 (by decide) ?_
          refine lv_iload_n hx hb dX3_runChoice_60 rfl (lv_at hl 2 rfl) ?_
          obtain ⟨r25, M24, q23, hg⟩ := bd2_e hg hne
          refine w_callv (va_runV (As := [.int (0 : Int32), .int a2]) (rest := []) CX (h1 X H.size M20 _ _ r25 M24 q23) (cwV 2 hts (gwV m3_20 m3_22 mp2_1 m1_6 m3_23) rfl rfl rfl (by decide +kernel) ⟨hR2.1, Nat.le_trans (Nat.add_le_add_right (Nat.le_of_ble_eq_true rfl) _) hR2.2⟩) (wPreV hSW hS hA hK hP hD (kC_v (j := 6) hv0 (by decide)) (LC_RUN v0) rfl _) rfl rfl hl.1 rfl (lv_room (Nat.le_of_ble_eq_true rfl)) dX3_runChoice_61 ⟨Nat.zero_le _, Nat.zero_le _⟩) hD hS hA (fun H locs hP hD hS => ?_)
          exact hret _ _ _ _ _ hg dX3_runChoice_64 hP hD hS
        · have hg := if_f hg c22
          refine lv_iload_n hx hb dX3_runChoice_51 rfl (lv_at hl 3 rfl) ?_
          refine lv_if_ne (tgt := 59) hx hb dX3_runChoice_52 (by decide) (fun c26 => ?_) (fun c26 => ?_)
          · have hg := if_f hg c26
            refine lv_iconst (v := 0) hx hb dX3_runChoice_59 (by decide) ?_
            refine lv_iload_n hx hb dX3_runChoice_60 rfl (lv_at hl 2 rfl) ?_
            obtain ⟨r29, M28, q27, hg⟩ := bd2_e hg hne
            refine w_callv (va_runV (As := [.int (0 : Int32), .int a2]) (rest := []) CX (h1 X H.size M20 _ _ r29 M28 q27) (cwV 2 hts (gwV m3_20 m3_22 mp2_1 m1_6 m3_23) rfl rfl rfl (by decide +kernel) ⟨hR2.1, Nat.le_trans (Nat.add_le_add_right (Nat.le_of_ble_eq_true rfl) _) hR2.2⟩) (wPreV hSW hS hA hK hP hD (kC_v (j := 6) hv0 (by decide)) (LC_RUN v0) rfl _) rfl rfl hl.1 rfl (lv_room (Nat.le_of_ble_eq_true rfl)) dX3_runChoice_61 ⟨Nat.zero_le _, Nat.zero_le _⟩) hD hS hA (fun H locs hP hD hS => ?_)
            exact hret _ _ _ _ _ hg dX3_runChoice_64 hP hD hS
          · have hg := if_t hg c26
            refine lv_iconst (v := 1) hx hb dX3_runChoice_55 (by decide) ?_
            refine lv_goto (tgt := 60) hx hb dX3_runChoice_56 (by decide) ?_
            refine lv_iload_n hx hb dX3_runChoice_60 rfl (lv_at hl 2 rfl) ?_
            obtain ⟨r32, M31, q30, hg⟩ := bd2_e hg hne
            refine w_callv (va_runV (As := [.int (1 : Int32), .int a2]) (rest := []) CX (h1 X H.size M20 _ _ r32 M31 q30) (cwV 2 hts (gwV m3_20 m3_22 mp2_1 m1_6 m3_23) rfl rfl rfl (by decide +kernel) ⟨hR2.1, Nat.le_trans (Nat.add_le_add_right (Nat.le_of_ble_eq_true rfl) _) hR2.2⟩) (wPreV hSW hS hA hK hP hD (kC_v (j := 6) hv0 (by decide)) (LC_RUN v0) rfl _) rfl rfl hl.1 rfl (lv_room (Nat.le_of_ble_eq_true rfl)) dX3_runChoice_61 ⟨Nat.zero_le _, Nat.zero_le _⟩) hD hS hA (fun H locs hP hD hS => ?_)
            exact hret _ _ _ _ _ hg dX3_runChoice_64 hP hD hS
    refine lv_if_eq (tgt := 27) hx hb dX3_runChoice_16 (by decide) (fun c8 => ?_) (fun c8 => ?_)
    · have hg := if_t hg c8
      refine lv_iconst (v := 0) hx hb dX3_runChoice_27 (by decide) ?_
      exact kJ12 _ _ _ _ _ _ hP hD hS (lv_sub hl [1, 2, 3, 0] rfl) hg
    · have hg := if_f hg c8
      refine lv_iload_n hx hb dX3_runChoice_19 rfl (lv_at hl 0 rfl) ?_
      refine lv_if_eq (tgt := 27) hx hb dX3_runChoice_20 (by decide) (fun c33 => ?_) (fun c33 => ?_)
      · have hg := if_t hg c33
        refine lv_iconst (v := 0) hx hb dX3_runChoice_27 (by decide) ?_
        exact kJ12 _ _ _ _ _ _ hP hD hS (lv_sub hl [1, 2, 3, 0] rfl) hg
      · have hg := if_f hg c33
        refine lv_iconst (v := 1) hx hb dX3_runChoice_23 (by decide) ?_
        refine lv_goto (tgt := 28) hx hb dX3_runChoice_24 (by decide) ?_
        exact kJ12 _ _ _ _ _ _ hP hD hS (lv_sub hl [1, 2, 3, 0] rfl) hg
  refine lv_if_eq (tgt := 12) hx hb dX3_runChoice_5 (by decide) (fun c4 => ?_) (fun c4 => ?_)
  · have hg := if_t hg c4
    refine lv_iconst (v := 0) hx hb dX3_runChoice_12 (by decide) ?_
    exact kJ7 _ _ _ _ _ hP hD hS (lv_sub hl [0, 1, 2] rfl) hg
  · have hg := if_f hg c4
    refine lv_iconst (v := 1) hx hb dX3_runChoice_8 (by decide) ?_
    refine lv_goto (tgt := 13) hx hb dX3_runChoice_9 (by decide) ?_
    exact kJ7 _ _ _ _ _ hP hD hS (lv_sub hl [0, 1, 2] rfl) hg

def gX3_sum_L8 (rec : Nat → Mm → Int32 → Int32 → Option (Int32 × Mm)) (v0 : Nat) (a1 : Int32) : Nat → Mm → Int32 → Int32 → Option (Int32 × Mm)
  | 0, _, _, _ => none
  | n7 + 1, M4, x5, x6 => if (80 : Int32) ≤ x6 then (some (x5, M4)) else bd (gX3_peek M4 v0) fun r9 => if r9 = (43 : Int32) then (bd2 (gX3_advance M4 v0) fun r14 M13 => if r14 = (43 : Int32) then (bd2 (rec 4 M13 a1 0) fun r22 M21 => lt (x6 + (1 : Int32)) fun x23 => gX3_sum_L8 rec v0 a1 n7 M21 (x5 + r22) x23) else bd2 (rec 4 M13 a1 0) fun r18 M17 => lt (x6 + (1 : Int32)) fun x19 => gX3_sum_L8 rec v0 a1 n7 M17 (x5 - r18) x19) else bd (gX3_peek M4 v0) fun r24 => if r24 = (45 : Int32) then (bd2 (gX3_advance M4 v0) fun r29 M28 => if r29 = (43 : Int32) then (bd2 (rec 4 M28 a1 0) fun r37 M36 => lt (x6 + (1 : Int32)) fun x38 => gX3_sum_L8 rec v0 a1 n7 M36 (x5 + r37) x38) else bd2 (rec 4 M28 a1 0) fun r33 M32 => lt (x6 + (1 : Int32)) fun x34 => gX3_sum_L8 rec v0 a1 n7 M32 (x5 - r33) x34) else some (x5, M4)
def gX3_sum (rec : Nat → Mm → Int32 → Int32 → Option (Int32 × Mm)) (M : Mm) (v0 : Nat) (a1 : Int32) : Option (Int32 × Mm) := bd2 (rec 4 M a1 0) fun r3 M2 => gX3_sum_L8 rec v0 a1 FU M2 r3 (0 : Int32)
set_option maxHeartbeats 4000000 in
set_option maxRecDepth 100000 in
theorem bX3_sum {p : Program} {l : Launch} {e : Env} {R : Room} {s : State} {m : MethodId} {args : Array Value} {below : List Frame} {meth : Method} {c : Code} {H : Heap} {locs : List Loc} {Q : State → Prop} {D : va_G} {sw : Sw} {cs : Cs} {ad : Nat → Nat} {X : va_W} {A : Nat → Prop} (rec : Nat → Mm → Int32 → Int32 → Option (Int32 × Mm)) (M : Mm) (v0 : Nat) (hv0 : v0 < 16) (a1 : Int32) {d : Nat} (h4 : ∀ (X : va_W) (sz : Nat) (M : Mm) (a1 a2 : Int32) (r : Int32) (M1 : Mm), rec 4 M a1 a2 = some (r, M1) → Met l yX3_product wsX3_product ({ frames := 2 + d, cells := 0, slots := 0, locals := 42 + 24 * d }) (va_Pc [.ref (ad (vb v0 + 6)), .int a1] (wPre D sw cs LC NC ad M X sz)) (wQi D cs LC NC ad M1 X sz r) 0 0 (wA NC ad X sz)) {res : Option (Int32 × Mm)} (hg : gX3_sum rec M v0 a1 = res) (hne : res ≠ none) (CX : CallFix p m c cX3_sum 4 s args wsX3_sum RX3) (hR : 2 ≤ R.frames ∧ 41 ≤ R.locals) (hR2 : 2 + d + 1 ≤ R.frames ∧ 24 + (42 + 24 * d) ≤ R.locals) (hK : va_K D vwCl (tysC cs) s) (hSW : SW sw A s s.heap) (hP : va_P D vwCl (wl cs LC NC ad M ++ X) H) (hD : va_D A (wl cs LC NC ad M ++ X)) (hS : va_S A s.heap H locs) (hA : ∀ q, s.heap.size ≤ q → A q) {ls : Array Slot} (hl : lv_has ls 4 [(0, .ref (ad (vb v0 + 6))), (1, .int a1)]) (hret : ∀ (pc : Nat) (ls : Array Slot) (H : Heap) (locs : List Loc) (v : Int32) (M9 : Mm), some (v, M9) = res → decode cX3_sum pc = .ok (.ireturn, 1) → va_P D vwCl (wl cs LC NC ad M9 ++ X) H → va_D A (wl cs LC NC ad M9 ++ X) → va_S A s.heap H locs → W p l e R s m args below meth c H locs 0 0 Q (F0 m pc ls [.int v])) : W p l e R s m args below meth c H locs 0 0 Q (F0 m 0 ls []) := by
  obtain ⟨hx, hb, hml, hown, hts⟩ := id CX
  have hw : ∀ w ∈ WG, w.before args s = true := fun w h => hts w (List.mem_cons_of_mem _ h)
  unfold gX3_sum at hg
  refine lv_aload_n hx hb dX3_sum_0 rfl (lv_at hl 0 rfl) ?_
  refine lv_iload_n hx hb dX3_sum_1 rfl (lv_at hl 1 rfl) ?_
  obtain ⟨r3, M2, q1, hg⟩ := bd2_e hg hne
  refine w_calli (va_runV (As := [.int a1]) (rest := []) CX (h4 X H.size M _ _ r3 M2 q1) (cwV 1 hts (gwV m3_36 m3_38 mp2_5 m1_6 m3_39) rfl rfl rfl (by decide +kernel) ⟨hR2.1, Nat.le_trans (Nat.add_le_add_right (Nat.le_of_ble_eq_true rfl) _) hR2.2⟩) (wPreV hSW hS hA hK hP hD (kC_v (j := 6) hv0 (by decide)) (LC_RUN v0) rfl _) rfl rfl hl.1 rfl (lv_room (Nat.le_of_ble_eq_true rfl)) dX3_sum_2 ⟨Nat.zero_le _, Nat.zero_le _⟩) hD hS hA (fun H locs hP hD hS => ?_)
  refine lv_istore_n (lv' := [(2, .int r3), (0, .ref (ad (vb v0 + 6))), (1, .int a1)]) hx hb dX3_sum_5 rfl hl (by decide) rfl (fun ls hl => ?_)
  refine lv_iconst (v := 0) hx hb dX3_sum_6 (by decide) ?_
  refine lv_istore_n (lv' := [(3, .int (0 : Int32)), (2, .int r3), (0, .ref (ad (vb v0 + 6))), (1, .int a1)]) hx hb dX3_sum_7 rfl hl (by decide) rfl (fun ls hl => ?_)
  have kL8_39 : ∀ (n7 : Nat) (M4 : Mm) (x5 : Int32) (x6 : Int32) (H : Heap) (locs : List Loc) (ls : Array Slot), va_P D vwCl (wl cs LC NC ad M4 ++ X) H → va_D A (wl cs LC NC ad M4 ++ X) → va_S A s.heap H locs → lv_has ls 4 [(0, .ref (ad (vb v0 + 6))), (1, .int a1), (2, .int x5), (3, .int x6)] → gX3_sum_L8 rec v0 a1 n7 M4 x5 x6 = res → W p l e R s m args below meth c H locs 0 0 Q (F0 m 8 ls []) := by
    intro n7
    induction n7 with
    | zero =>
      intro M4 x5 x6 H locs ls hP hD hS hl hg
      rw [gX3_sum_L8] at hg
      exact absurd hg.symm hne
    | succ n7 ih =>
      intro M4 x5 x6 H locs ls hP hD hS hl hg
      rw [gX3_sum_L8] at hg
      refine lv_iload_n hx hb dX3_sum_8 rfl (lv_at hl 3 rfl) ?_
      refine lv_bipush (v := 80) hx hb dX3_sum_9 (by decide) ?_
      refine lv_icmp_ge (tgt := 66) hx hb dX3_sum_11 (by decide) (fun c8 => ?_) (fun c8 => ?_)
      · have hg := if_t hg c8
        refine lv_iload_n hx hb dX3_sum_66 rfl (lv_at hl 2 rfl) ?_
        exact hret _ _ _ _ _ _ hg dX3_sum_67 hP hD hS
      · have hg := if_f hg c8
        refine lv_aload_n hx hb dX3_sum_14 rfl (lv_at hl 0 rfl) ?_
        obtain ⟨r9, q10, hg⟩ := bd_e hg hne
        refine r_calli (W.runV (As := []) (rest := []) CX (ctX3_peek l D sw cs ad X M4 v0 hv0 q10) (cwV 0 hts (gwV m3_15 m3_17 mp2_0 m1_6 m3_18) rfl rfl rfl (by decide +kernel) ⟨Nat.le_trans (Nat.le_of_ble_eq_true rfl) hR.1, Nat.le_trans (Nat.le_of_ble_eq_true rfl) hR.2⟩) (rPreV (hSW.wr hS) hK hP (kC_v (j := 6) hv0 (by decide)) (LC_RUN v0) rfl _) rfl rfl hl.1 rfl (lv_room (Nat.le_of_ble_eq_true rfl)) dX3_sum_15 ⟨Nat.zero_le _, Nat.zero_le _⟩) ?_
        refine lv_bipush (v := 43) hx hb dX3_sum_18 (by decide) ?_
        refine lv_icmp_eq (tgt := 32) hx hb dX3_sum_20 (by decide) (fun c11 => ?_) (fun c11 => ?_)
        · have hg := if_t hg c11
          refine lv_aload_n hx hb dX3_sum_32 rfl (lv_at hl 0 rfl) ?_
          obtain ⟨r14, M13, q12, hg⟩ := bd2_e hg hne
          refine w_calli (va_runV (As := []) (rest := []) CX (ctX3_advance l D sw cs ad X H.size M4 v0 hv0 q12) (cwV 0 hts (gwV m3_24 m3_26 mp2_2 m1_6 m3_27) rfl rfl rfl (by decide +kernel) ⟨Nat.le_trans (Nat.le_of_ble_eq_true rfl) hR.1, Nat.le_trans (Nat.le_of_ble_eq_true rfl) hR.2⟩) (wPreV hSW hS hA hK hP hD (kC_v (j := 6) hv0 (by decide)) (LC_RUN v0) rfl _) rfl rfl hl.1 rfl (lv_room (Nat.le_of_ble_eq_true rfl)) dX3_sum_33 ⟨Nat.zero_le _, Nat.zero_le _⟩) hD hS hA (fun H locs hP hD hS => ?_)
          refine lv_bipush (v := 43) hx hb dX3_sum_36 (by decide) ?_
          refine lv_icmp_ne (tgt := 52) hx hb dX3_sum_38 (by decide) (fun c15 => ?_) (fun c15 => ?_)
          · have hg := if_f hg c15
            refine lv_iload_n hx hb dX3_sum_52 rfl (lv_at hl 2 rfl) ?_
            refine lv_aload_n hx hb dX3_sum_53 rfl (lv_at hl 0 rfl) ?_
            refine lv_iload_n hx hb dX3_sum_54 rfl (lv_at hl 1 rfl) ?_
            obtain ⟨r18, M17, q16, hg⟩ := bd2_e hg hne
            refine w_calli (va_runV (As := [.int a1]) (rest := [.int x5]) CX (h4 X H.size M13 _ _ r18 M17 q16) (cwV 1 hts (gwV m3_36 m3_38 mp2_5 m1_6 m3_39) rfl rfl rfl (by decide +kernel) ⟨hR2.1, Nat.le_trans (Nat.add_le_add_right (Nat.le_of_ble_eq_true rfl) _) hR2.2⟩) (wPreV hSW hS hA hK hP hD (kC_v (j := 6) hv0 (by decide)) (LC_RUN v0) rfl _) rfl rfl hl.1 rfl (lv_room (Nat.le_of_ble_eq_true rfl)) dX3_sum_55 ⟨Nat.zero_le _, Nat.zero_le _⟩) hD hS hA (fun H locs hP hD hS => ?_)
            refine lv_isub hx hb dX3_sum_58 ?_
            refine lv_istore_n (lv' := [(2, .int (x5 - r18)), (0, .ref (ad (vb v0 + 6))), (1, .int a1), (3, .int x6)]) hx hb dX3_sum_59 rfl hl (by decide) rfl (fun ls hl => ?_)
            obtain ⟨x19, hx19, hg⟩ := lt_e hg
            refine lv_iinc (v := x19) (lv' := [(3, .int x19), (2, .int (x5 - r18)), (0, .ref (ad (vb v0 + 6))), (1, .int a1)]) hx hb dX3_sum_60 hl (k := 3) rfl (hx19.symm) (by decide) rfl (fun ls hl => ?_)
            refine lv_goto (tgt := 8) hx hb dX3_sum_63 (by decide) ?_
            exact ih _ _ _ _ _ _ hP hD hS (lv_sub hl [2, 3, 1, 0] rfl) hg
          · have hg := if_t hg c15
            refine lv_iload_n hx hb dX3_sum_41 rfl (lv_at hl 2 rfl) ?_
            refine lv_aload_n hx hb dX3_sum_42 rfl (lv_at hl 0 rfl) ?_
            refine lv_iload_n hx hb dX3_sum_43 rfl (lv_at hl 1 rfl) ?_
            obtain ⟨r22, M21, q20, hg⟩ := bd2_e hg hne
            refine w_calli (va_runV (As := [.int a1]) (rest := [.int x5]) CX (h4 X H.size M13 _ _ r22 M21 q20) (cwV 1 hts (gwV m3_36 m3_38 mp2_5 m1_6 m3_39) rfl rfl rfl (by decide +kernel) ⟨hR2.1, Nat.le_trans (Nat.add_le_add_right (Nat.le_of_ble_eq_true rfl) _) hR2.2⟩) (wPreV hSW hS hA hK hP hD (kC_v (j := 6) hv0 (by decide)) (LC_RUN v0) rfl _) rfl rfl hl.1 rfl (lv_room (Nat.le_of_ble_eq_true rfl)) dX3_sum_44 ⟨Nat.zero_le _, Nat.zero_le _⟩) hD hS hA (fun H locs hP hD hS => ?_)
            refine lv_iadd hx hb dX3_sum_47 ?_
            refine lv_istore_n (lv' := [(2, .int (x5 + r22)), (0, .ref (ad (vb v0 + 6))), (1, .int a1), (3, .int x6)]) hx hb dX3_sum_48 rfl hl (by decide) rfl (fun ls hl => ?_)
            refine lv_goto (tgt := 60) hx hb dX3_sum_49 (by decide) ?_
            obtain ⟨x23, hx23, hg⟩ := lt_e hg
            refine lv_iinc (v := x23) (lv' := [(3, .int x23), (2, .int (x5 + r22)), (0, .ref (ad (vb v0 + 6))), (1, .int a1)]) hx hb dX3_sum_60 hl (k := 3) rfl (hx23.symm) (by decide) rfl (fun ls hl => ?_)
            refine lv_goto (tgt := 8) hx hb dX3_sum_63 (by decide) ?_
            exact ih _ _ _ _ _ _ hP hD hS (lv_sub hl [2, 3, 1, 0] rfl) hg
        · have hg := if_f hg c11
          refine lv_aload_n hx hb dX3_sum_23 rfl (lv_at hl 0 rfl) ?_
          obtain ⟨r24, q25, hg⟩ := bd_e hg hne
          refine r_calli (W.runV (As := []) (rest := []) CX (ctX3_peek l D sw cs ad X M4 v0 hv0 q25) (cwV 0 hts (gwV m3_15 m3_17 mp2_0 m1_6 m3_18) rfl rfl rfl (by decide +kernel) ⟨Nat.le_trans (Nat.le_of_ble_eq_true rfl) hR.1, Nat.le_trans (Nat.le_of_ble_eq_true rfl) hR.2⟩) (rPreV (hSW.wr hS) hK hP (kC_v (j := 6) hv0 (by decide)) (LC_RUN v0) rfl _) rfl rfl hl.1 rfl (lv_room (Nat.le_of_ble_eq_true rfl)) dX3_sum_24 ⟨Nat.zero_le _, Nat.zero_le _⟩) ?_
          refine lv_bipush (v := 45) hx hb dX3_sum_27 (by decide) ?_
          refine lv_icmp_ne (tgt := 66) hx hb dX3_sum_29 (by decide) (fun c26 => ?_) (fun c26 => ?_)
          · have hg := if_f hg c26
            refine lv_iload_n hx hb dX3_sum_66 rfl (lv_at hl 2 rfl) ?_
            exact hret _ _ _ _ _ _ hg dX3_sum_67 hP hD hS
          · have hg := if_t hg c26
            refine lv_aload_n hx hb dX3_sum_32 rfl (lv_at hl 0 rfl) ?_
            obtain ⟨r29, M28, q27, hg⟩ := bd2_e hg hne
            refine w_calli (va_runV (As := []) (rest := []) CX (ctX3_advance l D sw cs ad X H.size M4 v0 hv0 q27) (cwV 0 hts (gwV m3_24 m3_26 mp2_2 m1_6 m3_27) rfl rfl rfl (by decide +kernel) ⟨Nat.le_trans (Nat.le_of_ble_eq_true rfl) hR.1, Nat.le_trans (Nat.le_of_ble_eq_true rfl) hR.2⟩) (wPreV hSW hS hA hK hP hD (kC_v (j := 6) hv0 (by decide)) (LC_RUN v0) rfl _) rfl rfl hl.1 rfl (lv_room (Nat.le_of_ble_eq_true rfl)) dX3_sum_33 ⟨Nat.zero_le _, Nat.zero_le _⟩) hD hS hA (fun H locs hP hD hS => ?_)
            refine lv_bipush (v := 43) hx hb dX3_sum_36 (by decide) ?_
            refine lv_icmp_ne (tgt := 52) hx hb dX3_sum_38 (by decide) (fun c30 => ?_) (fun c30 => ?_)
            · have hg := if_f hg c30
              refine lv_iload_n hx hb dX3_sum_52 rfl (lv_at hl 2 rfl) ?_
              refine lv_aload_n hx hb dX3_sum_53 rfl (lv_at hl 0 rfl) ?_
              refine lv_iload_n hx hb dX3_sum_54 rfl (lv_at hl 1 rfl) ?_
              obtain ⟨r33, M32, q31, hg⟩ := bd2_e hg hne
              refine w_calli (va_runV (As := [.int a1]) (rest := [.int x5]) CX (h4 X H.size M28 _ _ r33 M32 q31) (cwV 1 hts (gwV m3_36 m3_38 mp2_5 m1_6 m3_39) rfl rfl rfl (by decide +kernel) ⟨hR2.1, Nat.le_trans (Nat.add_le_add_right (Nat.le_of_ble_eq_true rfl) _) hR2.2⟩) (wPreV hSW hS hA hK hP hD (kC_v (j := 6) hv0 (by decide)) (LC_RUN v0) rfl _) rfl rfl hl.1 rfl (lv_room (Nat.le_of_ble_eq_true rfl)) dX3_sum_55 ⟨Nat.zero_le _, Nat.zero_le _⟩) hD hS hA (fun H locs hP hD hS => ?_)
              refine lv_isub hx hb dX3_sum_58 ?_
              refine lv_istore_n (lv' := [(2, .int (x5 - r33)), (0, .ref (ad (vb v0 + 6))), (1, .int a1), (3, .int x6)]) hx hb dX3_sum_59 rfl hl (by decide) rfl (fun ls hl => ?_)
              obtain ⟨x34, hx34, hg⟩ := lt_e hg
              refine lv_iinc (v := x34) (lv' := [(3, .int x34), (2, .int (x5 - r33)), (0, .ref (ad (vb v0 + 6))), (1, .int a1)]) hx hb dX3_sum_60 hl (k := 3) rfl (hx34.symm) (by decide) rfl (fun ls hl => ?_)
              refine lv_goto (tgt := 8) hx hb dX3_sum_63 (by decide) ?_
              exact ih _ _ _ _ _ _ hP hD hS (lv_sub hl [2, 3, 1, 0] rfl) hg
            · have hg := if_t hg c30
              refine lv_iload_n hx hb dX3_sum_41 rfl (lv_at hl 2 rfl) ?_
              refine lv_aload_n hx hb dX3_sum_42 rfl (lv_at hl 0 rfl) ?_
              refine lv_iload_n hx hb dX3_sum_43 rfl (lv_at hl 1 rfl) ?_
              obtain ⟨r37, M36, q35, hg⟩ := bd2_e hg hne
              refine w_calli (va_runV (As := [.int a1]) (rest := [.int x5]) CX (h4 X H.size M28 _ _ r37 M36 q35) (cwV 1 hts (gwV m3_36 m3_38 mp2_5 m1_6 m3_39) rfl rfl rfl (by decide +kernel) ⟨hR2.1, Nat.le_trans (Nat.add_le_add_right (Nat.le_of_ble_eq_true rfl) _) hR2.2⟩) (wPreV hSW hS hA hK hP hD (kC_v (j := 6) hv0 (by decide)) (LC_RUN v0) rfl _) rfl rfl hl.1 rfl (lv_room (Nat.le_of_ble_eq_true rfl)) dX3_sum_44 ⟨Nat.zero_le _, Nat.zero_le _⟩) hD hS hA (fun H locs hP hD hS => ?_)
              refine lv_iadd hx hb dX3_sum_47 ?_
              refine lv_istore_n (lv' := [(2, .int (x5 + r37)), (0, .ref (ad (vb v0 + 6))), (1, .int a1), (3, .int x6)]) hx hb dX3_sum_48 rfl hl (by decide) rfl (fun ls hl => ?_)
              refine lv_goto (tgt := 60) hx hb dX3_sum_49 (by decide) ?_
              obtain ⟨x38, hx38, hg⟩ := lt_e hg
              refine lv_iinc (v := x38) (lv' := [(3, .int x38), (2, .int (x5 + r37)), (0, .ref (ad (vb v0 + 6))), (1, .int a1)]) hx hb dX3_sum_60 hl (k := 3) rfl (hx38.symm) (by decide) rfl (fun ls hl => ?_)
              refine lv_goto (tgt := 8) hx hb dX3_sum_63 (by decide) ?_
              exact ih _ _ _ _ _ _ hP hD hS (lv_sub hl [2, 3, 1, 0] rfl) hg
  exact kL8_39 FU _ _ _ _ _ _ hP hD hS (lv_sub hl [2, 3, 1, 0] rfl) hg

def gX3_product_L8 (rec : Nat → Mm → Int32 → Int32 → Option (Int32 × Mm)) (v0 : Nat) (a1 : Int32) : Nat → Mm → Int32 → Int32 → Option (Int32 × Mm)
  | 0, _, _, _ => none
  | n7 + 1, M4, x5, x6 => if (80 : Int32) ≤ x6 then (some (x5, M4)) else bd (gX3_peek M4 v0) fun r9 => if r9 = (42 : Int32) then (bd2 (gX3_advance M4 v0) fun r14 M13 => bd2 (rec 5 M13 a1 0) fun r17 M16 => lt (x6 + (1 : Int32)) fun x18 => gX3_product_L8 rec v0 a1 n7 M16 (x5 * r17) x18) else some (x5, M4)
def gX3_product (rec : Nat → Mm → Int32 → Int32 → Option (Int32 × Mm)) (M : Mm) (v0 : Nat) (a1 : Int32) : Option (Int32 × Mm) := bd2 (rec 5 M a1 0) fun r3 M2 => gX3_product_L8 rec v0 a1 FU M2 r3 (0 : Int32)
set_option maxHeartbeats 4000000 in
set_option maxRecDepth 100000 in
theorem bX3_product {p : Program} {l : Launch} {e : Env} {R : Room} {s : State} {m : MethodId} {args : Array Value} {below : List Frame} {meth : Method} {c : Code} {H : Heap} {locs : List Loc} {Q : State → Prop} {D : va_G} {sw : Sw} {cs : Cs} {ad : Nat → Nat} {X : va_W} {A : Nat → Prop} (rec : Nat → Mm → Int32 → Int32 → Option (Int32 × Mm)) (M : Mm) (v0 : Nat) (hv0 : v0 < 16) (a1 : Int32) {d : Nat} (h5 : ∀ (X : va_W) (sz : Nat) (M : Mm) (a1 a2 : Int32) (r : Int32) (M1 : Mm), rec 5 M a1 a2 = some (r, M1) → Met l yX3_factor wsX3_factor ({ frames := 2 + d, cells := 0, slots := 0, locals := 42 + 24 * d }) (va_Pc [.ref (ad (vb v0 + 6)), .int a1] (wPre D sw cs LC NC ad M X sz)) (wQi D cs LC NC ad M1 X sz r) 0 0 (wA NC ad X sz)) {res : Option (Int32 × Mm)} (hg : gX3_product rec M v0 a1 = res) (hne : res ≠ none) (CX : CallFix p m c cX3_product 4 s args wsX3_product RX3) (hR : 2 ≤ R.frames ∧ 41 ≤ R.locals) (hR2 : 2 + d + 1 ≤ R.frames ∧ 24 + (42 + 24 * d) ≤ R.locals) (hK : va_K D vwCl (tysC cs) s) (hSW : SW sw A s s.heap) (hP : va_P D vwCl (wl cs LC NC ad M ++ X) H) (hD : va_D A (wl cs LC NC ad M ++ X)) (hS : va_S A s.heap H locs) (hA : ∀ q, s.heap.size ≤ q → A q) {ls : Array Slot} (hl : lv_has ls 4 [(0, .ref (ad (vb v0 + 6))), (1, .int a1)]) (hret : ∀ (pc : Nat) (ls : Array Slot) (H : Heap) (locs : List Loc) (v : Int32) (M9 : Mm), some (v, M9) = res → decode cX3_product pc = .ok (.ireturn, 1) → va_P D vwCl (wl cs LC NC ad M9 ++ X) H → va_D A (wl cs LC NC ad M9 ++ X) → va_S A s.heap H locs → W p l e R s m args below meth c H locs 0 0 Q (F0 m pc ls [.int v])) : W p l e R s m args below meth c H locs 0 0 Q (F0 m 0 ls []) := by
  obtain ⟨hx, hb, hml, hown, hts⟩ := id CX
  have hw : ∀ w ∈ WG, w.before args s = true := fun w h => hts w (List.mem_cons_of_mem _ h)
  unfold gX3_product at hg
  refine lv_aload_n hx hb dX3_product_0 rfl (lv_at hl 0 rfl) ?_
  refine lv_iload_n hx hb dX3_product_1 rfl (lv_at hl 1 rfl) ?_
  obtain ⟨r3, M2, q1, hg⟩ := bd2_e hg hne
  refine w_calli (va_runV (As := [.int a1]) (rest := []) CX (h5 X H.size M _ _ r3 M2 q1) (cwV 1 hts (gwV m3_40 m3_42 mp2_6 m1_6 m3_43) rfl rfl rfl (by decide +kernel) ⟨hR2.1, Nat.le_trans (Nat.add_le_add_right (Nat.le_of_ble_eq_true rfl) _) hR2.2⟩) (wPreV hSW hS hA hK hP hD (kC_v (j := 6) hv0 (by decide)) (LC_RUN v0) rfl _) rfl rfl hl.1 rfl (lv_room (Nat.le_of_ble_eq_true rfl)) dX3_product_2 ⟨Nat.zero_le _, Nat.zero_le _⟩) hD hS hA (fun H locs hP hD hS => ?_)
  refine lv_istore_n (lv' := [(2, .int r3), (0, .ref (ad (vb v0 + 6))), (1, .int a1)]) hx hb dX3_product_5 rfl hl (by decide) rfl (fun ls hl => ?_)
  refine lv_iconst (v := 0) hx hb dX3_product_6 (by decide) ?_
  refine lv_istore_n (lv' := [(3, .int (0 : Int32)), (2, .int r3), (0, .ref (ad (vb v0 + 6))), (1, .int a1)]) hx hb dX3_product_7 rfl hl (by decide) rfl (fun ls hl => ?_)
  have kL8_19 : ∀ (n7 : Nat) (M4 : Mm) (x5 : Int32) (x6 : Int32) (H : Heap) (locs : List Loc) (ls : Array Slot), va_P D vwCl (wl cs LC NC ad M4 ++ X) H → va_D A (wl cs LC NC ad M4 ++ X) → va_S A s.heap H locs → lv_has ls 4 [(0, .ref (ad (vb v0 + 6))), (1, .int a1), (2, .int x5), (3, .int x6)] → gX3_product_L8 rec v0 a1 n7 M4 x5 x6 = res → W p l e R s m args below meth c H locs 0 0 Q (F0 m 8 ls []) := by
    intro n7
    induction n7 with
    | zero =>
      intro M4 x5 x6 H locs ls hP hD hS hl hg
      rw [gX3_product_L8] at hg
      exact absurd hg.symm hne
    | succ n7 ih =>
      intro M4 x5 x6 H locs ls hP hD hS hl hg
      rw [gX3_product_L8] at hg
      refine lv_iload_n hx hb dX3_product_8 rfl (lv_at hl 3 rfl) ?_
      refine lv_bipush (v := 80) hx hb dX3_product_9 (by decide) ?_
      refine lv_icmp_ge (tgt := 42) hx hb dX3_product_11 (by decide) (fun c8 => ?_) (fun c8 => ?_)
      · have hg := if_t hg c8
        refine lv_iload_n hx hb dX3_product_42 rfl (lv_at hl 2 rfl) ?_
        exact hret _ _ _ _ _ _ hg dX3_product_43 hP hD hS
      · have hg := if_f hg c8
        refine lv_aload_n hx hb dX3_product_14 rfl (lv_at hl 0 rfl) ?_
        obtain ⟨r9, q10, hg⟩ := bd_e hg hne
        refine r_calli (W.runV (As := []) (rest := []) CX (ctX3_peek l D sw cs ad X M4 v0 hv0 q10) (cwV 0 hts (gwV m3_15 m3_17 mp2_0 m1_6 m3_18) rfl rfl rfl (by decide +kernel) ⟨Nat.le_trans (Nat.le_of_ble_eq_true rfl) hR.1, Nat.le_trans (Nat.le_of_ble_eq_true rfl) hR.2⟩) (rPreV (hSW.wr hS) hK hP (kC_v (j := 6) hv0 (by decide)) (LC_RUN v0) rfl _) rfl rfl hl.1 rfl (lv_room (Nat.le_of_ble_eq_true rfl)) dX3_product_15 ⟨Nat.zero_le _, Nat.zero_le _⟩) ?_
        refine lv_bipush (v := 42) hx hb dX3_product_18 (by decide) ?_
        refine lv_icmp_ne (tgt := 42) hx hb dX3_product_20 (by decide) (fun c11 => ?_) (fun c11 => ?_)
        · have hg := if_f hg c11
          refine lv_iload_n hx hb dX3_product_42 rfl (lv_at hl 2 rfl) ?_
          exact hret _ _ _ _ _ _ hg dX3_product_43 hP hD hS
        · have hg := if_t hg c11
          refine lv_aload_n hx hb dX3_product_23 rfl (lv_at hl 0 rfl) ?_
          obtain ⟨r14, M13, q12, hg⟩ := bd2_e hg hne
          refine w_calli (va_runV (As := []) (rest := []) CX (ctX3_advance l D sw cs ad X H.size M4 v0 hv0 q12) (cwV 0 hts (gwV m3_24 m3_26 mp2_2 m1_6 m3_27) rfl rfl rfl (by decide +kernel) ⟨Nat.le_trans (Nat.le_of_ble_eq_true rfl) hR.1, Nat.le_trans (Nat.le_of_ble_eq_true rfl) hR.2⟩) (wPreV hSW hS hA hK hP hD (kC_v (j := 6) hv0 (by decide)) (LC_RUN v0) rfl _) rfl rfl hl.1 rfl (lv_room (Nat.le_of_ble_eq_true rfl)) dX3_product_24 ⟨Nat.zero_le _, Nat.zero_le _⟩) hD hS hA (fun H locs hP hD hS => ?_)
          refine lv_pop hx hb dX3_product_27 rfl ?_
          refine lv_iload_n hx hb dX3_product_28 rfl (lv_at hl 2 rfl) ?_
          refine lv_aload_n hx hb dX3_product_29 rfl (lv_at hl 0 rfl) ?_
          refine lv_iload_n hx hb dX3_product_30 rfl (lv_at hl 1 rfl) ?_
          obtain ⟨r17, M16, q15, hg⟩ := bd2_e hg hne
          refine w_calli (va_runV (As := [.int a1]) (rest := [.int x5]) CX (h5 X H.size M13 _ _ r17 M16 q15) (cwV 1 hts (gwV m3_40 m3_42 mp2_6 m1_6 m3_43) rfl rfl rfl (by decide +kernel) ⟨hR2.1, Nat.le_trans (Nat.add_le_add_right (Nat.le_of_ble_eq_true rfl) _) hR2.2⟩) (wPreV hSW hS hA hK hP hD (kC_v (j := 6) hv0 (by decide)) (LC_RUN v0) rfl _) rfl rfl hl.1 rfl (lv_room (Nat.le_of_ble_eq_true rfl)) dX3_product_31 ⟨Nat.zero_le _, Nat.zero_le _⟩) hD hS hA (fun H locs hP hD hS => ?_)
          refine lv_imul hx hb dX3_product_34 ?_
          refine lv_istore_n (lv' := [(2, .int (x5 * r17)), (0, .ref (ad (vb v0 + 6))), (1, .int a1), (3, .int x6)]) hx hb dX3_product_35 rfl hl (by decide) rfl (fun ls hl => ?_)
          obtain ⟨x18, hx18, hg⟩ := lt_e hg
          refine lv_iinc (v := x18) (lv' := [(3, .int x18), (2, .int (x5 * r17)), (0, .ref (ad (vb v0 + 6))), (1, .int a1)]) hx hb dX3_product_36 hl (k := 3) rfl (hx18.symm) (by decide) rfl (fun ls hl => ?_)
          refine lv_goto (tgt := 8) hx hb dX3_product_39 (by decide) ?_
          exact ih _ _ _ _ _ _ hP hD hS (lv_sub hl [2, 3, 1, 0] rfl) hg
  exact kL8_19 FU _ _ _ _ _ _ hP hD hS (lv_sub hl [2, 3, 1, 0] rfl) hg

def gX3_factor_L4 (rec : Nat → Mm → Int32 → Int32 → Option (Int32 × Mm)) (v0 : Nat) (a1 : Int32) (E3 : Mm → Int32 → Option (Int32 × Mm)) : Nat → Mm → Int32 → Int32 → Option (Int32 × Mm)
  | 0, _, _, _ => none
  | n11 + 1, M8, x9, x10 => if (80 : Int32) ≤ x10 then (E3 M8 x9) else bd (gX3_peek M8 v0) fun r13 => if r13 = (45 : Int32) then (bd2 (gX3_advance M8 v0) fun r18 M17 => if x9 = 0 then (lt (x10 + (1 : Int32)) fun x21 => gX3_factor_L4 rec v0 a1 E3 n11 M17 (1 : Int32) x21) else lt (x10 + (1 : Int32)) fun x20 => gX3_factor_L4 rec v0 a1 E3 n11 M17 (0 : Int32) x20) else E3 M8 x9
def gX3_factor (rec : Nat → Mm → Int32 → Int32 → Option (Int32 × Mm)) (M : Mm) (v0 : Nat) (a1 : Int32) : Option (Int32 × Mm) := lt (fun (M1 : Mm) (x2 : Int32) => bd2 (rec 6 M1 a1 0) fun r6 M5 => if x2 = 0 then (some (r6, M5)) else some ((-r6), M5)) fun E3 => gX3_factor_L4 rec v0 a1 E3 FU M (0 : Int32) (0 : Int32)
set_option maxHeartbeats 4000000 in
set_option maxRecDepth 100000 in
theorem bX3_factor {p : Program} {l : Launch} {e : Env} {R : Room} {s : State} {m : MethodId} {args : Array Value} {below : List Frame} {meth : Method} {c : Code} {H : Heap} {locs : List Loc} {Q : State → Prop} {D : va_G} {sw : Sw} {cs : Cs} {ad : Nat → Nat} {X : va_W} {A : Nat → Prop} (rec : Nat → Mm → Int32 → Int32 → Option (Int32 × Mm)) (M : Mm) (v0 : Nat) (hv0 : v0 < 16) (a1 : Int32) {d : Nat} (h6 : ∀ (X : va_W) (sz : Nat) (M : Mm) (a1 a2 : Int32) (r : Int32) (M1 : Mm), rec 6 M a1 a2 = some (r, M1) → Met l yX3_operand wsX3_operand ({ frames := 2 + d, cells := 0, slots := 0, locals := 42 + 24 * d }) (va_Pc [.ref (ad (vb v0 + 6)), .int a1] (wPre D sw cs LC NC ad M X sz)) (wQi D cs LC NC ad M1 X sz r) 0 0 (wA NC ad X sz)) {res : Option (Int32 × Mm)} (hg : gX3_factor rec M v0 a1 = res) (hne : res ≠ none) (CX : CallFix p m c cX3_factor 4 s args wsX3_factor RX3) (hR : 2 ≤ R.frames ∧ 41 ≤ R.locals) (hR2 : 2 + d + 1 ≤ R.frames ∧ 24 + (42 + 24 * d) ≤ R.locals) (hK : va_K D vwCl (tysC cs) s) (hSW : SW sw A s s.heap) (hP : va_P D vwCl (wl cs LC NC ad M ++ X) H) (hD : va_D A (wl cs LC NC ad M ++ X)) (hS : va_S A s.heap H locs) (hA : ∀ q, s.heap.size ≤ q → A q) {ls : Array Slot} (hl : lv_has ls 4 [(0, .ref (ad (vb v0 + 6))), (1, .int a1)]) (hret : ∀ (pc : Nat) (ls : Array Slot) (H : Heap) (locs : List Loc) (v : Int32) (M9 : Mm), some (v, M9) = res → decode cX3_factor pc = .ok (.ireturn, 1) → va_P D vwCl (wl cs LC NC ad M9 ++ X) H → va_D A (wl cs LC NC ad M9 ++ X) → va_S A s.heap H locs → W p l e R s m args below meth c H locs 0 0 Q (F0 m pc ls [.int v])) : W p l e R s m args below meth c H locs 0 0 Q (F0 m 0 ls []) := by
  obtain ⟨hx, hb, hml, hown, hts⟩ := id CX
  have hw : ∀ w ∈ WG, w.before args s = true := fun w h => hts w (List.mem_cons_of_mem _ h)
  unfold gX3_factor at hg
  refine lv_iconst (v := 0) hx hb dX3_factor_0 (by decide) ?_
  refine lv_istore_n (lv' := [(2, .int (0 : Int32)), (0, .ref (ad (vb v0 + 6))), (1, .int a1)]) hx hb dX3_factor_1 rfl hl (by decide) rfl (fun ls hl => ?_)
  refine lv_iconst (v := 0) hx hb dX3_factor_2 (by decide) ?_
  refine lv_istore_n (lv' := [(3, .int (0 : Int32)), (2, .int (0 : Int32)), (0, .ref (ad (vb v0 + 6))), (1, .int a1)]) hx hb dX3_factor_3 rfl hl (by decide) rfl (fun ls hl => ?_)
  obtain ⟨E3, hE3, hg⟩ := lf2 hg
  have kE3 : ∀ (M1 : Mm) (x2 : Int32) (H : Heap) (locs : List Loc) (ls : Array Slot), va_P D vwCl (wl cs LC NC ad M1 ++ X) H → va_D A (wl cs LC NC ad M1 ++ X) → va_S A s.heap H locs → lv_has ls 4 [(0, .ref (ad (vb v0 + 6))), (1, .int a1), (2, .int x2)] → E3 M1 x2 = res → W p l e R s m args below meth c H locs 0 0 Q (F0 m 40 ls []) := by
    intro M1 x2 H locs ls hP hD hS hl hg
    rw [hE3] at hg
    refine lv_aload_n hx hb dX3_factor_40 rfl (lv_at hl 0 rfl) ?_
    refine lv_iload_n hx hb dX3_factor_41 rfl (lv_at hl 1 rfl) ?_
    obtain ⟨r6, M5, q4, hg⟩ := bd2_e hg hne
    refine w_calli (va_runV (As := [.int a1]) (rest := []) CX (h6 X H.size M1 _ _ r6 M5 q4) (cwV 1 hts (gwV m3_44 m3_46 mp2_7 m1_6 m3_47) rfl rfl rfl (by decide +kernel) ⟨hR2.1, Nat.le_trans (Nat.add_le_add_right (Nat.le_of_ble_eq_true rfl) _) hR2.2⟩) (wPreV hSW hS hA hK hP hD (kC_v (j := 6) hv0 (by decide)) (LC_RUN v0) rfl _) rfl rfl hl.1 rfl (lv_room (Nat.le_of_ble_eq_true rfl)) dX3_factor_42 ⟨Nat.zero_le _, Nat.zero_le _⟩) hD hS hA (fun H locs hP hD hS => ?_)
    refine lv_istore_n (lv' := [(3, .int r6), (0, .ref (ad (vb v0 + 6))), (1, .int a1), (2, .int x2)]) hx hb dX3_factor_45 rfl hl (by decide) rfl (fun ls hl => ?_)
    refine lv_iload_n hx hb dX3_factor_46 rfl (lv_at hl 3 rfl) ?_
    refine lv_if_eq (tgt := 55) hx hb dX3_factor_47 (by decide) (fun c7 => ?_) (fun c7 => ?_)
    · have hg := if_t hg c7
      refine lv_iload_n hx hb dX3_factor_55 rfl (lv_at hl 0 rfl) ?_
      exact hret _ _ _ _ _ _ hg dX3_factor_56 hP hD hS
    · have hg := if_f hg c7
      refine lv_iload_n hx hb dX3_factor_50 rfl (lv_at hl 0 rfl) ?_
      refine lv_ineg hx hb dX3_factor_51 ?_
      refine lv_goto (tgt := 56) hx hb dX3_factor_52 (by decide) ?_
      exact hret _ _ _ _ _ _ hg dX3_factor_56 hP hD hS
  have kL4_22 : ∀ (n11 : Nat) (M8 : Mm) (x9 : Int32) (x10 : Int32) (H : Heap) (locs : List Loc) (ls : Array Slot), va_P D vwCl (wl cs LC NC ad M8 ++ X) H → va_D A (wl cs LC NC ad M8 ++ X) → va_S A s.heap H locs → lv_has ls 4 [(0, .ref (ad (vb v0 + 6))), (1, .int a1), (2, .int x9), (3, .int x10)] → gX3_factor_L4 rec v0 a1 E3 n11 M8 x9 x10 = res → W p l e R s m args below meth c H locs 0 0 Q (F0 m 4 ls []) := by
    intro n11
    induction n11 with
    | zero =>
      intro M8 x9 x10 H locs ls hP hD hS hl hg
      rw [gX3_factor_L4] at hg
      exact absurd hg.symm hne
    | succ n11 ih =>
      intro M8 x9 x10 H locs ls hP hD hS hl hg
      rw [gX3_factor_L4] at hg
      refine lv_iload_n hx hb dX3_factor_4 rfl (lv_at hl 3 rfl) ?_
      refine lv_bipush (v := 80) hx hb dX3_factor_5 (by decide) ?_
      refine lv_icmp_ge (tgt := 40) hx hb dX3_factor_7 (by decide) (fun c12 => ?_) (fun c12 => ?_)
      · have hg := if_t hg c12
        exact kE3 _ _ _ _ _ hP hD hS (lv_sub hl [0, 1, 2] rfl) hg
      · have hg := if_f hg c12
        refine lv_aload_n hx hb dX3_factor_10 rfl (lv_at hl 0 rfl) ?_
        obtain ⟨r13, q14, hg⟩ := bd_e hg hne
        refine r_calli (W.runV (As := []) (rest := []) CX (ctX3_peek l D sw cs ad X M8 v0 hv0 q14) (cwV 0 hts (gwV m3_15 m3_17 mp2_0 m1_6 m3_18) rfl rfl rfl (by decide +kernel) ⟨Nat.le_trans (Nat.le_of_ble_eq_true rfl) hR.1, Nat.le_trans (Nat.le_of_ble_eq_true rfl) hR.2⟩) (rPreV (hSW.wr hS) hK hP (kC_v (j := 6) hv0 (by decide)) (LC_RUN v0) rfl _) rfl rfl hl.1 rfl (lv_room (Nat.le_of_ble_eq_true rfl)) dX3_factor_11 ⟨Nat.zero_le _, Nat.zero_le _⟩) ?_
        refine lv_bipush (v := 45) hx hb dX3_factor_14 (by decide) ?_
        refine lv_icmp_ne (tgt := 40) hx hb dX3_factor_16 (by decide) (fun c15 => ?_) (fun c15 => ?_)
        · have hg := if_f hg c15
          exact kE3 _ _ _ _ _ hP hD hS (lv_sub hl [0, 1, 2] rfl) hg
        · have hg := if_t hg c15
          refine lv_aload_n hx hb dX3_factor_19 rfl (lv_at hl 0 rfl) ?_
          obtain ⟨r18, M17, q16, hg⟩ := bd2_e hg hne
          refine w_calli (va_runV (As := []) (rest := []) CX (ctX3_advance l D sw cs ad X H.size M8 v0 hv0 q16) (cwV 0 hts (gwV m3_24 m3_26 mp2_2 m1_6 m3_27) rfl rfl rfl (by decide +kernel) ⟨Nat.le_trans (Nat.le_of_ble_eq_true rfl) hR.1, Nat.le_trans (Nat.le_of_ble_eq_true rfl) hR.2⟩) (wPreV hSW hS hA hK hP hD (kC_v (j := 6) hv0 (by decide)) (LC_RUN v0) rfl _) rfl rfl hl.1 rfl (lv_room (Nat.le_of_ble_eq_true rfl)) dX3_factor_20 ⟨Nat.zero_le _, Nat.zero_le _⟩) hD hS hA (fun H locs hP hD hS => ?_)
          refine lv_pop hx hb dX3_factor_23 rfl ?_
          refine lv_iload_n hx hb dX3_factor_24 rfl (lv_at hl 2 rfl) ?_
          refine lv_if_ne (tgt := 32) hx hb dX3_factor_25 (by decide) (fun c19 => ?_) (fun c19 => ?_)
          · have hg := if_f hg c19
            refine lv_iconst (v := 0) hx hb dX3_factor_32 (by decide) ?_
            refine lv_istore_n (lv' := [(2, .int (0 : Int32)), (0, .ref (ad (vb v0 + 6))), (1, .int a1), (3, .int x10)]) hx hb dX3_factor_33 rfl hl (by decide) rfl (fun ls hl => ?_)
            obtain ⟨x20, hx20, hg⟩ := lt_e hg
            refine lv_iinc (v := x20) (lv' := [(3, .int x20), (2, .int (0 : Int32)), (0, .ref (ad (vb v0 + 6))), (1, .int a1)]) hx hb dX3_factor_34 hl (k := 3) rfl (hx20.symm) (by decide) rfl (fun ls hl => ?_)
            refine lv_goto (tgt := 4) hx hb dX3_factor_37 (by decide) ?_
            exact ih _ _ _ _ _ _ hP hD hS (lv_sub hl [2, 3, 1, 0] rfl) hg
          · have hg := if_t hg c19
            refine lv_iconst (v := 1) hx hb dX3_factor_28 (by decide) ?_
            refine lv_goto (tgt := 33) hx hb dX3_factor_29 (by decide) ?_
            refine lv_istore_n (lv' := [(2, .int (1 : Int32)), (0, .ref (ad (vb v0 + 6))), (1, .int a1), (3, .int x10)]) hx hb dX3_factor_33 rfl hl (by decide) rfl (fun ls hl => ?_)
            obtain ⟨x21, hx21, hg⟩ := lt_e hg
            refine lv_iinc (v := x21) (lv' := [(3, .int x21), (2, .int (1 : Int32)), (0, .ref (ad (vb v0 + 6))), (1, .int a1)]) hx hb dX3_factor_34 hl (k := 3) rfl (hx21.symm) (by decide) rfl (fun ls hl => ?_)
            refine lv_goto (tgt := 4) hx hb dX3_factor_37 (by decide) ?_
            exact ih _ _ _ _ _ _ hP hD hS (lv_sub hl [2, 3, 1, 0] rfl) hg
  exact kL4_22 FU _ _ _ _ _ _ hP hD hS (lv_sub hl [2, 3, 1, 0] rfl) hg

def gX3_operand (rec : Nat → Mm → Int32 → Int32 → Option (Int32 × Mm)) (M : Mm) (v0 : Nat) (a1 : Int32) : Option (Int32 × Mm) := bd2 (gX3_advance M v0) fun r3 M2 => if (gX0_isDigit r3) = 0 then (if (gX0_isName r3) = 0 then (if a1 ≤ (40 : Int32) then (bd2 (rec 3 M2 (a1 + (1 : Int32)) 0) fun r9 M8 => bd2 (gX3_advance M8 v0) fun r12 M11 => some (r9, M11)) else some ((0 : Int32), M2)) else if ((r3 - (97 : Int32)) < 0 ∨ 4 ≤ ((r3 - (97 : Int32))).toNatClampNeg) then none else some ((M2 (vb v0 + 8) ((r3 - (97 : Int32))).toNatClampNeg), M2)) else some ((r3 - (48 : Int32)), M2)
set_option maxHeartbeats 4000000 in
set_option maxRecDepth 100000 in
theorem bX3_operand {p : Program} {l : Launch} {e : Env} {R : Room} {s : State} {m : MethodId} {args : Array Value} {below : List Frame} {meth : Method} {c : Code} {H : Heap} {locs : List Loc} {Q : State → Prop} {D : va_G} {sw : Sw} {cs : Cs} {ad : Nat → Nat} {X : va_W} {A : Nat → Prop} (rec : Nat → Mm → Int32 → Int32 → Option (Int32 × Mm)) (M : Mm) (v0 : Nat) (hv0 : v0 < 16) (a1 : Int32) {d : Nat} (h3 : ∀ (X : va_W) (sz : Nat) (M : Mm) (a1 a2 : Int32) (r : Int32) (M1 : Mm), rec 3 M a1 a2 = some (r, M1) → Met l yX3_sum wsX3_sum ({ frames := 2 + d, cells := 0, slots := 0, locals := 42 + 24 * d }) (va_Pc [.ref (ad (vb v0 + 6)), .int a1] (wPre D sw cs LC NC ad M X sz)) (wQi D cs LC NC ad M1 X sz r) 0 0 (wA NC ad X sz)) {res : Option (Int32 × Mm)} (hg : gX3_operand rec M v0 a1 = res) (hne : res ≠ none) (CX : CallFix p m c cX3_operand 4 s args wsX3_operand RX3) (hR : 2 ≤ R.frames ∧ 41 ≤ R.locals) (hR2 : 2 + d + 1 ≤ R.frames ∧ 24 + (42 + 24 * d) ≤ R.locals) (hK : va_K D vwCl (tysC cs) s) (hSW : SW sw A s s.heap) (hP : va_P D vwCl (wl cs LC NC ad M ++ X) H) (hD : va_D A (wl cs LC NC ad M ++ X)) (hS : va_S A s.heap H locs) (hA : ∀ q, s.heap.size ≤ q → A q) {ls : Array Slot} (hl : lv_has ls 4 [(0, .ref (ad (vb v0 + 6))), (1, .int a1)]) (hret : ∀ (pc : Nat) (ls : Array Slot) (H : Heap) (locs : List Loc) (v : Int32) (M9 : Mm), some (v, M9) = res → decode cX3_operand pc = .ok (.ireturn, 1) → va_P D vwCl (wl cs LC NC ad M9 ++ X) H → va_D A (wl cs LC NC ad M9 ++ X) → va_S A s.heap H locs → W p l e R s m args below meth c H locs 0 0 Q (F0 m pc ls [.int v])) : W p l e R s m args below meth c H locs 0 0 Q (F0 m 0 ls []) := by
  obtain ⟨hx, hb, hml, hown, hts⟩ := id CX
  have hw : ∀ w ∈ WG, w.before args s = true := fun w h => hts w (List.mem_cons_of_mem _ h)
  have lk_15 := hw _ m1_119
  unfold gX3_operand at hg
  refine lv_aload_n hx hb dX3_operand_0 rfl (lv_at hl 0 rfl) ?_
  obtain ⟨r3, M2, q1, hg⟩ := bd2_e hg hne
  refine w_calli (va_runV (As := []) (rest := []) CX (ctX3_advance l D sw cs ad X H.size M v0 hv0 q1) (cwV 0 hts (gwV m3_24 m3_26 mp2_2 m1_6 m3_27) rfl rfl rfl (by decide +kernel) ⟨Nat.le_trans (Nat.le_of_ble_eq_true rfl) hR.1, Nat.le_trans (Nat.le_of_ble_eq_true rfl) hR.2⟩) (wPreV hSW hS hA hK hP hD (kC_v (j := 6) hv0 (by decide)) (LC_RUN v0) rfl _) rfl rfl hl.1 rfl (lv_room (Nat.le_of_ble_eq_true rfl)) dX3_operand_1 ⟨Nat.zero_le _, Nat.zero_le _⟩) hD hS hA (fun H locs hP hD hS => ?_)
  refine lv_istore_n (lv' := [(2, .int r3), (0, .ref (ad (vb v0 + 6))), (1, .int a1)]) hx hb dX3_operand_4 rfl hl (by decide) rfl (fun ls hl => ?_)
  refine lv_iload_n hx hb dX3_operand_5 rfl (lv_at hl 0 rfl) ?_
  refine r_calli (W.runS (As := [.int r3]) (rest := []) CX (ctX0_isDigit l r3) (va_cwS 1 hts (gwS m3_48 m1_186 m1_11 m1_187) rfl rfl rfl (by decide +kernel) ⟨Nat.le_trans (Nat.le_of_ble_eq_true rfl) hR.1, Nat.le_trans (Nat.le_of_ble_eq_true rfl) hR.2⟩) (pPreS _) rfl rfl hl.1 rfl (lv_room (Nat.le_of_ble_eq_true rfl)) dX3_operand_6 ⟨Nat.zero_le _, Nat.zero_le _⟩) ?_
  refine lv_if_eq (tgt := 17) hx hb dX3_operand_9 (by decide) (fun c4 => ?_) (fun c4 => ?_)
  · have hg := if_t hg c4
    refine lv_iload_n hx hb dX3_operand_17 rfl (lv_at hl 0 rfl) ?_
    refine r_calli (W.runS (As := [.int r3]) (rest := []) CX (ctX0_isName l r3) (va_cwS 1 hts (gwS m3_49 m1_189 m1_11 m1_190) rfl rfl rfl (by decide +kernel) ⟨Nat.le_trans (Nat.le_of_ble_eq_true rfl) hR.1, Nat.le_trans (Nat.le_of_ble_eq_true rfl) hR.2⟩) (pPreS _) rfl rfl hl.1 rfl (lv_room (Nat.le_of_ble_eq_true rfl)) dX3_operand_18 ⟨Nat.zero_le _, Nat.zero_le _⟩) ?_
    refine lv_if_eq (tgt := 34) hx hb dX3_operand_21 (by decide) (fun c5 => ?_) (fun c5 => ?_)
    · have hg := if_t hg c5
      refine lv_iload_n hx hb dX3_operand_34 rfl (lv_at hl 2 rfl) ?_
      refine lv_bipush (v := 40) hx hb dX3_operand_35 (by decide) ?_
      refine lv_icmp_le (tgt := 42) hx hb dX3_operand_37 (by decide) (fun c6 => ?_) (fun c6 => ?_)
      · have hg := if_t hg c6
        refine lv_aload_n hx hb dX3_operand_42 rfl (lv_at hl 1 rfl) ?_
        refine lv_iload_n hx hb dX3_operand_43 rfl (lv_at hl 2 rfl) ?_
        refine lv_iconst (v := 1) hx hb dX3_operand_44 (by decide) ?_
        refine lv_iadd hx hb dX3_operand_45 ?_
        obtain ⟨r9, M8, q7, hg⟩ := bd2_e hg hne
        refine w_calli (va_runV (As := [.int (a1 + (1 : Int32))]) (rest := []) CX (h3 X H.size M2 _ _ r9 M8 q7) (cwV 1 hts (gwV m3_32 m3_34 mp2_4 m1_6 m3_35) rfl rfl rfl (by decide +kernel) ⟨hR2.1, Nat.le_trans (Nat.add_le_add_right (Nat.le_of_ble_eq_true rfl) _) hR2.2⟩) (wPreV hSW hS hA hK hP hD (kC_v (j := 6) hv0 (by decide)) (LC_RUN v0) rfl _) rfl rfl hl.1 rfl (lv_room (Nat.le_of_ble_eq_true rfl)) dX3_operand_46 ⟨Nat.zero_le _, Nat.zero_le _⟩) hD hS hA (fun H locs hP hD hS => ?_)
        refine lv_istore_n (lv' := [(3, .int r9), (2, .int r3), (0, .ref (ad (vb v0 + 6))), (1, .int a1)]) hx hb dX3_operand_49 rfl hl (by decide) rfl (fun ls hl => ?_)
        refine lv_aload_n hx hb dX3_operand_50 rfl (lv_at hl 2 rfl) ?_
        obtain ⟨r12, M11, q10, hg⟩ := bd2_e hg hne
        refine w_calli (va_runV (As := []) (rest := []) CX (ctX3_advance l D sw cs ad X H.size M8 v0 hv0 q10) (cwV 0 hts (gwV m3_24 m3_26 mp2_2 m1_6 m3_27) rfl rfl rfl (by decide +kernel) ⟨Nat.le_trans (Nat.le_of_ble_eq_true rfl) hR.1, Nat.le_trans (Nat.le_of_ble_eq_true rfl) hR.2⟩) (wPreV hSW hS hA hK hP hD (kC_v (j := 6) hv0 (by decide)) (LC_RUN v0) rfl _) rfl rfl hl.1 rfl (lv_room (Nat.le_of_ble_eq_true rfl)) dX3_operand_51 ⟨Nat.zero_le _, Nat.zero_le _⟩) hD hS hA (fun H locs hP hD hS => ?_)
        refine lv_pop hx hb dX3_operand_54 rfl ?_
        refine lv_iload_n hx hb dX3_operand_55 rfl (lv_at hl 0 rfl) ?_
        exact hret _ _ _ _ _ _ hg dX3_operand_56 hP hD hS
      · have hg := if_f hg c6
        refine lv_iconst (v := 0) hx hb dX3_operand_40 (by decide) ?_
        exact hret _ _ _ _ _ _ hg dX3_operand_41 hP hD hS
    · have hg := if_f hg c5
      refine lv_aload_n hx hb dX3_operand_24 rfl (lv_at hl 1 rfl) ?_
      refine m_gr (C := RX3) (T := TX3) (n := 6) (ci := 1) hx hb hts in_RX3 hown hK hP (kC_v (j := 6) hv0 (by decide)) (LC_RUN v0) rfl 3 (by decide) rfl lk_15 (fun _ h9 => h9) dX3_operand_25 ?_
      refine lv_iload_n hx hb dX3_operand_28 rfl (lv_at hl 0 rfl) ?_
      refine lv_bipush (v := 97) hx hb dX3_operand_29 (by decide) ?_
      refine lv_isub hx hb dX3_operand_31 ?_
      obtain ⟨b13, hg⟩ := ck_e hg hne
      refine m_ld hx hb hK hP (kC_v (j := 8) hv0 (by decide)) (LC_RVARS v0) b13 dX3_operand_32 ?_
      exact hret _ _ _ _ _ _ hg dX3_operand_33 hP hD hS
  · have hg := if_f hg c4
    refine lv_iload_n hx hb dX3_operand_12 rfl (lv_at hl 0 rfl) ?_
    refine lv_bipush (v := 48) hx hb dX3_operand_13 (by decide) ?_
    refine lv_isub hx hb dX3_operand_15 ?_
    exact hret _ _ _ _ _ _ hg dX3_operand_16 hP hD hS

def gCR (v0 : Nat) : Nat → Nat → Mm → Int32 → Int32 → Option (Int32 × Mm)
  | 0, _, _, _, _ => none
  | d + 1, w, M, a, b => if w = 0 then (bd (gX3_runStatements (gCR v0 d) M v0 a b) fun M1 => some (0, M1)) else if w = 1 then (bd (gX3_runStatement (gCR v0 d) M v0 a b) fun M1 => some (0, M1)) else if w = 2 then (bd (gX3_runChoice (gCR v0 d) M v0 a b) fun M1 => some (0, M1)) else if w = 3 then (gX3_sum (gCR v0 d) M v0 a) else if w = 4 then (gX3_product (gCR v0 d) M v0 a) else if w = 5 then (gX3_factor (gCR v0 d) M v0 a) else if w = 6 then (gX3_operand (gCR v0 d) M v0 a) else none
set_option maxHeartbeats 4000000 in
set_option maxRecDepth 100000 in
theorem ctCR (l : Launch) (D : va_G) (sw : Sw) (cs : Cs) (ad : Nat → Nat) (v0 : Nat) (hv0 : v0 < 16) : ∀ d : Nat, (∀ (X : va_W) (sz : Nat) (M : Mm) (a1 a2 : Int32) (r : Int32) (M1 : Mm), gCR v0 d 0 M a1 a2 = some (r, M1) → Met l yX3_runStatements wsX3_runStatements ({ frames := 2 + d, cells := 0, slots := 0, locals := 42 + 24 * d }) (va_Pc [.ref (ad (vb v0 + 6)), .int a1, .int a2] (wPre D sw cs LC NC ad M X sz)) (wQv D cs LC NC ad M1 X sz) 0 0 (wA NC ad X sz)) ∧ (∀ (X : va_W) (sz : Nat) (M : Mm) (a1 a2 : Int32) (r : Int32) (M1 : Mm), gCR v0 d 1 M a1 a2 = some (r, M1) → Met l yX3_runStatement wsX3_runStatement ({ frames := 2 + d, cells := 0, slots := 0, locals := 42 + 24 * d }) (va_Pc [.ref (ad (vb v0 + 6)), .int a1, .int a2] (wPre D sw cs LC NC ad M X sz)) (wQv D cs LC NC ad M1 X sz) 0 0 (wA NC ad X sz)) ∧ (∀ (X : va_W) (sz : Nat) (M : Mm) (a1 a2 : Int32) (r : Int32) (M1 : Mm), gCR v0 d 2 M a1 a2 = some (r, M1) → Met l yX3_runChoice wsX3_runChoice ({ frames := 2 + d, cells := 0, slots := 0, locals := 42 + 24 * d }) (va_Pc [.ref (ad (vb v0 + 6)), .int a1, .int a2] (wPre D sw cs LC NC ad M X sz)) (wQv D cs LC NC ad M1 X sz) 0 0 (wA NC ad X sz)) ∧ (∀ (X : va_W) (sz : Nat) (M : Mm) (a1 a2 : Int32) (r : Int32) (M1 : Mm), gCR v0 d 3 M a1 a2 = some (r, M1) → Met l yX3_sum wsX3_sum ({ frames := 2 + d, cells := 0, slots := 0, locals := 42 + 24 * d }) (va_Pc [.ref (ad (vb v0 + 6)), .int a1] (wPre D sw cs LC NC ad M X sz)) (wQi D cs LC NC ad M1 X sz r) 0 0 (wA NC ad X sz)) ∧ (∀ (X : va_W) (sz : Nat) (M : Mm) (a1 a2 : Int32) (r : Int32) (M1 : Mm), gCR v0 d 4 M a1 a2 = some (r, M1) → Met l yX3_product wsX3_product ({ frames := 2 + d, cells := 0, slots := 0, locals := 42 + 24 * d }) (va_Pc [.ref (ad (vb v0 + 6)), .int a1] (wPre D sw cs LC NC ad M X sz)) (wQi D cs LC NC ad M1 X sz r) 0 0 (wA NC ad X sz)) ∧ (∀ (X : va_W) (sz : Nat) (M : Mm) (a1 a2 : Int32) (r : Int32) (M1 : Mm), gCR v0 d 5 M a1 a2 = some (r, M1) → Met l yX3_factor wsX3_factor ({ frames := 2 + d, cells := 0, slots := 0, locals := 42 + 24 * d }) (va_Pc [.ref (ad (vb v0 + 6)), .int a1] (wPre D sw cs LC NC ad M X sz)) (wQi D cs LC NC ad M1 X sz r) 0 0 (wA NC ad X sz)) ∧ (∀ (X : va_W) (sz : Nat) (M : Mm) (a1 a2 : Int32) (r : Int32) (M1 : Mm), gCR v0 d 6 M a1 a2 = some (r, M1) → Met l yX3_operand wsX3_operand ({ frames := 2 + d, cells := 0, slots := 0, locals := 42 + 24 * d }) (va_Pc [.ref (ad (vb v0 + 6)), .int a1] (wPre D sw cs LC NC ad M X sz)) (wQi D cs LC NC ad M1 X sz r) 0 0 (wA NC ad X sz)) := by
  intro d
  induction d with
  | zero => exact ⟨fun _ _ _ _ _ _ _ h => (by rw [gCR] at h; cases h), fun _ _ _ _ _ _ _ h => (by rw [gCR] at h; cases h), fun _ _ _ _ _ _ _ h => (by rw [gCR] at h; cases h), fun _ _ _ _ _ _ _ h => (by rw [gCR] at h; cases h), fun _ _ _ _ _ _ _ h => (by rw [gCR] at h; cases h), fun _ _ _ _ _ _ _ h => (by rw [gCR] at h; cases h), fun _ _ _ _ _ _ _ h => (by rw [gCR] at h; cases h)⟩
  | succ d ih =>
    obtain ⟨h0, h1, h2, h3, h4, h5, h6⟩ := ih
    refine ⟨?_, ?_, ?_, ?_, ?_, ?_, ?_⟩
    · intro X sz M a1 a2 r M1 hq
      rw [gCR] at hq
      have hq := if_t hq rfl
      obtain ⟨M8, hq, he⟩ := bd_e hq (by simp)
      exact met_w rfl rfl (Nat.le_of_ble_eq_true rfl) (fun p e s m args below meth c ls CX hr hlk hK hSW hP hD hS hA hl => bX3_runStatements _ M v0 hv0 a1 a2 h1 hq (by simp) CX ⟨Nat.le_trans (Nat.le_of_ble_eq_true rfl) (Nat.le_add_right 2 _), Nat.le_trans (Nat.le_of_ble_eq_true rfl) (Nat.le_add_right 42 _)⟩ ⟨Nat.le_refl _, by show 24 + (42 + 24 * d) ≤ 42 + 24 * (d + 1); omega⟩ hK hSW hP hD hS hA hl (fun pc ls H locs M9 hv dg hP hD hS => W.vret CX.1 CX.2.1 hr (fun t ht hW => ⟨⟨(), rfl, trivial, wpost hP ht ((Option.some.inj hv).trans (Prod.mk.inj (Option.some.inj he)).2)⟩, hS.F ht⟩) hS.2.2 dg))
    · intro X sz M a1 a2 r M1 hq
      rw [gCR] at hq
      have hq := if_f hq (by decide)
      have hq := if_t hq rfl
      obtain ⟨M8, hq, he⟩ := bd_e hq (by simp)
      exact met_w rfl rfl (Nat.le_of_ble_eq_true rfl) (fun p e s m args below meth c ls CX hr hlk hK hSW hP hD hS hA hl => bX3_runStatement _ M v0 hv0 a1 a2 h0 h2 h3 hq (by simp) CX ⟨Nat.le_trans (Nat.le_of_ble_eq_true rfl) (Nat.le_add_right 2 _), Nat.le_trans (Nat.le_of_ble_eq_true rfl) (Nat.le_add_right 42 _)⟩ ⟨Nat.le_refl _, by show 24 + (42 + 24 * d) ≤ 42 + 24 * (d + 1); omega⟩ hK hSW hP hD hS hA hl (fun pc ls H locs M9 hv dg hP hD hS => W.vret CX.1 CX.2.1 hr (fun t ht hW => ⟨⟨(), rfl, trivial, wpost hP ht ((Option.some.inj hv).trans (Prod.mk.inj (Option.some.inj he)).2)⟩, hS.F ht⟩) hS.2.2 dg))
    · intro X sz M a1 a2 r M1 hq
      rw [gCR] at hq
      have hq := if_f hq (by decide)
      have hq := if_f hq (by decide)
      have hq := if_t hq rfl
      obtain ⟨M8, hq, he⟩ := bd_e hq (by simp)
      exact met_w rfl rfl (Nat.le_of_ble_eq_true rfl) (fun p e s m args below meth c ls CX hr hlk hK hSW hP hD hS hA hl => bX3_runChoice _ M v0 hv0 a1 a2 h1 h3 hq (by simp) CX ⟨Nat.le_trans (Nat.le_of_ble_eq_true rfl) (Nat.le_add_right 2 _), Nat.le_trans (Nat.le_of_ble_eq_true rfl) (Nat.le_add_right 42 _)⟩ ⟨Nat.le_refl _, by show 24 + (42 + 24 * d) ≤ 42 + 24 * (d + 1); omega⟩ hK hSW hP hD hS hA hl (fun pc ls H locs M9 hv dg hP hD hS => W.vret CX.1 CX.2.1 hr (fun t ht hW => ⟨⟨(), rfl, trivial, wpost hP ht ((Option.some.inj hv).trans (Prod.mk.inj (Option.some.inj he)).2)⟩, hS.F ht⟩) hS.2.2 dg))
    · intro X sz M a1 a2 r M1 hq
      rw [gCR] at hq
      have hq := if_f hq (by decide)
      have hq := if_f hq (by decide)
      have hq := if_f hq (by decide)
      have hq := if_t hq rfl
      exact met_w rfl rfl (Nat.le_of_ble_eq_true rfl) (fun p e s m args below meth c ls CX hr hlk hK hSW hP hD hS hA hl => bX3_sum _ M v0 hv0 a1 h4 hq (by simp) CX ⟨Nat.le_trans (Nat.le_of_ble_eq_true rfl) (Nat.le_add_right 2 _), Nat.le_trans (Nat.le_of_ble_eq_true rfl) (Nat.le_add_right 42 _)⟩ ⟨Nat.le_refl _, by show 24 + (42 + 24 * d) ≤ 42 + 24 * (d + 1); omega⟩ hK hSW hP hD hS hA hl (fun pc ls H locs v M9 hv dg hP hD hS => W.iret CX.1 CX.2.1 hr (fun t ht hW => ⟨⟨_, (), rfl, (Prod.mk.inj (Option.some.inj hv)).1, wpost hP ht (Prod.mk.inj (Option.some.inj hv)).2⟩, hS.F ht⟩) hS.2.2 dg))
    · intro X sz M a1 a2 r M1 hq
      rw [gCR] at hq
      have hq := if_f hq (by decide)
      have hq := if_f hq (by decide)
      have hq := if_f hq (by decide)
      have hq := if_f hq (by decide)
      have hq := if_t hq rfl
      exact met_w rfl rfl (Nat.le_of_ble_eq_true rfl) (fun p e s m args below meth c ls CX hr hlk hK hSW hP hD hS hA hl => bX3_product _ M v0 hv0 a1 h5 hq (by simp) CX ⟨Nat.le_trans (Nat.le_of_ble_eq_true rfl) (Nat.le_add_right 2 _), Nat.le_trans (Nat.le_of_ble_eq_true rfl) (Nat.le_add_right 42 _)⟩ ⟨Nat.le_refl _, by show 24 + (42 + 24 * d) ≤ 42 + 24 * (d + 1); omega⟩ hK hSW hP hD hS hA hl (fun pc ls H locs v M9 hv dg hP hD hS => W.iret CX.1 CX.2.1 hr (fun t ht hW => ⟨⟨_, (), rfl, (Prod.mk.inj (Option.some.inj hv)).1, wpost hP ht (Prod.mk.inj (Option.some.inj hv)).2⟩, hS.F ht⟩) hS.2.2 dg))
    · intro X sz M a1 a2 r M1 hq
      rw [gCR] at hq
      have hq := if_f hq (by decide)
      have hq := if_f hq (by decide)
      have hq := if_f hq (by decide)
      have hq := if_f hq (by decide)
      have hq := if_f hq (by decide)
      have hq := if_t hq rfl
      exact met_w rfl rfl (Nat.le_of_ble_eq_true rfl) (fun p e s m args below meth c ls CX hr hlk hK hSW hP hD hS hA hl => bX3_factor _ M v0 hv0 a1 h6 hq (by simp) CX ⟨Nat.le_trans (Nat.le_of_ble_eq_true rfl) (Nat.le_add_right 2 _), Nat.le_trans (Nat.le_of_ble_eq_true rfl) (Nat.le_add_right 42 _)⟩ ⟨Nat.le_refl _, by show 24 + (42 + 24 * d) ≤ 42 + 24 * (d + 1); omega⟩ hK hSW hP hD hS hA hl (fun pc ls H locs v M9 hv dg hP hD hS => W.iret CX.1 CX.2.1 hr (fun t ht hW => ⟨⟨_, (), rfl, (Prod.mk.inj (Option.some.inj hv)).1, wpost hP ht (Prod.mk.inj (Option.some.inj hv)).2⟩, hS.F ht⟩) hS.2.2 dg))
    · intro X sz M a1 a2 r M1 hq
      rw [gCR] at hq
      have hq := if_f hq (by decide)
      have hq := if_f hq (by decide)
      have hq := if_f hq (by decide)
      have hq := if_f hq (by decide)
      have hq := if_f hq (by decide)
      have hq := if_f hq (by decide)
      have hq := if_t hq rfl
      exact met_w rfl rfl (Nat.le_of_ble_eq_true rfl) (fun p e s m args below meth c ls CX hr hlk hK hSW hP hD hS hA hl => bX3_operand _ M v0 hv0 a1 h3 hq (by simp) CX ⟨Nat.le_trans (Nat.le_of_ble_eq_true rfl) (Nat.le_add_right 2 _), Nat.le_trans (Nat.le_of_ble_eq_true rfl) (Nat.le_add_right 42 _)⟩ ⟨Nat.le_refl _, by show 24 + (42 + 24 * d) ≤ 42 + 24 * (d + 1); omega⟩ hK hSW hP hD hS hA hl (fun pc ls H locs v M9 hv dg hP hD hS => W.iret CX.1 CX.2.1 hr (fun t ht hW => ⟨⟨_, (), rfl, (Prod.mk.inj (Option.some.inj hv)).1, wpost hP ht (Prod.mk.inj (Option.some.inj hv)).2⟩, hS.F ht⟩) hS.2.2 dg))
