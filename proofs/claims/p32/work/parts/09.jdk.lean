abbrev wsJ0_coder_7d493 : List Cond := Cond.code yJ0_coder_7d493 cJ0_coder_7d493 1 (some .byte) :: WG
def gJ0_coder_7d493 (v0 : Nat) : Option Int32 := some (0 : Int32)
set_option maxHeartbeats 4000000 in
set_option maxRecDepth 100000 in
theorem bJ0_coder_7d493 {p : Program} {l : Launch} {e : Env} {R : Room} {s : State} {m : MethodId} {args : Array Value} {below : List Frame} {meth : Method} {c : Code} {Q : State → Prop} {sw : Sw} (v0 : Nat) (hv0 : v0 < 29) {res : Option Int32} (hg : gJ0_coder_7d493 v0 = res) (hne : res ≠ none) (CX : CallFix p m c cJ0_coder_7d493 1 s args wsJ0_coder_7d493 RJ0) (hR : 0 ≤ R.frames ∧ 0 ≤ R.locals) (hSW : SW sw (fun _ => False) s s.heap) {ls : Array Slot} (hl : lv_has ls 1 [(0, .ref (sw.1 v0))]) (hret : ∀ (pc : Nat) (ls : Array Slot) (v : Int32), some v = res → decode cJ0_coder_7d493 pc = .ok (.ireturn, 1) → narrow .byte (.int v) = .int v → W p l e R s m args below meth c s.heap [] 0 0 Q (F0 m pc ls [.int v])) : W p l e R s m args below meth c s.heap [] 0 0 Q (F0 m 0 ls []) := by
  obtain ⟨hx, hb, hml, hown, hts⟩ := id CX
  have hw : ∀ w ∈ WG, w.before args s = true := fun w h => hts w (List.mem_cons_of_mem _ h)
  have lk_38 := hw _ m2_198
  have lk_15 := hw _ m4_33
  unfold gJ0_coder_7d493 at hg
  refine va_gets hx hb hSW.cs va_S.rf hown lk_38 (fun _ h9 => h9) dJ0_coder_7d493_0 ?_
  refine lv_if_eq (tgt := 13) hx hb dJ0_coder_7d493_3 (by decide) (fun h9 => absurd h9 (by decide)) (fun _ => ?_)
  refine lv_aload_n hx hb dJ0_coder_7d493_6 rfl (lv_at hl 0 rfl) ?_
  refine vk_getf hx hb (hSW.st.1 v0 hv0).2.1 va_S.rf hown lk_15 (fun _ h9 => h9) dJ0_coder_7d493_7 ?_
  refine lv_goto (tgt := 14) hx hb dJ0_coder_7d493_10 (by decide) ?_
  exact hret _ _ _ hg dJ0_coder_7d493_14 rfl
theorem ctJ0_coder_7d493 (l : Launch) (sw : Sw) (v0 : Nat) (hv0 : v0 < 29) {r : Int32} (hq : gJ0_coder_7d493 v0 = some r) : Met l yJ0_coder_7d493 wsJ0_coder_7d493 ({ frames := 0, cells := 0, slots := 0, locals := 0 }) (va_Pc [.ref (sw.1 v0)] (sPre sw)) (vp_Si (fun r' => r' = r)) 0 0 (fun _ => False) :=
  met_s rfl rfl (Nat.le_of_ble_eq_true rfl) (fun p e s m args below meth c ls CX hr hlk hSW hl => bJ0_coder_7d493 v0 hv0 hq (by simp) CX ⟨Nat.le_refl _, Nat.le_refl _⟩ hSW hl (fun pc ls v hv dg hz => W.zret (ty := .byte) CX.1 CX.2.1 hr hz (fun t ht hW => ⟨_, rfl, Option.some.inj hv, ht⟩) (fun _ h => by cases h) dg))

abbrev wsJ0_isLatin1_aae02 : List Cond := Cond.code yJ0_isLatin1_aae02 cJ0_isLatin1_aae02 1 (some .boolean) :: WG
def gJ0_isLatin1_aae02 (v0 : Nat) : Option Int32 := some (1 : Int32)
set_option maxHeartbeats 4000000 in
set_option maxRecDepth 100000 in
theorem bJ0_isLatin1_aae02 {p : Program} {l : Launch} {e : Env} {R : Room} {s : State} {m : MethodId} {args : Array Value} {below : List Frame} {meth : Method} {c : Code} {Q : State → Prop} {sw : Sw} (v0 : Nat) (hv0 : v0 < 29) {res : Option Int32} (hg : gJ0_isLatin1_aae02 v0 = res) (hne : res ≠ none) (CX : CallFix p m c cJ0_isLatin1_aae02 1 s args wsJ0_isLatin1_aae02 RJ0) (hR : 0 ≤ R.frames ∧ 0 ≤ R.locals) (hSW : SW sw (fun _ => False) s s.heap) {ls : Array Slot} (hl : lv_has ls 1 [(0, .ref (sw.1 v0))]) (hret : ∀ (pc : Nat) (ls : Array Slot) (v : Int32), some v = res → decode cJ0_isLatin1_aae02 pc = .ok (.ireturn, 1) → narrow .boolean (.int v) = .int v → W p l e R s m args below meth c s.heap [] 0 0 Q (F0 m pc ls [.int v])) : W p l e R s m args below meth c s.heap [] 0 0 Q (F0 m 0 ls []) := by
  obtain ⟨hx, hb, hml, hown, hts⟩ := id CX
  have hw : ∀ w ∈ WG, w.before args s = true := fun w h => hts w (List.mem_cons_of_mem _ h)
  have lk_38 := hw _ m2_198
  have lk_15 := hw _ m4_33
  unfold gJ0_isLatin1_aae02 at hg
  refine va_gets hx hb hSW.cs va_S.rf hown lk_38 (fun _ h9 => h9) dJ0_isLatin1_aae02_0 ?_
  refine lv_if_eq (tgt := 17) hx hb dJ0_isLatin1_aae02_3 (by decide) (fun h9 => absurd h9 (by decide)) (fun _ => ?_)
  refine lv_aload_n hx hb dJ0_isLatin1_aae02_6 rfl (lv_at hl 0 rfl) ?_
  refine vk_getf hx hb (hSW.st.1 v0 hv0).2.1 va_S.rf hown lk_15 (fun _ h9 => h9) dJ0_isLatin1_aae02_7 ?_
  refine lv_if_ne (tgt := 17) hx hb dJ0_isLatin1_aae02_10 (by decide) (fun h9 => absurd h9 (by decide)) (fun _ => ?_)
  refine lv_iconst (v := 1) hx hb dJ0_isLatin1_aae02_13 (by decide) ?_
  refine lv_goto (tgt := 18) hx hb dJ0_isLatin1_aae02_14 (by decide) ?_
  exact hret _ _ _ hg dJ0_isLatin1_aae02_18 rfl
theorem ctJ0_isLatin1_aae02 (l : Launch) (sw : Sw) (v0 : Nat) (hv0 : v0 < 29) {r : Int32} (hq : gJ0_isLatin1_aae02 v0 = some r) : Met l yJ0_isLatin1_aae02 wsJ0_isLatin1_aae02 ({ frames := 0, cells := 0, slots := 0, locals := 0 }) (va_Pc [.ref (sw.1 v0)] (sPre sw)) (vp_Si (fun r' => r' = r)) 0 0 (fun _ => False) :=
  met_s rfl rfl (Nat.le_of_ble_eq_true rfl) (fun p e s m args below meth c ls CX hr hlk hSW hl => bJ0_isLatin1_aae02 v0 hv0 hq (by simp) CX ⟨Nat.le_refl _, Nat.le_refl _⟩ hSW hl (fun pc ls v hv dg hz => W.zret (ty := .boolean) CX.1 CX.2.1 hr hz (fun t ht hW => ⟨_, rfl, Option.some.inj hv, ht⟩) (fun _ h => by cases h) dg))

abbrev wsJ0_length_8abf5 : List Cond := Cond.code yJ0_length_8abf5 cJ0_length_8abf5 1 (some .int) :: WG
def gJ0_length_8abf5 (v0 : Nat) : Option Int32 := some ((nI (litL.getD v0 0)) >>> ((0 : Int32) &&& 31))
set_option maxHeartbeats 4000000 in
set_option maxRecDepth 100000 in
theorem bJ0_length_8abf5 {p : Program} {l : Launch} {e : Env} {R : Room} {s : State} {m : MethodId} {args : Array Value} {below : List Frame} {meth : Method} {c : Code} {Q : State → Prop} {sw : Sw} (v0 : Nat) (hv0 : v0 < 29) {res : Option Int32} (hg : gJ0_length_8abf5 v0 = res) (hne : res ≠ none) (CX : CallFix p m c cJ0_length_8abf5 1 s args wsJ0_length_8abf5 RJ0) (hR : 1 ≤ R.frames ∧ 20 ≤ R.locals) (hSW : SW sw (fun _ => False) s s.heap) {ls : Array Slot} (hl : lv_has ls 1 [(0, .ref (sw.1 v0))]) (hret : ∀ (pc : Nat) (ls : Array Slot) (v : Int32), some v = res → decode cJ0_length_8abf5 pc = .ok (.ireturn, 1) → W p l e R s m args below meth c s.heap [] 0 0 Q (F0 m pc ls [.int v])) : W p l e R s m args below meth c s.heap [] 0 0 Q (F0 m 0 ls []) := by
  obtain ⟨hx, hb, hml, hown, hts⟩ := id CX
  have hw : ∀ w ∈ WG, w.before args s = true := fun w h => hts w (List.mem_cons_of_mem _ h)
  have lk_9 := hw _ m4_32
  unfold gJ0_length_8abf5 at hg
  refine lv_aload_n hx hb dJ0_length_8abf5_0 rfl (lv_at hl 0 rfl) ?_
  refine vk_getf hx hb (hSW.st.1 v0 hv0).2.2.1 va_S.rf hown lk_9 (fun _ h9 => h9) dJ0_length_8abf5_1 ?_
  refine va_tlen hx hb (hSW.st.1 v0 hv0).2.2.2 va_S.rf rfl dJ0_length_8abf5_4 ?_
  refine lv_aload_n hx hb dJ0_length_8abf5_5 rfl (lv_at hl 0 rfl) ?_
  refine r_calli (r := (0 : Int32)) (W.runV (As := []) (rest := [.int (nI (litL.getD v0 0))]) CX (ctJ0_coder_7d493 l sw v0 hv0 rfl) (cwV 0 hts (gwV m2_194 m2_195 m2_196 m1_7 m2_197) rfl rfl rfl (by decide +kernel) ⟨Nat.le_trans (Nat.le_of_ble_eq_true rfl) hR.1, Nat.le_trans (Nat.le_of_ble_eq_true rfl) hR.2⟩) (sPreV hSW hv0 _) rfl rfl hl.1 rfl (lv_room (Nat.le_of_ble_eq_true rfl)) dJ0_length_8abf5_6 ⟨Nat.zero_le _, Nat.zero_le _⟩) ?_
  refine lv_ishr hx hb dJ0_length_8abf5_9 ?_
  exact hret _ _ _ hg dJ0_length_8abf5_10
theorem ctJ0_length_8abf5 (l : Launch) (sw : Sw) (v0 : Nat) (hv0 : v0 < 29) {r : Int32} (hq : gJ0_length_8abf5 v0 = some r) : Met l yJ0_length_8abf5 wsJ0_length_8abf5 ({ frames := 1, cells := 0, slots := 0, locals := 20 }) (va_Pc [.ref (sw.1 v0)] (sPre sw)) (vp_Si (fun r' => r' = r)) 0 0 (fun _ => False) :=
  met_s rfl rfl (Nat.le_of_ble_eq_true rfl) (fun p e s m args below meth c ls CX hr hlk hSW hl => bJ0_length_8abf5 v0 hv0 hq (by simp) CX ⟨Nat.le_refl _, Nat.le_refl _⟩ hSW hl (fun pc ls v hv dg => W.iret CX.1 CX.2.1 hr (fun t ht hW => ⟨_, rfl, Option.some.inj hv, ht⟩) (fun _ h => by cases h) dg))

abbrev wsJ6_bitCount_0f7a4 : List Cond := Cond.code yJ6_bitCount_0f7a4 cJ6_bitCount_0f7a4 1 (some .int) :: WG
def gJ6_bitCount_0f7a4 (a0 : Int32) : Int32 := lt (a0 - ((((a0).toUInt32 >>> (((1 : Int32)).toUInt32 &&& Int32.toUInt32 31)).toInt32) &&& (1431655765 : Int32))) fun x1 => lt ((x1 &&& (858993459 : Int32)) + ((((x1).toUInt32 >>> (((2 : Int32)).toUInt32 &&& Int32.toUInt32 31)).toInt32) &&& (858993459 : Int32))) fun x2 => lt ((x2 + (((x2).toUInt32 >>> (((4 : Int32)).toUInt32 &&& Int32.toUInt32 31)).toInt32)) &&& (252645135 : Int32)) fun x3 => lt (x3 + (((x3).toUInt32 >>> (((8 : Int32)).toUInt32 &&& Int32.toUInt32 31)).toInt32)) fun x4 => lt (x4 + (((x4).toUInt32 >>> (((16 : Int32)).toUInt32 &&& Int32.toUInt32 31)).toInt32)) fun x5 => (x5 &&& (63 : Int32))
set_option maxHeartbeats 4000000 in
set_option maxRecDepth 100000 in
theorem bJ6_bitCount_0f7a4 {p : Program} {l : Launch} {e : Env} {R : Room} {s : State} {m : MethodId} {args : Array Value} {below : List Frame} {meth : Method} {c : Code} {H : Heap} {locs : List Loc} {Q : State → Prop} (a0 : Int32) {res : Int32} (hg : gJ6_bitCount_0f7a4 a0 = res) (CX : CallFix p m c cJ6_bitCount_0f7a4 1 s args wsJ6_bitCount_0f7a4 RJ6) (hR : 0 ≤ R.frames ∧ 0 ≤ R.locals) {ls : Array Slot} (hl : lv_has ls 1 [(0, .int a0)]) (hret : ∀ (pc : Nat) (ls : Array Slot) (v : Int32), v = res → decode cJ6_bitCount_0f7a4 pc = .ok (.ireturn, 1) → W p l e R s m args below meth c H locs 0 0 Q (F0 m pc ls [.int v])) : W p l e R s m args below meth c H locs 0 0 Q (F0 m 0 ls []) := by
  obtain ⟨hx, hb, hml, hown, hts⟩ := id CX
  have hw : ∀ w ∈ WG, w.before args s = true := fun w h => hts w (List.mem_cons_of_mem _ h)
  have lk_265 := hw _ m4_15
  have lk_266 := hw _ m4_16
  have lk_267 := hw _ m4_17
  unfold gJ6_bitCount_0f7a4 at hg
  refine lv_iload_n hx hb dJ6_bitCount_0f7a4_0 rfl (lv_at hl 0 rfl) ?_
  refine lv_iload_n hx hb dJ6_bitCount_0f7a4_1 rfl (lv_at hl 0 rfl) ?_
  refine lv_iconst (v := 1) hx hb dJ6_bitCount_0f7a4_2 (by decide) ?_
  refine lv_iushr hx hb dJ6_bitCount_0f7a4_3 rfl ?_
  refine lv_ldcw (v := 1431655765) hx hb hown lk_265 dJ6_bitCount_0f7a4_4 ?_
  refine lv_iand hx hb dJ6_bitCount_0f7a4_7 ?_
  refine lv_isub hx hb dJ6_bitCount_0f7a4_8 ?_
  obtain ⟨x1, hx1, hg⟩ := lt_e hg
  refine top_i hx1 ?_
  refine lv_istore_n (lv' := [(0, .int x1)]) hx hb dJ6_bitCount_0f7a4_9 rfl hl (by decide) rfl (fun ls hl => ?_)
  refine lv_iload_n hx hb dJ6_bitCount_0f7a4_10 rfl (lv_at hl 0 rfl) ?_
  refine lv_ldcw (v := 858993459) hx hb hown lk_266 dJ6_bitCount_0f7a4_11 ?_
  refine lv_iand hx hb dJ6_bitCount_0f7a4_14 ?_
  refine lv_iload_n hx hb dJ6_bitCount_0f7a4_15 rfl (lv_at hl 0 rfl) ?_
  refine lv_iconst (v := 2) hx hb dJ6_bitCount_0f7a4_16 (by decide) ?_
  refine lv_iushr hx hb dJ6_bitCount_0f7a4_17 rfl ?_
  refine lv_ldcw (v := 858993459) hx hb hown lk_266 dJ6_bitCount_0f7a4_18 ?_
  refine lv_iand hx hb dJ6_bitCount_0f7a4_21 ?_
  refine lv_iadd hx hb dJ6_bitCount_0f7a4_22 ?_
  obtain ⟨x2, hx2, hg⟩ := lt_e hg
  refine top_i hx2 ?_
  refine lv_istore_n (lv' := [(0, .int x2)]) hx hb dJ6_bitCount_0f7a4_23 rfl hl (by decide) rfl (fun ls hl => ?_)
  refine lv_iload_n hx hb dJ6_bitCount_0f7a4_24 rfl (lv_at hl 0 rfl) ?_
  refine lv_iload_n hx hb dJ6_bitCount_0f7a4_25 rfl (lv_at hl 0 rfl) ?_
  refine lv_iconst (v := 4) hx hb dJ6_bitCount_0f7a4_26 (by decide) ?_
  refine lv_iushr hx hb dJ6_bitCount_0f7a4_27 rfl ?_
  refine lv_iadd hx hb dJ6_bitCount_0f7a4_28 ?_
  refine lv_ldcw (v := 252645135) hx hb hown lk_267 dJ6_bitCount_0f7a4_29 ?_
  refine lv_iand hx hb dJ6_bitCount_0f7a4_32 ?_
  obtain ⟨x3, hx3, hg⟩ := lt_e hg
  refine top_i hx3 ?_
  refine lv_istore_n (lv' := [(0, .int x3)]) hx hb dJ6_bitCount_0f7a4_33 rfl hl (by decide) rfl (fun ls hl => ?_)
  refine lv_iload_n hx hb dJ6_bitCount_0f7a4_34 rfl (lv_at hl 0 rfl) ?_
  refine lv_iload_n hx hb dJ6_bitCount_0f7a4_35 rfl (lv_at hl 0 rfl) ?_
  refine lv_bipush (v := 8) hx hb dJ6_bitCount_0f7a4_36 (by decide) ?_
  refine lv_iushr hx hb dJ6_bitCount_0f7a4_38 rfl ?_
  refine lv_iadd hx hb dJ6_bitCount_0f7a4_39 ?_
  obtain ⟨x4, hx4, hg⟩ := lt_e hg
  refine top_i hx4 ?_
  refine lv_istore_n (lv' := [(0, .int x4)]) hx hb dJ6_bitCount_0f7a4_40 rfl hl (by decide) rfl (fun ls hl => ?_)
  refine lv_iload_n hx hb dJ6_bitCount_0f7a4_41 rfl (lv_at hl 0 rfl) ?_
  refine lv_iload_n hx hb dJ6_bitCount_0f7a4_42 rfl (lv_at hl 0 rfl) ?_
  refine lv_bipush (v := 16) hx hb dJ6_bitCount_0f7a4_43 (by decide) ?_
  refine lv_iushr hx hb dJ6_bitCount_0f7a4_45 rfl ?_
  refine lv_iadd hx hb dJ6_bitCount_0f7a4_46 ?_
  obtain ⟨x5, hx5, hg⟩ := lt_e hg
  refine top_i hx5 ?_
  refine lv_istore_n (lv' := [(0, .int x5)]) hx hb dJ6_bitCount_0f7a4_47 rfl hl (by decide) rfl (fun ls hl => ?_)
  refine lv_iload_n hx hb dJ6_bitCount_0f7a4_48 rfl (lv_at hl 0 rfl) ?_
  refine lv_bipush (v := 63) hx hb dJ6_bitCount_0f7a4_49 (by decide) ?_
  refine lv_iand hx hb dJ6_bitCount_0f7a4_51 ?_
  exact hret _ _ _ hg dJ6_bitCount_0f7a4_52
theorem ctJ6_bitCount_0f7a4 (l : Launch) (a0 : Int32) : Met l yJ6_bitCount_0f7a4 wsJ6_bitCount_0f7a4 ({ frames := 0, cells := 0, slots := 0, locals := 0 }) (va_Pc [.int a0] (fun _ => True)) (vp_Si (fun r' => r' = gJ6_bitCount_0f7a4 a0)) 0 0 (fun _ => False) :=
  met_p rfl rfl (Nat.le_of_ble_eq_true rfl) (fun p e s m args below meth c ls CX hr hlk hl => bJ6_bitCount_0f7a4 a0 rfl CX ⟨Nat.le_refl _, Nat.le_refl _⟩ hl (fun pc ls v hv dg => W.iret CX.1 CX.2.1 hr (fun t ht hW => ⟨_, rfl, hv, ht⟩) (fun _ h => by cases h) dg))

abbrev wsX0_replacement : List Cond := Cond.code yX0_replacement cX0_replacement 2 (some (.object "java/lang/String")) :: WG
def gX0_replacement (a0 : Int32) (a1 : Int32) : Option Nat := if a0 = (69 : Int32) then ((some 7)) else if a0 = (70 : Int32) then (if a1 = (40 : Int32) then ((some 12)) else if a1 = (45 : Int32) then ((some 13)) else if (gX0_isDigit a1) = 0 then (if (gX0_isName a1) = 0 then (none) else (some 14)) else (some 14)) else if a0 = (71 : Int32) then (none) else if a0 = (72 : Int32) then (none) else if a0 = (73 : Int32) then (none) else if a0 = (74 : Int32) then (none) else if a0 = (75 : Int32) then (none) else if a0 = (76 : Int32) then (none) else if a0 = (77 : Int32) then (none) else if a0 = (78 : Int32) then (none) else if a0 = (79 : Int32) then (none) else if a0 = (80 : Int32) then (if (gX0_canBeginStatement a1) = 0 then ((some 1)) else (some 0)) else if a0 = (81 : Int32) then (if a1 = (43 : Int32) then ((some 8)) else if a1 = (45 : Int32) then ((some 9)) else (some 1)) else if a0 = (82 : Int32) then (if a1 = (58 : Int32) then ((some 6)) else (some 1)) else if a0 = (83 : Int32) then (if a1 = (123 : Int32) then ((some 2)) else if a1 = (63 : Int32) then ((some 3)) else if a1 = (33 : Int32) then ((some 4)) else if (gX0_isName a1) = 0 then (none) else (some 5)) else if a0 = (84 : Int32) then ((some 10)) else if a0 = (85 : Int32) then (if a1 = (42 : Int32) then ((some 11)) else (some 1)) else none
set_option maxHeartbeats 4000000 in
set_option maxRecDepth 100000 in
theorem bX0_replacement {p : Program} {l : Launch} {e : Env} {R : Room} {s : State} {m : MethodId} {args : Array Value} {below : List Frame} {meth : Method} {c : Code} {Q : State → Prop} {sw : Sw} (a0 : Int32) (a1 : Int32) {res : Option Nat} (hg : gX0_replacement a0 a1 = res) (CX : CallFix p m c cX0_replacement 2 s args wsX0_replacement RX0) (hR : 1 ≤ R.frames ∧ 20 ≤ R.locals) (hSW : SW sw (fun _ => False) s s.heap) {ls : Array Slot} (hl : lv_has ls 2 [(0, .int a0), (1, .int a1)]) (hret : ∀ (pc : Nat) (ls : Array Slot) (o : Option Nat), o = res → decode cX0_replacement pc = .ok (.areturn, 1) → W p l e R s m args below meth c s.heap [] 0 0 Q (F0 m pc ls [va_rf (o.map sw.1)])) : W p l e R s m args below meth c s.heap [] 0 0 Q (F0 m 0 ls []) := by
  obtain ⟨hx, hb, hml, hown, hts⟩ := id CX
  have hw : ∀ w ∈ WG, w.before args s = true := fun w h => hts w (List.mem_cons_of_mem _ h)
  unfold gX0_replacement at hg
  refine lv_iload_n hx hb dX0_replacement_0 rfl (lv_at hl 0 rfl) ?_
  by_cases z1 : a0 = (69 : Int32)
  · have hg := if_t hg z1
    refine lv_tableIn (off := 153) (tgt := 154) hx hb dX0_replacement_1 (by rw [z1]; decide) (by rw [z1]; decide) (by rw [z1]; decide) (by decide) ?_
    refine va_ldcS (tx := "TQ") hx hb hown (hSW.li 7 (RX0, 33, "TQ") rfl) dX0_replacement_154 ?_
    exact hret _ _ (some 7) hg dX0_replacement_156
  have hg := if_f hg z1
  by_cases z2 : a0 = (70 : Int32)
  · have hg := if_t hg z2
    refine lv_tableIn (off := 196) (tgt := 197) hx hb dX0_replacement_1 (by rw [z2]; decide) (by rw [z2]; decide) (by rw [z2]; decide) (by decide) ?_
    refine lv_iload_n hx hb dX0_replacement_197 rfl (lv_at hl 1 rfl) ?_
    refine lv_bipush (v := 40) hx hb dX0_replacement_198 (by decide) ?_
    refine lv_icmp_ne (tgt := 206) hx hb dX0_replacement_200 (by decide) (fun c3 => ?_) (fun c3 => ?_)
    · have hg := if_f hg c3
      refine lv_iload_n hx hb dX0_replacement_206 rfl (lv_at hl 1 rfl) ?_
      refine lv_bipush (v := 45) hx hb dX0_replacement_207 (by decide) ?_
      refine lv_icmp_ne (tgt := 215) hx hb dX0_replacement_209 (by decide) (fun c4 => ?_) (fun c4 => ?_)
      · have hg := if_f hg c4
        refine lv_iload_n hx hb dX0_replacement_215 rfl (lv_at hl 1 rfl) ?_
        refine r_calli (W.runS (As := [.int a1]) (rest := []) CX (ctX0_isDigit l a1) (va_cwS 1 hts (gwS m1_185 m1_186 m1_11 m1_187) rfl rfl rfl (by decide +kernel) ⟨Nat.le_trans (Nat.le_of_ble_eq_true rfl) hR.1, Nat.le_trans (Nat.le_of_ble_eq_true rfl) hR.2⟩) (pPreS _) rfl rfl hl.1 rfl (lv_room (Nat.le_of_ble_eq_true rfl)) dX0_replacement_216 ⟨Nat.zero_le _, Nat.zero_le _⟩) ?_
        refine lv_if_ne (tgt := 229) hx hb dX0_replacement_219 (by decide) (fun c5 => ?_) (fun c5 => ?_)
        · have hg := if_f hg c5
          refine va_ldcS (tx := "#") hx hb hown (hSW.li 14 (RX0, 47, "#") rfl) dX0_replacement_229 ?_
          refine lv_goto (tgt := 235) hx hb dX0_replacement_231 (by decide) ?_
          exact hret _ _ (some 14) hg dX0_replacement_235
        · have hg := if_t hg c5
          refine lv_iload_n hx hb dX0_replacement_222 rfl (lv_at hl 1 rfl) ?_
          refine r_calli (W.runS (As := [.int a1]) (rest := []) CX (ctX0_isName l a1) (va_cwS 1 hts (gwS m1_188 m1_189 m1_11 m1_190) rfl rfl rfl (by decide +kernel) ⟨Nat.le_trans (Nat.le_of_ble_eq_true rfl) hR.1, Nat.le_trans (Nat.le_of_ble_eq_true rfl) hR.2⟩) (pPreS _) rfl rfl hl.1 rfl (lv_room (Nat.le_of_ble_eq_true rfl)) dX0_replacement_223 ⟨Nat.zero_le _, Nat.zero_le _⟩) ?_
          refine lv_if_eq (tgt := 234) hx hb dX0_replacement_226 (by decide) (fun c6 => ?_) (fun c6 => ?_)
          · have hg := if_t hg c6
            refine lv_null hx hb dX0_replacement_234 ?_
            exact hret _ _ none hg dX0_replacement_235
          · have hg := if_f hg c6
            refine va_ldcS (tx := "#") hx hb hown (hSW.li 14 (RX0, 47, "#") rfl) dX0_replacement_229 ?_
            refine lv_goto (tgt := 235) hx hb dX0_replacement_231 (by decide) ?_
            exact hret _ _ (some 14) hg dX0_replacement_235
      · have hg := if_t hg c4
        refine va_ldcS (tx := "-F") hx hb hown (hSW.li 13 (RX0, 45, "-F") rfl) dX0_replacement_212 ?_
        exact hret _ _ (some 13) hg dX0_replacement_214
    · have hg := if_t hg c3
      refine va_ldcS (tx := "(E)") hx hb hown (hSW.li 12 (RX0, 43, "(E)") rfl) dX0_replacement_203 ?_
      exact hret _ _ (some 12) hg dX0_replacement_205
  have hg := if_f hg z2
  by_cases z7 : a0 = (71 : Int32)
  · have hg := if_t hg z7
    refine lv_tableIn (off := 235) (tgt := 236) hx hb dX0_replacement_1 (by rw [z7]; decide) (by rw [z7]; decide) (by rw [z7]; decide) (by decide) ?_
    refine lv_null hx hb dX0_replacement_236 ?_
    exact hret _ _ none hg dX0_replacement_237
  have hg := if_f hg z7
  by_cases z8 : a0 = (72 : Int32)
  · have hg := if_t hg z8
    refine lv_tableIn (off := 235) (tgt := 236) hx hb dX0_replacement_1 (by rw [z8]; decide) (by rw [z8]; decide) (by rw [z8]; decide) (by decide) ?_
    refine lv_null hx hb dX0_replacement_236 ?_
    exact hret _ _ none hg dX0_replacement_237
  have hg := if_f hg z8
  by_cases z9 : a0 = (73 : Int32)
  · have hg := if_t hg z9
    refine lv_tableIn (off := 235) (tgt := 236) hx hb dX0_replacement_1 (by rw [z9]; decide) (by rw [z9]; decide) (by rw [z9]; decide) (by decide) ?_
    refine lv_null hx hb dX0_replacement_236 ?_
    exact hret _ _ none hg dX0_replacement_237
  have hg := if_f hg z9
  by_cases z10 : a0 = (74 : Int32)
  · have hg := if_t hg z10
    refine lv_tableIn (off := 235) (tgt := 236) hx hb dX0_replacement_1 (by rw [z10]; decide) (by rw [z10]; decide) (by rw [z10]; decide) (by decide) ?_
    refine lv_null hx hb dX0_replacement_236 ?_
    exact hret _ _ none hg dX0_replacement_237
  have hg := if_f hg z10
  by_cases z11 : a0 = (75 : Int32)
  · have hg := if_t hg z11
    refine lv_tableIn (off := 235) (tgt := 236) hx hb dX0_replacement_1 (by rw [z11]; decide) (by rw [z11]; decide) (by rw [z11]; decide) (by decide) ?_
    refine lv_null hx hb dX0_replacement_236 ?_
    exact hret _ _ none hg dX0_replacement_237
  have hg := if_f hg z11
  by_cases z12 : a0 = (76 : Int32)
  · have hg := if_t hg z12
    refine lv_tableIn (off := 235) (tgt := 236) hx hb dX0_replacement_1 (by rw [z12]; decide) (by rw [z12]; decide) (by rw [z12]; decide) (by decide) ?_
    refine lv_null hx hb dX0_replacement_236 ?_
    exact hret _ _ none hg dX0_replacement_237
  have hg := if_f hg z12
  by_cases z13 : a0 = (77 : Int32)
  · have hg := if_t hg z13
    refine lv_tableIn (off := 235) (tgt := 236) hx hb dX0_replacement_1 (by rw [z13]; decide) (by rw [z13]; decide) (by rw [z13]; decide) (by decide) ?_
    refine lv_null hx hb dX0_replacement_236 ?_
    exact hret _ _ none hg dX0_replacement_237
  have hg := if_f hg z13
  by_cases z14 : a0 = (78 : Int32)
  · have hg := if_t hg z14
    refine lv_tableIn (off := 235) (tgt := 236) hx hb dX0_replacement_1 (by rw [z14]; decide) (by rw [z14]; decide) (by rw [z14]; decide) (by decide) ?_
    refine lv_null hx hb dX0_replacement_236 ?_
    exact hret _ _ none hg dX0_replacement_237
  have hg := if_f hg z14
  by_cases z15 : a0 = (79 : Int32)
  · have hg := if_t hg z15
    refine lv_tableIn (off := 235) (tgt := 236) hx hb dX0_replacement_1 (by rw [z15]; decide) (by rw [z15]; decide) (by rw [z15]; decide) (by decide) ?_
    refine lv_null hx hb dX0_replacement_236 ?_
    exact hret _ _ none hg dX0_replacement_237
  have hg := if_f hg z15
  by_cases z16 : a0 = (80 : Int32)
  · have hg := if_t hg z16
    refine lv_tableIn (off := 83) (tgt := 84) hx hb dX0_replacement_1 (by rw [z16]; decide) (by rw [z16]; decide) (by rw [z16]; decide) (by decide) ?_
    refine lv_iload_n hx hb dX0_replacement_84 rfl (lv_at hl 1 rfl) ?_
    refine r_calli (W.runS (As := [.int a1]) (rest := []) CX (ctX0_canBeginStatement l a1) (va_cwS 1 hts (gwS m2_172 m2_173 m1_11 m2_174) rfl rfl rfl (by decide +kernel) ⟨Nat.le_trans (Nat.le_of_ble_eq_true rfl) hR.1, Nat.le_trans (Nat.le_of_ble_eq_true rfl) hR.2⟩) (pPreS _) rfl rfl hl.1 rfl (lv_room (Nat.le_of_ble_eq_true rfl)) dX0_replacement_85 ⟨Nat.zero_le _, Nat.zero_le _⟩) ?_
    refine lv_if_eq (tgt := 96) hx hb dX0_replacement_88 (by decide) (fun c17 => ?_) (fun c17 => ?_)
    · have hg := if_t hg c17
      refine va_ldcS (tx := "") hx hb hown (hSW.li 1 (RX0, 21, "") rfl) dX0_replacement_96 ?_
      exact hret _ _ (some 1) hg dX0_replacement_98
    · have hg := if_f hg c17
      refine va_ldcS (tx := "SP") hx hb hown (hSW.li 0 (RX0, 19, "SP") rfl) dX0_replacement_91 ?_
      refine lv_goto (tgt := 98) hx hb dX0_replacement_93 (by decide) ?_
      exact hret _ _ (some 0) hg dX0_replacement_98
  have hg := if_f hg z16
  by_cases z18 : a0 = (81 : Int32)
  · have hg := if_t hg z18
    refine lv_tableIn (off := 156) (tgt := 157) hx hb dX0_replacement_1 (by rw [z18]; decide) (by rw [z18]; decide) (by rw [z18]; decide) (by decide) ?_
    refine lv_iload_n hx hb dX0_replacement_157 rfl (lv_at hl 1 rfl) ?_
    refine lv_bipush (v := 43) hx hb dX0_replacement_158 (by decide) ?_
    refine lv_icmp_ne (tgt := 166) hx hb dX0_replacement_160 (by decide) (fun c19 => ?_) (fun c19 => ?_)
    · have hg := if_f hg c19
      refine lv_iload_n hx hb dX0_replacement_166 rfl (lv_at hl 1 rfl) ?_
      refine lv_bipush (v := 45) hx hb dX0_replacement_167 (by decide) ?_
      refine lv_icmp_ne (tgt := 177) hx hb dX0_replacement_169 (by decide) (fun c20 => ?_) (fun c20 => ?_)
      · have hg := if_f hg c20
        refine va_ldcS (tx := "") hx hb hown (hSW.li 1 (RX0, 21, "") rfl) dX0_replacement_177 ?_
        exact hret _ _ (some 1) hg dX0_replacement_179
      · have hg := if_t hg c20
        refine va_ldcS (tx := "-TQ") hx hb hown (hSW.li 9 (RX0, 37, "-TQ") rfl) dX0_replacement_172 ?_
        refine lv_goto (tgt := 179) hx hb dX0_replacement_174 (by decide) ?_
        exact hret _ _ (some 9) hg dX0_replacement_179
    · have hg := if_t hg c19
      refine va_ldcS (tx := "+TQ") hx hb hown (hSW.li 8 (RX0, 35, "+TQ") rfl) dX0_replacement_163 ?_
      exact hret _ _ (some 8) hg dX0_replacement_165
  have hg := if_f hg z18
  by_cases z21 : a0 = (82 : Int32)
  · have hg := if_t hg z21
    refine lv_tableIn (off := 139) (tgt := 140) hx hb dX0_replacement_1 (by rw [z21]; decide) (by rw [z21]; decide) (by rw [z21]; decide) (by decide) ?_
    refine lv_iload_n hx hb dX0_replacement_140 rfl (lv_at hl 1 rfl) ?_
    refine lv_bipush (v := 58) hx hb dX0_replacement_141 (by decide) ?_
    refine lv_icmp_ne (tgt := 151) hx hb dX0_replacement_143 (by decide) (fun c22 => ?_) (fun c22 => ?_)
    · have hg := if_f hg c22
      refine va_ldcS (tx := "") hx hb hown (hSW.li 1 (RX0, 21, "") rfl) dX0_replacement_151 ?_
      exact hret _ _ (some 1) hg dX0_replacement_153
    · have hg := if_t hg c22
      refine va_ldcS (tx := ":S") hx hb hown (hSW.li 6 (RX0, 31, ":S") rfl) dX0_replacement_146 ?_
      refine lv_goto (tgt := 153) hx hb dX0_replacement_148 (by decide) ?_
      exact hret _ _ (some 6) hg dX0_replacement_153
  have hg := if_f hg z21
  by_cases z23 : a0 = (83 : Int32)
  · have hg := if_t hg z23
    refine lv_tableIn (off := 98) (tgt := 99) hx hb dX0_replacement_1 (by rw [z23]; decide) (by rw [z23]; decide) (by rw [z23]; decide) (by decide) ?_
    refine lv_iload_n hx hb dX0_replacement_99 rfl (lv_at hl 1 rfl) ?_
    refine lv_bipush (v := 123) hx hb dX0_replacement_100 (by decide) ?_
    refine lv_icmp_ne (tgt := 108) hx hb dX0_replacement_102 (by decide) (fun c24 => ?_) (fun c24 => ?_)
    · have hg := if_f hg c24
      refine lv_iload_n hx hb dX0_replacement_108 rfl (lv_at hl 1 rfl) ?_
      refine lv_bipush (v := 63) hx hb dX0_replacement_109 (by decide) ?_
      refine lv_icmp_ne (tgt := 117) hx hb dX0_replacement_111 (by decide) (fun c25 => ?_) (fun c25 => ?_)
      · have hg := if_f hg c25
        refine lv_iload_n hx hb dX0_replacement_117 rfl (lv_at hl 1 rfl) ?_
        refine lv_bipush (v := 33) hx hb dX0_replacement_118 (by decide) ?_
        refine lv_icmp_ne (tgt := 126) hx hb dX0_replacement_120 (by decide) (fun c26 => ?_) (fun c26 => ?_)
        · have hg := if_f hg c26
          refine lv_iload_n hx hb dX0_replacement_126 rfl (lv_at hl 1 rfl) ?_
          refine r_calli (W.runS (As := [.int a1]) (rest := []) CX (ctX0_isName l a1) (va_cwS 1 hts (gwS m1_188 m1_189 m1_11 m1_190) rfl rfl rfl (by decide +kernel) ⟨Nat.le_trans (Nat.le_of_ble_eq_true rfl) hR.1, Nat.le_trans (Nat.le_of_ble_eq_true rfl) hR.2⟩) (pPreS _) rfl rfl hl.1 rfl (lv_room (Nat.le_of_ble_eq_true rfl)) dX0_replacement_127 ⟨Nat.zero_le _, Nat.zero_le _⟩) ?_
          refine lv_if_eq (tgt := 138) hx hb dX0_replacement_130 (by decide) (fun c27 => ?_) (fun c27 => ?_)
          · have hg := if_t hg c27
            refine lv_null hx hb dX0_replacement_138 ?_
            exact hret _ _ none hg dX0_replacement_139
          · have hg := if_f hg c27
            refine va_ldcS (tx := "#=E;") hx hb hown (hSW.li 5 (RX0, 29, "#=E;") rfl) dX0_replacement_133 ?_
            refine lv_goto (tgt := 139) hx hb dX0_replacement_135 (by decide) ?_
            exact hret _ _ (some 5) hg dX0_replacement_139
        · have hg := if_t hg c26
          refine va_ldcS (tx := "!E;") hx hb hown (hSW.li 4 (RX0, 27, "!E;") rfl) dX0_replacement_123 ?_
          exact hret _ _ (some 4) hg dX0_replacement_125
      · have hg := if_t hg c25
        refine va_ldcS (tx := "?ESR") hx hb hown (hSW.li 3 (RX0, 25, "?ESR") rfl) dX0_replacement_114 ?_
        exact hret _ _ (some 3) hg dX0_replacement_116
    · have hg := if_t hg c24
      refine va_ldcS (tx := "{P}") hx hb hown (hSW.li 2 (RX0, 23, "{P}") rfl) dX0_replacement_105 ?_
      exact hret _ _ (some 2) hg dX0_replacement_107
  have hg := if_f hg z23
  by_cases z28 : a0 = (84 : Int32)
  · have hg := if_t hg z28
    refine lv_tableIn (off := 179) (tgt := 180) hx hb dX0_replacement_1 (by rw [z28]; decide) (by rw [z28]; decide) (by rw [z28]; decide) (by decide) ?_
    refine va_ldcS (tx := "FU") hx hb hown (hSW.li 10 (RX0, 39, "FU") rfl) dX0_replacement_180 ?_
    exact hret _ _ (some 10) hg dX0_replacement_182
  have hg := if_f hg z28
  by_cases z29 : a0 = (85 : Int32)
  · have hg := if_t hg z29
    refine lv_tableIn (off := 182) (tgt := 183) hx hb dX0_replacement_1 (by rw [z29]; decide) (by rw [z29]; decide) (by rw [z29]; decide) (by decide) ?_
    refine lv_iload_n hx hb dX0_replacement_183 rfl (lv_at hl 1 rfl) ?_
    refine lv_bipush (v := 42) hx hb dX0_replacement_184 (by decide) ?_
    refine lv_icmp_ne (tgt := 194) hx hb dX0_replacement_186 (by decide) (fun c30 => ?_) (fun c30 => ?_)
    · have hg := if_f hg c30
      refine va_ldcS (tx := "") hx hb hown (hSW.li 1 (RX0, 21, "") rfl) dX0_replacement_194 ?_
      exact hret _ _ (some 1) hg dX0_replacement_196
    · have hg := if_t hg c30
      refine va_ldcS (tx := "*FU") hx hb hown (hSW.li 11 (RX0, 41, "*FU") rfl) dX0_replacement_189 ?_
      refine lv_goto (tgt := 196) hx hb dX0_replacement_191 (by decide) ?_
      exact hret _ _ (some 11) hg dX0_replacement_196
  have hg := if_f hg z29
  refine lv_tableOut (tgt := 236) hx hb dX0_replacement_1 (by have := lv_neT (a := 69) z1 (by decide); have := lv_neT (a := 70) z2 (by decide); have := lv_neT (a := 71) z7 (by decide); have := lv_neT (a := 72) z8 (by decide); have := lv_neT (a := 73) z9 (by decide); have := lv_neT (a := 74) z10 (by decide); have := lv_neT (a := 75) z11 (by decide); have := lv_neT (a := 76) z12 (by decide); have := lv_neT (a := 77) z13 (by decide); have := lv_neT (a := 78) z14 (by decide); have := lv_neT (a := 79) z15 (by decide); have := lv_neT (a := 80) z16 (by decide); have := lv_neT (a := 81) z18 (by decide); have := lv_neT (a := 82) z21 (by decide); have := lv_neT (a := 83) z23 (by decide); have := lv_neT (a := 84) z28 (by decide); have := lv_neT (a := 85) z29 (by decide); omega) (by decide) ?_
  refine lv_null hx hb dX0_replacement_236 ?_
  exact hret _ _ none hg dX0_replacement_237
theorem ctX0_replacement (l : Launch) (sw : Sw) (a0 : Int32) (a1 : Int32) : Met l yX0_replacement wsX0_replacement ({ frames := 1, cells := 0, slots := 0, locals := 20 }) (va_Pc [.int a0, .int a1] (sPre sw)) (va_Sq (fun r' => r' = (gX0_replacement a0 a1).map sw.1)) 0 0 (fun _ => False) :=
  met_s rfl rfl (Nat.le_of_ble_eq_true rfl) (fun p e s m args below meth c ls CX hr hlk hSW hl => bX0_replacement a0 a1 rfl CX ⟨Nat.le_refl _, Nat.le_refl _⟩ hSW hl (fun pc ls o ho dg => W.aret CX.1 CX.2.1 hr (Or.inl ⟨_, rfl⟩) (by cases o with | none => exact Or.inl rfl | some i => exact Or.inr ⟨_, rfl⟩) (fun t ht hW => ⟨_, rfl, by rw [ho], ht⟩) (fun _ h => by cases h) dg))

abbrev wsJ3_checkIndex_8e157 : List Cond := Cond.code yJ3_checkIndex_8e157 cJ3_checkIndex_8e157 3 (some .int) :: WG
abbrev wsJ0_checkIndex_df160 : List Cond := Cond.code yJ0_checkIndex_df160 cJ0_checkIndex_df160 2 none :: WG
theorem ctJ3_checkIndex_8e157 (l : Launch) (i n : Int32) (o : Option Nat) (h : ¬ (i < 0 ∨ ¬ i < n)) : Met l yJ3_checkIndex_8e157 wsJ3_checkIndex_8e157 ({ frames := 0, cells := 0, slots := 0, locals := 0 }) (va_Pc [.int i, .int n, va_rf o] (fun _ => True)) (vp_Si (fun r' => r' = i)) 0 0 (fun _ => False) := by
  have h0 : ¬ i < 0 := fun q => h (Or.inl q)
  have h1 : i < n := Decidable.not_not.mp fun q => h (Or.inr q)
  cases o with
  | none =>
    refine met_p rfl rfl (Nat.le_of_ble_eq_true rfl) (fun p e s m args below meth c ls CX hr hlk hl => ?_)
    obtain ⟨hx, hb, hml, hown, hts⟩ := id CX
    have hl : lv_has ls 3 [(0, .int i), (1, .int n), (2, .null)] := hl
    refine lv_iload_n hx hb dJ3_checkIndex_8e157_0 rfl (lv_at hl 0 rfl) ?_
    refine lv_if_lt (tgt := 9) hx hb dJ3_checkIndex_8e157_1 (by decide) (fun q => absurd q h0) (fun _ => ?_)
    refine lv_iload_n hx hb dJ3_checkIndex_8e157_4 rfl (lv_at hl 0 rfl) ?_
    refine lv_iload_n hx hb dJ3_checkIndex_8e157_5 rfl (lv_at hl 1 rfl) ?_
    refine lv_icmp_lt (tgt := 16) hx hb dJ3_checkIndex_8e157_6 (by decide) (fun _ => ?_) (fun q => absurd h1 q)
    refine lv_iload_n hx hb dJ3_checkIndex_8e157_16 rfl (lv_at hl 0 rfl) ?_
    exact W.iret hx hb hr (fun t ht hW => ⟨_, rfl, rfl, ht⟩) (fun _ h => by cases h) dJ3_checkIndex_8e157_17
  | some q9 =>
    refine met_p rfl rfl (Nat.le_of_ble_eq_true rfl) (fun p e s m args below meth c ls CX hr hlk hl => ?_)
    obtain ⟨hx, hb, hml, hown, hts⟩ := id CX
    have hl : lv_has ls 3 [(0, .int i), (1, .int n), (2, .ref q9)] := hl
    refine lv_iload_n hx hb dJ3_checkIndex_8e157_0 rfl (lv_at hl 0 rfl) ?_
    refine lv_if_lt (tgt := 9) hx hb dJ3_checkIndex_8e157_1 (by decide) (fun q => absurd q h0) (fun _ => ?_)
    refine lv_iload_n hx hb dJ3_checkIndex_8e157_4 rfl (lv_at hl 0 rfl) ?_
    refine lv_iload_n hx hb dJ3_checkIndex_8e157_5 rfl (lv_at hl 1 rfl) ?_
    refine lv_icmp_lt (tgt := 16) hx hb dJ3_checkIndex_8e157_6 (by decide) (fun _ => ?_) (fun q => absurd h1 q)
    refine lv_iload_n hx hb dJ3_checkIndex_8e157_16 rfl (lv_at hl 0 rfl) ?_
    exact W.iret hx hb hr (fun t ht hW => ⟨_, rfl, rfl, ht⟩) (fun _ h => by cases h) dJ3_checkIndex_8e157_17
theorem ctJ0_checkIndex_df160 (l : Launch) (sw : Sw) (i n : Int32) (h : ¬ (i < 0 ∨ ¬ i < n)) : Met l yJ0_checkIndex_df160 wsJ0_checkIndex_df160 ({ frames := 1, cells := 0, slots := 0, locals := 22 }) (va_Pc [.int i, .int n] (sPre sw)) (va_Sv (fun _ => True)) 0 0 (fun _ => False) := by
  refine met_s rfl rfl (Nat.le_of_ble_eq_true rfl) (fun p e s m args below meth c ls CX hr hlk hSW hl => ?_)
  obtain ⟨hx, hb, hml, hown, hts⟩ := id CX
  have hw : ∀ w ∈ WG, w.before args s = true := fun w h => hts w (List.mem_cons_of_mem _ h)
  have hl : lv_has ls 2 [(0, .int i), (1, .int n)] := hl
  obtain ⟨fv, hfv, hfz⟩ := hSW.fm
  obtain ⟨o, rfl⟩ : ∃ o : Option Nat, fv = va_rf o := by
    rcases hfv with rfl | ⟨t, rfl⟩
    · exact ⟨none, rfl⟩
    · exact ⟨some t, rfl⟩
  refine lv_iload_n hx hb dJ0_checkIndex_df160_0 rfl (lv_at hl 0 rfl) ?_
  refine lv_iload_n hx hb dJ0_checkIndex_df160_1 rfl (lv_at hl 1 rfl) ?_
  refine va_gets hx hb hfz va_S.rf hown (hw _ m2_214) (fun _ h9 => h9) dJ0_checkIndex_df160_2 ?_
  refine r_calli (W.runS (As := [.int i, .int n, va_rf o]) (rest := []) CX (ctJ3_checkIndex_8e157 l i n o h) (va_cwS 3 hts (gwS m2_216 m2_217 m1_9 m2_218) rfl rfl rfl (by decide +kernel) ⟨Nat.le_of_ble_eq_true rfl, Nat.le_of_ble_eq_true rfl⟩) (pPreS _) rfl rfl hl.1 rfl (lv_room (Nat.le_of_ble_eq_true rfl)) dJ0_checkIndex_df160_5 ⟨Nat.zero_le _, Nat.zero_le _⟩) ?_
  refine lv_pop hx hb dJ0_checkIndex_df160_8 rfl ?_
  exact W.vret hx hb hr (fun t ht hW => ⟨rfl, trivial, ht⟩) (fun _ h => by cases h) dJ0_checkIndex_df160_9

theorem zch {v : Int32} (h : ¬ ¬ (narrow .char (.int v) = .int v)) : narrow .char (.int v) = .int v := Decidable.not_not.mp h

abbrev wsJ1_charAt_3b067 : List Cond := Cond.code yJ1_charAt_3b067 cJ1_charAt_3b067 2 (some .char) :: WG
def gJ1_charAt_3b067 (v0 : Nat) (a1 : Int32) : Option Int32 := if (a1 < 0 ∨ ¬ a1 < (nI (litL.getD v0 0))) then none else if (a1 < 0 ∨ (litL.getD v0 0) ≤ (a1).toNatClampNeg) then none else some ((((((litB.getD v0 []).getD (a1).toNatClampNeg 0) &&& (255 : Int32))).toUInt32 % 65536).toInt32)
set_option maxHeartbeats 4000000 in
set_option maxRecDepth 100000 in
theorem bJ1_charAt_3b067 {p : Program} {l : Launch} {e : Env} {R : Room} {s : State} {m : MethodId} {args : Array Value} {below : List Frame} {meth : Method} {c : Code} {Q : State → Prop} {sw : Sw} (v0 : Nat) (hv0 : v0 < 29) (a1 : Int32) {res : Option Int32} (hg : gJ1_charAt_3b067 v0 a1 = res) (hne : res ≠ none) (CX : CallFix p m c cJ1_charAt_3b067 2 s args wsJ1_charAt_3b067 RJ1) (hR : 2 ≤ R.frames ∧ 43 ≤ R.locals) (hSW : SW sw (fun _ => False) s s.heap) {ls : Array Slot} (hl : lv_has ls 2 [(0, .ref (sw.2.1 v0)), (1, .int a1)]) (hret : ∀ (pc : Nat) (ls : Array Slot) (v : Int32), some v = res → decode cJ1_charAt_3b067 pc = .ok (.ireturn, 1) → narrow .char (.int v) = .int v → W p l e R s m args below meth c s.heap [] 0 0 Q (F0 m pc ls [.int v])) : W p l e R s m args below meth c s.heap [] 0 0 Q (F0 m 0 ls []) := by
  obtain ⟨hx, hb, hml, hown, hts⟩ := id CX
  have hw : ∀ w ∈ WG, w.before args s = true := fun w h => hts w (List.mem_cons_of_mem _ h)
  unfold gJ1_charAt_3b067 at hg
  refine lv_iload_n hx hb dJ1_charAt_3b067_0 rfl (lv_at hl 1 rfl) ?_
  refine lv_aload_n hx hb dJ1_charAt_3b067_1 rfl (lv_at hl 0 rfl) ?_
  refine va_tlen hx hb (hSW.st.1 v0 hv0).2.2.2 va_S.rf rfl dJ1_charAt_3b067_2 ?_
  obtain ⟨b1, hg⟩ := ck_e hg hne
  refine va_csv (W.runS (As := [.int a1, .int (nI (litL.getD v0 0))]) (rest := []) CX (ctJ0_checkIndex_df160 l sw a1 (nI (litL.getD v0 0)) b1) (va_cwS 2 hts (gwS m2_211 m2_212 m1_7 m2_213) rfl rfl rfl (by decide +kernel) ⟨Nat.le_trans (Nat.le_of_ble_eq_true rfl) hR.1, Nat.le_trans (Nat.le_of_ble_eq_true rfl) hR.2⟩) (sPreS hSW _) rfl rfl hl.1 rfl (lv_room (Nat.le_of_ble_eq_true rfl)) dJ1_charAt_3b067_3 ⟨Nat.zero_le _, Nat.zero_le _⟩) (fun _ => ?_)
  refine lv_aload_n hx hb dJ1_charAt_3b067_6 rfl (lv_at hl 0 rfl) ?_
  refine lv_iload_n hx hb dJ1_charAt_3b067_7 rfl (lv_at hl 1 rfl) ?_
  obtain ⟨b2, hg⟩ := ck_e hg hne
  refine va_tb hx hb (hSW.st.1 v0 hv0).2.2.2 va_S.rf b2 rfl dJ1_charAt_3b067_8 ?_
  refine lv_sipush (v := 255) hx hb dJ1_charAt_3b067_9 (by decide) ?_
  refine lv_iand hx hb dJ1_charAt_3b067_12 ?_
  refine lv_i2c hx hb dJ1_charAt_3b067_13 rfl ?_
  exact hret _ _ _ hg dJ1_charAt_3b067_14 (pk_nc _)
theorem ctJ1_charAt_3b067 (l : Launch) (sw : Sw) (v0 : Nat) (hv0 : v0 < 29) (a1 : Int32) {r : Int32} (hq : gJ1_charAt_3b067 v0 a1 = some r) : Met l yJ1_charAt_3b067 wsJ1_charAt_3b067 ({ frames := 2, cells := 0, slots := 0, locals := 43 }) (va_Pc [.ref (sw.2.1 v0), .int a1] (sPre sw)) (vp_Si (fun r' => r' = r)) 0 0 (fun _ => False) :=
  met_s rfl rfl (Nat.le_of_ble_eq_true rfl) (fun p e s m args below meth c ls CX hr hlk hSW hl => bJ1_charAt_3b067 v0 hv0 a1 hq (by simp) CX ⟨Nat.le_refl _, Nat.le_refl _⟩ hSW hl (fun pc ls v hv dg hz => W.zret (ty := .char) CX.1 CX.2.1 hr hz (fun t ht hW => ⟨_, rfl, Option.some.inj hv, ht⟩) (fun _ h => by cases h) dg))

abbrev wsJ0_charAt_5068e : List Cond := Cond.code yJ0_charAt_5068e cJ0_charAt_5068e 2 (some .char) :: WG
def gJ0_charAt_5068e (v0 : Nat) (a1 : Int32) : Option Int32 := bd (gJ1_charAt_3b067 v0 a1) fun r2 => if ¬ (narrow .char (.int r2) = .int r2) then none else some r2
set_option maxHeartbeats 4000000 in
set_option maxRecDepth 100000 in
theorem bJ0_charAt_5068e {p : Program} {l : Launch} {e : Env} {R : Room} {s : State} {m : MethodId} {args : Array Value} {below : List Frame} {meth : Method} {c : Code} {Q : State → Prop} {sw : Sw} (v0 : Nat) (hv0 : v0 < 29) (a1 : Int32) {res : Option Int32} (hg : gJ0_charAt_5068e v0 a1 = res) (hne : res ≠ none) (CX : CallFix p m c cJ0_charAt_5068e 2 s args wsJ0_charAt_5068e RJ0) (hR : 3 ≤ R.frames ∧ 64 ≤ R.locals) (hSW : SW sw (fun _ => False) s s.heap) {ls : Array Slot} (hl : lv_has ls 2 [(0, .ref (sw.1 v0)), (1, .int a1)]) (hret : ∀ (pc : Nat) (ls : Array Slot) (v : Int32), some v = res → decode cJ0_charAt_5068e pc = .ok (.ireturn, 1) → narrow .char (.int v) = .int v → W p l e R s m args below meth c s.heap [] 0 0 Q (F0 m pc ls [.int v])) : W p l e R s m args below meth c s.heap [] 0 0 Q (F0 m 0 ls []) := by
  obtain ⟨hx, hb, hml, hown, hts⟩ := id CX
  have hw : ∀ w ∈ WG, w.before args s = true := fun w h => hts w (List.mem_cons_of_mem _ h)
  have lk_9 := hw _ m4_32
  unfold gJ0_charAt_5068e at hg
  refine lv_aload_n hx hb dJ0_charAt_5068e_0 rfl (lv_at hl 0 rfl) ?_
  refine r_calli (r := (1 : Int32)) (W.runV (As := []) (rest := []) CX (ctJ0_isLatin1_aae02 l sw v0 hv0 rfl) (cwV 0 hts (gwV m2_204 m2_205 m2_206 m1_7 m2_207) rfl rfl rfl (by decide +kernel) ⟨Nat.le_trans (Nat.le_of_ble_eq_true rfl) hR.1, Nat.le_trans (Nat.le_of_ble_eq_true rfl) hR.2⟩) (sPreV hSW hv0 _) rfl rfl hl.1 rfl (lv_room (Nat.le_of_ble_eq_true rfl)) dJ0_charAt_5068e_1 ⟨Nat.zero_le _, Nat.zero_le _⟩) ?_
  refine lv_if_eq (tgt := 16) hx hb dJ0_charAt_5068e_4 (by decide) (fun h9 => absurd h9 (by decide)) (fun _ => ?_)
  refine lv_aload_n hx hb dJ0_charAt_5068e_7 rfl (lv_at hl 0 rfl) ?_
  refine vk_getf hx hb (hSW.st.1 v0 hv0).2.2.1 va_S.rf hown lk_9 (fun _ h9 => h9) dJ0_charAt_5068e_8 ?_
  refine lv_iload_n hx hb dJ0_charAt_5068e_11 rfl (lv_at hl 1 rfl) ?_
  obtain ⟨r2, q3, hg⟩ := bd_e hg hne
  refine r_calli (W.runS (As := [.ref (sw.2.1 v0), .int a1]) (rest := []) CX (ctJ1_charAt_3b067 l sw v0 hv0 a1 q3) (va_cwS 2 hts (gwS m2_208 m2_209 m1_8 m2_210) rfl rfl rfl (by decide +kernel) ⟨Nat.le_trans (Nat.le_of_ble_eq_true rfl) hR.1, Nat.le_trans (Nat.le_of_ble_eq_true rfl) hR.2⟩) (sPreS hSW _) rfl rfl hl.1 rfl (lv_room (Nat.le_of_ble_eq_true rfl)) dJ0_charAt_5068e_12 ⟨Nat.zero_le _, Nat.zero_le _⟩) ?_
  obtain ⟨z4, hg⟩ := ck_e hg hne
  exact hret _ _ _ hg dJ0_charAt_5068e_15 (zch z4)
theorem ctJ0_charAt_5068e (l : Launch) (sw : Sw) (v0 : Nat) (hv0 : v0 < 29) (a1 : Int32) {r : Int32} (hq : gJ0_charAt_5068e v0 a1 = some r) : Met l yJ0_charAt_5068e wsJ0_charAt_5068e ({ frames := 3, cells := 0, slots := 0, locals := 64 }) (va_Pc [.ref (sw.1 v0), .int a1] (sPre sw)) (vp_Si (fun r' => r' = r)) 0 0 (fun _ => False) :=
  met_s rfl rfl (Nat.le_of_ble_eq_true rfl) (fun p e s m args below meth c ls CX hr hlk hSW hl => bJ0_charAt_5068e v0 hv0 a1 hq (by simp) CX ⟨Nat.le_refl _, Nat.le_refl _⟩ hSW hl (fun pc ls v hv dg hz => W.zret (ty := .char) CX.1 CX.2.1 hr hz (fun t ht hW => ⟨_, rfl, Option.some.inj hv, ht⟩) (fun _ h => by cases h) dg))

theorem ile {c : Prop} [Decidable c] {x y : Option Nat} {i : Nat} (hx : x = some i → i < 29) (hy : y = some i → i < 29) : (if c then x else y) = some i → i < 29 := by
  intro h
  by_cases q : c
  · rw [if_pos q] at h; exact hx h
  · rw [if_neg q] at h; exact hy h

theorem lX0_replacement {a b : Int32} {i : Nat} (h : gX0_replacement a b = some i) : i < 29 := by
  revert h
  unfold gX0_replacement
  repeat' (first | apply ile | (intro h; cases h; decide) | (intro h; cases h))

abbrev wsX1_replaceTop : List Cond := Cond.code yX1_replaceTop cX1_replaceTop 7 none :: WG
def gX1_replaceTop_L68 (v0 : Nat) (a1 : Int32) (E16 : Mm → Int32 → Option Mm) : Nat → Mm → Int32 → Nat → Int32 → Option Mm
  | 0, _, _, _, _ => none
  | n23 + 1, M18, x19, v20, x22 => if x22 < 0 then (E16 M18 x19) else bd (gJ0_charAt_5068e v20 x22) fun r25 => if r25 = (35 : Int32) then (bd (gX1_push M18 v0 a1) fun M32 => lt (x22 + (-1 : Int32)) fun x33 => gX1_replaceTop_L68 v0 a1 E16 n23 M32 x19 v20 x33) else bd (gX1_push M18 v0 r25) fun M29 => lt (x22 + (-1 : Int32)) fun x30 => gX1_replaceTop_L68 v0 a1 E16 n23 M29 x19 v20 x30
def gX1_replaceTop_L2 (v0 : Nat) (a1 : Int32) : Nat → Mm → Int32 → Option Mm
  | 0, _, _ => none
  | n3 + 1, M1, x2 => if (640 : Int32) ≤ x2 then (some M1) else if (M1 (vb v0 + 3) 1) ≤ 0 then (some M1) else if (((M1 (vb v0 + 3) 1) - (1 : Int32)) < 0 ∨ 320 ≤ (((M1 (vb v0 + 3) 1) - (1 : Int32))).toNatClampNeg) then none else lt (M1 (vb v0 + 4) (((M1 (vb v0 + 3) 1) - (1 : Int32))).toNatClampNeg) fun x7 => if (gX0_isReplaced x7) = 0 then (some M1) else om (gX0_replacement x7 a1) (some M1) fun v11 => lt (um M1 (vb v0 + 3) 1 ((M1 (vb v0 + 3) 1) - (1 : Int32))) fun M12 => lt (((nI (litL.getD v11 0)) >>> ((0 : Int32) &&& 31)) - (1 : Int32)) fun x13 => lt (fun (M14 : Mm) (x15 : Int32) => lt (x15 + (1 : Int32)) fun x17 => gX1_replaceTop_L2 v0 a1 n3 M14 x17) fun E16 => gX1_replaceTop_L68 v0 a1 E16 FU M12 x2 v11 x13
def gX1_replaceTop (M : Mm) (v0 : Nat) (a1 : Int32) : Option Mm := gX1_replaceTop_L2 v0 a1 FU M (0 : Int32)
set_option maxHeartbeats 4000000 in
set_option maxRecDepth 100000 in
theorem bX1_replaceTop {p : Program} {l : Launch} {e : Env} {R : Room} {s : State} {m : MethodId} {args : Array Value} {below : List Frame} {meth : Method} {c : Code} {H : Heap} {locs : List Loc} {Q : State → Prop} {D : va_G} {sw : Sw} {cs : Cs} {ad : Nat → Nat} {X : va_W} {A : Nat → Prop} (M : Mm) (v0 : Nat) (hv0 : v0 < 16) (a1 : Int32) {res : Option Mm} (hg : gX1_replaceTop M v0 a1 = res) (hne : res ≠ none) (CX : CallFix p m c cX1_replaceTop 7 s args wsX1_replaceTop RX1) (hR : 4 ≤ R.frames ∧ 85 ≤ R.locals) (hK : va_K D vwCl (tysC cs) s) (hSW : SW sw A s s.heap) (hP : va_P D vwCl (wl cs LC NC ad M ++ X) H) (hD : va_D A (wl cs LC NC ad M ++ X)) (hS : va_S A s.heap H locs) (hA : ∀ q, s.heap.size ≤ q → A q) {ls : Array Slot} (hl : lv_has ls 7 [(0, .ref (ad (vb v0 + 3))), (1, .int a1)]) (hret : ∀ (pc : Nat) (ls : Array Slot) (H : Heap) (locs : List Loc) (M9 : Mm), some M9 = res → decode cX1_replaceTop pc = .ok (.return_, 1) → va_P D vwCl (wl cs LC NC ad M9 ++ X) H → va_D A (wl cs LC NC ad M9 ++ X) → va_S A s.heap H locs → W p l e R s m args below meth c H locs 0 0 Q (F0 m pc ls [])) : W p l e R s m args below meth c H locs 0 0 Q (F0 m 0 ls []) := by
  obtain ⟨hx, hb, hml, hown, hts⟩ := id CX
  have hw : ∀ w ∈ WG, w.before args s = true := fun w h => hts w (List.mem_cons_of_mem _ h)
  have lk_18 := hw _ m1_93
  have lk_11 := hw _ m1_92
  unfold gX1_replaceTop at hg
  refine lv_iconst (v := 0) hx hb dX1_replaceTop_0 (by decide) ?_
  refine lv_istore_n (lv' := [(2, .int (0 : Int32)), (0, .ref (ad (vb v0 + 3))), (1, .int a1)]) hx hb dX1_replaceTop_1 rfl hl (by decide) rfl (fun ls hl => ?_)
  have kL2_35 : ∀ (n3 : Nat) (M1 : Mm) (x2 : Int32) (H : Heap) (locs : List Loc) (ls : Array Slot), va_P D vwCl (wl cs LC NC ad M1 ++ X) H → va_D A (wl cs LC NC ad M1 ++ X) → va_S A s.heap H locs → lv_has ls 7 [(0, .ref (ad (vb v0 + 3))), (1, .int a1), (2, .int x2)] → gX1_replaceTop_L2 v0 a1 n3 M1 x2 = res → W p l e R s m args below meth c H locs 0 0 Q (F0 m 2 ls []) := by
    intro n3
    induction n3 with
    | zero =>
      intro M1 x2 H locs ls hP hD hS hl hg
      rw [gX1_replaceTop_L2] at hg
      exact absurd hg.symm hne
    | succ n3 ih =>
      intro M1 x2 H locs ls hP hD hS hl hg
      rw [gX1_replaceTop_L2] at hg
      refine lv_iload_n hx hb dX1_replaceTop_2 rfl (lv_at hl 2 rfl) ?_
      refine lv_sipush (v := 640) hx hb dX1_replaceTop_3 (by decide) ?_
      refine lv_icmp_ge (tgt := 111) hx hb dX1_replaceTop_6 (by decide) (fun c4 => ?_) (fun c4 => ?_)
      · have hg := if_t hg c4
        exact hret _ _ _ _ _ hg dX1_replaceTop_111 hP hD hS
      · have hg := if_f hg c4
        refine lv_aload_n hx hb dX1_replaceTop_9 rfl (lv_at hl 0 rfl) ?_
        refine m_gi (C := RX1) (T := TX1) (n := 5) (ci := 0) hx hb hts in_RX1 hown hK hP (kC_v (j := 3) hv0 (by decide)) (LC_RDG v0) rfl 1 (by decide) rfl lk_18 (fun _ h9 => h9) dX1_replaceTop_10 ?_
        refine lv_if_le (tgt := 111) hx hb dX1_replaceTop_13 (by decide) (fun c5 => ?_) (fun c5 => ?_)
        · have hg := if_t hg c5
          exact hret _ _ _ _ _ hg dX1_replaceTop_111 hP hD hS
        · have hg := if_f hg c5
          refine lv_aload_n hx hb dX1_replaceTop_16 rfl (lv_at hl 0 rfl) ?_
          refine m_gr (C := RX1) (T := TX1) (n := 5) (ci := 0) hx hb hts in_RX1 hown hK hP (kC_v (j := 3) hv0 (by decide)) (LC_RDG v0) rfl 0 (by decide) rfl lk_11 (fun _ h9 => h9) dX1_replaceTop_17 ?_
          refine lv_aload_n hx hb dX1_replaceTop_20 rfl (lv_at hl 0 rfl) ?_
          refine m_gi (C := RX1) (T := TX1) (n := 5) (ci := 0) hx hb hts in_RX1 hown hK hP (kC_v (j := 3) hv0 (by decide)) (LC_RDG v0) rfl 1 (by decide) rfl lk_18 (fun _ h9 => h9) dX1_replaceTop_21 ?_
          refine lv_iconst (v := 1) hx hb dX1_replaceTop_24 (by decide) ?_
          refine lv_isub hx hb dX1_replaceTop_25 ?_
          obtain ⟨b6, hg⟩ := ck_e hg hne
          refine m_ld hx hb hK hP (kC_v (j := 4) hv0 (by decide)) (LC_SYM v0) b6 dX1_replaceTop_26 ?_
          obtain ⟨x7, hx7, hg⟩ := lt_e hg
          refine top_i hx7 ?_
          refine lv_istore_n (lv' := [(3, .int x7), (0, .ref (ad (vb v0 + 3))), (1, .int a1), (2, .int x2)]) hx hb dX1_replaceTop_27 rfl hl (by decide) rfl (fun ls hl => ?_)
          refine lv_iload_n hx hb dX1_replaceTop_28 rfl (lv_at hl 0 rfl) ?_
          refine r_calli (W.runS (As := [.int x7]) (rest := []) CX (ctX0_isReplaced l x7) (va_cwS 1 hts (gwS m2_166 m2_167 m1_11 m2_168) rfl rfl rfl (by decide +kernel) ⟨Nat.le_trans (Nat.le_of_ble_eq_true rfl) hR.1, Nat.le_trans (Nat.le_of_ble_eq_true rfl) hR.2⟩) (pPreS _) rfl rfl hl.1 rfl (lv_room (Nat.le_of_ble_eq_true rfl)) dX1_replaceTop_29 ⟨Nat.zero_le _, Nat.zero_le _⟩) ?_
          refine lv_if_ne (tgt := 36) hx hb dX1_replaceTop_32 (by decide) (fun c8 => ?_) (fun c8 => ?_)
          · have hg := if_f hg c8
            refine lv_iload_n hx hb dX1_replaceTop_36 rfl (lv_at hl 0 rfl) ?_
            refine lv_iload_n hx hb dX1_replaceTop_37 rfl (lv_at hl 2 rfl) ?_
            rcases om_e hg with ⟨o9, hg⟩ | ⟨v11, o9, hg⟩
            · refine s_callN o9 (W.runS (As := [.int x7, .int a1]) (rest := []) CX (ctX0_replacement l sw x7 a1) (va_cwS 2 hts (gwS m2_169 m2_170 m1_11 m2_171) rfl rfl rfl (by decide +kernel) ⟨Nat.le_trans (Nat.le_of_ble_eq_true rfl) hR.1, Nat.le_trans (Nat.le_of_ble_eq_true rfl) hR.2⟩) (sPreS (hSW.wr hS) _) rfl rfl hl.1 rfl (lv_room (Nat.le_of_ble_eq_true rfl)) dX1_replaceTop_38 ⟨Nat.zero_le _, Nat.zero_le _⟩) ?_
              refine lv_astoreN (lv' := [(4, .null), (3, .int x7), (0, .ref (ad (vb v0 + 3))), (1, .int a1), (2, .int x2)]) hx hb dX1_replaceTop_41 hl (by decide) rfl (fun ls hl => ?_)
              refine lv_aloadN hx hb dX1_replaceTop_43 (lv_at hl 0 rfl) ?_
              refine lv_ifnonnullN hx hb dX1_replaceTop_45 ?_
              exact hret _ _ _ _ _ hg dX1_replaceTop_48 hP hD hS
            · have h10 := lX0_replacement o9
              refine s_callS o9 (W.runS (As := [.int x7, .int a1]) (rest := []) CX (ctX0_replacement l sw x7 a1) (va_cwS 2 hts (gwS m2_169 m2_170 m1_11 m2_171) rfl rfl rfl (by decide +kernel) ⟨Nat.le_trans (Nat.le_of_ble_eq_true rfl) hR.1, Nat.le_trans (Nat.le_of_ble_eq_true rfl) hR.2⟩) (sPreS (hSW.wr hS) _) rfl rfl hl.1 rfl (lv_room (Nat.le_of_ble_eq_true rfl)) dX1_replaceTop_38 ⟨Nat.zero_le _, Nat.zero_le _⟩) ?_
              refine lv_astore (lv' := [(4, .ref (sw.1 v11)), (3, .int x7), (0, .ref (ad (vb v0 + 3))), (1, .int a1), (2, .int x2)]) hx hb dX1_replaceTop_41 hl (by decide) rfl (fun ls hl => ?_)
              refine lv_aload hx hb dX1_replaceTop_43 (lv_at hl 0 rfl) ?_
              refine lv_ifnonnull (tgt := 49) hx hb dX1_replaceTop_45 (by decide) ?_
              refine lv_aload_n hx hb dX1_replaceTop_49 rfl (lv_at hl 2 rfl) ?_
              refine lv_dup hx hb dX1_replaceTop_50 rfl ?_
              refine m_gi (C := RX1) (T := TX1) (n := 5) (ci := 0) hx hb hts in_RX1 hown hK hP (kC_v (j := 3) hv0 (by decide)) (LC_RDG v0) rfl 1 (by decide) rfl lk_18 (fun _ h9 => h9) dX1_replaceTop_51 ?_
              refine lv_iconst (v := 1) hx hb dX1_replaceTop_54 (by decide) ?_
              refine lv_isub hx hb dX1_replaceTop_55 ?_
              obtain ⟨M12, hM12, hg⟩ := lt_e hg
              refine m_pi (C := RX1) (T := TX1) (n := 5) (ci := 0) hx hb hts in_RX1 tyX1 tyX1_ok nmX1 hown hK hP hD hS (kC_v (j := 3) hv0 (by decide)) (LC_RDG v0) rfl 1 (by decide) rfl lk_18 (fun _ h9 => h9) rfl rfl rfl dX1_replaceTop_56 hM12 (fun H locs hP hD hS => ?_)
              refine lv_aload hx hb dX1_replaceTop_59 (lv_at hl 0 rfl) ?_
              refine r_calli (r := ((nI (litL.getD v11 0)) >>> ((0 : Int32) &&& 31))) (W.runV (As := []) (rest := []) CX (ctJ0_length_8abf5 l sw v11 h10 rfl) (cwV 0 hts (gwV m2_190 m2_191 m2_192 m1_7 m2_193) rfl rfl rfl (by decide +kernel) ⟨Nat.le_trans (Nat.le_of_ble_eq_true rfl) hR.1, Nat.le_trans (Nat.le_of_ble_eq_true rfl) hR.2⟩) (sPreV (hSW.wr hS) h10 _) rfl rfl hl.1 rfl (lv_room (Nat.le_of_ble_eq_true rfl)) dX1_replaceTop_61 ⟨Nat.zero_le _, Nat.zero_le _⟩) ?_
              refine lv_iconst (v := 1) hx hb dX1_replaceTop_64 (by decide) ?_
              refine lv_isub hx hb dX1_replaceTop_65 ?_
              obtain ⟨x13, hx13, hg⟩ := lt_e hg
              refine top_i hx13 ?_
              refine lv_istore (lv' := [(5, .int x13), (4, .ref (sw.1 v11)), (3, .int x7), (0, .ref (ad (vb v0 + 3))), (1, .int a1), (2, .int x2)]) hx hb dX1_replaceTop_66 hl (by decide) rfl (fun ls hl => ?_)
              obtain ⟨E16, hE16, hg⟩ := lf2 hg
              have kE16 : ∀ (M14 : Mm) (x15 : Int32) (H : Heap) (locs : List Loc) (ls : Array Slot), va_P D vwCl (wl cs LC NC ad M14 ++ X) H → va_D A (wl cs LC NC ad M14 ++ X) → va_S A s.heap H locs → lv_has ls 7 [(0, .ref (ad (vb v0 + 3))), (1, .int a1), (2, .int x15)] → E16 M14 x15 = res → W p l e R s m args below meth c H locs 0 0 Q (F0 m 105 ls []) := by
                intro M14 x15 H locs ls hP hD hS hl hg
                rw [hE16] at hg
                obtain ⟨x17, hx17, hg⟩ := lt_e hg
                refine lv_iinc (v := x17) (lv' := [(2, .int x17), (0, .ref (ad (vb v0 + 3))), (1, .int a1)]) hx hb dX1_replaceTop_105 hl (k := 2) rfl (hx17.symm) (by decide) rfl (fun ls hl => ?_)
                refine lv_goto (tgt := 2) hx hb dX1_replaceTop_108 (by decide) ?_
                exact ih _ _ _ _ _ hP hD hS (lv_sub hl [1, 2, 0] rfl) hg
              have kL68_34 : ∀ (n23 : Nat) (M18 : Mm) (x19 : Int32) (v20 : Nat) (h21 : v20 < 29) (x22 : Int32) (H : Heap) (locs : List Loc) (ls : Array Slot), va_P D vwCl (wl cs LC NC ad M18 ++ X) H → va_D A (wl cs LC NC ad M18 ++ X) → va_S A s.heap H locs → lv_has ls 7 [(0, .ref (ad (vb v0 + 3))), (1, .int a1), (2, .int x19), (4, .ref (sw.1 v20)), (5, .int x22)] → gX1_replaceTop_L68 v0 a1 E16 n23 M18 x19 v20 x22 = res → W p l e R s m args below meth c H locs 0 0 Q (F0 m 68 ls []) := by
                intro n23
                induction n23 with
                | zero =>
                  intro M18 x19 v20 h21 x22 H locs ls hP hD hS hl hg
                  rw [gX1_replaceTop_L68] at hg
                  exact absurd hg.symm hne
                | succ n23 ih =>
                  intro M18 x19 v20 h21 x22 H locs ls hP hD hS hl hg
                  rw [gX1_replaceTop_L68] at hg
                  refine lv_iload hx hb dX1_replaceTop_68 (lv_at hl 4 rfl) ?_
                  refine lv_if_lt (tgt := 105) hx hb dX1_replaceTop_70 (by decide) (fun c24 => ?_) (fun c24 => ?_)
                  · have hg := if_t hg c24
                    exact kE16 _ _ _ _ _ hP hD hS (lv_sub hl [0, 1, 2] rfl) hg
                  · have hg := if_f hg c24
                    refine lv_aload hx hb dX1_replaceTop_73 (lv_at hl 3 rfl) ?_
                    refine lv_iload hx hb dX1_replaceTop_75 (lv_at hl 4 rfl) ?_
                    obtain ⟨r25, q26, hg⟩ := bd_e hg hne
                    refine r_calli (W.runV (As := [.int x22]) (rest := []) CX (ctJ0_charAt_5068e l sw v20 h21 x22 q26) (cwV 1 hts (gwV m2_200 m2_201 m2_202 m1_7 m2_203) rfl rfl rfl (by decide +kernel) ⟨Nat.le_trans (Nat.le_of_ble_eq_true rfl) hR.1, Nat.le_trans (Nat.le_of_ble_eq_true rfl) hR.2⟩) (sPreV (hSW.wr hS) h21 _) rfl rfl hl.1 rfl (lv_room (Nat.le_of_ble_eq_true rfl)) dX1_replaceTop_77 ⟨Nat.zero_le _, Nat.zero_le _⟩) ?_
                    refine lv_istore (lv' := [(6, .int r25), (0, .ref (ad (vb v0 + 3))), (1, .int a1), (2, .int x19), (4, .ref (sw.1 v20)), (5, .int x22)]) hx hb dX1_replaceTop_80 hl (by decide) rfl (fun ls hl => ?_)
                    refine lv_aload_n hx hb dX1_replaceTop_82 rfl (lv_at hl 1 rfl) ?_
                    refine lv_iload hx hb dX1_replaceTop_83 (lv_at hl 0 rfl) ?_
                    refine lv_bipush (v := 35) hx hb dX1_replaceTop_85 (by decide) ?_
                    refine lv_icmp_ne (tgt := 94) hx hb dX1_replaceTop_87 (by decide) (fun c27 => ?_) (fun c27 => ?_)
                    · have hg := if_f hg c27
                      refine lv_iload hx hb dX1_replaceTop_94 (lv_at hl 0 rfl) ?_
                      obtain ⟨M29, q28, hg⟩ := bd_e hg hne
                      refine w_callv (va_runV (As := [.int r25]) (rest := []) CX (ctX1_push l D sw cs ad X H.size M18 v0 hv0 r25 q28) (cwV 1 hts (gwV m2_132 m2_134 mp1_9 m1_5 m2_135) rfl rfl rfl (by decide +kernel) ⟨Nat.le_trans (Nat.le_of_ble_eq_true rfl) hR.1, Nat.le_trans (Nat.le_of_ble_eq_true rfl) hR.2⟩) (wPreV hSW hS hA hK hP hD (kC_v (j := 3) hv0 (by decide)) (LC_RDG v0) rfl _) rfl rfl hl.1 rfl (lv_room (Nat.le_of_ble_eq_true rfl)) dX1_replaceTop_96 ⟨Nat.zero_le _, Nat.zero_le _⟩) hD hS hA (fun H locs hP hD hS => ?_)
                      obtain ⟨x30, hx30, hg⟩ := lt_e hg
                      refine lv_iinc (v := x30) (lv' := [(5, .int x30), (6, .int r25), (0, .ref (ad (vb v0 + 3))), (1, .int a1), (2, .int x19), (4, .ref (sw.1 v20))]) hx hb dX1_replaceTop_99 hl (k := 5) rfl (hx30.symm) (by decide) rfl (fun ls hl => ?_)
                      refine lv_goto (tgt := 68) hx hb dX1_replaceTop_102 (by decide) ?_
                      exact ih _ _ _ h21 _ _ _ _ hP hD hS (lv_sub hl [2, 3, 4, 5, 0] rfl) hg
                    · have hg := if_t hg c27
                      refine lv_iload_n hx hb dX1_replaceTop_90 rfl (lv_at hl 2 rfl) ?_
                      refine lv_goto (tgt := 96) hx hb dX1_replaceTop_91 (by decide) ?_
                      obtain ⟨M32, q31, hg⟩ := bd_e hg hne
                      refine w_callv (va_runV (As := [.int a1]) (rest := []) CX (ctX1_push l D sw cs ad X H.size M18 v0 hv0 a1 q31) (cwV 1 hts (gwV m2_132 m2_134 mp1_9 m1_5 m2_135) rfl rfl rfl (by decide +kernel) ⟨Nat.le_trans (Nat.le_of_ble_eq_true rfl) hR.1, Nat.le_trans (Nat.le_of_ble_eq_true rfl) hR.2⟩) (wPreV hSW hS hA hK hP hD (kC_v (j := 3) hv0 (by decide)) (LC_RDG v0) rfl _) rfl rfl hl.1 rfl (lv_room (Nat.le_of_ble_eq_true rfl)) dX1_replaceTop_96 ⟨Nat.zero_le _, Nat.zero_le _⟩) hD hS hA (fun H locs hP hD hS => ?_)
                      obtain ⟨x33, hx33, hg⟩ := lt_e hg
                      refine lv_iinc (v := x33) (lv' := [(5, .int x33), (6, .int r25), (0, .ref (ad (vb v0 + 3))), (1, .int a1), (2, .int x19), (4, .ref (sw.1 v20))]) hx hb dX1_replaceTop_99 hl (k := 5) rfl (hx33.symm) (by decide) rfl (fun ls hl => ?_)
                      refine lv_goto (tgt := 68) hx hb dX1_replaceTop_102 (by decide) ?_
                      exact ih _ _ _ h21 _ _ _ _ hP hD hS (lv_sub hl [2, 3, 4, 5, 0] rfl) hg
              exact kL68_34 FU _ _ _ h10 _ _ _ _ hP hD hS (lv_sub hl [3, 4, 5, 1, 0] rfl) hg
          · have hg := if_t hg c8
            exact hret _ _ _ _ _ hg dX1_replaceTop_35 hP hD hS
  exact kL2_35 FU _ _ _ _ _ hP hD hS (lv_sub hl [1, 2, 0] rfl) hg
theorem ctX1_replaceTop (l : Launch) (D : va_G) (sw : Sw) (cs : Cs) (ad : Nat → Nat) (X : va_W) (sz : Nat) (M : Mm) (v0 : Nat) (hv0 : v0 < 16) (a1 : Int32) {M1 : Mm} (hq : gX1_replaceTop M v0 a1 = some M1) : Met l yX1_replaceTop wsX1_replaceTop ({ frames := 4, cells := 0, slots := 0, locals := 85 }) (va_Pc [.ref (ad (vb v0 + 3)), .int a1] (wPre D sw cs LC NC ad M X sz)) (wQv D cs LC NC ad M1 X sz) 0 0 (wA NC ad X sz) :=
  met_w rfl rfl (Nat.le_of_ble_eq_true rfl) (fun p e s m args below meth c ls CX hr hlk hK hSW hP hD hS hA hl => bX1_replaceTop M v0 hv0 a1 hq (by simp) CX ⟨Nat.le_refl _, Nat.le_refl _⟩ hK hSW hP hD hS hA hl (fun pc ls H locs M9 hv dg hP hD hS => W.vret CX.1 CX.2.1 hr (fun t ht hW => ⟨⟨(), rfl, trivial, wpost hP ht (Option.some.inj hv)⟩, hS.F ht⟩) hS.2.2 dg))

abbrev wsX1_take : List Cond := Cond.code yX1_take cX1_take 3 none :: WG
def gX1_take (M : Mm) (v0 : Nat) (a1 : Int32) (a2 : Int32) : Option Mm := lt (fun (M2 : Mm) => bd (gX1_replaceTop M2 v0 a1) fun M5 => if (M5 (vb v0 + 3) 1) ≤ 0 then (lt (um M5 (vb v0 + 3) 4 a2) fun M7 => some M7) else if (((M5 (vb v0 + 3) 1) - (1 : Int32)) < 0 ∨ 320 ≤ (((M5 (vb v0 + 3) 1) - (1 : Int32))).toNatClampNeg) then none else if (M5 (vb v0 + 4) (((M5 (vb v0 + 3) 1) - (1 : Int32))).toNatClampNeg) = a1 then (lt (um M5 (vb v0 + 3) 1 ((M5 (vb v0 + 3) 1) - (1 : Int32))) fun M11 => some M11) else lt (um M5 (vb v0 + 3) 4 a2) fun M10 => some M10) fun J3 => if (80 : Int32) ≤ (M (vb v0 + 3) 3) then (J3 M) else if ((M (vb v0 + 3) 3) < 0 ∨ 80 ≤ ((M (vb v0 + 3) 3)).toNatClampNeg) then none else lt (um M (vb v0 + 5) ((M (vb v0 + 3) 3)).toNatClampNeg (M (vb v0 + 3) 1)) fun M13 => lt (um M13 (vb v0 + 3) 3 ((M13 (vb v0 + 3) 3) + (1 : Int32))) fun M14 => J3 M14
set_option maxHeartbeats 4000000 in
set_option maxRecDepth 100000 in
theorem bX1_take {p : Program} {l : Launch} {e : Env} {R : Room} {s : State} {m : MethodId} {args : Array Value} {below : List Frame} {meth : Method} {c : Code} {H : Heap} {locs : List Loc} {Q : State → Prop} {D : va_G} {sw : Sw} {cs : Cs} {ad : Nat → Nat} {X : va_W} {A : Nat → Prop} (M : Mm) (v0 : Nat) (hv0 : v0 < 16) (a1 : Int32) (a2 : Int32) {res : Option Mm} (hg : gX1_take M v0 a1 a2 = res) (hne : res ≠ none) (CX : CallFix p m c cX1_take 3 s args wsX1_take RX1) (hR : 5 ≤ R.frames ∧ 111 ≤ R.locals) (hK : va_K D vwCl (tysC cs) s) (hSW : SW sw A s s.heap) (hP : va_P D vwCl (wl cs LC NC ad M ++ X) H) (hD : va_D A (wl cs LC NC ad M ++ X)) (hS : va_S A s.heap H locs) (hA : ∀ q, s.heap.size ≤ q → A q) {ls : Array Slot} (hl : lv_has ls 3 [(0, .ref (ad (vb v0 + 3))), (1, .int a1), (2, .int a2)]) (hret : ∀ (pc : Nat) (ls : Array Slot) (H : Heap) (locs : List Loc) (M9 : Mm), some M9 = res → decode cX1_take pc = .ok (.return_, 1) → va_P D vwCl (wl cs LC NC ad M9 ++ X) H → va_D A (wl cs LC NC ad M9 ++ X) → va_S A s.heap H locs → W p l e R s m args below meth c H locs 0 0 Q (F0 m pc ls [])) : W p l e R s m args below meth c H locs 0 0 Q (F0 m 0 ls []) := by
  obtain ⟨hx, hb, hml, hown, hts⟩ := id CX
  have hw : ∀ w ∈ WG, w.before args s = true := fun w h => hts w (List.mem_cons_of_mem _ h)
  have lk_28 := hw _ m1_95
  have lk_18 := hw _ m1_93
  have lk_31 := hw _ m1_97
  have lk_11 := hw _ m1_92
  have lk_15 := hw _ m1_94
  unfold gX1_take at hg
  refine lv_aload_n hx hb dX1_take_0 rfl (lv_at hl 0 rfl) ?_
  refine m_gi (C := RX1) (T := TX1) (n := 5) (ci := 0) hx hb hts in_RX1 hown hK hP (kC_v (j := 3) hv0 (by decide)) (LC_RDG v0) rfl 3 (by decide) rfl lk_28 (fun _ h9 => h9) dX1_take_1 ?_
  refine lv_bipush (v := 80) hx hb dX1_take_4 (by decide) ?_
  obtain ⟨J3, hJ3, hg⟩ := lf1 hg
  have kJ3 : ∀ (M2 : Mm) (H : Heap) (locs : List Loc) (ls : Array Slot), va_P D vwCl (wl cs LC NC ad M2 ++ X) H → va_D A (wl cs LC NC ad M2 ++ X) → va_S A s.heap H locs → lv_has ls 3 [(0, .ref (ad (vb v0 + 3))), (1, .int a1), (2, .int a2)] → J3 M2 = res → W p l e R s m args below meth c H locs 0 0 Q (F0 m 32 ls []) := by
    intro M2 H locs ls hP hD hS hl hg
    rw [hJ3] at hg
    refine lv_aload_n hx hb dX1_take_32 rfl (lv_at hl 0 rfl) ?_
    refine lv_iload_n hx hb dX1_take_33 rfl (lv_at hl 1 rfl) ?_
    obtain ⟨M5, q4, hg⟩ := bd_e hg hne
    refine w_callv (va_runV (As := [.int a1]) (rest := []) CX (ctX1_replaceTop l D sw cs ad X H.size M2 v0 hv0 a1 q4) (cwV 1 hts (gwV m2_162 m2_164 mp1_13 m1_5 m2_165) rfl rfl rfl (by decide +kernel) ⟨Nat.le_trans (Nat.le_of_ble_eq_true rfl) hR.1, Nat.le_trans (Nat.le_of_ble_eq_true rfl) hR.2⟩) (wPreV hSW hS hA hK hP hD (kC_v (j := 3) hv0 (by decide)) (LC_RDG v0) rfl _) rfl rfl hl.1 rfl (lv_room (Nat.le_of_ble_eq_true rfl)) dX1_take_34 ⟨Nat.zero_le _, Nat.zero_le _⟩) hD hS hA (fun H locs hP hD hS => ?_)
    refine lv_aload_n hx hb dX1_take_37 rfl (lv_at hl 0 rfl) ?_
    refine m_gi (C := RX1) (T := TX1) (n := 5) (ci := 0) hx hb hts in_RX1 hown hK hP (kC_v (j := 3) hv0 (by decide)) (LC_RDG v0) rfl 1 (by decide) rfl lk_18 (fun _ h9 => h9) dX1_take_38 ?_
    refine lv_if_le (tgt := 72) hx hb dX1_take_41 (by decide) (fun c6 => ?_) (fun c6 => ?_)
    · have hg := if_t hg c6
      refine lv_aload_n hx hb dX1_take_72 rfl (lv_at hl 0 rfl) ?_
      refine lv_iload_n hx hb dX1_take_73 rfl (lv_at hl 2 rfl) ?_
      obtain ⟨M7, hM7, hg⟩ := lt_e hg
      refine m_pi (C := RX1) (T := TX1) (n := 5) (ci := 0) hx hb hts in_RX1 tyX1 tyX1_ok nmX1 hown hK hP hD hS (kC_v (j := 3) hv0 (by decide)) (LC_RDG v0) rfl 4 (by decide) rfl lk_31 (fun _ h9 => h9) rfl rfl rfl dX1_take_74 hM7 (fun H locs hP hD hS => ?_)
      exact hret _ _ _ _ _ hg dX1_take_77 hP hD hS
    · have hg := if_f hg c6
      refine lv_aload_n hx hb dX1_take_44 rfl (lv_at hl 0 rfl) ?_
      refine m_gr (C := RX1) (T := TX1) (n := 5) (ci := 0) hx hb hts in_RX1 hown hK hP (kC_v (j := 3) hv0 (by decide)) (LC_RDG v0) rfl 0 (by decide) rfl lk_11 (fun _ h9 => h9) dX1_take_45 ?_
      refine lv_aload_n hx hb dX1_take_48 rfl (lv_at hl 0 rfl) ?_
      refine m_gi (C := RX1) (T := TX1) (n := 5) (ci := 0) hx hb hts in_RX1 hown hK hP (kC_v (j := 3) hv0 (by decide)) (LC_RDG v0) rfl 1 (by decide) rfl lk_18 (fun _ h9 => h9) dX1_take_49 ?_
      refine lv_iconst (v := 1) hx hb dX1_take_52 (by decide) ?_
      refine lv_isub hx hb dX1_take_53 ?_
      obtain ⟨b8, hg⟩ := ck_e hg hne
      refine m_ld hx hb hK hP (kC_v (j := 4) hv0 (by decide)) (LC_SYM v0) b8 dX1_take_54 ?_
      refine lv_iload_n hx hb dX1_take_55 rfl (lv_at hl 1 rfl) ?_
      refine lv_icmp_ne (tgt := 72) hx hb dX1_take_56 (by decide) (fun c9 => ?_) (fun c9 => ?_)
      · have hg := if_f hg c9
        refine lv_aload_n hx hb dX1_take_72 rfl (lv_at hl 0 rfl) ?_
        refine lv_iload_n hx hb dX1_take_73 rfl (lv_at hl 2 rfl) ?_
        obtain ⟨M10, hM10, hg⟩ := lt_e hg
        refine m_pi (C := RX1) (T := TX1) (n := 5) (ci := 0) hx hb hts in_RX1 tyX1 tyX1_ok nmX1 hown hK hP hD hS (kC_v (j := 3) hv0 (by decide)) (LC_RDG v0) rfl 4 (by decide) rfl lk_31 (fun _ h9 => h9) rfl rfl rfl dX1_take_74 hM10 (fun H locs hP hD hS => ?_)
        exact hret _ _ _ _ _ hg dX1_take_77 hP hD hS
      · have hg := if_t hg c9
        refine lv_aload_n hx hb dX1_take_59 rfl (lv_at hl 0 rfl) ?_
        refine lv_dup hx hb dX1_take_60 rfl ?_
        refine m_gi (C := RX1) (T := TX1) (n := 5) (ci := 0) hx hb hts in_RX1 hown hK hP (kC_v (j := 3) hv0 (by decide)) (LC_RDG v0) rfl 1 (by decide) rfl lk_18 (fun _ h9 => h9) dX1_take_61 ?_
        refine lv_iconst (v := 1) hx hb dX1_take_64 (by decide) ?_
        refine lv_isub hx hb dX1_take_65 ?_
        obtain ⟨M11, hM11, hg⟩ := lt_e hg
        refine m_pi (C := RX1) (T := TX1) (n := 5) (ci := 0) hx hb hts in_RX1 tyX1 tyX1_ok nmX1 hown hK hP hD hS (kC_v (j := 3) hv0 (by decide)) (LC_RDG v0) rfl 1 (by decide) rfl lk_18 (fun _ h9 => h9) rfl rfl rfl dX1_take_66 hM11 (fun H locs hP hD hS => ?_)
        refine lv_goto (tgt := 77) hx hb dX1_take_69 (by decide) ?_
        exact hret _ _ _ _ _ hg dX1_take_77 hP hD hS
  refine lv_icmp_ge (tgt := 32) hx hb dX1_take_6 (by decide) (fun c1 => ?_) (fun c1 => ?_)
  · have hg := if_t hg c1
    exact kJ3 _ _ _ _ hP hD hS (lv_sub hl [0, 1, 2] rfl) hg
  · have hg := if_f hg c1
    refine lv_aload_n hx hb dX1_take_9 rfl (lv_at hl 0 rfl) ?_
    refine m_gr (C := RX1) (T := TX1) (n := 5) (ci := 0) hx hb hts in_RX1 hown hK hP (kC_v (j := 3) hv0 (by decide)) (LC_RDG v0) rfl 2 (by decide) rfl lk_15 (fun _ h9 => h9) dX1_take_10 ?_
    refine lv_aload_n hx hb dX1_take_13 rfl (lv_at hl 0 rfl) ?_
    refine m_gi (C := RX1) (T := TX1) (n := 5) (ci := 0) hx hb hts in_RX1 hown hK hP (kC_v (j := 3) hv0 (by decide)) (LC_RDG v0) rfl 3 (by decide) rfl lk_28 (fun _ h9 => h9) dX1_take_14 ?_
    refine lv_aload_n hx hb dX1_take_17 rfl (lv_at hl 0 rfl) ?_
    refine m_gi (C := RX1) (T := TX1) (n := 5) (ci := 0) hx hb hts in_RX1 hown hK hP (kC_v (j := 3) hv0 (by decide)) (LC_RDG v0) rfl 1 (by decide) rfl lk_18 (fun _ h9 => h9) dX1_take_18 ?_
    obtain ⟨b12, hg⟩ := ck_e hg hne
    obtain ⟨M13, hM13, hg⟩ := lt_e hg
    refine m_st hx hb hK hP hD hS (kC_v (j := 5) hv0 (by decide)) (LC_HTS v0) b12 dX1_take_21 hM13 (fun H locs hP hD hS => ?_)
    refine lv_aload_n hx hb dX1_take_22 rfl (lv_at hl 0 rfl) ?_
    refine lv_dup hx hb dX1_take_23 rfl ?_
    refine m_gi (C := RX1) (T := TX1) (n := 5) (ci := 0) hx hb hts in_RX1 hown hK hP (kC_v (j := 3) hv0 (by decide)) (LC_RDG v0) rfl 3 (by decide) rfl lk_28 (fun _ h9 => h9) dX1_take_24 ?_
    refine lv_iconst (v := 1) hx hb dX1_take_27 (by decide) ?_
    refine lv_iadd hx hb dX1_take_28 ?_
    obtain ⟨M14, hM14, hg⟩ := lt_e hg
    refine m_pi (C := RX1) (T := TX1) (n := 5) (ci := 0) hx hb hts in_RX1 tyX1 tyX1_ok nmX1 hown hK hP hD hS (kC_v (j := 3) hv0 (by decide)) (LC_RDG v0) rfl 3 (by decide) rfl lk_28 (fun _ h9 => h9) rfl rfl rfl dX1_take_29 hM14 (fun H locs hP hD hS => ?_)
    exact kJ3 _ _ _ _ hP hD hS (lv_sub hl [0, 1, 2] rfl) hg
theorem ctX1_take (l : Launch) (D : va_G) (sw : Sw) (cs : Cs) (ad : Nat → Nat) (X : va_W) (sz : Nat) (M : Mm) (v0 : Nat) (hv0 : v0 < 16) (a1 : Int32) (a2 : Int32) {M1 : Mm} (hq : gX1_take M v0 a1 a2 = some M1) : Met l yX1_take wsX1_take ({ frames := 5, cells := 0, slots := 0, locals := 111 }) (va_Pc [.ref (ad (vb v0 + 3)), .int a1, .int a2] (wPre D sw cs LC NC ad M X sz)) (wQv D cs LC NC ad M1 X sz) 0 0 (wA NC ad X sz) :=
  met_w rfl rfl (Nat.le_of_ble_eq_true rfl) (fun p e s m args below meth c ls CX hr hlk hK hSW hP hD hS hA hl => bX1_take M v0 hv0 a1 a2 hq (by simp) CX ⟨Nat.le_refl _, Nat.le_refl _⟩ hK hSW hP hD hS hA hl (fun pc ls H locs M9 hv dg hP hD hS => W.vret CX.1 CX.2.1 hr (fun t ht hW => ⟨⟨(), rfl, trivial, wpost hP ht (Option.some.inj hv)⟩, hS.F ht⟩) hS.2.2 dg))

abbrev wsX1_end : List Cond := Cond.code yX1_end cX1_end 2 none :: WG
def gX1_end (M : Mm) (v0 : Nat) (a1 : Int32) : Option Mm := if (M (vb v0 + 3) 4) = (-1 : Int32) then (bd (gX1_replaceTop M v0 (0 : Int32)) fun M3 => if (M3 (vb v0 + 3) 1) = 0 then (some M3) else lt (um M3 (vb v0 + 3) 4 a1) fun M5 => some M5) else some M
set_option maxHeartbeats 4000000 in
set_option maxRecDepth 100000 in
theorem bX1_end {p : Program} {l : Launch} {e : Env} {R : Room} {s : State} {m : MethodId} {args : Array Value} {below : List Frame} {meth : Method} {c : Code} {H : Heap} {locs : List Loc} {Q : State → Prop} {D : va_G} {sw : Sw} {cs : Cs} {ad : Nat → Nat} {X : va_W} {A : Nat → Prop} (M : Mm) (v0 : Nat) (hv0 : v0 < 16) (a1 : Int32) {res : Option Mm} (hg : gX1_end M v0 a1 = res) (hne : res ≠ none) (CX : CallFix p m c cX1_end 2 s args wsX1_end RX1) (hR : 5 ≤ R.frames ∧ 111 ≤ R.locals) (hK : va_K D vwCl (tysC cs) s) (hSW : SW sw A s s.heap) (hP : va_P D vwCl (wl cs LC NC ad M ++ X) H) (hD : va_D A (wl cs LC NC ad M ++ X)) (hS : va_S A s.heap H locs) (hA : ∀ q, s.heap.size ≤ q → A q) {ls : Array Slot} (hl : lv_has ls 2 [(0, .ref (ad (vb v0 + 3))), (1, .int a1)]) (hret : ∀ (pc : Nat) (ls : Array Slot) (H : Heap) (locs : List Loc) (M9 : Mm), some M9 = res → decode cX1_end pc = .ok (.return_, 1) → va_P D vwCl (wl cs LC NC ad M9 ++ X) H → va_D A (wl cs LC NC ad M9 ++ X) → va_S A s.heap H locs → W p l e R s m args below meth c H locs 0 0 Q (F0 m pc ls [])) : W p l e R s m args below meth c H locs 0 0 Q (F0 m 0 ls []) := by
  obtain ⟨hx, hb, hml, hown, hts⟩ := id CX
  have hw : ∀ w ∈ WG, w.before args s = true := fun w h => hts w (List.mem_cons_of_mem _ h)
  have lk_31 := hw _ m1_97
  have lk_18 := hw _ m1_93
  unfold gX1_end at hg
  refine lv_aload_n hx hb dX1_end_0 rfl (lv_at hl 0 rfl) ?_
  refine m_gi (C := RX1) (T := TX1) (n := 5) (ci := 0) hx hb hts in_RX1 hown hK hP (kC_v (j := 3) hv0 (by decide)) (LC_RDG v0) rfl 4 (by decide) rfl lk_31 (fun _ h9 => h9) dX1_end_1 ?_
  refine lv_iconst (v := -1) hx hb dX1_end_4 (by decide) ?_
  refine lv_icmp_ne (tgt := 25) hx hb dX1_end_5 (by decide) (fun c1 => ?_) (fun c1 => ?_)
  · have hg := if_f hg c1
    exact hret _ _ _ _ _ hg dX1_end_25 hP hD hS
  · have hg := if_t hg c1
    refine lv_aload_n hx hb dX1_end_8 rfl (lv_at hl 0 rfl) ?_
    refine lv_iconst (v := 0) hx hb dX1_end_9 (by decide) ?_
    obtain ⟨M3, q2, hg⟩ := bd_e hg hne
    refine w_callv (va_runV (As := [.int (0 : Int32)]) (rest := []) CX (ctX1_replaceTop l D sw cs ad X H.size M v0 hv0 (0 : Int32) q2) (cwV 1 hts (gwV m2_162 m2_164 mp1_13 m1_5 m2_165) rfl rfl rfl (by decide +kernel) ⟨Nat.le_trans (Nat.le_of_ble_eq_true rfl) hR.1, Nat.le_trans (Nat.le_of_ble_eq_true rfl) hR.2⟩) (wPreV hSW hS hA hK hP hD (kC_v (j := 3) hv0 (by decide)) (LC_RDG v0) rfl _) rfl rfl hl.1 rfl (lv_room (Nat.le_of_ble_eq_true rfl)) dX1_end_10 ⟨Nat.zero_le _, Nat.zero_le _⟩) hD hS hA (fun H locs hP hD hS => ?_)
    refine lv_aload_n hx hb dX1_end_13 rfl (lv_at hl 0 rfl) ?_
    refine m_gi (C := RX1) (T := TX1) (n := 5) (ci := 0) hx hb hts in_RX1 hown hK hP (kC_v (j := 3) hv0 (by decide)) (LC_RDG v0) rfl 1 (by decide) rfl lk_18 (fun _ h9 => h9) dX1_end_14 ?_
    refine lv_if_eq (tgt := 25) hx hb dX1_end_17 (by decide) (fun c4 => ?_) (fun c4 => ?_)
    · have hg := if_t hg c4
      exact hret _ _ _ _ _ hg dX1_end_25 hP hD hS
    · have hg := if_f hg c4
      refine lv_aload_n hx hb dX1_end_20 rfl (lv_at hl 0 rfl) ?_
      refine lv_iload_n hx hb dX1_end_21 rfl (lv_at hl 1 rfl) ?_
      obtain ⟨M5, hM5, hg⟩ := lt_e hg
      refine m_pi (C := RX1) (T := TX1) (n := 5) (ci := 0) hx hb hts in_RX1 tyX1 tyX1_ok nmX1 hown hK hP hD hS (kC_v (j := 3) hv0 (by decide)) (LC_RDG v0) rfl 4 (by decide) rfl lk_31 (fun _ h9 => h9) rfl rfl rfl dX1_end_22 hM5 (fun H locs hP hD hS => ?_)
      exact hret _ _ _ _ _ hg dX1_end_25 hP hD hS
theorem ctX1_end (l : Launch) (D : va_G) (sw : Sw) (cs : Cs) (ad : Nat → Nat) (X : va_W) (sz : Nat) (M : Mm) (v0 : Nat) (hv0 : v0 < 16) (a1 : Int32) {M1 : Mm} (hq : gX1_end M v0 a1 = some M1) : Met l yX1_end wsX1_end ({ frames := 5, cells := 0, slots := 0, locals := 111 }) (va_Pc [.ref (ad (vb v0 + 3)), .int a1] (wPre D sw cs LC NC ad M X sz)) (wQv D cs LC NC ad M1 X sz) 0 0 (wA NC ad X sz) :=
  met_w rfl rfl (Nat.le_of_ble_eq_true rfl) (fun p e s m args below meth c ls CX hr hlk hK hSW hP hD hS hA hl => bX1_end M v0 hv0 a1 hq (by simp) CX ⟨Nat.le_refl _, Nat.le_refl _⟩ hK hSW hP hD hS hA hl (fun pc ls H locs M9 hv dg hP hD hS => W.vret CX.1 CX.2.1 hr (fun t ht hW => ⟨⟨(), rfl, trivial, wpost hP ht (Option.some.inj hv)⟩, hS.F ht⟩) hS.2.2 dg))
