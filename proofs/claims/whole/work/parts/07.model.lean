abbrev wsX8_thrown : List Cond := Cond.code yX8_thrown cX8_thrown 1 (some .int) :: WG
def gX8_thrown (M : Mm) : Option Int32 := some (M 0 0)
set_option maxHeartbeats 4000000 in
set_option maxRecDepth 100000 in
theorem bX8_thrown {p : Program} {l : Launch} {e : Env} {R : Room} {s : State} {m : MethodId} {args : Array Value} {below : List Frame} {meth : Method} {c : Code} {H : Heap} {locs : List Loc} {Q : State → Prop} {D : va_G} {sw : Sw} {cs : Cs} {ad : Nat → Nat} {X : va_W} (M : Mm) {res : Option Int32} (hg : gX8_thrown M = res) (hne : res ≠ none) (CX : CallFix p m c cX8_thrown 1 s args wsX8_thrown RX8) (hR : 0 ≤ R.frames ∧ 0 ≤ R.locals) (hK : va_K D vwCl (tysC cs) s) (hSW : SW sw (fun _ => False) s H) (hP : va_P D vwCl (wl cs LM NM ad M ++ X) H) {ls : Array Slot} (hl : lv_has ls 1 [(0, .ref (ad 0))]) (hret : ∀ (pc : Nat) (ls : Array Slot) (v : Int32), some v = res → decode cX8_thrown pc = .ok (.ireturn, 1) → W p l e R s m args below meth c H locs 0 0 Q (F0 m pc ls [.int v])) : W p l e R s m args below meth c H locs 0 0 Q (F0 m 0 ls []) := by
  obtain ⟨hx, hb, hml, hown, hts⟩ := id CX
  have hw : ∀ w ∈ WG, w.before args s = true := fun w h => hts w (List.mem_cons_of_mem _ h)
  have lk_43 := hw _ m4_116
  unfold gX8_thrown at hg
  refine lv_aload_n hx hb dX8_thrown_0 rfl (lv_at hl 0 rfl) ?_
  refine m_gi (C := RX8) (T := TX8) (n := 15) (ci := 6) hx hb hts in_RX8 hown hK hP (by decide) rfl rfl 0 (by decide) rfl lk_43 (fun _ h9 => h9) dX8_thrown_1 ?_
  exact hret _ _ _ hg dX8_thrown_4
theorem ctX8_thrown (l : Launch) (D : va_G) (sw : Sw) (cs : Cs) (ad : Nat → Nat) (X : va_W) (M : Mm) {r : Int32} (hq : gX8_thrown M = some r) : Met l yX8_thrown wsX8_thrown ({ frames := 0, cells := 0, slots := 0, locals := 0 }) (va_Pc [.ref (ad 0)] (rPre D sw cs LM NM ad M X)) (vp_Si (fun r' => r' = r)) 0 0 (fun _ => False) :=
  met_r rfl rfl (Nat.le_of_ble_eq_true rfl) (fun p e s m args below meth c ls CX hr hlk hK hSW hP hl => bX8_thrown M hq (by simp) CX ⟨Nat.le_refl _, Nat.le_refl _⟩ hK hSW hP hl (fun pc ls v hv dg => W.iret CX.1 CX.2.1 hr (fun t ht hW => ⟨_, rfl, Option.some.inj hv, ht⟩) (fun _ h => by cases h) dg))

abbrev wsX8_no : List Cond := Cond.code yX8_no cX8_no 2 (some .int) :: WG
def gX8_no (M : Mm) (a1 : Int32) : Option (Int32 × Mm) := lt (um M 0 0 a1) fun M1 => some ((0 : Int32), M1)
set_option maxHeartbeats 4000000 in
set_option maxRecDepth 100000 in
theorem bX8_no {p : Program} {l : Launch} {e : Env} {R : Room} {s : State} {m : MethodId} {args : Array Value} {below : List Frame} {meth : Method} {c : Code} {H : Heap} {locs : List Loc} {Q : State → Prop} {D : va_G} {sw : Sw} {cs : Cs} {ad : Nat → Nat} {X : va_W} {A : Nat → Prop} (M : Mm) (a1 : Int32) {res : Option (Int32 × Mm)} (hg : gX8_no M a1 = res) (hne : res ≠ none) (CX : CallFix p m c cX8_no 2 s args wsX8_no RX8) (hR : 0 ≤ R.frames ∧ 0 ≤ R.locals) (hK : va_K D vwCl (tysC cs) s) (hSW : SW sw A s s.heap) (hP : va_P D vwCl (wl cs LM NM ad M ++ X) H) (hD : va_D A (wl cs LM NM ad M ++ X)) (hS : va_S A s.heap H locs) (hA : ∀ q, s.heap.size ≤ q → A q) {ls : Array Slot} (hl : lv_has ls 2 [(0, .ref (ad 0)), (1, .int a1)]) (hret : ∀ (pc : Nat) (ls : Array Slot) (H : Heap) (locs : List Loc) (v : Int32) (M9 : Mm), some (v, M9) = res → decode cX8_no pc = .ok (.ireturn, 1) → va_P D vwCl (wl cs LM NM ad M9 ++ X) H → va_D A (wl cs LM NM ad M9 ++ X) → va_S A s.heap H locs → W p l e R s m args below meth c H locs 0 0 Q (F0 m pc ls [.int v])) : W p l e R s m args below meth c H locs 0 0 Q (F0 m 0 ls []) := by
  obtain ⟨hx, hb, hml, hown, hts⟩ := id CX
  have hw : ∀ w ∈ WG, w.before args s = true := fun w h => hts w (List.mem_cons_of_mem _ h)
  have lk_43 := hw _ m4_116
  unfold gX8_no at hg
  refine lv_aload_n hx hb dX8_no_0 rfl (lv_at hl 0 rfl) ?_
  refine lv_iload_n hx hb dX8_no_1 rfl (lv_at hl 1 rfl) ?_
  obtain ⟨M1, hM1, hg⟩ := lt_e hg
  refine m_pi (C := RX8) (T := TX8) (n := 15) (ci := 6) hx hb hts in_RX8 tyX8 tyX8_ok nmX8 hown hK hP hD hS (by decide) rfl rfl 0 (by decide) rfl lk_43 (fun _ h9 => h9) rfl rfl rfl dX8_no_2 hM1 (fun H locs hP hD hS => ?_)
  refine lv_iconst (v := 0) hx hb dX8_no_5 (by decide) ?_
  exact hret _ _ _ _ _ _ hg dX8_no_6 hP hD hS
theorem ctX8_no (l : Launch) (D : va_G) (sw : Sw) (cs : Cs) (ad : Nat → Nat) (X : va_W) (sz : Nat) (M : Mm) (a1 : Int32) {r : Int32} {M1 : Mm} (hq : gX8_no M a1 = some (r, M1)) : Met l yX8_no wsX8_no ({ frames := 0, cells := 0, slots := 0, locals := 0 }) (va_Pc [.ref (ad 0), .int a1] (wPre D sw cs LM NM ad M X sz)) (wQi D cs LM NM ad M1 X sz r) 0 0 (wA NM ad X sz) :=
  met_w rfl rfl (Nat.le_of_ble_eq_true rfl) (fun p e s m args below meth c ls CX hr hlk hK hSW hP hD hS hA hl => bX8_no M a1 hq (by simp) CX ⟨Nat.le_refl _, Nat.le_refl _⟩ hK hSW hP hD hS hA hl (fun pc ls H locs v M9 hv dg hP hD hS => W.iret CX.1 CX.2.1 hr (fun t ht hW => ⟨⟨_, (), rfl, (Prod.mk.inj (Option.some.inj hv)).1, wpost hP ht (Prod.mk.inj (Option.some.inj hv)).2⟩, hS.F ht⟩) hS.2.2 dg))

abbrev wsX8_isIn : List Cond := Cond.code yX8_isIn cX8_isIn 3 (some .boolean) :: WG
def gX8_isIn (a0 : Int32) (a1 : Int32) (a2 : Int32) : Int32 := if a0 < a1 then ((0 : Int32)) else if a2 < a0 then ((0 : Int32)) else (1 : Int32)
set_option maxHeartbeats 4000000 in
set_option maxRecDepth 100000 in
theorem bX8_isIn {p : Program} {l : Launch} {e : Env} {R : Room} {s : State} {m : MethodId} {args : Array Value} {below : List Frame} {meth : Method} {c : Code} {H : Heap} {locs : List Loc} {Q : State → Prop} (a0 : Int32) (a1 : Int32) (a2 : Int32) {res : Int32} (hg : gX8_isIn a0 a1 a2 = res) (CX : CallFix p m c cX8_isIn 3 s args wsX8_isIn RX8) (hR : 0 ≤ R.frames ∧ 0 ≤ R.locals) {ls : Array Slot} (hl : lv_has ls 3 [(0, .int a0), (1, .int a1), (2, .int a2)]) (hret : ∀ (pc : Nat) (ls : Array Slot) (v : Int32), v = res → decode cX8_isIn pc = .ok (.ireturn, 1) → narrow .boolean (.int v) = .int v → W p l e R s m args below meth c H locs 0 0 Q (F0 m pc ls [.int v])) : W p l e R s m args below meth c H locs 0 0 Q (F0 m 0 ls []) := by
  obtain ⟨hx, hb, hml, hown, hts⟩ := id CX
  have hw : ∀ w ∈ WG, w.before args s = true := fun w h => hts w (List.mem_cons_of_mem _ h)
  unfold gX8_isIn at hg
  refine lv_iload_n hx hb dX8_isIn_0 rfl (lv_at hl 0 rfl) ?_
  refine lv_iload_n hx hb dX8_isIn_1 rfl (lv_at hl 1 rfl) ?_
  refine lv_icmp_lt (tgt := 14) hx hb dX8_isIn_2 (by decide) (fun c1 => ?_) (fun c1 => ?_)
  · have hg := if_t hg c1
    refine lv_iconst (v := 0) hx hb dX8_isIn_14 (by decide) ?_
    exact hret _ _ _ hg dX8_isIn_15 rfl
  · have hg := if_f hg c1
    refine lv_iload_n hx hb dX8_isIn_5 rfl (lv_at hl 0 rfl) ?_
    refine lv_iload_n hx hb dX8_isIn_6 rfl (lv_at hl 2 rfl) ?_
    refine lv_icmp_gt (tgt := 14) hx hb dX8_isIn_7 (by decide) (fun c2 => ?_) (fun c2 => ?_)
    · have hg := if_t hg c2
      refine lv_iconst (v := 0) hx hb dX8_isIn_14 (by decide) ?_
      exact hret _ _ _ hg dX8_isIn_15 rfl
    · have hg := if_f hg c2
      refine lv_iconst (v := 1) hx hb dX8_isIn_10 (by decide) ?_
      refine lv_goto (tgt := 15) hx hb dX8_isIn_11 (by decide) ?_
      exact hret _ _ _ hg dX8_isIn_15 rfl
theorem zX8_isIn (a0 : Int32) (a1 : Int32) (a2 : Int32) : narrow .boolean (.int (gX8_isIn a0 a1 a2)) = .int (gX8_isIn a0 a1 a2) := by
  unfold gX8_isIn
  repeat' (first | apply zif | rfl)
theorem ctX8_isIn (l : Launch) (a0 : Int32) (a1 : Int32) (a2 : Int32) : Met l yX8_isIn wsX8_isIn ({ frames := 0, cells := 0, slots := 0, locals := 0 }) (va_Pc [.int a0, .int a1, .int a2] (fun _ => True)) (vp_Si (fun r' => r' = gX8_isIn a0 a1 a2)) 0 0 (fun _ => False) :=
  met_p rfl rfl (Nat.le_of_ble_eq_true rfl) (fun p e s m args below meth c ls CX hr hlk hl => bX8_isIn a0 a1 a2 rfl CX ⟨Nat.le_refl _, Nat.le_refl _⟩ hl (fun pc ls v hv dg hz => W.zret (ty := .boolean) CX.1 CX.2.1 hr hz (fun t ht hW => ⟨_, rfl, hv, ht⟩) (fun _ h => by cases h) dg))

abbrev wsX8_has : List Cond := Cond.code yX8_has cX8_has 2 (some .boolean) :: WG
def gX8_has (a0 : Int32) (a1 : Int32) : Int32 := if ((a0 >>> (a1 &&& 31)) &&& (1 : Int32)) = (1 : Int32) then ((1 : Int32)) else (0 : Int32)
set_option maxHeartbeats 4000000 in
set_option maxRecDepth 100000 in
theorem bX8_has {p : Program} {l : Launch} {e : Env} {R : Room} {s : State} {m : MethodId} {args : Array Value} {below : List Frame} {meth : Method} {c : Code} {H : Heap} {locs : List Loc} {Q : State → Prop} (a0 : Int32) (a1 : Int32) {res : Int32} (hg : gX8_has a0 a1 = res) (CX : CallFix p m c cX8_has 2 s args wsX8_has RX8) (hR : 0 ≤ R.frames ∧ 0 ≤ R.locals) {ls : Array Slot} (hl : lv_has ls 2 [(0, .int a0), (1, .int a1)]) (hret : ∀ (pc : Nat) (ls : Array Slot) (v : Int32), v = res → decode cX8_has pc = .ok (.ireturn, 1) → narrow .boolean (.int v) = .int v → W p l e R s m args below meth c H locs 0 0 Q (F0 m pc ls [.int v])) : W p l e R s m args below meth c H locs 0 0 Q (F0 m 0 ls []) := by
  obtain ⟨hx, hb, hml, hown, hts⟩ := id CX
  have hw : ∀ w ∈ WG, w.before args s = true := fun w h => hts w (List.mem_cons_of_mem _ h)
  unfold gX8_has at hg
  refine lv_iload_n hx hb dX8_has_0 rfl (lv_at hl 0 rfl) ?_
  refine lv_iload_n hx hb dX8_has_1 rfl (lv_at hl 1 rfl) ?_
  refine lv_ishr hx hb dX8_has_2 ?_
  refine lv_iconst (v := 1) hx hb dX8_has_3 (by decide) ?_
  refine lv_iand hx hb dX8_has_4 ?_
  refine lv_iconst (v := 1) hx hb dX8_has_5 (by decide) ?_
  refine lv_icmp_ne (tgt := 13) hx hb dX8_has_6 (by decide) (fun c1 => ?_) (fun c1 => ?_)
  · have hg := if_f hg c1
    refine lv_iconst (v := 0) hx hb dX8_has_13 (by decide) ?_
    exact hret _ _ _ hg dX8_has_14 rfl
  · have hg := if_t hg c1
    refine lv_iconst (v := 1) hx hb dX8_has_9 (by decide) ?_
    refine lv_goto (tgt := 14) hx hb dX8_has_10 (by decide) ?_
    exact hret _ _ _ hg dX8_has_14 rfl
theorem zX8_has (a0 : Int32) (a1 : Int32) : narrow .boolean (.int (gX8_has a0 a1)) = .int (gX8_has a0 a1) := by
  unfold gX8_has
  repeat' (first | apply zif | rfl)
theorem ctX8_has (l : Launch) (a0 : Int32) (a1 : Int32) : Met l yX8_has wsX8_has ({ frames := 0, cells := 0, slots := 0, locals := 0 }) (va_Pc [.int a0, .int a1] (fun _ => True)) (vp_Si (fun r' => r' = gX8_has a0 a1)) 0 0 (fun _ => False) :=
  met_p rfl rfl (Nat.le_of_ble_eq_true rfl) (fun p e s m args below meth c ls CX hr hlk hl => bX8_has a0 a1 rfl CX ⟨Nat.le_refl _, Nat.le_refl _⟩ hl (fun pc ls v hv dg hz => W.zret (ty := .boolean) CX.1 CX.2.1 hr hz (fun t ht hW => ⟨_, rfl, hv, ht⟩) (fun _ h => by cases h) dg))

abbrev wsX8_isItem : List Cond := Cond.code yX8_isItem cX8_isItem 2 (some .boolean) :: WG
def gX8_isItem (M : Mm) (a1 : Int32) : Option Int32 := some (gX8_isIn a1 (0 : Int32) ((M 0 1) - (1 : Int32)))
set_option maxHeartbeats 4000000 in
set_option maxRecDepth 100000 in
theorem bX8_isItem {p : Program} {l : Launch} {e : Env} {R : Room} {s : State} {m : MethodId} {args : Array Value} {below : List Frame} {meth : Method} {c : Code} {H : Heap} {locs : List Loc} {Q : State → Prop} {D : va_G} {sw : Sw} {cs : Cs} {ad : Nat → Nat} {X : va_W} (M : Mm) (a1 : Int32) {res : Option Int32} (hg : gX8_isItem M a1 = res) (hne : res ≠ none) (CX : CallFix p m c cX8_isItem 2 s args wsX8_isItem RX8) (hR : 1 ≤ R.frames ∧ 22 ≤ R.locals) (hK : va_K D vwCl (tysC cs) s) (hSW : SW sw (fun _ => False) s H) (hP : va_P D vwCl (wl cs LM NM ad M ++ X) H) {ls : Array Slot} (hl : lv_has ls 2 [(0, .ref (ad 0)), (1, .int a1)]) (hret : ∀ (pc : Nat) (ls : Array Slot) (v : Int32), some v = res → decode cX8_isItem pc = .ok (.ireturn, 1) → narrow .boolean (.int v) = .int v → W p l e R s m args below meth c H locs 0 0 Q (F0 m pc ls [.int v])) : W p l e R s m args below meth c H locs 0 0 Q (F0 m 0 ls []) := by
  obtain ⟨hx, hb, hml, hown, hts⟩ := id CX
  have hw : ∀ w ∈ WG, w.before args s = true := fun w h => hts w (List.mem_cons_of_mem _ h)
  have lk_47 := hw _ m4_117
  unfold gX8_isItem at hg
  refine lv_iload_n hx hb dX8_isItem_0 rfl (lv_at hl 1 rfl) ?_
  refine lv_iconst (v := 0) hx hb dX8_isItem_1 (by decide) ?_
  refine lv_aload_n hx hb dX8_isItem_2 rfl (lv_at hl 0 rfl) ?_
  refine m_gi (C := RX8) (T := TX8) (n := 15) (ci := 6) hx hb hts in_RX8 hown hK hP (by decide) rfl rfl 1 (by decide) rfl lk_47 (fun _ h9 => h9) dX8_isItem_3 ?_
  refine lv_iconst (v := 1) hx hb dX8_isItem_6 (by decide) ?_
  refine lv_isub hx hb dX8_isItem_7 ?_
  refine r_calli (W.runS (As := [.int a1, .int (0 : Int32), .int ((M 0 1) - (1 : Int32))]) (rest := []) CX (ctX8_isIn l a1 (0 : Int32) ((M 0 1) - (1 : Int32))) (va_cwS 3 hts (gwS m5_7 m5_8 m1_7 m5_9) rfl rfl rfl (by decide +kernel) ⟨Nat.le_trans (Nat.le_of_ble_eq_true rfl) hR.1, Nat.le_trans (Nat.le_of_ble_eq_true rfl) hR.2⟩) (pPreS _) rfl rfl hl.1 rfl (lv_room (Nat.le_of_ble_eq_true rfl)) dX8_isItem_8 ⟨Nat.zero_le _, Nat.zero_le _⟩) ?_
  exact hret _ _ _ hg dX8_isItem_11 (zX8_isIn a1 (0 : Int32) ((M 0 1) - (1 : Int32)))
theorem ctX8_isItem (l : Launch) (D : va_G) (sw : Sw) (cs : Cs) (ad : Nat → Nat) (X : va_W) (M : Mm) (a1 : Int32) {r : Int32} (hq : gX8_isItem M a1 = some r) : Met l yX8_isItem wsX8_isItem ({ frames := 1, cells := 0, slots := 0, locals := 22 }) (va_Pc [.ref (ad 0), .int a1] (rPre D sw cs LM NM ad M X)) (vp_Si (fun r' => r' = r)) 0 0 (fun _ => False) :=
  met_r rfl rfl (Nat.le_of_ble_eq_true rfl) (fun p e s m args below meth c ls CX hr hlk hK hSW hP hl => bX8_isItem M a1 hq (by simp) CX ⟨Nat.le_refl _, Nat.le_refl _⟩ hK hSW hP hl (fun pc ls v hv dg hz => W.zret (ty := .boolean) CX.1 CX.2.1 hr hz (fun t ht hW => ⟨_, rfl, Option.some.inj hv, ht⟩) (fun _ h => by cases h) dg))

abbrev wsX8_isFeature : List Cond := Cond.code yX8_isFeature cX8_isFeature 1 (some .boolean) :: WG
def gX8_isFeature (a0 : Int32) : Int32 := (gX8_isIn a0 (0 : Int32) (3 : Int32))
set_option maxHeartbeats 4000000 in
set_option maxRecDepth 100000 in
theorem bX8_isFeature {p : Program} {l : Launch} {e : Env} {R : Room} {s : State} {m : MethodId} {args : Array Value} {below : List Frame} {meth : Method} {c : Code} {H : Heap} {locs : List Loc} {Q : State → Prop} (a0 : Int32) {res : Int32} (hg : gX8_isFeature a0 = res) (CX : CallFix p m c cX8_isFeature 1 s args wsX8_isFeature RX8) (hR : 1 ≤ R.frames ∧ 22 ≤ R.locals) {ls : Array Slot} (hl : lv_has ls 1 [(0, .int a0)]) (hret : ∀ (pc : Nat) (ls : Array Slot) (v : Int32), v = res → decode cX8_isFeature pc = .ok (.ireturn, 1) → narrow .boolean (.int v) = .int v → W p l e R s m args below meth c H locs 0 0 Q (F0 m pc ls [.int v])) : W p l e R s m args below meth c H locs 0 0 Q (F0 m 0 ls []) := by
  obtain ⟨hx, hb, hml, hown, hts⟩ := id CX
  have hw : ∀ w ∈ WG, w.before args s = true := fun w h => hts w (List.mem_cons_of_mem _ h)
  unfold gX8_isFeature at hg
  refine lv_iload_n hx hb dX8_isFeature_0 rfl (lv_at hl 0 rfl) ?_
  refine lv_iconst (v := 0) hx hb dX8_isFeature_1 (by decide) ?_
  refine lv_iconst (v := 3) hx hb dX8_isFeature_2 (by decide) ?_
  refine r_calli (W.runS (As := [.int a0, .int (0 : Int32), .int (3 : Int32)]) (rest := []) CX (ctX8_isIn l a0 (0 : Int32) (3 : Int32)) (va_cwS 3 hts (gwS m5_7 m5_8 m1_7 m5_9) rfl rfl rfl (by decide +kernel) ⟨Nat.le_trans (Nat.le_of_ble_eq_true rfl) hR.1, Nat.le_trans (Nat.le_of_ble_eq_true rfl) hR.2⟩) (pPreS _) rfl rfl hl.1 rfl (lv_room (Nat.le_of_ble_eq_true rfl)) dX8_isFeature_3 ⟨Nat.zero_le _, Nat.zero_le _⟩) ?_
  exact hret _ _ _ hg dX8_isFeature_6 (zX8_isIn a0 (0 : Int32) (3 : Int32))
theorem zX8_isFeature (a0 : Int32) : narrow .boolean (.int (gX8_isFeature a0)) = .int (gX8_isFeature a0) := by
  unfold gX8_isFeature
  repeat' (first | apply zif | rfl | apply zX8_isIn)
theorem ctX8_isFeature (l : Launch) (a0 : Int32) : Met l yX8_isFeature wsX8_isFeature ({ frames := 1, cells := 0, slots := 0, locals := 22 }) (va_Pc [.int a0] (fun _ => True)) (vp_Si (fun r' => r' = gX8_isFeature a0)) 0 0 (fun _ => False) :=
  met_p rfl rfl (Nat.le_of_ble_eq_true rfl) (fun p e s m args below meth c ls CX hr hlk hl => bX8_isFeature a0 rfl CX ⟨Nat.le_refl _, Nat.le_refl _⟩ hl (fun pc ls v hv dg hz => W.zret (ty := .boolean) CX.1 CX.2.1 hr hz (fun t ht hW => ⟨_, rfl, hv, ht⟩) (fun _ h => by cases h) dg))

abbrev wsX8_isConfiguration : List Cond := Cond.code yX8_isConfiguration cX8_isConfiguration 1 (some .boolean) :: WG
def gX8_isConfiguration (a0 : Int32) : Int32 := (gX8_isIn a0 (0 : Int32) (15 : Int32))
set_option maxHeartbeats 4000000 in
set_option maxRecDepth 100000 in
theorem bX8_isConfiguration {p : Program} {l : Launch} {e : Env} {R : Room} {s : State} {m : MethodId} {args : Array Value} {below : List Frame} {meth : Method} {c : Code} {H : Heap} {locs : List Loc} {Q : State → Prop} (a0 : Int32) {res : Int32} (hg : gX8_isConfiguration a0 = res) (CX : CallFix p m c cX8_isConfiguration 1 s args wsX8_isConfiguration RX8) (hR : 1 ≤ R.frames ∧ 22 ≤ R.locals) {ls : Array Slot} (hl : lv_has ls 1 [(0, .int a0)]) (hret : ∀ (pc : Nat) (ls : Array Slot) (v : Int32), v = res → decode cX8_isConfiguration pc = .ok (.ireturn, 1) → narrow .boolean (.int v) = .int v → W p l e R s m args below meth c H locs 0 0 Q (F0 m pc ls [.int v])) : W p l e R s m args below meth c H locs 0 0 Q (F0 m 0 ls []) := by
  obtain ⟨hx, hb, hml, hown, hts⟩ := id CX
  have hw : ∀ w ∈ WG, w.before args s = true := fun w h => hts w (List.mem_cons_of_mem _ h)
  unfold gX8_isConfiguration at hg
  refine lv_iload_n hx hb dX8_isConfiguration_0 rfl (lv_at hl 0 rfl) ?_
  refine lv_iconst (v := 0) hx hb dX8_isConfiguration_1 (by decide) ?_
  refine lv_bipush (v := 15) hx hb dX8_isConfiguration_2 (by decide) ?_
  refine r_calli (W.runS (As := [.int a0, .int (0 : Int32), .int (15 : Int32)]) (rest := []) CX (ctX8_isIn l a0 (0 : Int32) (15 : Int32)) (va_cwS 3 hts (gwS m5_7 m5_8 m1_7 m5_9) rfl rfl rfl (by decide +kernel) ⟨Nat.le_trans (Nat.le_of_ble_eq_true rfl) hR.1, Nat.le_trans (Nat.le_of_ble_eq_true rfl) hR.2⟩) (pPreS _) rfl rfl hl.1 rfl (lv_room (Nat.le_of_ble_eq_true rfl)) dX8_isConfiguration_4 ⟨Nat.zero_le _, Nat.zero_le _⟩) ?_
  exact hret _ _ _ hg dX8_isConfiguration_7 (zX8_isIn a0 (0 : Int32) (15 : Int32))
theorem zX8_isConfiguration (a0 : Int32) : narrow .boolean (.int (gX8_isConfiguration a0)) = .int (gX8_isConfiguration a0) := by
  unfold gX8_isConfiguration
  repeat' (first | apply zif | rfl | apply zX8_isIn)
theorem ctX8_isConfiguration (l : Launch) (a0 : Int32) : Met l yX8_isConfiguration wsX8_isConfiguration ({ frames := 1, cells := 0, slots := 0, locals := 22 }) (va_Pc [.int a0] (fun _ => True)) (vp_Si (fun r' => r' = gX8_isConfiguration a0)) 0 0 (fun _ => False) :=
  met_p rfl rfl (Nat.le_of_ble_eq_true rfl) (fun p e s m args below meth c ls CX hr hlk hl => bX8_isConfiguration a0 rfl CX ⟨Nat.le_refl _, Nat.le_refl _⟩ hl (fun pc ls v hv dg hz => W.zret (ty := .boolean) CX.1 CX.2.1 hr hz (fun t ht hW => ⟨_, rfl, hv, ht⟩) (fun _ h => by cases h) dg))

abbrev wsX8_isToken : List Cond := Cond.code yX8_isToken cX8_isToken 2 (some .boolean) :: WG
def gX8_isToken (M : Mm) (a1 : Int32) : Option Int32 := if (a1 < 0 ∨ 80 ≤ (a1).toNatClampNeg) then none else if (M 1 (a1).toNatClampNeg) ≤ (17 : Int32) then (some (0 : Int32)) else some (1 : Int32)
set_option maxHeartbeats 4000000 in
set_option maxRecDepth 100000 in
theorem bX8_isToken {p : Program} {l : Launch} {e : Env} {R : Room} {s : State} {m : MethodId} {args : Array Value} {below : List Frame} {meth : Method} {c : Code} {H : Heap} {locs : List Loc} {Q : State → Prop} {D : va_G} {sw : Sw} {cs : Cs} {ad : Nat → Nat} {X : va_W} (M : Mm) (a1 : Int32) {res : Option Int32} (hg : gX8_isToken M a1 = res) (hne : res ≠ none) (CX : CallFix p m c cX8_isToken 2 s args wsX8_isToken RX8) (hR : 0 ≤ R.frames ∧ 0 ≤ R.locals) (hK : va_K D vwCl (tysC cs) s) (hSW : SW sw (fun _ => False) s H) (hP : va_P D vwCl (wl cs LM NM ad M ++ X) H) {ls : Array Slot} (hl : lv_has ls 2 [(0, .ref (ad 0)), (1, .int a1)]) (hret : ∀ (pc : Nat) (ls : Array Slot) (v : Int32), some v = res → decode cX8_isToken pc = .ok (.ireturn, 1) → narrow .boolean (.int v) = .int v → W p l e R s m args below meth c H locs 0 0 Q (F0 m pc ls [.int v])) : W p l e R s m args below meth c H locs 0 0 Q (F0 m 0 ls []) := by
  obtain ⟨hx, hb, hml, hown, hts⟩ := id CX
  have hw : ∀ w ∈ WG, w.before args s = true := fun w h => hts w (List.mem_cons_of_mem _ h)
  have lk_9 := hw _ m4_118
  unfold gX8_isToken at hg
  refine lv_aload_n hx hb dX8_isToken_0 rfl (lv_at hl 0 rfl) ?_
  refine m_gr (C := RX8) (T := TX8) (n := 15) (ci := 6) hx hb hts in_RX8 hown hK hP (by decide) rfl rfl 2 (by decide) rfl lk_9 (fun _ h9 => h9) dX8_isToken_1 ?_
  refine lv_iload_n hx hb dX8_isToken_4 rfl (lv_at hl 1 rfl) ?_
  obtain ⟨b1, hg⟩ := ck_e hg hne
  refine m_ld hx hb hK hP (by decide) rfl b1 dX8_isToken_5 ?_
  refine lv_bipush (v := 17) hx hb dX8_isToken_6 (by decide) ?_
  refine lv_icmp_le (tgt := 15) hx hb dX8_isToken_8 (by decide) (fun c2 => ?_) (fun c2 => ?_)
  · have hg := if_t hg c2
    refine lv_iconst (v := 0) hx hb dX8_isToken_15 (by decide) ?_
    exact hret _ _ _ hg dX8_isToken_16 rfl
  · have hg := if_f hg c2
    refine lv_iconst (v := 1) hx hb dX8_isToken_11 (by decide) ?_
    refine lv_goto (tgt := 16) hx hb dX8_isToken_12 (by decide) ?_
    exact hret _ _ _ hg dX8_isToken_16 rfl
theorem ctX8_isToken (l : Launch) (D : va_G) (sw : Sw) (cs : Cs) (ad : Nat → Nat) (X : va_W) (M : Mm) (a1 : Int32) {r : Int32} (hq : gX8_isToken M a1 = some r) : Met l yX8_isToken wsX8_isToken ({ frames := 0, cells := 0, slots := 0, locals := 0 }) (va_Pc [.ref (ad 0), .int a1] (rPre D sw cs LM NM ad M X)) (vp_Si (fun r' => r' = r)) 0 0 (fun _ => False) :=
  met_r rfl rfl (Nat.le_of_ble_eq_true rfl) (fun p e s m args below meth c ls CX hr hlk hK hSW hP hl => bX8_isToken M a1 hq (by simp) CX ⟨Nat.le_refl _, Nat.le_refl _⟩ hK hSW hP hl (fun pc ls v hv dg hz => W.zret (ty := .boolean) CX.1 CX.2.1 hr hz (fun t ht hW => ⟨_, rfl, Option.some.inj hv, ht⟩) (fun _ h => by cases h) dg))

abbrev wsX8_append : List Cond := Cond.code yX8_append cX8_append 2 (some .int) :: WG
def gX8_append (M : Mm) (a1 : Int32) : Option (Int32 × Mm) := if ((M 0 1) < 0 ∨ 80 ≤ ((M 0 1)).toNatClampNeg) then none else lt (um M 1 ((M 0 1)).toNatClampNeg a1) fun M2 => lt (um M2 0 1 ((M2 0 1) + (1 : Int32))) fun M3 => some ((M3 0 1), M3)
set_option maxHeartbeats 4000000 in
set_option maxRecDepth 100000 in
theorem bX8_append {p : Program} {l : Launch} {e : Env} {R : Room} {s : State} {m : MethodId} {args : Array Value} {below : List Frame} {meth : Method} {c : Code} {H : Heap} {locs : List Loc} {Q : State → Prop} {D : va_G} {sw : Sw} {cs : Cs} {ad : Nat → Nat} {X : va_W} {A : Nat → Prop} (M : Mm) (a1 : Int32) {res : Option (Int32 × Mm)} (hg : gX8_append M a1 = res) (hne : res ≠ none) (CX : CallFix p m c cX8_append 2 s args wsX8_append RX8) (hR : 0 ≤ R.frames ∧ 0 ≤ R.locals) (hK : va_K D vwCl (tysC cs) s) (hSW : SW sw A s s.heap) (hP : va_P D vwCl (wl cs LM NM ad M ++ X) H) (hD : va_D A (wl cs LM NM ad M ++ X)) (hS : va_S A s.heap H locs) (hA : ∀ q, s.heap.size ≤ q → A q) {ls : Array Slot} (hl : lv_has ls 2 [(0, .ref (ad 0)), (1, .int a1)]) (hret : ∀ (pc : Nat) (ls : Array Slot) (H : Heap) (locs : List Loc) (v : Int32) (M9 : Mm), some (v, M9) = res → decode cX8_append pc = .ok (.ireturn, 1) → va_P D vwCl (wl cs LM NM ad M9 ++ X) H → va_D A (wl cs LM NM ad M9 ++ X) → va_S A s.heap H locs → W p l e R s m args below meth c H locs 0 0 Q (F0 m pc ls [.int v])) : W p l e R s m args below meth c H locs 0 0 Q (F0 m 0 ls []) := by
  obtain ⟨hx, hb, hml, hown, hts⟩ := id CX
  have hw : ∀ w ∈ WG, w.before args s = true := fun w h => hts w (List.mem_cons_of_mem _ h)
  have lk_9 := hw _ m4_118
  have lk_47 := hw _ m4_117
  unfold gX8_append at hg
  refine lv_aload_n hx hb dX8_append_0 rfl (lv_at hl 0 rfl) ?_
  refine m_gr (C := RX8) (T := TX8) (n := 15) (ci := 6) hx hb hts in_RX8 hown hK hP (by decide) rfl rfl 2 (by decide) rfl lk_9 (fun _ h9 => h9) dX8_append_1 ?_
  refine lv_aload_n hx hb dX8_append_4 rfl (lv_at hl 0 rfl) ?_
  refine m_gi (C := RX8) (T := TX8) (n := 15) (ci := 6) hx hb hts in_RX8 hown hK hP (by decide) rfl rfl 1 (by decide) rfl lk_47 (fun _ h9 => h9) dX8_append_5 ?_
  refine lv_iload_n hx hb dX8_append_8 rfl (lv_at hl 1 rfl) ?_
  obtain ⟨b1, hg⟩ := ck_e hg hne
  obtain ⟨M2, hM2, hg⟩ := lt_e hg
  refine m_st hx hb hK hP hD hS (by decide) rfl b1 dX8_append_9 hM2 (fun H locs hP hD hS => ?_)
  refine lv_aload_n hx hb dX8_append_10 rfl (lv_at hl 0 rfl) ?_
  refine lv_dup hx hb dX8_append_11 rfl ?_
  refine m_gi (C := RX8) (T := TX8) (n := 15) (ci := 6) hx hb hts in_RX8 hown hK hP (by decide) rfl rfl 1 (by decide) rfl lk_47 (fun _ h9 => h9) dX8_append_12 ?_
  refine lv_iconst (v := 1) hx hb dX8_append_15 (by decide) ?_
  refine lv_iadd hx hb dX8_append_16 ?_
  obtain ⟨M3, hM3, hg⟩ := lt_e hg
  refine m_pi (C := RX8) (T := TX8) (n := 15) (ci := 6) hx hb hts in_RX8 tyX8 tyX8_ok nmX8 hown hK hP hD hS (by decide) rfl rfl 1 (by decide) rfl lk_47 (fun _ h9 => h9) rfl rfl rfl dX8_append_17 hM3 (fun H locs hP hD hS => ?_)
  refine lv_aload_n hx hb dX8_append_20 rfl (lv_at hl 0 rfl) ?_
  refine m_gi (C := RX8) (T := TX8) (n := 15) (ci := 6) hx hb hts in_RX8 hown hK hP (by decide) rfl rfl 1 (by decide) rfl lk_47 (fun _ h9 => h9) dX8_append_21 ?_
  exact hret _ _ _ _ _ _ hg dX8_append_24 hP hD hS
theorem ctX8_append (l : Launch) (D : va_G) (sw : Sw) (cs : Cs) (ad : Nat → Nat) (X : va_W) (sz : Nat) (M : Mm) (a1 : Int32) {r : Int32} {M1 : Mm} (hq : gX8_append M a1 = some (r, M1)) : Met l yX8_append wsX8_append ({ frames := 0, cells := 0, slots := 0, locals := 0 }) (va_Pc [.ref (ad 0), .int a1] (wPre D sw cs LM NM ad M X sz)) (wQi D cs LM NM ad M1 X sz r) 0 0 (wA NM ad X sz) :=
  met_w rfl rfl (Nat.le_of_ble_eq_true rfl) (fun p e s m args below meth c ls CX hr hlk hK hSW hP hD hS hA hl => bX8_append M a1 hq (by simp) CX ⟨Nat.le_refl _, Nat.le_refl _⟩ hK hSW hP hD hS hA hl (fun pc ls H locs v M9 hv dg hP hD hS => W.iret CX.1 CX.2.1 hr (fun t ht hW => ⟨⟨_, (), rfl, (Prod.mk.inj (Option.some.inj hv)).1, wpost hP ht (Prod.mk.inj (Option.some.inj hv)).2⟩, hS.F ht⟩) hS.2.2 dg))

abbrev wsX8_whenOf : List Cond := Cond.code yX8_whenOf cX8_whenOf 4 (some .int) :: WG
def gX8_whenOf_L6 (M : Mm) (a1 : Int32) : Nat → Int32 → Int32 → Option Int32
  | 0, _, _ => none
  | n3 + 1, x1, x2 => if x2 < 0 then (some (-1 : Int32)) else if (x2 < 0 ∨ 80 ≤ (x2).toNatClampNeg) then none else lt (fun (x7 : Int32) (x8 : Int32) => if (x8 < 0 ∨ 80 ≤ (x8).toNatClampNeg) then none else if (8 : Int32) ≤ (M 1 (x8).toNatClampNeg) then (if (x8 < 0 ∨ 80 ≤ (x8).toNatClampNeg) then none else if (8 : Int32) ≤ (M 1 (x8).toNatClampNeg) then (lt (x8 + (-1 : Int32)) fun x14 => gX8_whenOf_L6 M a1 n3 x7 x14) else lt (x7 + (-1 : Int32)) fun x15 => lt (x8 + (-1 : Int32)) fun x16 => gX8_whenOf_L6 M a1 n3 x15 x16) else if x7 = 0 then (some x8) else if (x8 < 0 ∨ 80 ≤ (x8).toNatClampNeg) then none else if (8 : Int32) ≤ (M 1 (x8).toNatClampNeg) then (lt (x8 + (-1 : Int32)) fun x20 => gX8_whenOf_L6 M a1 n3 x7 x20) else lt (x7 + (-1 : Int32)) fun x21 => lt (x8 + (-1 : Int32)) fun x22 => gX8_whenOf_L6 M a1 n3 x21 x22) fun J9 => if (M 1 (x2).toNatClampNeg) = (17 : Int32) then (lt (x1 + (1 : Int32)) fun x23 => J9 x23 x2) else J9 x1 x2
def gX8_whenOf (M : Mm) (a1 : Int32) : Option Int32 := gX8_whenOf_L6 M a1 FU (0 : Int32) (a1 - (1 : Int32))
set_option maxHeartbeats 4000000 in
set_option maxRecDepth 100000 in
theorem bX8_whenOf {p : Program} {l : Launch} {e : Env} {R : Room} {s : State} {m : MethodId} {args : Array Value} {below : List Frame} {meth : Method} {c : Code} {H : Heap} {locs : List Loc} {Q : State → Prop} {D : va_G} {sw : Sw} {cs : Cs} {ad : Nat → Nat} {X : va_W} (M : Mm) (a1 : Int32) {res : Option Int32} (hg : gX8_whenOf M a1 = res) (hne : res ≠ none) (CX : CallFix p m c cX8_whenOf 4 s args wsX8_whenOf RX8) (hR : 0 ≤ R.frames ∧ 0 ≤ R.locals) (hK : va_K D vwCl (tysC cs) s) (hSW : SW sw (fun _ => False) s H) (hP : va_P D vwCl (wl cs LM NM ad M ++ X) H) {ls : Array Slot} (hl : lv_has ls 4 [(0, .ref (ad 0)), (1, .int a1)]) (hret : ∀ (pc : Nat) (ls : Array Slot) (v : Int32), some v = res → decode cX8_whenOf pc = .ok (.ireturn, 1) → W p l e R s m args below meth c H locs 0 0 Q (F0 m pc ls [.int v])) : W p l e R s m args below meth c H locs 0 0 Q (F0 m 0 ls []) := by
  obtain ⟨hx, hb, hml, hown, hts⟩ := id CX
  have hw : ∀ w ∈ WG, w.before args s = true := fun w h => hts w (List.mem_cons_of_mem _ h)
  have lk_9 := hw _ m4_118
  unfold gX8_whenOf at hg
  refine lv_iconst (v := 0) hx hb dX8_whenOf_0 (by decide) ?_
  refine lv_istore_n (lv' := [(2, .int (0 : Int32)), (0, .ref (ad 0)), (1, .int a1)]) hx hb dX8_whenOf_1 rfl hl (by decide) rfl (fun ls hl => ?_)
  refine lv_iload_n hx hb dX8_whenOf_2 rfl (lv_at hl 2 rfl) ?_
  refine lv_iconst (v := 1) hx hb dX8_whenOf_3 (by decide) ?_
  refine lv_isub hx hb dX8_whenOf_4 ?_
  refine lv_istore_n (lv' := [(3, .int (a1 - (1 : Int32))), (2, .int (0 : Int32)), (0, .ref (ad 0)), (1, .int a1)]) hx hb dX8_whenOf_5 rfl hl (by decide) rfl (fun ls hl => ?_)
  have kL6_24 : ∀ (n3 : Nat) (x1 : Int32) (x2 : Int32) (ls : Array Slot), lv_has ls 4 [(0, .ref (ad 0)), (2, .int x1), (3, .int x2)] → gX8_whenOf_L6 M a1 n3 x1 x2 = res → W p l e R s m args below meth c H locs 0 0 Q (F0 m 6 ls []) := by
    intro n3
    induction n3 with
    | zero =>
      intro x1 x2 ls hl hg
      rw [gX8_whenOf_L6] at hg
      exact absurd hg.symm hne
    | succ n3 ih =>
      intro x1 x2 ls hl hg
      rw [gX8_whenOf_L6] at hg
      refine lv_iload_n hx hb dX8_whenOf_6 rfl (lv_at hl 2 rfl) ?_
      refine lv_if_lt (tgt := 61) hx hb dX8_whenOf_7 (by decide) (fun c4 => ?_) (fun c4 => ?_)
      · have hg := if_t hg c4
        refine lv_iconst (v := -1) hx hb dX8_whenOf_61 (by decide) ?_
        exact hret _ _ _ hg dX8_whenOf_62
      · have hg := if_f hg c4
        refine lv_aload_n hx hb dX8_whenOf_10 rfl (lv_at hl 0 rfl) ?_
        refine m_gr (C := RX8) (T := TX8) (n := 15) (ci := 6) hx hb hts in_RX8 hown hK hP (by decide) rfl rfl 2 (by decide) rfl lk_9 (fun _ h9 => h9) dX8_whenOf_11 ?_
        refine lv_iload_n hx hb dX8_whenOf_14 rfl (lv_at hl 2 rfl) ?_
        obtain ⟨b5, hg⟩ := ck_e hg hne
        refine m_ld hx hb hK hP (by decide) rfl b5 dX8_whenOf_15 ?_
        refine lv_bipush (v := 17) hx hb dX8_whenOf_16 (by decide) ?_
        obtain ⟨J9, hJ9, hg⟩ := lf2 hg
        have kJ9 : ∀ (x7 : Int32) (x8 : Int32) (ls : Array Slot), lv_has ls 4 [(0, .ref (ad 0)), (2, .int x7), (3, .int x8)] → J9 x7 x8 = res → W p l e R s m args below meth c H locs 0 0 Q (F0 m 24 ls []) := by
          intro x7 x8 ls hl hg
          rw [hJ9] at hg
          refine lv_aload_n hx hb dX8_whenOf_24 rfl (lv_at hl 0 rfl) ?_
          refine m_gr (C := RX8) (T := TX8) (n := 15) (ci := 6) hx hb hts in_RX8 hown hK hP (by decide) rfl rfl 2 (by decide) rfl lk_9 (fun _ h9 => h9) dX8_whenOf_25 ?_
          refine lv_iload_n hx hb dX8_whenOf_28 rfl (lv_at hl 2 rfl) ?_
          obtain ⟨b10, hg⟩ := ck_e hg hne
          refine m_ld hx hb hK hP (by decide) rfl b10 dX8_whenOf_29 ?_
          refine lv_bipush (v := 8) hx hb dX8_whenOf_30 (by decide) ?_
          refine lv_icmp_ge (tgt := 41) hx hb dX8_whenOf_32 (by decide) (fun c11 => ?_) (fun c11 => ?_)
          · have hg := if_t hg c11
            refine lv_aload_n hx hb dX8_whenOf_41 rfl (lv_at hl 0 rfl) ?_
            refine m_gr (C := RX8) (T := TX8) (n := 15) (ci := 6) hx hb hts in_RX8 hown hK hP (by decide) rfl rfl 2 (by decide) rfl lk_9 (fun _ h9 => h9) dX8_whenOf_42 ?_
            refine lv_iload_n hx hb dX8_whenOf_45 rfl (lv_at hl 2 rfl) ?_
            obtain ⟨b12, hg⟩ := ck_e hg hne
            refine m_ld hx hb hK hP (by decide) rfl b12 dX8_whenOf_46 ?_
            refine lv_bipush (v := 8) hx hb dX8_whenOf_47 (by decide) ?_
            refine lv_icmp_ge (tgt := 55) hx hb dX8_whenOf_49 (by decide) (fun c13 => ?_) (fun c13 => ?_)
            · have hg := if_t hg c13
              obtain ⟨x14, hx14, hg⟩ := lt_e hg
              refine lv_iinc (v := x14) (lv' := [(3, .int x14), (0, .ref (ad 0)), (2, .int x7)]) hx hb dX8_whenOf_55 hl (k := 2) rfl (hx14.symm) (by decide) rfl (fun ls hl => ?_)
              refine lv_goto (tgt := 6) hx hb dX8_whenOf_58 (by decide) ?_
              exact ih _ _ _ (lv_sub hl [1, 2, 0] rfl) hg
            · have hg := if_f hg c13
              obtain ⟨x15, hx15, hg⟩ := lt_e hg
              refine lv_iinc (v := x15) (lv' := [(2, .int x15), (0, .ref (ad 0)), (3, .int x8)]) hx hb dX8_whenOf_52 hl (k := 1) rfl (hx15.symm) (by decide) rfl (fun ls hl => ?_)
              obtain ⟨x16, hx16, hg⟩ := lt_e hg
              refine lv_iinc (v := x16) (lv' := [(3, .int x16), (2, .int x15), (0, .ref (ad 0))]) hx hb dX8_whenOf_55 hl (k := 2) rfl (hx16.symm) (by decide) rfl (fun ls hl => ?_)
              refine lv_goto (tgt := 6) hx hb dX8_whenOf_58 (by decide) ?_
              exact ih _ _ _ (lv_sub hl [2, 1, 0] rfl) hg
          · have hg := if_f hg c11
            refine lv_iload_n hx hb dX8_whenOf_35 rfl (lv_at hl 1 rfl) ?_
            refine lv_if_ne (tgt := 41) hx hb dX8_whenOf_36 (by decide) (fun c17 => ?_) (fun c17 => ?_)
            · have hg := if_f hg c17
              refine lv_aload_n hx hb dX8_whenOf_41 rfl (lv_at hl 0 rfl) ?_
              refine m_gr (C := RX8) (T := TX8) (n := 15) (ci := 6) hx hb hts in_RX8 hown hK hP (by decide) rfl rfl 2 (by decide) rfl lk_9 (fun _ h9 => h9) dX8_whenOf_42 ?_
              refine lv_iload_n hx hb dX8_whenOf_45 rfl (lv_at hl 2 rfl) ?_
              obtain ⟨b18, hg⟩ := ck_e hg hne
              refine m_ld hx hb hK hP (by decide) rfl b18 dX8_whenOf_46 ?_
              refine lv_bipush (v := 8) hx hb dX8_whenOf_47 (by decide) ?_
              refine lv_icmp_ge (tgt := 55) hx hb dX8_whenOf_49 (by decide) (fun c19 => ?_) (fun c19 => ?_)
              · have hg := if_t hg c19
                obtain ⟨x20, hx20, hg⟩ := lt_e hg
                refine lv_iinc (v := x20) (lv' := [(3, .int x20), (0, .ref (ad 0)), (2, .int x7)]) hx hb dX8_whenOf_55 hl (k := 2) rfl (hx20.symm) (by decide) rfl (fun ls hl => ?_)
                refine lv_goto (tgt := 6) hx hb dX8_whenOf_58 (by decide) ?_
                exact ih _ _ _ (lv_sub hl [1, 2, 0] rfl) hg
              · have hg := if_f hg c19
                obtain ⟨x21, hx21, hg⟩ := lt_e hg
                refine lv_iinc (v := x21) (lv' := [(2, .int x21), (0, .ref (ad 0)), (3, .int x8)]) hx hb dX8_whenOf_52 hl (k := 1) rfl (hx21.symm) (by decide) rfl (fun ls hl => ?_)
                obtain ⟨x22, hx22, hg⟩ := lt_e hg
                refine lv_iinc (v := x22) (lv' := [(3, .int x22), (2, .int x21), (0, .ref (ad 0))]) hx hb dX8_whenOf_55 hl (k := 2) rfl (hx22.symm) (by decide) rfl (fun ls hl => ?_)
                refine lv_goto (tgt := 6) hx hb dX8_whenOf_58 (by decide) ?_
                exact ih _ _ _ (lv_sub hl [2, 1, 0] rfl) hg
            · have hg := if_t hg c17
              refine lv_iload_n hx hb dX8_whenOf_39 rfl (lv_at hl 2 rfl) ?_
              exact hret _ _ _ hg dX8_whenOf_40
        refine lv_icmp_ne (tgt := 24) hx hb dX8_whenOf_18 (by decide) (fun c6 => ?_) (fun c6 => ?_)
        · have hg := if_f hg c6
          exact kJ9 _ _ _ (lv_sub hl [0, 1, 2] rfl) hg
        · have hg := if_t hg c6
          obtain ⟨x23, hx23, hg⟩ := lt_e hg
          refine lv_iinc (v := x23) (lv' := [(2, .int x23), (0, .ref (ad 0)), (3, .int x2)]) hx hb dX8_whenOf_21 hl (k := 1) rfl (hx23.symm) (by decide) rfl (fun ls hl => ?_)
          exact kJ9 _ _ _ (lv_sub hl [1, 0, 2] rfl) hg
  exact kL6_24 FU _ _ _ (lv_sub hl [2, 1, 0] rfl) hg
theorem ctX8_whenOf (l : Launch) (D : va_G) (sw : Sw) (cs : Cs) (ad : Nat → Nat) (X : va_W) (M : Mm) (a1 : Int32) {r : Int32} (hq : gX8_whenOf M a1 = some r) : Met l yX8_whenOf wsX8_whenOf ({ frames := 0, cells := 0, slots := 0, locals := 0 }) (va_Pc [.ref (ad 0), .int a1] (rPre D sw cs LM NM ad M X)) (vp_Si (fun r' => r' = r)) 0 0 (fun _ => False) :=
  met_r rfl rfl (Nat.le_of_ble_eq_true rfl) (fun p e s m args below meth c ls CX hr hlk hK hSW hP hl => bX8_whenOf M a1 hq (by simp) CX ⟨Nat.le_refl _, Nat.le_refl _⟩ hK hSW hP hl (fun pc ls v hv dg => W.iret CX.1 CX.2.1 hr (fun t ht hW => ⟨_, rfl, Option.some.inj hv, ht⟩) (fun _ h => by cases h) dg))

abbrev wsX8_openCount : List Cond := Cond.code yX8_openCount cX8_openCount 3 (some .int) :: WG
def gX8_openCount_L4 (M : Mm) : Nat → Int32 → Int32 → Option Int32
  | 0, _, _ => none
  | n3 + 1, x1, x2 => if (M 0 1) ≤ x2 then (some x1) else if (x2 < 0 ∨ 80 ≤ (x2).toNatClampNeg) then none else if (8 : Int32) ≤ (M 1 (x2).toNatClampNeg) then (if (x2 < 0 ∨ 80 ≤ (x2).toNatClampNeg) then none else if (M 1 (x2).toNatClampNeg) = (17 : Int32) then (lt (x2 + (1 : Int32)) fun x10 => gX8_openCount_L4 M n3 (x1 + (-1 : Int32)) x10) else lt (x2 + (1 : Int32)) fun x9 => gX8_openCount_L4 M n3 (x1 + (0 : Int32)) x9) else lt (x2 + (1 : Int32)) fun x11 => gX8_openCount_L4 M n3 (x1 + (1 : Int32)) x11
def gX8_openCount (M : Mm) : Option Int32 := gX8_openCount_L4 M FU (0 : Int32) (0 : Int32)
set_option maxHeartbeats 4000000 in
set_option maxRecDepth 100000 in
theorem bX8_openCount {p : Program} {l : Launch} {e : Env} {R : Room} {s : State} {m : MethodId} {args : Array Value} {below : List Frame} {meth : Method} {c : Code} {H : Heap} {locs : List Loc} {Q : State → Prop} {D : va_G} {sw : Sw} {cs : Cs} {ad : Nat → Nat} {X : va_W} (M : Mm) {res : Option Int32} (hg : gX8_openCount M = res) (hne : res ≠ none) (CX : CallFix p m c cX8_openCount 3 s args wsX8_openCount RX8) (hR : 0 ≤ R.frames ∧ 0 ≤ R.locals) (hK : va_K D vwCl (tysC cs) s) (hSW : SW sw (fun _ => False) s H) (hP : va_P D vwCl (wl cs LM NM ad M ++ X) H) {ls : Array Slot} (hl : lv_has ls 3 [(0, .ref (ad 0))]) (hret : ∀ (pc : Nat) (ls : Array Slot) (v : Int32), some v = res → decode cX8_openCount pc = .ok (.ireturn, 1) → W p l e R s m args below meth c H locs 0 0 Q (F0 m pc ls [.int v])) : W p l e R s m args below meth c H locs 0 0 Q (F0 m 0 ls []) := by
  obtain ⟨hx, hb, hml, hown, hts⟩ := id CX
  have hw : ∀ w ∈ WG, w.before args s = true := fun w h => hts w (List.mem_cons_of_mem _ h)
  have lk_47 := hw _ m4_117
  have lk_9 := hw _ m4_118
  unfold gX8_openCount at hg
  refine lv_iconst (v := 0) hx hb dX8_openCount_0 (by decide) ?_
  refine lv_istore_n (lv' := [(1, .int (0 : Int32)), (0, .ref (ad 0))]) hx hb dX8_openCount_1 rfl hl (by decide) rfl (fun ls hl => ?_)
  refine lv_iconst (v := 0) hx hb dX8_openCount_2 (by decide) ?_
  refine lv_istore_n (lv' := [(2, .int (0 : Int32)), (1, .int (0 : Int32)), (0, .ref (ad 0))]) hx hb dX8_openCount_3 rfl hl (by decide) rfl (fun ls hl => ?_)
  have kL4_12 : ∀ (n3 : Nat) (x1 : Int32) (x2 : Int32) (ls : Array Slot), lv_has ls 3 [(0, .ref (ad 0)), (1, .int x1), (2, .int x2)] → gX8_openCount_L4 M n3 x1 x2 = res → W p l e R s m args below meth c H locs 0 0 Q (F0 m 4 ls []) := by
    intro n3
    induction n3 with
    | zero =>
      intro x1 x2 ls hl hg
      rw [gX8_openCount_L4] at hg
      exact absurd hg.symm hne
    | succ n3 ih =>
      intro x1 x2 ls hl hg
      rw [gX8_openCount_L4] at hg
      refine lv_iload_n hx hb dX8_openCount_4 rfl (lv_at hl 2 rfl) ?_
      refine lv_aload_n hx hb dX8_openCount_5 rfl (lv_at hl 0 rfl) ?_
      refine m_gi (C := RX8) (T := TX8) (n := 15) (ci := 6) hx hb hts in_RX8 hown hK hP (by decide) rfl rfl 1 (by decide) rfl lk_47 (fun _ h9 => h9) dX8_openCount_6 ?_
      refine lv_icmp_ge (tgt := 52) hx hb dX8_openCount_9 (by decide) (fun c4 => ?_) (fun c4 => ?_)
      · have hg := if_t hg c4
        refine lv_iload_n hx hb dX8_openCount_52 rfl (lv_at hl 1 rfl) ?_
        exact hret _ _ _ hg dX8_openCount_53
      · have hg := if_f hg c4
        refine lv_iload_n hx hb dX8_openCount_12 rfl (lv_at hl 1 rfl) ?_
        refine lv_aload_n hx hb dX8_openCount_13 rfl (lv_at hl 0 rfl) ?_
        refine m_gr (C := RX8) (T := TX8) (n := 15) (ci := 6) hx hb hts in_RX8 hown hK hP (by decide) rfl rfl 2 (by decide) rfl lk_9 (fun _ h9 => h9) dX8_openCount_14 ?_
        refine lv_iload_n hx hb dX8_openCount_17 rfl (lv_at hl 2 rfl) ?_
        obtain ⟨b5, hg⟩ := ck_e hg hne
        refine m_ld hx hb hK hP (by decide) rfl b5 dX8_openCount_18 ?_
        refine lv_bipush (v := 8) hx hb dX8_openCount_19 (by decide) ?_
        refine lv_icmp_ge (tgt := 28) hx hb dX8_openCount_21 (by decide) (fun c6 => ?_) (fun c6 => ?_)
        · have hg := if_t hg c6
          refine lv_aload_n hx hb dX8_openCount_28 rfl (lv_at hl 0 rfl) ?_
          refine m_gr (C := RX8) (T := TX8) (n := 15) (ci := 6) hx hb hts in_RX8 hown hK hP (by decide) rfl rfl 2 (by decide) rfl lk_9 (fun _ h9 => h9) dX8_openCount_29 ?_
          refine lv_iload_n hx hb dX8_openCount_32 rfl (lv_at hl 2 rfl) ?_
          obtain ⟨b7, hg⟩ := ck_e hg hne
          refine m_ld hx hb hK hP (by decide) rfl b7 dX8_openCount_33 ?_
          refine lv_bipush (v := 17) hx hb dX8_openCount_34 (by decide) ?_
          refine lv_icmp_ne (tgt := 43) hx hb dX8_openCount_36 (by decide) (fun c8 => ?_) (fun c8 => ?_)
          · have hg := if_f hg c8
            refine lv_iconst (v := 0) hx hb dX8_openCount_43 (by decide) ?_
            refine lv_iadd hx hb dX8_openCount_44 ?_
            refine lv_istore_n (lv' := [(1, .int (x1 + (0 : Int32))), (0, .ref (ad 0)), (2, .int x2)]) hx hb dX8_openCount_45 rfl hl (by decide) rfl (fun ls hl => ?_)
            obtain ⟨x9, hx9, hg⟩ := lt_e hg
            refine lv_iinc (v := x9) (lv' := [(2, .int x9), (1, .int (x1 + (0 : Int32))), (0, .ref (ad 0))]) hx hb dX8_openCount_46 hl (k := 2) rfl (hx9.symm) (by decide) rfl (fun ls hl => ?_)
            refine lv_goto (tgt := 4) hx hb dX8_openCount_49 (by decide) ?_
            exact ih _ _ _ (lv_sub hl [2, 1, 0] rfl) hg
          · have hg := if_t hg c8
            refine lv_iconst (v := -1) hx hb dX8_openCount_39 (by decide) ?_
            refine lv_goto (tgt := 44) hx hb dX8_openCount_40 (by decide) ?_
            refine lv_iadd hx hb dX8_openCount_44 ?_
            refine lv_istore_n (lv' := [(1, .int (x1 + (-1 : Int32))), (0, .ref (ad 0)), (2, .int x2)]) hx hb dX8_openCount_45 rfl hl (by decide) rfl (fun ls hl => ?_)
            obtain ⟨x10, hx10, hg⟩ := lt_e hg
            refine lv_iinc (v := x10) (lv' := [(2, .int x10), (1, .int (x1 + (-1 : Int32))), (0, .ref (ad 0))]) hx hb dX8_openCount_46 hl (k := 2) rfl (hx10.symm) (by decide) rfl (fun ls hl => ?_)
            refine lv_goto (tgt := 4) hx hb dX8_openCount_49 (by decide) ?_
            exact ih _ _ _ (lv_sub hl [2, 1, 0] rfl) hg
        · have hg := if_f hg c6
          refine lv_iconst (v := 1) hx hb dX8_openCount_24 (by decide) ?_
          refine lv_goto (tgt := 44) hx hb dX8_openCount_25 (by decide) ?_
          refine lv_iadd hx hb dX8_openCount_44 ?_
          refine lv_istore_n (lv' := [(1, .int (x1 + (1 : Int32))), (0, .ref (ad 0)), (2, .int x2)]) hx hb dX8_openCount_45 rfl hl (by decide) rfl (fun ls hl => ?_)
          obtain ⟨x11, hx11, hg⟩ := lt_e hg
          refine lv_iinc (v := x11) (lv' := [(2, .int x11), (1, .int (x1 + (1 : Int32))), (0, .ref (ad 0))]) hx hb dX8_openCount_46 hl (k := 2) rfl (hx11.symm) (by decide) rfl (fun ls hl => ?_)
          refine lv_goto (tgt := 4) hx hb dX8_openCount_49 (by decide) ?_
          exact ih _ _ _ (lv_sub hl [2, 1, 0] rfl) hg
  exact kL4_12 FU _ _ _ (lv_sub hl [2, 1, 0] rfl) hg
theorem ctX8_openCount (l : Launch) (D : va_G) (sw : Sw) (cs : Cs) (ad : Nat → Nat) (X : va_W) (M : Mm) {r : Int32} (hq : gX8_openCount M = some r) : Met l yX8_openCount wsX8_openCount ({ frames := 0, cells := 0, slots := 0, locals := 0 }) (va_Pc [.ref (ad 0)] (rPre D sw cs LM NM ad M X)) (vp_Si (fun r' => r' = r)) 0 0 (fun _ => False) :=
  met_r rfl rfl (Nat.le_of_ble_eq_true rfl) (fun p e s m args below meth c ls CX hr hlk hK hSW hP hl => bX8_openCount M hq (by simp) CX ⟨Nat.le_refl _, Nat.le_refl _⟩ hK hSW hP hl (fun pc ls v hv dg => W.iret CX.1 CX.2.1 hr (fun t ht hW => ⟨_, rfl, Option.some.inj hv, ht⟩) (fun _ h => by cases h) dg))

abbrev wsX8_when : List Cond := Cond.code yX8_when cX8_when 3 (some .int) :: WG
def gX8_when (M : Mm) (a1 : Int32) (a2 : Int32) : Option (Int32 × Mm) := lt (um M 0 0 (0 : Int32)) fun M1 => if (gX8_isFeature a1) = 0 then (bd2 (gX8_no M1 (1 : Int32)) fun r22 M21 => some (r22, M21)) else if (M1 0 1) = (80 : Int32) then (bd2 (gX8_no M1 (2 : Int32)) fun r6 M5 => some (r6, M5)) else bd (gX8_openCount M1 ) fun r7 => if r7 = (5 : Int32) then (bd2 (gX8_no M1 (2 : Int32)) fun r19 M18 => some (r19, M18)) else if a2 = 0 then (bd2 (gX8_append M1 (((2 : Int32) * a1) + (0 : Int32))) fun r13 M12 => some (r13, M12)) else bd2 (gX8_append M1 (((2 : Int32) * a1) + (1 : Int32))) fun r16 M15 => some (r16, M15)
set_option maxHeartbeats 4000000 in
set_option maxRecDepth 100000 in
theorem bX8_when {p : Program} {l : Launch} {e : Env} {R : Room} {s : State} {m : MethodId} {args : Array Value} {below : List Frame} {meth : Method} {c : Code} {H : Heap} {locs : List Loc} {Q : State → Prop} {D : va_G} {sw : Sw} {cs : Cs} {ad : Nat → Nat} {X : va_W} {A : Nat → Prop} (M : Mm) (a1 : Int32) (a2 : Int32) {res : Option (Int32 × Mm)} (hg : gX8_when M a1 a2 = res) (hne : res ≠ none) (CX : CallFix p m c cX8_when 3 s args wsX8_when RX8) (hR : 2 ≤ R.frames ∧ 42 ≤ R.locals) (hK : va_K D vwCl (tysC cs) s) (hSW : SW sw A s s.heap) (hP : va_P D vwCl (wl cs LM NM ad M ++ X) H) (hD : va_D A (wl cs LM NM ad M ++ X)) (hS : va_S A s.heap H locs) (hA : ∀ q, s.heap.size ≤ q → A q) {ls : Array Slot} (hl : lv_has ls 3 [(0, .ref (ad 0)), (1, .int a1), (2, .int a2)]) (hret : ∀ (pc : Nat) (ls : Array Slot) (H : Heap) (locs : List Loc) (v : Int32) (M9 : Mm), some (v, M9) = res → decode cX8_when pc = .ok (.ireturn, 1) → va_P D vwCl (wl cs LM NM ad M9 ++ X) H → va_D A (wl cs LM NM ad M9 ++ X) → va_S A s.heap H locs → W p l e R s m args below meth c H locs 0 0 Q (F0 m pc ls [.int v])) : W p l e R s m args below meth c H locs 0 0 Q (F0 m 0 ls []) := by
  obtain ⟨hx, hb, hml, hown, hts⟩ := id CX
  have hw : ∀ w ∈ WG, w.before args s = true := fun w h => hts w (List.mem_cons_of_mem _ h)
  have lk_43 := hw _ m4_116
  have lk_47 := hw _ m4_117
  unfold gX8_when at hg
  refine lv_aload_n hx hb dX8_when_0 rfl (lv_at hl 0 rfl) ?_
  refine lv_iconst (v := 0) hx hb dX8_when_1 (by decide) ?_
  obtain ⟨M1, hM1, hg⟩ := lt_e hg
  refine m_pi (C := RX8) (T := TX8) (n := 15) (ci := 6) hx hb hts in_RX8 tyX8 tyX8_ok nmX8 hown hK hP hD hS (by decide) rfl rfl 0 (by decide) rfl lk_43 (fun _ h9 => h9) rfl rfl rfl dX8_when_2 hM1 (fun H locs hP hD hS => ?_)
  refine lv_iload_n hx hb dX8_when_5 rfl (lv_at hl 1 rfl) ?_
  refine r_calli (W.runS (As := [.int a1]) (rest := []) CX (ctX8_isFeature l a1) (va_cwS 1 hts (gwS m5_4 m5_5 m1_7 m5_6) rfl rfl rfl (by decide +kernel) ⟨Nat.le_trans (Nat.le_of_ble_eq_true rfl) hR.1, Nat.le_trans (Nat.le_of_ble_eq_true rfl) hR.2⟩) (pPreS _) rfl rfl hl.1 rfl (lv_room (Nat.le_of_ble_eq_true rfl)) dX8_when_6 ⟨Nat.zero_le _, Nat.zero_le _⟩) ?_
  refine lv_if_ne (tgt := 18) hx hb dX8_when_9 (by decide) (fun c2 => ?_) (fun c2 => ?_)
  · have hg := if_f hg c2
    refine lv_aload_n hx hb dX8_when_18 rfl (lv_at hl 0 rfl) ?_
    refine m_gi (C := RX8) (T := TX8) (n := 15) (ci := 6) hx hb hts in_RX8 hown hK hP (by decide) rfl rfl 1 (by decide) rfl lk_47 (fun _ h9 => h9) dX8_when_19 ?_
    refine lv_bipush (v := 80) hx hb dX8_when_22 (by decide) ?_
    refine lv_icmp_eq (tgt := 35) hx hb dX8_when_24 (by decide) (fun c3 => ?_) (fun c3 => ?_)
    · have hg := if_t hg c3
      refine lv_aload_n hx hb dX8_when_35 rfl (lv_at hl 0 rfl) ?_
      refine lv_iconst (v := 2) hx hb dX8_when_36 (by decide) ?_
      obtain ⟨r6, M5, q4, hg⟩ := bd2_e hg hne
      refine w_calli (va_runV (As := [.int (2 : Int32)]) (rest := []) CX (ctX8_no l D sw cs ad X H.size M1 (2 : Int32) q4) (cwV 1 hts (gwV m4_232 m4_234 mp3_4 m1_7 m4_235) rfl rfl rfl (by decide +kernel) ⟨Nat.le_trans (Nat.le_of_ble_eq_true rfl) hR.1, Nat.le_trans (Nat.le_of_ble_eq_true rfl) hR.2⟩) (wPreV hSW hS hA hK hP hD (by decide) rfl rfl _) rfl rfl hl.1 rfl (lv_room (Nat.le_of_ble_eq_true rfl)) dX8_when_37 ⟨Nat.zero_le _, Nat.zero_le _⟩) hD hS hA (fun H locs hP hD hS => ?_)
      refine lv_goto (tgt := 60) hx hb dX8_when_40 (by decide) ?_
      exact hret _ _ _ _ _ _ hg dX8_when_60 hP hD hS
    · have hg := if_f hg c3
      refine lv_aload_n hx hb dX8_when_27 rfl (lv_at hl 0 rfl) ?_
      obtain ⟨r7, q8, hg⟩ := bd_e hg hne
      refine r_calli (W.runV (As := []) (rest := []) CX (ctX8_openCount l D sw cs ad X M1  q8) (cwV 0 hts (gwV m5_10 m5_12 mp3_6 m1_7 m5_13) rfl rfl rfl (by decide +kernel) ⟨Nat.le_trans (Nat.le_of_ble_eq_true rfl) hR.1, Nat.le_trans (Nat.le_of_ble_eq_true rfl) hR.2⟩) (rPreV (hSW.wr hS) hK hP (by decide) rfl rfl _) rfl rfl hl.1 rfl (lv_room (Nat.le_of_ble_eq_true rfl)) dX8_when_28 ⟨Nat.zero_le _, Nat.zero_le _⟩) ?_
      refine lv_iconst (v := 5) hx hb dX8_when_31 (by decide) ?_
      refine lv_icmp_ne (tgt := 43) hx hb dX8_when_32 (by decide) (fun c9 => ?_) (fun c9 => ?_)
      · have hg := if_f hg c9
        refine lv_aload_n hx hb dX8_when_43 rfl (lv_at hl 0 rfl) ?_
        refine lv_iconst (v := 2) hx hb dX8_when_44 (by decide) ?_
        refine lv_iload_n hx hb dX8_when_45 rfl (lv_at hl 1 rfl) ?_
        refine lv_imul hx hb dX8_when_46 ?_
        refine lv_iload_n hx hb dX8_when_47 rfl (lv_at hl 2 rfl) ?_
        refine lv_if_eq (tgt := 55) hx hb dX8_when_48 (by decide) (fun c10 => ?_) (fun c10 => ?_)
        · have hg := if_t hg c10
          refine lv_iconst (v := 0) hx hb dX8_when_55 (by decide) ?_
          refine lv_iadd hx hb dX8_when_56 ?_
          obtain ⟨r13, M12, q11, hg⟩ := bd2_e hg hne
          refine w_calli (va_runV (As := [.int (((2 : Int32) * a1) + (0 : Int32))]) (rest := []) CX (ctX8_append l D sw cs ad X H.size M1 (((2 : Int32) * a1) + (0 : Int32)) q11) (cwV 1 hts (gwV m4_236 m4_238 mp3_5 m1_7 m4_239) rfl rfl rfl (by decide +kernel) ⟨Nat.le_trans (Nat.le_of_ble_eq_true rfl) hR.1, Nat.le_trans (Nat.le_of_ble_eq_true rfl) hR.2⟩) (wPreV hSW hS hA hK hP hD (by decide) rfl rfl _) rfl rfl hl.1 rfl (lv_room (Nat.le_of_ble_eq_true rfl)) dX8_when_57 ⟨Nat.zero_le _, Nat.zero_le _⟩) hD hS hA (fun H locs hP hD hS => ?_)
          exact hret _ _ _ _ _ _ hg dX8_when_60 hP hD hS
        · have hg := if_f hg c10
          refine lv_iconst (v := 1) hx hb dX8_when_51 (by decide) ?_
          refine lv_goto (tgt := 56) hx hb dX8_when_52 (by decide) ?_
          refine lv_iadd hx hb dX8_when_56 ?_
          obtain ⟨r16, M15, q14, hg⟩ := bd2_e hg hne
          refine w_calli (va_runV (As := [.int (((2 : Int32) * a1) + (1 : Int32))]) (rest := []) CX (ctX8_append l D sw cs ad X H.size M1 (((2 : Int32) * a1) + (1 : Int32)) q14) (cwV 1 hts (gwV m4_236 m4_238 mp3_5 m1_7 m4_239) rfl rfl rfl (by decide +kernel) ⟨Nat.le_trans (Nat.le_of_ble_eq_true rfl) hR.1, Nat.le_trans (Nat.le_of_ble_eq_true rfl) hR.2⟩) (wPreV hSW hS hA hK hP hD (by decide) rfl rfl _) rfl rfl hl.1 rfl (lv_room (Nat.le_of_ble_eq_true rfl)) dX8_when_57 ⟨Nat.zero_le _, Nat.zero_le _⟩) hD hS hA (fun H locs hP hD hS => ?_)
          exact hret _ _ _ _ _ _ hg dX8_when_60 hP hD hS
      · have hg := if_t hg c9
        refine lv_aload_n hx hb dX8_when_35 rfl (lv_at hl 0 rfl) ?_
        refine lv_iconst (v := 2) hx hb dX8_when_36 (by decide) ?_
        obtain ⟨r19, M18, q17, hg⟩ := bd2_e hg hne
        refine w_calli (va_runV (As := [.int (2 : Int32)]) (rest := []) CX (ctX8_no l D sw cs ad X H.size M1 (2 : Int32) q17) (cwV 1 hts (gwV m4_232 m4_234 mp3_4 m1_7 m4_235) rfl rfl rfl (by decide +kernel) ⟨Nat.le_trans (Nat.le_of_ble_eq_true rfl) hR.1, Nat.le_trans (Nat.le_of_ble_eq_true rfl) hR.2⟩) (wPreV hSW hS hA hK hP hD (by decide) rfl rfl _) rfl rfl hl.1 rfl (lv_room (Nat.le_of_ble_eq_true rfl)) dX8_when_37 ⟨Nat.zero_le _, Nat.zero_le _⟩) hD hS hA (fun H locs hP hD hS => ?_)
        refine lv_goto (tgt := 60) hx hb dX8_when_40 (by decide) ?_
        exact hret _ _ _ _ _ _ hg dX8_when_60 hP hD hS
  · have hg := if_t hg c2
    refine lv_aload_n hx hb dX8_when_12 rfl (lv_at hl 0 rfl) ?_
    refine lv_iconst (v := 1) hx hb dX8_when_13 (by decide) ?_
    obtain ⟨r22, M21, q20, hg⟩ := bd2_e hg hne
    refine w_calli (va_runV (As := [.int (1 : Int32)]) (rest := []) CX (ctX8_no l D sw cs ad X H.size M1 (1 : Int32) q20) (cwV 1 hts (gwV m4_232 m4_234 mp3_4 m1_7 m4_235) rfl rfl rfl (by decide +kernel) ⟨Nat.le_trans (Nat.le_of_ble_eq_true rfl) hR.1, Nat.le_trans (Nat.le_of_ble_eq_true rfl) hR.2⟩) (wPreV hSW hS hA hK hP hD (by decide) rfl rfl _) rfl rfl hl.1 rfl (lv_room (Nat.le_of_ble_eq_true rfl)) dX8_when_14 ⟨Nat.zero_le _, Nat.zero_le _⟩) hD hS hA (fun H locs hP hD hS => ?_)
    exact hret _ _ _ _ _ _ hg dX8_when_17 hP hD hS
theorem ctX8_when (l : Launch) (D : va_G) (sw : Sw) (cs : Cs) (ad : Nat → Nat) (X : va_W) (sz : Nat) (M : Mm) (a1 : Int32) (a2 : Int32) {r : Int32} {M1 : Mm} (hq : gX8_when M a1 a2 = some (r, M1)) : Met l yX8_when wsX8_when ({ frames := 2, cells := 0, slots := 0, locals := 42 }) (va_Pc [.ref (ad 0), .int a1, .int a2] (wPre D sw cs LM NM ad M X sz)) (wQi D cs LM NM ad M1 X sz r) 0 0 (wA NM ad X sz) :=
  met_w rfl rfl (Nat.le_of_ble_eq_true rfl) (fun p e s m args below meth c ls CX hr hlk hK hSW hP hD hS hA hl => bX8_when M a1 a2 hq (by simp) CX ⟨Nat.le_refl _, Nat.le_refl _⟩ hK hSW hP hD hS hA hl (fun pc ls H locs v M9 hv dg hP hD hS => W.iret CX.1 CX.2.1 hr (fun t ht hW => ⟨⟨_, (), rfl, (Prod.mk.inj (Option.some.inj hv)).1, wpost hP ht (Prod.mk.inj (Option.some.inj hv)).2⟩, hS.F ht⟩) hS.2.2 dg))

abbrev wsX8_hasOtherwise : List Cond := Cond.code yX8_hasOtherwise cX8_hasOtherwise 4 (some .boolean) :: WG
def gX8_hasOtherwise_L6 (M : Mm) (a1 : Int32) : Nat → Int32 → Int32 → Option Int32
  | 0, _, _ => none
  | n3 + 1, x1, x2 => if (M 0 1) ≤ x2 then (if ¬ (x1 = 0 ∨ x1 = 1) then none else some x1) else if x1 = 0 then (if (x2 < 0 ∨ 80 ≤ (x2).toNatClampNeg) then none else if (M 1 (x2).toNatClampNeg) = (16 : Int32) then (bd (gX8_whenOf M x2) fun r11 => if r11 = a1 then (lt (x2 + (1 : Int32)) fun x15 => gX8_hasOtherwise_L6 M a1 n3 (1 : Int32) x15) else lt (x2 + (1 : Int32)) fun x14 => gX8_hasOtherwise_L6 M a1 n3 (0 : Int32) x14) else lt (x2 + (1 : Int32)) fun x10 => gX8_hasOtherwise_L6 M a1 n3 (0 : Int32) x10) else lt (x2 + (1 : Int32)) fun x7 => gX8_hasOtherwise_L6 M a1 n3 (1 : Int32) x7
def gX8_hasOtherwise (M : Mm) (a1 : Int32) : Option Int32 := gX8_hasOtherwise_L6 M a1 FU (0 : Int32) (a1 + (1 : Int32))
set_option maxHeartbeats 4000000 in
set_option maxRecDepth 100000 in
theorem bX8_hasOtherwise {p : Program} {l : Launch} {e : Env} {R : Room} {s : State} {m : MethodId} {args : Array Value} {below : List Frame} {meth : Method} {c : Code} {H : Heap} {locs : List Loc} {Q : State → Prop} {D : va_G} {sw : Sw} {cs : Cs} {ad : Nat → Nat} {X : va_W} (M : Mm) (a1 : Int32) {res : Option Int32} (hg : gX8_hasOtherwise M a1 = res) (hne : res ≠ none) (CX : CallFix p m c cX8_hasOtherwise 4 s args wsX8_hasOtherwise RX8) (hR : 1 ≤ R.frames ∧ 23 ≤ R.locals) (hK : va_K D vwCl (tysC cs) s) (hSW : SW sw (fun _ => False) s H) (hP : va_P D vwCl (wl cs LM NM ad M ++ X) H) {ls : Array Slot} (hl : lv_has ls 4 [(0, .ref (ad 0)), (1, .int a1)]) (hret : ∀ (pc : Nat) (ls : Array Slot) (v : Int32), some v = res → decode cX8_hasOtherwise pc = .ok (.ireturn, 1) → narrow .boolean (.int v) = .int v → W p l e R s m args below meth c H locs 0 0 Q (F0 m pc ls [.int v])) : W p l e R s m args below meth c H locs 0 0 Q (F0 m 0 ls []) := by
  obtain ⟨hx, hb, hml, hown, hts⟩ := id CX
  have hw : ∀ w ∈ WG, w.before args s = true := fun w h => hts w (List.mem_cons_of_mem _ h)
  have lk_47 := hw _ m4_117
  have lk_9 := hw _ m4_118
  unfold gX8_hasOtherwise at hg
  refine lv_iconst (v := 0) hx hb dX8_hasOtherwise_0 (by decide) ?_
  refine lv_istore_n (lv' := [(2, .int (0 : Int32)), (0, .ref (ad 0)), (1, .int a1)]) hx hb dX8_hasOtherwise_1 rfl hl (by decide) rfl (fun ls hl => ?_)
  refine lv_iload_n hx hb dX8_hasOtherwise_2 rfl (lv_at hl 2 rfl) ?_
  refine lv_iconst (v := 1) hx hb dX8_hasOtherwise_3 (by decide) ?_
  refine lv_iadd hx hb dX8_hasOtherwise_4 ?_
  refine lv_istore_n (lv' := [(3, .int (a1 + (1 : Int32))), (2, .int (0 : Int32)), (0, .ref (ad 0)), (1, .int a1)]) hx hb dX8_hasOtherwise_5 rfl hl (by decide) rfl (fun ls hl => ?_)
  have kL6_16 : ∀ (n3 : Nat) (x1 : Int32) (x2 : Int32) (ls : Array Slot), lv_has ls 4 [(0, .ref (ad 0)), (1, .int a1), (2, .int x1), (3, .int x2)] → gX8_hasOtherwise_L6 M a1 n3 x1 x2 = res → W p l e R s m args below meth c H locs 0 0 Q (F0 m 6 ls []) := by
    intro n3
    induction n3 with
    | zero =>
      intro x1 x2 ls hl hg
      rw [gX8_hasOtherwise_L6] at hg
      exact absurd hg.symm hne
    | succ n3 ih =>
      intro x1 x2 ls hl hg
      rw [gX8_hasOtherwise_L6] at hg
      refine lv_iload_n hx hb dX8_hasOtherwise_6 rfl (lv_at hl 3 rfl) ?_
      refine lv_aload_n hx hb dX8_hasOtherwise_7 rfl (lv_at hl 0 rfl) ?_
      refine m_gi (C := RX8) (T := TX8) (n := 15) (ci := 6) hx hb hts in_RX8 hown hK hP (by decide) rfl rfl 1 (by decide) rfl lk_47 (fun _ h9 => h9) dX8_hasOtherwise_8 ?_
      refine lv_icmp_ge (tgt := 50) hx hb dX8_hasOtherwise_11 (by decide) (fun c4 => ?_) (fun c4 => ?_)
      · have hg := if_t hg c4
        refine lv_iload_n hx hb dX8_hasOtherwise_50 rfl (lv_at hl 2 rfl) ?_
        obtain ⟨z5, hg⟩ := ck_e hg hne
        exact hret _ _ _ hg dX8_hasOtherwise_51 (z01 z5)
      · have hg := if_f hg c4
        refine lv_iload_n hx hb dX8_hasOtherwise_14 rfl (lv_at hl 2 rfl) ?_
        refine lv_if_ne (tgt := 38) hx hb dX8_hasOtherwise_15 (by decide) (fun c6 => ?_) (fun c6 => ?_)
        · have hg := if_f hg c6
          refine lv_iconst (v := 1) hx hb dX8_hasOtherwise_38 (by decide) ?_
          refine lv_goto (tgt := 43) hx hb dX8_hasOtherwise_39 (by decide) ?_
          refine lv_istore_n (lv' := [(2, .int (1 : Int32)), (0, .ref (ad 0)), (1, .int a1), (3, .int x2)]) hx hb dX8_hasOtherwise_43 rfl hl (by decide) rfl (fun ls hl => ?_)
          obtain ⟨x7, hx7, hg⟩ := lt_e hg
          refine lv_iinc (v := x7) (lv' := [(3, .int x7), (2, .int (1 : Int32)), (0, .ref (ad 0)), (1, .int a1)]) hx hb dX8_hasOtherwise_44 hl (k := 3) rfl (hx7.symm) (by decide) rfl (fun ls hl => ?_)
          refine lv_goto (tgt := 6) hx hb dX8_hasOtherwise_47 (by decide) ?_
          exact ih _ _ _ (lv_sub hl [2, 3, 1, 0] rfl) hg
        · have hg := if_t hg c6
          refine lv_aload_n hx hb dX8_hasOtherwise_18 rfl (lv_at hl 0 rfl) ?_
          refine m_gr (C := RX8) (T := TX8) (n := 15) (ci := 6) hx hb hts in_RX8 hown hK hP (by decide) rfl rfl 2 (by decide) rfl lk_9 (fun _ h9 => h9) dX8_hasOtherwise_19 ?_
          refine lv_iload_n hx hb dX8_hasOtherwise_22 rfl (lv_at hl 3 rfl) ?_
          obtain ⟨b8, hg⟩ := ck_e hg hne
          refine m_ld hx hb hK hP (by decide) rfl b8 dX8_hasOtherwise_23 ?_
          refine lv_bipush (v := 16) hx hb dX8_hasOtherwise_24 (by decide) ?_
          refine lv_icmp_ne (tgt := 42) hx hb dX8_hasOtherwise_26 (by decide) (fun c9 => ?_) (fun c9 => ?_)
          · have hg := if_f hg c9
            refine lv_iconst (v := 0) hx hb dX8_hasOtherwise_42 (by decide) ?_
            refine lv_istore_n (lv' := [(2, .int (0 : Int32)), (0, .ref (ad 0)), (1, .int a1), (3, .int x2)]) hx hb dX8_hasOtherwise_43 rfl hl (by decide) rfl (fun ls hl => ?_)
            obtain ⟨x10, hx10, hg⟩ := lt_e hg
            refine lv_iinc (v := x10) (lv' := [(3, .int x10), (2, .int (0 : Int32)), (0, .ref (ad 0)), (1, .int a1)]) hx hb dX8_hasOtherwise_44 hl (k := 3) rfl (hx10.symm) (by decide) rfl (fun ls hl => ?_)
            refine lv_goto (tgt := 6) hx hb dX8_hasOtherwise_47 (by decide) ?_
            exact ih _ _ _ (lv_sub hl [2, 3, 1, 0] rfl) hg
          · have hg := if_t hg c9
            refine lv_aload_n hx hb dX8_hasOtherwise_29 rfl (lv_at hl 0 rfl) ?_
            refine lv_iload_n hx hb dX8_hasOtherwise_30 rfl (lv_at hl 3 rfl) ?_
            obtain ⟨r11, q12, hg⟩ := bd_e hg hne
            refine r_calli (W.runV (As := [.int x2]) (rest := []) CX (ctX8_whenOf l D sw cs ad X M x2 q12) (cwV 1 hts (gwV m5_18 m5_20 mp3_7 m1_7 m5_21) rfl rfl rfl (by decide +kernel) ⟨Nat.le_trans (Nat.le_of_ble_eq_true rfl) hR.1, Nat.le_trans (Nat.le_of_ble_eq_true rfl) hR.2⟩) (rPreV hSW hK hP (by decide) rfl rfl _) rfl rfl hl.1 rfl (lv_room (Nat.le_of_ble_eq_true rfl)) dX8_hasOtherwise_31 ⟨Nat.zero_le _, Nat.zero_le _⟩) ?_
            refine lv_iload_n hx hb dX8_hasOtherwise_34 rfl (lv_at hl 1 rfl) ?_
            refine lv_icmp_ne (tgt := 42) hx hb dX8_hasOtherwise_35 (by decide) (fun c13 => ?_) (fun c13 => ?_)
            · have hg := if_f hg c13
              refine lv_iconst (v := 0) hx hb dX8_hasOtherwise_42 (by decide) ?_
              refine lv_istore_n (lv' := [(2, .int (0 : Int32)), (0, .ref (ad 0)), (1, .int a1), (3, .int x2)]) hx hb dX8_hasOtherwise_43 rfl hl (by decide) rfl (fun ls hl => ?_)
              obtain ⟨x14, hx14, hg⟩ := lt_e hg
              refine lv_iinc (v := x14) (lv' := [(3, .int x14), (2, .int (0 : Int32)), (0, .ref (ad 0)), (1, .int a1)]) hx hb dX8_hasOtherwise_44 hl (k := 3) rfl (hx14.symm) (by decide) rfl (fun ls hl => ?_)
              refine lv_goto (tgt := 6) hx hb dX8_hasOtherwise_47 (by decide) ?_
              exact ih _ _ _ (lv_sub hl [2, 3, 1, 0] rfl) hg
            · have hg := if_t hg c13
              refine lv_iconst (v := 1) hx hb dX8_hasOtherwise_38 (by decide) ?_
              refine lv_goto (tgt := 43) hx hb dX8_hasOtherwise_39 (by decide) ?_
              refine lv_istore_n (lv' := [(2, .int (1 : Int32)), (0, .ref (ad 0)), (1, .int a1), (3, .int x2)]) hx hb dX8_hasOtherwise_43 rfl hl (by decide) rfl (fun ls hl => ?_)
              obtain ⟨x15, hx15, hg⟩ := lt_e hg
              refine lv_iinc (v := x15) (lv' := [(3, .int x15), (2, .int (1 : Int32)), (0, .ref (ad 0)), (1, .int a1)]) hx hb dX8_hasOtherwise_44 hl (k := 3) rfl (hx15.symm) (by decide) rfl (fun ls hl => ?_)
              refine lv_goto (tgt := 6) hx hb dX8_hasOtherwise_47 (by decide) ?_
              exact ih _ _ _ (lv_sub hl [2, 3, 1, 0] rfl) hg
  exact kL6_16 FU _ _ _ (lv_sub hl [2, 3, 1, 0] rfl) hg
theorem ctX8_hasOtherwise (l : Launch) (D : va_G) (sw : Sw) (cs : Cs) (ad : Nat → Nat) (X : va_W) (M : Mm) (a1 : Int32) {r : Int32} (hq : gX8_hasOtherwise M a1 = some r) : Met l yX8_hasOtherwise wsX8_hasOtherwise ({ frames := 1, cells := 0, slots := 0, locals := 23 }) (va_Pc [.ref (ad 0), .int a1] (rPre D sw cs LM NM ad M X)) (vp_Si (fun r' => r' = r)) 0 0 (fun _ => False) :=
  met_r rfl rfl (Nat.le_of_ble_eq_true rfl) (fun p e s m args below meth c ls CX hr hlk hK hSW hP hl => bX8_hasOtherwise M a1 hq (by simp) CX ⟨Nat.le_refl _, Nat.le_refl _⟩ hK hSW hP hl (fun pc ls v hv dg hz => W.zret (ty := .boolean) CX.1 CX.2.1 hr hz (fun t ht hW => ⟨_, rfl, Option.some.inj hv, ht⟩) (fun _ h => by cases h) dg))

abbrev wsX8_otherwise : List Cond := Cond.code yX8_otherwise cX8_otherwise 2 (some .int) :: WG
def gX8_otherwise (M : Mm) : Option (Int32 × Mm) := lt (um M 0 0 (0 : Int32)) fun M1 => bd (gX8_whenOf M1 (M1 0 1)) fun r2 => if (M1 0 1) = (80 : Int32) then (bd2 (gX8_no M1 (1 : Int32)) fun r7 M6 => some (r7, M6)) else if r2 = (-1 : Int32) then (bd2 (gX8_no M1 (1 : Int32)) fun r11 M10 => some (r11, M10)) else bd (gX8_hasOtherwise M1 r2) fun r12 => if r12 = 0 then (bd2 (gX8_append M1 (16 : Int32)) fun r17 M16 => some (r17, M16)) else bd2 (gX8_no M1 (1 : Int32)) fun r20 M19 => some (r20, M19)
set_option maxHeartbeats 4000000 in
set_option maxRecDepth 100000 in
theorem bX8_otherwise {p : Program} {l : Launch} {e : Env} {R : Room} {s : State} {m : MethodId} {args : Array Value} {below : List Frame} {meth : Method} {c : Code} {H : Heap} {locs : List Loc} {Q : State → Prop} {D : va_G} {sw : Sw} {cs : Cs} {ad : Nat → Nat} {X : va_W} {A : Nat → Prop} (M : Mm) {res : Option (Int32 × Mm)} (hg : gX8_otherwise M = res) (hne : res ≠ none) (CX : CallFix p m c cX8_otherwise 2 s args wsX8_otherwise RX8) (hR : 2 ≤ R.frames ∧ 46 ≤ R.locals) (hK : va_K D vwCl (tysC cs) s) (hSW : SW sw A s s.heap) (hP : va_P D vwCl (wl cs LM NM ad M ++ X) H) (hD : va_D A (wl cs LM NM ad M ++ X)) (hS : va_S A s.heap H locs) (hA : ∀ q, s.heap.size ≤ q → A q) {ls : Array Slot} (hl : lv_has ls 2 [(0, .ref (ad 0))]) (hret : ∀ (pc : Nat) (ls : Array Slot) (H : Heap) (locs : List Loc) (v : Int32) (M9 : Mm), some (v, M9) = res → decode cX8_otherwise pc = .ok (.ireturn, 1) → va_P D vwCl (wl cs LM NM ad M9 ++ X) H → va_D A (wl cs LM NM ad M9 ++ X) → va_S A s.heap H locs → W p l e R s m args below meth c H locs 0 0 Q (F0 m pc ls [.int v])) : W p l e R s m args below meth c H locs 0 0 Q (F0 m 0 ls []) := by
  obtain ⟨hx, hb, hml, hown, hts⟩ := id CX
  have hw : ∀ w ∈ WG, w.before args s = true := fun w h => hts w (List.mem_cons_of_mem _ h)
  have lk_43 := hw _ m4_116
  have lk_47 := hw _ m4_117
  unfold gX8_otherwise at hg
  refine lv_aload_n hx hb dX8_otherwise_0 rfl (lv_at hl 0 rfl) ?_
  refine lv_iconst (v := 0) hx hb dX8_otherwise_1 (by decide) ?_
  obtain ⟨M1, hM1, hg⟩ := lt_e hg
  refine m_pi (C := RX8) (T := TX8) (n := 15) (ci := 6) hx hb hts in_RX8 tyX8 tyX8_ok nmX8 hown hK hP hD hS (by decide) rfl rfl 0 (by decide) rfl lk_43 (fun _ h9 => h9) rfl rfl rfl dX8_otherwise_2 hM1 (fun H locs hP hD hS => ?_)
  refine lv_aload_n hx hb dX8_otherwise_5 rfl (lv_at hl 0 rfl) ?_
  refine lv_aload_n hx hb dX8_otherwise_6 rfl (lv_at hl 0 rfl) ?_
  refine m_gi (C := RX8) (T := TX8) (n := 15) (ci := 6) hx hb hts in_RX8 hown hK hP (by decide) rfl rfl 1 (by decide) rfl lk_47 (fun _ h9 => h9) dX8_otherwise_7 ?_
  obtain ⟨r2, q3, hg⟩ := bd_e hg hne
  refine r_calli (W.runV (As := [.int (M1 0 1)]) (rest := []) CX (ctX8_whenOf l D sw cs ad X M1 (M1 0 1) q3) (cwV 1 hts (gwV m5_18 m5_20 mp3_7 m1_7 m5_21) rfl rfl rfl (by decide +kernel) ⟨Nat.le_trans (Nat.le_of_ble_eq_true rfl) hR.1, Nat.le_trans (Nat.le_of_ble_eq_true rfl) hR.2⟩) (rPreV (hSW.wr hS) hK hP (by decide) rfl rfl _) rfl rfl hl.1 rfl (lv_room (Nat.le_of_ble_eq_true rfl)) dX8_otherwise_10 ⟨Nat.zero_le _, Nat.zero_le _⟩) ?_
  refine lv_istore_n (lv' := [(1, .int r2), (0, .ref (ad 0))]) hx hb dX8_otherwise_13 rfl hl (by decide) rfl (fun ls hl => ?_)
  refine lv_aload_n hx hb dX8_otherwise_14 rfl (lv_at hl 1 rfl) ?_
  refine m_gi (C := RX8) (T := TX8) (n := 15) (ci := 6) hx hb hts in_RX8 hown hK hP (by decide) rfl rfl 1 (by decide) rfl lk_47 (fun _ h9 => h9) dX8_otherwise_15 ?_
  refine lv_bipush (v := 80) hx hb dX8_otherwise_18 (by decide) ?_
  refine lv_icmp_eq (tgt := 36) hx hb dX8_otherwise_20 (by decide) (fun c4 => ?_) (fun c4 => ?_)
  · have hg := if_t hg c4
    refine lv_aload_n hx hb dX8_otherwise_36 rfl (lv_at hl 1 rfl) ?_
    refine lv_iconst (v := 1) hx hb dX8_otherwise_37 (by decide) ?_
    obtain ⟨r7, M6, q5, hg⟩ := bd2_e hg hne
    refine w_calli (va_runV (As := [.int (1 : Int32)]) (rest := []) CX (ctX8_no l D sw cs ad X H.size M1 (1 : Int32) q5) (cwV 1 hts (gwV m4_232 m4_234 mp3_4 m1_7 m4_235) rfl rfl rfl (by decide +kernel) ⟨Nat.le_trans (Nat.le_of_ble_eq_true rfl) hR.1, Nat.le_trans (Nat.le_of_ble_eq_true rfl) hR.2⟩) (wPreV hSW hS hA hK hP hD (by decide) rfl rfl _) rfl rfl hl.1 rfl (lv_room (Nat.le_of_ble_eq_true rfl)) dX8_otherwise_38 ⟨Nat.zero_le _, Nat.zero_le _⟩) hD hS hA (fun H locs hP hD hS => ?_)
    refine lv_goto (tgt := 50) hx hb dX8_otherwise_41 (by decide) ?_
    exact hret _ _ _ _ _ _ hg dX8_otherwise_50 hP hD hS
  · have hg := if_f hg c4
    refine lv_iload_n hx hb dX8_otherwise_23 rfl (lv_at hl 0 rfl) ?_
    refine lv_iconst (v := -1) hx hb dX8_otherwise_24 (by decide) ?_
    refine lv_icmp_eq (tgt := 36) hx hb dX8_otherwise_25 (by decide) (fun c8 => ?_) (fun c8 => ?_)
    · have hg := if_t hg c8
      refine lv_aload_n hx hb dX8_otherwise_36 rfl (lv_at hl 1 rfl) ?_
      refine lv_iconst (v := 1) hx hb dX8_otherwise_37 (by decide) ?_
      obtain ⟨r11, M10, q9, hg⟩ := bd2_e hg hne
      refine w_calli (va_runV (As := [.int (1 : Int32)]) (rest := []) CX (ctX8_no l D sw cs ad X H.size M1 (1 : Int32) q9) (cwV 1 hts (gwV m4_232 m4_234 mp3_4 m1_7 m4_235) rfl rfl rfl (by decide +kernel) ⟨Nat.le_trans (Nat.le_of_ble_eq_true rfl) hR.1, Nat.le_trans (Nat.le_of_ble_eq_true rfl) hR.2⟩) (wPreV hSW hS hA hK hP hD (by decide) rfl rfl _) rfl rfl hl.1 rfl (lv_room (Nat.le_of_ble_eq_true rfl)) dX8_otherwise_38 ⟨Nat.zero_le _, Nat.zero_le _⟩) hD hS hA (fun H locs hP hD hS => ?_)
      refine lv_goto (tgt := 50) hx hb dX8_otherwise_41 (by decide) ?_
      exact hret _ _ _ _ _ _ hg dX8_otherwise_50 hP hD hS
    · have hg := if_f hg c8
      refine lv_aload_n hx hb dX8_otherwise_28 rfl (lv_at hl 1 rfl) ?_
      refine lv_iload_n hx hb dX8_otherwise_29 rfl (lv_at hl 0 rfl) ?_
      obtain ⟨r12, q13, hg⟩ := bd_e hg hne
      refine r_calli (W.runV (As := [.int r2]) (rest := []) CX (ctX8_hasOtherwise l D sw cs ad X M1 r2 q13) (cwV 1 hts (gwV m5_22 m5_24 mp3_8 m1_7 m5_25) rfl rfl rfl (by decide +kernel) ⟨Nat.le_trans (Nat.le_of_ble_eq_true rfl) hR.1, Nat.le_trans (Nat.le_of_ble_eq_true rfl) hR.2⟩) (rPreV (hSW.wr hS) hK hP (by decide) rfl rfl _) rfl rfl hl.1 rfl (lv_room (Nat.le_of_ble_eq_true rfl)) dX8_otherwise_30 ⟨Nat.zero_le _, Nat.zero_le _⟩) ?_
      refine lv_if_eq (tgt := 44) hx hb dX8_otherwise_33 (by decide) (fun c14 => ?_) (fun c14 => ?_)
      · have hg := if_t hg c14
        refine lv_aload_n hx hb dX8_otherwise_44 rfl (lv_at hl 1 rfl) ?_
        refine lv_bipush (v := 16) hx hb dX8_otherwise_45 (by decide) ?_
        obtain ⟨r17, M16, q15, hg⟩ := bd2_e hg hne
        refine w_calli (va_runV (As := [.int (16 : Int32)]) (rest := []) CX (ctX8_append l D sw cs ad X H.size M1 (16 : Int32) q15) (cwV 1 hts (gwV m4_236 m4_238 mp3_5 m1_7 m4_239) rfl rfl rfl (by decide +kernel) ⟨Nat.le_trans (Nat.le_of_ble_eq_true rfl) hR.1, Nat.le_trans (Nat.le_of_ble_eq_true rfl) hR.2⟩) (wPreV hSW hS hA hK hP hD (by decide) rfl rfl _) rfl rfl hl.1 rfl (lv_room (Nat.le_of_ble_eq_true rfl)) dX8_otherwise_47 ⟨Nat.zero_le _, Nat.zero_le _⟩) hD hS hA (fun H locs hP hD hS => ?_)
        exact hret _ _ _ _ _ _ hg dX8_otherwise_50 hP hD hS
      · have hg := if_f hg c14
        refine lv_aload_n hx hb dX8_otherwise_36 rfl (lv_at hl 1 rfl) ?_
        refine lv_iconst (v := 1) hx hb dX8_otherwise_37 (by decide) ?_
        obtain ⟨r20, M19, q18, hg⟩ := bd2_e hg hne
        refine w_calli (va_runV (As := [.int (1 : Int32)]) (rest := []) CX (ctX8_no l D sw cs ad X H.size M1 (1 : Int32) q18) (cwV 1 hts (gwV m4_232 m4_234 mp3_4 m1_7 m4_235) rfl rfl rfl (by decide +kernel) ⟨Nat.le_trans (Nat.le_of_ble_eq_true rfl) hR.1, Nat.le_trans (Nat.le_of_ble_eq_true rfl) hR.2⟩) (wPreV hSW hS hA hK hP hD (by decide) rfl rfl _) rfl rfl hl.1 rfl (lv_room (Nat.le_of_ble_eq_true rfl)) dX8_otherwise_38 ⟨Nat.zero_le _, Nat.zero_le _⟩) hD hS hA (fun H locs hP hD hS => ?_)
        refine lv_goto (tgt := 50) hx hb dX8_otherwise_41 (by decide) ?_
        exact hret _ _ _ _ _ _ hg dX8_otherwise_50 hP hD hS
theorem ctX8_otherwise (l : Launch) (D : va_G) (sw : Sw) (cs : Cs) (ad : Nat → Nat) (X : va_W) (sz : Nat) (M : Mm) {r : Int32} {M1 : Mm} (hq : gX8_otherwise M = some (r, M1)) : Met l yX8_otherwise wsX8_otherwise ({ frames := 2, cells := 0, slots := 0, locals := 46 }) (va_Pc [.ref (ad 0)] (wPre D sw cs LM NM ad M X sz)) (wQi D cs LM NM ad M1 X sz r) 0 0 (wA NM ad X sz) :=
  met_w rfl rfl (Nat.le_of_ble_eq_true rfl) (fun p e s m args below meth c ls CX hr hlk hK hSW hP hD hS hA hl => bX8_otherwise M hq (by simp) CX ⟨Nat.le_refl _, Nat.le_refl _⟩ hK hSW hP hD hS hA hl (fun pc ls H locs v M9 hv dg hP hD hS => W.iret CX.1 CX.2.1 hr (fun t ht hW => ⟨⟨_, (), rfl, (Prod.mk.inj (Option.some.inj hv)).1, wpost hP ht (Prod.mk.inj (Option.some.inj hv)).2⟩, hS.F ht⟩) hS.2.2 dg))

abbrev wsX8_done : List Cond := Cond.code yX8_done cX8_done 1 (some .int) :: WG
def gX8_done (M : Mm) : Option (Int32 × Mm) := lt (um M 0 0 (0 : Int32)) fun M1 => if (M1 0 1) = (80 : Int32) then (bd2 (gX8_no M1 (1 : Int32)) fun r5 M4 => some (r5, M4)) else bd (gX8_whenOf M1 (M1 0 1)) fun r6 => if r6 = (-1 : Int32) then (bd2 (gX8_no M1 (1 : Int32)) fun r14 M13 => some (r14, M13)) else bd2 (gX8_append M1 (17 : Int32)) fun r11 M10 => some (r11, M10)
set_option maxHeartbeats 4000000 in
set_option maxRecDepth 100000 in
theorem bX8_done {p : Program} {l : Launch} {e : Env} {R : Room} {s : State} {m : MethodId} {args : Array Value} {below : List Frame} {meth : Method} {c : Code} {H : Heap} {locs : List Loc} {Q : State → Prop} {D : va_G} {sw : Sw} {cs : Cs} {ad : Nat → Nat} {X : va_W} {A : Nat → Prop} (M : Mm) {res : Option (Int32 × Mm)} (hg : gX8_done M = res) (hne : res ≠ none) (CX : CallFix p m c cX8_done 1 s args wsX8_done RX8) (hR : 1 ≤ R.frames ∧ 23 ≤ R.locals) (hK : va_K D vwCl (tysC cs) s) (hSW : SW sw A s s.heap) (hP : va_P D vwCl (wl cs LM NM ad M ++ X) H) (hD : va_D A (wl cs LM NM ad M ++ X)) (hS : va_S A s.heap H locs) (hA : ∀ q, s.heap.size ≤ q → A q) {ls : Array Slot} (hl : lv_has ls 1 [(0, .ref (ad 0))]) (hret : ∀ (pc : Nat) (ls : Array Slot) (H : Heap) (locs : List Loc) (v : Int32) (M9 : Mm), some (v, M9) = res → decode cX8_done pc = .ok (.ireturn, 1) → va_P D vwCl (wl cs LM NM ad M9 ++ X) H → va_D A (wl cs LM NM ad M9 ++ X) → va_S A s.heap H locs → W p l e R s m args below meth c H locs 0 0 Q (F0 m pc ls [.int v])) : W p l e R s m args below meth c H locs 0 0 Q (F0 m 0 ls []) := by
  obtain ⟨hx, hb, hml, hown, hts⟩ := id CX
  have hw : ∀ w ∈ WG, w.before args s = true := fun w h => hts w (List.mem_cons_of_mem _ h)
  have lk_43 := hw _ m4_116
  have lk_47 := hw _ m4_117
  unfold gX8_done at hg
  refine lv_aload_n hx hb dX8_done_0 rfl (lv_at hl 0 rfl) ?_
  refine lv_iconst (v := 0) hx hb dX8_done_1 (by decide) ?_
  obtain ⟨M1, hM1, hg⟩ := lt_e hg
  refine m_pi (C := RX8) (T := TX8) (n := 15) (ci := 6) hx hb hts in_RX8 tyX8 tyX8_ok nmX8 hown hK hP hD hS (by decide) rfl rfl 0 (by decide) rfl lk_43 (fun _ h9 => h9) rfl rfl rfl dX8_done_2 hM1 (fun H locs hP hD hS => ?_)
  refine lv_aload_n hx hb dX8_done_5 rfl (lv_at hl 0 rfl) ?_
  refine m_gi (C := RX8) (T := TX8) (n := 15) (ci := 6) hx hb hts in_RX8 hown hK hP (by decide) rfl rfl 1 (by decide) rfl lk_47 (fun _ h9 => h9) dX8_done_6 ?_
  refine lv_bipush (v := 80) hx hb dX8_done_9 (by decide) ?_
  refine lv_icmp_eq (tgt := 26) hx hb dX8_done_11 (by decide) (fun c2 => ?_) (fun c2 => ?_)
  · have hg := if_t hg c2
    refine lv_aload_n hx hb dX8_done_26 rfl (lv_at hl 0 rfl) ?_
    refine lv_iconst (v := 1) hx hb dX8_done_27 (by decide) ?_
    obtain ⟨r5, M4, q3, hg⟩ := bd2_e hg hne
    refine w_calli (va_runV (As := [.int (1 : Int32)]) (rest := []) CX (ctX8_no l D sw cs ad X H.size M1 (1 : Int32) q3) (cwV 1 hts (gwV m4_232 m4_234 mp3_4 m1_7 m4_235) rfl rfl rfl (by decide +kernel) ⟨Nat.le_trans (Nat.le_of_ble_eq_true rfl) hR.1, Nat.le_trans (Nat.le_of_ble_eq_true rfl) hR.2⟩) (wPreV hSW hS hA hK hP hD (by decide) rfl rfl _) rfl rfl hl.1 rfl (lv_room (Nat.le_of_ble_eq_true rfl)) dX8_done_28 ⟨Nat.zero_le _, Nat.zero_le _⟩) hD hS hA (fun H locs hP hD hS => ?_)
    refine lv_goto (tgt := 40) hx hb dX8_done_31 (by decide) ?_
    exact hret _ _ _ _ _ _ hg dX8_done_40 hP hD hS
  · have hg := if_f hg c2
    refine lv_aload_n hx hb dX8_done_14 rfl (lv_at hl 0 rfl) ?_
    refine lv_aload_n hx hb dX8_done_15 rfl (lv_at hl 0 rfl) ?_
    refine m_gi (C := RX8) (T := TX8) (n := 15) (ci := 6) hx hb hts in_RX8 hown hK hP (by decide) rfl rfl 1 (by decide) rfl lk_47 (fun _ h9 => h9) dX8_done_16 ?_
    obtain ⟨r6, q7, hg⟩ := bd_e hg hne
    refine r_calli (W.runV (As := [.int (M1 0 1)]) (rest := []) CX (ctX8_whenOf l D sw cs ad X M1 (M1 0 1) q7) (cwV 1 hts (gwV m5_18 m5_20 mp3_7 m1_7 m5_21) rfl rfl rfl (by decide +kernel) ⟨Nat.le_trans (Nat.le_of_ble_eq_true rfl) hR.1, Nat.le_trans (Nat.le_of_ble_eq_true rfl) hR.2⟩) (rPreV (hSW.wr hS) hK hP (by decide) rfl rfl _) rfl rfl hl.1 rfl (lv_room (Nat.le_of_ble_eq_true rfl)) dX8_done_19 ⟨Nat.zero_le _, Nat.zero_le _⟩) ?_
    refine lv_iconst (v := -1) hx hb dX8_done_22 (by decide) ?_
    refine lv_icmp_ne (tgt := 34) hx hb dX8_done_23 (by decide) (fun c8 => ?_) (fun c8 => ?_)
    · have hg := if_f hg c8
      refine lv_aload_n hx hb dX8_done_34 rfl (lv_at hl 0 rfl) ?_
      refine lv_bipush (v := 17) hx hb dX8_done_35 (by decide) ?_
      obtain ⟨r11, M10, q9, hg⟩ := bd2_e hg hne
      refine w_calli (va_runV (As := [.int (17 : Int32)]) (rest := []) CX (ctX8_append l D sw cs ad X H.size M1 (17 : Int32) q9) (cwV 1 hts (gwV m4_236 m4_238 mp3_5 m1_7 m4_239) rfl rfl rfl (by decide +kernel) ⟨Nat.le_trans (Nat.le_of_ble_eq_true rfl) hR.1, Nat.le_trans (Nat.le_of_ble_eq_true rfl) hR.2⟩) (wPreV hSW hS hA hK hP hD (by decide) rfl rfl _) rfl rfl hl.1 rfl (lv_room (Nat.le_of_ble_eq_true rfl)) dX8_done_37 ⟨Nat.zero_le _, Nat.zero_le _⟩) hD hS hA (fun H locs hP hD hS => ?_)
      exact hret _ _ _ _ _ _ hg dX8_done_40 hP hD hS
    · have hg := if_t hg c8
      refine lv_aload_n hx hb dX8_done_26 rfl (lv_at hl 0 rfl) ?_
      refine lv_iconst (v := 1) hx hb dX8_done_27 (by decide) ?_
      obtain ⟨r14, M13, q12, hg⟩ := bd2_e hg hne
      refine w_calli (va_runV (As := [.int (1 : Int32)]) (rest := []) CX (ctX8_no l D sw cs ad X H.size M1 (1 : Int32) q12) (cwV 1 hts (gwV m4_232 m4_234 mp3_4 m1_7 m4_235) rfl rfl rfl (by decide +kernel) ⟨Nat.le_trans (Nat.le_of_ble_eq_true rfl) hR.1, Nat.le_trans (Nat.le_of_ble_eq_true rfl) hR.2⟩) (wPreV hSW hS hA hK hP hD (by decide) rfl rfl _) rfl rfl hl.1 rfl (lv_room (Nat.le_of_ble_eq_true rfl)) dX8_done_28 ⟨Nat.zero_le _, Nat.zero_le _⟩) hD hS hA (fun H locs hP hD hS => ?_)
      refine lv_goto (tgt := 40) hx hb dX8_done_31 (by decide) ?_
      exact hret _ _ _ _ _ _ hg dX8_done_40 hP hD hS
theorem ctX8_done (l : Launch) (D : va_G) (sw : Sw) (cs : Cs) (ad : Nat → Nat) (X : va_W) (sz : Nat) (M : Mm) {r : Int32} {M1 : Mm} (hq : gX8_done M = some (r, M1)) : Met l yX8_done wsX8_done ({ frames := 1, cells := 0, slots := 0, locals := 23 }) (va_Pc [.ref (ad 0)] (wPre D sw cs LM NM ad M X sz)) (wQi D cs LM NM ad M1 X sz r) 0 0 (wA NM ad X sz) :=
  met_w rfl rfl (Nat.le_of_ble_eq_true rfl) (fun p e s m args below meth c ls CX hr hlk hK hSW hP hD hS hA hl => bX8_done M hq (by simp) CX ⟨Nat.le_refl _, Nat.le_refl _⟩ hK hSW hP hD hS hA hl (fun pc ls H locs v M9 hv dg hP hD hS => W.iret CX.1 CX.2.1 hr (fun t ht hW => ⟨⟨_, (), rfl, (Prod.mk.inj (Option.some.inj hv)).1, wpost hP ht (Prod.mk.inj (Option.some.inj hv)).2⟩, hS.F ht⟩) hS.2.2 dg))

abbrev wsX8_set : List Cond := Cond.code yX8_set cX8_set 3 (some .int) :: WG
def gX8_set (M : Mm) (a1 : Int32) (a2 : Int32) : Option (Int32 × Mm) := lt (um M 0 0 (0 : Int32)) fun M1 => if (gX8_isFeature a1) = 0 then (bd2 (gX8_no M1 (1 : Int32)) fun r16 M15 => some (r16, M15)) else if (M1 0 1) = (80 : Int32) then (bd2 (gX8_no M1 (2 : Int32)) fun r13 M12 => some (r13, M12)) else if a2 = 0 then (bd2 (gX8_append M1 (((8 : Int32) + ((2 : Int32) * a1)) + (0 : Int32))) fun r7 M6 => some (r7, M6)) else bd2 (gX8_append M1 (((8 : Int32) + ((2 : Int32) * a1)) + (1 : Int32))) fun r10 M9 => some (r10, M9)
set_option maxHeartbeats 4000000 in
set_option maxRecDepth 100000 in
theorem bX8_set {p : Program} {l : Launch} {e : Env} {R : Room} {s : State} {m : MethodId} {args : Array Value} {below : List Frame} {meth : Method} {c : Code} {H : Heap} {locs : List Loc} {Q : State → Prop} {D : va_G} {sw : Sw} {cs : Cs} {ad : Nat → Nat} {X : va_W} {A : Nat → Prop} (M : Mm) (a1 : Int32) (a2 : Int32) {res : Option (Int32 × Mm)} (hg : gX8_set M a1 a2 = res) (hne : res ≠ none) (CX : CallFix p m c cX8_set 3 s args wsX8_set RX8) (hR : 2 ≤ R.frames ∧ 42 ≤ R.locals) (hK : va_K D vwCl (tysC cs) s) (hSW : SW sw A s s.heap) (hP : va_P D vwCl (wl cs LM NM ad M ++ X) H) (hD : va_D A (wl cs LM NM ad M ++ X)) (hS : va_S A s.heap H locs) (hA : ∀ q, s.heap.size ≤ q → A q) {ls : Array Slot} (hl : lv_has ls 3 [(0, .ref (ad 0)), (1, .int a1), (2, .int a2)]) (hret : ∀ (pc : Nat) (ls : Array Slot) (H : Heap) (locs : List Loc) (v : Int32) (M9 : Mm), some (v, M9) = res → decode cX8_set pc = .ok (.ireturn, 1) → va_P D vwCl (wl cs LM NM ad M9 ++ X) H → va_D A (wl cs LM NM ad M9 ++ X) → va_S A s.heap H locs → W p l e R s m args below meth c H locs 0 0 Q (F0 m pc ls [.int v])) : W p l e R s m args below meth c H locs 0 0 Q (F0 m 0 ls []) := by
  obtain ⟨hx, hb, hml, hown, hts⟩ := id CX
  have hw : ∀ w ∈ WG, w.before args s = true := fun w h => hts w (List.mem_cons_of_mem _ h)
  have lk_43 := hw _ m4_116
  have lk_47 := hw _ m4_117
  unfold gX8_set at hg
  refine lv_aload_n hx hb dX8_set_0 rfl (lv_at hl 0 rfl) ?_
  refine lv_iconst (v := 0) hx hb dX8_set_1 (by decide) ?_
  obtain ⟨M1, hM1, hg⟩ := lt_e hg
  refine m_pi (C := RX8) (T := TX8) (n := 15) (ci := 6) hx hb hts in_RX8 tyX8 tyX8_ok nmX8 hown hK hP hD hS (by decide) rfl rfl 0 (by decide) rfl lk_43 (fun _ h9 => h9) rfl rfl rfl dX8_set_2 hM1 (fun H locs hP hD hS => ?_)
  refine lv_iload_n hx hb dX8_set_5 rfl (lv_at hl 1 rfl) ?_
  refine r_calli (W.runS (As := [.int a1]) (rest := []) CX (ctX8_isFeature l a1) (va_cwS 1 hts (gwS m5_4 m5_5 m1_7 m5_6) rfl rfl rfl (by decide +kernel) ⟨Nat.le_trans (Nat.le_of_ble_eq_true rfl) hR.1, Nat.le_trans (Nat.le_of_ble_eq_true rfl) hR.2⟩) (pPreS _) rfl rfl hl.1 rfl (lv_room (Nat.le_of_ble_eq_true rfl)) dX8_set_6 ⟨Nat.zero_le _, Nat.zero_le _⟩) ?_
  refine lv_if_ne (tgt := 18) hx hb dX8_set_9 (by decide) (fun c2 => ?_) (fun c2 => ?_)
  · have hg := if_f hg c2
    refine lv_aload_n hx hb dX8_set_18 rfl (lv_at hl 0 rfl) ?_
    refine m_gi (C := RX8) (T := TX8) (n := 15) (ci := 6) hx hb hts in_RX8 hown hK hP (by decide) rfl rfl 1 (by decide) rfl lk_47 (fun _ h9 => h9) dX8_set_19 ?_
    refine lv_bipush (v := 80) hx hb dX8_set_22 (by decide) ?_
    refine lv_icmp_ne (tgt := 35) hx hb dX8_set_24 (by decide) (fun c3 => ?_) (fun c3 => ?_)
    · have hg := if_f hg c3
      refine lv_aload_n hx hb dX8_set_35 rfl (lv_at hl 0 rfl) ?_
      refine lv_bipush (v := 8) hx hb dX8_set_36 (by decide) ?_
      refine lv_iconst (v := 2) hx hb dX8_set_38 (by decide) ?_
      refine lv_iload_n hx hb dX8_set_39 rfl (lv_at hl 1 rfl) ?_
      refine lv_imul hx hb dX8_set_40 ?_
      refine lv_iadd hx hb dX8_set_41 ?_
      refine lv_iload_n hx hb dX8_set_42 rfl (lv_at hl 2 rfl) ?_
      refine lv_if_eq (tgt := 50) hx hb dX8_set_43 (by decide) (fun c4 => ?_) (fun c4 => ?_)
      · have hg := if_t hg c4
        refine lv_iconst (v := 0) hx hb dX8_set_50 (by decide) ?_
        refine lv_iadd hx hb dX8_set_51 ?_
        obtain ⟨r7, M6, q5, hg⟩ := bd2_e hg hne
        refine w_calli (va_runV (As := [.int (((8 : Int32) + ((2 : Int32) * a1)) + (0 : Int32))]) (rest := []) CX (ctX8_append l D sw cs ad X H.size M1 (((8 : Int32) + ((2 : Int32) * a1)) + (0 : Int32)) q5) (cwV 1 hts (gwV m4_236 m4_238 mp3_5 m1_7 m4_239) rfl rfl rfl (by decide +kernel) ⟨Nat.le_trans (Nat.le_of_ble_eq_true rfl) hR.1, Nat.le_trans (Nat.le_of_ble_eq_true rfl) hR.2⟩) (wPreV hSW hS hA hK hP hD (by decide) rfl rfl _) rfl rfl hl.1 rfl (lv_room (Nat.le_of_ble_eq_true rfl)) dX8_set_52 ⟨Nat.zero_le _, Nat.zero_le _⟩) hD hS hA (fun H locs hP hD hS => ?_)
        exact hret _ _ _ _ _ _ hg dX8_set_55 hP hD hS
      · have hg := if_f hg c4
        refine lv_iconst (v := 1) hx hb dX8_set_46 (by decide) ?_
        refine lv_goto (tgt := 51) hx hb dX8_set_47 (by decide) ?_
        refine lv_iadd hx hb dX8_set_51 ?_
        obtain ⟨r10, M9, q8, hg⟩ := bd2_e hg hne
        refine w_calli (va_runV (As := [.int (((8 : Int32) + ((2 : Int32) * a1)) + (1 : Int32))]) (rest := []) CX (ctX8_append l D sw cs ad X H.size M1 (((8 : Int32) + ((2 : Int32) * a1)) + (1 : Int32)) q8) (cwV 1 hts (gwV m4_236 m4_238 mp3_5 m1_7 m4_239) rfl rfl rfl (by decide +kernel) ⟨Nat.le_trans (Nat.le_of_ble_eq_true rfl) hR.1, Nat.le_trans (Nat.le_of_ble_eq_true rfl) hR.2⟩) (wPreV hSW hS hA hK hP hD (by decide) rfl rfl _) rfl rfl hl.1 rfl (lv_room (Nat.le_of_ble_eq_true rfl)) dX8_set_52 ⟨Nat.zero_le _, Nat.zero_le _⟩) hD hS hA (fun H locs hP hD hS => ?_)
        exact hret _ _ _ _ _ _ hg dX8_set_55 hP hD hS
    · have hg := if_t hg c3
      refine lv_aload_n hx hb dX8_set_27 rfl (lv_at hl 0 rfl) ?_
      refine lv_iconst (v := 2) hx hb dX8_set_28 (by decide) ?_
      obtain ⟨r13, M12, q11, hg⟩ := bd2_e hg hne
      refine w_calli (va_runV (As := [.int (2 : Int32)]) (rest := []) CX (ctX8_no l D sw cs ad X H.size M1 (2 : Int32) q11) (cwV 1 hts (gwV m4_232 m4_234 mp3_4 m1_7 m4_235) rfl rfl rfl (by decide +kernel) ⟨Nat.le_trans (Nat.le_of_ble_eq_true rfl) hR.1, Nat.le_trans (Nat.le_of_ble_eq_true rfl) hR.2⟩) (wPreV hSW hS hA hK hP hD (by decide) rfl rfl _) rfl rfl hl.1 rfl (lv_room (Nat.le_of_ble_eq_true rfl)) dX8_set_29 ⟨Nat.zero_le _, Nat.zero_le _⟩) hD hS hA (fun H locs hP hD hS => ?_)
      refine lv_goto (tgt := 55) hx hb dX8_set_32 (by decide) ?_
      exact hret _ _ _ _ _ _ hg dX8_set_55 hP hD hS
  · have hg := if_t hg c2
    refine lv_aload_n hx hb dX8_set_12 rfl (lv_at hl 0 rfl) ?_
    refine lv_iconst (v := 1) hx hb dX8_set_13 (by decide) ?_
    obtain ⟨r16, M15, q14, hg⟩ := bd2_e hg hne
    refine w_calli (va_runV (As := [.int (1 : Int32)]) (rest := []) CX (ctX8_no l D sw cs ad X H.size M1 (1 : Int32) q14) (cwV 1 hts (gwV m4_232 m4_234 mp3_4 m1_7 m4_235) rfl rfl rfl (by decide +kernel) ⟨Nat.le_trans (Nat.le_of_ble_eq_true rfl) hR.1, Nat.le_trans (Nat.le_of_ble_eq_true rfl) hR.2⟩) (wPreV hSW hS hA hK hP hD (by decide) rfl rfl _) rfl rfl hl.1 rfl (lv_room (Nat.le_of_ble_eq_true rfl)) dX8_set_14 ⟨Nat.zero_le _, Nat.zero_le _⟩) hD hS hA (fun H locs hP hD hS => ?_)
    exact hret _ _ _ _ _ _ hg dX8_set_17 hP hD hS
theorem ctX8_set (l : Launch) (D : va_G) (sw : Sw) (cs : Cs) (ad : Nat → Nat) (X : va_W) (sz : Nat) (M : Mm) (a1 : Int32) (a2 : Int32) {r : Int32} {M1 : Mm} (hq : gX8_set M a1 a2 = some (r, M1)) : Met l yX8_set wsX8_set ({ frames := 2, cells := 0, slots := 0, locals := 42 }) (va_Pc [.ref (ad 0), .int a1, .int a2] (wPre D sw cs LM NM ad M X sz)) (wQi D cs LM NM ad M1 X sz r) 0 0 (wA NM ad X sz) :=
  met_w rfl rfl (Nat.le_of_ble_eq_true rfl) (fun p e s m args below meth c ls CX hr hlk hK hSW hP hD hS hA hl => bX8_set M a1 a2 hq (by simp) CX ⟨Nat.le_refl _, Nat.le_refl _⟩ hK hSW hP hD hS hA hl (fun pc ls H locs v M9 hv dg hP hD hS => W.iret CX.1 CX.2.1 hr (fun t ht hW => ⟨⟨_, (), rfl, (Prod.mk.inj (Option.some.inj hv)).1, wpost hP ht (Prod.mk.inj (Option.some.inj hv)).2⟩, hS.F ht⟩) hS.2.2 dg))

abbrev wsX8_drop : List Cond := Cond.code yX8_drop cX8_drop 1 (some .int) :: WG
def gX8_drop (M : Mm) : Option (Int32 × Mm) := lt (um M 0 0 (0 : Int32)) fun M1 => if (M1 0 1) = 0 then (bd2 (gX8_no M1 (1 : Int32)) fun r6 M5 => some (r6, M5)) else lt (um M1 0 1 ((M1 0 1) - (1 : Int32))) fun M3 => some ((M3 0 1), M3)
set_option maxHeartbeats 4000000 in
set_option maxRecDepth 100000 in
theorem bX8_drop {p : Program} {l : Launch} {e : Env} {R : Room} {s : State} {m : MethodId} {args : Array Value} {below : List Frame} {meth : Method} {c : Code} {H : Heap} {locs : List Loc} {Q : State → Prop} {D : va_G} {sw : Sw} {cs : Cs} {ad : Nat → Nat} {X : va_W} {A : Nat → Prop} (M : Mm) {res : Option (Int32 × Mm)} (hg : gX8_drop M = res) (hne : res ≠ none) (CX : CallFix p m c cX8_drop 1 s args wsX8_drop RX8) (hR : 1 ≤ R.frames ∧ 21 ≤ R.locals) (hK : va_K D vwCl (tysC cs) s) (hSW : SW sw A s s.heap) (hP : va_P D vwCl (wl cs LM NM ad M ++ X) H) (hD : va_D A (wl cs LM NM ad M ++ X)) (hS : va_S A s.heap H locs) (hA : ∀ q, s.heap.size ≤ q → A q) {ls : Array Slot} (hl : lv_has ls 1 [(0, .ref (ad 0))]) (hret : ∀ (pc : Nat) (ls : Array Slot) (H : Heap) (locs : List Loc) (v : Int32) (M9 : Mm), some (v, M9) = res → decode cX8_drop pc = .ok (.ireturn, 1) → va_P D vwCl (wl cs LM NM ad M9 ++ X) H → va_D A (wl cs LM NM ad M9 ++ X) → va_S A s.heap H locs → W p l e R s m args below meth c H locs 0 0 Q (F0 m pc ls [.int v])) : W p l e R s m args below meth c H locs 0 0 Q (F0 m 0 ls []) := by
  obtain ⟨hx, hb, hml, hown, hts⟩ := id CX
  have hw : ∀ w ∈ WG, w.before args s = true := fun w h => hts w (List.mem_cons_of_mem _ h)
  have lk_43 := hw _ m4_116
  have lk_47 := hw _ m4_117
  unfold gX8_drop at hg
  refine lv_aload_n hx hb dX8_drop_0 rfl (lv_at hl 0 rfl) ?_
  refine lv_iconst (v := 0) hx hb dX8_drop_1 (by decide) ?_
  obtain ⟨M1, hM1, hg⟩ := lt_e hg
  refine m_pi (C := RX8) (T := TX8) (n := 15) (ci := 6) hx hb hts in_RX8 tyX8 tyX8_ok nmX8 hown hK hP hD hS (by decide) rfl rfl 0 (by decide) rfl lk_43 (fun _ h9 => h9) rfl rfl rfl dX8_drop_2 hM1 (fun H locs hP hD hS => ?_)
  refine lv_aload_n hx hb dX8_drop_5 rfl (lv_at hl 0 rfl) ?_
  refine m_gi (C := RX8) (T := TX8) (n := 15) (ci := 6) hx hb hts in_RX8 hown hK hP (by decide) rfl rfl 1 (by decide) rfl lk_47 (fun _ h9 => h9) dX8_drop_6 ?_
  refine lv_if_ne (tgt := 18) hx hb dX8_drop_9 (by decide) (fun c2 => ?_) (fun c2 => ?_)
  · have hg := if_f hg c2
    refine lv_aload_n hx hb dX8_drop_18 rfl (lv_at hl 0 rfl) ?_
    refine lv_dup hx hb dX8_drop_19 rfl ?_
    refine m_gi (C := RX8) (T := TX8) (n := 15) (ci := 6) hx hb hts in_RX8 hown hK hP (by decide) rfl rfl 1 (by decide) rfl lk_47 (fun _ h9 => h9) dX8_drop_20 ?_
    refine lv_iconst (v := 1) hx hb dX8_drop_23 (by decide) ?_
    refine lv_isub hx hb dX8_drop_24 ?_
    obtain ⟨M3, hM3, hg⟩ := lt_e hg
    refine m_pi (C := RX8) (T := TX8) (n := 15) (ci := 6) hx hb hts in_RX8 tyX8 tyX8_ok nmX8 hown hK hP hD hS (by decide) rfl rfl 1 (by decide) rfl lk_47 (fun _ h9 => h9) rfl rfl rfl dX8_drop_25 hM3 (fun H locs hP hD hS => ?_)
    refine lv_aload_n hx hb dX8_drop_28 rfl (lv_at hl 0 rfl) ?_
    refine m_gi (C := RX8) (T := TX8) (n := 15) (ci := 6) hx hb hts in_RX8 hown hK hP (by decide) rfl rfl 1 (by decide) rfl lk_47 (fun _ h9 => h9) dX8_drop_29 ?_
    exact hret _ _ _ _ _ _ hg dX8_drop_32 hP hD hS
  · have hg := if_t hg c2
    refine lv_aload_n hx hb dX8_drop_12 rfl (lv_at hl 0 rfl) ?_
    refine lv_iconst (v := 1) hx hb dX8_drop_13 (by decide) ?_
    obtain ⟨r6, M5, q4, hg⟩ := bd2_e hg hne
    refine w_calli (va_runV (As := [.int (1 : Int32)]) (rest := []) CX (ctX8_no l D sw cs ad X H.size M1 (1 : Int32) q4) (cwV 1 hts (gwV m4_232 m4_234 mp3_4 m1_7 m4_235) rfl rfl rfl (by decide +kernel) ⟨Nat.le_trans (Nat.le_of_ble_eq_true rfl) hR.1, Nat.le_trans (Nat.le_of_ble_eq_true rfl) hR.2⟩) (wPreV hSW hS hA hK hP hD (by decide) rfl rfl _) rfl rfl hl.1 rfl (lv_room (Nat.le_of_ble_eq_true rfl)) dX8_drop_14 ⟨Nat.zero_le _, Nat.zero_le _⟩) hD hS hA (fun H locs hP hD hS => ?_)
    exact hret _ _ _ _ _ _ hg dX8_drop_17 hP hD hS
theorem ctX8_drop (l : Launch) (D : va_G) (sw : Sw) (cs : Cs) (ad : Nat → Nat) (X : va_W) (sz : Nat) (M : Mm) {r : Int32} {M1 : Mm} (hq : gX8_drop M = some (r, M1)) : Met l yX8_drop wsX8_drop ({ frames := 1, cells := 0, slots := 0, locals := 21 }) (va_Pc [.ref (ad 0)] (wPre D sw cs LM NM ad M X sz)) (wQi D cs LM NM ad M1 X sz r) 0 0 (wA NM ad X sz) :=
  met_w rfl rfl (Nat.le_of_ble_eq_true rfl) (fun p e s m args below meth c ls CX hr hlk hK hSW hP hD hS hA hl => bX8_drop M hq (by simp) CX ⟨Nat.le_refl _, Nat.le_refl _⟩ hK hSW hP hD hS hA hl (fun pc ls H locs v M9 hv dg hP hD hS => W.iret CX.1 CX.2.1 hr (fun t ht hW => ⟨⟨_, (), rfl, (Prod.mk.inj (Option.some.inj hv)).1, wpost hP ht (Prod.mk.inj (Option.some.inj hv)).2⟩, hS.F ht⟩) hS.2.2 dg))

abbrev wsX8_size : List Cond := Cond.code yX8_size cX8_size 1 (some .int) :: WG
def gX8_size (M : Mm) : Option (Int32 × Mm) := lt (um M 0 0 (0 : Int32)) fun M1 => some ((M1 0 1), M1)
set_option maxHeartbeats 4000000 in
set_option maxRecDepth 100000 in
theorem bX8_size {p : Program} {l : Launch} {e : Env} {R : Room} {s : State} {m : MethodId} {args : Array Value} {below : List Frame} {meth : Method} {c : Code} {H : Heap} {locs : List Loc} {Q : State → Prop} {D : va_G} {sw : Sw} {cs : Cs} {ad : Nat → Nat} {X : va_W} {A : Nat → Prop} (M : Mm) {res : Option (Int32 × Mm)} (hg : gX8_size M = res) (hne : res ≠ none) (CX : CallFix p m c cX8_size 1 s args wsX8_size RX8) (hR : 0 ≤ R.frames ∧ 0 ≤ R.locals) (hK : va_K D vwCl (tysC cs) s) (hSW : SW sw A s s.heap) (hP : va_P D vwCl (wl cs LM NM ad M ++ X) H) (hD : va_D A (wl cs LM NM ad M ++ X)) (hS : va_S A s.heap H locs) (hA : ∀ q, s.heap.size ≤ q → A q) {ls : Array Slot} (hl : lv_has ls 1 [(0, .ref (ad 0))]) (hret : ∀ (pc : Nat) (ls : Array Slot) (H : Heap) (locs : List Loc) (v : Int32) (M9 : Mm), some (v, M9) = res → decode cX8_size pc = .ok (.ireturn, 1) → va_P D vwCl (wl cs LM NM ad M9 ++ X) H → va_D A (wl cs LM NM ad M9 ++ X) → va_S A s.heap H locs → W p l e R s m args below meth c H locs 0 0 Q (F0 m pc ls [.int v])) : W p l e R s m args below meth c H locs 0 0 Q (F0 m 0 ls []) := by
  obtain ⟨hx, hb, hml, hown, hts⟩ := id CX
  have hw : ∀ w ∈ WG, w.before args s = true := fun w h => hts w (List.mem_cons_of_mem _ h)
  have lk_43 := hw _ m4_116
  have lk_47 := hw _ m4_117
  unfold gX8_size at hg
  refine lv_aload_n hx hb dX8_size_0 rfl (lv_at hl 0 rfl) ?_
  refine lv_iconst (v := 0) hx hb dX8_size_1 (by decide) ?_
  obtain ⟨M1, hM1, hg⟩ := lt_e hg
  refine m_pi (C := RX8) (T := TX8) (n := 15) (ci := 6) hx hb hts in_RX8 tyX8 tyX8_ok nmX8 hown hK hP hD hS (by decide) rfl rfl 0 (by decide) rfl lk_43 (fun _ h9 => h9) rfl rfl rfl dX8_size_2 hM1 (fun H locs hP hD hS => ?_)
  refine lv_aload_n hx hb dX8_size_5 rfl (lv_at hl 0 rfl) ?_
  refine m_gi (C := RX8) (T := TX8) (n := 15) (ci := 6) hx hb hts in_RX8 hown hK hP (by decide) rfl rfl 1 (by decide) rfl lk_47 (fun _ h9 => h9) dX8_size_6 ?_
  exact hret _ _ _ _ _ _ hg dX8_size_9 hP hD hS
theorem ctX8_size (l : Launch) (D : va_G) (sw : Sw) (cs : Cs) (ad : Nat → Nat) (X : va_W) (sz : Nat) (M : Mm) {r : Int32} {M1 : Mm} (hq : gX8_size M = some (r, M1)) : Met l yX8_size wsX8_size ({ frames := 0, cells := 0, slots := 0, locals := 0 }) (va_Pc [.ref (ad 0)] (wPre D sw cs LM NM ad M X sz)) (wQi D cs LM NM ad M1 X sz r) 0 0 (wA NM ad X sz) :=
  met_w rfl rfl (Nat.le_of_ble_eq_true rfl) (fun p e s m args below meth c ls CX hr hlk hK hSW hP hD hS hA hl => bX8_size M hq (by simp) CX ⟨Nat.le_refl _, Nat.le_refl _⟩ hK hSW hP hD hS hA hl (fun pc ls H locs v M9 hv dg hP hD hS => W.iret CX.1 CX.2.1 hr (fun t ht hW => ⟨⟨_, (), rfl, (Prod.mk.inj (Option.some.inj hv)).1, wpost hP ht (Prod.mk.inj (Option.some.inj hv)).2⟩, hS.F ht⟩) hS.2.2 dg))

abbrev wsX8_item : List Cond := Cond.code yX8_item cX8_item 2 (some .int) :: WG
def gX8_item (M : Mm) (a1 : Int32) : Option (Int32 × Mm) := lt (um M 0 0 (0 : Int32)) fun M1 => bd (gX8_isItem M1 a1) fun r2 => if r2 = 0 then (bd2 (gX8_no M1 (1 : Int32)) fun r7 M6 => some (r7, M6)) else if (a1 < 0 ∨ 80 ≤ (a1).toNatClampNeg) then none else some ((M1 1 (a1).toNatClampNeg), M1)
set_option maxHeartbeats 4000000 in
set_option maxRecDepth 100000 in
theorem bX8_item {p : Program} {l : Launch} {e : Env} {R : Room} {s : State} {m : MethodId} {args : Array Value} {below : List Frame} {meth : Method} {c : Code} {H : Heap} {locs : List Loc} {Q : State → Prop} {D : va_G} {sw : Sw} {cs : Cs} {ad : Nat → Nat} {X : va_W} {A : Nat → Prop} (M : Mm) (a1 : Int32) {res : Option (Int32 × Mm)} (hg : gX8_item M a1 = res) (hne : res ≠ none) (CX : CallFix p m c cX8_item 2 s args wsX8_item RX8) (hR : 2 ≤ R.frames ∧ 43 ≤ R.locals) (hK : va_K D vwCl (tysC cs) s) (hSW : SW sw A s s.heap) (hP : va_P D vwCl (wl cs LM NM ad M ++ X) H) (hD : va_D A (wl cs LM NM ad M ++ X)) (hS : va_S A s.heap H locs) (hA : ∀ q, s.heap.size ≤ q → A q) {ls : Array Slot} (hl : lv_has ls 2 [(0, .ref (ad 0)), (1, .int a1)]) (hret : ∀ (pc : Nat) (ls : Array Slot) (H : Heap) (locs : List Loc) (v : Int32) (M9 : Mm), some (v, M9) = res → decode cX8_item pc = .ok (.ireturn, 1) → va_P D vwCl (wl cs LM NM ad M9 ++ X) H → va_D A (wl cs LM NM ad M9 ++ X) → va_S A s.heap H locs → W p l e R s m args below meth c H locs 0 0 Q (F0 m pc ls [.int v])) : W p l e R s m args below meth c H locs 0 0 Q (F0 m 0 ls []) := by
  obtain ⟨hx, hb, hml, hown, hts⟩ := id CX
  have hw : ∀ w ∈ WG, w.before args s = true := fun w h => hts w (List.mem_cons_of_mem _ h)
  have lk_43 := hw _ m4_116
  have lk_9 := hw _ m4_118
  unfold gX8_item at hg
  refine lv_aload_n hx hb dX8_item_0 rfl (lv_at hl 0 rfl) ?_
  refine lv_iconst (v := 0) hx hb dX8_item_1 (by decide) ?_
  obtain ⟨M1, hM1, hg⟩ := lt_e hg
  refine m_pi (C := RX8) (T := TX8) (n := 15) (ci := 6) hx hb hts in_RX8 tyX8 tyX8_ok nmX8 hown hK hP hD hS (by decide) rfl rfl 0 (by decide) rfl lk_43 (fun _ h9 => h9) rfl rfl rfl dX8_item_2 hM1 (fun H locs hP hD hS => ?_)
  refine lv_aload_n hx hb dX8_item_5 rfl (lv_at hl 0 rfl) ?_
  refine lv_iload_n hx hb dX8_item_6 rfl (lv_at hl 1 rfl) ?_
  obtain ⟨r2, q3, hg⟩ := bd_e hg hne
  refine r_calli (W.runV (As := [.int a1]) (rest := []) CX (ctX8_isItem l D sw cs ad X M1 a1 q3) (cwV 1 hts (gwV m5_42 m5_44 mp3_9 m1_7 m5_45) rfl rfl rfl (by decide +kernel) ⟨Nat.le_trans (Nat.le_of_ble_eq_true rfl) hR.1, Nat.le_trans (Nat.le_of_ble_eq_true rfl) hR.2⟩) (rPreV (hSW.wr hS) hK hP (by decide) rfl rfl _) rfl rfl hl.1 rfl (lv_room (Nat.le_of_ble_eq_true rfl)) dX8_item_7 ⟨Nat.zero_le _, Nat.zero_le _⟩) ?_
  refine lv_if_eq (tgt := 22) hx hb dX8_item_10 (by decide) (fun c4 => ?_) (fun c4 => ?_)
  · have hg := if_t hg c4
    refine lv_aload_n hx hb dX8_item_22 rfl (lv_at hl 0 rfl) ?_
    refine lv_iconst (v := 1) hx hb dX8_item_23 (by decide) ?_
    obtain ⟨r7, M6, q5, hg⟩ := bd2_e hg hne
    refine w_calli (va_runV (As := [.int (1 : Int32)]) (rest := []) CX (ctX8_no l D sw cs ad X H.size M1 (1 : Int32) q5) (cwV 1 hts (gwV m4_232 m4_234 mp3_4 m1_7 m4_235) rfl rfl rfl (by decide +kernel) ⟨Nat.le_trans (Nat.le_of_ble_eq_true rfl) hR.1, Nat.le_trans (Nat.le_of_ble_eq_true rfl) hR.2⟩) (wPreV hSW hS hA hK hP hD (by decide) rfl rfl _) rfl rfl hl.1 rfl (lv_room (Nat.le_of_ble_eq_true rfl)) dX8_item_24 ⟨Nat.zero_le _, Nat.zero_le _⟩) hD hS hA (fun H locs hP hD hS => ?_)
    exact hret _ _ _ _ _ _ hg dX8_item_27 hP hD hS
  · have hg := if_f hg c4
    refine lv_aload_n hx hb dX8_item_13 rfl (lv_at hl 0 rfl) ?_
    refine m_gr (C := RX8) (T := TX8) (n := 15) (ci := 6) hx hb hts in_RX8 hown hK hP (by decide) rfl rfl 2 (by decide) rfl lk_9 (fun _ h9 => h9) dX8_item_14 ?_
    refine lv_iload_n hx hb dX8_item_17 rfl (lv_at hl 1 rfl) ?_
    obtain ⟨b8, hg⟩ := ck_e hg hne
    refine m_ld hx hb hK hP (by decide) rfl b8 dX8_item_18 ?_
    refine lv_goto (tgt := 27) hx hb dX8_item_19 (by decide) ?_
    exact hret _ _ _ _ _ _ hg dX8_item_27 hP hD hS
theorem ctX8_item (l : Launch) (D : va_G) (sw : Sw) (cs : Cs) (ad : Nat → Nat) (X : va_W) (sz : Nat) (M : Mm) (a1 : Int32) {r : Int32} {M1 : Mm} (hq : gX8_item M a1 = some (r, M1)) : Met l yX8_item wsX8_item ({ frames := 2, cells := 0, slots := 0, locals := 43 }) (va_Pc [.ref (ad 0), .int a1] (wPre D sw cs LM NM ad M X sz)) (wQi D cs LM NM ad M1 X sz r) 0 0 (wA NM ad X sz) :=
  met_w rfl rfl (Nat.le_of_ble_eq_true rfl) (fun p e s m args below meth c ls CX hr hlk hK hSW hP hD hS hA hl => bX8_item M a1 hq (by simp) CX ⟨Nat.le_refl _, Nat.le_refl _⟩ hK hSW hP hD hS hA hl (fun pc ls H locs v M9 hv dg hP hD hS => W.iret CX.1 CX.2.1 hr (fun t ht hW => ⟨⟨_, (), rfl, (Prod.mk.inj (Option.some.inj hv)).1, wpost hP ht (Prod.mk.inj (Option.some.inj hv)).2⟩, hS.F ht⟩) hS.2.2 dg))

abbrev wsX8_unfinished : List Cond := Cond.code yX8_unfinished cX8_unfinished 1 (some .int) :: WG
def gX8_unfinished (M : Mm) : Option (Int32 × Mm) := lt (um M 0 0 (0 : Int32)) fun M1 => bd (gX8_openCount M1 ) fun r2 => some (r2, M1)
set_option maxHeartbeats 4000000 in
set_option maxRecDepth 100000 in
theorem bX8_unfinished {p : Program} {l : Launch} {e : Env} {R : Room} {s : State} {m : MethodId} {args : Array Value} {below : List Frame} {meth : Method} {c : Code} {H : Heap} {locs : List Loc} {Q : State → Prop} {D : va_G} {sw : Sw} {cs : Cs} {ad : Nat → Nat} {X : va_W} {A : Nat → Prop} (M : Mm) {res : Option (Int32 × Mm)} (hg : gX8_unfinished M = res) (hne : res ≠ none) (CX : CallFix p m c cX8_unfinished 1 s args wsX8_unfinished RX8) (hR : 1 ≤ R.frames ∧ 22 ≤ R.locals) (hK : va_K D vwCl (tysC cs) s) (hSW : SW sw A s s.heap) (hP : va_P D vwCl (wl cs LM NM ad M ++ X) H) (hD : va_D A (wl cs LM NM ad M ++ X)) (hS : va_S A s.heap H locs) (hA : ∀ q, s.heap.size ≤ q → A q) {ls : Array Slot} (hl : lv_has ls 1 [(0, .ref (ad 0))]) (hret : ∀ (pc : Nat) (ls : Array Slot) (H : Heap) (locs : List Loc) (v : Int32) (M9 : Mm), some (v, M9) = res → decode cX8_unfinished pc = .ok (.ireturn, 1) → va_P D vwCl (wl cs LM NM ad M9 ++ X) H → va_D A (wl cs LM NM ad M9 ++ X) → va_S A s.heap H locs → W p l e R s m args below meth c H locs 0 0 Q (F0 m pc ls [.int v])) : W p l e R s m args below meth c H locs 0 0 Q (F0 m 0 ls []) := by
  obtain ⟨hx, hb, hml, hown, hts⟩ := id CX
  have hw : ∀ w ∈ WG, w.before args s = true := fun w h => hts w (List.mem_cons_of_mem _ h)
  have lk_43 := hw _ m4_116
  unfold gX8_unfinished at hg
  refine lv_aload_n hx hb dX8_unfinished_0 rfl (lv_at hl 0 rfl) ?_
  refine lv_iconst (v := 0) hx hb dX8_unfinished_1 (by decide) ?_
  obtain ⟨M1, hM1, hg⟩ := lt_e hg
  refine m_pi (C := RX8) (T := TX8) (n := 15) (ci := 6) hx hb hts in_RX8 tyX8 tyX8_ok nmX8 hown hK hP hD hS (by decide) rfl rfl 0 (by decide) rfl lk_43 (fun _ h9 => h9) rfl rfl rfl dX8_unfinished_2 hM1 (fun H locs hP hD hS => ?_)
  refine lv_aload_n hx hb dX8_unfinished_5 rfl (lv_at hl 0 rfl) ?_
  obtain ⟨r2, q3, hg⟩ := bd_e hg hne
  refine r_calli (W.runV (As := []) (rest := []) CX (ctX8_openCount l D sw cs ad X M1  q3) (cwV 0 hts (gwV m5_10 m5_12 mp3_6 m1_7 m5_13) rfl rfl rfl (by decide +kernel) ⟨Nat.le_trans (Nat.le_of_ble_eq_true rfl) hR.1, Nat.le_trans (Nat.le_of_ble_eq_true rfl) hR.2⟩) (rPreV (hSW.wr hS) hK hP (by decide) rfl rfl _) rfl rfl hl.1 rfl (lv_room (Nat.le_of_ble_eq_true rfl)) dX8_unfinished_6 ⟨Nat.zero_le _, Nat.zero_le _⟩) ?_
  exact hret _ _ _ _ _ _ hg dX8_unfinished_9 hP hD hS
theorem ctX8_unfinished (l : Launch) (D : va_G) (sw : Sw) (cs : Cs) (ad : Nat → Nat) (X : va_W) (sz : Nat) (M : Mm) {r : Int32} {M1 : Mm} (hq : gX8_unfinished M = some (r, M1)) : Met l yX8_unfinished wsX8_unfinished ({ frames := 1, cells := 0, slots := 0, locals := 22 }) (va_Pc [.ref (ad 0)] (wPre D sw cs LM NM ad M X sz)) (wQi D cs LM NM ad M1 X sz r) 0 0 (wA NM ad X sz) :=
  met_w rfl rfl (Nat.le_of_ble_eq_true rfl) (fun p e s m args below meth c ls CX hr hlk hK hSW hP hD hS hA hl => bX8_unfinished M hq (by simp) CX ⟨Nat.le_refl _, Nat.le_refl _⟩ hK hSW hP hD hS hA hl (fun pc ls H locs v M9 hv dg hP hD hS => W.iret CX.1 CX.2.1 hr (fun t ht hW => ⟨⟨_, (), rfl, (Prod.mk.inj (Option.some.inj hv)).1, wpost hP ht (Prod.mk.inj (Option.some.inj hv)).2⟩, hS.F ht⟩) hS.2.2 dg))

abbrev wsX8_lengthOf : List Cond := Cond.code yX8_lengthOf cX8_lengthOf 4 (some .int) :: WG
def gX8_lengthOf_L4 (M : Mm) (a1 : Int32) : Nat → Int32 → Int32 → Option Int32
  | 0, _, _ => none
  | n3 + 1, x1, x2 => if (M 0 1) ≤ x2 then (some x1) else bd (gX8_isToken M x2) fun r5 => if r5 = 0 then (lt (x2 + (1 : Int32)) fun x8 => gX8_lengthOf_L4 M a1 n3 (x1 + (0 : Int32)) x8) else if (x2 < 0 ∨ 80 ≤ (x2).toNatClampNeg) then none else if (gX8_has (M 2 (x2).toNatClampNeg) a1) = 0 then (lt (x2 + (1 : Int32)) fun x11 => gX8_lengthOf_L4 M a1 n3 (x1 + (0 : Int32)) x11) else lt (x2 + (1 : Int32)) fun x12 => gX8_lengthOf_L4 M a1 n3 (x1 + (1 : Int32)) x12
def gX8_lengthOf (M : Mm) (a1 : Int32) : Option Int32 := gX8_lengthOf_L4 M a1 FU (0 : Int32) (0 : Int32)
set_option maxHeartbeats 4000000 in
set_option maxRecDepth 100000 in
theorem bX8_lengthOf {p : Program} {l : Launch} {e : Env} {R : Room} {s : State} {m : MethodId} {args : Array Value} {below : List Frame} {meth : Method} {c : Code} {H : Heap} {locs : List Loc} {Q : State → Prop} {D : va_G} {sw : Sw} {cs : Cs} {ad : Nat → Nat} {X : va_W} (M : Mm) (a1 : Int32) {res : Option Int32} (hg : gX8_lengthOf M a1 = res) (hne : res ≠ none) (CX : CallFix p m c cX8_lengthOf 4 s args wsX8_lengthOf RX8) (hR : 1 ≤ R.frames ∧ 21 ≤ R.locals) (hK : va_K D vwCl (tysC cs) s) (hSW : SW sw (fun _ => False) s H) (hP : va_P D vwCl (wl cs LM NM ad M ++ X) H) {ls : Array Slot} (hl : lv_has ls 4 [(0, .ref (ad 0)), (1, .int a1)]) (hret : ∀ (pc : Nat) (ls : Array Slot) (v : Int32), some v = res → decode cX8_lengthOf pc = .ok (.ireturn, 1) → W p l e R s m args below meth c H locs 0 0 Q (F0 m pc ls [.int v])) : W p l e R s m args below meth c H locs 0 0 Q (F0 m 0 ls []) := by
  obtain ⟨hx, hb, hml, hown, hts⟩ := id CX
  have hw : ∀ w ∈ WG, w.before args s = true := fun w h => hts w (List.mem_cons_of_mem _ h)
  have lk_47 := hw _ m4_117
  have lk_13 := hw _ m4_119
  unfold gX8_lengthOf at hg
  refine lv_iconst (v := 0) hx hb dX8_lengthOf_0 (by decide) ?_
  refine lv_istore_n (lv' := [(2, .int (0 : Int32)), (0, .ref (ad 0)), (1, .int a1)]) hx hb dX8_lengthOf_1 rfl hl (by decide) rfl (fun ls hl => ?_)
  refine lv_iconst (v := 0) hx hb dX8_lengthOf_2 (by decide) ?_
  refine lv_istore_n (lv' := [(3, .int (0 : Int32)), (2, .int (0 : Int32)), (0, .ref (ad 0)), (1, .int a1)]) hx hb dX8_lengthOf_3 rfl hl (by decide) rfl (fun ls hl => ?_)
  have kL4_13 : ∀ (n3 : Nat) (x1 : Int32) (x2 : Int32) (ls : Array Slot), lv_has ls 4 [(0, .ref (ad 0)), (1, .int a1), (2, .int x1), (3, .int x2)] → gX8_lengthOf_L4 M a1 n3 x1 x2 = res → W p l e R s m args below meth c H locs 0 0 Q (F0 m 4 ls []) := by
    intro n3
    induction n3 with
    | zero =>
      intro x1 x2 ls hl hg
      rw [gX8_lengthOf_L4] at hg
      exact absurd hg.symm hne
    | succ n3 ih =>
      intro x1 x2 ls hl hg
      rw [gX8_lengthOf_L4] at hg
      refine lv_iload_n hx hb dX8_lengthOf_4 rfl (lv_at hl 3 rfl) ?_
      refine lv_aload_n hx hb dX8_lengthOf_5 rfl (lv_at hl 0 rfl) ?_
      refine m_gi (C := RX8) (T := TX8) (n := 15) (ci := 6) hx hb hts in_RX8 hown hK hP (by decide) rfl rfl 1 (by decide) rfl lk_47 (fun _ h9 => h9) dX8_lengthOf_6 ?_
      refine lv_icmp_ge (tgt := 47) hx hb dX8_lengthOf_9 (by decide) (fun c4 => ?_) (fun c4 => ?_)
      · have hg := if_t hg c4
        refine lv_iload_n hx hb dX8_lengthOf_47 rfl (lv_at hl 2 rfl) ?_
        exact hret _ _ _ hg dX8_lengthOf_48
      · have hg := if_f hg c4
        refine lv_iload_n hx hb dX8_lengthOf_12 rfl (lv_at hl 2 rfl) ?_
        refine lv_aload_n hx hb dX8_lengthOf_13 rfl (lv_at hl 0 rfl) ?_
        refine lv_iload_n hx hb dX8_lengthOf_14 rfl (lv_at hl 3 rfl) ?_
        obtain ⟨r5, q6, hg⟩ := bd_e hg hne
        refine r_calli (W.runV (As := [.int x2]) (rest := [.int x1]) CX (ctX8_isToken l D sw cs ad X M x2 q6) (cwV 1 hts (gwV m5_46 m5_48 mp3_10 m1_7 m5_49) rfl rfl rfl (by decide +kernel) ⟨Nat.le_trans (Nat.le_of_ble_eq_true rfl) hR.1, Nat.le_trans (Nat.le_of_ble_eq_true rfl) hR.2⟩) (rPreV hSW hK hP (by decide) rfl rfl _) rfl rfl hl.1 rfl (lv_room (Nat.le_of_ble_eq_true rfl)) dX8_lengthOf_15 ⟨Nat.zero_le _, Nat.zero_le _⟩) ?_
        refine lv_if_eq (tgt := 38) hx hb dX8_lengthOf_18 (by decide) (fun c7 => ?_) (fun c7 => ?_)
        · have hg := if_t hg c7
          refine lv_iconst (v := 0) hx hb dX8_lengthOf_38 (by decide) ?_
          refine lv_iadd hx hb dX8_lengthOf_39 ?_
          refine lv_istore_n (lv' := [(2, .int (x1 + (0 : Int32))), (0, .ref (ad 0)), (1, .int a1), (3, .int x2)]) hx hb dX8_lengthOf_40 rfl hl (by decide) rfl (fun ls hl => ?_)
          obtain ⟨x8, hx8, hg⟩ := lt_e hg
          refine lv_iinc (v := x8) (lv' := [(3, .int x8), (2, .int (x1 + (0 : Int32))), (0, .ref (ad 0)), (1, .int a1)]) hx hb dX8_lengthOf_41 hl (k := 3) rfl (hx8.symm) (by decide) rfl (fun ls hl => ?_)
          refine lv_goto (tgt := 4) hx hb dX8_lengthOf_44 (by decide) ?_
          exact ih _ _ _ (lv_sub hl [2, 3, 1, 0] rfl) hg
        · have hg := if_f hg c7
          refine lv_aload_n hx hb dX8_lengthOf_21 rfl (lv_at hl 0 rfl) ?_
          refine m_gr (C := RX8) (T := TX8) (n := 15) (ci := 6) hx hb hts in_RX8 hown hK hP (by decide) rfl rfl 3 (by decide) rfl lk_13 (fun _ h9 => h9) dX8_lengthOf_22 ?_
          refine lv_iload_n hx hb dX8_lengthOf_25 rfl (lv_at hl 3 rfl) ?_
          obtain ⟨b9, hg⟩ := ck_e hg hne
          refine m_ld hx hb hK hP (by decide) rfl b9 dX8_lengthOf_26 ?_
          refine lv_iload_n hx hb dX8_lengthOf_27 rfl (lv_at hl 1 rfl) ?_
          refine r_calli (W.runS (As := [.int (M 2 (x2).toNatClampNeg), .int a1]) (rest := [.int x1]) CX (ctX8_has l (M 2 (x2).toNatClampNeg) a1) (va_cwS 2 hts (gwS m5_70 m5_71 m1_7 m5_72) rfl rfl rfl (by decide +kernel) ⟨Nat.le_trans (Nat.le_of_ble_eq_true rfl) hR.1, Nat.le_trans (Nat.le_of_ble_eq_true rfl) hR.2⟩) (pPreS _) rfl rfl hl.1 rfl (lv_room (Nat.le_of_ble_eq_true rfl)) dX8_lengthOf_28 ⟨Nat.zero_le _, Nat.zero_le _⟩) ?_
          refine lv_if_eq (tgt := 38) hx hb dX8_lengthOf_31 (by decide) (fun c10 => ?_) (fun c10 => ?_)
          · have hg := if_t hg c10
            refine lv_iconst (v := 0) hx hb dX8_lengthOf_38 (by decide) ?_
            refine lv_iadd hx hb dX8_lengthOf_39 ?_
            refine lv_istore_n (lv' := [(2, .int (x1 + (0 : Int32))), (0, .ref (ad 0)), (1, .int a1), (3, .int x2)]) hx hb dX8_lengthOf_40 rfl hl (by decide) rfl (fun ls hl => ?_)
            obtain ⟨x11, hx11, hg⟩ := lt_e hg
            refine lv_iinc (v := x11) (lv' := [(3, .int x11), (2, .int (x1 + (0 : Int32))), (0, .ref (ad 0)), (1, .int a1)]) hx hb dX8_lengthOf_41 hl (k := 3) rfl (hx11.symm) (by decide) rfl (fun ls hl => ?_)
            refine lv_goto (tgt := 4) hx hb dX8_lengthOf_44 (by decide) ?_
            exact ih _ _ _ (lv_sub hl [2, 3, 1, 0] rfl) hg
          · have hg := if_f hg c10
            refine lv_iconst (v := 1) hx hb dX8_lengthOf_34 (by decide) ?_
            refine lv_goto (tgt := 39) hx hb dX8_lengthOf_35 (by decide) ?_
            refine lv_iadd hx hb dX8_lengthOf_39 ?_
            refine lv_istore_n (lv' := [(2, .int (x1 + (1 : Int32))), (0, .ref (ad 0)), (1, .int a1), (3, .int x2)]) hx hb dX8_lengthOf_40 rfl hl (by decide) rfl (fun ls hl => ?_)
            obtain ⟨x12, hx12, hg⟩ := lt_e hg
            refine lv_iinc (v := x12) (lv' := [(3, .int x12), (2, .int (x1 + (1 : Int32))), (0, .ref (ad 0)), (1, .int a1)]) hx hb dX8_lengthOf_41 hl (k := 3) rfl (hx12.symm) (by decide) rfl (fun ls hl => ?_)
            refine lv_goto (tgt := 4) hx hb dX8_lengthOf_44 (by decide) ?_
            exact ih _ _ _ (lv_sub hl [2, 3, 1, 0] rfl) hg
  exact kL4_13 FU _ _ _ (lv_sub hl [2, 3, 1, 0] rfl) hg
theorem ctX8_lengthOf (l : Launch) (D : va_G) (sw : Sw) (cs : Cs) (ad : Nat → Nat) (X : va_W) (M : Mm) (a1 : Int32) {r : Int32} (hq : gX8_lengthOf M a1 = some r) : Met l yX8_lengthOf wsX8_lengthOf ({ frames := 1, cells := 0, slots := 0, locals := 21 }) (va_Pc [.ref (ad 0), .int a1] (rPre D sw cs LM NM ad M X)) (vp_Si (fun r' => r' = r)) 0 0 (fun _ => False) :=
  met_r rfl rfl (Nat.le_of_ble_eq_true rfl) (fun p e s m args below meth c ls CX hr hlk hK hSW hP hl => bX8_lengthOf M a1 hq (by simp) CX ⟨Nat.le_refl _, Nat.le_refl _⟩ hK hSW hP hl (fun pc ls v hv dg => W.iret CX.1 CX.2.1 hr (fun t ht hW => ⟨_, rfl, Option.some.inj hv, ht⟩) (fun _ h => by cases h) dg))

abbrev wsX8_find : List Cond := Cond.code yX8_find cX8_find 5 (some .int) :: WG
def gX8_find_L5 (M : Mm) (a1 : Int32) (a2 : Int32) : Nat → Int32 → Int32 → Option Int32
  | 0, _, _ => none
  | n3 + 1, x1, x2 => if (M 0 1) ≤ x2 then (some (-1 : Int32)) else if a2 < 0 then (some (-1 : Int32)) else bd (gX8_isToken M x2) fun r6 => if r6 = 0 then (lt (x2 + (1 : Int32)) fun x9 => gX8_find_L5 M a1 a2 n3 x1 x9) else if (x2 < 0 ∨ 80 ≤ (x2).toNatClampNeg) then none else if (gX8_has (M 2 (x2).toNatClampNeg) a1) = 0 then (lt (x2 + (1 : Int32)) fun x15 => gX8_find_L5 M a1 a2 n3 x1 x15) else if x1 = 0 then (some x2) else lt (x1 + (-1 : Int32)) fun x13 => lt (x2 + (1 : Int32)) fun x14 => gX8_find_L5 M a1 a2 n3 x13 x14
def gX8_find (M : Mm) (a1 : Int32) (a2 : Int32) : Option Int32 := gX8_find_L5 M a1 a2 FU a2 (0 : Int32)
set_option maxHeartbeats 4000000 in
set_option maxRecDepth 100000 in
theorem bX8_find {p : Program} {l : Launch} {e : Env} {R : Room} {s : State} {m : MethodId} {args : Array Value} {below : List Frame} {meth : Method} {c : Code} {H : Heap} {locs : List Loc} {Q : State → Prop} {D : va_G} {sw : Sw} {cs : Cs} {ad : Nat → Nat} {X : va_W} (M : Mm) (a1 : Int32) (a2 : Int32) {res : Option Int32} (hg : gX8_find M a1 a2 = res) (hne : res ≠ none) (CX : CallFix p m c cX8_find 5 s args wsX8_find RX8) (hR : 1 ≤ R.frames ∧ 21 ≤ R.locals) (hK : va_K D vwCl (tysC cs) s) (hSW : SW sw (fun _ => False) s H) (hP : va_P D vwCl (wl cs LM NM ad M ++ X) H) {ls : Array Slot} (hl : lv_has ls 5 [(0, .ref (ad 0)), (1, .int a1), (2, .int a2)]) (hret : ∀ (pc : Nat) (ls : Array Slot) (v : Int32), some v = res → decode cX8_find pc = .ok (.ireturn, 1) → W p l e R s m args below meth c H locs 0 0 Q (F0 m pc ls [.int v])) : W p l e R s m args below meth c H locs 0 0 Q (F0 m 0 ls []) := by
  obtain ⟨hx, hb, hml, hown, hts⟩ := id CX
  have hw : ∀ w ∈ WG, w.before args s = true := fun w h => hts w (List.mem_cons_of_mem _ h)
  have lk_47 := hw _ m4_117
  have lk_13 := hw _ m4_119
  unfold gX8_find at hg
  refine lv_iload_n hx hb dX8_find_0 rfl (lv_at hl 2 rfl) ?_
  refine lv_istore_n (lv' := [(3, .int a2), (0, .ref (ad 0)), (1, .int a1), (2, .int a2)]) hx hb dX8_find_1 rfl hl (by decide) rfl (fun ls hl => ?_)
  refine lv_iconst (v := 0) hx hb dX8_find_2 (by decide) ?_
  refine lv_istore (lv' := [(4, .int (0 : Int32)), (3, .int a2), (0, .ref (ad 0)), (1, .int a1), (2, .int a2)]) hx hb dX8_find_3 hl (by decide) rfl (fun ls hl => ?_)
  have kL5_16 : ∀ (n3 : Nat) (x1 : Int32) (x2 : Int32) (ls : Array Slot), lv_has ls 5 [(0, .ref (ad 0)), (1, .int a1), (2, .int a2), (3, .int x1), (4, .int x2)] → gX8_find_L5 M a1 a2 n3 x1 x2 = res → W p l e R s m args below meth c H locs 0 0 Q (F0 m 5 ls []) := by
    intro n3
    induction n3 with
    | zero =>
      intro x1 x2 ls hl hg
      rw [gX8_find_L5] at hg
      exact absurd hg.symm hne
    | succ n3 ih =>
      intro x1 x2 ls hl hg
      rw [gX8_find_L5] at hg
      refine lv_iload hx hb dX8_find_5 (lv_at hl 4 rfl) ?_
      refine lv_aload_n hx hb dX8_find_7 rfl (lv_at hl 0 rfl) ?_
      refine m_gi (C := RX8) (T := TX8) (n := 15) (ci := 6) hx hb hts in_RX8 hown hK hP (by decide) rfl rfl 1 (by decide) rfl lk_47 (fun _ h9 => h9) dX8_find_8 ?_
      refine lv_icmp_ge (tgt := 60) hx hb dX8_find_11 (by decide) (fun c4 => ?_) (fun c4 => ?_)
      · have hg := if_t hg c4
        refine lv_iconst (v := -1) hx hb dX8_find_60 (by decide) ?_
        exact hret _ _ _ hg dX8_find_61
      · have hg := if_f hg c4
        refine lv_iload_n hx hb dX8_find_14 rfl (lv_at hl 2 rfl) ?_
        refine lv_if_lt (tgt := 60) hx hb dX8_find_15 (by decide) (fun c5 => ?_) (fun c5 => ?_)
        · have hg := if_t hg c5
          refine lv_iconst (v := -1) hx hb dX8_find_60 (by decide) ?_
          exact hret _ _ _ hg dX8_find_61
        · have hg := if_f hg c5
          refine lv_aload_n hx hb dX8_find_18 rfl (lv_at hl 0 rfl) ?_
          refine lv_iload hx hb dX8_find_19 (lv_at hl 4 rfl) ?_
          obtain ⟨r6, q7, hg⟩ := bd_e hg hne
          refine r_calli (W.runV (As := [.int x2]) (rest := []) CX (ctX8_isToken l D sw cs ad X M x2 q7) (cwV 1 hts (gwV m5_46 m5_48 mp3_10 m1_7 m5_49) rfl rfl rfl (by decide +kernel) ⟨Nat.le_trans (Nat.le_of_ble_eq_true rfl) hR.1, Nat.le_trans (Nat.le_of_ble_eq_true rfl) hR.2⟩) (rPreV hSW hK hP (by decide) rfl rfl _) rfl rfl hl.1 rfl (lv_room (Nat.le_of_ble_eq_true rfl)) dX8_find_21 ⟨Nat.zero_le _, Nat.zero_le _⟩) ?_
          refine lv_if_eq (tgt := 54) hx hb dX8_find_24 (by decide) (fun c8 => ?_) (fun c8 => ?_)
          · have hg := if_t hg c8
            obtain ⟨x9, hx9, hg⟩ := lt_e hg
            refine lv_iinc (v := x9) (lv' := [(4, .int x9), (0, .ref (ad 0)), (1, .int a1), (2, .int a2), (3, .int x1)]) hx hb dX8_find_54 hl (k := 4) rfl (hx9.symm) (by decide) rfl (fun ls hl => ?_)
            refine lv_goto (tgt := 5) hx hb dX8_find_57 (by decide) ?_
            exact ih _ _ _ (lv_sub hl [1, 2, 3, 4, 0] rfl) hg
          · have hg := if_f hg c8
            refine lv_aload_n hx hb dX8_find_27 rfl (lv_at hl 0 rfl) ?_
            refine m_gr (C := RX8) (T := TX8) (n := 15) (ci := 6) hx hb hts in_RX8 hown hK hP (by decide) rfl rfl 3 (by decide) rfl lk_13 (fun _ h9 => h9) dX8_find_28 ?_
            refine lv_iload hx hb dX8_find_31 (lv_at hl 4 rfl) ?_
            obtain ⟨b10, hg⟩ := ck_e hg hne
            refine m_ld hx hb hK hP (by decide) rfl b10 dX8_find_33 ?_
            refine lv_iload_n hx hb dX8_find_34 rfl (lv_at hl 1 rfl) ?_
            refine r_calli (W.runS (As := [.int (M 2 (x2).toNatClampNeg), .int a1]) (rest := []) CX (ctX8_has l (M 2 (x2).toNatClampNeg) a1) (va_cwS 2 hts (gwS m5_70 m5_71 m1_7 m5_72) rfl rfl rfl (by decide +kernel) ⟨Nat.le_trans (Nat.le_of_ble_eq_true rfl) hR.1, Nat.le_trans (Nat.le_of_ble_eq_true rfl) hR.2⟩) (pPreS _) rfl rfl hl.1 rfl (lv_room (Nat.le_of_ble_eq_true rfl)) dX8_find_35 ⟨Nat.zero_le _, Nat.zero_le _⟩) ?_
            refine lv_if_ne (tgt := 44) hx hb dX8_find_38 (by decide) (fun c11 => ?_) (fun c11 => ?_)
            · have hg := if_f hg c11
              refine lv_iload_n hx hb dX8_find_44 rfl (lv_at hl 3 rfl) ?_
              refine lv_if_ne (tgt := 51) hx hb dX8_find_45 (by decide) (fun c12 => ?_) (fun c12 => ?_)
              · have hg := if_f hg c12
                obtain ⟨x13, hx13, hg⟩ := lt_e hg
                refine lv_iinc (v := x13) (lv' := [(3, .int x13), (0, .ref (ad 0)), (1, .int a1), (2, .int a2), (4, .int x2)]) hx hb dX8_find_51 hl (k := 3) rfl (hx13.symm) (by decide) rfl (fun ls hl => ?_)
                obtain ⟨x14, hx14, hg⟩ := lt_e hg
                refine lv_iinc (v := x14) (lv' := [(4, .int x14), (3, .int x13), (0, .ref (ad 0)), (1, .int a1), (2, .int a2)]) hx hb dX8_find_54 hl (k := 4) rfl (hx14.symm) (by decide) rfl (fun ls hl => ?_)
                refine lv_goto (tgt := 5) hx hb dX8_find_57 (by decide) ?_
                exact ih _ _ _ (lv_sub hl [2, 3, 4, 1, 0] rfl) hg
              · have hg := if_t hg c12
                refine lv_iload hx hb dX8_find_48 (lv_at hl 4 rfl) ?_
                exact hret _ _ _ hg dX8_find_50
            · have hg := if_t hg c11
              refine lv_goto (tgt := 54) hx hb dX8_find_41 (by decide) ?_
              obtain ⟨x15, hx15, hg⟩ := lt_e hg
              refine lv_iinc (v := x15) (lv' := [(4, .int x15), (0, .ref (ad 0)), (1, .int a1), (2, .int a2), (3, .int x1)]) hx hb dX8_find_54 hl (k := 4) rfl (hx15.symm) (by decide) rfl (fun ls hl => ?_)
              refine lv_goto (tgt := 5) hx hb dX8_find_57 (by decide) ?_
              exact ih _ _ _ (lv_sub hl [1, 2, 3, 4, 0] rfl) hg
  exact kL5_16 FU _ _ _ (lv_sub hl [2, 3, 4, 1, 0] rfl) hg
theorem ctX8_find (l : Launch) (D : va_G) (sw : Sw) (cs : Cs) (ad : Nat → Nat) (X : va_W) (M : Mm) (a1 : Int32) (a2 : Int32) {r : Int32} (hq : gX8_find M a1 a2 = some r) : Met l yX8_find wsX8_find ({ frames := 1, cells := 0, slots := 0, locals := 21 }) (va_Pc [.ref (ad 0), .int a1, .int a2] (rPre D sw cs LM NM ad M X)) (vp_Si (fun r' => r' = r)) 0 0 (fun _ => False) :=
  met_r rfl rfl (Nat.le_of_ble_eq_true rfl) (fun p e s m args below meth c ls CX hr hlk hK hSW hP hl => bX8_find M a1 a2 hq (by simp) CX ⟨Nat.le_refl _, Nat.le_refl _⟩ hK hSW hP hl (fun pc ls v hv dg => W.iret CX.1 CX.2.1 hr (fun t ht hW => ⟨_, rfl, Option.some.inj hv, ht⟩) (fun _ h => by cases h) dg))

abbrev wsX8_areSame : List Cond := Cond.code yX8_areSame cX8_areSame 6 (some .boolean) :: WG
def gX8_areSame_L25 (M : Mm) (a1 : Int32) (a2 : Int32) : Nat → Int32 → Int32 → Int32 → Option Int32
  | 0, _, _, _ => none
  | n12 + 1, x9, x10, x11 => if x9 ≤ x11 then (if ¬ (x10 = 0 ∨ x10 = 1) then none else some x10) else if x10 = 0 then (if ¬ (x10 = 0 ∨ x10 = 1) then none else some x10) else bd (gX8_find M a1 x11) fun r17 => if (r17 < 0 ∨ 80 ≤ (r17).toNatClampNeg) then none else bd (gX8_find M a2 x11) fun r20 => if (r20 < 0 ∨ 80 ≤ (r20).toNatClampNeg) then none else if (M 1 (r17).toNatClampNeg) = (M 1 (r20).toNatClampNeg) then (lt (x11 + (1 : Int32)) fun x25 => gX8_areSame_L25 M a1 a2 n12 x9 (1 : Int32) x25) else lt (x11 + (1 : Int32)) fun x24 => gX8_areSame_L25 M a1 a2 n12 x9 (0 : Int32) x24
def gX8_areSame (M : Mm) (a1 : Int32) (a2 : Int32) : Option Int32 := bd (gX8_lengthOf M a1) fun r1 => bd (gX8_lengthOf M a2) fun r3 => lt (fun (x6 : Int32) (s7 : Int32) => gX8_areSame_L25 M a1 a2 FU x6 s7 (0 : Int32)) fun J8 => if r1 = r3 then (J8 r1 (1 : Int32)) else J8 r1 (0 : Int32)
set_option maxHeartbeats 4000000 in
set_option maxRecDepth 100000 in
theorem bX8_areSame {p : Program} {l : Launch} {e : Env} {R : Room} {s : State} {m : MethodId} {args : Array Value} {below : List Frame} {meth : Method} {c : Code} {H : Heap} {locs : List Loc} {Q : State → Prop} {D : va_G} {sw : Sw} {cs : Cs} {ad : Nat → Nat} {X : va_W} (M : Mm) (a1 : Int32) (a2 : Int32) {res : Option Int32} (hg : gX8_areSame M a1 a2 = res) (hne : res ≠ none) (CX : CallFix p m c cX8_areSame 6 s args wsX8_areSame RX8) (hR : 2 ≤ R.frames ∧ 45 ≤ R.locals) (hK : va_K D vwCl (tysC cs) s) (hSW : SW sw (fun _ => False) s H) (hP : va_P D vwCl (wl cs LM NM ad M ++ X) H) {ls : Array Slot} (hl : lv_has ls 6 [(0, .ref (ad 0)), (1, .int a1), (2, .int a2)]) (hret : ∀ (pc : Nat) (ls : Array Slot) (v : Int32), some v = res → decode cX8_areSame pc = .ok (.ireturn, 1) → narrow .boolean (.int v) = .int v → W p l e R s m args below meth c H locs 0 0 Q (F0 m pc ls [.int v])) : W p l e R s m args below meth c H locs 0 0 Q (F0 m 0 ls []) := by
  obtain ⟨hx, hb, hml, hown, hts⟩ := id CX
  have hw : ∀ w ∈ WG, w.before args s = true := fun w h => hts w (List.mem_cons_of_mem _ h)
  have lk_9 := hw _ m4_118
  unfold gX8_areSame at hg
  refine lv_aload_n hx hb dX8_areSame_0 rfl (lv_at hl 0 rfl) ?_
  refine lv_iload_n hx hb dX8_areSame_1 rfl (lv_at hl 1 rfl) ?_
  obtain ⟨r1, q2, hg⟩ := bd_e hg hne
  refine r_calli (W.runV (As := [.int a1]) (rest := []) CX (ctX8_lengthOf l D sw cs ad X M a1 q2) (cwV 1 hts (gwV m5_93 m5_95 mp3_12 m1_7 m5_96) rfl rfl rfl (by decide +kernel) ⟨Nat.le_trans (Nat.le_of_ble_eq_true rfl) hR.1, Nat.le_trans (Nat.le_of_ble_eq_true rfl) hR.2⟩) (rPreV hSW hK hP (by decide) rfl rfl _) rfl rfl hl.1 rfl (lv_room (Nat.le_of_ble_eq_true rfl)) dX8_areSame_2 ⟨Nat.zero_le _, Nat.zero_le _⟩) ?_
  refine lv_istore_n (lv' := [(3, .int r1), (0, .ref (ad 0)), (1, .int a1), (2, .int a2)]) hx hb dX8_areSame_5 rfl hl (by decide) rfl (fun ls hl => ?_)
  refine lv_iload_n hx hb dX8_areSame_6 rfl (lv_at hl 0 rfl) ?_
  refine lv_aload_n hx hb dX8_areSame_7 rfl (lv_at hl 1 rfl) ?_
  refine lv_iload_n hx hb dX8_areSame_8 rfl (lv_at hl 3 rfl) ?_
  obtain ⟨r3, q4, hg⟩ := bd_e hg hne
  refine r_calli (W.runV (As := [.int a2]) (rest := [.int r1]) CX (ctX8_lengthOf l D sw cs ad X M a2 q4) (cwV 1 hts (gwV m5_93 m5_95 mp3_12 m1_7 m5_96) rfl rfl rfl (by decide +kernel) ⟨Nat.le_trans (Nat.le_of_ble_eq_true rfl) hR.1, Nat.le_trans (Nat.le_of_ble_eq_true rfl) hR.2⟩) (rPreV hSW hK hP (by decide) rfl rfl _) rfl rfl hl.1 rfl (lv_room (Nat.le_of_ble_eq_true rfl)) dX8_areSame_9 ⟨Nat.zero_le _, Nat.zero_le _⟩) ?_
  obtain ⟨J8, hJ8, hg⟩ := lf2 hg
  have kJ8 : ∀ (x6 : Int32) (s7 : Int32) (ls : Array Slot), lv_has ls 6 [(0, .ref (ad 0)), (1, .int a1), (2, .int a2), (3, .int x6)] → J8 x6 s7 = res → W p l e R s m args below meth c H locs 0 0 Q (F0 m 20 ls [.int s7]) := by
    intro x6 s7 ls hl hg
    rw [hJ8] at hg
    refine lv_istore (lv' := [(4, .int s7), (0, .ref (ad 0)), (1, .int a1), (2, .int a2), (3, .int x6)]) hx hb dX8_areSame_20 hl (by decide) rfl (fun ls hl => ?_)
    refine lv_iconst (v := 0) hx hb dX8_areSame_22 (by decide) ?_
    refine lv_istore (lv' := [(5, .int (0 : Int32)), (4, .int s7), (0, .ref (ad 0)), (1, .int a1), (2, .int a2), (3, .int x6)]) hx hb dX8_areSame_23 hl (by decide) rfl (fun ls hl => ?_)
    have kL25_26 : ∀ (n12 : Nat) (x9 : Int32) (x10 : Int32) (x11 : Int32) (ls : Array Slot), lv_has ls 6 [(0, .ref (ad 0)), (1, .int a1), (2, .int a2), (3, .int x9), (4, .int x10), (5, .int x11)] → gX8_areSame_L25 M a1 a2 n12 x9 x10 x11 = res → W p l e R s m args below meth c H locs 0 0 Q (F0 m 25 ls []) := by
      intro n12
      induction n12 with
      | zero =>
        intro x9 x10 x11 ls hl hg
        rw [gX8_areSame_L25] at hg
        exact absurd hg.symm hne
      | succ n12 ih =>
        intro x9 x10 x11 ls hl hg
        rw [gX8_areSame_L25] at hg
        refine lv_iload hx hb dX8_areSame_25 (lv_at hl 5 rfl) ?_
        refine lv_iload_n hx hb dX8_areSame_27 rfl (lv_at hl 3 rfl) ?_
        refine lv_icmp_ge (tgt := 76) hx hb dX8_areSame_28 (by decide) (fun c13 => ?_) (fun c13 => ?_)
        · have hg := if_t hg c13
          refine lv_iload hx hb dX8_areSame_76 (lv_at hl 4 rfl) ?_
          obtain ⟨z14, hg⟩ := ck_e hg hne
          exact hret _ _ _ hg dX8_areSame_78 (z01 z14)
        · have hg := if_f hg c13
          refine lv_iload hx hb dX8_areSame_31 (lv_at hl 4 rfl) ?_
          refine lv_if_eq (tgt := 76) hx hb dX8_areSame_33 (by decide) (fun c15 => ?_) (fun c15 => ?_)
          · have hg := if_t hg c15
            refine lv_iload hx hb dX8_areSame_76 (lv_at hl 4 rfl) ?_
            obtain ⟨z16, hg⟩ := ck_e hg hne
            exact hret _ _ _ hg dX8_areSame_78 (z01 z16)
          · have hg := if_f hg c15
            refine lv_aload_n hx hb dX8_areSame_36 rfl (lv_at hl 0 rfl) ?_
            refine m_gr (C := RX8) (T := TX8) (n := 15) (ci := 6) hx hb hts in_RX8 hown hK hP (by decide) rfl rfl 2 (by decide) rfl lk_9 (fun _ h9 => h9) dX8_areSame_37 ?_
            refine lv_aload_n hx hb dX8_areSame_40 rfl (lv_at hl 0 rfl) ?_
            refine lv_iload_n hx hb dX8_areSame_41 rfl (lv_at hl 1 rfl) ?_
            refine lv_iload hx hb dX8_areSame_42 (lv_at hl 5 rfl) ?_
            obtain ⟨r17, q18, hg⟩ := bd_e hg hne
            refine r_calli (W.runV (As := [.int a1, .int x11]) (rest := [.ref (ad 1)]) CX (ctX8_find l D sw cs ad X M a1 x11 q18) (cwV 2 hts (gwV m5_101 m5_103 mp3_13 m1_7 m5_104) rfl rfl rfl (by decide +kernel) ⟨Nat.le_trans (Nat.le_of_ble_eq_true rfl) hR.1, Nat.le_trans (Nat.le_of_ble_eq_true rfl) hR.2⟩) (rPreV hSW hK hP (by decide) rfl rfl _) rfl rfl hl.1 rfl (lv_room (Nat.le_of_ble_eq_true rfl)) dX8_areSame_44 ⟨Nat.zero_le _, Nat.zero_le _⟩) ?_
            obtain ⟨b19, hg⟩ := ck_e hg hne
            refine m_ld hx hb hK hP (by decide) rfl b19 dX8_areSame_47 ?_
            refine lv_aload_n hx hb dX8_areSame_48 rfl (lv_at hl 0 rfl) ?_
            refine m_gr (C := RX8) (T := TX8) (n := 15) (ci := 6) hx hb hts in_RX8 hown hK hP (by decide) rfl rfl 2 (by decide) rfl lk_9 (fun _ h9 => h9) dX8_areSame_49 ?_
            refine lv_aload_n hx hb dX8_areSame_52 rfl (lv_at hl 0 rfl) ?_
            refine lv_iload_n hx hb dX8_areSame_53 rfl (lv_at hl 2 rfl) ?_
            refine lv_iload hx hb dX8_areSame_54 (lv_at hl 5 rfl) ?_
            obtain ⟨r20, q21, hg⟩ := bd_e hg hne
            refine r_calli (W.runV (As := [.int a2, .int x11]) (rest := [.ref (ad 1), .int (M 1 (r17).toNatClampNeg)]) CX (ctX8_find l D sw cs ad X M a2 x11 q21) (cwV 2 hts (gwV m5_101 m5_103 mp3_13 m1_7 m5_104) rfl rfl rfl (by decide +kernel) ⟨Nat.le_trans (Nat.le_of_ble_eq_true rfl) hR.1, Nat.le_trans (Nat.le_of_ble_eq_true rfl) hR.2⟩) (rPreV hSW hK hP (by decide) rfl rfl _) rfl rfl hl.1 rfl (lv_room (Nat.le_of_ble_eq_true rfl)) dX8_areSame_56 ⟨Nat.zero_le _, Nat.zero_le _⟩) ?_
            obtain ⟨b22, hg⟩ := ck_e hg hne
            refine m_ld hx hb hK hP (by decide) rfl b22 dX8_areSame_59 ?_
            refine lv_icmp_ne (tgt := 67) hx hb dX8_areSame_60 (by decide) (fun c23 => ?_) (fun c23 => ?_)
            · have hg := if_f hg c23
              refine lv_iconst (v := 0) hx hb dX8_areSame_67 (by decide) ?_
              refine lv_istore (lv' := [(4, .int (0 : Int32)), (0, .ref (ad 0)), (1, .int a1), (2, .int a2), (3, .int x9), (5, .int x11)]) hx hb dX8_areSame_68 hl (by decide) rfl (fun ls hl => ?_)
              obtain ⟨x24, hx24, hg⟩ := lt_e hg
              refine lv_iinc (v := x24) (lv' := [(5, .int x24), (4, .int (0 : Int32)), (0, .ref (ad 0)), (1, .int a1), (2, .int a2), (3, .int x9)]) hx hb dX8_areSame_70 hl (k := 5) rfl (hx24.symm) (by decide) rfl (fun ls hl => ?_)
              refine lv_goto (tgt := 25) hx hb dX8_areSame_73 (by decide) ?_
              exact ih _ _ _ _ (lv_sub hl [2, 3, 4, 5, 1, 0] rfl) hg
            · have hg := if_t hg c23
              refine lv_iconst (v := 1) hx hb dX8_areSame_63 (by decide) ?_
              refine lv_goto (tgt := 68) hx hb dX8_areSame_64 (by decide) ?_
              refine lv_istore (lv' := [(4, .int (1 : Int32)), (0, .ref (ad 0)), (1, .int a1), (2, .int a2), (3, .int x9), (5, .int x11)]) hx hb dX8_areSame_68 hl (by decide) rfl (fun ls hl => ?_)
              obtain ⟨x25, hx25, hg⟩ := lt_e hg
              refine lv_iinc (v := x25) (lv' := [(5, .int x25), (4, .int (1 : Int32)), (0, .ref (ad 0)), (1, .int a1), (2, .int a2), (3, .int x9)]) hx hb dX8_areSame_70 hl (k := 5) rfl (hx25.symm) (by decide) rfl (fun ls hl => ?_)
              refine lv_goto (tgt := 25) hx hb dX8_areSame_73 (by decide) ?_
              exact ih _ _ _ _ (lv_sub hl [2, 3, 4, 5, 1, 0] rfl) hg
    exact kL25_26 FU _ _ _ _ (lv_sub hl [2, 3, 4, 5, 1, 0] rfl) hg
  refine lv_icmp_ne (tgt := 19) hx hb dX8_areSame_12 (by decide) (fun c5 => ?_) (fun c5 => ?_)
  · have hg := if_f hg c5
    refine lv_iconst (v := 0) hx hb dX8_areSame_19 (by decide) ?_
    exact kJ8 _ _ _ (lv_sub hl [1, 2, 3, 0] rfl) hg
  · have hg := if_t hg c5
    refine lv_iconst (v := 1) hx hb dX8_areSame_15 (by decide) ?_
    refine lv_goto (tgt := 20) hx hb dX8_areSame_16 (by decide) ?_
    exact kJ8 _ _ _ (lv_sub hl [1, 2, 3, 0] rfl) hg
theorem ctX8_areSame (l : Launch) (D : va_G) (sw : Sw) (cs : Cs) (ad : Nat → Nat) (X : va_W) (M : Mm) (a1 : Int32) (a2 : Int32) {r : Int32} (hq : gX8_areSame M a1 a2 = some r) : Met l yX8_areSame wsX8_areSame ({ frames := 2, cells := 0, slots := 0, locals := 45 }) (va_Pc [.ref (ad 0), .int a1, .int a2] (rPre D sw cs LM NM ad M X)) (vp_Si (fun r' => r' = r)) 0 0 (fun _ => False) :=
  met_r rfl rfl (Nat.le_of_ble_eq_true rfl) (fun p e s m args below meth c ls CX hr hlk hK hSW hP hl => bX8_areSame M a1 a2 hq (by simp) CX ⟨Nat.le_refl _, Nat.le_refl _⟩ hK hSW hP hl (fun pc ls v hv dg hz => W.zret (ty := .boolean) CX.1 CX.2.1 hr hz (fun t ht hW => ⟨_, rfl, Option.some.inj hv, ht⟩) (fun _ h => by cases h) dg))

abbrev wsX8_push : List Cond := Cond.code yX8_push cX8_push 3 none :: WG
def gX8_push (M : Mm) (a1 : Int32) (a2 : Int32) : Option Mm := if (a1 < 0 ∨ 16 ≤ (a1).toNatClampNeg) then none else if ((((400 : Int32) * a1) + (M 5 (a1).toNatClampNeg)) < 0 ∨ 6400 ≤ ((((400 : Int32) * a1) + (M 5 (a1).toNatClampNeg))).toNatClampNeg) then none else lt (um M 4 ((((400 : Int32) * a1) + (M 5 (a1).toNatClampNeg))).toNatClampNeg a2) fun M3 => if (a1 < 0 ∨ 16 ≤ (a1).toNatClampNeg) then none else if (a1 < 0 ∨ 16 ≤ (a1).toNatClampNeg) then none else lt (um M3 5 (a1).toNatClampNeg ((M3 5 (a1).toNatClampNeg) + (1 : Int32))) fun M6 => some M6
set_option maxHeartbeats 4000000 in
set_option maxRecDepth 100000 in
theorem bX8_push {p : Program} {l : Launch} {e : Env} {R : Room} {s : State} {m : MethodId} {args : Array Value} {below : List Frame} {meth : Method} {c : Code} {H : Heap} {locs : List Loc} {Q : State → Prop} {D : va_G} {sw : Sw} {cs : Cs} {ad : Nat → Nat} {X : va_W} {A : Nat → Prop} (M : Mm) (a1 : Int32) (a2 : Int32) {res : Option Mm} (hg : gX8_push M a1 a2 = res) (hne : res ≠ none) (CX : CallFix p m c cX8_push 3 s args wsX8_push RX8) (hR : 0 ≤ R.frames ∧ 0 ≤ R.locals) (hK : va_K D vwCl (tysC cs) s) (hSW : SW sw A s s.heap) (hP : va_P D vwCl (wl cs LM NM ad M ++ X) H) (hD : va_D A (wl cs LM NM ad M ++ X)) (hS : va_S A s.heap H locs) (hA : ∀ q, s.heap.size ≤ q → A q) {ls : Array Slot} (hl : lv_has ls 3 [(0, .ref (ad 0)), (1, .int a1), (2, .int a2)]) (hret : ∀ (pc : Nat) (ls : Array Slot) (H : Heap) (locs : List Loc) (M9 : Mm), some M9 = res → decode cX8_push pc = .ok (.return_, 1) → va_P D vwCl (wl cs LM NM ad M9 ++ X) H → va_D A (wl cs LM NM ad M9 ++ X) → va_S A s.heap H locs → W p l e R s m args below meth c H locs 0 0 Q (F0 m pc ls [])) : W p l e R s m args below meth c H locs 0 0 Q (F0 m 0 ls []) := by
  obtain ⟨hx, hb, hml, hown, hts⟩ := id CX
  have hw : ∀ w ∈ WG, w.before args s = true := fun w h => hts w (List.mem_cons_of_mem _ h)
  have lk_19 := hw _ m4_121
  have lk_22 := hw _ m4_122
  unfold gX8_push at hg
  refine lv_aload_n hx hb dX8_push_0 rfl (lv_at hl 0 rfl) ?_
  refine m_gr (C := RX8) (T := TX8) (n := 15) (ci := 6) hx hb hts in_RX8 hown hK hP (by decide) rfl rfl 5 (by decide) rfl lk_19 (fun _ h9 => h9) dX8_push_1 ?_
  refine lv_sipush (v := 400) hx hb dX8_push_4 (by decide) ?_
  refine lv_iload_n hx hb dX8_push_7 rfl (lv_at hl 1 rfl) ?_
  refine lv_imul hx hb dX8_push_8 ?_
  refine lv_aload_n hx hb dX8_push_9 rfl (lv_at hl 0 rfl) ?_
  refine m_gr (C := RX8) (T := TX8) (n := 15) (ci := 6) hx hb hts in_RX8 hown hK hP (by decide) rfl rfl 6 (by decide) rfl lk_22 (fun _ h9 => h9) dX8_push_10 ?_
  refine lv_iload_n hx hb dX8_push_13 rfl (lv_at hl 1 rfl) ?_
  obtain ⟨b1, hg⟩ := ck_e hg hne
  refine m_ld hx hb hK hP (by decide) rfl b1 dX8_push_14 ?_
  refine lv_iadd hx hb dX8_push_15 ?_
  refine lv_iload_n hx hb dX8_push_16 rfl (lv_at hl 2 rfl) ?_
  obtain ⟨b2, hg⟩ := ck_e hg hne
  obtain ⟨M3, hM3, hg⟩ := lt_e hg
  refine m_st hx hb hK hP hD hS (by decide) rfl b2 dX8_push_17 hM3 (fun H locs hP hD hS => ?_)
  refine lv_aload_n hx hb dX8_push_18 rfl (lv_at hl 0 rfl) ?_
  refine m_gr (C := RX8) (T := TX8) (n := 15) (ci := 6) hx hb hts in_RX8 hown hK hP (by decide) rfl rfl 6 (by decide) rfl lk_22 (fun _ h9 => h9) dX8_push_19 ?_
  refine lv_iload_n hx hb dX8_push_22 rfl (lv_at hl 1 rfl) ?_
  refine lv_dup2_11 hx hb dX8_push_23 rfl rfl ?_
  obtain ⟨b4, hg⟩ := ck_e hg hne
  refine m_ld hx hb hK hP (by decide) rfl b4 dX8_push_24 ?_
  refine lv_iconst (v := 1) hx hb dX8_push_25 (by decide) ?_
  refine lv_iadd hx hb dX8_push_26 ?_
  obtain ⟨b5, hg⟩ := ck_e hg hne
  obtain ⟨M6, hM6, hg⟩ := lt_e hg
  refine m_st hx hb hK hP hD hS (by decide) rfl b5 dX8_push_27 hM6 (fun H locs hP hD hS => ?_)
  exact hret _ _ _ _ _ hg dX8_push_28 hP hD hS
theorem ctX8_push (l : Launch) (D : va_G) (sw : Sw) (cs : Cs) (ad : Nat → Nat) (X : va_W) (sz : Nat) (M : Mm) (a1 : Int32) (a2 : Int32) {M1 : Mm} (hq : gX8_push M a1 a2 = some M1) : Met l yX8_push wsX8_push ({ frames := 0, cells := 0, slots := 0, locals := 0 }) (va_Pc [.ref (ad 0), .int a1, .int a2] (wPre D sw cs LM NM ad M X sz)) (wQv D cs LM NM ad M1 X sz) 0 0 (wA NM ad X sz) :=
  met_w rfl rfl (Nat.le_of_ble_eq_true rfl) (fun p e s m args below meth c ls CX hr hlk hK hSW hP hD hS hA hl => bX8_push M a1 a2 hq (by simp) CX ⟨Nat.le_refl _, Nat.le_refl _⟩ hK hSW hP hD hS hA hl (fun pc ls H locs M9 hv dg hP hD hS => W.vret CX.1 CX.2.1 hr (fun t ht hW => ⟨⟨(), rfl, trivial, wpost hP ht (Option.some.inj hv)⟩, hS.F ht⟩) hS.2.2 dg))

abbrev wsX8_isName : List Cond := Cond.code yX8_isName cX8_isName 1 (some .boolean) :: WG
def gX8_isName (a0 : Int32) : Int32 := if a0 < (97 : Int32) then ((0 : Int32)) else if (100 : Int32) < a0 then ((0 : Int32)) else (1 : Int32)
set_option maxHeartbeats 4000000 in
set_option maxRecDepth 100000 in
theorem bX8_isName {p : Program} {l : Launch} {e : Env} {R : Room} {s : State} {m : MethodId} {args : Array Value} {below : List Frame} {meth : Method} {c : Code} {H : Heap} {locs : List Loc} {Q : State → Prop} (a0 : Int32) {res : Int32} (hg : gX8_isName a0 = res) (CX : CallFix p m c cX8_isName 1 s args wsX8_isName RX8) (hR : 0 ≤ R.frames ∧ 0 ≤ R.locals) {ls : Array Slot} (hl : lv_has ls 1 [(0, .int a0)]) (hret : ∀ (pc : Nat) (ls : Array Slot) (v : Int32), v = res → decode cX8_isName pc = .ok (.ireturn, 1) → narrow .boolean (.int v) = .int v → W p l e R s m args below meth c H locs 0 0 Q (F0 m pc ls [.int v])) : W p l e R s m args below meth c H locs 0 0 Q (F0 m 0 ls []) := by
  obtain ⟨hx, hb, hml, hown, hts⟩ := id CX
  have hw : ∀ w ∈ WG, w.before args s = true := fun w h => hts w (List.mem_cons_of_mem _ h)
  unfold gX8_isName at hg
  refine lv_iload_n hx hb dX8_isName_0 rfl (lv_at hl 0 rfl) ?_
  refine lv_bipush (v := 97) hx hb dX8_isName_1 (by decide) ?_
  refine lv_icmp_lt (tgt := 16) hx hb dX8_isName_3 (by decide) (fun c1 => ?_) (fun c1 => ?_)
  · have hg := if_t hg c1
    refine lv_iconst (v := 0) hx hb dX8_isName_16 (by decide) ?_
    exact hret _ _ _ hg dX8_isName_17 rfl
  · have hg := if_f hg c1
    refine lv_iload_n hx hb dX8_isName_6 rfl (lv_at hl 0 rfl) ?_
    refine lv_bipush (v := 100) hx hb dX8_isName_7 (by decide) ?_
    refine lv_icmp_gt (tgt := 16) hx hb dX8_isName_9 (by decide) (fun c2 => ?_) (fun c2 => ?_)
    · have hg := if_t hg c2
      refine lv_iconst (v := 0) hx hb dX8_isName_16 (by decide) ?_
      exact hret _ _ _ hg dX8_isName_17 rfl
    · have hg := if_f hg c2
      refine lv_iconst (v := 1) hx hb dX8_isName_12 (by decide) ?_
      refine lv_goto (tgt := 17) hx hb dX8_isName_13 (by decide) ?_
      exact hret _ _ _ hg dX8_isName_17 rfl
theorem zX8_isName (a0 : Int32) : narrow .boolean (.int (gX8_isName a0)) = .int (gX8_isName a0) := by
  unfold gX8_isName
  repeat' (first | apply zif | rfl)
theorem ctX8_isName (l : Launch) (a0 : Int32) : Met l yX8_isName wsX8_isName ({ frames := 0, cells := 0, slots := 0, locals := 0 }) (va_Pc [.int a0] (fun _ => True)) (vp_Si (fun r' => r' = gX8_isName a0)) 0 0 (fun _ => False) :=
  met_p rfl rfl (Nat.le_of_ble_eq_true rfl) (fun p e s m args below meth c ls CX hr hlk hl => bX8_isName a0 rfl CX ⟨Nat.le_refl _, Nat.le_refl _⟩ hl (fun pc ls v hv dg hz => W.zret (ty := .boolean) CX.1 CX.2.1 hr hz (fun t ht hW => ⟨_, rfl, hv, ht⟩) (fun _ h => by cases h) dg))

abbrev wsX8_canBegin : List Cond := Cond.code yX8_canBegin cX8_canBegin 1 (some .boolean) :: WG
def gX8_canBegin (a0 : Int32) : Int32 := if (gX8_isName a0) = 0 then (if a0 = (123 : Int32) then ((1 : Int32)) else if a0 = (63 : Int32) then ((1 : Int32)) else if a0 = (33 : Int32) then ((1 : Int32)) else (0 : Int32)) else (1 : Int32)
set_option maxHeartbeats 4000000 in
set_option maxRecDepth 100000 in
theorem bX8_canBegin {p : Program} {l : Launch} {e : Env} {R : Room} {s : State} {m : MethodId} {args : Array Value} {below : List Frame} {meth : Method} {c : Code} {H : Heap} {locs : List Loc} {Q : State → Prop} (a0 : Int32) {res : Int32} (hg : gX8_canBegin a0 = res) (CX : CallFix p m c cX8_canBegin 1 s args wsX8_canBegin RX8) (hR : 1 ≤ R.frames ∧ 20 ≤ R.locals) {ls : Array Slot} (hl : lv_has ls 1 [(0, .int a0)]) (hret : ∀ (pc : Nat) (ls : Array Slot) (v : Int32), v = res → decode cX8_canBegin pc = .ok (.ireturn, 1) → narrow .boolean (.int v) = .int v → W p l e R s m args below meth c H locs 0 0 Q (F0 m pc ls [.int v])) : W p l e R s m args below meth c H locs 0 0 Q (F0 m 0 ls []) := by
  obtain ⟨hx, hb, hml, hown, hts⟩ := id CX
  have hw : ∀ w ∈ WG, w.before args s = true := fun w h => hts w (List.mem_cons_of_mem _ h)
  unfold gX8_canBegin at hg
  refine lv_iload_n hx hb dX8_canBegin_0 rfl (lv_at hl 0 rfl) ?_
  refine r_calli (W.runS (As := [.int a0]) (rest := []) CX (ctX8_isName l a0) (va_cwS 1 hts (gwS m5_148 m5_149 m1_7 m5_150) rfl rfl rfl (by decide +kernel) ⟨Nat.le_trans (Nat.le_of_ble_eq_true rfl) hR.1, Nat.le_trans (Nat.le_of_ble_eq_true rfl) hR.2⟩) (pPreS _) rfl rfl hl.1 rfl (lv_room (Nat.le_of_ble_eq_true rfl)) dX8_canBegin_1 ⟨Nat.zero_le _, Nat.zero_le _⟩) ?_
  refine lv_if_ne (tgt := 25) hx hb dX8_canBegin_4 (by decide) (fun c1 => ?_) (fun c1 => ?_)
  · have hg := if_f hg c1
    refine lv_iconst (v := 1) hx hb dX8_canBegin_25 (by decide) ?_
    refine lv_goto (tgt := 30) hx hb dX8_canBegin_26 (by decide) ?_
    exact hret _ _ _ hg dX8_canBegin_30 rfl
  · have hg := if_t hg c1
    refine lv_iload_n hx hb dX8_canBegin_7 rfl (lv_at hl 0 rfl) ?_
    refine lv_bipush (v := 123) hx hb dX8_canBegin_8 (by decide) ?_
    refine lv_icmp_eq (tgt := 25) hx hb dX8_canBegin_10 (by decide) (fun c2 => ?_) (fun c2 => ?_)
    · have hg := if_t hg c2
      refine lv_iconst (v := 1) hx hb dX8_canBegin_25 (by decide) ?_
      refine lv_goto (tgt := 30) hx hb dX8_canBegin_26 (by decide) ?_
      exact hret _ _ _ hg dX8_canBegin_30 rfl
    · have hg := if_f hg c2
      refine lv_iload_n hx hb dX8_canBegin_13 rfl (lv_at hl 0 rfl) ?_
      refine lv_bipush (v := 63) hx hb dX8_canBegin_14 (by decide) ?_
      refine lv_icmp_eq (tgt := 25) hx hb dX8_canBegin_16 (by decide) (fun c3 => ?_) (fun c3 => ?_)
      · have hg := if_t hg c3
        refine lv_iconst (v := 1) hx hb dX8_canBegin_25 (by decide) ?_
        refine lv_goto (tgt := 30) hx hb dX8_canBegin_26 (by decide) ?_
        exact hret _ _ _ hg dX8_canBegin_30 rfl
      · have hg := if_f hg c3
        refine lv_iload_n hx hb dX8_canBegin_19 rfl (lv_at hl 0 rfl) ?_
        refine lv_bipush (v := 33) hx hb dX8_canBegin_20 (by decide) ?_
        refine lv_icmp_ne (tgt := 29) hx hb dX8_canBegin_22 (by decide) (fun c4 => ?_) (fun c4 => ?_)
        · have hg := if_f hg c4
          refine lv_iconst (v := 0) hx hb dX8_canBegin_29 (by decide) ?_
          exact hret _ _ _ hg dX8_canBegin_30 rfl
        · have hg := if_t hg c4
          refine lv_iconst (v := 1) hx hb dX8_canBegin_25 (by decide) ?_
          refine lv_goto (tgt := 30) hx hb dX8_canBegin_26 (by decide) ?_
          exact hret _ _ _ hg dX8_canBegin_30 rfl
theorem zX8_canBegin (a0 : Int32) : narrow .boolean (.int (gX8_canBegin a0)) = .int (gX8_canBegin a0) := by
  unfold gX8_canBegin
  repeat' (first | apply zif | rfl | apply zX8_isName)
theorem ctX8_canBegin (l : Launch) (a0 : Int32) : Met l yX8_canBegin wsX8_canBegin ({ frames := 1, cells := 0, slots := 0, locals := 20 }) (va_Pc [.int a0] (fun _ => True)) (vp_Si (fun r' => r' = gX8_canBegin a0)) 0 0 (fun _ => False) :=
  met_p rfl rfl (Nat.le_of_ble_eq_true rfl) (fun p e s m args below meth c ls CX hr hlk hl => bX8_canBegin a0 rfl CX ⟨Nat.le_refl _, Nat.le_refl _⟩ hl (fun pc ls v hv dg hz => W.zret (ty := .boolean) CX.1 CX.2.1 hr hz (fun t ht hW => ⟨_, rfl, hv, ht⟩) (fun _ h => by cases h) dg))

abbrev wsX8_expandFactor : List Cond := Cond.code yX8_expandFactor cX8_expandFactor 4 (some .boolean) :: WG
def gX8_expandFactor (M : Mm) (a1 : Int32) (a2 : Int32) : Option (Int32 × Mm) := lt (fun (M2 : Mm) (s3 : Int32) => if a2 = (40 : Int32) then (bd (gX8_push M2 a1 (41 : Int32)) fun M16 => bd (gX8_push M16 a1 (4 : Int32)) fun M18 => if a2 = (45 : Int32) then (bd (gX8_push M18 a1 (8 : Int32)) fun M24 => bd (gX8_push M24 a1 a2) fun M26 => if ¬ (s3 = 0 ∨ s3 = 1) then none else some (s3, M26)) else bd (gX8_push M18 a1 a2) fun M21 => if ¬ (s3 = 0 ∨ s3 = 1) then none else some (s3, M21)) else if a2 = (45 : Int32) then (bd (gX8_push M2 a1 (8 : Int32)) fun M11 => bd (gX8_push M11 a1 a2) fun M13 => if ¬ (s3 = 0 ∨ s3 = 1) then none else some (s3, M13)) else bd (gX8_push M2 a1 a2) fun M8 => if ¬ (s3 = 0 ∨ s3 = 1) then none else some (s3, M8)) fun J4 => if a2 < (48 : Int32) then (if (gX8_isName a2) = 0 then (if a2 = (40 : Int32) then (J4 M (1 : Int32)) else if a2 = (45 : Int32) then (J4 M (1 : Int32)) else J4 M (0 : Int32)) else J4 M (1 : Int32)) else if a2 ≤ (57 : Int32) then (J4 M (1 : Int32)) else if (gX8_isName a2) = 0 then (if a2 = (40 : Int32) then (J4 M (1 : Int32)) else if a2 = (45 : Int32) then (J4 M (1 : Int32)) else J4 M (0 : Int32)) else J4 M (1 : Int32)
set_option maxHeartbeats 4000000 in
set_option maxRecDepth 100000 in
theorem bX8_expandFactor {p : Program} {l : Launch} {e : Env} {R : Room} {s : State} {m : MethodId} {args : Array Value} {below : List Frame} {meth : Method} {c : Code} {H : Heap} {locs : List Loc} {Q : State → Prop} {D : va_G} {sw : Sw} {cs : Cs} {ad : Nat → Nat} {X : va_W} {A : Nat → Prop} (M : Mm) (a1 : Int32) (a2 : Int32) {res : Option (Int32 × Mm)} (hg : gX8_expandFactor M a1 a2 = res) (hne : res ≠ none) (CX : CallFix p m c cX8_expandFactor 4 s args wsX8_expandFactor RX8) (hR : 1 ≤ R.frames ∧ 22 ≤ R.locals) (hK : va_K D vwCl (tysC cs) s) (hSW : SW sw A s s.heap) (hP : va_P D vwCl (wl cs LM NM ad M ++ X) H) (hD : va_D A (wl cs LM NM ad M ++ X)) (hS : va_S A s.heap H locs) (hA : ∀ q, s.heap.size ≤ q → A q) {ls : Array Slot} (hl : lv_has ls 4 [(0, .ref (ad 0)), (1, .int a1), (2, .int a2)]) (hret : ∀ (pc : Nat) (ls : Array Slot) (H : Heap) (locs : List Loc) (v : Int32) (M9 : Mm), some (v, M9) = res → decode cX8_expandFactor pc = .ok (.ireturn, 1) → narrow .boolean (.int v) = .int v → va_P D vwCl (wl cs LM NM ad M9 ++ X) H → va_D A (wl cs LM NM ad M9 ++ X) → va_S A s.heap H locs → W p l e R s m args below meth c H locs 0 0 Q (F0 m pc ls [.int v])) : W p l e R s m args below meth c H locs 0 0 Q (F0 m 0 ls []) := by
  obtain ⟨hx, hb, hml, hown, hts⟩ := id CX
  have hw : ∀ w ∈ WG, w.before args s = true := fun w h => hts w (List.mem_cons_of_mem _ h)
  unfold gX8_expandFactor at hg
  refine lv_iload_n hx hb dX8_expandFactor_0 rfl (lv_at hl 2 rfl) ?_
  refine lv_bipush (v := 48) hx hb dX8_expandFactor_1 (by decide) ?_
  obtain ⟨J4, hJ4, hg⟩ := lf2 hg
  have kJ4 : ∀ (M2 : Mm) (s3 : Int32) (H : Heap) (locs : List Loc) (ls : Array Slot), va_P D vwCl (wl cs LM NM ad M2 ++ X) H → va_D A (wl cs LM NM ad M2 ++ X) → va_S A s.heap H locs → lv_has ls 4 [(0, .ref (ad 0)), (1, .int a1), (2, .int a2)] → J4 M2 s3 = res → W p l e R s m args below meth c H locs 0 0 Q (F0 m 36 ls [.int s3]) := by
    intro M2 s3 H locs ls hP hD hS hl hg
    rw [hJ4] at hg
    refine lv_istore_n (lv' := [(3, .int s3), (0, .ref (ad 0)), (1, .int a1), (2, .int a2)]) hx hb dX8_expandFactor_36 rfl hl (by decide) rfl (fun ls hl => ?_)
    refine lv_iload_n hx hb dX8_expandFactor_37 rfl (lv_at hl 3 rfl) ?_
    refine lv_bipush (v := 40) hx hb dX8_expandFactor_38 (by decide) ?_
    refine lv_icmp_ne (tgt := 56) hx hb dX8_expandFactor_40 (by decide) (fun c5 => ?_) (fun c5 => ?_)
    · have hg := if_f hg c5
      refine lv_iload_n hx hb dX8_expandFactor_56 rfl (lv_at hl 3 rfl) ?_
      refine lv_bipush (v := 45) hx hb dX8_expandFactor_57 (by decide) ?_
      refine lv_icmp_ne (tgt := 69) hx hb dX8_expandFactor_59 (by decide) (fun c6 => ?_) (fun c6 => ?_)
      · have hg := if_f hg c6
        refine lv_aload_n hx hb dX8_expandFactor_69 rfl (lv_at hl 1 rfl) ?_
        refine lv_iload_n hx hb dX8_expandFactor_70 rfl (lv_at hl 2 rfl) ?_
        refine lv_iload_n hx hb dX8_expandFactor_71 rfl (lv_at hl 3 rfl) ?_
        obtain ⟨M8, q7, hg⟩ := bd_e hg hne
        refine w_callv (va_runV (As := [.int a1, .int a2]) (rest := []) CX (ctX8_push l D sw cs ad X H.size M2 a1 a2 q7) (cwV 2 hts (gwV m5_125 m5_127 mp4_1 m1_7 m5_128) rfl rfl rfl (by decide +kernel) ⟨Nat.le_trans (Nat.le_of_ble_eq_true rfl) hR.1, Nat.le_trans (Nat.le_of_ble_eq_true rfl) hR.2⟩) (wPreV hSW hS hA hK hP hD (by decide) rfl rfl _) rfl rfl hl.1 rfl (lv_room (Nat.le_of_ble_eq_true rfl)) dX8_expandFactor_72 ⟨Nat.zero_le _, Nat.zero_le _⟩) hD hS hA (fun H locs hP hD hS => ?_)
        refine lv_iload_n hx hb dX8_expandFactor_75 rfl (lv_at hl 0 rfl) ?_
        obtain ⟨z9, hg⟩ := ck_e hg hne
        exact hret _ _ _ _ _ _ hg dX8_expandFactor_76 (z01 z9) hP hD hS
      · have hg := if_t hg c6
        refine lv_aload_n hx hb dX8_expandFactor_62 rfl (lv_at hl 1 rfl) ?_
        refine lv_iload_n hx hb dX8_expandFactor_63 rfl (lv_at hl 2 rfl) ?_
        refine lv_bipush (v := 8) hx hb dX8_expandFactor_64 (by decide) ?_
        obtain ⟨M11, q10, hg⟩ := bd_e hg hne
        refine w_callv (va_runV (As := [.int a1, .int (8 : Int32)]) (rest := []) CX (ctX8_push l D sw cs ad X H.size M2 a1 (8 : Int32) q10) (cwV 2 hts (gwV m5_125 m5_127 mp4_1 m1_7 m5_128) rfl rfl rfl (by decide +kernel) ⟨Nat.le_trans (Nat.le_of_ble_eq_true rfl) hR.1, Nat.le_trans (Nat.le_of_ble_eq_true rfl) hR.2⟩) (wPreV hSW hS hA hK hP hD (by decide) rfl rfl _) rfl rfl hl.1 rfl (lv_room (Nat.le_of_ble_eq_true rfl)) dX8_expandFactor_66 ⟨Nat.zero_le _, Nat.zero_le _⟩) hD hS hA (fun H locs hP hD hS => ?_)
        refine lv_aload_n hx hb dX8_expandFactor_69 rfl (lv_at hl 1 rfl) ?_
        refine lv_iload_n hx hb dX8_expandFactor_70 rfl (lv_at hl 2 rfl) ?_
        refine lv_iload_n hx hb dX8_expandFactor_71 rfl (lv_at hl 3 rfl) ?_
        obtain ⟨M13, q12, hg⟩ := bd_e hg hne
        refine w_callv (va_runV (As := [.int a1, .int a2]) (rest := []) CX (ctX8_push l D sw cs ad X H.size M11 a1 a2 q12) (cwV 2 hts (gwV m5_125 m5_127 mp4_1 m1_7 m5_128) rfl rfl rfl (by decide +kernel) ⟨Nat.le_trans (Nat.le_of_ble_eq_true rfl) hR.1, Nat.le_trans (Nat.le_of_ble_eq_true rfl) hR.2⟩) (wPreV hSW hS hA hK hP hD (by decide) rfl rfl _) rfl rfl hl.1 rfl (lv_room (Nat.le_of_ble_eq_true rfl)) dX8_expandFactor_72 ⟨Nat.zero_le _, Nat.zero_le _⟩) hD hS hA (fun H locs hP hD hS => ?_)
        refine lv_iload_n hx hb dX8_expandFactor_75 rfl (lv_at hl 0 rfl) ?_
        obtain ⟨z14, hg⟩ := ck_e hg hne
        exact hret _ _ _ _ _ _ hg dX8_expandFactor_76 (z01 z14) hP hD hS
    · have hg := if_t hg c5
      refine lv_aload_n hx hb dX8_expandFactor_43 rfl (lv_at hl 1 rfl) ?_
      refine lv_iload_n hx hb dX8_expandFactor_44 rfl (lv_at hl 2 rfl) ?_
      refine lv_bipush (v := 41) hx hb dX8_expandFactor_45 (by decide) ?_
      obtain ⟨M16, q15, hg⟩ := bd_e hg hne
      refine w_callv (va_runV (As := [.int a1, .int (41 : Int32)]) (rest := []) CX (ctX8_push l D sw cs ad X H.size M2 a1 (41 : Int32) q15) (cwV 2 hts (gwV m5_125 m5_127 mp4_1 m1_7 m5_128) rfl rfl rfl (by decide +kernel) ⟨Nat.le_trans (Nat.le_of_ble_eq_true rfl) hR.1, Nat.le_trans (Nat.le_of_ble_eq_true rfl) hR.2⟩) (wPreV hSW hS hA hK hP hD (by decide) rfl rfl _) rfl rfl hl.1 rfl (lv_room (Nat.le_of_ble_eq_true rfl)) dX8_expandFactor_47 ⟨Nat.zero_le _, Nat.zero_le _⟩) hD hS hA (fun H locs hP hD hS => ?_)
      refine lv_aload_n hx hb dX8_expandFactor_50 rfl (lv_at hl 1 rfl) ?_
      refine lv_iload_n hx hb dX8_expandFactor_51 rfl (lv_at hl 2 rfl) ?_
      refine lv_iconst (v := 4) hx hb dX8_expandFactor_52 (by decide) ?_
      obtain ⟨M18, q17, hg⟩ := bd_e hg hne
      refine w_callv (va_runV (As := [.int a1, .int (4 : Int32)]) (rest := []) CX (ctX8_push l D sw cs ad X H.size M16 a1 (4 : Int32) q17) (cwV 2 hts (gwV m5_125 m5_127 mp4_1 m1_7 m5_128) rfl rfl rfl (by decide +kernel) ⟨Nat.le_trans (Nat.le_of_ble_eq_true rfl) hR.1, Nat.le_trans (Nat.le_of_ble_eq_true rfl) hR.2⟩) (wPreV hSW hS hA hK hP hD (by decide) rfl rfl _) rfl rfl hl.1 rfl (lv_room (Nat.le_of_ble_eq_true rfl)) dX8_expandFactor_53 ⟨Nat.zero_le _, Nat.zero_le _⟩) hD hS hA (fun H locs hP hD hS => ?_)
      refine lv_iload_n hx hb dX8_expandFactor_56 rfl (lv_at hl 3 rfl) ?_
      refine lv_bipush (v := 45) hx hb dX8_expandFactor_57 (by decide) ?_
      refine lv_icmp_ne (tgt := 69) hx hb dX8_expandFactor_59 (by decide) (fun c19 => ?_) (fun c19 => ?_)
      · have hg := if_f hg c19
        refine lv_aload_n hx hb dX8_expandFactor_69 rfl (lv_at hl 1 rfl) ?_
        refine lv_iload_n hx hb dX8_expandFactor_70 rfl (lv_at hl 2 rfl) ?_
        refine lv_iload_n hx hb dX8_expandFactor_71 rfl (lv_at hl 3 rfl) ?_
        obtain ⟨M21, q20, hg⟩ := bd_e hg hne
        refine w_callv (va_runV (As := [.int a1, .int a2]) (rest := []) CX (ctX8_push l D sw cs ad X H.size M18 a1 a2 q20) (cwV 2 hts (gwV m5_125 m5_127 mp4_1 m1_7 m5_128) rfl rfl rfl (by decide +kernel) ⟨Nat.le_trans (Nat.le_of_ble_eq_true rfl) hR.1, Nat.le_trans (Nat.le_of_ble_eq_true rfl) hR.2⟩) (wPreV hSW hS hA hK hP hD (by decide) rfl rfl _) rfl rfl hl.1 rfl (lv_room (Nat.le_of_ble_eq_true rfl)) dX8_expandFactor_72 ⟨Nat.zero_le _, Nat.zero_le _⟩) hD hS hA (fun H locs hP hD hS => ?_)
        refine lv_iload_n hx hb dX8_expandFactor_75 rfl (lv_at hl 0 rfl) ?_
        obtain ⟨z22, hg⟩ := ck_e hg hne
        exact hret _ _ _ _ _ _ hg dX8_expandFactor_76 (z01 z22) hP hD hS
      · have hg := if_t hg c19
        refine lv_aload_n hx hb dX8_expandFactor_62 rfl (lv_at hl 1 rfl) ?_
        refine lv_iload_n hx hb dX8_expandFactor_63 rfl (lv_at hl 2 rfl) ?_
        refine lv_bipush (v := 8) hx hb dX8_expandFactor_64 (by decide) ?_
        obtain ⟨M24, q23, hg⟩ := bd_e hg hne
        refine w_callv (va_runV (As := [.int a1, .int (8 : Int32)]) (rest := []) CX (ctX8_push l D sw cs ad X H.size M18 a1 (8 : Int32) q23) (cwV 2 hts (gwV m5_125 m5_127 mp4_1 m1_7 m5_128) rfl rfl rfl (by decide +kernel) ⟨Nat.le_trans (Nat.le_of_ble_eq_true rfl) hR.1, Nat.le_trans (Nat.le_of_ble_eq_true rfl) hR.2⟩) (wPreV hSW hS hA hK hP hD (by decide) rfl rfl _) rfl rfl hl.1 rfl (lv_room (Nat.le_of_ble_eq_true rfl)) dX8_expandFactor_66 ⟨Nat.zero_le _, Nat.zero_le _⟩) hD hS hA (fun H locs hP hD hS => ?_)
        refine lv_aload_n hx hb dX8_expandFactor_69 rfl (lv_at hl 1 rfl) ?_
        refine lv_iload_n hx hb dX8_expandFactor_70 rfl (lv_at hl 2 rfl) ?_
        refine lv_iload_n hx hb dX8_expandFactor_71 rfl (lv_at hl 3 rfl) ?_
        obtain ⟨M26, q25, hg⟩ := bd_e hg hne
        refine w_callv (va_runV (As := [.int a1, .int a2]) (rest := []) CX (ctX8_push l D sw cs ad X H.size M24 a1 a2 q25) (cwV 2 hts (gwV m5_125 m5_127 mp4_1 m1_7 m5_128) rfl rfl rfl (by decide +kernel) ⟨Nat.le_trans (Nat.le_of_ble_eq_true rfl) hR.1, Nat.le_trans (Nat.le_of_ble_eq_true rfl) hR.2⟩) (wPreV hSW hS hA hK hP hD (by decide) rfl rfl _) rfl rfl hl.1 rfl (lv_room (Nat.le_of_ble_eq_true rfl)) dX8_expandFactor_72 ⟨Nat.zero_le _, Nat.zero_le _⟩) hD hS hA (fun H locs hP hD hS => ?_)
        refine lv_iload_n hx hb dX8_expandFactor_75 rfl (lv_at hl 0 rfl) ?_
        obtain ⟨z27, hg⟩ := ck_e hg hne
        exact hret _ _ _ _ _ _ hg dX8_expandFactor_76 (z01 z27) hP hD hS
  refine lv_icmp_lt (tgt := 12) hx hb dX8_expandFactor_3 (by decide) (fun c1 => ?_) (fun c1 => ?_)
  · have hg := if_t hg c1
    refine lv_iload_n hx hb dX8_expandFactor_12 rfl (lv_at hl 2 rfl) ?_
    refine r_calli (W.runS (As := [.int a2]) (rest := []) CX (ctX8_isName l a2) (va_cwS 1 hts (gwS m5_148 m5_149 m1_7 m5_150) rfl rfl rfl (by decide +kernel) ⟨Nat.le_trans (Nat.le_of_ble_eq_true rfl) hR.1, Nat.le_trans (Nat.le_of_ble_eq_true rfl) hR.2⟩) (pPreS _) rfl rfl hl.1 rfl (lv_room (Nat.le_of_ble_eq_true rfl)) dX8_expandFactor_13 ⟨Nat.zero_le _, Nat.zero_le _⟩) ?_
    refine lv_if_ne (tgt := 31) hx hb dX8_expandFactor_16 (by decide) (fun c28 => ?_) (fun c28 => ?_)
    · have hg := if_f hg c28
      refine lv_iconst (v := 1) hx hb dX8_expandFactor_31 (by decide) ?_
      refine lv_goto (tgt := 36) hx hb dX8_expandFactor_32 (by decide) ?_
      exact kJ4 _ _ _ _ _ hP hD hS (lv_sub hl [0, 1, 2] rfl) hg
    · have hg := if_t hg c28
      refine lv_iload_n hx hb dX8_expandFactor_19 rfl (lv_at hl 2 rfl) ?_
      refine lv_bipush (v := 40) hx hb dX8_expandFactor_20 (by decide) ?_
      refine lv_icmp_eq (tgt := 31) hx hb dX8_expandFactor_22 (by decide) (fun c29 => ?_) (fun c29 => ?_)
      · have hg := if_t hg c29
        refine lv_iconst (v := 1) hx hb dX8_expandFactor_31 (by decide) ?_
        refine lv_goto (tgt := 36) hx hb dX8_expandFactor_32 (by decide) ?_
        exact kJ4 _ _ _ _ _ hP hD hS (lv_sub hl [0, 1, 2] rfl) hg
      · have hg := if_f hg c29
        refine lv_iload_n hx hb dX8_expandFactor_25 rfl (lv_at hl 2 rfl) ?_
        refine lv_bipush (v := 45) hx hb dX8_expandFactor_26 (by decide) ?_
        refine lv_icmp_ne (tgt := 35) hx hb dX8_expandFactor_28 (by decide) (fun c30 => ?_) (fun c30 => ?_)
        · have hg := if_f hg c30
          refine lv_iconst (v := 0) hx hb dX8_expandFactor_35 (by decide) ?_
          exact kJ4 _ _ _ _ _ hP hD hS (lv_sub hl [0, 1, 2] rfl) hg
        · have hg := if_t hg c30
          refine lv_iconst (v := 1) hx hb dX8_expandFactor_31 (by decide) ?_
          refine lv_goto (tgt := 36) hx hb dX8_expandFactor_32 (by decide) ?_
          exact kJ4 _ _ _ _ _ hP hD hS (lv_sub hl [0, 1, 2] rfl) hg
  · have hg := if_f hg c1
    refine lv_iload_n hx hb dX8_expandFactor_6 rfl (lv_at hl 2 rfl) ?_
    refine lv_bipush (v := 57) hx hb dX8_expandFactor_7 (by decide) ?_
    refine lv_icmp_le (tgt := 31) hx hb dX8_expandFactor_9 (by decide) (fun c31 => ?_) (fun c31 => ?_)
    · have hg := if_t hg c31
      refine lv_iconst (v := 1) hx hb dX8_expandFactor_31 (by decide) ?_
      refine lv_goto (tgt := 36) hx hb dX8_expandFactor_32 (by decide) ?_
      exact kJ4 _ _ _ _ _ hP hD hS (lv_sub hl [0, 1, 2] rfl) hg
    · have hg := if_f hg c31
      refine lv_iload_n hx hb dX8_expandFactor_12 rfl (lv_at hl 2 rfl) ?_
      refine r_calli (W.runS (As := [.int a2]) (rest := []) CX (ctX8_isName l a2) (va_cwS 1 hts (gwS m5_148 m5_149 m1_7 m5_150) rfl rfl rfl (by decide +kernel) ⟨Nat.le_trans (Nat.le_of_ble_eq_true rfl) hR.1, Nat.le_trans (Nat.le_of_ble_eq_true rfl) hR.2⟩) (pPreS _) rfl rfl hl.1 rfl (lv_room (Nat.le_of_ble_eq_true rfl)) dX8_expandFactor_13 ⟨Nat.zero_le _, Nat.zero_le _⟩) ?_
      refine lv_if_ne (tgt := 31) hx hb dX8_expandFactor_16 (by decide) (fun c32 => ?_) (fun c32 => ?_)
      · have hg := if_f hg c32
        refine lv_iconst (v := 1) hx hb dX8_expandFactor_31 (by decide) ?_
        refine lv_goto (tgt := 36) hx hb dX8_expandFactor_32 (by decide) ?_
        exact kJ4 _ _ _ _ _ hP hD hS (lv_sub hl [0, 1, 2] rfl) hg
      · have hg := if_t hg c32
        refine lv_iload_n hx hb dX8_expandFactor_19 rfl (lv_at hl 2 rfl) ?_
        refine lv_bipush (v := 40) hx hb dX8_expandFactor_20 (by decide) ?_
        refine lv_icmp_eq (tgt := 31) hx hb dX8_expandFactor_22 (by decide) (fun c33 => ?_) (fun c33 => ?_)
        · have hg := if_t hg c33
          refine lv_iconst (v := 1) hx hb dX8_expandFactor_31 (by decide) ?_
          refine lv_goto (tgt := 36) hx hb dX8_expandFactor_32 (by decide) ?_
          exact kJ4 _ _ _ _ _ hP hD hS (lv_sub hl [0, 1, 2] rfl) hg
        · have hg := if_f hg c33
          refine lv_iload_n hx hb dX8_expandFactor_25 rfl (lv_at hl 2 rfl) ?_
          refine lv_bipush (v := 45) hx hb dX8_expandFactor_26 (by decide) ?_
          refine lv_icmp_ne (tgt := 35) hx hb dX8_expandFactor_28 (by decide) (fun c34 => ?_) (fun c34 => ?_)
          · have hg := if_f hg c34
            refine lv_iconst (v := 0) hx hb dX8_expandFactor_35 (by decide) ?_
            exact kJ4 _ _ _ _ _ hP hD hS (lv_sub hl [0, 1, 2] rfl) hg
          · have hg := if_t hg c34
            refine lv_iconst (v := 1) hx hb dX8_expandFactor_31 (by decide) ?_
            refine lv_goto (tgt := 36) hx hb dX8_expandFactor_32 (by decide) ?_
            exact kJ4 _ _ _ _ _ hP hD hS (lv_sub hl [0, 1, 2] rfl) hg
theorem ctX8_expandFactor (l : Launch) (D : va_G) (sw : Sw) (cs : Cs) (ad : Nat → Nat) (X : va_W) (sz : Nat) (M : Mm) (a1 : Int32) (a2 : Int32) {r : Int32} {M1 : Mm} (hq : gX8_expandFactor M a1 a2 = some (r, M1)) : Met l yX8_expandFactor wsX8_expandFactor ({ frames := 1, cells := 0, slots := 0, locals := 22 }) (va_Pc [.ref (ad 0), .int a1, .int a2] (wPre D sw cs LM NM ad M X sz)) (wQi D cs LM NM ad M1 X sz r) 0 0 (wA NM ad X sz) :=
  met_w rfl rfl (Nat.le_of_ble_eq_true rfl) (fun p e s m args below meth c ls CX hr hlk hK hSW hP hD hS hA hl => bX8_expandFactor M a1 a2 hq (by simp) CX ⟨Nat.le_refl _, Nat.le_refl _⟩ hK hSW hP hD hS hA hl (fun pc ls H locs v M9 hv dg hz hP hD hS => W.zret (ty := .boolean) CX.1 CX.2.1 hr hz (fun t ht hW => ⟨⟨_, (), rfl, (Prod.mk.inj (Option.some.inj hv)).1, wpost hP ht (Prod.mk.inj (Option.some.inj hv)).2⟩, hS.F ht⟩) hS.2.2 dg))

abbrev wsX8_expandStatement : List Cond := Cond.code yX8_expandStatement cX8_expandStatement 3 (some .boolean) :: WG
def gX8_expandStatement (M : Mm) (a1 : Int32) (a2 : Int32) : Option (Int32 × Mm) := if (gX8_canBegin a2) = 0 then (some ((0 : Int32), M)) else if a2 = (123 : Int32) then (bd (gX8_push M a1 (125 : Int32)) fun M24 => bd (gX8_push M24 a1 (1 : Int32)) fun M26 => bd (gX8_push M26 a1 a2) fun M28 => some ((1 : Int32), M28)) else if a2 = (63 : Int32) then (bd (gX8_push M a1 (3 : Int32)) fun M16 => bd (gX8_push M16 a1 (2 : Int32)) fun M18 => bd (gX8_push M18 a1 (4 : Int32)) fun M20 => bd (gX8_push M20 a1 a2) fun M22 => some ((1 : Int32), M22)) else bd (gX8_push M a1 (59 : Int32)) fun M5 => bd (gX8_push M5 a1 (4 : Int32)) fun M7 => if (gX8_isName a2) = 0 then (bd (gX8_push M7 a1 a2) fun M10 => some ((1 : Int32), M10)) else bd (gX8_push M7 a1 (61 : Int32)) fun M12 => bd (gX8_push M12 a1 a2) fun M14 => some ((1 : Int32), M14)
set_option maxHeartbeats 4000000 in
set_option maxRecDepth 100000 in
theorem bX8_expandStatement {p : Program} {l : Launch} {e : Env} {R : Room} {s : State} {m : MethodId} {args : Array Value} {below : List Frame} {meth : Method} {c : Code} {H : Heap} {locs : List Loc} {Q : State → Prop} {D : va_G} {sw : Sw} {cs : Cs} {ad : Nat → Nat} {X : va_W} {A : Nat → Prop} (M : Mm) (a1 : Int32) (a2 : Int32) {res : Option (Int32 × Mm)} (hg : gX8_expandStatement M a1 a2 = res) (hne : res ≠ none) (CX : CallFix p m c cX8_expandStatement 3 s args wsX8_expandStatement RX8) (hR : 2 ≤ R.frames ∧ 40 ≤ R.locals) (hK : va_K D vwCl (tysC cs) s) (hSW : SW sw A s s.heap) (hP : va_P D vwCl (wl cs LM NM ad M ++ X) H) (hD : va_D A (wl cs LM NM ad M ++ X)) (hS : va_S A s.heap H locs) (hA : ∀ q, s.heap.size ≤ q → A q) {ls : Array Slot} (hl : lv_has ls 3 [(0, .ref (ad 0)), (1, .int a1), (2, .int a2)]) (hret : ∀ (pc : Nat) (ls : Array Slot) (H : Heap) (locs : List Loc) (v : Int32) (M9 : Mm), some (v, M9) = res → decode cX8_expandStatement pc = .ok (.ireturn, 1) → narrow .boolean (.int v) = .int v → va_P D vwCl (wl cs LM NM ad M9 ++ X) H → va_D A (wl cs LM NM ad M9 ++ X) → va_S A s.heap H locs → W p l e R s m args below meth c H locs 0 0 Q (F0 m pc ls [.int v])) : W p l e R s m args below meth c H locs 0 0 Q (F0 m 0 ls []) := by
  obtain ⟨hx, hb, hml, hown, hts⟩ := id CX
  have hw : ∀ w ∈ WG, w.before args s = true := fun w h => hts w (List.mem_cons_of_mem _ h)
  unfold gX8_expandStatement at hg
  refine lv_iload_n hx hb dX8_expandStatement_0 rfl (lv_at hl 2 rfl) ?_
  refine r_calli (W.runS (As := [.int a2]) (rest := []) CX (ctX8_canBegin l a2) (va_cwS 1 hts (gwS m5_145 m5_146 m1_7 m5_147) rfl rfl rfl (by decide +kernel) ⟨Nat.le_trans (Nat.le_of_ble_eq_true rfl) hR.1, Nat.le_trans (Nat.le_of_ble_eq_true rfl) hR.2⟩) (pPreS _) rfl rfl hl.1 rfl (lv_room (Nat.le_of_ble_eq_true rfl)) dX8_expandStatement_1 ⟨Nat.zero_le _, Nat.zero_le _⟩) ?_
  refine lv_if_ne (tgt := 9) hx hb dX8_expandStatement_4 (by decide) (fun c1 => ?_) (fun c1 => ?_)
  · have hg := if_f hg c1
    refine lv_iload_n hx hb dX8_expandStatement_9 rfl (lv_at hl 2 rfl) ?_
    refine lv_bipush (v := 123) hx hb dX8_expandStatement_10 (by decide) ?_
    refine lv_icmp_ne (tgt := 31) hx hb dX8_expandStatement_12 (by decide) (fun c2 => ?_) (fun c2 => ?_)
    · have hg := if_f hg c2
      refine lv_iload_n hx hb dX8_expandStatement_31 rfl (lv_at hl 2 rfl) ?_
      refine lv_bipush (v := 63) hx hb dX8_expandStatement_32 (by decide) ?_
      refine lv_icmp_ne (tgt := 58) hx hb dX8_expandStatement_34 (by decide) (fun c3 => ?_) (fun c3 => ?_)
      · have hg := if_f hg c3
        refine lv_aload_n hx hb dX8_expandStatement_58 rfl (lv_at hl 0 rfl) ?_
        refine lv_iload_n hx hb dX8_expandStatement_59 rfl (lv_at hl 1 rfl) ?_
        refine lv_bipush (v := 59) hx hb dX8_expandStatement_60 (by decide) ?_
        obtain ⟨M5, q4, hg⟩ := bd_e hg hne
        refine w_callv (va_runV (As := [.int a1, .int (59 : Int32)]) (rest := []) CX (ctX8_push l D sw cs ad X H.size M a1 (59 : Int32) q4) (cwV 2 hts (gwV m5_125 m5_127 mp4_1 m1_7 m5_128) rfl rfl rfl (by decide +kernel) ⟨Nat.le_trans (Nat.le_of_ble_eq_true rfl) hR.1, Nat.le_trans (Nat.le_of_ble_eq_true rfl) hR.2⟩) (wPreV hSW hS hA hK hP hD (by decide) rfl rfl _) rfl rfl hl.1 rfl (lv_room (Nat.le_of_ble_eq_true rfl)) dX8_expandStatement_62 ⟨Nat.zero_le _, Nat.zero_le _⟩) hD hS hA (fun H locs hP hD hS => ?_)
        refine lv_aload_n hx hb dX8_expandStatement_65 rfl (lv_at hl 0 rfl) ?_
        refine lv_iload_n hx hb dX8_expandStatement_66 rfl (lv_at hl 1 rfl) ?_
        refine lv_iconst (v := 4) hx hb dX8_expandStatement_67 (by decide) ?_
        obtain ⟨M7, q6, hg⟩ := bd_e hg hne
        refine w_callv (va_runV (As := [.int a1, .int (4 : Int32)]) (rest := []) CX (ctX8_push l D sw cs ad X H.size M5 a1 (4 : Int32) q6) (cwV 2 hts (gwV m5_125 m5_127 mp4_1 m1_7 m5_128) rfl rfl rfl (by decide +kernel) ⟨Nat.le_trans (Nat.le_of_ble_eq_true rfl) hR.1, Nat.le_trans (Nat.le_of_ble_eq_true rfl) hR.2⟩) (wPreV hSW hS hA hK hP hD (by decide) rfl rfl _) rfl rfl hl.1 rfl (lv_room (Nat.le_of_ble_eq_true rfl)) dX8_expandStatement_68 ⟨Nat.zero_le _, Nat.zero_le _⟩) hD hS hA (fun H locs hP hD hS => ?_)
        refine lv_iload_n hx hb dX8_expandStatement_71 rfl (lv_at hl 2 rfl) ?_
        refine r_calli (W.runS (As := [.int a2]) (rest := []) CX (ctX8_isName l a2) (va_cwS 1 hts (gwS m5_148 m5_149 m1_7 m5_150) rfl rfl rfl (by decide +kernel) ⟨Nat.le_trans (Nat.le_of_ble_eq_true rfl) hR.1, Nat.le_trans (Nat.le_of_ble_eq_true rfl) hR.2⟩) (pPreS _) rfl rfl hl.1 rfl (lv_room (Nat.le_of_ble_eq_true rfl)) dX8_expandStatement_72 ⟨Nat.zero_le _, Nat.zero_le _⟩) ?_
        refine lv_if_eq (tgt := 85) hx hb dX8_expandStatement_75 (by decide) (fun c8 => ?_) (fun c8 => ?_)
        · have hg := if_t hg c8
          refine lv_aload_n hx hb dX8_expandStatement_85 rfl (lv_at hl 0 rfl) ?_
          refine lv_iload_n hx hb dX8_expandStatement_86 rfl (lv_at hl 1 rfl) ?_
          refine lv_iload_n hx hb dX8_expandStatement_87 rfl (lv_at hl 2 rfl) ?_
          obtain ⟨M10, q9, hg⟩ := bd_e hg hne
          refine w_callv (va_runV (As := [.int a1, .int a2]) (rest := []) CX (ctX8_push l D sw cs ad X H.size M7 a1 a2 q9) (cwV 2 hts (gwV m5_125 m5_127 mp4_1 m1_7 m5_128) rfl rfl rfl (by decide +kernel) ⟨Nat.le_trans (Nat.le_of_ble_eq_true rfl) hR.1, Nat.le_trans (Nat.le_of_ble_eq_true rfl) hR.2⟩) (wPreV hSW hS hA hK hP hD (by decide) rfl rfl _) rfl rfl hl.1 rfl (lv_room (Nat.le_of_ble_eq_true rfl)) dX8_expandStatement_88 ⟨Nat.zero_le _, Nat.zero_le _⟩) hD hS hA (fun H locs hP hD hS => ?_)
          refine lv_iconst (v := 1) hx hb dX8_expandStatement_91 (by decide) ?_
          exact hret _ _ _ _ _ _ hg dX8_expandStatement_92 rfl hP hD hS
        · have hg := if_f hg c8
          refine lv_aload_n hx hb dX8_expandStatement_78 rfl (lv_at hl 0 rfl) ?_
          refine lv_iload_n hx hb dX8_expandStatement_79 rfl (lv_at hl 1 rfl) ?_
          refine lv_bipush (v := 61) hx hb dX8_expandStatement_80 (by decide) ?_
          obtain ⟨M12, q11, hg⟩ := bd_e hg hne
          refine w_callv (va_runV (As := [.int a1, .int (61 : Int32)]) (rest := []) CX (ctX8_push l D sw cs ad X H.size M7 a1 (61 : Int32) q11) (cwV 2 hts (gwV m5_125 m5_127 mp4_1 m1_7 m5_128) rfl rfl rfl (by decide +kernel) ⟨Nat.le_trans (Nat.le_of_ble_eq_true rfl) hR.1, Nat.le_trans (Nat.le_of_ble_eq_true rfl) hR.2⟩) (wPreV hSW hS hA hK hP hD (by decide) rfl rfl _) rfl rfl hl.1 rfl (lv_room (Nat.le_of_ble_eq_true rfl)) dX8_expandStatement_82 ⟨Nat.zero_le _, Nat.zero_le _⟩) hD hS hA (fun H locs hP hD hS => ?_)
          refine lv_aload_n hx hb dX8_expandStatement_85 rfl (lv_at hl 0 rfl) ?_
          refine lv_iload_n hx hb dX8_expandStatement_86 rfl (lv_at hl 1 rfl) ?_
          refine lv_iload_n hx hb dX8_expandStatement_87 rfl (lv_at hl 2 rfl) ?_
          obtain ⟨M14, q13, hg⟩ := bd_e hg hne
          refine w_callv (va_runV (As := [.int a1, .int a2]) (rest := []) CX (ctX8_push l D sw cs ad X H.size M12 a1 a2 q13) (cwV 2 hts (gwV m5_125 m5_127 mp4_1 m1_7 m5_128) rfl rfl rfl (by decide +kernel) ⟨Nat.le_trans (Nat.le_of_ble_eq_true rfl) hR.1, Nat.le_trans (Nat.le_of_ble_eq_true rfl) hR.2⟩) (wPreV hSW hS hA hK hP hD (by decide) rfl rfl _) rfl rfl hl.1 rfl (lv_room (Nat.le_of_ble_eq_true rfl)) dX8_expandStatement_88 ⟨Nat.zero_le _, Nat.zero_le _⟩) hD hS hA (fun H locs hP hD hS => ?_)
          refine lv_iconst (v := 1) hx hb dX8_expandStatement_91 (by decide) ?_
          exact hret _ _ _ _ _ _ hg dX8_expandStatement_92 rfl hP hD hS
      · have hg := if_t hg c3
        refine lv_aload_n hx hb dX8_expandStatement_37 rfl (lv_at hl 0 rfl) ?_
        refine lv_iload_n hx hb dX8_expandStatement_38 rfl (lv_at hl 1 rfl) ?_
        refine lv_iconst (v := 3) hx hb dX8_expandStatement_39 (by decide) ?_
        obtain ⟨M16, q15, hg⟩ := bd_e hg hne
        refine w_callv (va_runV (As := [.int a1, .int (3 : Int32)]) (rest := []) CX (ctX8_push l D sw cs ad X H.size M a1 (3 : Int32) q15) (cwV 2 hts (gwV m5_125 m5_127 mp4_1 m1_7 m5_128) rfl rfl rfl (by decide +kernel) ⟨Nat.le_trans (Nat.le_of_ble_eq_true rfl) hR.1, Nat.le_trans (Nat.le_of_ble_eq_true rfl) hR.2⟩) (wPreV hSW hS hA hK hP hD (by decide) rfl rfl _) rfl rfl hl.1 rfl (lv_room (Nat.le_of_ble_eq_true rfl)) dX8_expandStatement_40 ⟨Nat.zero_le _, Nat.zero_le _⟩) hD hS hA (fun H locs hP hD hS => ?_)
        refine lv_aload_n hx hb dX8_expandStatement_43 rfl (lv_at hl 0 rfl) ?_
        refine lv_iload_n hx hb dX8_expandStatement_44 rfl (lv_at hl 1 rfl) ?_
        refine lv_iconst (v := 2) hx hb dX8_expandStatement_45 (by decide) ?_
        obtain ⟨M18, q17, hg⟩ := bd_e hg hne
        refine w_callv (va_runV (As := [.int a1, .int (2 : Int32)]) (rest := []) CX (ctX8_push l D sw cs ad X H.size M16 a1 (2 : Int32) q17) (cwV 2 hts (gwV m5_125 m5_127 mp4_1 m1_7 m5_128) rfl rfl rfl (by decide +kernel) ⟨Nat.le_trans (Nat.le_of_ble_eq_true rfl) hR.1, Nat.le_trans (Nat.le_of_ble_eq_true rfl) hR.2⟩) (wPreV hSW hS hA hK hP hD (by decide) rfl rfl _) rfl rfl hl.1 rfl (lv_room (Nat.le_of_ble_eq_true rfl)) dX8_expandStatement_46 ⟨Nat.zero_le _, Nat.zero_le _⟩) hD hS hA (fun H locs hP hD hS => ?_)
        refine lv_aload_n hx hb dX8_expandStatement_49 rfl (lv_at hl 0 rfl) ?_
        refine lv_iload_n hx hb dX8_expandStatement_50 rfl (lv_at hl 1 rfl) ?_
        refine lv_iconst (v := 4) hx hb dX8_expandStatement_51 (by decide) ?_
        obtain ⟨M20, q19, hg⟩ := bd_e hg hne
        refine w_callv (va_runV (As := [.int a1, .int (4 : Int32)]) (rest := []) CX (ctX8_push l D sw cs ad X H.size M18 a1 (4 : Int32) q19) (cwV 2 hts (gwV m5_125 m5_127 mp4_1 m1_7 m5_128) rfl rfl rfl (by decide +kernel) ⟨Nat.le_trans (Nat.le_of_ble_eq_true rfl) hR.1, Nat.le_trans (Nat.le_of_ble_eq_true rfl) hR.2⟩) (wPreV hSW hS hA hK hP hD (by decide) rfl rfl _) rfl rfl hl.1 rfl (lv_room (Nat.le_of_ble_eq_true rfl)) dX8_expandStatement_52 ⟨Nat.zero_le _, Nat.zero_le _⟩) hD hS hA (fun H locs hP hD hS => ?_)
        refine lv_goto (tgt := 85) hx hb dX8_expandStatement_55 (by decide) ?_
        refine lv_aload_n hx hb dX8_expandStatement_85 rfl (lv_at hl 0 rfl) ?_
        refine lv_iload_n hx hb dX8_expandStatement_86 rfl (lv_at hl 1 rfl) ?_
        refine lv_iload_n hx hb dX8_expandStatement_87 rfl (lv_at hl 2 rfl) ?_
        obtain ⟨M22, q21, hg⟩ := bd_e hg hne
        refine w_callv (va_runV (As := [.int a1, .int a2]) (rest := []) CX (ctX8_push l D sw cs ad X H.size M20 a1 a2 q21) (cwV 2 hts (gwV m5_125 m5_127 mp4_1 m1_7 m5_128) rfl rfl rfl (by decide +kernel) ⟨Nat.le_trans (Nat.le_of_ble_eq_true rfl) hR.1, Nat.le_trans (Nat.le_of_ble_eq_true rfl) hR.2⟩) (wPreV hSW hS hA hK hP hD (by decide) rfl rfl _) rfl rfl hl.1 rfl (lv_room (Nat.le_of_ble_eq_true rfl)) dX8_expandStatement_88 ⟨Nat.zero_le _, Nat.zero_le _⟩) hD hS hA (fun H locs hP hD hS => ?_)
        refine lv_iconst (v := 1) hx hb dX8_expandStatement_91 (by decide) ?_
        exact hret _ _ _ _ _ _ hg dX8_expandStatement_92 rfl hP hD hS
    · have hg := if_t hg c2
      refine lv_aload_n hx hb dX8_expandStatement_15 rfl (lv_at hl 0 rfl) ?_
      refine lv_iload_n hx hb dX8_expandStatement_16 rfl (lv_at hl 1 rfl) ?_
      refine lv_bipush (v := 125) hx hb dX8_expandStatement_17 (by decide) ?_
      obtain ⟨M24, q23, hg⟩ := bd_e hg hne
      refine w_callv (va_runV (As := [.int a1, .int (125 : Int32)]) (rest := []) CX (ctX8_push l D sw cs ad X H.size M a1 (125 : Int32) q23) (cwV 2 hts (gwV m5_125 m5_127 mp4_1 m1_7 m5_128) rfl rfl rfl (by decide +kernel) ⟨Nat.le_trans (Nat.le_of_ble_eq_true rfl) hR.1, Nat.le_trans (Nat.le_of_ble_eq_true rfl) hR.2⟩) (wPreV hSW hS hA hK hP hD (by decide) rfl rfl _) rfl rfl hl.1 rfl (lv_room (Nat.le_of_ble_eq_true rfl)) dX8_expandStatement_19 ⟨Nat.zero_le _, Nat.zero_le _⟩) hD hS hA (fun H locs hP hD hS => ?_)
      refine lv_aload_n hx hb dX8_expandStatement_22 rfl (lv_at hl 0 rfl) ?_
      refine lv_iload_n hx hb dX8_expandStatement_23 rfl (lv_at hl 1 rfl) ?_
      refine lv_iconst (v := 1) hx hb dX8_expandStatement_24 (by decide) ?_
      obtain ⟨M26, q25, hg⟩ := bd_e hg hne
      refine w_callv (va_runV (As := [.int a1, .int (1 : Int32)]) (rest := []) CX (ctX8_push l D sw cs ad X H.size M24 a1 (1 : Int32) q25) (cwV 2 hts (gwV m5_125 m5_127 mp4_1 m1_7 m5_128) rfl rfl rfl (by decide +kernel) ⟨Nat.le_trans (Nat.le_of_ble_eq_true rfl) hR.1, Nat.le_trans (Nat.le_of_ble_eq_true rfl) hR.2⟩) (wPreV hSW hS hA hK hP hD (by decide) rfl rfl _) rfl rfl hl.1 rfl (lv_room (Nat.le_of_ble_eq_true rfl)) dX8_expandStatement_25 ⟨Nat.zero_le _, Nat.zero_le _⟩) hD hS hA (fun H locs hP hD hS => ?_)
      refine lv_goto (tgt := 85) hx hb dX8_expandStatement_28 (by decide) ?_
      refine lv_aload_n hx hb dX8_expandStatement_85 rfl (lv_at hl 0 rfl) ?_
      refine lv_iload_n hx hb dX8_expandStatement_86 rfl (lv_at hl 1 rfl) ?_
      refine lv_iload_n hx hb dX8_expandStatement_87 rfl (lv_at hl 2 rfl) ?_
      obtain ⟨M28, q27, hg⟩ := bd_e hg hne
      refine w_callv (va_runV (As := [.int a1, .int a2]) (rest := []) CX (ctX8_push l D sw cs ad X H.size M26 a1 a2 q27) (cwV 2 hts (gwV m5_125 m5_127 mp4_1 m1_7 m5_128) rfl rfl rfl (by decide +kernel) ⟨Nat.le_trans (Nat.le_of_ble_eq_true rfl) hR.1, Nat.le_trans (Nat.le_of_ble_eq_true rfl) hR.2⟩) (wPreV hSW hS hA hK hP hD (by decide) rfl rfl _) rfl rfl hl.1 rfl (lv_room (Nat.le_of_ble_eq_true rfl)) dX8_expandStatement_88 ⟨Nat.zero_le _, Nat.zero_le _⟩) hD hS hA (fun H locs hP hD hS => ?_)
      refine lv_iconst (v := 1) hx hb dX8_expandStatement_91 (by decide) ?_
      exact hret _ _ _ _ _ _ hg dX8_expandStatement_92 rfl hP hD hS
  · have hg := if_t hg c1
    refine lv_iconst (v := 0) hx hb dX8_expandStatement_7 (by decide) ?_
    exact hret _ _ _ _ _ _ hg dX8_expandStatement_8 rfl hP hD hS
theorem ctX8_expandStatement (l : Launch) (D : va_G) (sw : Sw) (cs : Cs) (ad : Nat → Nat) (X : va_W) (sz : Nat) (M : Mm) (a1 : Int32) (a2 : Int32) {r : Int32} {M1 : Mm} (hq : gX8_expandStatement M a1 a2 = some (r, M1)) : Met l yX8_expandStatement wsX8_expandStatement ({ frames := 2, cells := 0, slots := 0, locals := 40 }) (va_Pc [.ref (ad 0), .int a1, .int a2] (wPre D sw cs LM NM ad M X sz)) (wQi D cs LM NM ad M1 X sz r) 0 0 (wA NM ad X sz) :=
  met_w rfl rfl (Nat.le_of_ble_eq_true rfl) (fun p e s m args below meth c ls CX hr hlk hK hSW hP hD hS hA hl => bX8_expandStatement M a1 a2 hq (by simp) CX ⟨Nat.le_refl _, Nat.le_refl _⟩ hK hSW hP hD hS hA hl (fun pc ls H locs v M9 hv dg hz hP hD hS => W.zret (ty := .boolean) CX.1 CX.2.1 hr hz (fun t ht hW => ⟨⟨_, (), rfl, (Prod.mk.inj (Option.some.inj hv)).1, wpost hP ht (Prod.mk.inj (Option.some.inj hv)).2⟩, hS.F ht⟩) hS.2.2 dg))

abbrev wsX8_expand : List Cond := Cond.code yX8_expand cX8_expand 4 (some .boolean) :: WG
def gX8_expand (M : Mm) (a1 : Int32) (a2 : Int32) : Option (Int32 × Mm) := if (a1 < 0 ∨ 16 ≤ (a1).toNatClampNeg) then none else if (a1 < 0 ∨ 16 ≤ (a1).toNatClampNeg) then none else lt (um M 5 (a1).toNatClampNeg ((M 5 (a1).toNatClampNeg) - (1 : Int32))) fun M3 => if (a1 < 0 ∨ 16 ≤ (a1).toNatClampNeg) then none else if ((((400 : Int32) * a1) + (M3 5 (a1).toNatClampNeg)) < 0 ∨ 6400 ≤ ((((400 : Int32) * a1) + (M3 5 (a1).toNatClampNeg))).toNatClampNeg) then none else lt (M3 4 ((((400 : Int32) * a1) + (M3 5 (a1).toNatClampNeg))).toNatClampNeg) fun x6 => if x6 = (1 : Int32) then (if (gX8_canBegin a2) = 0 then (if (gX8_canBegin a2) = 0 then (some ((1 : Int32), M3)) else bd (gX8_push M3 a1 (2 : Int32)) fun M11 => some ((1 : Int32), M11)) else bd (gX8_push M3 a1 (1 : Int32)) fun M13 => if (gX8_canBegin a2) = 0 then (some ((1 : Int32), M13)) else bd (gX8_push M13 a1 (2 : Int32)) fun M16 => some ((1 : Int32), M16)) else if x6 = (2 : Int32) then (bd2 (gX8_expandStatement M3 a1 a2) fun r20 M19 => if ¬ (r20 = 0 ∨ r20 = 1) then none else some (r20, M19)) else if x6 = (3 : Int32) then (if a2 = (58 : Int32) then (bd (gX8_push M3 a1 (2 : Int32)) fun M28 => if a2 = (58 : Int32) then (bd (gX8_push M28 a1 (58 : Int32)) fun M31 => some ((1 : Int32), M31)) else some ((1 : Int32), M28)) else if a2 = (58 : Int32) then (bd (gX8_push M3 a1 (58 : Int32)) fun M26 => some ((1 : Int32), M26)) else some ((1 : Int32), M3)) else if x6 = (4 : Int32) then (bd (gX8_push M3 a1 (5 : Int32)) fun M34 => bd (gX8_push M34 a1 (6 : Int32)) fun M36 => some ((1 : Int32), M36)) else if x6 = (5 : Int32) then (if a2 = (43 : Int32) then (bd (gX8_push M3 a1 (5 : Int32)) fun M40 => bd (gX8_push M40 a1 (6 : Int32)) fun M42 => bd (gX8_push M42 a1 a2) fun M44 => some ((1 : Int32), M44)) else if a2 = (45 : Int32) then (bd (gX8_push M3 a1 (5 : Int32)) fun M47 => bd (gX8_push M47 a1 (6 : Int32)) fun M49 => bd (gX8_push M49 a1 a2) fun M51 => some ((1 : Int32), M51)) else some ((1 : Int32), M3)) else if x6 = (6 : Int32) then (bd (gX8_push M3 a1 (7 : Int32)) fun M54 => bd (gX8_push M54 a1 (8 : Int32)) fun M56 => some ((1 : Int32), M56)) else if x6 = (7 : Int32) then (if a2 = (42 : Int32) then (bd (gX8_push M3 a1 (7 : Int32)) fun M60 => bd (gX8_push M60 a1 (8 : Int32)) fun M62 => bd (gX8_push M62 a1 a2) fun M64 => some ((1 : Int32), M64)) else some ((1 : Int32), M3)) else bd2 (gX8_expandFactor M3 a1 a2) fun r67 M66 => if ¬ (r67 = 0 ∨ r67 = 1) then none else some (r67, M66)
set_option maxHeartbeats 4000000 in
set_option maxRecDepth 100000 in
theorem bX8_expand {p : Program} {l : Launch} {e : Env} {R : Room} {s : State} {m : MethodId} {args : Array Value} {below : List Frame} {meth : Method} {c : Code} {H : Heap} {locs : List Loc} {Q : State → Prop} {D : va_G} {sw : Sw} {cs : Cs} {ad : Nat → Nat} {X : va_W} {A : Nat → Prop} (M : Mm) (a1 : Int32) (a2 : Int32) {res : Option (Int32 × Mm)} (hg : gX8_expand M a1 a2 = res) (hne : res ≠ none) (CX : CallFix p m c cX8_expand 4 s args wsX8_expand RX8) (hR : 3 ≤ R.frames ∧ 62 ≤ R.locals) (hK : va_K D vwCl (tysC cs) s) (hSW : SW sw A s s.heap) (hP : va_P D vwCl (wl cs LM NM ad M ++ X) H) (hD : va_D A (wl cs LM NM ad M ++ X)) (hS : va_S A s.heap H locs) (hA : ∀ q, s.heap.size ≤ q → A q) {ls : Array Slot} (hl : lv_has ls 4 [(0, .ref (ad 0)), (1, .int a1), (2, .int a2)]) (hret : ∀ (pc : Nat) (ls : Array Slot) (H : Heap) (locs : List Loc) (v : Int32) (M9 : Mm), some (v, M9) = res → decode cX8_expand pc = .ok (.ireturn, 1) → narrow .boolean (.int v) = .int v → va_P D vwCl (wl cs LM NM ad M9 ++ X) H → va_D A (wl cs LM NM ad M9 ++ X) → va_S A s.heap H locs → W p l e R s m args below meth c H locs 0 0 Q (F0 m pc ls [.int v])) : W p l e R s m args below meth c H locs 0 0 Q (F0 m 0 ls []) := by
  obtain ⟨hx, hb, hml, hown, hts⟩ := id CX
  have hw : ∀ w ∈ WG, w.before args s = true := fun w h => hts w (List.mem_cons_of_mem _ h)
  have lk_22 := hw _ m4_122
  have lk_19 := hw _ m4_121
  unfold gX8_expand at hg
  refine lv_aload_n hx hb dX8_expand_0 rfl (lv_at hl 0 rfl) ?_
  refine m_gr (C := RX8) (T := TX8) (n := 15) (ci := 6) hx hb hts in_RX8 hown hK hP (by decide) rfl rfl 6 (by decide) rfl lk_22 (fun _ h9 => h9) dX8_expand_1 ?_
  refine lv_iload_n hx hb dX8_expand_4 rfl (lv_at hl 1 rfl) ?_
  refine lv_dup2_11 hx hb dX8_expand_5 rfl rfl ?_
  obtain ⟨b1, hg⟩ := ck_e hg hne
  refine m_ld hx hb hK hP (by decide) rfl b1 dX8_expand_6 ?_
  refine lv_iconst (v := 1) hx hb dX8_expand_7 (by decide) ?_
  refine lv_isub hx hb dX8_expand_8 ?_
  obtain ⟨b2, hg⟩ := ck_e hg hne
  obtain ⟨M3, hM3, hg⟩ := lt_e hg
  refine m_st hx hb hK hP hD hS (by decide) rfl b2 dX8_expand_9 hM3 (fun H locs hP hD hS => ?_)
  refine lv_aload_n hx hb dX8_expand_10 rfl (lv_at hl 0 rfl) ?_
  refine m_gr (C := RX8) (T := TX8) (n := 15) (ci := 6) hx hb hts in_RX8 hown hK hP (by decide) rfl rfl 5 (by decide) rfl lk_19 (fun _ h9 => h9) dX8_expand_11 ?_
  refine lv_sipush (v := 400) hx hb dX8_expand_14 (by decide) ?_
  refine lv_iload_n hx hb dX8_expand_17 rfl (lv_at hl 1 rfl) ?_
  refine lv_imul hx hb dX8_expand_18 ?_
  refine lv_aload_n hx hb dX8_expand_19 rfl (lv_at hl 0 rfl) ?_
  refine m_gr (C := RX8) (T := TX8) (n := 15) (ci := 6) hx hb hts in_RX8 hown hK hP (by decide) rfl rfl 6 (by decide) rfl lk_22 (fun _ h9 => h9) dX8_expand_20 ?_
  refine lv_iload_n hx hb dX8_expand_23 rfl (lv_at hl 1 rfl) ?_
  obtain ⟨b4, hg⟩ := ck_e hg hne
  refine m_ld hx hb hK hP (by decide) rfl b4 dX8_expand_24 ?_
  refine lv_iadd hx hb dX8_expand_25 ?_
  obtain ⟨b5, hg⟩ := ck_e hg hne
  refine m_ld hx hb hK hP (by decide) rfl b5 dX8_expand_26 ?_
  obtain ⟨x6, hx6, hg⟩ := lt_e hg
  refine top_i hx6 ?_
  refine lv_istore_n (lv' := [(3, .int x6), (0, .ref (ad 0)), (1, .int a1), (2, .int a2)]) hx hb dX8_expand_27 rfl hl (by decide) rfl (fun ls hl => ?_)
  refine lv_iload_n hx hb dX8_expand_28 rfl (lv_at hl 0 rfl) ?_
  by_cases z7 : x6 = (1 : Int32)
  · have hg := if_t hg z7
    refine lv_tableIn (off := 43) (tgt := 72) hx hb dX8_expand_29 (by rw [z7]; decide) (by rw [z7]; decide) (by rw [z7]; decide) (by decide) ?_
    refine lv_iload_n hx hb dX8_expand_72 rfl (lv_at hl 3 rfl) ?_
    refine r_calli (W.runS (As := [.int a2]) (rest := []) CX (ctX8_canBegin l a2) (va_cwS 1 hts (gwS m5_145 m5_146 m1_7 m5_147) rfl rfl rfl (by decide +kernel) ⟨Nat.le_trans (Nat.le_of_ble_eq_true rfl) hR.1, Nat.le_trans (Nat.le_of_ble_eq_true rfl) hR.2⟩) (pPreS _) rfl rfl hl.1 rfl (lv_room (Nat.le_of_ble_eq_true rfl)) dX8_expand_73 ⟨Nat.zero_le _, Nat.zero_le _⟩) ?_
    refine lv_if_eq (tgt := 85) hx hb dX8_expand_76 (by decide) (fun c8 => ?_) (fun c8 => ?_)
    · have hg := if_t hg c8
      refine lv_iload_n hx hb dX8_expand_85 rfl (lv_at hl 3 rfl) ?_
      refine r_calli (W.runS (As := [.int a2]) (rest := []) CX (ctX8_canBegin l a2) (va_cwS 1 hts (gwS m5_145 m5_146 m1_7 m5_147) rfl rfl rfl (by decide +kernel) ⟨Nat.le_trans (Nat.le_of_ble_eq_true rfl) hR.1, Nat.le_trans (Nat.le_of_ble_eq_true rfl) hR.2⟩) (pPreS _) rfl rfl hl.1 rfl (lv_room (Nat.le_of_ble_eq_true rfl)) dX8_expand_86 ⟨Nat.zero_le _, Nat.zero_le _⟩) ?_
      refine lv_if_eq (tgt := 98) hx hb dX8_expand_89 (by decide) (fun c9 => ?_) (fun c9 => ?_)
      · have hg := if_t hg c9
        refine lv_iconst (v := 1) hx hb dX8_expand_98 (by decide) ?_
        exact hret _ _ _ _ _ _ hg dX8_expand_99 rfl hP hD hS
      · have hg := if_f hg c9
        refine lv_aload_n hx hb dX8_expand_92 rfl (lv_at hl 1 rfl) ?_
        refine lv_iload_n hx hb dX8_expand_93 rfl (lv_at hl 2 rfl) ?_
        refine lv_iconst (v := 2) hx hb dX8_expand_94 (by decide) ?_
        obtain ⟨M11, q10, hg⟩ := bd_e hg hne
        refine w_callv (va_runV (As := [.int a1, .int (2 : Int32)]) (rest := []) CX (ctX8_push l D sw cs ad X H.size M3 a1 (2 : Int32) q10) (cwV 2 hts (gwV m5_125 m5_127 mp4_1 m1_7 m5_128) rfl rfl rfl (by decide +kernel) ⟨Nat.le_trans (Nat.le_of_ble_eq_true rfl) hR.1, Nat.le_trans (Nat.le_of_ble_eq_true rfl) hR.2⟩) (wPreV hSW hS hA hK hP hD (by decide) rfl rfl _) rfl rfl hl.1 rfl (lv_room (Nat.le_of_ble_eq_true rfl)) dX8_expand_95 ⟨Nat.zero_le _, Nat.zero_le _⟩) hD hS hA (fun H locs hP hD hS => ?_)
        refine lv_iconst (v := 1) hx hb dX8_expand_98 (by decide) ?_
        exact hret _ _ _ _ _ _ hg dX8_expand_99 rfl hP hD hS
    · have hg := if_f hg c8
      refine lv_aload_n hx hb dX8_expand_79 rfl (lv_at hl 1 rfl) ?_
      refine lv_iload_n hx hb dX8_expand_80 rfl (lv_at hl 2 rfl) ?_
      refine lv_iconst (v := 1) hx hb dX8_expand_81 (by decide) ?_
      obtain ⟨M13, q12, hg⟩ := bd_e hg hne
      refine w_callv (va_runV (As := [.int a1, .int (1 : Int32)]) (rest := []) CX (ctX8_push l D sw cs ad X H.size M3 a1 (1 : Int32) q12) (cwV 2 hts (gwV m5_125 m5_127 mp4_1 m1_7 m5_128) rfl rfl rfl (by decide +kernel) ⟨Nat.le_trans (Nat.le_of_ble_eq_true rfl) hR.1, Nat.le_trans (Nat.le_of_ble_eq_true rfl) hR.2⟩) (wPreV hSW hS hA hK hP hD (by decide) rfl rfl _) rfl rfl hl.1 rfl (lv_room (Nat.le_of_ble_eq_true rfl)) dX8_expand_82 ⟨Nat.zero_le _, Nat.zero_le _⟩) hD hS hA (fun H locs hP hD hS => ?_)
      refine lv_iload_n hx hb dX8_expand_85 rfl (lv_at hl 3 rfl) ?_
      refine r_calli (W.runS (As := [.int a2]) (rest := []) CX (ctX8_canBegin l a2) (va_cwS 1 hts (gwS m5_145 m5_146 m1_7 m5_147) rfl rfl rfl (by decide +kernel) ⟨Nat.le_trans (Nat.le_of_ble_eq_true rfl) hR.1, Nat.le_trans (Nat.le_of_ble_eq_true rfl) hR.2⟩) (pPreS _) rfl rfl hl.1 rfl (lv_room (Nat.le_of_ble_eq_true rfl)) dX8_expand_86 ⟨Nat.zero_le _, Nat.zero_le _⟩) ?_
      refine lv_if_eq (tgt := 98) hx hb dX8_expand_89 (by decide) (fun c14 => ?_) (fun c14 => ?_)
      · have hg := if_t hg c14
        refine lv_iconst (v := 1) hx hb dX8_expand_98 (by decide) ?_
        exact hret _ _ _ _ _ _ hg dX8_expand_99 rfl hP hD hS
      · have hg := if_f hg c14
        refine lv_aload_n hx hb dX8_expand_92 rfl (lv_at hl 1 rfl) ?_
        refine lv_iload_n hx hb dX8_expand_93 rfl (lv_at hl 2 rfl) ?_
        refine lv_iconst (v := 2) hx hb dX8_expand_94 (by decide) ?_
        obtain ⟨M16, q15, hg⟩ := bd_e hg hne
        refine w_callv (va_runV (As := [.int a1, .int (2 : Int32)]) (rest := []) CX (ctX8_push l D sw cs ad X H.size M13 a1 (2 : Int32) q15) (cwV 2 hts (gwV m5_125 m5_127 mp4_1 m1_7 m5_128) rfl rfl rfl (by decide +kernel) ⟨Nat.le_trans (Nat.le_of_ble_eq_true rfl) hR.1, Nat.le_trans (Nat.le_of_ble_eq_true rfl) hR.2⟩) (wPreV hSW hS hA hK hP hD (by decide) rfl rfl _) rfl rfl hl.1 rfl (lv_room (Nat.le_of_ble_eq_true rfl)) dX8_expand_95 ⟨Nat.zero_le _, Nat.zero_le _⟩) hD hS hA (fun H locs hP hD hS => ?_)
        refine lv_iconst (v := 1) hx hb dX8_expand_98 (by decide) ?_
        exact hret _ _ _ _ _ _ hg dX8_expand_99 rfl hP hD hS
  have hg := if_f hg z7
  by_cases z17 : x6 = (2 : Int32)
  · have hg := if_t hg z17
    refine lv_tableIn (off := 71) (tgt := 100) hx hb dX8_expand_29 (by rw [z17]; decide) (by rw [z17]; decide) (by rw [z17]; decide) (by decide) ?_
    refine lv_aload_n hx hb dX8_expand_100 rfl (lv_at hl 1 rfl) ?_
    refine lv_iload_n hx hb dX8_expand_101 rfl (lv_at hl 2 rfl) ?_
    refine lv_iload_n hx hb dX8_expand_102 rfl (lv_at hl 3 rfl) ?_
    obtain ⟨r20, M19, q18, hg⟩ := bd2_e hg hne
    refine w_calli (va_runV (As := [.int a1, .int a2]) (rest := []) CX (ctX8_expandStatement l D sw cs ad X H.size M3 a1 a2 q18) (cwV 2 hts (gwV m5_151 m5_153 mp4_6 m1_7 m5_154) rfl rfl rfl (by decide +kernel) ⟨Nat.le_trans (Nat.le_of_ble_eq_true rfl) hR.1, Nat.le_trans (Nat.le_of_ble_eq_true rfl) hR.2⟩) (wPreV hSW hS hA hK hP hD (by decide) rfl rfl _) rfl rfl hl.1 rfl (lv_room (Nat.le_of_ble_eq_true rfl)) dX8_expand_103 ⟨Nat.zero_le _, Nat.zero_le _⟩) hD hS hA (fun H locs hP hD hS => ?_)
    obtain ⟨z21, hg⟩ := ck_e hg hne
    exact hret _ _ _ _ _ _ hg dX8_expand_106 (z01 z21) hP hD hS
  have hg := if_f hg z17
  by_cases z22 : x6 = (3 : Int32)
  · have hg := if_t hg z22
    refine lv_tableIn (off := 78) (tgt := 107) hx hb dX8_expand_29 (by rw [z22]; decide) (by rw [z22]; decide) (by rw [z22]; decide) (by decide) ?_
    refine lv_iload_n hx hb dX8_expand_107 rfl (lv_at hl 3 rfl) ?_
    refine lv_bipush (v := 58) hx hb dX8_expand_108 (by decide) ?_
    refine lv_icmp_ne (tgt := 119) hx hb dX8_expand_110 (by decide) (fun c23 => ?_) (fun c23 => ?_)
    · have hg := if_f hg c23
      refine lv_iload_n hx hb dX8_expand_119 rfl (lv_at hl 3 rfl) ?_
      refine lv_bipush (v := 58) hx hb dX8_expand_120 (by decide) ?_
      refine lv_icmp_ne (tgt := 132) hx hb dX8_expand_122 (by decide) (fun c24 => ?_) (fun c24 => ?_)
      · have hg := if_f hg c24
        refine lv_iconst (v := 1) hx hb dX8_expand_132 (by decide) ?_
        exact hret _ _ _ _ _ _ hg dX8_expand_133 rfl hP hD hS
      · have hg := if_t hg c24
        refine lv_aload_n hx hb dX8_expand_125 rfl (lv_at hl 1 rfl) ?_
        refine lv_iload_n hx hb dX8_expand_126 rfl (lv_at hl 2 rfl) ?_
        refine lv_bipush (v := 58) hx hb dX8_expand_127 (by decide) ?_
        obtain ⟨M26, q25, hg⟩ := bd_e hg hne
        refine w_callv (va_runV (As := [.int a1, .int (58 : Int32)]) (rest := []) CX (ctX8_push l D sw cs ad X H.size M3 a1 (58 : Int32) q25) (cwV 2 hts (gwV m5_125 m5_127 mp4_1 m1_7 m5_128) rfl rfl rfl (by decide +kernel) ⟨Nat.le_trans (Nat.le_of_ble_eq_true rfl) hR.1, Nat.le_trans (Nat.le_of_ble_eq_true rfl) hR.2⟩) (wPreV hSW hS hA hK hP hD (by decide) rfl rfl _) rfl rfl hl.1 rfl (lv_room (Nat.le_of_ble_eq_true rfl)) dX8_expand_129 ⟨Nat.zero_le _, Nat.zero_le _⟩) hD hS hA (fun H locs hP hD hS => ?_)
        refine lv_iconst (v := 1) hx hb dX8_expand_132 (by decide) ?_
        exact hret _ _ _ _ _ _ hg dX8_expand_133 rfl hP hD hS
    · have hg := if_t hg c23
      refine lv_aload_n hx hb dX8_expand_113 rfl (lv_at hl 1 rfl) ?_
      refine lv_iload_n hx hb dX8_expand_114 rfl (lv_at hl 2 rfl) ?_
      refine lv_iconst (v := 2) hx hb dX8_expand_115 (by decide) ?_
      obtain ⟨M28, q27, hg⟩ := bd_e hg hne
      refine w_callv (va_runV (As := [.int a1, .int (2 : Int32)]) (rest := []) CX (ctX8_push l D sw cs ad X H.size M3 a1 (2 : Int32) q27) (cwV 2 hts (gwV m5_125 m5_127 mp4_1 m1_7 m5_128) rfl rfl rfl (by decide +kernel) ⟨Nat.le_trans (Nat.le_of_ble_eq_true rfl) hR.1, Nat.le_trans (Nat.le_of_ble_eq_true rfl) hR.2⟩) (wPreV hSW hS hA hK hP hD (by decide) rfl rfl _) rfl rfl hl.1 rfl (lv_room (Nat.le_of_ble_eq_true rfl)) dX8_expand_116 ⟨Nat.zero_le _, Nat.zero_le _⟩) hD hS hA (fun H locs hP hD hS => ?_)
      refine lv_iload_n hx hb dX8_expand_119 rfl (lv_at hl 3 rfl) ?_
      refine lv_bipush (v := 58) hx hb dX8_expand_120 (by decide) ?_
      refine lv_icmp_ne (tgt := 132) hx hb dX8_expand_122 (by decide) (fun c29 => ?_) (fun c29 => ?_)
      · have hg := if_f hg c29
        refine lv_iconst (v := 1) hx hb dX8_expand_132 (by decide) ?_
        exact hret _ _ _ _ _ _ hg dX8_expand_133 rfl hP hD hS
      · have hg := if_t hg c29
        refine lv_aload_n hx hb dX8_expand_125 rfl (lv_at hl 1 rfl) ?_
        refine lv_iload_n hx hb dX8_expand_126 rfl (lv_at hl 2 rfl) ?_
        refine lv_bipush (v := 58) hx hb dX8_expand_127 (by decide) ?_
        obtain ⟨M31, q30, hg⟩ := bd_e hg hne
        refine w_callv (va_runV (As := [.int a1, .int (58 : Int32)]) (rest := []) CX (ctX8_push l D sw cs ad X H.size M28 a1 (58 : Int32) q30) (cwV 2 hts (gwV m5_125 m5_127 mp4_1 m1_7 m5_128) rfl rfl rfl (by decide +kernel) ⟨Nat.le_trans (Nat.le_of_ble_eq_true rfl) hR.1, Nat.le_trans (Nat.le_of_ble_eq_true rfl) hR.2⟩) (wPreV hSW hS hA hK hP hD (by decide) rfl rfl _) rfl rfl hl.1 rfl (lv_room (Nat.le_of_ble_eq_true rfl)) dX8_expand_129 ⟨Nat.zero_le _, Nat.zero_le _⟩) hD hS hA (fun H locs hP hD hS => ?_)
        refine lv_iconst (v := 1) hx hb dX8_expand_132 (by decide) ?_
        exact hret _ _ _ _ _ _ hg dX8_expand_133 rfl hP hD hS
  have hg := if_f hg z22
  by_cases z32 : x6 = (4 : Int32)
  · have hg := if_t hg z32
    refine lv_tableIn (off := 105) (tgt := 134) hx hb dX8_expand_29 (by rw [z32]; decide) (by rw [z32]; decide) (by rw [z32]; decide) (by decide) ?_
    refine lv_aload_n hx hb dX8_expand_134 rfl (lv_at hl 1 rfl) ?_
    refine lv_iload_n hx hb dX8_expand_135 rfl (lv_at hl 2 rfl) ?_
    refine lv_iconst (v := 5) hx hb dX8_expand_136 (by decide) ?_
    obtain ⟨M34, q33, hg⟩ := bd_e hg hne
    refine w_callv (va_runV (As := [.int a1, .int (5 : Int32)]) (rest := []) CX (ctX8_push l D sw cs ad X H.size M3 a1 (5 : Int32) q33) (cwV 2 hts (gwV m5_125 m5_127 mp4_1 m1_7 m5_128) rfl rfl rfl (by decide +kernel) ⟨Nat.le_trans (Nat.le_of_ble_eq_true rfl) hR.1, Nat.le_trans (Nat.le_of_ble_eq_true rfl) hR.2⟩) (wPreV hSW hS hA hK hP hD (by decide) rfl rfl _) rfl rfl hl.1 rfl (lv_room (Nat.le_of_ble_eq_true rfl)) dX8_expand_137 ⟨Nat.zero_le _, Nat.zero_le _⟩) hD hS hA (fun H locs hP hD hS => ?_)
    refine lv_aload_n hx hb dX8_expand_140 rfl (lv_at hl 1 rfl) ?_
    refine lv_iload_n hx hb dX8_expand_141 rfl (lv_at hl 2 rfl) ?_
    refine lv_bipush (v := 6) hx hb dX8_expand_142 (by decide) ?_
    obtain ⟨M36, q35, hg⟩ := bd_e hg hne
    refine w_callv (va_runV (As := [.int a1, .int (6 : Int32)]) (rest := []) CX (ctX8_push l D sw cs ad X H.size M34 a1 (6 : Int32) q35) (cwV 2 hts (gwV m5_125 m5_127 mp4_1 m1_7 m5_128) rfl rfl rfl (by decide +kernel) ⟨Nat.le_trans (Nat.le_of_ble_eq_true rfl) hR.1, Nat.le_trans (Nat.le_of_ble_eq_true rfl) hR.2⟩) (wPreV hSW hS hA hK hP hD (by decide) rfl rfl _) rfl rfl hl.1 rfl (lv_room (Nat.le_of_ble_eq_true rfl)) dX8_expand_144 ⟨Nat.zero_le _, Nat.zero_le _⟩) hD hS hA (fun H locs hP hD hS => ?_)
    refine lv_iconst (v := 1) hx hb dX8_expand_147 (by decide) ?_
    exact hret _ _ _ _ _ _ hg dX8_expand_148 rfl hP hD hS
  have hg := if_f hg z32
  by_cases z37 : x6 = (5 : Int32)
  · have hg := if_t hg z37
    refine lv_tableIn (off := 136) (tgt := 165) hx hb dX8_expand_29 (by rw [z37]; decide) (by rw [z37]; decide) (by rw [z37]; decide) (by decide) ?_
    refine lv_iload_n hx hb dX8_expand_165 rfl (lv_at hl 3 rfl) ?_
    refine lv_bipush (v := 43) hx hb dX8_expand_166 (by decide) ?_
    refine lv_icmp_eq (tgt := 179) hx hb dX8_expand_168 (by decide) (fun c38 => ?_) (fun c38 => ?_)
    · have hg := if_t hg c38
      refine lv_aload_n hx hb dX8_expand_179 rfl (lv_at hl 1 rfl) ?_
      refine lv_iload_n hx hb dX8_expand_180 rfl (lv_at hl 2 rfl) ?_
      refine lv_iconst (v := 5) hx hb dX8_expand_181 (by decide) ?_
      obtain ⟨M40, q39, hg⟩ := bd_e hg hne
      refine w_callv (va_runV (As := [.int a1, .int (5 : Int32)]) (rest := []) CX (ctX8_push l D sw cs ad X H.size M3 a1 (5 : Int32) q39) (cwV 2 hts (gwV m5_125 m5_127 mp4_1 m1_7 m5_128) rfl rfl rfl (by decide +kernel) ⟨Nat.le_trans (Nat.le_of_ble_eq_true rfl) hR.1, Nat.le_trans (Nat.le_of_ble_eq_true rfl) hR.2⟩) (wPreV hSW hS hA hK hP hD (by decide) rfl rfl _) rfl rfl hl.1 rfl (lv_room (Nat.le_of_ble_eq_true rfl)) dX8_expand_182 ⟨Nat.zero_le _, Nat.zero_le _⟩) hD hS hA (fun H locs hP hD hS => ?_)
      refine lv_aload_n hx hb dX8_expand_185 rfl (lv_at hl 1 rfl) ?_
      refine lv_iload_n hx hb dX8_expand_186 rfl (lv_at hl 2 rfl) ?_
      refine lv_bipush (v := 6) hx hb dX8_expand_187 (by decide) ?_
      obtain ⟨M42, q41, hg⟩ := bd_e hg hne
      refine w_callv (va_runV (As := [.int a1, .int (6 : Int32)]) (rest := []) CX (ctX8_push l D sw cs ad X H.size M40 a1 (6 : Int32) q41) (cwV 2 hts (gwV m5_125 m5_127 mp4_1 m1_7 m5_128) rfl rfl rfl (by decide +kernel) ⟨Nat.le_trans (Nat.le_of_ble_eq_true rfl) hR.1, Nat.le_trans (Nat.le_of_ble_eq_true rfl) hR.2⟩) (wPreV hSW hS hA hK hP hD (by decide) rfl rfl _) rfl rfl hl.1 rfl (lv_room (Nat.le_of_ble_eq_true rfl)) dX8_expand_189 ⟨Nat.zero_le _, Nat.zero_le _⟩) hD hS hA (fun H locs hP hD hS => ?_)
      refine lv_aload_n hx hb dX8_expand_192 rfl (lv_at hl 1 rfl) ?_
      refine lv_iload_n hx hb dX8_expand_193 rfl (lv_at hl 2 rfl) ?_
      refine lv_iload_n hx hb dX8_expand_194 rfl (lv_at hl 3 rfl) ?_
      obtain ⟨M44, q43, hg⟩ := bd_e hg hne
      refine w_callv (va_runV (As := [.int a1, .int a2]) (rest := []) CX (ctX8_push l D sw cs ad X H.size M42 a1 a2 q43) (cwV 2 hts (gwV m5_125 m5_127 mp4_1 m1_7 m5_128) rfl rfl rfl (by decide +kernel) ⟨Nat.le_trans (Nat.le_of_ble_eq_true rfl) hR.1, Nat.le_trans (Nat.le_of_ble_eq_true rfl) hR.2⟩) (wPreV hSW hS hA hK hP hD (by decide) rfl rfl _) rfl rfl hl.1 rfl (lv_room (Nat.le_of_ble_eq_true rfl)) dX8_expand_195 ⟨Nat.zero_le _, Nat.zero_le _⟩) hD hS hA (fun H locs hP hD hS => ?_)
      refine lv_iconst (v := 1) hx hb dX8_expand_198 (by decide) ?_
      exact hret _ _ _ _ _ _ hg dX8_expand_199 rfl hP hD hS
    · have hg := if_f hg c38
      refine lv_iload_n hx hb dX8_expand_171 rfl (lv_at hl 3 rfl) ?_
      refine lv_bipush (v := 45) hx hb dX8_expand_172 (by decide) ?_
      refine lv_icmp_eq (tgt := 179) hx hb dX8_expand_174 (by decide) (fun c45 => ?_) (fun c45 => ?_)
      · have hg := if_t hg c45
        refine lv_aload_n hx hb dX8_expand_179 rfl (lv_at hl 1 rfl) ?_
        refine lv_iload_n hx hb dX8_expand_180 rfl (lv_at hl 2 rfl) ?_
        refine lv_iconst (v := 5) hx hb dX8_expand_181 (by decide) ?_
        obtain ⟨M47, q46, hg⟩ := bd_e hg hne
        refine w_callv (va_runV (As := [.int a1, .int (5 : Int32)]) (rest := []) CX (ctX8_push l D sw cs ad X H.size M3 a1 (5 : Int32) q46) (cwV 2 hts (gwV m5_125 m5_127 mp4_1 m1_7 m5_128) rfl rfl rfl (by decide +kernel) ⟨Nat.le_trans (Nat.le_of_ble_eq_true rfl) hR.1, Nat.le_trans (Nat.le_of_ble_eq_true rfl) hR.2⟩) (wPreV hSW hS hA hK hP hD (by decide) rfl rfl _) rfl rfl hl.1 rfl (lv_room (Nat.le_of_ble_eq_true rfl)) dX8_expand_182 ⟨Nat.zero_le _, Nat.zero_le _⟩) hD hS hA (fun H locs hP hD hS => ?_)
        refine lv_aload_n hx hb dX8_expand_185 rfl (lv_at hl 1 rfl) ?_
        refine lv_iload_n hx hb dX8_expand_186 rfl (lv_at hl 2 rfl) ?_
        refine lv_bipush (v := 6) hx hb dX8_expand_187 (by decide) ?_
        obtain ⟨M49, q48, hg⟩ := bd_e hg hne
        refine w_callv (va_runV (As := [.int a1, .int (6 : Int32)]) (rest := []) CX (ctX8_push l D sw cs ad X H.size M47 a1 (6 : Int32) q48) (cwV 2 hts (gwV m5_125 m5_127 mp4_1 m1_7 m5_128) rfl rfl rfl (by decide +kernel) ⟨Nat.le_trans (Nat.le_of_ble_eq_true rfl) hR.1, Nat.le_trans (Nat.le_of_ble_eq_true rfl) hR.2⟩) (wPreV hSW hS hA hK hP hD (by decide) rfl rfl _) rfl rfl hl.1 rfl (lv_room (Nat.le_of_ble_eq_true rfl)) dX8_expand_189 ⟨Nat.zero_le _, Nat.zero_le _⟩) hD hS hA (fun H locs hP hD hS => ?_)
        refine lv_aload_n hx hb dX8_expand_192 rfl (lv_at hl 1 rfl) ?_
        refine lv_iload_n hx hb dX8_expand_193 rfl (lv_at hl 2 rfl) ?_
        refine lv_iload_n hx hb dX8_expand_194 rfl (lv_at hl 3 rfl) ?_
        obtain ⟨M51, q50, hg⟩ := bd_e hg hne
        refine w_callv (va_runV (As := [.int a1, .int a2]) (rest := []) CX (ctX8_push l D sw cs ad X H.size M49 a1 a2 q50) (cwV 2 hts (gwV m5_125 m5_127 mp4_1 m1_7 m5_128) rfl rfl rfl (by decide +kernel) ⟨Nat.le_trans (Nat.le_of_ble_eq_true rfl) hR.1, Nat.le_trans (Nat.le_of_ble_eq_true rfl) hR.2⟩) (wPreV hSW hS hA hK hP hD (by decide) rfl rfl _) rfl rfl hl.1 rfl (lv_room (Nat.le_of_ble_eq_true rfl)) dX8_expand_195 ⟨Nat.zero_le _, Nat.zero_le _⟩) hD hS hA (fun H locs hP hD hS => ?_)
        refine lv_iconst (v := 1) hx hb dX8_expand_198 (by decide) ?_
        exact hret _ _ _ _ _ _ hg dX8_expand_199 rfl hP hD hS
      · have hg := if_f hg c45
        refine lv_iconst (v := 1) hx hb dX8_expand_177 (by decide) ?_
        exact hret _ _ _ _ _ _ hg dX8_expand_178 rfl hP hD hS
  have hg := if_f hg z37
  by_cases z52 : x6 = (6 : Int32)
  · have hg := if_t hg z52
    refine lv_tableIn (off := 120) (tgt := 149) hx hb dX8_expand_29 (by rw [z52]; decide) (by rw [z52]; decide) (by rw [z52]; decide) (by decide) ?_
    refine lv_aload_n hx hb dX8_expand_149 rfl (lv_at hl 1 rfl) ?_
    refine lv_iload_n hx hb dX8_expand_150 rfl (lv_at hl 2 rfl) ?_
    refine lv_bipush (v := 7) hx hb dX8_expand_151 (by decide) ?_
    obtain ⟨M54, q53, hg⟩ := bd_e hg hne
    refine w_callv (va_runV (As := [.int a1, .int (7 : Int32)]) (rest := []) CX (ctX8_push l D sw cs ad X H.size M3 a1 (7 : Int32) q53) (cwV 2 hts (gwV m5_125 m5_127 mp4_1 m1_7 m5_128) rfl rfl rfl (by decide +kernel) ⟨Nat.le_trans (Nat.le_of_ble_eq_true rfl) hR.1, Nat.le_trans (Nat.le_of_ble_eq_true rfl) hR.2⟩) (wPreV hSW hS hA hK hP hD (by decide) rfl rfl _) rfl rfl hl.1 rfl (lv_room (Nat.le_of_ble_eq_true rfl)) dX8_expand_153 ⟨Nat.zero_le _, Nat.zero_le _⟩) hD hS hA (fun H locs hP hD hS => ?_)
    refine lv_aload_n hx hb dX8_expand_156 rfl (lv_at hl 1 rfl) ?_
    refine lv_iload_n hx hb dX8_expand_157 rfl (lv_at hl 2 rfl) ?_
    refine lv_bipush (v := 8) hx hb dX8_expand_158 (by decide) ?_
    obtain ⟨M56, q55, hg⟩ := bd_e hg hne
    refine w_callv (va_runV (As := [.int a1, .int (8 : Int32)]) (rest := []) CX (ctX8_push l D sw cs ad X H.size M54 a1 (8 : Int32) q55) (cwV 2 hts (gwV m5_125 m5_127 mp4_1 m1_7 m5_128) rfl rfl rfl (by decide +kernel) ⟨Nat.le_trans (Nat.le_of_ble_eq_true rfl) hR.1, Nat.le_trans (Nat.le_of_ble_eq_true rfl) hR.2⟩) (wPreV hSW hS hA hK hP hD (by decide) rfl rfl _) rfl rfl hl.1 rfl (lv_room (Nat.le_of_ble_eq_true rfl)) dX8_expand_160 ⟨Nat.zero_le _, Nat.zero_le _⟩) hD hS hA (fun H locs hP hD hS => ?_)
    refine lv_iconst (v := 1) hx hb dX8_expand_163 (by decide) ?_
    exact hret _ _ _ _ _ _ hg dX8_expand_164 rfl hP hD hS
  have hg := if_f hg z52
  by_cases z57 : x6 = (7 : Int32)
  · have hg := if_t hg z57
    refine lv_tableIn (off := 171) (tgt := 200) hx hb dX8_expand_29 (by rw [z57]; decide) (by rw [z57]; decide) (by rw [z57]; decide) (by decide) ?_
    refine lv_iload_n hx hb dX8_expand_200 rfl (lv_at hl 3 rfl) ?_
    refine lv_bipush (v := 42) hx hb dX8_expand_201 (by decide) ?_
    refine lv_icmp_eq (tgt := 208) hx hb dX8_expand_203 (by decide) (fun c58 => ?_) (fun c58 => ?_)
    · have hg := if_t hg c58
      refine lv_aload_n hx hb dX8_expand_208 rfl (lv_at hl 1 rfl) ?_
      refine lv_iload_n hx hb dX8_expand_209 rfl (lv_at hl 2 rfl) ?_
      refine lv_bipush (v := 7) hx hb dX8_expand_210 (by decide) ?_
      obtain ⟨M60, q59, hg⟩ := bd_e hg hne
      refine w_callv (va_runV (As := [.int a1, .int (7 : Int32)]) (rest := []) CX (ctX8_push l D sw cs ad X H.size M3 a1 (7 : Int32) q59) (cwV 2 hts (gwV m5_125 m5_127 mp4_1 m1_7 m5_128) rfl rfl rfl (by decide +kernel) ⟨Nat.le_trans (Nat.le_of_ble_eq_true rfl) hR.1, Nat.le_trans (Nat.le_of_ble_eq_true rfl) hR.2⟩) (wPreV hSW hS hA hK hP hD (by decide) rfl rfl _) rfl rfl hl.1 rfl (lv_room (Nat.le_of_ble_eq_true rfl)) dX8_expand_212 ⟨Nat.zero_le _, Nat.zero_le _⟩) hD hS hA (fun H locs hP hD hS => ?_)
      refine lv_aload_n hx hb dX8_expand_215 rfl (lv_at hl 1 rfl) ?_
      refine lv_iload_n hx hb dX8_expand_216 rfl (lv_at hl 2 rfl) ?_
      refine lv_bipush (v := 8) hx hb dX8_expand_217 (by decide) ?_
      obtain ⟨M62, q61, hg⟩ := bd_e hg hne
      refine w_callv (va_runV (As := [.int a1, .int (8 : Int32)]) (rest := []) CX (ctX8_push l D sw cs ad X H.size M60 a1 (8 : Int32) q61) (cwV 2 hts (gwV m5_125 m5_127 mp4_1 m1_7 m5_128) rfl rfl rfl (by decide +kernel) ⟨Nat.le_trans (Nat.le_of_ble_eq_true rfl) hR.1, Nat.le_trans (Nat.le_of_ble_eq_true rfl) hR.2⟩) (wPreV hSW hS hA hK hP hD (by decide) rfl rfl _) rfl rfl hl.1 rfl (lv_room (Nat.le_of_ble_eq_true rfl)) dX8_expand_219 ⟨Nat.zero_le _, Nat.zero_le _⟩) hD hS hA (fun H locs hP hD hS => ?_)
      refine lv_aload_n hx hb dX8_expand_222 rfl (lv_at hl 1 rfl) ?_
      refine lv_iload_n hx hb dX8_expand_223 rfl (lv_at hl 2 rfl) ?_
      refine lv_iload_n hx hb dX8_expand_224 rfl (lv_at hl 3 rfl) ?_
      obtain ⟨M64, q63, hg⟩ := bd_e hg hne
      refine w_callv (va_runV (As := [.int a1, .int a2]) (rest := []) CX (ctX8_push l D sw cs ad X H.size M62 a1 a2 q63) (cwV 2 hts (gwV m5_125 m5_127 mp4_1 m1_7 m5_128) rfl rfl rfl (by decide +kernel) ⟨Nat.le_trans (Nat.le_of_ble_eq_true rfl) hR.1, Nat.le_trans (Nat.le_of_ble_eq_true rfl) hR.2⟩) (wPreV hSW hS hA hK hP hD (by decide) rfl rfl _) rfl rfl hl.1 rfl (lv_room (Nat.le_of_ble_eq_true rfl)) dX8_expand_225 ⟨Nat.zero_le _, Nat.zero_le _⟩) hD hS hA (fun H locs hP hD hS => ?_)
      refine lv_iconst (v := 1) hx hb dX8_expand_228 (by decide) ?_
      exact hret _ _ _ _ _ _ hg dX8_expand_229 rfl hP hD hS
    · have hg := if_f hg c58
      refine lv_iconst (v := 1) hx hb dX8_expand_206 (by decide) ?_
      exact hret _ _ _ _ _ _ hg dX8_expand_207 rfl hP hD hS
  have hg := if_f hg z57
  refine lv_tableOut (tgt := 230) hx hb dX8_expand_29 (by have := lv_neT (a := 1) z7 (by decide); have := lv_neT (a := 2) z17 (by decide); have := lv_neT (a := 3) z22 (by decide); have := lv_neT (a := 4) z32 (by decide); have := lv_neT (a := 5) z37 (by decide); have := lv_neT (a := 6) z52 (by decide); have := lv_neT (a := 7) z57 (by decide); omega) (by decide) ?_
  refine lv_aload_n hx hb dX8_expand_230 rfl (lv_at hl 1 rfl) ?_
  refine lv_iload_n hx hb dX8_expand_231 rfl (lv_at hl 2 rfl) ?_
  refine lv_iload_n hx hb dX8_expand_232 rfl (lv_at hl 3 rfl) ?_
  obtain ⟨r67, M66, q65, hg⟩ := bd2_e hg hne
  refine w_calli (va_runV (As := [.int a1, .int a2]) (rest := []) CX (ctX8_expandFactor l D sw cs ad X H.size M3 a1 a2 q65) (cwV 2 hts (gwV m5_155 m5_157 mp4_7 m1_7 m5_158) rfl rfl rfl (by decide +kernel) ⟨Nat.le_trans (Nat.le_of_ble_eq_true rfl) hR.1, Nat.le_trans (Nat.le_of_ble_eq_true rfl) hR.2⟩) (wPreV hSW hS hA hK hP hD (by decide) rfl rfl _) rfl rfl hl.1 rfl (lv_room (Nat.le_of_ble_eq_true rfl)) dX8_expand_233 ⟨Nat.zero_le _, Nat.zero_le _⟩) hD hS hA (fun H locs hP hD hS => ?_)
  obtain ⟨z68, hg⟩ := ck_e hg hne
  exact hret _ _ _ _ _ _ hg dX8_expand_236 (z01 z68) hP hD hS
theorem ctX8_expand (l : Launch) (D : va_G) (sw : Sw) (cs : Cs) (ad : Nat → Nat) (X : va_W) (sz : Nat) (M : Mm) (a1 : Int32) (a2 : Int32) {r : Int32} {M1 : Mm} (hq : gX8_expand M a1 a2 = some (r, M1)) : Met l yX8_expand wsX8_expand ({ frames := 3, cells := 0, slots := 0, locals := 62 }) (va_Pc [.ref (ad 0), .int a1, .int a2] (wPre D sw cs LM NM ad M X sz)) (wQi D cs LM NM ad M1 X sz r) 0 0 (wA NM ad X sz) :=
  met_w rfl rfl (Nat.le_of_ble_eq_true rfl) (fun p e s m args below meth c ls CX hr hlk hK hSW hP hD hS hA hl => bX8_expand M a1 a2 hq (by simp) CX ⟨Nat.le_refl _, Nat.le_refl _⟩ hK hSW hP hD hS hA hl (fun pc ls H locs v M9 hv dg hz hP hD hS => W.zret (ty := .boolean) CX.1 CX.2.1 hr hz (fun t ht hW => ⟨⟨_, (), rfl, (Prod.mk.inj (Option.some.inj hv)).1, wpost hP ht (Prod.mk.inj (Option.some.inj hv)).2⟩, hS.F ht⟩) hS.2.2 dg))

abbrev wsX8_readOne : List Cond := Cond.code yX8_readOne cX8_readOne 3 (some .boolean) :: WG
def gX8_readOne_L0 (a1 : Int32) (a2 : Int32) (E2 : Mm → Option (Int32 × Mm)) : Nat → Mm → Option (Int32 × Mm)
  | 0, _ => none
  | n15 + 1, M14 => if (a1 < 0 ∨ 16 ≤ (a1).toNatClampNeg) then none else if (M14 5 (a1).toNatClampNeg) ≤ 0 then (E2 M14) else if (a1 < 0 ∨ 16 ≤ (a1).toNatClampNeg) then none else if (((((400 : Int32) * a1) + (M14 5 (a1).toNatClampNeg)) - (1 : Int32)) < 0 ∨ 6400 ≤ (((((400 : Int32) * a1) + (M14 5 (a1).toNatClampNeg)) - (1 : Int32))).toNatClampNeg) then none else if (8 : Int32) < (M14 4 (((((400 : Int32) * a1) + (M14 5 (a1).toNatClampNeg)) - (1 : Int32))).toNatClampNeg) then (E2 M14) else bd2 (gX8_expand M14 a1 a2) fun r23 M22 => if r23 = 0 then (some ((0 : Int32), M22)) else gX8_readOne_L0 a1 a2 E2 n15 M22
def gX8_readOne (M : Mm) (a1 : Int32) (a2 : Int32) : Option (Int32 × Mm) := lt (fun (M1 : Mm) => if a2 = 0 then (if (a1 < 0 ∨ 16 ≤ (a1).toNatClampNeg) then none else if (M1 5 (a1).toNatClampNeg) = 0 then (some ((1 : Int32), M1)) else some ((0 : Int32), M1)) else if (a1 < 0 ∨ 16 ≤ (a1).toNatClampNeg) then none else if (M1 5 (a1).toNatClampNeg) = 0 then (some ((0 : Int32), M1)) else if (a1 < 0 ∨ 16 ≤ (a1).toNatClampNeg) then none else if (((((400 : Int32) * a1) + (M1 5 (a1).toNatClampNeg)) - (1 : Int32)) < 0 ∨ 6400 ≤ (((((400 : Int32) * a1) + (M1 5 (a1).toNatClampNeg)) - (1 : Int32))).toNatClampNeg) then none else if (M1 4 (((((400 : Int32) * a1) + (M1 5 (a1).toNatClampNeg)) - (1 : Int32))).toNatClampNeg) = a2 then (if (a1 < 0 ∨ 16 ≤ (a1).toNatClampNeg) then none else if (a1 < 0 ∨ 16 ≤ (a1).toNatClampNeg) then none else lt (um M1 5 (a1).toNatClampNeg ((M1 5 (a1).toNatClampNeg) - (1 : Int32))) fun M11 => some ((1 : Int32), M11)) else some ((0 : Int32), M1)) fun E2 => gX8_readOne_L0 a1 a2 E2 FU M
set_option maxHeartbeats 4000000 in
set_option maxRecDepth 100000 in
theorem bX8_readOne {p : Program} {l : Launch} {e : Env} {R : Room} {s : State} {m : MethodId} {args : Array Value} {below : List Frame} {meth : Method} {c : Code} {H : Heap} {locs : List Loc} {Q : State → Prop} {D : va_G} {sw : Sw} {cs : Cs} {ad : Nat → Nat} {X : va_W} {A : Nat → Prop} (M : Mm) (a1 : Int32) (a2 : Int32) {res : Option (Int32 × Mm)} (hg : gX8_readOne M a1 a2 = res) (hne : res ≠ none) (CX : CallFix p m c cX8_readOne 3 s args wsX8_readOne RX8) (hR : 4 ≤ R.frames ∧ 85 ≤ R.locals) (hK : va_K D vwCl (tysC cs) s) (hSW : SW sw A s s.heap) (hP : va_P D vwCl (wl cs LM NM ad M ++ X) H) (hD : va_D A (wl cs LM NM ad M ++ X)) (hS : va_S A s.heap H locs) (hA : ∀ q, s.heap.size ≤ q → A q) {ls : Array Slot} (hl : lv_has ls 3 [(0, .ref (ad 0)), (1, .int a1), (2, .int a2)]) (hret : ∀ (pc : Nat) (ls : Array Slot) (H : Heap) (locs : List Loc) (v : Int32) (M9 : Mm), some (v, M9) = res → decode cX8_readOne pc = .ok (.ireturn, 1) → narrow .boolean (.int v) = .int v → va_P D vwCl (wl cs LM NM ad M9 ++ X) H → va_D A (wl cs LM NM ad M9 ++ X) → va_S A s.heap H locs → W p l e R s m args below meth c H locs 0 0 Q (F0 m pc ls [.int v])) : W p l e R s m args below meth c H locs 0 0 Q (F0 m 0 ls []) := by
  obtain ⟨hx, hb, hml, hown, hts⟩ := id CX
  have hw : ∀ w ∈ WG, w.before args s = true := fun w h => hts w (List.mem_cons_of_mem _ h)
  have lk_22 := hw _ m4_122
  have lk_19 := hw _ m4_121
  unfold gX8_readOne at hg
  obtain ⟨E2, hE2, hg⟩ := lf1 hg
  have kE2 : ∀ (M1 : Mm) (H : Heap) (locs : List Loc) (ls : Array Slot), va_P D vwCl (wl cs LM NM ad M1 ++ X) H → va_D A (wl cs LM NM ad M1 ++ X) → va_S A s.heap H locs → lv_has ls 3 [(0, .ref (ad 0)), (1, .int a1), (2, .int a2)] → E2 M1 = res → W p l e R s m args below meth c H locs 0 0 Q (F0 m 44 ls []) := by
    intro M1 H locs ls hP hD hS hl hg
    rw [hE2] at hg
    refine lv_iload_n hx hb dX8_readOne_44 rfl (lv_at hl 2 rfl) ?_
    refine lv_if_ne (tgt := 63) hx hb dX8_readOne_45 (by decide) (fun c3 => ?_) (fun c3 => ?_)
    · have hg := if_f hg c3
      refine lv_aload_n hx hb dX8_readOne_63 rfl (lv_at hl 0 rfl) ?_
      refine m_gr (C := RX8) (T := TX8) (n := 15) (ci := 6) hx hb hts in_RX8 hown hK hP (by decide) rfl rfl 6 (by decide) rfl lk_22 (fun _ h9 => h9) dX8_readOne_64 ?_
      refine lv_iload_n hx hb dX8_readOne_67 rfl (lv_at hl 1 rfl) ?_
      obtain ⟨b4, hg⟩ := ck_e hg hne
      refine m_ld hx hb hK hP (by decide) rfl b4 dX8_readOne_68 ?_
      refine lv_if_eq (tgt := 95) hx hb dX8_readOne_69 (by decide) (fun c5 => ?_) (fun c5 => ?_)
      · have hg := if_t hg c5
        refine lv_iconst (v := 0) hx hb dX8_readOne_95 (by decide) ?_
        exact hret _ _ _ _ _ _ hg dX8_readOne_96 rfl hP hD hS
      · have hg := if_f hg c5
        refine lv_aload_n hx hb dX8_readOne_72 rfl (lv_at hl 0 rfl) ?_
        refine m_gr (C := RX8) (T := TX8) (n := 15) (ci := 6) hx hb hts in_RX8 hown hK hP (by decide) rfl rfl 5 (by decide) rfl lk_19 (fun _ h9 => h9) dX8_readOne_73 ?_
        refine lv_sipush (v := 400) hx hb dX8_readOne_76 (by decide) ?_
        refine lv_iload_n hx hb dX8_readOne_79 rfl (lv_at hl 1 rfl) ?_
        refine lv_imul hx hb dX8_readOne_80 ?_
        refine lv_aload_n hx hb dX8_readOne_81 rfl (lv_at hl 0 rfl) ?_
        refine m_gr (C := RX8) (T := TX8) (n := 15) (ci := 6) hx hb hts in_RX8 hown hK hP (by decide) rfl rfl 6 (by decide) rfl lk_22 (fun _ h9 => h9) dX8_readOne_82 ?_
        refine lv_iload_n hx hb dX8_readOne_85 rfl (lv_at hl 1 rfl) ?_
        obtain ⟨b6, hg⟩ := ck_e hg hne
        refine m_ld hx hb hK hP (by decide) rfl b6 dX8_readOne_86 ?_
        refine lv_iadd hx hb dX8_readOne_87 ?_
        refine lv_iconst (v := 1) hx hb dX8_readOne_88 (by decide) ?_
        refine lv_isub hx hb dX8_readOne_89 ?_
        obtain ⟨b7, hg⟩ := ck_e hg hne
        refine m_ld hx hb hK hP (by decide) rfl b7 dX8_readOne_90 ?_
        refine lv_iload_n hx hb dX8_readOne_91 rfl (lv_at hl 2 rfl) ?_
        refine lv_icmp_eq (tgt := 97) hx hb dX8_readOne_92 (by decide) (fun c8 => ?_) (fun c8 => ?_)
        · have hg := if_t hg c8
          refine lv_aload_n hx hb dX8_readOne_97 rfl (lv_at hl 0 rfl) ?_
          refine m_gr (C := RX8) (T := TX8) (n := 15) (ci := 6) hx hb hts in_RX8 hown hK hP (by decide) rfl rfl 6 (by decide) rfl lk_22 (fun _ h9 => h9) dX8_readOne_98 ?_
          refine lv_iload_n hx hb dX8_readOne_101 rfl (lv_at hl 1 rfl) ?_
          refine lv_dup2_11 hx hb dX8_readOne_102 rfl rfl ?_
          obtain ⟨b9, hg⟩ := ck_e hg hne
          refine m_ld hx hb hK hP (by decide) rfl b9 dX8_readOne_103 ?_
          refine lv_iconst (v := 1) hx hb dX8_readOne_104 (by decide) ?_
          refine lv_isub hx hb dX8_readOne_105 ?_
          obtain ⟨b10, hg⟩ := ck_e hg hne
          obtain ⟨M11, hM11, hg⟩ := lt_e hg
          refine m_st hx hb hK hP hD hS (by decide) rfl b10 dX8_readOne_106 hM11 (fun H locs hP hD hS => ?_)
          refine lv_iconst (v := 1) hx hb dX8_readOne_107 (by decide) ?_
          exact hret _ _ _ _ _ _ hg dX8_readOne_108 rfl hP hD hS
        · have hg := if_f hg c8
          refine lv_iconst (v := 0) hx hb dX8_readOne_95 (by decide) ?_
          exact hret _ _ _ _ _ _ hg dX8_readOne_96 rfl hP hD hS
    · have hg := if_t hg c3
      refine lv_aload_n hx hb dX8_readOne_48 rfl (lv_at hl 0 rfl) ?_
      refine m_gr (C := RX8) (T := TX8) (n := 15) (ci := 6) hx hb hts in_RX8 hown hK hP (by decide) rfl rfl 6 (by decide) rfl lk_22 (fun _ h9 => h9) dX8_readOne_49 ?_
      refine lv_iload_n hx hb dX8_readOne_52 rfl (lv_at hl 1 rfl) ?_
      obtain ⟨b12, hg⟩ := ck_e hg hne
      refine m_ld hx hb hK hP (by decide) rfl b12 dX8_readOne_53 ?_
      refine lv_if_ne (tgt := 61) hx hb dX8_readOne_54 (by decide) (fun c13 => ?_) (fun c13 => ?_)
      · have hg := if_f hg c13
        refine lv_iconst (v := 0) hx hb dX8_readOne_61 (by decide) ?_
        exact hret _ _ _ _ _ _ hg dX8_readOne_62 rfl hP hD hS
      · have hg := if_t hg c13
        refine lv_iconst (v := 1) hx hb dX8_readOne_57 (by decide) ?_
        refine lv_goto (tgt := 62) hx hb dX8_readOne_58 (by decide) ?_
        exact hret _ _ _ _ _ _ hg dX8_readOne_62 rfl hP hD hS
  have kL0_25 : ∀ (n15 : Nat) (M14 : Mm) (H : Heap) (locs : List Loc) (ls : Array Slot), va_P D vwCl (wl cs LM NM ad M14 ++ X) H → va_D A (wl cs LM NM ad M14 ++ X) → va_S A s.heap H locs → lv_has ls 3 [(0, .ref (ad 0)), (1, .int a1), (2, .int a2)] → gX8_readOne_L0 a1 a2 E2 n15 M14 = res → W p l e R s m args below meth c H locs 0 0 Q (F0 m 0 ls []) := by
    intro n15
    induction n15 with
    | zero =>
      intro M14 H locs ls hP hD hS hl hg
      rw [gX8_readOne_L0] at hg
      exact absurd hg.symm hne
    | succ n15 ih =>
      intro M14 H locs ls hP hD hS hl hg
      rw [gX8_readOne_L0] at hg
      refine lv_aload_n hx hb dX8_readOne_0 rfl (lv_at hl 0 rfl) ?_
      refine m_gr (C := RX8) (T := TX8) (n := 15) (ci := 6) hx hb hts in_RX8 hown hK hP (by decide) rfl rfl 6 (by decide) rfl lk_22 (fun _ h9 => h9) dX8_readOne_1 ?_
      refine lv_iload_n hx hb dX8_readOne_4 rfl (lv_at hl 1 rfl) ?_
      obtain ⟨b16, hg⟩ := ck_e hg hne
      refine m_ld hx hb hK hP (by decide) rfl b16 dX8_readOne_5 ?_
      refine lv_if_le (tgt := 44) hx hb dX8_readOne_6 (by decide) (fun c17 => ?_) (fun c17 => ?_)
      · have hg := if_t hg c17
        exact kE2 _ _ _ _ hP hD hS (lv_sub hl [0, 1, 2] rfl) hg
      · have hg := if_f hg c17
        refine lv_aload_n hx hb dX8_readOne_9 rfl (lv_at hl 0 rfl) ?_
        refine m_gr (C := RX8) (T := TX8) (n := 15) (ci := 6) hx hb hts in_RX8 hown hK hP (by decide) rfl rfl 5 (by decide) rfl lk_19 (fun _ h9 => h9) dX8_readOne_10 ?_
        refine lv_sipush (v := 400) hx hb dX8_readOne_13 (by decide) ?_
        refine lv_iload_n hx hb dX8_readOne_16 rfl (lv_at hl 1 rfl) ?_
        refine lv_imul hx hb dX8_readOne_17 ?_
        refine lv_aload_n hx hb dX8_readOne_18 rfl (lv_at hl 0 rfl) ?_
        refine m_gr (C := RX8) (T := TX8) (n := 15) (ci := 6) hx hb hts in_RX8 hown hK hP (by decide) rfl rfl 6 (by decide) rfl lk_22 (fun _ h9 => h9) dX8_readOne_19 ?_
        refine lv_iload_n hx hb dX8_readOne_22 rfl (lv_at hl 1 rfl) ?_
        obtain ⟨b18, hg⟩ := ck_e hg hne
        refine m_ld hx hb hK hP (by decide) rfl b18 dX8_readOne_23 ?_
        refine lv_iadd hx hb dX8_readOne_24 ?_
        refine lv_iconst (v := 1) hx hb dX8_readOne_25 (by decide) ?_
        refine lv_isub hx hb dX8_readOne_26 ?_
        obtain ⟨b19, hg⟩ := ck_e hg hne
        refine m_ld hx hb hK hP (by decide) rfl b19 dX8_readOne_27 ?_
        refine lv_bipush (v := 8) hx hb dX8_readOne_28 (by decide) ?_
        refine lv_icmp_gt (tgt := 44) hx hb dX8_readOne_30 (by decide) (fun c20 => ?_) (fun c20 => ?_)
        · have hg := if_t hg c20
          exact kE2 _ _ _ _ hP hD hS (lv_sub hl [0, 1, 2] rfl) hg
        · have hg := if_f hg c20
          refine lv_aload_n hx hb dX8_readOne_33 rfl (lv_at hl 0 rfl) ?_
          refine lv_iload_n hx hb dX8_readOne_34 rfl (lv_at hl 1 rfl) ?_
          refine lv_iload_n hx hb dX8_readOne_35 rfl (lv_at hl 2 rfl) ?_
          obtain ⟨r23, M22, q21, hg⟩ := bd2_e hg hne
          refine w_calli (va_runV (As := [.int a1, .int a2]) (rest := []) CX (ctX8_expand l D sw cs ad X H.size M14 a1 a2 q21) (cwV 2 hts (gwV m5_141 m5_143 mp4_5 m1_7 m5_144) rfl rfl rfl (by decide +kernel) ⟨Nat.le_trans (Nat.le_of_ble_eq_true rfl) hR.1, Nat.le_trans (Nat.le_of_ble_eq_true rfl) hR.2⟩) (wPreV hSW hS hA hK hP hD (by decide) rfl rfl _) rfl rfl hl.1 rfl (lv_room (Nat.le_of_ble_eq_true rfl)) dX8_readOne_36 ⟨Nat.zero_le _, Nat.zero_le _⟩) hD hS hA (fun H locs hP hD hS => ?_)
          refine lv_if_ne (tgt := 0) hx hb dX8_readOne_39 (by decide) (fun c24 => ?_) (fun c24 => ?_)
          · have hg := if_f hg c24
            exact ih _ _ _ _ hP hD hS (lv_sub hl [0, 1, 2] rfl) hg
          · have hg := if_t hg c24
            refine lv_iconst (v := 0) hx hb dX8_readOne_42 (by decide) ?_
            exact hret _ _ _ _ _ _ hg dX8_readOne_43 rfl hP hD hS
  exact kL0_25 FU _ _ _ _ hP hD hS (lv_sub hl [0, 1, 2] rfl) hg
theorem ctX8_readOne (l : Launch) (D : va_G) (sw : Sw) (cs : Cs) (ad : Nat → Nat) (X : va_W) (sz : Nat) (M : Mm) (a1 : Int32) (a2 : Int32) {r : Int32} {M1 : Mm} (hq : gX8_readOne M a1 a2 = some (r, M1)) : Met l yX8_readOne wsX8_readOne ({ frames := 4, cells := 0, slots := 0, locals := 85 }) (va_Pc [.ref (ad 0), .int a1, .int a2] (wPre D sw cs LM NM ad M X sz)) (wQi D cs LM NM ad M1 X sz r) 0 0 (wA NM ad X sz) :=
  met_w rfl rfl (Nat.le_of_ble_eq_true rfl) (fun p e s m args below meth c ls CX hr hlk hK hSW hP hD hS hA hl => bX8_readOne M a1 a2 hq (by simp) CX ⟨Nat.le_refl _, Nat.le_refl _⟩ hK hSW hP hD hS hA hl (fun pc ls H locs v M9 hv dg hz hP hD hS => W.zret (ty := .boolean) CX.1 CX.2.1 hr hz (fun t ht hW => ⟨⟨_, (), rfl, (Prod.mk.inj (Option.some.inj hv)).1, wpost hP ht (Prod.mk.inj (Option.some.inj hv)).2⟩, hS.F ht⟩) hS.2.2 dg))

abbrev wsX8_areLike : List Cond := Cond.code yX8_areLike cX8_areLike 5 (some .boolean) :: WG
def gX8_areLike_L24 (M : Mm) (a1 : Int32) (a2 : Int32) : Nat → Int32 → Int32 → Option Int32
  | 0, _, _ => none
  | n8 + 1, x6, x7 => if (a1 < 0 ∨ 16 ≤ (a1).toNatClampNeg) then none else if (M 5 (a1).toNatClampNeg) ≤ x7 then (if ¬ (x6 = 0 ∨ x6 = 1) then none else some x6) else if x6 = 0 then (if ¬ (x6 = 0 ∨ x6 = 1) then none else some x6) else if ((((400 : Int32) * a1) + x7) < 0 ∨ 6400 ≤ ((((400 : Int32) * a1) + x7)).toNatClampNeg) then none else if ((((400 : Int32) * a2) + x7) < 0 ∨ 6400 ≤ ((((400 : Int32) * a2) + x7)).toNatClampNeg) then none else if (M 4 ((((400 : Int32) * a1) + x7)).toNatClampNeg) = (M 4 ((((400 : Int32) * a2) + x7)).toNatClampNeg) then (lt (x7 + (1 : Int32)) fun x18 => gX8_areLike_L24 M a1 a2 n8 (1 : Int32) x18) else lt (x7 + (1 : Int32)) fun x17 => gX8_areLike_L24 M a1 a2 n8 (0 : Int32) x17
def gX8_areLike (M : Mm) (a1 : Int32) (a2 : Int32) : Option Int32 := if (a1 < 0 ∨ 16 ≤ (a1).toNatClampNeg) then none else if (a2 < 0 ∨ 16 ≤ (a2).toNatClampNeg) then none else lt (fun (s4 : Int32) => gX8_areLike_L24 M a1 a2 FU s4 (0 : Int32)) fun J5 => if (M 5 (a1).toNatClampNeg) = (M 5 (a2).toNatClampNeg) then (J5 (1 : Int32)) else J5 (0 : Int32)
set_option maxHeartbeats 4000000 in
set_option maxRecDepth 100000 in
theorem bX8_areLike {p : Program} {l : Launch} {e : Env} {R : Room} {s : State} {m : MethodId} {args : Array Value} {below : List Frame} {meth : Method} {c : Code} {H : Heap} {locs : List Loc} {Q : State → Prop} {D : va_G} {sw : Sw} {cs : Cs} {ad : Nat → Nat} {X : va_W} (M : Mm) (a1 : Int32) (a2 : Int32) {res : Option Int32} (hg : gX8_areLike M a1 a2 = res) (hne : res ≠ none) (CX : CallFix p m c cX8_areLike 5 s args wsX8_areLike RX8) (hR : 0 ≤ R.frames ∧ 0 ≤ R.locals) (hK : va_K D vwCl (tysC cs) s) (hSW : SW sw (fun _ => False) s H) (hP : va_P D vwCl (wl cs LM NM ad M ++ X) H) {ls : Array Slot} (hl : lv_has ls 5 [(0, .ref (ad 0)), (1, .int a1), (2, .int a2)]) (hret : ∀ (pc : Nat) (ls : Array Slot) (v : Int32), some v = res → decode cX8_areLike pc = .ok (.ireturn, 1) → narrow .boolean (.int v) = .int v → W p l e R s m args below meth c H locs 0 0 Q (F0 m pc ls [.int v])) : W p l e R s m args below meth c H locs 0 0 Q (F0 m 0 ls []) := by
  obtain ⟨hx, hb, hml, hown, hts⟩ := id CX
  have hw : ∀ w ∈ WG, w.before args s = true := fun w h => hts w (List.mem_cons_of_mem _ h)
  have lk_22 := hw _ m4_122
  have lk_19 := hw _ m4_121
  unfold gX8_areLike at hg
  refine lv_aload_n hx hb dX8_areLike_0 rfl (lv_at hl 0 rfl) ?_
  refine m_gr (C := RX8) (T := TX8) (n := 15) (ci := 6) hx hb hts in_RX8 hown hK hP (by decide) rfl rfl 6 (by decide) rfl lk_22 (fun _ h9 => h9) dX8_areLike_1 ?_
  refine lv_iload_n hx hb dX8_areLike_4 rfl (lv_at hl 1 rfl) ?_
  obtain ⟨b1, hg⟩ := ck_e hg hne
  refine m_ld hx hb hK hP (by decide) rfl b1 dX8_areLike_5 ?_
  refine lv_aload_n hx hb dX8_areLike_6 rfl (lv_at hl 0 rfl) ?_
  refine m_gr (C := RX8) (T := TX8) (n := 15) (ci := 6) hx hb hts in_RX8 hown hK hP (by decide) rfl rfl 6 (by decide) rfl lk_22 (fun _ h9 => h9) dX8_areLike_7 ?_
  refine lv_iload_n hx hb dX8_areLike_10 rfl (lv_at hl 2 rfl) ?_
  obtain ⟨b2, hg⟩ := ck_e hg hne
  refine m_ld hx hb hK hP (by decide) rfl b2 dX8_areLike_11 ?_
  obtain ⟨J5, hJ5, hg⟩ := lf1 hg
  have kJ5 : ∀ (s4 : Int32) (ls : Array Slot), lv_has ls 5 [(0, .ref (ad 0)), (1, .int a1), (2, .int a2)] → J5 s4 = res → W p l e R s m args below meth c H locs 0 0 Q (F0 m 20 ls [.int s4]) := by
    intro s4 ls hl hg
    rw [hJ5] at hg
    refine lv_istore_n (lv' := [(3, .int s4), (0, .ref (ad 0)), (1, .int a1), (2, .int a2)]) hx hb dX8_areLike_20 rfl hl (by decide) rfl (fun ls hl => ?_)
    refine lv_iconst (v := 0) hx hb dX8_areLike_21 (by decide) ?_
    refine lv_istore (lv' := [(4, .int (0 : Int32)), (3, .int s4), (0, .ref (ad 0)), (1, .int a1), (2, .int a2)]) hx hb dX8_areLike_22 hl (by decide) rfl (fun ls hl => ?_)
    have kL24_19 : ∀ (n8 : Nat) (x6 : Int32) (x7 : Int32) (ls : Array Slot), lv_has ls 5 [(0, .ref (ad 0)), (1, .int a1), (2, .int a2), (3, .int x6), (4, .int x7)] → gX8_areLike_L24 M a1 a2 n8 x6 x7 = res → W p l e R s m args below meth c H locs 0 0 Q (F0 m 24 ls []) := by
      intro n8
      induction n8 with
      | zero =>
        intro x6 x7 ls hl hg
        rw [gX8_areLike_L24] at hg
        exact absurd hg.symm hne
      | succ n8 ih =>
        intro x6 x7 ls hl hg
        rw [gX8_areLike_L24] at hg
        refine lv_iload hx hb dX8_areLike_24 (lv_at hl 4 rfl) ?_
        refine lv_aload_n hx hb dX8_areLike_26 rfl (lv_at hl 0 rfl) ?_
        refine m_gr (C := RX8) (T := TX8) (n := 15) (ci := 6) hx hb hts in_RX8 hown hK hP (by decide) rfl rfl 6 (by decide) rfl lk_22 (fun _ h9 => h9) dX8_areLike_27 ?_
        refine lv_iload_n hx hb dX8_areLike_30 rfl (lv_at hl 1 rfl) ?_
        obtain ⟨b9, hg⟩ := ck_e hg hne
        refine m_ld hx hb hK hP (by decide) rfl b9 dX8_areLike_31 ?_
        refine lv_icmp_ge (tgt := 80) hx hb dX8_areLike_32 (by decide) (fun c10 => ?_) (fun c10 => ?_)
        · have hg := if_t hg c10
          refine lv_iload_n hx hb dX8_areLike_80 rfl (lv_at hl 3 rfl) ?_
          obtain ⟨z11, hg⟩ := ck_e hg hne
          exact hret _ _ _ hg dX8_areLike_81 (z01 z11)
        · have hg := if_f hg c10
          refine lv_iload_n hx hb dX8_areLike_35 rfl (lv_at hl 3 rfl) ?_
          refine lv_if_eq (tgt := 80) hx hb dX8_areLike_36 (by decide) (fun c12 => ?_) (fun c12 => ?_)
          · have hg := if_t hg c12
            refine lv_iload_n hx hb dX8_areLike_80 rfl (lv_at hl 3 rfl) ?_
            obtain ⟨z13, hg⟩ := ck_e hg hne
            exact hret _ _ _ hg dX8_areLike_81 (z01 z13)
          · have hg := if_f hg c12
            refine lv_aload_n hx hb dX8_areLike_39 rfl (lv_at hl 0 rfl) ?_
            refine m_gr (C := RX8) (T := TX8) (n := 15) (ci := 6) hx hb hts in_RX8 hown hK hP (by decide) rfl rfl 5 (by decide) rfl lk_19 (fun _ h9 => h9) dX8_areLike_40 ?_
            refine lv_sipush (v := 400) hx hb dX8_areLike_43 (by decide) ?_
            refine lv_iload_n hx hb dX8_areLike_46 rfl (lv_at hl 1 rfl) ?_
            refine lv_imul hx hb dX8_areLike_47 ?_
            refine lv_iload hx hb dX8_areLike_48 (lv_at hl 4 rfl) ?_
            refine lv_iadd hx hb dX8_areLike_50 ?_
            obtain ⟨b14, hg⟩ := ck_e hg hne
            refine m_ld hx hb hK hP (by decide) rfl b14 dX8_areLike_51 ?_
            refine lv_aload_n hx hb dX8_areLike_52 rfl (lv_at hl 0 rfl) ?_
            refine m_gr (C := RX8) (T := TX8) (n := 15) (ci := 6) hx hb hts in_RX8 hown hK hP (by decide) rfl rfl 5 (by decide) rfl lk_19 (fun _ h9 => h9) dX8_areLike_53 ?_
            refine lv_sipush (v := 400) hx hb dX8_areLike_56 (by decide) ?_
            refine lv_iload_n hx hb dX8_areLike_59 rfl (lv_at hl 2 rfl) ?_
            refine lv_imul hx hb dX8_areLike_60 ?_
            refine lv_iload hx hb dX8_areLike_61 (lv_at hl 4 rfl) ?_
            refine lv_iadd hx hb dX8_areLike_63 ?_
            obtain ⟨b15, hg⟩ := ck_e hg hne
            refine m_ld hx hb hK hP (by decide) rfl b15 dX8_areLike_64 ?_
            refine lv_icmp_ne (tgt := 72) hx hb dX8_areLike_65 (by decide) (fun c16 => ?_) (fun c16 => ?_)
            · have hg := if_f hg c16
              refine lv_iconst (v := 0) hx hb dX8_areLike_72 (by decide) ?_
              refine lv_istore_n (lv' := [(3, .int (0 : Int32)), (0, .ref (ad 0)), (1, .int a1), (2, .int a2), (4, .int x7)]) hx hb dX8_areLike_73 rfl hl (by decide) rfl (fun ls hl => ?_)
              obtain ⟨x17, hx17, hg⟩ := lt_e hg
              refine lv_iinc (v := x17) (lv' := [(4, .int x17), (3, .int (0 : Int32)), (0, .ref (ad 0)), (1, .int a1), (2, .int a2)]) hx hb dX8_areLike_74 hl (k := 4) rfl (hx17.symm) (by decide) rfl (fun ls hl => ?_)
              refine lv_goto (tgt := 24) hx hb dX8_areLike_77 (by decide) ?_
              exact ih _ _ _ (lv_sub hl [2, 3, 4, 1, 0] rfl) hg
            · have hg := if_t hg c16
              refine lv_iconst (v := 1) hx hb dX8_areLike_68 (by decide) ?_
              refine lv_goto (tgt := 73) hx hb dX8_areLike_69 (by decide) ?_
              refine lv_istore_n (lv' := [(3, .int (1 : Int32)), (0, .ref (ad 0)), (1, .int a1), (2, .int a2), (4, .int x7)]) hx hb dX8_areLike_73 rfl hl (by decide) rfl (fun ls hl => ?_)
              obtain ⟨x18, hx18, hg⟩ := lt_e hg
              refine lv_iinc (v := x18) (lv' := [(4, .int x18), (3, .int (1 : Int32)), (0, .ref (ad 0)), (1, .int a1), (2, .int a2)]) hx hb dX8_areLike_74 hl (k := 4) rfl (hx18.symm) (by decide) rfl (fun ls hl => ?_)
              refine lv_goto (tgt := 24) hx hb dX8_areLike_77 (by decide) ?_
              exact ih _ _ _ (lv_sub hl [2, 3, 4, 1, 0] rfl) hg
    exact kL24_19 FU _ _ _ (lv_sub hl [2, 3, 4, 1, 0] rfl) hg
  refine lv_icmp_ne (tgt := 19) hx hb dX8_areLike_12 (by decide) (fun c3 => ?_) (fun c3 => ?_)
  · have hg := if_f hg c3
    refine lv_iconst (v := 0) hx hb dX8_areLike_19 (by decide) ?_
    exact kJ5 _ _ (lv_sub hl [0, 1, 2] rfl) hg
  · have hg := if_t hg c3
    refine lv_iconst (v := 1) hx hb dX8_areLike_15 (by decide) ?_
    refine lv_goto (tgt := 20) hx hb dX8_areLike_16 (by decide) ?_
    exact kJ5 _ _ (lv_sub hl [0, 1, 2] rfl) hg
theorem ctX8_areLike (l : Launch) (D : va_G) (sw : Sw) (cs : Cs) (ad : Nat → Nat) (X : va_W) (M : Mm) (a1 : Int32) (a2 : Int32) {r : Int32} (hq : gX8_areLike M a1 a2 = some r) : Met l yX8_areLike wsX8_areLike ({ frames := 0, cells := 0, slots := 0, locals := 0 }) (va_Pc [.ref (ad 0), .int a1, .int a2] (rPre D sw cs LM NM ad M X)) (vp_Si (fun r' => r' = r)) 0 0 (fun _ => False) :=
  met_r rfl rfl (Nat.le_of_ble_eq_true rfl) (fun p e s m args below meth c ls CX hr hlk hK hSW hP hl => bX8_areLike M a1 a2 hq (by simp) CX ⟨Nat.le_refl _, Nat.le_refl _⟩ hK hSW hP hl (fun pc ls v hv dg hz => W.zret (ty := .boolean) CX.1 CX.2.1 hr hz (fun t ht hW => ⟨_, rfl, Option.some.inj hv, ht⟩) (fun _ h => by cases h) dg))

abbrev wsX8_countGroups : List Cond := Cond.code yX8_countGroups cX8_countGroups 6 (some .int) :: WG
def gX8_countGroups_L20 (M : Mm) (a1 : Int32) (E8 : Int32 → Int32 → Int32 → Option Int32) : Nat → Int32 → Int32 → Int32 → Int32 → Option Int32
  | 0, _, _, _, _ => none
  | n16 + 1, x12, x13, x14, x15 => if x13 ≤ x15 then (E8 x12 x13 x14) else if x14 = 0 then (E8 x12 x13 x14) else if (gX8_has a1 x15) = 0 then (lt (x15 + (1 : Int32)) fun x20 => gX8_countGroups_L20 M a1 E8 n16 x12 x13 (1 : Int32) x20) else bd (gX8_areLike M x15 x13) fun r21 => if r21 = 0 then (lt (x15 + (1 : Int32)) fun x25 => gX8_countGroups_L20 M a1 E8 n16 x12 x13 (1 : Int32) x25) else lt (x15 + (1 : Int32)) fun x24 => gX8_countGroups_L20 M a1 E8 n16 x12 x13 (0 : Int32) x24
def gX8_countGroups_L4 (M : Mm) (a1 : Int32) : Nat → Int32 → Int32 → Option Int32
  | 0, _, _ => none
  | n3 + 1, x1, x2 => if (16 : Int32) ≤ x2 then (some x1) else lt (fun (x5 : Int32) (x6 : Int32) (x7 : Int32) => if x7 = 0 then (lt (x6 + (1 : Int32)) fun x10 => gX8_countGroups_L4 M a1 n3 (x5 + (0 : Int32)) x10) else lt (x6 + (1 : Int32)) fun x11 => gX8_countGroups_L4 M a1 n3 (x5 + (1 : Int32)) x11) fun E8 => gX8_countGroups_L20 M a1 E8 FU x1 x2 (gX8_has a1 x2) (0 : Int32)
def gX8_countGroups (M : Mm) (a1 : Int32) : Option Int32 := gX8_countGroups_L4 M a1 FU (0 : Int32) (0 : Int32)
set_option maxHeartbeats 4000000 in
set_option maxRecDepth 100000 in
theorem bX8_countGroups {p : Program} {l : Launch} {e : Env} {R : Room} {s : State} {m : MethodId} {args : Array Value} {below : List Frame} {meth : Method} {c : Code} {H : Heap} {locs : List Loc} {Q : State → Prop} {D : va_G} {sw : Sw} {cs : Cs} {ad : Nat → Nat} {X : va_W} (M : Mm) (a1 : Int32) {res : Option Int32} (hg : gX8_countGroups M a1 = res) (hne : res ≠ none) (CX : CallFix p m c cX8_countGroups 6 s args wsX8_countGroups RX8) (hR : 1 ≤ R.frames ∧ 24 ≤ R.locals) (hK : va_K D vwCl (tysC cs) s) (hSW : SW sw (fun _ => False) s H) (hP : va_P D vwCl (wl cs LM NM ad M ++ X) H) {ls : Array Slot} (hl : lv_has ls 6 [(0, .ref (ad 0)), (1, .int a1)]) (hret : ∀ (pc : Nat) (ls : Array Slot) (v : Int32), some v = res → decode cX8_countGroups pc = .ok (.ireturn, 1) → W p l e R s m args below meth c H locs 0 0 Q (F0 m pc ls [.int v])) : W p l e R s m args below meth c H locs 0 0 Q (F0 m 0 ls []) := by
  obtain ⟨hx, hb, hml, hown, hts⟩ := id CX
  have hw : ∀ w ∈ WG, w.before args s = true := fun w h => hts w (List.mem_cons_of_mem _ h)
  unfold gX8_countGroups at hg
  refine lv_iconst (v := 0) hx hb dX8_countGroups_0 (by decide) ?_
  refine lv_istore_n (lv' := [(2, .int (0 : Int32)), (0, .ref (ad 0)), (1, .int a1)]) hx hb dX8_countGroups_1 rfl hl (by decide) rfl (fun ls hl => ?_)
  refine lv_iconst (v := 0) hx hb dX8_countGroups_2 (by decide) ?_
  refine lv_istore_n (lv' := [(3, .int (0 : Int32)), (2, .int (0 : Int32)), (0, .ref (ad 0)), (1, .int a1)]) hx hb dX8_countGroups_3 rfl hl (by decide) rfl (fun ls hl => ?_)
  have kL4_27 : ∀ (n3 : Nat) (x1 : Int32) (x2 : Int32) (ls : Array Slot), lv_has ls 6 [(0, .ref (ad 0)), (1, .int a1), (2, .int x1), (3, .int x2)] → gX8_countGroups_L4 M a1 n3 x1 x2 = res → W p l e R s m args below meth c H locs 0 0 Q (F0 m 4 ls []) := by
    intro n3
    induction n3 with
    | zero =>
      intro x1 x2 ls hl hg
      rw [gX8_countGroups_L4] at hg
      exact absurd hg.symm hne
    | succ n3 ih =>
      intro x1 x2 ls hl hg
      rw [gX8_countGroups_L4] at hg
      refine lv_iload_n hx hb dX8_countGroups_4 rfl (lv_at hl 3 rfl) ?_
      refine lv_bipush (v := 16) hx hb dX8_countGroups_5 (by decide) ?_
      refine lv_icmp_ge (tgt := 82) hx hb dX8_countGroups_7 (by decide) (fun c4 => ?_) (fun c4 => ?_)
      · have hg := if_t hg c4
        refine lv_iload_n hx hb dX8_countGroups_82 rfl (lv_at hl 2 rfl) ?_
        exact hret _ _ _ hg dX8_countGroups_83
      · have hg := if_f hg c4
        refine lv_iload_n hx hb dX8_countGroups_10 rfl (lv_at hl 1 rfl) ?_
        refine lv_iload_n hx hb dX8_countGroups_11 rfl (lv_at hl 3 rfl) ?_
        refine r_calli (W.runS (As := [.int a1, .int x2]) (rest := []) CX (ctX8_has l a1 x2) (va_cwS 2 hts (gwS m5_70 m5_71 m1_7 m5_72) rfl rfl rfl (by decide +kernel) ⟨Nat.le_trans (Nat.le_of_ble_eq_true rfl) hR.1, Nat.le_trans (Nat.le_of_ble_eq_true rfl) hR.2⟩) (pPreS _) rfl rfl hl.1 rfl (lv_room (Nat.le_of_ble_eq_true rfl)) dX8_countGroups_12 ⟨Nat.zero_le _, Nat.zero_le _⟩) ?_
        refine lv_istore (lv' := [(4, .int (gX8_has a1 x2)), (0, .ref (ad 0)), (1, .int a1), (2, .int x1), (3, .int x2)]) hx hb dX8_countGroups_15 hl (by decide) rfl (fun ls hl => ?_)
        refine lv_iconst (v := 0) hx hb dX8_countGroups_17 (by decide) ?_
        refine lv_istore (lv' := [(5, .int (0 : Int32)), (4, .int (gX8_has a1 x2)), (0, .ref (ad 0)), (1, .int a1), (2, .int x1), (3, .int x2)]) hx hb dX8_countGroups_18 hl (by decide) rfl (fun ls hl => ?_)
        obtain ⟨E8, hE8, hg⟩ := lf3 hg
        have kE8 : ∀ (x5 : Int32) (x6 : Int32) (x7 : Int32) (ls : Array Slot), lv_has ls 6 [(0, .ref (ad 0)), (1, .int a1), (2, .int x5), (3, .int x6), (4, .int x7)] → E8 x5 x6 x7 = res → W p l e R s m args below meth c H locs 0 0 Q (F0 m 63 ls []) := by
          intro x5 x6 x7 ls hl hg
          rw [hE8] at hg
          refine lv_iload_n hx hb dX8_countGroups_63 rfl (lv_at hl 2 rfl) ?_
          refine lv_iload hx hb dX8_countGroups_64 (lv_at hl 4 rfl) ?_
          refine lv_if_eq (tgt := 73) hx hb dX8_countGroups_66 (by decide) (fun c9 => ?_) (fun c9 => ?_)
          · have hg := if_t hg c9
            refine lv_iconst (v := 0) hx hb dX8_countGroups_73 (by decide) ?_
            refine lv_iadd hx hb dX8_countGroups_74 ?_
            refine lv_istore_n (lv' := [(2, .int (x5 + (0 : Int32))), (0, .ref (ad 0)), (1, .int a1), (3, .int x6), (4, .int x7)]) hx hb dX8_countGroups_75 rfl hl (by decide) rfl (fun ls hl => ?_)
            obtain ⟨x10, hx10, hg⟩ := lt_e hg
            refine lv_iinc (v := x10) (lv' := [(3, .int x10), (2, .int (x5 + (0 : Int32))), (0, .ref (ad 0)), (1, .int a1), (4, .int x7)]) hx hb dX8_countGroups_76 hl (k := 3) rfl (hx10.symm) (by decide) rfl (fun ls hl => ?_)
            refine lv_goto (tgt := 4) hx hb dX8_countGroups_79 (by decide) ?_
            exact ih _ _ _ (lv_sub hl [2, 3, 1, 0] rfl) hg
          · have hg := if_f hg c9
            refine lv_iconst (v := 1) hx hb dX8_countGroups_69 (by decide) ?_
            refine lv_goto (tgt := 74) hx hb dX8_countGroups_70 (by decide) ?_
            refine lv_iadd hx hb dX8_countGroups_74 ?_
            refine lv_istore_n (lv' := [(2, .int (x5 + (1 : Int32))), (0, .ref (ad 0)), (1, .int a1), (3, .int x6), (4, .int x7)]) hx hb dX8_countGroups_75 rfl hl (by decide) rfl (fun ls hl => ?_)
            obtain ⟨x11, hx11, hg⟩ := lt_e hg
            refine lv_iinc (v := x11) (lv' := [(3, .int x11), (2, .int (x5 + (1 : Int32))), (0, .ref (ad 0)), (1, .int a1), (4, .int x7)]) hx hb dX8_countGroups_76 hl (k := 3) rfl (hx11.symm) (by decide) rfl (fun ls hl => ?_)
            refine lv_goto (tgt := 4) hx hb dX8_countGroups_79 (by decide) ?_
            exact ih _ _ _ (lv_sub hl [2, 3, 1, 0] rfl) hg
        have kL20_26 : ∀ (n16 : Nat) (x12 : Int32) (x13 : Int32) (x14 : Int32) (x15 : Int32) (ls : Array Slot), lv_has ls 6 [(0, .ref (ad 0)), (1, .int a1), (2, .int x12), (3, .int x13), (4, .int x14), (5, .int x15)] → gX8_countGroups_L20 M a1 E8 n16 x12 x13 x14 x15 = res → W p l e R s m args below meth c H locs 0 0 Q (F0 m 20 ls []) := by
          intro n16
          induction n16 with
          | zero =>
            intro x12 x13 x14 x15 ls hl hg
            rw [gX8_countGroups_L20] at hg
            exact absurd hg.symm hne
          | succ n16 ih =>
            intro x12 x13 x14 x15 ls hl hg
            rw [gX8_countGroups_L20] at hg
            refine lv_iload hx hb dX8_countGroups_20 (lv_at hl 5 rfl) ?_
            refine lv_iload_n hx hb dX8_countGroups_22 rfl (lv_at hl 3 rfl) ?_
            refine lv_icmp_ge (tgt := 63) hx hb dX8_countGroups_23 (by decide) (fun c17 => ?_) (fun c17 => ?_)
            · have hg := if_t hg c17
              exact kE8 _ _ _ _ (lv_sub hl [0, 1, 2, 3, 4] rfl) hg
            · have hg := if_f hg c17
              refine lv_iload hx hb dX8_countGroups_26 (lv_at hl 4 rfl) ?_
              refine lv_if_eq (tgt := 63) hx hb dX8_countGroups_28 (by decide) (fun c18 => ?_) (fun c18 => ?_)
              · have hg := if_t hg c18
                exact kE8 _ _ _ _ (lv_sub hl [0, 1, 2, 3, 4] rfl) hg
              · have hg := if_f hg c18
                refine lv_iload_n hx hb dX8_countGroups_31 rfl (lv_at hl 1 rfl) ?_
                refine lv_iload hx hb dX8_countGroups_32 (lv_at hl 5 rfl) ?_
                refine r_calli (W.runS (As := [.int a1, .int x15]) (rest := []) CX (ctX8_has l a1 x15) (va_cwS 2 hts (gwS m5_70 m5_71 m1_7 m5_72) rfl rfl rfl (by decide +kernel) ⟨Nat.le_trans (Nat.le_of_ble_eq_true rfl) hR.1, Nat.le_trans (Nat.le_of_ble_eq_true rfl) hR.2⟩) (pPreS _) rfl rfl hl.1 rfl (lv_room (Nat.le_of_ble_eq_true rfl)) dX8_countGroups_34 ⟨Nat.zero_le _, Nat.zero_le _⟩) ?_
                refine lv_if_eq (tgt := 50) hx hb dX8_countGroups_37 (by decide) (fun c19 => ?_) (fun c19 => ?_)
                · have hg := if_t hg c19
                  refine lv_iconst (v := 1) hx hb dX8_countGroups_50 (by decide) ?_
                  refine lv_goto (tgt := 55) hx hb dX8_countGroups_51 (by decide) ?_
                  refine lv_istore (lv' := [(4, .int (1 : Int32)), (0, .ref (ad 0)), (1, .int a1), (2, .int x12), (3, .int x13), (5, .int x15)]) hx hb dX8_countGroups_55 hl (by decide) rfl (fun ls hl => ?_)
                  obtain ⟨x20, hx20, hg⟩ := lt_e hg
                  refine lv_iinc (v := x20) (lv' := [(5, .int x20), (4, .int (1 : Int32)), (0, .ref (ad 0)), (1, .int a1), (2, .int x12), (3, .int x13)]) hx hb dX8_countGroups_57 hl (k := 5) rfl (hx20.symm) (by decide) rfl (fun ls hl => ?_)
                  refine lv_goto (tgt := 20) hx hb dX8_countGroups_60 (by decide) ?_
                  exact ih _ _ _ _ _ (lv_sub hl [2, 3, 4, 5, 1, 0] rfl) hg
                · have hg := if_f hg c19
                  refine lv_aload_n hx hb dX8_countGroups_40 rfl (lv_at hl 0 rfl) ?_
                  refine lv_iload hx hb dX8_countGroups_41 (lv_at hl 5 rfl) ?_
                  refine lv_iload_n hx hb dX8_countGroups_43 rfl (lv_at hl 3 rfl) ?_
                  obtain ⟨r21, q22, hg⟩ := bd_e hg hne
                  refine r_calli (W.runV (As := [.int x15, .int x13]) (rest := []) CX (ctX8_areLike l D sw cs ad X M x15 x13 q22) (cwV 2 hts (gwV m5_133 m5_135 mp4_3 m1_7 m5_136) rfl rfl rfl (by decide +kernel) ⟨Nat.le_trans (Nat.le_of_ble_eq_true rfl) hR.1, Nat.le_trans (Nat.le_of_ble_eq_true rfl) hR.2⟩) (rPreV hSW hK hP (by decide) rfl rfl _) rfl rfl hl.1 rfl (lv_room (Nat.le_of_ble_eq_true rfl)) dX8_countGroups_44 ⟨Nat.zero_le _, Nat.zero_le _⟩) ?_
                  refine lv_if_ne (tgt := 54) hx hb dX8_countGroups_47 (by decide) (fun c23 => ?_) (fun c23 => ?_)
                  · have hg := if_f hg c23
                    refine lv_iconst (v := 0) hx hb dX8_countGroups_54 (by decide) ?_
                    refine lv_istore (lv' := [(4, .int (0 : Int32)), (0, .ref (ad 0)), (1, .int a1), (2, .int x12), (3, .int x13), (5, .int x15)]) hx hb dX8_countGroups_55 hl (by decide) rfl (fun ls hl => ?_)
                    obtain ⟨x24, hx24, hg⟩ := lt_e hg
                    refine lv_iinc (v := x24) (lv' := [(5, .int x24), (4, .int (0 : Int32)), (0, .ref (ad 0)), (1, .int a1), (2, .int x12), (3, .int x13)]) hx hb dX8_countGroups_57 hl (k := 5) rfl (hx24.symm) (by decide) rfl (fun ls hl => ?_)
                    refine lv_goto (tgt := 20) hx hb dX8_countGroups_60 (by decide) ?_
                    exact ih _ _ _ _ _ (lv_sub hl [2, 3, 4, 5, 1, 0] rfl) hg
                  · have hg := if_t hg c23
                    refine lv_iconst (v := 1) hx hb dX8_countGroups_50 (by decide) ?_
                    refine lv_goto (tgt := 55) hx hb dX8_countGroups_51 (by decide) ?_
                    refine lv_istore (lv' := [(4, .int (1 : Int32)), (0, .ref (ad 0)), (1, .int a1), (2, .int x12), (3, .int x13), (5, .int x15)]) hx hb dX8_countGroups_55 hl (by decide) rfl (fun ls hl => ?_)
                    obtain ⟨x25, hx25, hg⟩ := lt_e hg
                    refine lv_iinc (v := x25) (lv' := [(5, .int x25), (4, .int (1 : Int32)), (0, .ref (ad 0)), (1, .int a1), (2, .int x12), (3, .int x13)]) hx hb dX8_countGroups_57 hl (k := 5) rfl (hx25.symm) (by decide) rfl (fun ls hl => ?_)
                    refine lv_goto (tgt := 20) hx hb dX8_countGroups_60 (by decide) ?_
                    exact ih _ _ _ _ _ (lv_sub hl [2, 3, 4, 5, 1, 0] rfl) hg
        exact kL20_26 FU _ _ _ _ _ (lv_sub hl [2, 3, 4, 5, 1, 0] rfl) hg
  exact kL4_27 FU _ _ _ (lv_sub hl [2, 3, 1, 0] rfl) hg
theorem ctX8_countGroups (l : Launch) (D : va_G) (sw : Sw) (cs : Cs) (ad : Nat → Nat) (X : va_W) (M : Mm) (a1 : Int32) {r : Int32} (hq : gX8_countGroups M a1 = some r) : Met l yX8_countGroups wsX8_countGroups ({ frames := 1, cells := 0, slots := 0, locals := 24 }) (va_Pc [.ref (ad 0), .int a1] (rPre D sw cs LM NM ad M X)) (vp_Si (fun r' => r' = r)) 0 0 (fun _ => False) :=
  met_r rfl rfl (Nat.le_of_ble_eq_true rfl) (fun p e s m args below meth c ls CX hr hlk hK hSW hP hl => bX8_countGroups M a1 hq (by simp) CX ⟨Nat.le_refl _, Nat.le_refl _⟩ hK hSW hP hl (fun pc ls v hv dg => W.iret CX.1 CX.2.1 hr (fun t ht hW => ⟨_, rfl, Option.some.inj hv, ht⟩) (fun _ h => by cases h) dg))

abbrev wsX8_isWhole : List Cond := Cond.code yX8_isWhole cX8_isWhole 1 (some .boolean) :: WG
def gX8_isWhole (M : Mm) : Option Int32 := bd (gX8_openCount M ) fun r1 => if r1 = 0 then (some (1 : Int32)) else some (0 : Int32)
set_option maxHeartbeats 4000000 in
set_option maxRecDepth 100000 in
theorem bX8_isWhole {p : Program} {l : Launch} {e : Env} {R : Room} {s : State} {m : MethodId} {args : Array Value} {below : List Frame} {meth : Method} {c : Code} {H : Heap} {locs : List Loc} {Q : State → Prop} {D : va_G} {sw : Sw} {cs : Cs} {ad : Nat → Nat} {X : va_W} (M : Mm) {res : Option Int32} (hg : gX8_isWhole M = res) (hne : res ≠ none) (CX : CallFix p m c cX8_isWhole 1 s args wsX8_isWhole RX8) (hR : 1 ≤ R.frames ∧ 22 ≤ R.locals) (hK : va_K D vwCl (tysC cs) s) (hSW : SW sw (fun _ => False) s H) (hP : va_P D vwCl (wl cs LM NM ad M ++ X) H) {ls : Array Slot} (hl : lv_has ls 1 [(0, .ref (ad 0))]) (hret : ∀ (pc : Nat) (ls : Array Slot) (v : Int32), some v = res → decode cX8_isWhole pc = .ok (.ireturn, 1) → narrow .boolean (.int v) = .int v → W p l e R s m args below meth c H locs 0 0 Q (F0 m pc ls [.int v])) : W p l e R s m args below meth c H locs 0 0 Q (F0 m 0 ls []) := by
  obtain ⟨hx, hb, hml, hown, hts⟩ := id CX
  have hw : ∀ w ∈ WG, w.before args s = true := fun w h => hts w (List.mem_cons_of_mem _ h)
  unfold gX8_isWhole at hg
  refine lv_aload_n hx hb dX8_isWhole_0 rfl (lv_at hl 0 rfl) ?_
  obtain ⟨r1, q2, hg⟩ := bd_e hg hne
  refine r_calli (W.runV (As := []) (rest := []) CX (ctX8_openCount l D sw cs ad X M  q2) (cwV 0 hts (gwV m5_10 m5_12 mp3_6 m1_7 m5_13) rfl rfl rfl (by decide +kernel) ⟨Nat.le_trans (Nat.le_of_ble_eq_true rfl) hR.1, Nat.le_trans (Nat.le_of_ble_eq_true rfl) hR.2⟩) (rPreV hSW hK hP (by decide) rfl rfl _) rfl rfl hl.1 rfl (lv_room (Nat.le_of_ble_eq_true rfl)) dX8_isWhole_1 ⟨Nat.zero_le _, Nat.zero_le _⟩) ?_
  refine lv_if_ne (tgt := 11) hx hb dX8_isWhole_4 (by decide) (fun c3 => ?_) (fun c3 => ?_)
  · have hg := if_f hg c3
    refine lv_iconst (v := 0) hx hb dX8_isWhole_11 (by decide) ?_
    exact hret _ _ _ hg dX8_isWhole_12 rfl
  · have hg := if_t hg c3
    refine lv_iconst (v := 1) hx hb dX8_isWhole_7 (by decide) ?_
    refine lv_goto (tgt := 12) hx hb dX8_isWhole_8 (by decide) ?_
    exact hret _ _ _ hg dX8_isWhole_12 rfl
theorem ctX8_isWhole (l : Launch) (D : va_G) (sw : Sw) (cs : Cs) (ad : Nat → Nat) (X : va_W) (M : Mm) {r : Int32} (hq : gX8_isWhole M = some r) : Met l yX8_isWhole wsX8_isWhole ({ frames := 1, cells := 0, slots := 0, locals := 22 }) (va_Pc [.ref (ad 0)] (rPre D sw cs LM NM ad M X)) (vp_Si (fun r' => r' = r)) 0 0 (fun _ => False) :=
  met_r rfl rfl (Nat.le_of_ble_eq_true rfl) (fun p e s m args below meth c ls CX hr hlk hK hSW hP hl => bX8_isWhole M hq (by simp) CX ⟨Nat.le_refl _, Nat.le_refl _⟩ hK hSW hP hl (fun pc ls v hv dg hz => W.zret (ty := .boolean) CX.1 CX.2.1 hr hz (fun t ht hW => ⟨_, rfl, Option.some.inj hv, ht⟩) (fun _ h => by cases h) dg))

abbrev wsX8_sumOfGroups : List Cond := Cond.code yX8_sumOfGroups cX8_sumOfGroups 3 (some .int) :: WG
def gX8_sumOfGroups_L4 (M : Mm) : Nat → Int32 → Int32 → Option Int32
  | 0, _, _ => none
  | n3 + 1, x1, x2 => if (M 0 1) ≤ x2 then (some x1) else if (x2 < 0 ∨ 80 ≤ (x2).toNatClampNeg) then none else lt (x1 + (M 7 (x2).toNatClampNeg)) fun x6 => lt (x2 + (1 : Int32)) fun x7 => gX8_sumOfGroups_L4 M n3 x6 x7
def gX8_sumOfGroups (M : Mm) : Option Int32 := gX8_sumOfGroups_L4 M FU (0 : Int32) (0 : Int32)
set_option maxHeartbeats 4000000 in
set_option maxRecDepth 100000 in
theorem bX8_sumOfGroups {p : Program} {l : Launch} {e : Env} {R : Room} {s : State} {m : MethodId} {args : Array Value} {below : List Frame} {meth : Method} {c : Code} {H : Heap} {locs : List Loc} {Q : State → Prop} {D : va_G} {sw : Sw} {cs : Cs} {ad : Nat → Nat} {X : va_W} (M : Mm) {res : Option Int32} (hg : gX8_sumOfGroups M = res) (hne : res ≠ none) (CX : CallFix p m c cX8_sumOfGroups 3 s args wsX8_sumOfGroups RX8) (hR : 0 ≤ R.frames ∧ 0 ≤ R.locals) (hK : va_K D vwCl (tysC cs) s) (hSW : SW sw (fun _ => False) s H) (hP : va_P D vwCl (wl cs LM NM ad M ++ X) H) {ls : Array Slot} (hl : lv_has ls 3 [(0, .ref (ad 0))]) (hret : ∀ (pc : Nat) (ls : Array Slot) (v : Int32), some v = res → decode cX8_sumOfGroups pc = .ok (.ireturn, 1) → W p l e R s m args below meth c H locs 0 0 Q (F0 m pc ls [.int v])) : W p l e R s m args below meth c H locs 0 0 Q (F0 m 0 ls []) := by
  obtain ⟨hx, hb, hml, hown, hts⟩ := id CX
  have hw : ∀ w ∈ WG, w.before args s = true := fun w h => hts w (List.mem_cons_of_mem _ h)
  have lk_47 := hw _ m4_117
  have lk_28 := hw _ m4_124
  unfold gX8_sumOfGroups at hg
  refine lv_iconst (v := 0) hx hb dX8_sumOfGroups_0 (by decide) ?_
  refine lv_istore_n (lv' := [(1, .int (0 : Int32)), (0, .ref (ad 0))]) hx hb dX8_sumOfGroups_1 rfl hl (by decide) rfl (fun ls hl => ?_)
  refine lv_iconst (v := 0) hx hb dX8_sumOfGroups_2 (by decide) ?_
  refine lv_istore_n (lv' := [(2, .int (0 : Int32)), (1, .int (0 : Int32)), (0, .ref (ad 0))]) hx hb dX8_sumOfGroups_3 rfl hl (by decide) rfl (fun ls hl => ?_)
  have kL4_8 : ∀ (n3 : Nat) (x1 : Int32) (x2 : Int32) (ls : Array Slot), lv_has ls 3 [(0, .ref (ad 0)), (1, .int x1), (2, .int x2)] → gX8_sumOfGroups_L4 M n3 x1 x2 = res → W p l e R s m args below meth c H locs 0 0 Q (F0 m 4 ls []) := by
    intro n3
    induction n3 with
    | zero =>
      intro x1 x2 ls hl hg
      rw [gX8_sumOfGroups_L4] at hg
      exact absurd hg.symm hne
    | succ n3 ih =>
      intro x1 x2 ls hl hg
      rw [gX8_sumOfGroups_L4] at hg
      refine lv_iload_n hx hb dX8_sumOfGroups_4 rfl (lv_at hl 2 rfl) ?_
      refine lv_aload_n hx hb dX8_sumOfGroups_5 rfl (lv_at hl 0 rfl) ?_
      refine m_gi (C := RX8) (T := TX8) (n := 15) (ci := 6) hx hb hts in_RX8 hown hK hP (by decide) rfl rfl 1 (by decide) rfl lk_47 (fun _ h9 => h9) dX8_sumOfGroups_6 ?_
      refine lv_icmp_ge (tgt := 27) hx hb dX8_sumOfGroups_9 (by decide) (fun c4 => ?_) (fun c4 => ?_)
      · have hg := if_t hg c4
        refine lv_iload_n hx hb dX8_sumOfGroups_27 rfl (lv_at hl 1 rfl) ?_
        exact hret _ _ _ hg dX8_sumOfGroups_28
      · have hg := if_f hg c4
        refine lv_iload_n hx hb dX8_sumOfGroups_12 rfl (lv_at hl 1 rfl) ?_
        refine lv_aload_n hx hb dX8_sumOfGroups_13 rfl (lv_at hl 0 rfl) ?_
        refine m_gr (C := RX8) (T := TX8) (n := 15) (ci := 6) hx hb hts in_RX8 hown hK hP (by decide) rfl rfl 8 (by decide) rfl lk_28 (fun _ h9 => h9) dX8_sumOfGroups_14 ?_
        refine lv_iload_n hx hb dX8_sumOfGroups_17 rfl (lv_at hl 2 rfl) ?_
        obtain ⟨b5, hg⟩ := ck_e hg hne
        refine m_ld hx hb hK hP (by decide) rfl b5 dX8_sumOfGroups_18 ?_
        refine lv_iadd hx hb dX8_sumOfGroups_19 ?_
        obtain ⟨x6, hx6, hg⟩ := lt_e hg
        refine top_i hx6 ?_
        refine lv_istore_n (lv' := [(1, .int x6), (0, .ref (ad 0)), (2, .int x2)]) hx hb dX8_sumOfGroups_20 rfl hl (by decide) rfl (fun ls hl => ?_)
        obtain ⟨x7, hx7, hg⟩ := lt_e hg
        refine lv_iinc (v := x7) (lv' := [(2, .int x7), (1, .int x6), (0, .ref (ad 0))]) hx hb dX8_sumOfGroups_21 hl (k := 2) rfl (hx7.symm) (by decide) rfl (fun ls hl => ?_)
        refine lv_goto (tgt := 4) hx hb dX8_sumOfGroups_24 (by decide) ?_
        exact ih _ _ _ (lv_sub hl [2, 1, 0] rfl) hg
  exact kL4_8 FU _ _ _ (lv_sub hl [2, 1, 0] rfl) hg
theorem ctX8_sumOfGroups (l : Launch) (D : va_G) (sw : Sw) (cs : Cs) (ad : Nat → Nat) (X : va_W) (M : Mm) {r : Int32} (hq : gX8_sumOfGroups M = some r) : Met l yX8_sumOfGroups wsX8_sumOfGroups ({ frames := 0, cells := 0, slots := 0, locals := 0 }) (va_Pc [.ref (ad 0)] (rPre D sw cs LM NM ad M X)) (vp_Si (fun r' => r' = r)) 0 0 (fun _ => False) :=
  met_r rfl rfl (Nat.le_of_ble_eq_true rfl) (fun p e s m args below meth c ls CX hr hlk hK hSW hP hl => bX8_sumOfGroups M hq (by simp) CX ⟨Nat.le_refl _, Nat.le_refl _⟩ hK hSW hP hl (fun pc ls v hv dg => W.iret CX.1 CX.2.1 hr (fun t ht hW => ⟨_, rfl, Option.some.inj hv, ht⟩) (fun _ h => by cases h) dg))

abbrev wsX8_passes : List Cond := Cond.code yX8_passes cX8_passes 2 (some .boolean) :: WG
def gX8_passes (M : Mm) (a1 : Int32) : Option (Int32 × Mm) := if ((M 0 11) < 0 ∨ 81 ≤ ((M 0 11)).toNatClampNeg) then none else if (M 9 ((M 0 11)).toNatClampNeg) = a1 then (lt (um M 0 11 ((M 0 11) + (1 : Int32))) fun M3 => some ((1 : Int32), M3)) else some ((0 : Int32), M)
set_option maxHeartbeats 4000000 in
set_option maxRecDepth 100000 in
theorem bX8_passes {p : Program} {l : Launch} {e : Env} {R : Room} {s : State} {m : MethodId} {args : Array Value} {below : List Frame} {meth : Method} {c : Code} {H : Heap} {locs : List Loc} {Q : State → Prop} {D : va_G} {sw : Sw} {cs : Cs} {ad : Nat → Nat} {X : va_W} {A : Nat → Prop} (M : Mm) (a1 : Int32) {res : Option (Int32 × Mm)} (hg : gX8_passes M a1 = res) (hne : res ≠ none) (CX : CallFix p m c cX8_passes 2 s args wsX8_passes RX8) (hR : 0 ≤ R.frames ∧ 0 ≤ R.locals) (hK : va_K D vwCl (tysC cs) s) (hSW : SW sw A s s.heap) (hP : va_P D vwCl (wl cs LM NM ad M ++ X) H) (hD : va_D A (wl cs LM NM ad M ++ X)) (hS : va_S A s.heap H locs) (hA : ∀ q, s.heap.size ≤ q → A q) {ls : Array Slot} (hl : lv_has ls 2 [(0, .ref (ad 0)), (1, .int a1)]) (hret : ∀ (pc : Nat) (ls : Array Slot) (H : Heap) (locs : List Loc) (v : Int32) (M9 : Mm), some (v, M9) = res → decode cX8_passes pc = .ok (.ireturn, 1) → narrow .boolean (.int v) = .int v → va_P D vwCl (wl cs LM NM ad M9 ++ X) H → va_D A (wl cs LM NM ad M9 ++ X) → va_S A s.heap H locs → W p l e R s m args below meth c H locs 0 0 Q (F0 m pc ls [.int v])) : W p l e R s m args below meth c H locs 0 0 Q (F0 m 0 ls []) := by
  obtain ⟨hx, hb, hml, hown, hts⟩ := id CX
  have hw : ∀ w ∈ WG, w.before args s = true := fun w h => hts w (List.mem_cons_of_mem _ h)
  have lk_34 := hw _ m4_126
  have lk_152 := hw _ m4_127
  unfold gX8_passes at hg
  refine lv_aload_n hx hb dX8_passes_0 rfl (lv_at hl 0 rfl) ?_
  refine m_gr (C := RX8) (T := TX8) (n := 15) (ci := 6) hx hb hts in_RX8 hown hK hP (by decide) rfl rfl 10 (by decide) rfl lk_34 (fun _ h9 => h9) dX8_passes_1 ?_
  refine lv_aload_n hx hb dX8_passes_4 rfl (lv_at hl 0 rfl) ?_
  refine m_gi (C := RX8) (T := TX8) (n := 15) (ci := 6) hx hb hts in_RX8 hown hK hP (by decide) rfl rfl 11 (by decide) rfl lk_152 (fun _ h9 => h9) dX8_passes_5 ?_
  obtain ⟨b1, hg⟩ := ck_e hg hne
  refine m_ld hx hb hK hP (by decide) rfl b1 dX8_passes_8 ?_
  refine lv_iload_n hx hb dX8_passes_9 rfl (lv_at hl 1 rfl) ?_
  refine lv_icmp_eq (tgt := 15) hx hb dX8_passes_10 (by decide) (fun c2 => ?_) (fun c2 => ?_)
  · have hg := if_t hg c2
    refine lv_aload_n hx hb dX8_passes_15 rfl (lv_at hl 0 rfl) ?_
    refine lv_dup hx hb dX8_passes_16 rfl ?_
    refine m_gi (C := RX8) (T := TX8) (n := 15) (ci := 6) hx hb hts in_RX8 hown hK hP (by decide) rfl rfl 11 (by decide) rfl lk_152 (fun _ h9 => h9) dX8_passes_17 ?_
    refine lv_iconst (v := 1) hx hb dX8_passes_20 (by decide) ?_
    refine lv_iadd hx hb dX8_passes_21 ?_
    obtain ⟨M3, hM3, hg⟩ := lt_e hg
    refine m_pi (C := RX8) (T := TX8) (n := 15) (ci := 6) hx hb hts in_RX8 tyX8 tyX8_ok nmX8 hown hK hP hD hS (by decide) rfl rfl 11 (by decide) rfl lk_152 (fun _ h9 => h9) rfl rfl rfl dX8_passes_22 hM3 (fun H locs hP hD hS => ?_)
    refine lv_iconst (v := 1) hx hb dX8_passes_25 (by decide) ?_
    exact hret _ _ _ _ _ _ hg dX8_passes_26 rfl hP hD hS
  · have hg := if_f hg c2
    refine lv_iconst (v := 0) hx hb dX8_passes_13 (by decide) ?_
    exact hret _ _ _ _ _ _ hg dX8_passes_14 rfl hP hD hS
theorem ctX8_passes (l : Launch) (D : va_G) (sw : Sw) (cs : Cs) (ad : Nat → Nat) (X : va_W) (sz : Nat) (M : Mm) (a1 : Int32) {r : Int32} {M1 : Mm} (hq : gX8_passes M a1 = some (r, M1)) : Met l yX8_passes wsX8_passes ({ frames := 0, cells := 0, slots := 0, locals := 0 }) (va_Pc [.ref (ad 0), .int a1] (wPre D sw cs LM NM ad M X sz)) (wQi D cs LM NM ad M1 X sz r) 0 0 (wA NM ad X sz) :=
  met_w rfl rfl (Nat.le_of_ble_eq_true rfl) (fun p e s m args below meth c ls CX hr hlk hK hSW hP hD hS hA hl => bX8_passes M a1 hq (by simp) CX ⟨Nat.le_refl _, Nat.le_refl _⟩ hK hSW hP hD hS hA hl (fun pc ls H locs v M9 hv dg hz hP hD hS => W.zret (ty := .boolean) CX.1 CX.2.1 hr hz (fun t ht hW => ⟨⟨_, (), rfl, (Prod.mk.inj (Option.some.inj hv)).1, wpost hP ht (Prod.mk.inj (Option.some.inj hv)).2⟩, hS.F ht⟩) hS.2.2 dg))

abbrev wsX8_features : List Cond := Cond.code yX8_features cX8_features 5 (some .int) :: WG
def gX8_features_L34 (a1 : Int32) (E11 : Mm → Int32 → Int32 → Option (Int32 × Mm)) : Nat → Mm → Int32 → Int32 → Int32 → Option (Int32 × Mm)
  | 0, _, _, _, _ => none
  | n17 + 1, M13, x14, x15, x16 => if (4 : Int32) ≤ x16 then (E11 M13 x14 x15) else if (gX8_has a1 x15) = 0 then (lt (x16 + (1 : Int32)) fun x20 => gX8_features_L34 a1 E11 n17 M13 x14 x15 x20) else if (gX8_has a1 (x15 ^^^ ((1 : Int32) <<< (x16 &&& 31)))) = 0 then (lt (x14 ||| ((1 : Int32) <<< (x16 &&& 31))) fun x23 => lt (x16 + (1 : Int32)) fun x24 => gX8_features_L34 a1 E11 n17 M13 x23 x15 x24) else lt (x16 + (1 : Int32)) fun x22 => gX8_features_L34 a1 E11 n17 M13 x14 x15 x22
def gX8_features_L25 (a1 : Int32) : Nat → Mm → Int32 → Int32 → Option (Int32 × Mm)
  | 0, _, _, _ => none
  | n6 + 1, M3, x4, x5 => if (16 : Int32) ≤ x5 then (some (x4, M3)) else lt (fun (M8 : Mm) (x9 : Int32) (x10 : Int32) => lt (x10 + (1 : Int32)) fun x12 => gX8_features_L25 a1 n6 M8 x9 x12) fun E11 => gX8_features_L34 a1 E11 FU M3 x4 x5 (0 : Int32)
def gX8_features (M : Mm) (a1 : Int32) : Option (Int32 × Mm) := lt (um M 0 0 (0 : Int32)) fun M1 => if (gX8_isIn a1 (0 : Int32) (65535 : Int32)) = 0 then (bd2 (gX8_no M1 (1 : Int32)) fun r29 M28 => some (r29, M28)) else gX8_features_L25 a1 FU M1 (0 : Int32) (0 : Int32)
set_option maxHeartbeats 4000000 in
set_option maxRecDepth 100000 in
theorem bX8_features {p : Program} {l : Launch} {e : Env} {R : Room} {s : State} {m : MethodId} {args : Array Value} {below : List Frame} {meth : Method} {c : Code} {H : Heap} {locs : List Loc} {Q : State → Prop} {D : va_G} {sw : Sw} {cs : Cs} {ad : Nat → Nat} {X : va_W} {A : Nat → Prop} (M : Mm) (a1 : Int32) {res : Option (Int32 × Mm)} (hg : gX8_features M a1 = res) (hne : res ≠ none) (CX : CallFix p m c cX8_features 5 s args wsX8_features RX8) (hR : 1 ≤ R.frames ∧ 22 ≤ R.locals) (hK : va_K D vwCl (tysC cs) s) (hSW : SW sw A s s.heap) (hP : va_P D vwCl (wl cs LM NM ad M ++ X) H) (hD : va_D A (wl cs LM NM ad M ++ X)) (hS : va_S A s.heap H locs) (hA : ∀ q, s.heap.size ≤ q → A q) {ls : Array Slot} (hl : lv_has ls 5 [(0, .ref (ad 0)), (1, .int a1)]) (hret : ∀ (pc : Nat) (ls : Array Slot) (H : Heap) (locs : List Loc) (v : Int32) (M9 : Mm), some (v, M9) = res → decode cX8_features pc = .ok (.ireturn, 1) → va_P D vwCl (wl cs LM NM ad M9 ++ X) H → va_D A (wl cs LM NM ad M9 ++ X) → va_S A s.heap H locs → W p l e R s m args below meth c H locs 0 0 Q (F0 m pc ls [.int v])) : W p l e R s m args below meth c H locs 0 0 Q (F0 m 0 ls []) := by
  obtain ⟨hx, hb, hml, hown, hts⟩ := id CX
  have hw : ∀ w ∈ WG, w.before args s = true := fun w h => hts w (List.mem_cons_of_mem _ h)
  have lk_43 := hw _ m4_116
  have lk_97 := hw _ m5_73
  unfold gX8_features at hg
  refine lv_aload_n hx hb dX8_features_0 rfl (lv_at hl 0 rfl) ?_
  refine lv_iconst (v := 0) hx hb dX8_features_1 (by decide) ?_
  obtain ⟨M1, hM1, hg⟩ := lt_e hg
  refine m_pi (C := RX8) (T := TX8) (n := 15) (ci := 6) hx hb hts in_RX8 tyX8 tyX8_ok nmX8 hown hK hP hD hS (by decide) rfl rfl 0 (by decide) rfl lk_43 (fun _ h9 => h9) rfl rfl rfl dX8_features_2 hM1 (fun H locs hP hD hS => ?_)
  refine lv_iload_n hx hb dX8_features_5 rfl (lv_at hl 1 rfl) ?_
  refine lv_iconst (v := 0) hx hb dX8_features_6 (by decide) ?_
  refine lv_ldc (v := 65535) hx hb hown lk_97 dX8_features_7 ?_
  refine r_calli (W.runS (As := [.int a1, .int (0 : Int32), .int (65535 : Int32)]) (rest := []) CX (ctX8_isIn l a1 (0 : Int32) (65535 : Int32)) (va_cwS 3 hts (gwS m5_7 m5_8 m1_7 m5_9) rfl rfl rfl (by decide +kernel) ⟨Nat.le_trans (Nat.le_of_ble_eq_true rfl) hR.1, Nat.le_trans (Nat.le_of_ble_eq_true rfl) hR.2⟩) (pPreS _) rfl rfl hl.1 rfl (lv_room (Nat.le_of_ble_eq_true rfl)) dX8_features_9 ⟨Nat.zero_le _, Nat.zero_le _⟩) ?_
  refine lv_if_ne (tgt := 21) hx hb dX8_features_12 (by decide) (fun c2 => ?_) (fun c2 => ?_)
  · have hg := if_f hg c2
    refine lv_iconst (v := 0) hx hb dX8_features_21 (by decide) ?_
    refine lv_istore_n (lv' := [(2, .int (0 : Int32)), (0, .ref (ad 0)), (1, .int a1)]) hx hb dX8_features_22 rfl hl (by decide) rfl (fun ls hl => ?_)
    refine lv_iconst (v := 0) hx hb dX8_features_23 (by decide) ?_
    refine lv_istore_n (lv' := [(3, .int (0 : Int32)), (2, .int (0 : Int32)), (0, .ref (ad 0)), (1, .int a1)]) hx hb dX8_features_24 rfl hl (by decide) rfl (fun ls hl => ?_)
    have kL25_26 : ∀ (n6 : Nat) (M3 : Mm) (x4 : Int32) (x5 : Int32) (H : Heap) (locs : List Loc) (ls : Array Slot), va_P D vwCl (wl cs LM NM ad M3 ++ X) H → va_D A (wl cs LM NM ad M3 ++ X) → va_S A s.heap H locs → lv_has ls 5 [(1, .int a1), (2, .int x4), (3, .int x5)] → gX8_features_L25 a1 n6 M3 x4 x5 = res → W p l e R s m args below meth c H locs 0 0 Q (F0 m 25 ls []) := by
      intro n6
      induction n6 with
      | zero =>
        intro M3 x4 x5 H locs ls hP hD hS hl hg
        rw [gX8_features_L25] at hg
        exact absurd hg.symm hne
      | succ n6 ih =>
        intro M3 x4 x5 H locs ls hP hD hS hl hg
        rw [gX8_features_L25] at hg
        refine lv_iload_n hx hb dX8_features_25 rfl (lv_at hl 2 rfl) ?_
        refine lv_bipush (v := 16) hx hb dX8_features_26 (by decide) ?_
        refine lv_icmp_ge (tgt := 80) hx hb dX8_features_28 (by decide) (fun c7 => ?_) (fun c7 => ?_)
        · have hg := if_t hg c7
          refine lv_iload_n hx hb dX8_features_80 rfl (lv_at hl 1 rfl) ?_
          exact hret _ _ _ _ _ _ hg dX8_features_81 hP hD hS
        · have hg := if_f hg c7
          refine lv_iconst (v := 0) hx hb dX8_features_31 (by decide) ?_
          refine lv_istore (lv' := [(4, .int (0 : Int32)), (1, .int a1), (2, .int x4), (3, .int x5)]) hx hb dX8_features_32 hl (by decide) rfl (fun ls hl => ?_)
          obtain ⟨E11, hE11, hg⟩ := lf3 hg
          have kE11 : ∀ (M8 : Mm) (x9 : Int32) (x10 : Int32) (H : Heap) (locs : List Loc) (ls : Array Slot), va_P D vwCl (wl cs LM NM ad M8 ++ X) H → va_D A (wl cs LM NM ad M8 ++ X) → va_S A s.heap H locs → lv_has ls 5 [(1, .int a1), (2, .int x9), (3, .int x10)] → E11 M8 x9 x10 = res → W p l e R s m args below meth c H locs 0 0 Q (F0 m 74 ls []) := by
            intro M8 x9 x10 H locs ls hP hD hS hl hg
            rw [hE11] at hg
            obtain ⟨x12, hx12, hg⟩ := lt_e hg
            refine lv_iinc (v := x12) (lv' := [(3, .int x12), (1, .int a1), (2, .int x9)]) hx hb dX8_features_74 hl (k := 2) rfl (hx12.symm) (by decide) rfl (fun ls hl => ?_)
            refine lv_goto (tgt := 25) hx hb dX8_features_77 (by decide) ?_
            exact ih _ _ _ _ _ _ hP hD hS (lv_sub hl [1, 2, 0] rfl) hg
          have kL34_25 : ∀ (n17 : Nat) (M13 : Mm) (x14 : Int32) (x15 : Int32) (x16 : Int32) (H : Heap) (locs : List Loc) (ls : Array Slot), va_P D vwCl (wl cs LM NM ad M13 ++ X) H → va_D A (wl cs LM NM ad M13 ++ X) → va_S A s.heap H locs → lv_has ls 5 [(1, .int a1), (2, .int x14), (3, .int x15), (4, .int x16)] → gX8_features_L34 a1 E11 n17 M13 x14 x15 x16 = res → W p l e R s m args below meth c H locs 0 0 Q (F0 m 34 ls []) := by
            intro n17
            induction n17 with
            | zero =>
              intro M13 x14 x15 x16 H locs ls hP hD hS hl hg
              rw [gX8_features_L34] at hg
              exact absurd hg.symm hne
            | succ n17 ih =>
              intro M13 x14 x15 x16 H locs ls hP hD hS hl hg
              rw [gX8_features_L34] at hg
              refine lv_iload hx hb dX8_features_34 (lv_at hl 3 rfl) ?_
              refine lv_iconst (v := 4) hx hb dX8_features_36 (by decide) ?_
              refine lv_icmp_ge (tgt := 74) hx hb dX8_features_37 (by decide) (fun c18 => ?_) (fun c18 => ?_)
              · have hg := if_t hg c18
                exact kE11 _ _ _ _ _ _ hP hD hS (lv_sub hl [0, 1, 2] rfl) hg
              · have hg := if_f hg c18
                refine lv_iload_n hx hb dX8_features_40 rfl (lv_at hl 0 rfl) ?_
                refine lv_iload_n hx hb dX8_features_41 rfl (lv_at hl 2 rfl) ?_
                refine r_calli (W.runS (As := [.int a1, .int x15]) (rest := []) CX (ctX8_has l a1 x15) (va_cwS 2 hts (gwS m5_70 m5_71 m1_7 m5_72) rfl rfl rfl (by decide +kernel) ⟨Nat.le_trans (Nat.le_of_ble_eq_true rfl) hR.1, Nat.le_trans (Nat.le_of_ble_eq_true rfl) hR.2⟩) (pPreS _) rfl rfl hl.1 rfl (lv_room (Nat.le_of_ble_eq_true rfl)) dX8_features_42 ⟨Nat.zero_le _, Nat.zero_le _⟩) ?_
                refine lv_if_eq (tgt := 68) hx hb dX8_features_45 (by decide) (fun c19 => ?_) (fun c19 => ?_)
                · have hg := if_t hg c19
                  obtain ⟨x20, hx20, hg⟩ := lt_e hg
                  refine lv_iinc (v := x20) (lv' := [(4, .int x20), (1, .int a1), (2, .int x14), (3, .int x15)]) hx hb dX8_features_68 hl (k := 3) rfl (hx20.symm) (by decide) rfl (fun ls hl => ?_)
                  refine lv_goto (tgt := 34) hx hb dX8_features_71 (by decide) ?_
                  exact ih _ _ _ _ _ _ _ hP hD hS (lv_sub hl [1, 2, 3, 0] rfl) hg
                · have hg := if_f hg c19
                  refine lv_iload_n hx hb dX8_features_48 rfl (lv_at hl 0 rfl) ?_
                  refine lv_iload_n hx hb dX8_features_49 rfl (lv_at hl 2 rfl) ?_
                  refine lv_iconst (v := 1) hx hb dX8_features_50 (by decide) ?_
                  refine lv_iload hx hb dX8_features_51 (lv_at hl 3 rfl) ?_
                  refine lv_ishl hx hb dX8_features_53 ?_
                  refine lv_ixor hx hb dX8_features_54 ?_
                  refine r_calli (W.runS (As := [.int a1, .int (x15 ^^^ ((1 : Int32) <<< (x16 &&& 31)))]) (rest := []) CX (ctX8_has l a1 (x15 ^^^ ((1 : Int32) <<< (x16 &&& 31)))) (va_cwS 2 hts (gwS m5_70 m5_71 m1_7 m5_72) rfl rfl rfl (by decide +kernel) ⟨Nat.le_trans (Nat.le_of_ble_eq_true rfl) hR.1, Nat.le_trans (Nat.le_of_ble_eq_true rfl) hR.2⟩) (pPreS _) rfl rfl hl.1 rfl (lv_room (Nat.le_of_ble_eq_true rfl)) dX8_features_55 ⟨Nat.zero_le _, Nat.zero_le _⟩) ?_
                  refine lv_if_ne (tgt := 68) hx hb dX8_features_58 (by decide) (fun c21 => ?_) (fun c21 => ?_)
                  · have hg := if_f hg c21
                    obtain ⟨x22, hx22, hg⟩ := lt_e hg
                    refine lv_iinc (v := x22) (lv' := [(4, .int x22), (1, .int a1), (2, .int x14), (3, .int x15)]) hx hb dX8_features_68 hl (k := 3) rfl (hx22.symm) (by decide) rfl (fun ls hl => ?_)
                    refine lv_goto (tgt := 34) hx hb dX8_features_71 (by decide) ?_
                    exact ih _ _ _ _ _ _ _ hP hD hS (lv_sub hl [1, 2, 3, 0] rfl) hg
                  · have hg := if_t hg c21
                    refine lv_iload_n hx hb dX8_features_61 rfl (lv_at hl 1 rfl) ?_
                    refine lv_iconst (v := 1) hx hb dX8_features_62 (by decide) ?_
                    refine lv_iload hx hb dX8_features_63 (lv_at hl 3 rfl) ?_
                    refine lv_ishl hx hb dX8_features_65 ?_
                    refine lv_ior hx hb dX8_features_66 ?_
                    obtain ⟨x23, hx23, hg⟩ := lt_e hg
                    refine top_i hx23 ?_
                    refine lv_istore_n (lv' := [(2, .int x23), (1, .int a1), (3, .int x15), (4, .int x16)]) hx hb dX8_features_67 rfl hl (by decide) rfl (fun ls hl => ?_)
                    obtain ⟨x24, hx24, hg⟩ := lt_e hg
                    refine lv_iinc (v := x24) (lv' := [(4, .int x24), (2, .int x23), (1, .int a1), (3, .int x15)]) hx hb dX8_features_68 hl (k := 3) rfl (hx24.symm) (by decide) rfl (fun ls hl => ?_)
                    refine lv_goto (tgt := 34) hx hb dX8_features_71 (by decide) ?_
                    exact ih _ _ _ _ _ _ _ hP hD hS (lv_sub hl [2, 1, 3, 0] rfl) hg
          exact kL34_25 FU _ _ _ _ _ _ _ hP hD hS (lv_sub hl [1, 2, 3, 0] rfl) hg
    exact kL25_26 FU _ _ _ _ _ _ hP hD hS (lv_sub hl [3, 1, 0] rfl) hg
  · have hg := if_t hg c2
    refine lv_aload_n hx hb dX8_features_15 rfl (lv_at hl 0 rfl) ?_
    refine lv_iconst (v := 1) hx hb dX8_features_16 (by decide) ?_
    obtain ⟨r29, M28, q27, hg⟩ := bd2_e hg hne
    refine w_calli (va_runV (As := [.int (1 : Int32)]) (rest := []) CX (ctX8_no l D sw cs ad X H.size M1 (1 : Int32) q27) (cwV 1 hts (gwV m4_232 m4_234 mp3_4 m1_7 m4_235) rfl rfl rfl (by decide +kernel) ⟨Nat.le_trans (Nat.le_of_ble_eq_true rfl) hR.1, Nat.le_trans (Nat.le_of_ble_eq_true rfl) hR.2⟩) (wPreV hSW hS hA hK hP hD (by decide) rfl rfl _) rfl rfl hl.1 rfl (lv_room (Nat.le_of_ble_eq_true rfl)) dX8_features_17 ⟨Nat.zero_le _, Nat.zero_le _⟩) hD hS hA (fun H locs hP hD hS => ?_)
    exact hret _ _ _ _ _ _ hg dX8_features_20 hP hD hS
theorem ctX8_features (l : Launch) (D : va_G) (sw : Sw) (cs : Cs) (ad : Nat → Nat) (X : va_W) (sz : Nat) (M : Mm) (a1 : Int32) {r : Int32} {M1 : Mm} (hq : gX8_features M a1 = some (r, M1)) : Met l yX8_features wsX8_features ({ frames := 1, cells := 0, slots := 0, locals := 22 }) (va_Pc [.ref (ad 0), .int a1] (wPre D sw cs LM NM ad M X sz)) (wQi D cs LM NM ad M1 X sz r) 0 0 (wA NM ad X sz) :=
  met_w rfl rfl (Nat.le_of_ble_eq_true rfl) (fun p e s m args below meth c ls CX hr hlk hK hSW hP hD hS hA hl => bX8_features M a1 hq (by simp) CX ⟨Nat.le_refl _, Nat.le_refl _⟩ hK hSW hP hD hS hA hl (fun pc ls H locs v M9 hv dg hP hD hS => W.iret CX.1 CX.2.1 hr (fun t ht hW => ⟨⟨_, (), rfl, (Prod.mk.inj (Option.some.inj hv)).1, wpost hP ht (Prod.mk.inj (Option.some.inj hv)).2⟩, hS.F ht⟩) hS.2.2 dg))
