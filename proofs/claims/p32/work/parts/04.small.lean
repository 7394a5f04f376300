abbrev wsX0_isDigit : List Cond := Cond.code yX0_isDigit cX0_isDigit 1 (some .boolean) :: WG
def gX0_isDigit (a0 : Int32) : Int32 := if a0 < (48 : Int32) then ((0 : Int32)) else if (57 : Int32) < a0 then ((0 : Int32)) else (1 : Int32)
set_option maxHeartbeats 4000000 in
set_option maxRecDepth 100000 in
theorem bX0_isDigit {p : Program} {l : Launch} {e : Env} {R : Room} {s : State} {m : MethodId} {args : Array Value} {below : List Frame} {meth : Method} {c : Code} {H : Heap} {locs : List Loc} {Q : State → Prop} (a0 : Int32) {res : Int32} (hg : gX0_isDigit a0 = res) (CX : CallFix p m c cX0_isDigit 1 s args wsX0_isDigit RX0) (hR : 0 ≤ R.frames ∧ 0 ≤ R.locals) {ls : Array Slot} (hl : lv_has ls 1 [(0, .int a0)]) (hret : ∀ (pc : Nat) (ls : Array Slot) (v : Int32), v = res → decode cX0_isDigit pc = .ok (.ireturn, 1) → narrow .boolean (.int v) = .int v → W p l e R s m args below meth c H locs 0 0 Q (F0 m pc ls [.int v])) : W p l e R s m args below meth c H locs 0 0 Q (F0 m 0 ls []) := by
  obtain ⟨hx, hb, hml, hown, hts⟩ := id CX
  have hw : ∀ w ∈ WG, w.before args s = true := fun w h => hts w (List.mem_cons_of_mem _ h)
  unfold gX0_isDigit at hg
  refine lv_iload_n hx hb dX0_isDigit_0 rfl (lv_at hl 0 rfl) ?_
  refine lv_bipush (v := 48) hx hb dX0_isDigit_1 (by decide) ?_
  refine lv_icmp_lt (tgt := 16) hx hb dX0_isDigit_3 (by decide) (fun c1 => ?_) (fun c1 => ?_)
  · have hg := if_t hg c1
    refine lv_iconst (v := 0) hx hb dX0_isDigit_16 (by decide) ?_
    exact hret _ _ _ hg dX0_isDigit_17 rfl
  · have hg := if_f hg c1
    refine lv_iload_n hx hb dX0_isDigit_6 rfl (lv_at hl 0 rfl) ?_
    refine lv_bipush (v := 57) hx hb dX0_isDigit_7 (by decide) ?_
    refine lv_icmp_gt (tgt := 16) hx hb dX0_isDigit_9 (by decide) (fun c2 => ?_) (fun c2 => ?_)
    · have hg := if_t hg c2
      refine lv_iconst (v := 0) hx hb dX0_isDigit_16 (by decide) ?_
      exact hret _ _ _ hg dX0_isDigit_17 rfl
    · have hg := if_f hg c2
      refine lv_iconst (v := 1) hx hb dX0_isDigit_12 (by decide) ?_
      refine lv_goto (tgt := 17) hx hb dX0_isDigit_13 (by decide) ?_
      exact hret _ _ _ hg dX0_isDigit_17 rfl
theorem zX0_isDigit (a0 : Int32) : narrow .boolean (.int (gX0_isDigit a0)) = .int (gX0_isDigit a0) := by
  unfold gX0_isDigit
  repeat' (first | apply zif | rfl)
theorem ctX0_isDigit (l : Launch) (a0 : Int32) : Met l yX0_isDigit wsX0_isDigit ({ frames := 0, cells := 0, slots := 0, locals := 0 }) (va_Pc [.int a0] (fun _ => True)) (vp_Si (fun r' => r' = gX0_isDigit a0)) 0 0 (fun _ => False) :=
  met_p rfl rfl (Nat.le_of_ble_eq_true rfl) (fun p e s m args below meth c ls CX hr hlk hl => bX0_isDigit a0 rfl CX ⟨Nat.le_refl _, Nat.le_refl _⟩ hl (fun pc ls v hv dg hz => W.zret (ty := .boolean) CX.1 CX.2.1 hr hz (fun t ht hW => ⟨_, rfl, hv, ht⟩) (fun _ h => by cases h) dg))

abbrev wsX0_isName : List Cond := Cond.code yX0_isName cX0_isName 1 (some .boolean) :: WG
def gX0_isName (a0 : Int32) : Int32 := if a0 < (97 : Int32) then ((0 : Int32)) else if (100 : Int32) < a0 then ((0 : Int32)) else (1 : Int32)
set_option maxHeartbeats 4000000 in
set_option maxRecDepth 100000 in
theorem bX0_isName {p : Program} {l : Launch} {e : Env} {R : Room} {s : State} {m : MethodId} {args : Array Value} {below : List Frame} {meth : Method} {c : Code} {H : Heap} {locs : List Loc} {Q : State → Prop} (a0 : Int32) {res : Int32} (hg : gX0_isName a0 = res) (CX : CallFix p m c cX0_isName 1 s args wsX0_isName RX0) (hR : 0 ≤ R.frames ∧ 0 ≤ R.locals) {ls : Array Slot} (hl : lv_has ls 1 [(0, .int a0)]) (hret : ∀ (pc : Nat) (ls : Array Slot) (v : Int32), v = res → decode cX0_isName pc = .ok (.ireturn, 1) → narrow .boolean (.int v) = .int v → W p l e R s m args below meth c H locs 0 0 Q (F0 m pc ls [.int v])) : W p l e R s m args below meth c H locs 0 0 Q (F0 m 0 ls []) := by
  obtain ⟨hx, hb, hml, hown, hts⟩ := id CX
  have hw : ∀ w ∈ WG, w.before args s = true := fun w h => hts w (List.mem_cons_of_mem _ h)
  unfold gX0_isName at hg
  refine lv_iload_n hx hb dX0_isName_0 rfl (lv_at hl 0 rfl) ?_
  refine lv_bipush (v := 97) hx hb dX0_isName_1 (by decide) ?_
  refine lv_icmp_lt (tgt := 16) hx hb dX0_isName_3 (by decide) (fun c1 => ?_) (fun c1 => ?_)
  · have hg := if_t hg c1
    refine lv_iconst (v := 0) hx hb dX0_isName_16 (by decide) ?_
    exact hret _ _ _ hg dX0_isName_17 rfl
  · have hg := if_f hg c1
    refine lv_iload_n hx hb dX0_isName_6 rfl (lv_at hl 0 rfl) ?_
    refine lv_bipush (v := 100) hx hb dX0_isName_7 (by decide) ?_
    refine lv_icmp_gt (tgt := 16) hx hb dX0_isName_9 (by decide) (fun c2 => ?_) (fun c2 => ?_)
    · have hg := if_t hg c2
      refine lv_iconst (v := 0) hx hb dX0_isName_16 (by decide) ?_
      exact hret _ _ _ hg dX0_isName_17 rfl
    · have hg := if_f hg c2
      refine lv_iconst (v := 1) hx hb dX0_isName_12 (by decide) ?_
      refine lv_goto (tgt := 17) hx hb dX0_isName_13 (by decide) ?_
      exact hret _ _ _ hg dX0_isName_17 rfl
theorem zX0_isName (a0 : Int32) : narrow .boolean (.int (gX0_isName a0)) = .int (gX0_isName a0) := by
  unfold gX0_isName
  repeat' (first | apply zif | rfl)
theorem ctX0_isName (l : Launch) (a0 : Int32) : Met l yX0_isName wsX0_isName ({ frames := 0, cells := 0, slots := 0, locals := 0 }) (va_Pc [.int a0] (fun _ => True)) (vp_Si (fun r' => r' = gX0_isName a0)) 0 0 (fun _ => False) :=
  met_p rfl rfl (Nat.le_of_ble_eq_true rfl) (fun p e s m args below meth c ls CX hr hlk hl => bX0_isName a0 rfl CX ⟨Nat.le_refl _, Nat.le_refl _⟩ hl (fun pc ls v hv dg hz => W.zret (ty := .boolean) CX.1 CX.2.1 hr hz (fun t ht hW => ⟨_, rfl, hv, ht⟩) (fun _ h => by cases h) dg))

abbrev wsX0_isToken : List Cond := Cond.code yX0_isToken cX0_isToken 1 (some .boolean) :: WG
def gX0_isToken (a0 : Int32) : Int32 := if a0 = (33 : Int32) then ((1 : Int32)) else if a0 = (40 : Int32) then ((1 : Int32)) else if a0 = (41 : Int32) then ((1 : Int32)) else if a0 = (42 : Int32) then ((1 : Int32)) else if a0 = (43 : Int32) then ((1 : Int32)) else if a0 = (45 : Int32) then ((1 : Int32)) else if a0 = (58 : Int32) then ((1 : Int32)) else if a0 = (59 : Int32) then ((1 : Int32)) else if a0 = (61 : Int32) then ((1 : Int32)) else if a0 = (63 : Int32) then ((1 : Int32)) else if a0 = (123 : Int32) then ((1 : Int32)) else if a0 = (125 : Int32) then ((1 : Int32)) else if (gX0_isDigit a0) = 0 then (if (gX0_isName a0) = 0 then ((0 : Int32)) else (1 : Int32)) else (1 : Int32)
set_option maxHeartbeats 4000000 in
set_option maxRecDepth 100000 in
theorem bX0_isToken {p : Program} {l : Launch} {e : Env} {R : Room} {s : State} {m : MethodId} {args : Array Value} {below : List Frame} {meth : Method} {c : Code} {H : Heap} {locs : List Loc} {Q : State → Prop} (a0 : Int32) {res : Int32} (hg : gX0_isToken a0 = res) (CX : CallFix p m c cX0_isToken 1 s args wsX0_isToken RX0) (hR : 1 ≤ R.frames ∧ 20 ≤ R.locals) {ls : Array Slot} (hl : lv_has ls 1 [(0, .int a0)]) (hret : ∀ (pc : Nat) (ls : Array Slot) (v : Int32), v = res → decode cX0_isToken pc = .ok (.ireturn, 1) → narrow .boolean (.int v) = .int v → W p l e R s m args below meth c H locs 0 0 Q (F0 m pc ls [.int v])) : W p l e R s m args below meth c H locs 0 0 Q (F0 m 0 ls []) := by
  obtain ⟨hx, hb, hml, hown, hts⟩ := id CX
  have hw : ∀ w ∈ WG, w.before args s = true := fun w h => hts w (List.mem_cons_of_mem _ h)
  unfold gX0_isToken at hg
  refine lv_iload_n hx hb dX0_isToken_0 rfl (lv_at hl 0 rfl) ?_
  by_cases z1 : a0 = (33 : Int32)
  · have hg := if_t hg z1
    refine lv_lookup (off := 107) (tgt := 108) hx hb dX0_isToken_1 (by decide) (by rw [z1]; decide) (by decide) ?_
    refine lv_iconst (v := 1) hx hb dX0_isToken_108 (by decide) ?_
    exact hret _ _ _ hg dX0_isToken_109 rfl
  have hg := if_f hg z1
  by_cases z2 : a0 = (40 : Int32)
  · have hg := if_t hg z2
    refine lv_lookup (off := 107) (tgt := 108) hx hb dX0_isToken_1 (by decide) (by rw [z2]; decide) (by decide) ?_
    refine lv_iconst (v := 1) hx hb dX0_isToken_108 (by decide) ?_
    exact hret _ _ _ hg dX0_isToken_109 rfl
  have hg := if_f hg z2
  by_cases z3 : a0 = (41 : Int32)
  · have hg := if_t hg z3
    refine lv_lookup (off := 107) (tgt := 108) hx hb dX0_isToken_1 (by decide) (by rw [z3]; decide) (by decide) ?_
    refine lv_iconst (v := 1) hx hb dX0_isToken_108 (by decide) ?_
    exact hret _ _ _ hg dX0_isToken_109 rfl
  have hg := if_f hg z3
  by_cases z4 : a0 = (42 : Int32)
  · have hg := if_t hg z4
    refine lv_lookup (off := 107) (tgt := 108) hx hb dX0_isToken_1 (by decide) (by rw [z4]; decide) (by decide) ?_
    refine lv_iconst (v := 1) hx hb dX0_isToken_108 (by decide) ?_
    exact hret _ _ _ hg dX0_isToken_109 rfl
  have hg := if_f hg z4
  by_cases z5 : a0 = (43 : Int32)
  · have hg := if_t hg z5
    refine lv_lookup (off := 107) (tgt := 108) hx hb dX0_isToken_1 (by decide) (by rw [z5]; decide) (by decide) ?_
    refine lv_iconst (v := 1) hx hb dX0_isToken_108 (by decide) ?_
    exact hret _ _ _ hg dX0_isToken_109 rfl
  have hg := if_f hg z5
  by_cases z6 : a0 = (45 : Int32)
  · have hg := if_t hg z6
    refine lv_lookup (off := 107) (tgt := 108) hx hb dX0_isToken_1 (by decide) (by rw [z6]; decide) (by decide) ?_
    refine lv_iconst (v := 1) hx hb dX0_isToken_108 (by decide) ?_
    exact hret _ _ _ hg dX0_isToken_109 rfl
  have hg := if_f hg z6
  by_cases z7 : a0 = (58 : Int32)
  · have hg := if_t hg z7
    refine lv_lookup (off := 107) (tgt := 108) hx hb dX0_isToken_1 (by decide) (by rw [z7]; decide) (by decide) ?_
    refine lv_iconst (v := 1) hx hb dX0_isToken_108 (by decide) ?_
    exact hret _ _ _ hg dX0_isToken_109 rfl
  have hg := if_f hg z7
  by_cases z8 : a0 = (59 : Int32)
  · have hg := if_t hg z8
    refine lv_lookup (off := 107) (tgt := 108) hx hb dX0_isToken_1 (by decide) (by rw [z8]; decide) (by decide) ?_
    refine lv_iconst (v := 1) hx hb dX0_isToken_108 (by decide) ?_
    exact hret _ _ _ hg dX0_isToken_109 rfl
  have hg := if_f hg z8
  by_cases z9 : a0 = (61 : Int32)
  · have hg := if_t hg z9
    refine lv_lookup (off := 107) (tgt := 108) hx hb dX0_isToken_1 (by decide) (by rw [z9]; decide) (by decide) ?_
    refine lv_iconst (v := 1) hx hb dX0_isToken_108 (by decide) ?_
    exact hret _ _ _ hg dX0_isToken_109 rfl
  have hg := if_f hg z9
  by_cases z10 : a0 = (63 : Int32)
  · have hg := if_t hg z10
    refine lv_lookup (off := 107) (tgt := 108) hx hb dX0_isToken_1 (by decide) (by rw [z10]; decide) (by decide) ?_
    refine lv_iconst (v := 1) hx hb dX0_isToken_108 (by decide) ?_
    exact hret _ _ _ hg dX0_isToken_109 rfl
  have hg := if_f hg z10
  by_cases z11 : a0 = (123 : Int32)
  · have hg := if_t hg z11
    refine lv_lookup (off := 107) (tgt := 108) hx hb dX0_isToken_1 (by decide) (by rw [z11]; decide) (by decide) ?_
    refine lv_iconst (v := 1) hx hb dX0_isToken_108 (by decide) ?_
    exact hret _ _ _ hg dX0_isToken_109 rfl
  have hg := if_f hg z11
  by_cases z12 : a0 = (125 : Int32)
  · have hg := if_t hg z12
    refine lv_lookup (off := 107) (tgt := 108) hx hb dX0_isToken_1 (by decide) (by rw [z12]; decide) (by decide) ?_
    refine lv_iconst (v := 1) hx hb dX0_isToken_108 (by decide) ?_
    exact hret _ _ _ hg dX0_isToken_109 rfl
  have hg := if_f hg z12
  refine lv_lookup (off := 109) (tgt := 110) hx hb dX0_isToken_1 (by decide) (((((((((((((lv_osw z1 (by decide)).trans (lv_osw z2 (by decide))).trans (lv_osw z3 (by decide))).trans (lv_osw z4 (by decide))).trans (lv_osw z5 (by decide))).trans (lv_osw z6 (by decide))).trans (lv_osw z7 (by decide))).trans (lv_osw z8 (by decide))).trans (lv_osw z9 (by decide))).trans (lv_osw z10 (by decide))).trans (lv_osw z11 (by decide))).trans (lv_osw z12 (by decide))).trans rfl) (by decide) ?_
  refine lv_iload_n hx hb dX0_isToken_110 rfl (lv_at hl 0 rfl) ?_
  refine r_calli (W.runS (As := [.int a0]) (rest := []) CX (ctX0_isDigit l a0) (va_cwS 1 hts (gwS m1_185 m1_186 m1_11 m1_187) rfl rfl rfl (by decide +kernel) ⟨Nat.le_trans (Nat.le_of_ble_eq_true rfl) hR.1, Nat.le_trans (Nat.le_of_ble_eq_true rfl) hR.2⟩) (pPreS _) rfl rfl hl.1 rfl (lv_room (Nat.le_of_ble_eq_true rfl)) dX0_isToken_111 ⟨Nat.zero_le _, Nat.zero_le _⟩) ?_
  refine lv_if_ne (tgt := 124) hx hb dX0_isToken_114 (by decide) (fun c13 => ?_) (fun c13 => ?_)
  · have hg := if_f hg c13
    refine lv_iconst (v := 1) hx hb dX0_isToken_124 (by decide) ?_
    refine lv_goto (tgt := 129) hx hb dX0_isToken_125 (by decide) ?_
    exact hret _ _ _ hg dX0_isToken_129 rfl
  · have hg := if_t hg c13
    refine lv_iload_n hx hb dX0_isToken_117 rfl (lv_at hl 0 rfl) ?_
    refine r_calli (W.runS (As := [.int a0]) (rest := []) CX (ctX0_isName l a0) (va_cwS 1 hts (gwS m1_188 m1_189 m1_11 m1_190) rfl rfl rfl (by decide +kernel) ⟨Nat.le_trans (Nat.le_of_ble_eq_true rfl) hR.1, Nat.le_trans (Nat.le_of_ble_eq_true rfl) hR.2⟩) (pPreS _) rfl rfl hl.1 rfl (lv_room (Nat.le_of_ble_eq_true rfl)) dX0_isToken_118 ⟨Nat.zero_le _, Nat.zero_le _⟩) ?_
    refine lv_if_eq (tgt := 128) hx hb dX0_isToken_121 (by decide) (fun c14 => ?_) (fun c14 => ?_)
    · have hg := if_t hg c14
      refine lv_iconst (v := 0) hx hb dX0_isToken_128 (by decide) ?_
      exact hret _ _ _ hg dX0_isToken_129 rfl
    · have hg := if_f hg c14
      refine lv_iconst (v := 1) hx hb dX0_isToken_124 (by decide) ?_
      refine lv_goto (tgt := 129) hx hb dX0_isToken_125 (by decide) ?_
      exact hret _ _ _ hg dX0_isToken_129 rfl
theorem zX0_isToken (a0 : Int32) : narrow .boolean (.int (gX0_isToken a0)) = .int (gX0_isToken a0) := by
  unfold gX0_isToken
  repeat' (first | apply zif | rfl | apply zX0_isDigit | apply zX0_isName)
theorem ctX0_isToken (l : Launch) (a0 : Int32) : Met l yX0_isToken wsX0_isToken ({ frames := 1, cells := 0, slots := 0, locals := 20 }) (va_Pc [.int a0] (fun _ => True)) (vp_Si (fun r' => r' = gX0_isToken a0)) 0 0 (fun _ => False) :=
  met_p rfl rfl (Nat.le_of_ble_eq_true rfl) (fun p e s m args below meth c ls CX hr hlk hl => bX0_isToken a0 rfl CX ⟨Nat.le_refl _, Nat.le_refl _⟩ hl (fun pc ls v hv dg hz => W.zret (ty := .boolean) CX.1 CX.2.1 hr hz (fun t ht hW => ⟨_, rfl, hv, ht⟩) (fun _ h => by cases h) dg))

abbrev wsX0_isReplaced : List Cond := Cond.code yX0_isReplaced cX0_isReplaced 1 (some .boolean) :: WG
def gX0_isReplaced (a0 : Int32) : Int32 := if a0 < (65 : Int32) then ((0 : Int32)) else if (90 : Int32) < a0 then ((0 : Int32)) else (1 : Int32)
set_option maxHeartbeats 4000000 in
set_option maxRecDepth 100000 in
theorem bX0_isReplaced {p : Program} {l : Launch} {e : Env} {R : Room} {s : State} {m : MethodId} {args : Array Value} {below : List Frame} {meth : Method} {c : Code} {H : Heap} {locs : List Loc} {Q : State → Prop} (a0 : Int32) {res : Int32} (hg : gX0_isReplaced a0 = res) (CX : CallFix p m c cX0_isReplaced 1 s args wsX0_isReplaced RX0) (hR : 0 ≤ R.frames ∧ 0 ≤ R.locals) {ls : Array Slot} (hl : lv_has ls 1 [(0, .int a0)]) (hret : ∀ (pc : Nat) (ls : Array Slot) (v : Int32), v = res → decode cX0_isReplaced pc = .ok (.ireturn, 1) → narrow .boolean (.int v) = .int v → W p l e R s m args below meth c H locs 0 0 Q (F0 m pc ls [.int v])) : W p l e R s m args below meth c H locs 0 0 Q (F0 m 0 ls []) := by
  obtain ⟨hx, hb, hml, hown, hts⟩ := id CX
  have hw : ∀ w ∈ WG, w.before args s = true := fun w h => hts w (List.mem_cons_of_mem _ h)
  unfold gX0_isReplaced at hg
  refine lv_iload_n hx hb dX0_isReplaced_0 rfl (lv_at hl 0 rfl) ?_
  refine lv_bipush (v := 65) hx hb dX0_isReplaced_1 (by decide) ?_
  refine lv_icmp_lt (tgt := 16) hx hb dX0_isReplaced_3 (by decide) (fun c1 => ?_) (fun c1 => ?_)
  · have hg := if_t hg c1
    refine lv_iconst (v := 0) hx hb dX0_isReplaced_16 (by decide) ?_
    exact hret _ _ _ hg dX0_isReplaced_17 rfl
  · have hg := if_f hg c1
    refine lv_iload_n hx hb dX0_isReplaced_6 rfl (lv_at hl 0 rfl) ?_
    refine lv_bipush (v := 90) hx hb dX0_isReplaced_7 (by decide) ?_
    refine lv_icmp_gt (tgt := 16) hx hb dX0_isReplaced_9 (by decide) (fun c2 => ?_) (fun c2 => ?_)
    · have hg := if_t hg c2
      refine lv_iconst (v := 0) hx hb dX0_isReplaced_16 (by decide) ?_
      exact hret _ _ _ hg dX0_isReplaced_17 rfl
    · have hg := if_f hg c2
      refine lv_iconst (v := 1) hx hb dX0_isReplaced_12 (by decide) ?_
      refine lv_goto (tgt := 17) hx hb dX0_isReplaced_13 (by decide) ?_
      exact hret _ _ _ hg dX0_isReplaced_17 rfl
theorem zX0_isReplaced (a0 : Int32) : narrow .boolean (.int (gX0_isReplaced a0)) = .int (gX0_isReplaced a0) := by
  unfold gX0_isReplaced
  repeat' (first | apply zif | rfl)
theorem ctX0_isReplaced (l : Launch) (a0 : Int32) : Met l yX0_isReplaced wsX0_isReplaced ({ frames := 0, cells := 0, slots := 0, locals := 0 }) (va_Pc [.int a0] (fun _ => True)) (vp_Si (fun r' => r' = gX0_isReplaced a0)) 0 0 (fun _ => False) :=
  met_p rfl rfl (Nat.le_of_ble_eq_true rfl) (fun p e s m args below meth c ls CX hr hlk hl => bX0_isReplaced a0 rfl CX ⟨Nat.le_refl _, Nat.le_refl _⟩ hl (fun pc ls v hv dg hz => W.zret (ty := .boolean) CX.1 CX.2.1 hr hz (fun t ht hW => ⟨_, rfl, hv, ht⟩) (fun _ h => by cases h) dg))

abbrev wsX0_canBeginStatement : List Cond := Cond.code yX0_canBeginStatement cX0_canBeginStatement 1 (some .boolean) :: WG
def gX0_canBeginStatement (a0 : Int32) : Int32 := if a0 = (33 : Int32) then ((1 : Int32)) else if a0 = (63 : Int32) then ((1 : Int32)) else if a0 = (97 : Int32) then ((1 : Int32)) else if a0 = (98 : Int32) then ((1 : Int32)) else if a0 = (99 : Int32) then ((1 : Int32)) else if a0 = (100 : Int32) then ((1 : Int32)) else if a0 = (123 : Int32) then ((1 : Int32)) else (0 : Int32)
set_option maxHeartbeats 4000000 in
set_option maxRecDepth 100000 in
theorem bX0_canBeginStatement {p : Program} {l : Launch} {e : Env} {R : Room} {s : State} {m : MethodId} {args : Array Value} {below : List Frame} {meth : Method} {c : Code} {H : Heap} {locs : List Loc} {Q : State → Prop} (a0 : Int32) {res : Int32} (hg : gX0_canBeginStatement a0 = res) (CX : CallFix p m c cX0_canBeginStatement 1 s args wsX0_canBeginStatement RX0) (hR : 0 ≤ R.frames ∧ 0 ≤ R.locals) {ls : Array Slot} (hl : lv_has ls 1 [(0, .int a0)]) (hret : ∀ (pc : Nat) (ls : Array Slot) (v : Int32), v = res → decode cX0_canBeginStatement pc = .ok (.ireturn, 1) → narrow .boolean (.int v) = .int v → W p l e R s m args below meth c H locs 0 0 Q (F0 m pc ls [.int v])) : W p l e R s m args below meth c H locs 0 0 Q (F0 m 0 ls []) := by
  obtain ⟨hx, hb, hml, hown, hts⟩ := id CX
  have hw : ∀ w ∈ WG, w.before args s = true := fun w h => hts w (List.mem_cons_of_mem _ h)
  unfold gX0_canBeginStatement at hg
  refine lv_iload_n hx hb dX0_canBeginStatement_0 rfl (lv_at hl 0 rfl) ?_
  by_cases z1 : a0 = (33 : Int32)
  · have hg := if_t hg z1
    refine lv_lookup (off := 67) (tgt := 68) hx hb dX0_canBeginStatement_1 (by decide) (by rw [z1]; decide) (by decide) ?_
    refine lv_iconst (v := 1) hx hb dX0_canBeginStatement_68 (by decide) ?_
    exact hret _ _ _ hg dX0_canBeginStatement_69 rfl
  have hg := if_f hg z1
  by_cases z2 : a0 = (63 : Int32)
  · have hg := if_t hg z2
    refine lv_lookup (off := 67) (tgt := 68) hx hb dX0_canBeginStatement_1 (by decide) (by rw [z2]; decide) (by decide) ?_
    refine lv_iconst (v := 1) hx hb dX0_canBeginStatement_68 (by decide) ?_
    exact hret _ _ _ hg dX0_canBeginStatement_69 rfl
  have hg := if_f hg z2
  by_cases z3 : a0 = (97 : Int32)
  · have hg := if_t hg z3
    refine lv_lookup (off := 67) (tgt := 68) hx hb dX0_canBeginStatement_1 (by decide) (by rw [z3]; decide) (by decide) ?_
    refine lv_iconst (v := 1) hx hb dX0_canBeginStatement_68 (by decide) ?_
    exact hret _ _ _ hg dX0_canBeginStatement_69 rfl
  have hg := if_f hg z3
  by_cases z4 : a0 = (98 : Int32)
  · have hg := if_t hg z4
    refine lv_lookup (off := 67) (tgt := 68) hx hb dX0_canBeginStatement_1 (by decide) (by rw [z4]; decide) (by decide) ?_
    refine lv_iconst (v := 1) hx hb dX0_canBeginStatement_68 (by decide) ?_
    exact hret _ _ _ hg dX0_canBeginStatement_69 rfl
  have hg := if_f hg z4
  by_cases z5 : a0 = (99 : Int32)
  · have hg := if_t hg z5
    refine lv_lookup (off := 67) (tgt := 68) hx hb dX0_canBeginStatement_1 (by decide) (by rw [z5]; decide) (by decide) ?_
    refine lv_iconst (v := 1) hx hb dX0_canBeginStatement_68 (by decide) ?_
    exact hret _ _ _ hg dX0_canBeginStatement_69 rfl
  have hg := if_f hg z5
  by_cases z6 : a0 = (100 : Int32)
  · have hg := if_t hg z6
    refine lv_lookup (off := 67) (tgt := 68) hx hb dX0_canBeginStatement_1 (by decide) (by rw [z6]; decide) (by decide) ?_
    refine lv_iconst (v := 1) hx hb dX0_canBeginStatement_68 (by decide) ?_
    exact hret _ _ _ hg dX0_canBeginStatement_69 rfl
  have hg := if_f hg z6
  by_cases z7 : a0 = (123 : Int32)
  · have hg := if_t hg z7
    refine lv_lookup (off := 67) (tgt := 68) hx hb dX0_canBeginStatement_1 (by decide) (by rw [z7]; decide) (by decide) ?_
    refine lv_iconst (v := 1) hx hb dX0_canBeginStatement_68 (by decide) ?_
    exact hret _ _ _ hg dX0_canBeginStatement_69 rfl
  have hg := if_f hg z7
  refine lv_lookup (off := 69) (tgt := 70) hx hb dX0_canBeginStatement_1 (by decide) ((((((((lv_osw z1 (by decide)).trans (lv_osw z2 (by decide))).trans (lv_osw z3 (by decide))).trans (lv_osw z4 (by decide))).trans (lv_osw z5 (by decide))).trans (lv_osw z6 (by decide))).trans (lv_osw z7 (by decide))).trans rfl) (by decide) ?_
  refine lv_iconst (v := 0) hx hb dX0_canBeginStatement_70 (by decide) ?_
  exact hret _ _ _ hg dX0_canBeginStatement_71 rfl
theorem zX0_canBeginStatement (a0 : Int32) : narrow .boolean (.int (gX0_canBeginStatement a0)) = .int (gX0_canBeginStatement a0) := by
  unfold gX0_canBeginStatement
  repeat' (first | apply zif | rfl)
theorem ctX0_canBeginStatement (l : Launch) (a0 : Int32) : Met l yX0_canBeginStatement wsX0_canBeginStatement ({ frames := 0, cells := 0, slots := 0, locals := 0 }) (va_Pc [.int a0] (fun _ => True)) (vp_Si (fun r' => r' = gX0_canBeginStatement a0)) 0 0 (fun _ => False) :=
  met_p rfl rfl (Nat.le_of_ble_eq_true rfl) (fun p e s m args below meth c ls CX hr hlk hl => bX0_canBeginStatement a0 rfl CX ⟨Nat.le_refl _, Nat.le_refl _⟩ hl (fun pc ls v hv dg hz => W.zret (ty := .boolean) CX.1 CX.2.1 hr hz (fun t ht hW => ⟨_, rfl, hv, ht⟩) (fun _ h => by cases h) dg))

abbrev wsX4_codeOfWhen : List Cond := Cond.code yX4_codeOfWhen cX4_codeOfWhen 2 (some .int) :: WG
def gX4_codeOfWhen (a0 : Int32) (a1 : Int32) : Int32 := if a1 = 0 then ((((2 : Int32) * a0) + (0 : Int32))) else (((2 : Int32) * a0) + (1 : Int32))
set_option maxHeartbeats 4000000 in
set_option maxRecDepth 100000 in
theorem bX4_codeOfWhen {p : Program} {l : Launch} {e : Env} {R : Room} {s : State} {m : MethodId} {args : Array Value} {below : List Frame} {meth : Method} {c : Code} {H : Heap} {locs : List Loc} {Q : State → Prop} (a0 : Int32) (a1 : Int32) {res : Int32} (hg : gX4_codeOfWhen a0 a1 = res) (CX : CallFix p m c cX4_codeOfWhen 2 s args wsX4_codeOfWhen RX4) (hR : 0 ≤ R.frames ∧ 0 ≤ R.locals) {ls : Array Slot} (hl : lv_has ls 2 [(0, .int a0), (1, .int a1)]) (hret : ∀ (pc : Nat) (ls : Array Slot) (v : Int32), v = res → decode cX4_codeOfWhen pc = .ok (.ireturn, 1) → W p l e R s m args below meth c H locs 0 0 Q (F0 m pc ls [.int v])) : W p l e R s m args below meth c H locs 0 0 Q (F0 m 0 ls []) := by
  obtain ⟨hx, hb, hml, hown, hts⟩ := id CX
  have hw : ∀ w ∈ WG, w.before args s = true := fun w h => hts w (List.mem_cons_of_mem _ h)
  unfold gX4_codeOfWhen at hg
  refine lv_iconst (v := 2) hx hb dX4_codeOfWhen_0 (by decide) ?_
  refine lv_iload_n hx hb dX4_codeOfWhen_1 rfl (lv_at hl 0 rfl) ?_
  refine lv_imul hx hb dX4_codeOfWhen_2 ?_
  refine lv_iload_n hx hb dX4_codeOfWhen_3 rfl (lv_at hl 1 rfl) ?_
  refine lv_if_eq (tgt := 11) hx hb dX4_codeOfWhen_4 (by decide) (fun c1 => ?_) (fun c1 => ?_)
  · have hg := if_t hg c1
    refine lv_iconst (v := 0) hx hb dX4_codeOfWhen_11 (by decide) ?_
    refine lv_iadd hx hb dX4_codeOfWhen_12 ?_
    exact hret _ _ _ hg dX4_codeOfWhen_13
  · have hg := if_f hg c1
    refine lv_iconst (v := 1) hx hb dX4_codeOfWhen_7 (by decide) ?_
    refine lv_goto (tgt := 12) hx hb dX4_codeOfWhen_8 (by decide) ?_
    refine lv_iadd hx hb dX4_codeOfWhen_12 ?_
    exact hret _ _ _ hg dX4_codeOfWhen_13
theorem ctX4_codeOfWhen (l : Launch) (a0 : Int32) (a1 : Int32) : Met l yX4_codeOfWhen wsX4_codeOfWhen ({ frames := 0, cells := 0, slots := 0, locals := 0 }) (va_Pc [.int a0, .int a1] (fun _ => True)) (vp_Si (fun r' => r' = gX4_codeOfWhen a0 a1)) 0 0 (fun _ => False) :=
  met_p rfl rfl (Nat.le_of_ble_eq_true rfl) (fun p e s m args below meth c ls CX hr hlk hl => bX4_codeOfWhen a0 a1 rfl CX ⟨Nat.le_refl _, Nat.le_refl _⟩ hl (fun pc ls v hv dg => W.iret CX.1 CX.2.1 hr (fun t ht hW => ⟨_, rfl, hv, ht⟩) (fun _ h => by cases h) dg))

abbrev wsX4_codeOfSet : List Cond := Cond.code yX4_codeOfSet cX4_codeOfSet 2 (some .int) :: WG
def gX4_codeOfSet (a0 : Int32) (a1 : Int32) : Int32 := ((8 : Int32) + (gX4_codeOfWhen a0 a1))
set_option maxHeartbeats 4000000 in
set_option maxRecDepth 100000 in
theorem bX4_codeOfSet {p : Program} {l : Launch} {e : Env} {R : Room} {s : State} {m : MethodId} {args : Array Value} {below : List Frame} {meth : Method} {c : Code} {H : Heap} {locs : List Loc} {Q : State → Prop} (a0 : Int32) (a1 : Int32) {res : Int32} (hg : gX4_codeOfSet a0 a1 = res) (CX : CallFix p m c cX4_codeOfSet 2 s args wsX4_codeOfSet RX4) (hR : 1 ≤ R.frames ∧ 21 ≤ R.locals) {ls : Array Slot} (hl : lv_has ls 2 [(0, .int a0), (1, .int a1)]) (hret : ∀ (pc : Nat) (ls : Array Slot) (v : Int32), v = res → decode cX4_codeOfSet pc = .ok (.ireturn, 1) → W p l e R s m args below meth c H locs 0 0 Q (F0 m pc ls [.int v])) : W p l e R s m args below meth c H locs 0 0 Q (F0 m 0 ls []) := by
  obtain ⟨hx, hb, hml, hown, hts⟩ := id CX
  have hw : ∀ w ∈ WG, w.before args s = true := fun w h => hts w (List.mem_cons_of_mem _ h)
  unfold gX4_codeOfSet at hg
  refine lv_bipush (v := 8) hx hb dX4_codeOfSet_0 (by decide) ?_
  refine lv_iload_n hx hb dX4_codeOfSet_2 rfl (lv_at hl 0 rfl) ?_
  refine lv_iload_n hx hb dX4_codeOfSet_3 rfl (lv_at hl 1 rfl) ?_
  refine r_calli (W.runS (As := [.int a0, .int a1]) (rest := [.int (8 : Int32)]) CX (ctX4_codeOfWhen l a0 a1) (va_cwS 2 hts (gwS m4_3 m3_216 m1_2 m3_217) rfl rfl rfl (by decide +kernel) ⟨Nat.le_trans (Nat.le_of_ble_eq_true rfl) hR.1, Nat.le_trans (Nat.le_of_ble_eq_true rfl) hR.2⟩) (pPreS _) rfl rfl hl.1 rfl (lv_room (Nat.le_of_ble_eq_true rfl)) dX4_codeOfSet_4 ⟨Nat.zero_le _, Nat.zero_le _⟩) ?_
  refine lv_iadd hx hb dX4_codeOfSet_7 ?_
  exact hret _ _ _ hg dX4_codeOfSet_8
theorem ctX4_codeOfSet (l : Launch) (a0 : Int32) (a1 : Int32) : Met l yX4_codeOfSet wsX4_codeOfSet ({ frames := 1, cells := 0, slots := 0, locals := 21 }) (va_Pc [.int a0, .int a1] (fun _ => True)) (vp_Si (fun r' => r' = gX4_codeOfSet a0 a1)) 0 0 (fun _ => False) :=
  met_p rfl rfl (Nat.le_of_ble_eq_true rfl) (fun p e s m args below meth c ls CX hr hlk hl => bX4_codeOfSet a0 a1 rfl CX ⟨Nat.le_refl _, Nat.le_refl _⟩ hl (fun pc ls v hv dg => W.iret CX.1 CX.2.1 hr (fun t ht hW => ⟨_, rfl, hv, ht⟩) (fun _ h => by cases h) dg))

abbrev wsX4_isWhen : List Cond := Cond.code yX4_isWhen cX4_isWhen 1 (some .boolean) :: WG
def gX4_isWhen (a0 : Int32) : Int32 := if a0 < 0 then ((0 : Int32)) else if (8 : Int32) ≤ a0 then ((0 : Int32)) else (1 : Int32)
set_option maxHeartbeats 4000000 in
set_option maxRecDepth 100000 in
theorem bX4_isWhen {p : Program} {l : Launch} {e : Env} {R : Room} {s : State} {m : MethodId} {args : Array Value} {below : List Frame} {meth : Method} {c : Code} {H : Heap} {locs : List Loc} {Q : State → Prop} (a0 : Int32) {res : Int32} (hg : gX4_isWhen a0 = res) (CX : CallFix p m c cX4_isWhen 1 s args wsX4_isWhen RX4) (hR : 0 ≤ R.frames ∧ 0 ≤ R.locals) {ls : Array Slot} (hl : lv_has ls 1 [(0, .int a0)]) (hret : ∀ (pc : Nat) (ls : Array Slot) (v : Int32), v = res → decode cX4_isWhen pc = .ok (.ireturn, 1) → narrow .boolean (.int v) = .int v → W p l e R s m args below meth c H locs 0 0 Q (F0 m pc ls [.int v])) : W p l e R s m args below meth c H locs 0 0 Q (F0 m 0 ls []) := by
  obtain ⟨hx, hb, hml, hown, hts⟩ := id CX
  have hw : ∀ w ∈ WG, w.before args s = true := fun w h => hts w (List.mem_cons_of_mem _ h)
  unfold gX4_isWhen at hg
  refine lv_iload_n hx hb dX4_isWhen_0 rfl (lv_at hl 0 rfl) ?_
  refine lv_if_lt (tgt := 14) hx hb dX4_isWhen_1 (by decide) (fun c1 => ?_) (fun c1 => ?_)
  · have hg := if_t hg c1
    refine lv_iconst (v := 0) hx hb dX4_isWhen_14 (by decide) ?_
    exact hret _ _ _ hg dX4_isWhen_15 rfl
  · have hg := if_f hg c1
    refine lv_iload_n hx hb dX4_isWhen_4 rfl (lv_at hl 0 rfl) ?_
    refine lv_bipush (v := 8) hx hb dX4_isWhen_5 (by decide) ?_
    refine lv_icmp_ge (tgt := 14) hx hb dX4_isWhen_7 (by decide) (fun c2 => ?_) (fun c2 => ?_)
    · have hg := if_t hg c2
      refine lv_iconst (v := 0) hx hb dX4_isWhen_14 (by decide) ?_
      exact hret _ _ _ hg dX4_isWhen_15 rfl
    · have hg := if_f hg c2
      refine lv_iconst (v := 1) hx hb dX4_isWhen_10 (by decide) ?_
      refine lv_goto (tgt := 15) hx hb dX4_isWhen_11 (by decide) ?_
      exact hret _ _ _ hg dX4_isWhen_15 rfl
theorem zX4_isWhen (a0 : Int32) : narrow .boolean (.int (gX4_isWhen a0)) = .int (gX4_isWhen a0) := by
  unfold gX4_isWhen
  repeat' (first | apply zif | rfl)
theorem ctX4_isWhen (l : Launch) (a0 : Int32) : Met l yX4_isWhen wsX4_isWhen ({ frames := 0, cells := 0, slots := 0, locals := 0 }) (va_Pc [.int a0] (fun _ => True)) (vp_Si (fun r' => r' = gX4_isWhen a0)) 0 0 (fun _ => False) :=
  met_p rfl rfl (Nat.le_of_ble_eq_true rfl) (fun p e s m args below meth c ls CX hr hlk hl => bX4_isWhen a0 rfl CX ⟨Nat.le_refl _, Nat.le_refl _⟩ hl (fun pc ls v hv dg hz => W.zret (ty := .boolean) CX.1 CX.2.1 hr hz (fun t ht hW => ⟨_, rfl, hv, ht⟩) (fun _ h => by cases h) dg))

abbrev wsX4_isSet : List Cond := Cond.code yX4_isSet cX4_isSet 1 (some .boolean) :: WG
def gX4_isSet (a0 : Int32) : Int32 := if a0 < (8 : Int32) then ((0 : Int32)) else if (16 : Int32) ≤ a0 then ((0 : Int32)) else (1 : Int32)
set_option maxHeartbeats 4000000 in
set_option maxRecDepth 100000 in
theorem bX4_isSet {p : Program} {l : Launch} {e : Env} {R : Room} {s : State} {m : MethodId} {args : Array Value} {below : List Frame} {meth : Method} {c : Code} {H : Heap} {locs : List Loc} {Q : State → Prop} (a0 : Int32) {res : Int32} (hg : gX4_isSet a0 = res) (CX : CallFix p m c cX4_isSet 1 s args wsX4_isSet RX4) (hR : 0 ≤ R.frames ∧ 0 ≤ R.locals) {ls : Array Slot} (hl : lv_has ls 1 [(0, .int a0)]) (hret : ∀ (pc : Nat) (ls : Array Slot) (v : Int32), v = res → decode cX4_isSet pc = .ok (.ireturn, 1) → narrow .boolean (.int v) = .int v → W p l e R s m args below meth c H locs 0 0 Q (F0 m pc ls [.int v])) : W p l e R s m args below meth c H locs 0 0 Q (F0 m 0 ls []) := by
  obtain ⟨hx, hb, hml, hown, hts⟩ := id CX
  have hw : ∀ w ∈ WG, w.before args s = true := fun w h => hts w (List.mem_cons_of_mem _ h)
  unfold gX4_isSet at hg
  refine lv_iload_n hx hb dX4_isSet_0 rfl (lv_at hl 0 rfl) ?_
  refine lv_bipush (v := 8) hx hb dX4_isSet_1 (by decide) ?_
  refine lv_icmp_lt (tgt := 16) hx hb dX4_isSet_3 (by decide) (fun c1 => ?_) (fun c1 => ?_)
  · have hg := if_t hg c1
    refine lv_iconst (v := 0) hx hb dX4_isSet_16 (by decide) ?_
    exact hret _ _ _ hg dX4_isSet_17 rfl
  · have hg := if_f hg c1
    refine lv_iload_n hx hb dX4_isSet_6 rfl (lv_at hl 0 rfl) ?_
    refine lv_bipush (v := 16) hx hb dX4_isSet_7 (by decide) ?_
    refine lv_icmp_ge (tgt := 16) hx hb dX4_isSet_9 (by decide) (fun c2 => ?_) (fun c2 => ?_)
    · have hg := if_t hg c2
      refine lv_iconst (v := 0) hx hb dX4_isSet_16 (by decide) ?_
      exact hret _ _ _ hg dX4_isSet_17 rfl
    · have hg := if_f hg c2
      refine lv_iconst (v := 1) hx hb dX4_isSet_12 (by decide) ?_
      refine lv_goto (tgt := 17) hx hb dX4_isSet_13 (by decide) ?_
      exact hret _ _ _ hg dX4_isSet_17 rfl
theorem zX4_isSet (a0 : Int32) : narrow .boolean (.int (gX4_isSet a0)) = .int (gX4_isSet a0) := by
  unfold gX4_isSet
  repeat' (first | apply zif | rfl)
theorem ctX4_isSet (l : Launch) (a0 : Int32) : Met l yX4_isSet wsX4_isSet ({ frames := 0, cells := 0, slots := 0, locals := 0 }) (va_Pc [.int a0] (fun _ => True)) (vp_Si (fun r' => r' = gX4_isSet a0)) 0 0 (fun _ => False) :=
  met_p rfl rfl (Nat.le_of_ble_eq_true rfl) (fun p e s m args below meth c ls CX hr hlk hl => bX4_isSet a0 rfl CX ⟨Nat.le_refl _, Nat.le_refl _⟩ hl (fun pc ls v hv dg hz => W.zret (ty := .boolean) CX.1 CX.2.1 hr hz (fun t ht hW => ⟨_, rfl, hv, ht⟩) (fun _ h => by cases h) dg))

abbrev wsX4_featureOf : List Cond := Cond.code yX4_featureOf cX4_featureOf 1 (some .int) :: WG
def gX4_featureOf (a0 : Int32) : Int32 := ((a0 - a0 / (8 : Int32) * (8 : Int32)) / (2 : Int32))
set_option maxHeartbeats 4000000 in
set_option maxRecDepth 100000 in
theorem bX4_featureOf {p : Program} {l : Launch} {e : Env} {R : Room} {s : State} {m : MethodId} {args : Array Value} {below : List Frame} {meth : Method} {c : Code} {H : Heap} {locs : List Loc} {Q : State → Prop} (a0 : Int32) {res : Int32} (hg : gX4_featureOf a0 = res) (CX : CallFix p m c cX4_featureOf 1 s args wsX4_featureOf RX4) (hR : 0 ≤ R.frames ∧ 0 ≤ R.locals) {ls : Array Slot} (hl : lv_has ls 1 [(0, .int a0)]) (hret : ∀ (pc : Nat) (ls : Array Slot) (v : Int32), v = res → decode cX4_featureOf pc = .ok (.ireturn, 1) → W p l e R s m args below meth c H locs 0 0 Q (F0 m pc ls [.int v])) : W p l e R s m args below meth c H locs 0 0 Q (F0 m 0 ls []) := by
  obtain ⟨hx, hb, hml, hown, hts⟩ := id CX
  have hw : ∀ w ∈ WG, w.before args s = true := fun w h => hts w (List.mem_cons_of_mem _ h)
  unfold gX4_featureOf at hg
  refine lv_iload_n hx hb dX4_featureOf_0 rfl (lv_at hl 0 rfl) ?_
  refine lv_bipush (v := 8) hx hb dX4_featureOf_1 (by decide) ?_
  refine lv_irem hx hb dX4_featureOf_3 (by decide) ?_
  refine lv_iconst (v := 2) hx hb dX4_featureOf_4 (by decide) ?_
  refine lv_idiv hx hb dX4_featureOf_5 (by decide) ?_
  exact hret _ _ _ hg dX4_featureOf_6
theorem ctX4_featureOf (l : Launch) (a0 : Int32) : Met l yX4_featureOf wsX4_featureOf ({ frames := 0, cells := 0, slots := 0, locals := 0 }) (va_Pc [.int a0] (fun _ => True)) (vp_Si (fun r' => r' = gX4_featureOf a0)) 0 0 (fun _ => False) :=
  met_p rfl rfl (Nat.le_of_ble_eq_true rfl) (fun p e s m args below meth c ls CX hr hlk hl => bX4_featureOf a0 rfl CX ⟨Nat.le_refl _, Nat.le_refl _⟩ hl (fun pc ls v hv dg => W.iret CX.1 CX.2.1 hr (fun t ht hW => ⟨_, rfl, hv, ht⟩) (fun _ h => by cases h) dg))

abbrev wsX4_isForOn : List Cond := Cond.code yX4_isForOn cX4_isForOn 1 (some .boolean) :: WG
def gX4_isForOn (a0 : Int32) : Int32 := if (a0 - a0 / (2 : Int32) * (2 : Int32)) = (1 : Int32) then ((1 : Int32)) else (0 : Int32)
set_option maxHeartbeats 4000000 in
set_option maxRecDepth 100000 in
theorem bX4_isForOn {p : Program} {l : Launch} {e : Env} {R : Room} {s : State} {m : MethodId} {args : Array Value} {below : List Frame} {meth : Method} {c : Code} {H : Heap} {locs : List Loc} {Q : State → Prop} (a0 : Int32) {res : Int32} (hg : gX4_isForOn a0 = res) (CX : CallFix p m c cX4_isForOn 1 s args wsX4_isForOn RX4) (hR : 0 ≤ R.frames ∧ 0 ≤ R.locals) {ls : Array Slot} (hl : lv_has ls 1 [(0, .int a0)]) (hret : ∀ (pc : Nat) (ls : Array Slot) (v : Int32), v = res → decode cX4_isForOn pc = .ok (.ireturn, 1) → narrow .boolean (.int v) = .int v → W p l e R s m args below meth c H locs 0 0 Q (F0 m pc ls [.int v])) : W p l e R s m args below meth c H locs 0 0 Q (F0 m 0 ls []) := by
  obtain ⟨hx, hb, hml, hown, hts⟩ := id CX
  have hw : ∀ w ∈ WG, w.before args s = true := fun w h => hts w (List.mem_cons_of_mem _ h)
  unfold gX4_isForOn at hg
  refine lv_iload_n hx hb dX4_isForOn_0 rfl (lv_at hl 0 rfl) ?_
  refine lv_iconst (v := 2) hx hb dX4_isForOn_1 (by decide) ?_
  refine lv_irem hx hb dX4_isForOn_2 (by decide) ?_
  refine lv_iconst (v := 1) hx hb dX4_isForOn_3 (by decide) ?_
  refine lv_icmp_ne (tgt := 11) hx hb dX4_isForOn_4 (by decide) (fun c1 => ?_) (fun c1 => ?_)
  · have hg := if_f hg c1
    refine lv_iconst (v := 0) hx hb dX4_isForOn_11 (by decide) ?_
    exact hret _ _ _ hg dX4_isForOn_12 rfl
  · have hg := if_t hg c1
    refine lv_iconst (v := 1) hx hb dX4_isForOn_7 (by decide) ?_
    refine lv_goto (tgt := 12) hx hb dX4_isForOn_8 (by decide) ?_
    exact hret _ _ _ hg dX4_isForOn_12 rfl
theorem zX4_isForOn (a0 : Int32) : narrow .boolean (.int (gX4_isForOn a0)) = .int (gX4_isForOn a0) := by
  unfold gX4_isForOn
  repeat' (first | apply zif | rfl)
theorem ctX4_isForOn (l : Launch) (a0 : Int32) : Met l yX4_isForOn wsX4_isForOn ({ frames := 0, cells := 0, slots := 0, locals := 0 }) (va_Pc [.int a0] (fun _ => True)) (vp_Si (fun r' => r' = gX4_isForOn a0)) 0 0 (fun _ => False) :=
  met_p rfl rfl (Nat.le_of_ble_eq_true rfl) (fun p e s m args below meth c ls CX hr hlk hl => bX4_isForOn a0 rfl CX ⟨Nat.le_refl _, Nat.le_refl _⟩ hl (fun pc ls v hv dg hz => W.zret (ty := .boolean) CX.1 CX.2.1 hr hz (fun t ht hW => ⟨_, rfl, hv, ht⟩) (fun _ h => by cases h) dg))

abbrev wsX4_add : List Cond := Cond.code yX4_add cX4_add 2 none :: WG
def gX4_add (M : Mm) (a1 : Int32) : Option Mm := if (80 : Int32) ≤ (M 1 1) then (some M) else if ((M 1 1) < 0 ∨ 80 ≤ ((M 1 1)).toNatClampNeg) then none else lt (um M 2 ((M 1 1)).toNatClampNeg a1) fun M3 => lt (um M3 1 1 ((M3 1 1) + (1 : Int32))) fun M4 => some M4
set_option maxHeartbeats 4000000 in
set_option maxRecDepth 100000 in
theorem bX4_add {p : Program} {l : Launch} {e : Env} {R : Room} {s : State} {m : MethodId} {args : Array Value} {below : List Frame} {meth : Method} {c : Code} {H : Heap} {locs : List Loc} {Q : State → Prop} {D : va_G} {sw : Sw} {cs : Cs} {ad : Nat → Nat} {X : va_W} {A : Nat → Prop} (M : Mm) (a1 : Int32) {res : Option Mm} (hg : gX4_add M a1 = res) (hne : res ≠ none) (CX : CallFix p m c cX4_add 2 s args wsX4_add RX4) (hR : 0 ≤ R.frames ∧ 0 ≤ R.locals) (hK : va_K D vwCl (tysC cs) s) (hSW : SW sw A s s.heap) (hP : va_P D vwCl (wl cs LC NC ad M ++ X) H) (hD : va_D A (wl cs LC NC ad M ++ X)) (hS : va_S A s.heap H locs) (hA : ∀ q, s.heap.size ≤ q → A q) {ls : Array Slot} (hl : lv_has ls 2 [(0, .ref (ad 1)), (1, .int a1)]) (hret : ∀ (pc : Nat) (ls : Array Slot) (H : Heap) (locs : List Loc) (M9 : Mm), some M9 = res → decode cX4_add pc = .ok (.return_, 1) → va_P D vwCl (wl cs LC NC ad M9 ++ X) H → va_D A (wl cs LC NC ad M9 ++ X) → va_S A s.heap H locs → W p l e R s m args below meth c H locs 0 0 Q (F0 m pc ls [])) : W p l e R s m args below meth c H locs 0 0 Q (F0 m 0 ls []) := by
  obtain ⟨hx, hb, hml, hown, hts⟩ := id CX
  have hw : ∀ w ∈ WG, w.before args s = true := fun w h => hts w (List.mem_cons_of_mem _ h)
  have lk_19 := hw _ m1_41
  have lk_9 := hw _ m1_36
  unfold gX4_add at hg
  refine lv_aload_n hx hb dX4_add_0 rfl (lv_at hl 0 rfl) ?_
  refine m_gi (C := RX4) (T := TX4) (n := 2) (ci := 2) hx hb hts in_RX4 hown hK hP (by decide) rfl rfl 1 (by decide) rfl lk_19 (fun _ h9 => h9) dX4_add_1 ?_
  refine lv_bipush (v := 80) hx hb dX4_add_4 (by decide) ?_
  refine lv_icmp_ge (tgt := 29) hx hb dX4_add_6 (by decide) (fun c1 => ?_) (fun c1 => ?_)
  · have hg := if_t hg c1
    exact hret _ _ _ _ _ hg dX4_add_29 hP hD hS
  · have hg := if_f hg c1
    refine lv_aload_n hx hb dX4_add_9 rfl (lv_at hl 0 rfl) ?_
    refine m_gr (C := RX4) (T := TX4) (n := 2) (ci := 2) hx hb hts in_RX4 hown hK hP (by decide) rfl rfl 0 (by decide) rfl lk_9 (fun _ h9 => h9) dX4_add_10 ?_
    refine lv_aload_n hx hb dX4_add_13 rfl (lv_at hl 0 rfl) ?_
    refine m_gi (C := RX4) (T := TX4) (n := 2) (ci := 2) hx hb hts in_RX4 hown hK hP (by decide) rfl rfl 1 (by decide) rfl lk_19 (fun _ h9 => h9) dX4_add_14 ?_
    refine lv_iload_n hx hb dX4_add_17 rfl (lv_at hl 1 rfl) ?_
    obtain ⟨b2, hg⟩ := ck_e hg hne
    obtain ⟨M3, hM3, hg⟩ := lt_e hg
    refine m_st hx hb hK hP hD hS (by decide) rfl b2 dX4_add_18 hM3 (fun H locs hP hD hS => ?_)
    refine lv_aload_n hx hb dX4_add_19 rfl (lv_at hl 0 rfl) ?_
    refine lv_dup hx hb dX4_add_20 rfl ?_
    refine m_gi (C := RX4) (T := TX4) (n := 2) (ci := 2) hx hb hts in_RX4 hown hK hP (by decide) rfl rfl 1 (by decide) rfl lk_19 (fun _ h9 => h9) dX4_add_21 ?_
    refine lv_iconst (v := 1) hx hb dX4_add_24 (by decide) ?_
    refine lv_iadd hx hb dX4_add_25 ?_
    obtain ⟨M4, hM4, hg⟩ := lt_e hg
    refine m_pi (C := RX4) (T := TX4) (n := 2) (ci := 2) hx hb hts in_RX4 tyX4 tyX4_ok nmX4 hown hK hP hD hS (by decide) rfl rfl 1 (by decide) rfl lk_19 (fun _ h9 => h9) rfl rfl rfl dX4_add_26 hM4 (fun H locs hP hD hS => ?_)
    exact hret _ _ _ _ _ hg dX4_add_29 hP hD hS
theorem ctX4_add (l : Launch) (D : va_G) (sw : Sw) (cs : Cs) (ad : Nat → Nat) (X : va_W) (sz : Nat) (M : Mm) (a1 : Int32) {M1 : Mm} (hq : gX4_add M a1 = some M1) : Met l yX4_add wsX4_add ({ frames := 0, cells := 0, slots := 0, locals := 0 }) (va_Pc [.ref (ad 1), .int a1] (wPre D sw cs LC NC ad M X sz)) (wQv D cs LC NC ad M1 X sz) 0 0 (wA NC ad X sz) :=
  met_w rfl rfl (Nat.le_of_ble_eq_true rfl) (fun p e s m args below meth c ls CX hr hlk hK hSW hP hD hS hA hl => bX4_add M a1 hq (by simp) CX ⟨Nat.le_refl _, Nat.le_refl _⟩ hK hSW hP hD hS hA hl (fun pc ls H locs M9 hv dg hP hD hS => W.vret CX.1 CX.2.1 hr (fun t ht hW => ⟨⟨(), rfl, trivial, wpost hP ht (Option.some.inj hv)⟩, hS.F ht⟩) hS.2.2 dg))

abbrev wsX4_countUnfinished : List Cond := Cond.code yX4_countUnfinished cX4_countUnfinished 3 (some .int) :: WG
def gX4_countUnfinished_L4 (M : Mm) : Nat → Int32 → Int32 → Option Int32
  | 0, _, _ => none
  | n3 + 1, x1, x2 => if (M 1 1) ≤ x2 then (some x1) else if (x2 < 0 ∨ 80 ≤ (x2).toNatClampNeg) then none else if (gX4_isWhen (M 2 (x2).toNatClampNeg)) = 0 then (if (x2 < 0 ∨ 80 ≤ (x2).toNatClampNeg) then none else if (M 2 (x2).toNatClampNeg) = (17 : Int32) then (lt (x1 + (-1 : Int32)) fun x10 => lt (x2 + (1 : Int32)) fun x11 => gX4_countUnfinished_L4 M n3 x10 x11) else lt (x2 + (1 : Int32)) fun x9 => gX4_countUnfinished_L4 M n3 x1 x9) else lt (x1 + (1 : Int32)) fun x12 => lt (x2 + (1 : Int32)) fun x13 => gX4_countUnfinished_L4 M n3 x12 x13
def gX4_countUnfinished (M : Mm) : Option Int32 := gX4_countUnfinished_L4 M FU (0 : Int32) (0 : Int32)
set_option maxHeartbeats 4000000 in
set_option maxRecDepth 100000 in
theorem bX4_countUnfinished {p : Program} {l : Launch} {e : Env} {R : Room} {s : State} {m : MethodId} {args : Array Value} {below : List Frame} {meth : Method} {c : Code} {H : Heap} {locs : List Loc} {Q : State → Prop} {D : va_G} {sw : Sw} {cs : Cs} {ad : Nat → Nat} {X : va_W} (M : Mm) {res : Option Int32} (hg : gX4_countUnfinished M = res) (hne : res ≠ none) (CX : CallFix p m c cX4_countUnfinished 3 s args wsX4_countUnfinished RX4) (hR : 1 ≤ R.frames ∧ 20 ≤ R.locals) (hK : va_K D vwCl (tysC cs) s) (hSW : SW sw (fun _ => False) s H) (hP : va_P D vwCl (wl cs LC NC ad M ++ X) H) {ls : Array Slot} (hl : lv_has ls 3 [(0, .ref (ad 1))]) (hret : ∀ (pc : Nat) (ls : Array Slot) (v : Int32), some v = res → decode cX4_countUnfinished pc = .ok (.ireturn, 1) → W p l e R s m args below meth c H locs 0 0 Q (F0 m pc ls [.int v])) : W p l e R s m args below meth c H locs 0 0 Q (F0 m 0 ls []) := by
  obtain ⟨hx, hb, hml, hown, hts⟩ := id CX
  have hw : ∀ w ∈ WG, w.before args s = true := fun w h => hts w (List.mem_cons_of_mem _ h)
  have lk_19 := hw _ m1_41
  have lk_9 := hw _ m1_36
  unfold gX4_countUnfinished at hg
  refine lv_iconst (v := 0) hx hb dX4_countUnfinished_0 (by decide) ?_
  refine lv_istore_n (lv' := [(1, .int (0 : Int32)), (0, .ref (ad 1))]) hx hb dX4_countUnfinished_1 rfl hl (by decide) rfl (fun ls hl => ?_)
  refine lv_iconst (v := 0) hx hb dX4_countUnfinished_2 (by decide) ?_
  refine lv_istore_n (lv' := [(2, .int (0 : Int32)), (1, .int (0 : Int32)), (0, .ref (ad 1))]) hx hb dX4_countUnfinished_3 rfl hl (by decide) rfl (fun ls hl => ?_)
  have kL4_14 : ∀ (n3 : Nat) (x1 : Int32) (x2 : Int32) (ls : Array Slot), lv_has ls 3 [(0, .ref (ad 1)), (1, .int x1), (2, .int x2)] → gX4_countUnfinished_L4 M n3 x1 x2 = res → W p l e R s m args below meth c H locs 0 0 Q (F0 m 4 ls []) := by
    intro n3
    induction n3 with
    | zero =>
      intro x1 x2 ls hl hg
      rw [gX4_countUnfinished_L4] at hg
      exact absurd hg.symm hne
    | succ n3 ih =>
      intro x1 x2 ls hl hg
      rw [gX4_countUnfinished_L4] at hg
      refine lv_iload_n hx hb dX4_countUnfinished_4 rfl (lv_at hl 2 rfl) ?_
      refine lv_aload_n hx hb dX4_countUnfinished_5 rfl (lv_at hl 0 rfl) ?_
      refine m_gi (C := RX4) (T := TX4) (n := 2) (ci := 2) hx hb hts in_RX4 hown hK hP (by decide) rfl rfl 1 (by decide) rfl lk_19 (fun _ h9 => h9) dX4_countUnfinished_6 ?_
      refine lv_icmp_ge (tgt := 50) hx hb dX4_countUnfinished_9 (by decide) (fun c4 => ?_) (fun c4 => ?_)
      · have hg := if_t hg c4
        refine lv_iload_n hx hb dX4_countUnfinished_50 rfl (lv_at hl 1 rfl) ?_
        exact hret _ _ _ hg dX4_countUnfinished_51
      · have hg := if_f hg c4
        refine lv_aload_n hx hb dX4_countUnfinished_12 rfl (lv_at hl 0 rfl) ?_
        refine m_gr (C := RX4) (T := TX4) (n := 2) (ci := 2) hx hb hts in_RX4 hown hK hP (by decide) rfl rfl 0 (by decide) rfl lk_9 (fun _ h9 => h9) dX4_countUnfinished_13 ?_
        refine lv_iload_n hx hb dX4_countUnfinished_16 rfl (lv_at hl 2 rfl) ?_
        obtain ⟨b5, hg⟩ := ck_e hg hne
        refine m_ld hx hb hK hP (by decide) rfl b5 dX4_countUnfinished_17 ?_
        refine r_calli (W.runS (As := [.int (M 2 (x2).toNatClampNeg)]) (rest := []) CX (ctX4_isWhen l (M 2 (x2).toNatClampNeg)) (va_cwS 1 hts (gwS m2_123 m2_88 m1_2 m2_89) rfl rfl rfl (by decide +kernel) ⟨Nat.le_trans (Nat.le_of_ble_eq_true rfl) hR.1, Nat.le_trans (Nat.le_of_ble_eq_true rfl) hR.2⟩) (pPreS _) rfl rfl hl.1 rfl (lv_room (Nat.le_of_ble_eq_true rfl)) dX4_countUnfinished_18 ⟨Nat.zero_le _, Nat.zero_le _⟩) ?_
        refine lv_if_eq (tgt := 30) hx hb dX4_countUnfinished_21 (by decide) (fun c6 => ?_) (fun c6 => ?_)
        · have hg := if_t hg c6
          refine lv_aload_n hx hb dX4_countUnfinished_30 rfl (lv_at hl 0 rfl) ?_
          refine m_gr (C := RX4) (T := TX4) (n := 2) (ci := 2) hx hb hts in_RX4 hown hK hP (by decide) rfl rfl 0 (by decide) rfl lk_9 (fun _ h9 => h9) dX4_countUnfinished_31 ?_
          refine lv_iload_n hx hb dX4_countUnfinished_34 rfl (lv_at hl 2 rfl) ?_
          obtain ⟨b7, hg⟩ := ck_e hg hne
          refine m_ld hx hb hK hP (by decide) rfl b7 dX4_countUnfinished_35 ?_
          refine lv_bipush (v := 17) hx hb dX4_countUnfinished_36 (by decide) ?_
          refine lv_icmp_ne (tgt := 44) hx hb dX4_countUnfinished_38 (by decide) (fun c8 => ?_) (fun c8 => ?_)
          · have hg := if_f hg c8
            obtain ⟨x9, hx9, hg⟩ := lt_e hg
            refine lv_iinc (v := x9) (lv' := [(2, .int x9), (0, .ref (ad 1)), (1, .int x1)]) hx hb dX4_countUnfinished_44 hl (k := 2) rfl (hx9.symm) (by decide) rfl (fun ls hl => ?_)
            refine lv_goto (tgt := 4) hx hb dX4_countUnfinished_47 (by decide) ?_
            exact ih _ _ _ (lv_sub hl [1, 2, 0] rfl) hg
          · have hg := if_t hg c8
            obtain ⟨x10, hx10, hg⟩ := lt_e hg
            refine lv_iinc (v := x10) (lv' := [(1, .int x10), (0, .ref (ad 1)), (2, .int x2)]) hx hb dX4_countUnfinished_41 hl (k := 1) rfl (hx10.symm) (by decide) rfl (fun ls hl => ?_)
            obtain ⟨x11, hx11, hg⟩ := lt_e hg
            refine lv_iinc (v := x11) (lv' := [(2, .int x11), (1, .int x10), (0, .ref (ad 1))]) hx hb dX4_countUnfinished_44 hl (k := 2) rfl (hx11.symm) (by decide) rfl (fun ls hl => ?_)
            refine lv_goto (tgt := 4) hx hb dX4_countUnfinished_47 (by decide) ?_
            exact ih _ _ _ (lv_sub hl [2, 1, 0] rfl) hg
        · have hg := if_f hg c6
          obtain ⟨x12, hx12, hg⟩ := lt_e hg
          refine lv_iinc (v := x12) (lv' := [(1, .int x12), (0, .ref (ad 1)), (2, .int x2)]) hx hb dX4_countUnfinished_24 hl (k := 1) rfl (hx12.symm) (by decide) rfl (fun ls hl => ?_)
          refine lv_goto (tgt := 44) hx hb dX4_countUnfinished_27 (by decide) ?_
          obtain ⟨x13, hx13, hg⟩ := lt_e hg
          refine lv_iinc (v := x13) (lv' := [(2, .int x13), (1, .int x12), (0, .ref (ad 1))]) hx hb dX4_countUnfinished_44 hl (k := 2) rfl (hx13.symm) (by decide) rfl (fun ls hl => ?_)
          refine lv_goto (tgt := 4) hx hb dX4_countUnfinished_47 (by decide) ?_
          exact ih _ _ _ (lv_sub hl [2, 1, 0] rfl) hg
  exact kL4_14 FU _ _ _ (lv_sub hl [2, 1, 0] rfl) hg
theorem ctX4_countUnfinished (l : Launch) (D : va_G) (sw : Sw) (cs : Cs) (ad : Nat → Nat) (X : va_W) (M : Mm) {r : Int32} (hq : gX4_countUnfinished M = some r) : Met l yX4_countUnfinished wsX4_countUnfinished ({ frames := 1, cells := 0, slots := 0, locals := 20 }) (va_Pc [.ref (ad 1)] (rPre D sw cs LC NC ad M X)) (vp_Si (fun r' => r' = r)) 0 0 (fun _ => False) :=
  met_r rfl rfl (Nat.le_of_ble_eq_true rfl) (fun p e s m args below meth c ls CX hr hlk hK hSW hP hl => bX4_countUnfinished M hq (by simp) CX ⟨Nat.le_refl _, Nat.le_refl _⟩ hK hSW hP hl (fun pc ls v hv dg => W.iret CX.1 CX.2.1 hr (fun t ht hW => ⟨_, rfl, Option.some.inj hv, ht⟩) (fun _ h => by cases h) dg))

abbrev wsX4_lastUnfinishedHasOtherwise : List Cond := Cond.code yX4_lastUnfinishedHasOtherwise cX4_lastUnfinishedHasOtherwise 4 (some .boolean) :: WG
def gX4_lastUnfinishedHasOtherwise_L9 (M : Mm) (E2 : Int32 → Option Int32) : Nat → Int32 → Int32 → Option Int32
  | 0, _, _ => none
  | n6 + 1, x4, x5 => if x5 < 0 then (some (0 : Int32)) else if (x5 < 0 ∨ 80 ≤ (x5).toNatClampNeg) then none else if (M 2 (x5).toNatClampNeg) = (17 : Int32) then (lt (x4 + (1 : Int32)) fun x21 => lt (x5 + (-1 : Int32)) fun x22 => gX4_lastUnfinishedHasOtherwise_L9 M E2 n6 x21 x22) else if x4 = 0 then (if (M 2 (x5).toNatClampNeg) = (16 : Int32) then (E2 (M 2 (x5).toNatClampNeg)) else if (gX4_isWhen (M 2 (x5).toNatClampNeg)) = 0 then (if (gX4_isWhen (M 2 (x5).toNatClampNeg)) = 0 then (lt (x5 + (-1 : Int32)) fun x18 => gX4_lastUnfinishedHasOtherwise_L9 M E2 n6 x4 x18) else lt (x4 + (-1 : Int32)) fun x19 => lt (x5 + (-1 : Int32)) fun x20 => gX4_lastUnfinishedHasOtherwise_L9 M E2 n6 x19 x20) else E2 (M 2 (x5).toNatClampNeg)) else if (gX4_isWhen (M 2 (x5).toNatClampNeg)) = 0 then (lt (x5 + (-1 : Int32)) fun x12 => gX4_lastUnfinishedHasOtherwise_L9 M E2 n6 x4 x12) else lt (x4 + (-1 : Int32)) fun x13 => lt (x5 + (-1 : Int32)) fun x14 => gX4_lastUnfinishedHasOtherwise_L9 M E2 n6 x13 x14
def gX4_lastUnfinishedHasOtherwise (M : Mm) : Option Int32 := lt (fun (x1 : Int32) => if x1 = (16 : Int32) then (some (1 : Int32)) else some (0 : Int32)) fun E2 => gX4_lastUnfinishedHasOtherwise_L9 M E2 FU (0 : Int32) ((M 1 1) - (1 : Int32))
set_option maxHeartbeats 4000000 in
set_option maxRecDepth 100000 in
theorem bX4_lastUnfinishedHasOtherwise {p : Program} {l : Launch} {e : Env} {R : Room} {s : State} {m : MethodId} {args : Array Value} {below : List Frame} {meth : Method} {c : Code} {H : Heap} {locs : List Loc} {Q : State → Prop} {D : va_G} {sw : Sw} {cs : Cs} {ad : Nat → Nat} {X : va_W} (M : Mm) {res : Option Int32} (hg : gX4_lastUnfinishedHasOtherwise M = res) (hne : res ≠ none) (CX : CallFix p m c cX4_lastUnfinishedHasOtherwise 4 s args wsX4_lastUnfinishedHasOtherwise RX4) (hR : 1 ≤ R.frames ∧ 20 ≤ R.locals) (hK : va_K D vwCl (tysC cs) s) (hSW : SW sw (fun _ => False) s H) (hP : va_P D vwCl (wl cs LC NC ad M ++ X) H) {ls : Array Slot} (hl : lv_has ls 4 [(0, .ref (ad 1))]) (hret : ∀ (pc : Nat) (ls : Array Slot) (v : Int32), some v = res → decode cX4_lastUnfinishedHasOtherwise pc = .ok (.ireturn, 1) → narrow .boolean (.int v) = .int v → W p l e R s m args below meth c H locs 0 0 Q (F0 m pc ls [.int v])) : W p l e R s m args below meth c H locs 0 0 Q (F0 m 0 ls []) := by
  obtain ⟨hx, hb, hml, hown, hts⟩ := id CX
  have hw : ∀ w ∈ WG, w.before args s = true := fun w h => hts w (List.mem_cons_of_mem _ h)
  have lk_19 := hw _ m1_41
  have lk_9 := hw _ m1_36
  unfold gX4_lastUnfinishedHasOtherwise at hg
  refine lv_iconst (v := 0) hx hb dX4_lastUnfinishedHasOtherwise_0 (by decide) ?_
  refine lv_istore_n (lv' := [(1, .int (0 : Int32)), (0, .ref (ad 1))]) hx hb dX4_lastUnfinishedHasOtherwise_1 rfl hl (by decide) rfl (fun ls hl => ?_)
  refine lv_aload_n hx hb dX4_lastUnfinishedHasOtherwise_2 rfl (lv_at hl 1 rfl) ?_
  refine m_gi (C := RX4) (T := TX4) (n := 2) (ci := 2) hx hb hts in_RX4 hown hK hP (by decide) rfl rfl 1 (by decide) rfl lk_19 (fun _ h9 => h9) dX4_lastUnfinishedHasOtherwise_3 ?_
  refine lv_iconst (v := 1) hx hb dX4_lastUnfinishedHasOtherwise_6 (by decide) ?_
  refine lv_isub hx hb dX4_lastUnfinishedHasOtherwise_7 ?_
  refine lv_istore_n (lv' := [(2, .int ((M 1 1) - (1 : Int32))), (1, .int (0 : Int32)), (0, .ref (ad 1))]) hx hb dX4_lastUnfinishedHasOtherwise_8 rfl hl (by decide) rfl (fun ls hl => ?_)
  obtain ⟨E2, hE2, hg⟩ := lf1 hg
  have kE2 : ∀ (x1 : Int32) (ls : Array Slot), lv_has ls 4 [(3, .int x1)] → E2 x1 = res → W p l e R s m args below meth c H locs 0 0 Q (F0 m 49 ls []) := by
    intro x1 ls hl hg
    rw [hE2] at hg
    refine lv_iload_n hx hb dX4_lastUnfinishedHasOtherwise_49 rfl (lv_at hl 0 rfl) ?_
    refine lv_bipush (v := 16) hx hb dX4_lastUnfinishedHasOtherwise_50 (by decide) ?_
    refine lv_icmp_ne (tgt := 59) hx hb dX4_lastUnfinishedHasOtherwise_52 (by decide) (fun c3 => ?_) (fun c3 => ?_)
    · have hg := if_f hg c3
      refine lv_iconst (v := 0) hx hb dX4_lastUnfinishedHasOtherwise_59 (by decide) ?_
      exact hret _ _ _ hg dX4_lastUnfinishedHasOtherwise_60 rfl
    · have hg := if_t hg c3
      refine lv_iconst (v := 1) hx hb dX4_lastUnfinishedHasOtherwise_55 (by decide) ?_
      refine lv_goto (tgt := 60) hx hb dX4_lastUnfinishedHasOtherwise_56 (by decide) ?_
      exact hret _ _ _ hg dX4_lastUnfinishedHasOtherwise_60 rfl
  have kL9_23 : ∀ (n6 : Nat) (x4 : Int32) (x5 : Int32) (ls : Array Slot), lv_has ls 4 [(0, .ref (ad 1)), (1, .int x4), (2, .int x5)] → gX4_lastUnfinishedHasOtherwise_L9 M E2 n6 x4 x5 = res → W p l e R s m args below meth c H locs 0 0 Q (F0 m 9 ls []) := by
    intro n6
    induction n6 with
    | zero =>
      intro x4 x5 ls hl hg
      rw [gX4_lastUnfinishedHasOtherwise_L9] at hg
      exact absurd hg.symm hne
    | succ n6 ih =>
      intro x4 x5 ls hl hg
      rw [gX4_lastUnfinishedHasOtherwise_L9] at hg
      refine lv_iload_n hx hb dX4_lastUnfinishedHasOtherwise_9 rfl (lv_at hl 2 rfl) ?_
      refine lv_if_lt (tgt := 77) hx hb dX4_lastUnfinishedHasOtherwise_10 (by decide) (fun c7 => ?_) (fun c7 => ?_)
      · have hg := if_t hg c7
        refine lv_iconst (v := 0) hx hb dX4_lastUnfinishedHasOtherwise_77 (by decide) ?_
        exact hret _ _ _ hg dX4_lastUnfinishedHasOtherwise_78 rfl
      · have hg := if_f hg c7
        refine lv_aload_n hx hb dX4_lastUnfinishedHasOtherwise_13 rfl (lv_at hl 0 rfl) ?_
        refine m_gr (C := RX4) (T := TX4) (n := 2) (ci := 2) hx hb hts in_RX4 hown hK hP (by decide) rfl rfl 0 (by decide) rfl lk_9 (fun _ h9 => h9) dX4_lastUnfinishedHasOtherwise_14 ?_
        refine lv_iload_n hx hb dX4_lastUnfinishedHasOtherwise_17 rfl (lv_at hl 2 rfl) ?_
        obtain ⟨b8, hg⟩ := ck_e hg hne
        refine m_ld hx hb hK hP (by decide) rfl b8 dX4_lastUnfinishedHasOtherwise_18 ?_
        refine lv_istore_n (lv' := [(3, .int (M 2 (x5).toNatClampNeg)), (0, .ref (ad 1)), (1, .int x4), (2, .int x5)]) hx hb dX4_lastUnfinishedHasOtherwise_19 rfl hl (by decide) rfl (fun ls hl => ?_)
        refine lv_iload_n hx hb dX4_lastUnfinishedHasOtherwise_20 rfl (lv_at hl 0 rfl) ?_
        refine lv_bipush (v := 17) hx hb dX4_lastUnfinishedHasOtherwise_21 (by decide) ?_
        refine lv_icmp_ne (tgt := 32) hx hb dX4_lastUnfinishedHasOtherwise_23 (by decide) (fun c9 => ?_) (fun c9 => ?_)
        · have hg := if_f hg c9
          refine lv_iload_n hx hb dX4_lastUnfinishedHasOtherwise_32 rfl (lv_at hl 2 rfl) ?_
          refine lv_if_ne (tgt := 61) hx hb dX4_lastUnfinishedHasOtherwise_33 (by decide) (fun c10 => ?_) (fun c10 => ?_)
          · have hg := if_f hg c10
            refine lv_iload_n hx hb dX4_lastUnfinishedHasOtherwise_61 rfl (lv_at hl 0 rfl) ?_
            refine r_calli (W.runS (As := [.int (M 2 (x5).toNatClampNeg)]) (rest := []) CX (ctX4_isWhen l (M 2 (x5).toNatClampNeg)) (va_cwS 1 hts (gwS m2_123 m2_88 m1_2 m2_89) rfl rfl rfl (by decide +kernel) ⟨Nat.le_trans (Nat.le_of_ble_eq_true rfl) hR.1, Nat.le_trans (Nat.le_of_ble_eq_true rfl) hR.2⟩) (pPreS _) rfl rfl hl.1 rfl (lv_room (Nat.le_of_ble_eq_true rfl)) dX4_lastUnfinishedHasOtherwise_62 ⟨Nat.zero_le _, Nat.zero_le _⟩) ?_
            refine lv_if_eq (tgt := 71) hx hb dX4_lastUnfinishedHasOtherwise_65 (by decide) (fun c11 => ?_) (fun c11 => ?_)
            · have hg := if_t hg c11
              obtain ⟨x12, hx12, hg⟩ := lt_e hg
              refine lv_iinc (v := x12) (lv' := [(2, .int x12), (3, .int (M 2 (x5).toNatClampNeg)), (0, .ref (ad 1)), (1, .int x4)]) hx hb dX4_lastUnfinishedHasOtherwise_71 hl (k := 3) rfl (hx12.symm) (by decide) rfl (fun ls hl => ?_)
              refine lv_goto (tgt := 9) hx hb dX4_lastUnfinishedHasOtherwise_74 (by decide) ?_
              exact ih _ _ _ (lv_sub hl [2, 3, 0] rfl) hg
            · have hg := if_f hg c11
              obtain ⟨x13, hx13, hg⟩ := lt_e hg
              refine lv_iinc (v := x13) (lv' := [(1, .int x13), (3, .int (M 2 (x5).toNatClampNeg)), (0, .ref (ad 1)), (2, .int x5)]) hx hb dX4_lastUnfinishedHasOtherwise_68 hl (k := 2) rfl (hx13.symm) (by decide) rfl (fun ls hl => ?_)
              obtain ⟨x14, hx14, hg⟩ := lt_e hg
              refine lv_iinc (v := x14) (lv' := [(2, .int x14), (1, .int x13), (3, .int (M 2 (x5).toNatClampNeg)), (0, .ref (ad 1))]) hx hb dX4_lastUnfinishedHasOtherwise_71 hl (k := 3) rfl (hx14.symm) (by decide) rfl (fun ls hl => ?_)
              refine lv_goto (tgt := 9) hx hb dX4_lastUnfinishedHasOtherwise_74 (by decide) ?_
              exact ih _ _ _ (lv_sub hl [3, 1, 0] rfl) hg
          · have hg := if_t hg c10
            refine lv_iload_n hx hb dX4_lastUnfinishedHasOtherwise_36 rfl (lv_at hl 0 rfl) ?_
            refine lv_bipush (v := 16) hx hb dX4_lastUnfinishedHasOtherwise_37 (by decide) ?_
            refine lv_icmp_eq (tgt := 49) hx hb dX4_lastUnfinishedHasOtherwise_39 (by decide) (fun c15 => ?_) (fun c15 => ?_)
            · have hg := if_t hg c15
              exact kE2 _ _ (lv_sub hl [0] rfl) hg
            · have hg := if_f hg c15
              refine lv_iload_n hx hb dX4_lastUnfinishedHasOtherwise_42 rfl (lv_at hl 0 rfl) ?_
              refine r_calli (W.runS (As := [.int (M 2 (x5).toNatClampNeg)]) (rest := []) CX (ctX4_isWhen l (M 2 (x5).toNatClampNeg)) (va_cwS 1 hts (gwS m2_123 m2_88 m1_2 m2_89) rfl rfl rfl (by decide +kernel) ⟨Nat.le_trans (Nat.le_of_ble_eq_true rfl) hR.1, Nat.le_trans (Nat.le_of_ble_eq_true rfl) hR.2⟩) (pPreS _) rfl rfl hl.1 rfl (lv_room (Nat.le_of_ble_eq_true rfl)) dX4_lastUnfinishedHasOtherwise_43 ⟨Nat.zero_le _, Nat.zero_le _⟩) ?_
              refine lv_if_eq (tgt := 61) hx hb dX4_lastUnfinishedHasOtherwise_46 (by decide) (fun c16 => ?_) (fun c16 => ?_)
              · have hg := if_t hg c16
                refine lv_iload_n hx hb dX4_lastUnfinishedHasOtherwise_61 rfl (lv_at hl 0 rfl) ?_
                refine r_calli (W.runS (As := [.int (M 2 (x5).toNatClampNeg)]) (rest := []) CX (ctX4_isWhen l (M 2 (x5).toNatClampNeg)) (va_cwS 1 hts (gwS m2_123 m2_88 m1_2 m2_89) rfl rfl rfl (by decide +kernel) ⟨Nat.le_trans (Nat.le_of_ble_eq_true rfl) hR.1, Nat.le_trans (Nat.le_of_ble_eq_true rfl) hR.2⟩) (pPreS _) rfl rfl hl.1 rfl (lv_room (Nat.le_of_ble_eq_true rfl)) dX4_lastUnfinishedHasOtherwise_62 ⟨Nat.zero_le _, Nat.zero_le _⟩) ?_
                refine lv_if_eq (tgt := 71) hx hb dX4_lastUnfinishedHasOtherwise_65 (by decide) (fun c17 => ?_) (fun c17 => ?_)
                · have hg := if_t hg c17
                  obtain ⟨x18, hx18, hg⟩ := lt_e hg
                  refine lv_iinc (v := x18) (lv' := [(2, .int x18), (3, .int (M 2 (x5).toNatClampNeg)), (0, .ref (ad 1)), (1, .int x4)]) hx hb dX4_lastUnfinishedHasOtherwise_71 hl (k := 3) rfl (hx18.symm) (by decide) rfl (fun ls hl => ?_)
                  refine lv_goto (tgt := 9) hx hb dX4_lastUnfinishedHasOtherwise_74 (by decide) ?_
                  exact ih _ _ _ (lv_sub hl [2, 3, 0] rfl) hg
                · have hg := if_f hg c17
                  obtain ⟨x19, hx19, hg⟩ := lt_e hg
                  refine lv_iinc (v := x19) (lv' := [(1, .int x19), (3, .int (M 2 (x5).toNatClampNeg)), (0, .ref (ad 1)), (2, .int x5)]) hx hb dX4_lastUnfinishedHasOtherwise_68 hl (k := 2) rfl (hx19.symm) (by decide) rfl (fun ls hl => ?_)
                  obtain ⟨x20, hx20, hg⟩ := lt_e hg
                  refine lv_iinc (v := x20) (lv' := [(2, .int x20), (1, .int x19), (3, .int (M 2 (x5).toNatClampNeg)), (0, .ref (ad 1))]) hx hb dX4_lastUnfinishedHasOtherwise_71 hl (k := 3) rfl (hx20.symm) (by decide) rfl (fun ls hl => ?_)
                  refine lv_goto (tgt := 9) hx hb dX4_lastUnfinishedHasOtherwise_74 (by decide) ?_
                  exact ih _ _ _ (lv_sub hl [3, 1, 0] rfl) hg
              · have hg := if_f hg c16
                exact kE2 _ _ (lv_sub hl [0] rfl) hg
        · have hg := if_t hg c9
          obtain ⟨x21, hx21, hg⟩ := lt_e hg
          refine lv_iinc (v := x21) (lv' := [(1, .int x21), (3, .int (M 2 (x5).toNatClampNeg)), (0, .ref (ad 1)), (2, .int x5)]) hx hb dX4_lastUnfinishedHasOtherwise_26 hl (k := 2) rfl (hx21.symm) (by decide) rfl (fun ls hl => ?_)
          refine lv_goto (tgt := 71) hx hb dX4_lastUnfinishedHasOtherwise_29 (by decide) ?_
          obtain ⟨x22, hx22, hg⟩ := lt_e hg
          refine lv_iinc (v := x22) (lv' := [(2, .int x22), (1, .int x21), (3, .int (M 2 (x5).toNatClampNeg)), (0, .ref (ad 1))]) hx hb dX4_lastUnfinishedHasOtherwise_71 hl (k := 3) rfl (hx22.symm) (by decide) rfl (fun ls hl => ?_)
          refine lv_goto (tgt := 9) hx hb dX4_lastUnfinishedHasOtherwise_74 (by decide) ?_
          exact ih _ _ _ (lv_sub hl [3, 1, 0] rfl) hg
  exact kL9_23 FU _ _ _ (lv_sub hl [2, 1, 0] rfl) hg
theorem ctX4_lastUnfinishedHasOtherwise (l : Launch) (D : va_G) (sw : Sw) (cs : Cs) (ad : Nat → Nat) (X : va_W) (M : Mm) {r : Int32} (hq : gX4_lastUnfinishedHasOtherwise M = some r) : Met l yX4_lastUnfinishedHasOtherwise wsX4_lastUnfinishedHasOtherwise ({ frames := 1, cells := 0, slots := 0, locals := 20 }) (va_Pc [.ref (ad 1)] (rPre D sw cs LC NC ad M X)) (vp_Si (fun r' => r' = r)) 0 0 (fun _ => False) :=
  met_r rfl rfl (Nat.le_of_ble_eq_true rfl) (fun p e s m args below meth c ls CX hr hlk hK hSW hP hl => bX4_lastUnfinishedHasOtherwise M hq (by simp) CX ⟨Nat.le_refl _, Nat.le_refl _⟩ hK hSW hP hl (fun pc ls v hv dg hz => W.zret (ty := .boolean) CX.1 CX.2.1 hr hz (fun t ht hW => ⟨_, rfl, Option.some.inj hv, ht⟩) (fun _ h => by cases h) dg))

abbrev wsX2_areSame : List Cond := Cond.code yX2_areSame cX2_areSame 4 (some .boolean) :: WG
def gX2_areSame_L14 (M : Mm) (k0 : Nat) (n0 : Nat) (k1 : Nat) (n1 : Nat) (a2 : Int32) : Nat → Int32 → Option Int32
  | 0, _ => none
  | n3 + 1, x2 => if x2 < 0 then (some (1 : Int32)) else if (x2 < 0 ∨ n0 ≤ (x2).toNatClampNeg) then none else if (x2 < 0 ∨ n1 ≤ (x2).toNatClampNeg) then none else if (M k0 (x2).toNatClampNeg) = (M k1 (x2).toNatClampNeg) then (lt (x2 + (-1 : Int32)) fun x8 => gX2_areSame_L14 M k0 n0 k1 n1 a2 n3 x8) else some (0 : Int32)
def gX2_areSame (M : Mm) (k0 : Nat) (n0 : Nat) (k1 : Nat) (n1 : Nat) (a2 : Int32) : Option Int32 := lt ((if (if (nI n1) < (nI n0) then (nI n1) else (nI n0)) < a2 then (if (nI n1) < (nI n0) then (nI n1) else (nI n0)) else a2) - (1 : Int32)) fun x1 => gX2_areSame_L14 M k0 n0 k1 n1 a2 FU x1
set_option maxHeartbeats 4000000 in
set_option maxRecDepth 100000 in
theorem bX2_areSame {p : Program} {l : Launch} {e : Env} {R : Room} {s : State} {m : MethodId} {args : Array Value} {below : List Frame} {meth : Method} {c : Code} {H : Heap} {locs : List Loc} {Q : State → Prop} {D : va_G} {sw : Sw} {cs : Cs} {ad : Nat → Nat} {X : va_W} (M : Mm) (k0 n0 : Nat) (hk0 : k0 < NC) (hn0 : LC k0 = shI n0) (k1 n1 : Nat) (hk1 : k1 < NC) (hn1 : LC k1 = shI n1) (a2 : Int32) {res : Option Int32} (hg : gX2_areSame M k0 n0 k1 n1 a2 = res) (hne : res ≠ none) (CX : CallFix p m c cX2_areSame 4 s args wsX2_areSame RX2) (hR : 1 ≤ R.frames ∧ 21 ≤ R.locals) (hK : va_K D vwCl (tysC cs) s) (hSW : SW sw (fun _ => False) s H) (hP : va_P D vwCl (wl cs LC NC ad M ++ X) H) {ls : Array Slot} (hl : lv_has ls 4 [(0, .ref (ad k0)), (1, .ref (ad k1)), (2, .int a2)]) (hret : ∀ (pc : Nat) (ls : Array Slot) (v : Int32), some v = res → decode cX2_areSame pc = .ok (.ireturn, 1) → narrow .boolean (.int v) = .int v → W p l e R s m args below meth c H locs 0 0 Q (F0 m pc ls [.int v])) : W p l e R s m args below meth c H locs 0 0 Q (F0 m 0 ls []) := by
  obtain ⟨hx, hb, hml, hown, hts⟩ := id CX
  have hw : ∀ w ∈ WG, w.before args s = true := fun w h => hts w (List.mem_cons_of_mem _ h)
  have lk_7 := hw _ m2_155
  have lm_smin : (Cond.static Lib.Math.min.name).before args s = true := hw _ m2_156
  have lm_i : (Cond.initialized "java/lang/Math").before args s = true := hw _ m1_17
  have lm_cmin : (Cond.code Lib.Math.min.name Lib.Math.min.code 2 (some .int)).before args s = true := hw _ m2_157
  unfold gX2_areSame at hg
  refine lv_iload_n hx hb dX2_areSame_0 rfl (lv_at hl 2 rfl) ?_
  refine lv_aload_n hx hb dX2_areSame_1 rfl (lv_at hl 0 rfl) ?_
  refine m_ln hx hb hK hP hk0 hn0 dX2_areSame_2 ?_
  refine lv_aload_n hx hb dX2_areSame_3 rfl (lv_at hl 1 rfl) ?_
  refine m_ln hx hb hK hP hk1 hn1 dX2_areSame_4 ?_
  refine va_mmin hx hb (hml.trans hl.1.symm) hown lk_7 lm_smin lm_i lm_cmin (Nat.le_trans (Nat.le_of_ble_eq_true rfl) hR.1) (Nat.le_trans (Nat.le_of_ble_eq_true rfl) hR.2) (Nat.zero_le _) (Nat.zero_le _) dX2_areSame_5 ?_
  refine va_mmin hx hb (hml.trans hl.1.symm) hown lk_7 lm_smin lm_i lm_cmin (Nat.le_trans (Nat.le_of_ble_eq_true rfl) hR.1) (Nat.le_trans (Nat.le_of_ble_eq_true rfl) hR.2) (Nat.zero_le _) (Nat.zero_le _) dX2_areSame_8 ?_
  refine lv_iconst (v := 1) hx hb dX2_areSame_11 (by decide) ?_
  refine lv_isub hx hb dX2_areSame_12 ?_
  obtain ⟨x1, hx1, hg⟩ := lt_e hg
  refine top_i hx1 ?_
  refine lv_istore_n (lv' := [(3, .int x1), (0, .ref (ad k0)), (1, .ref (ad k1)), (2, .int a2)]) hx hb dX2_areSame_13 rfl hl (by decide) rfl (fun ls hl => ?_)
  have kL14_9 : ∀ (n3 : Nat) (x2 : Int32) (ls : Array Slot), lv_has ls 4 [(0, .ref (ad k0)), (1, .ref (ad k1)), (3, .int x2)] → gX2_areSame_L14 M k0 n0 k1 n1 a2 n3 x2 = res → W p l e R s m args below meth c H locs 0 0 Q (F0 m 14 ls []) := by
    intro n3
    induction n3 with
    | zero =>
      intro x2 ls hl hg
      rw [gX2_areSame_L14] at hg
      exact absurd hg.symm hne
    | succ n3 ih =>
      intro x2 ls hl hg
      rw [gX2_areSame_L14] at hg
      refine lv_iload_n hx hb dX2_areSame_14 rfl (lv_at hl 2 rfl) ?_
      refine lv_if_lt (tgt := 35) hx hb dX2_areSame_15 (by decide) (fun c4 => ?_) (fun c4 => ?_)
      · have hg := if_t hg c4
        refine lv_iconst (v := 1) hx hb dX2_areSame_35 (by decide) ?_
        exact hret _ _ _ hg dX2_areSame_36 rfl
      · have hg := if_f hg c4
        refine lv_aload_n hx hb dX2_areSame_18 rfl (lv_at hl 0 rfl) ?_
        refine lv_iload_n hx hb dX2_areSame_19 rfl (lv_at hl 2 rfl) ?_
        obtain ⟨b5, hg⟩ := ck_e hg hne
        refine m_ld hx hb hK hP hk0 hn0 b5 dX2_areSame_20 ?_
        refine lv_aload_n hx hb dX2_areSame_21 rfl (lv_at hl 1 rfl) ?_
        refine lv_iload_n hx hb dX2_areSame_22 rfl (lv_at hl 2 rfl) ?_
        obtain ⟨b6, hg⟩ := ck_e hg hne
        refine m_ld hx hb hK hP hk1 hn1 b6 dX2_areSame_23 ?_
        refine lv_icmp_eq (tgt := 29) hx hb dX2_areSame_24 (by decide) (fun c7 => ?_) (fun c7 => ?_)
        · have hg := if_t hg c7
          obtain ⟨x8, hx8, hg⟩ := lt_e hg
          refine lv_iinc (v := x8) (lv' := [(3, .int x8), (0, .ref (ad k0)), (1, .ref (ad k1))]) hx hb dX2_areSame_29 hl (k := 2) rfl (hx8.symm) (by decide) rfl (fun ls hl => ?_)
          refine lv_goto (tgt := 14) hx hb dX2_areSame_32 (by decide) ?_
          exact ih _ _ (lv_sub hl [1, 2, 0] rfl) hg
        · have hg := if_f hg c7
          refine lv_iconst (v := 0) hx hb dX2_areSame_27 (by decide) ?_
          exact hret _ _ _ hg dX2_areSame_28 rfl
  exact kL14_9 FU _ _ (lv_sub hl [1, 2, 0] rfl) hg
theorem ctX2_areSame (l : Launch) (D : va_G) (sw : Sw) (cs : Cs) (ad : Nat → Nat) (X : va_W) (M : Mm) (k0 n0 : Nat) (hk0 : k0 < NC) (hn0 : LC k0 = shI n0) (k1 n1 : Nat) (hk1 : k1 < NC) (hn1 : LC k1 = shI n1) (a2 : Int32) {r : Int32} (hq : gX2_areSame M k0 n0 k1 n1 a2 = some r) : Met l yX2_areSame wsX2_areSame ({ frames := 1, cells := 0, slots := 0, locals := 21 }) (va_Pc [.ref (ad k0), .ref (ad k1), .int a2] (rPre D sw cs LC NC ad M X)) (vp_Si (fun r' => r' = r)) 0 0 (fun _ => False) :=
  met_r rfl rfl (Nat.le_of_ble_eq_true rfl) (fun p e s m args below meth c ls CX hr hlk hK hSW hP hl => bX2_areSame M k0 n0 hk0 hn0 k1 n1 hk1 hn1 a2 hq (by simp) CX ⟨Nat.le_refl _, Nat.le_refl _⟩ hK hSW hP hl (fun pc ls v hv dg hz => W.zret (ty := .boolean) CX.1 CX.2.1 hr hz (fun t ht hW => ⟨_, rfl, Option.some.inj hv, ht⟩) (fun _ h => by cases h) dg))

abbrev wsX1_push : List Cond := Cond.code yX1_push cX1_push 2 none :: WG
def gX1_push (M : Mm) (v0 : Nat) (a1 : Int32) : Option Mm := if (320 : Int32) ≤ (M (vb v0 + 3) 1) then (some M) else if ((M (vb v0 + 3) 1) < 0 ∨ 320 ≤ ((M (vb v0 + 3) 1)).toNatClampNeg) then none else lt (um M (vb v0 + 4) ((M (vb v0 + 3) 1)).toNatClampNeg a1) fun M3 => lt (um M3 (vb v0 + 3) 1 ((M3 (vb v0 + 3) 1) + (1 : Int32))) fun M4 => some M4
set_option maxHeartbeats 4000000 in
set_option maxRecDepth 100000 in
theorem bX1_push {p : Program} {l : Launch} {e : Env} {R : Room} {s : State} {m : MethodId} {args : Array Value} {below : List Frame} {meth : Method} {c : Code} {H : Heap} {locs : List Loc} {Q : State → Prop} {D : va_G} {sw : Sw} {cs : Cs} {ad : Nat → Nat} {X : va_W} {A : Nat → Prop} (M : Mm) (v0 : Nat) (hv0 : v0 < 16) (a1 : Int32) {res : Option Mm} (hg : gX1_push M v0 a1 = res) (hne : res ≠ none) (CX : CallFix p m c cX1_push 2 s args wsX1_push RX1) (hR : 0 ≤ R.frames ∧ 0 ≤ R.locals) (hK : va_K D vwCl (tysC cs) s) (hSW : SW sw A s s.heap) (hP : va_P D vwCl (wl cs LC NC ad M ++ X) H) (hD : va_D A (wl cs LC NC ad M ++ X)) (hS : va_S A s.heap H locs) (hA : ∀ q, s.heap.size ≤ q → A q) {ls : Array Slot} (hl : lv_has ls 2 [(0, .ref (ad (vb v0 + 3))), (1, .int a1)]) (hret : ∀ (pc : Nat) (ls : Array Slot) (H : Heap) (locs : List Loc) (M9 : Mm), some M9 = res → decode cX1_push pc = .ok (.return_, 1) → va_P D vwCl (wl cs LC NC ad M9 ++ X) H → va_D A (wl cs LC NC ad M9 ++ X) → va_S A s.heap H locs → W p l e R s m args below meth c H locs 0 0 Q (F0 m pc ls [])) : W p l e R s m args below meth c H locs 0 0 Q (F0 m 0 ls []) := by
  obtain ⟨hx, hb, hml, hown, hts⟩ := id CX
  have hw : ∀ w ∈ WG, w.before args s = true := fun w h => hts w (List.mem_cons_of_mem _ h)
  have lk_18 := hw _ m1_93
  have lk_11 := hw _ m1_92
  unfold gX1_push at hg
  refine lv_aload_n hx hb dX1_push_0 rfl (lv_at hl 0 rfl) ?_
  refine m_gi (C := RX1) (T := TX1) (n := 5) (ci := 0) hx hb hts in_RX1 hown hK hP (kC_v (j := 3) hv0 (by decide)) (LC_RDG v0) rfl 1 (by decide) rfl lk_18 (fun _ h9 => h9) dX1_push_1 ?_
  refine lv_sipush (v := 320) hx hb dX1_push_4 (by decide) ?_
  refine lv_icmp_ge (tgt := 30) hx hb dX1_push_7 (by decide) (fun c1 => ?_) (fun c1 => ?_)
  · have hg := if_t hg c1
    exact hret _ _ _ _ _ hg dX1_push_30 hP hD hS
  · have hg := if_f hg c1
    refine lv_aload_n hx hb dX1_push_10 rfl (lv_at hl 0 rfl) ?_
    refine m_gr (C := RX1) (T := TX1) (n := 5) (ci := 0) hx hb hts in_RX1 hown hK hP (kC_v (j := 3) hv0 (by decide)) (LC_RDG v0) rfl 0 (by decide) rfl lk_11 (fun _ h9 => h9) dX1_push_11 ?_
    refine lv_aload_n hx hb dX1_push_14 rfl (lv_at hl 0 rfl) ?_
    refine m_gi (C := RX1) (T := TX1) (n := 5) (ci := 0) hx hb hts in_RX1 hown hK hP (kC_v (j := 3) hv0 (by decide)) (LC_RDG v0) rfl 1 (by decide) rfl lk_18 (fun _ h9 => h9) dX1_push_15 ?_
    refine lv_iload_n hx hb dX1_push_18 rfl (lv_at hl 1 rfl) ?_
    obtain ⟨b2, hg⟩ := ck_e hg hne
    obtain ⟨M3, hM3, hg⟩ := lt_e hg
    refine m_st hx hb hK hP hD hS (kC_v (j := 4) hv0 (by decide)) (LC_SYM v0) b2 dX1_push_19 hM3 (fun H locs hP hD hS => ?_)
    refine lv_aload_n hx hb dX1_push_20 rfl (lv_at hl 0 rfl) ?_
    refine lv_dup hx hb dX1_push_21 rfl ?_
    refine m_gi (C := RX1) (T := TX1) (n := 5) (ci := 0) hx hb hts in_RX1 hown hK hP (kC_v (j := 3) hv0 (by decide)) (LC_RDG v0) rfl 1 (by decide) rfl lk_18 (fun _ h9 => h9) dX1_push_22 ?_
    refine lv_iconst (v := 1) hx hb dX1_push_25 (by decide) ?_
    refine lv_iadd hx hb dX1_push_26 ?_
    obtain ⟨M4, hM4, hg⟩ := lt_e hg
    refine m_pi (C := RX1) (T := TX1) (n := 5) (ci := 0) hx hb hts in_RX1 tyX1 tyX1_ok nmX1 hown hK hP hD hS (kC_v (j := 3) hv0 (by decide)) (LC_RDG v0) rfl 1 (by decide) rfl lk_18 (fun _ h9 => h9) rfl rfl rfl dX1_push_27 hM4 (fun H locs hP hD hS => ?_)
    exact hret _ _ _ _ _ hg dX1_push_30 hP hD hS
theorem ctX1_push (l : Launch) (D : va_G) (sw : Sw) (cs : Cs) (ad : Nat → Nat) (X : va_W) (sz : Nat) (M : Mm) (v0 : Nat) (hv0 : v0 < 16) (a1 : Int32) {M1 : Mm} (hq : gX1_push M v0 a1 = some M1) : Met l yX1_push wsX1_push ({ frames := 0, cells := 0, slots := 0, locals := 0 }) (va_Pc [.ref (ad (vb v0 + 3)), .int a1] (wPre D sw cs LC NC ad M X sz)) (wQv D cs LC NC ad M1 X sz) 0 0 (wA NC ad X sz) :=
  met_w rfl rfl (Nat.le_of_ble_eq_true rfl) (fun p e s m args below meth c ls CX hr hlk hK hSW hP hD hS hA hl => bX1_push M v0 hv0 a1 hq (by simp) CX ⟨Nat.le_refl _, Nat.le_refl _⟩ hK hSW hP hD hS hA hl (fun pc ls H locs M9 hv dg hP hD hS => W.vret CX.1 CX.2.1 hr (fun t ht hW => ⟨⟨(), rfl, trivial, wpost hP ht (Option.some.inj hv)⟩, hS.F ht⟩) hS.2.2 dg))

abbrev wsX1_begin : List Cond := Cond.code yX1_begin cX1_begin 1 none :: WG
def gX1_begin (M : Mm) (v0 : Nat) : Option Mm := lt (um M (vb v0 + 3) 1 (0 : Int32)) fun M1 => bd (gX1_push M1 v0 (80 : Int32)) fun M3 => lt (um M3 (vb v0 + 3) 3 (0 : Int32)) fun M4 => lt (um M4 (vb v0 + 3) 4 (-1 : Int32)) fun M5 => some M5
set_option maxHeartbeats 4000000 in
set_option maxRecDepth 100000 in
theorem bX1_begin {p : Program} {l : Launch} {e : Env} {R : Room} {s : State} {m : MethodId} {args : Array Value} {below : List Frame} {meth : Method} {c : Code} {H : Heap} {locs : List Loc} {Q : State → Prop} {D : va_G} {sw : Sw} {cs : Cs} {ad : Nat → Nat} {X : va_W} {A : Nat → Prop} (M : Mm) (v0 : Nat) (hv0 : v0 < 16) {res : Option Mm} (hg : gX1_begin M v0 = res) (hne : res ≠ none) (CX : CallFix p m c cX1_begin 1 s args wsX1_begin RX1) (hR : 1 ≤ R.frames ∧ 21 ≤ R.locals) (hK : va_K D vwCl (tysC cs) s) (hSW : SW sw A s s.heap) (hP : va_P D vwCl (wl cs LC NC ad M ++ X) H) (hD : va_D A (wl cs LC NC ad M ++ X)) (hS : va_S A s.heap H locs) (hA : ∀ q, s.heap.size ≤ q → A q) {ls : Array Slot} (hl : lv_has ls 1 [(0, .ref (ad (vb v0 + 3)))]) (hret : ∀ (pc : Nat) (ls : Array Slot) (H : Heap) (locs : List Loc) (M9 : Mm), some M9 = res → decode cX1_begin pc = .ok (.return_, 1) → va_P D vwCl (wl cs LC NC ad M9 ++ X) H → va_D A (wl cs LC NC ad M9 ++ X) → va_S A s.heap H locs → W p l e R s m args below meth c H locs 0 0 Q (F0 m pc ls [])) : W p l e R s m args below meth c H locs 0 0 Q (F0 m 0 ls []) := by
  obtain ⟨hx, hb, hml, hown, hts⟩ := id CX
  have hw : ∀ w ∈ WG, w.before args s = true := fun w h => hts w (List.mem_cons_of_mem _ h)
  have lk_18 := hw _ m1_93
  have lk_28 := hw _ m1_95
  have lk_31 := hw _ m1_97
  unfold gX1_begin at hg
  refine lv_aload_n hx hb dX1_begin_0 rfl (lv_at hl 0 rfl) ?_
  refine lv_iconst (v := 0) hx hb dX1_begin_1 (by decide) ?_
  obtain ⟨M1, hM1, hg⟩ := lt_e hg
  refine m_pi (C := RX1) (T := TX1) (n := 5) (ci := 0) hx hb hts in_RX1 tyX1 tyX1_ok nmX1 hown hK hP hD hS (kC_v (j := 3) hv0 (by decide)) (LC_RDG v0) rfl 1 (by decide) rfl lk_18 (fun _ h9 => h9) rfl rfl rfl dX1_begin_2 hM1 (fun H locs hP hD hS => ?_)
  refine lv_aload_n hx hb dX1_begin_5 rfl (lv_at hl 0 rfl) ?_
  refine lv_bipush (v := 80) hx hb dX1_begin_6 (by decide) ?_
  obtain ⟨M3, q2, hg⟩ := bd_e hg hne
  refine w_callv (va_runV (As := [.int (80 : Int32)]) (rest := []) CX (ctX1_push l D sw cs ad X H.size M1 v0 hv0 (80 : Int32) q2) (cwV 1 hts (gwV m2_132 m2_134 mp1_9 m1_5 m2_135) rfl rfl rfl (by decide +kernel) ⟨Nat.le_trans (Nat.le_of_ble_eq_true rfl) hR.1, Nat.le_trans (Nat.le_of_ble_eq_true rfl) hR.2⟩) (wPreV hSW hS hA hK hP hD (kC_v (j := 3) hv0 (by decide)) (LC_RDG v0) rfl _) rfl rfl hl.1 rfl (lv_room (Nat.le_of_ble_eq_true rfl)) dX1_begin_8 ⟨Nat.zero_le _, Nat.zero_le _⟩) hD hS hA (fun H locs hP hD hS => ?_)
  refine lv_aload_n hx hb dX1_begin_11 rfl (lv_at hl 0 rfl) ?_
  refine lv_iconst (v := 0) hx hb dX1_begin_12 (by decide) ?_
  obtain ⟨M4, hM4, hg⟩ := lt_e hg
  refine m_pi (C := RX1) (T := TX1) (n := 5) (ci := 0) hx hb hts in_RX1 tyX1 tyX1_ok nmX1 hown hK hP hD hS (kC_v (j := 3) hv0 (by decide)) (LC_RDG v0) rfl 3 (by decide) rfl lk_28 (fun _ h9 => h9) rfl rfl rfl dX1_begin_13 hM4 (fun H locs hP hD hS => ?_)
  refine lv_aload_n hx hb dX1_begin_16 rfl (lv_at hl 0 rfl) ?_
  refine lv_iconst (v := -1) hx hb dX1_begin_17 (by decide) ?_
  obtain ⟨M5, hM5, hg⟩ := lt_e hg
  refine m_pi (C := RX1) (T := TX1) (n := 5) (ci := 0) hx hb hts in_RX1 tyX1 tyX1_ok nmX1 hown hK hP hD hS (kC_v (j := 3) hv0 (by decide)) (LC_RDG v0) rfl 4 (by decide) rfl lk_31 (fun _ h9 => h9) rfl rfl rfl dX1_begin_18 hM5 (fun H locs hP hD hS => ?_)
  exact hret _ _ _ _ _ hg dX1_begin_21 hP hD hS
theorem ctX1_begin (l : Launch) (D : va_G) (sw : Sw) (cs : Cs) (ad : Nat → Nat) (X : va_W) (sz : Nat) (M : Mm) (v0 : Nat) (hv0 : v0 < 16) {M1 : Mm} (hq : gX1_begin M v0 = some M1) : Met l yX1_begin wsX1_begin ({ frames := 1, cells := 0, slots := 0, locals := 21 }) (va_Pc [.ref (ad (vb v0 + 3))] (wPre D sw cs LC NC ad M X sz)) (wQv D cs LC NC ad M1 X sz) 0 0 (wA NC ad X sz) :=
  met_w rfl rfl (Nat.le_of_ble_eq_true rfl) (fun p e s m args below meth c ls CX hr hlk hK hSW hP hD hS hA hl => bX1_begin M v0 hv0 hq (by simp) CX ⟨Nat.le_refl _, Nat.le_refl _⟩ hK hSW hP hD hS hA hl (fun pc ls H locs M9 hv dg hP hD hS => W.vret CX.1 CX.2.1 hr (fun t ht hW => ⟨⟨(), rfl, trivial, wpost hP ht (Option.some.inj hv)⟩, hS.F ht⟩) hS.2.2 dg))

abbrev wsX1_heightAhead : List Cond := Cond.code yX1_heightAhead cX1_heightAhead 2 (some .int) :: WG
def gX1_heightAhead (M : Mm) (v0 : Nat) (a1 : Int32) : Option Int32 := if a1 < 0 then (some (-1 : Int32)) else if (M (vb v0 + 3) 3) ≤ a1 then (some (-1 : Int32)) else if (a1 < 0 ∨ 80 ≤ (a1).toNatClampNeg) then none else some (M (vb v0 + 5) (a1).toNatClampNeg)
set_option maxHeartbeats 4000000 in
set_option maxRecDepth 100000 in
theorem bX1_heightAhead {p : Program} {l : Launch} {e : Env} {R : Room} {s : State} {m : MethodId} {args : Array Value} {below : List Frame} {meth : Method} {c : Code} {H : Heap} {locs : List Loc} {Q : State → Prop} {D : va_G} {sw : Sw} {cs : Cs} {ad : Nat → Nat} {X : va_W} (M : Mm) (v0 : Nat) (hv0 : v0 < 16) (a1 : Int32) {res : Option Int32} (hg : gX1_heightAhead M v0 a1 = res) (hne : res ≠ none) (CX : CallFix p m c cX1_heightAhead 2 s args wsX1_heightAhead RX1) (hR : 0 ≤ R.frames ∧ 0 ≤ R.locals) (hK : va_K D vwCl (tysC cs) s) (hSW : SW sw (fun _ => False) s H) (hP : va_P D vwCl (wl cs LC NC ad M ++ X) H) {ls : Array Slot} (hl : lv_has ls 2 [(0, .ref (ad (vb v0 + 3))), (1, .int a1)]) (hret : ∀ (pc : Nat) (ls : Array Slot) (v : Int32), some v = res → decode cX1_heightAhead pc = .ok (.ireturn, 1) → W p l e R s m args below meth c H locs 0 0 Q (F0 m pc ls [.int v])) : W p l e R s m args below meth c H locs 0 0 Q (F0 m 0 ls []) := by
  obtain ⟨hx, hb, hml, hown, hts⟩ := id CX
  have hw : ∀ w ∈ WG, w.before args s = true := fun w h => hts w (List.mem_cons_of_mem _ h)
  have lk_28 := hw _ m1_95
  have lk_15 := hw _ m1_94
  unfold gX1_heightAhead at hg
  refine lv_iload_n hx hb dX1_heightAhead_0 rfl (lv_at hl 1 rfl) ?_
  refine lv_if_lt (tgt := 21) hx hb dX1_heightAhead_1 (by decide) (fun c1 => ?_) (fun c1 => ?_)
  · have hg := if_t hg c1
    refine lv_iconst (v := -1) hx hb dX1_heightAhead_21 (by decide) ?_
    exact hret _ _ _ hg dX1_heightAhead_22
  · have hg := if_f hg c1
    refine lv_iload_n hx hb dX1_heightAhead_4 rfl (lv_at hl 1 rfl) ?_
    refine lv_aload_n hx hb dX1_heightAhead_5 rfl (lv_at hl 0 rfl) ?_
    refine m_gi (C := RX1) (T := TX1) (n := 5) (ci := 0) hx hb hts in_RX1 hown hK hP (kC_v (j := 3) hv0 (by decide)) (LC_RDG v0) rfl 3 (by decide) rfl lk_28 (fun _ h9 => h9) dX1_heightAhead_6 ?_
    refine lv_icmp_ge (tgt := 21) hx hb dX1_heightAhead_9 (by decide) (fun c2 => ?_) (fun c2 => ?_)
    · have hg := if_t hg c2
      refine lv_iconst (v := -1) hx hb dX1_heightAhead_21 (by decide) ?_
      exact hret _ _ _ hg dX1_heightAhead_22
    · have hg := if_f hg c2
      refine lv_aload_n hx hb dX1_heightAhead_12 rfl (lv_at hl 0 rfl) ?_
      refine m_gr (C := RX1) (T := TX1) (n := 5) (ci := 0) hx hb hts in_RX1 hown hK hP (kC_v (j := 3) hv0 (by decide)) (LC_RDG v0) rfl 2 (by decide) rfl lk_15 (fun _ h9 => h9) dX1_heightAhead_13 ?_
      refine lv_iload_n hx hb dX1_heightAhead_16 rfl (lv_at hl 1 rfl) ?_
      obtain ⟨b3, hg⟩ := ck_e hg hne
      refine m_ld hx hb hK hP (kC_v (j := 5) hv0 (by decide)) (LC_HTS v0) b3 dX1_heightAhead_17 ?_
      refine lv_goto (tgt := 22) hx hb dX1_heightAhead_18 (by decide) ?_
      exact hret _ _ _ hg dX1_heightAhead_22
theorem ctX1_heightAhead (l : Launch) (D : va_G) (sw : Sw) (cs : Cs) (ad : Nat → Nat) (X : va_W) (M : Mm) (v0 : Nat) (hv0 : v0 < 16) (a1 : Int32) {r : Int32} (hq : gX1_heightAhead M v0 a1 = some r) : Met l yX1_heightAhead wsX1_heightAhead ({ frames := 0, cells := 0, slots := 0, locals := 0 }) (va_Pc [.ref (ad (vb v0 + 3)), .int a1] (rPre D sw cs LC NC ad M X)) (vp_Si (fun r' => r' = r)) 0 0 (fun _ => False) :=
  met_r rfl rfl (Nat.le_of_ble_eq_true rfl) (fun p e s m args below meth c ls CX hr hlk hK hSW hP hl => bX1_heightAhead M v0 hv0 a1 hq (by simp) CX ⟨Nat.le_refl _, Nat.le_refl _⟩ hK hSW hP hl (fun pc ls v hv dg => W.iret CX.1 CX.2.1 hr (fun t ht hW => ⟨_, rfl, Option.some.inj hv, ht⟩) (fun _ h => by cases h) dg))

abbrev wsX1_hasSameStack : List Cond := Cond.code yX1_hasSameStack cX1_hasSameStack 2 (some .boolean) :: WG
def gX1_hasSameStack (M : Mm) (v0 : Nat) (v1 : Nat) : Option Int32 := if (M (vb v0 + 3) 1) = (M (vb v1 + 3) 1) then (bd (gX2_areSame M (vb v0 + 4) 320 (vb v1 + 4) 320 (M (vb v0 + 3) 1)) fun r2 => if r2 = 0 then (some (0 : Int32)) else some (1 : Int32)) else some (0 : Int32)
set_option maxHeartbeats 4000000 in
set_option maxRecDepth 100000 in
theorem bX1_hasSameStack {p : Program} {l : Launch} {e : Env} {R : Room} {s : State} {m : MethodId} {args : Array Value} {below : List Frame} {meth : Method} {c : Code} {H : Heap} {locs : List Loc} {Q : State → Prop} {D : va_G} {sw : Sw} {cs : Cs} {ad : Nat → Nat} {X : va_W} (M : Mm) (v0 : Nat) (hv0 : v0 < 16) (v1 : Nat) (hv1 : v1 < 16) {res : Option Int32} (hg : gX1_hasSameStack M v0 v1 = res) (hne : res ≠ none) (CX : CallFix p m c cX1_hasSameStack 2 s args wsX1_hasSameStack RX1) (hR : 2 ≤ R.frames ∧ 44 ≤ R.locals) (hK : va_K D vwCl (tysC cs) s) (hSW : SW sw (fun _ => False) s H) (hP : va_P D vwCl (wl cs LC NC ad M ++ X) H) {ls : Array Slot} (hl : lv_has ls 2 [(0, .ref (ad (vb v0 + 3))), (1, .ref (ad (vb v1 + 3)))]) (hret : ∀ (pc : Nat) (ls : Array Slot) (v : Int32), some v = res → decode cX1_hasSameStack pc = .ok (.ireturn, 1) → narrow .boolean (.int v) = .int v → W p l e R s m args below meth c H locs 0 0 Q (F0 m pc ls [.int v])) : W p l e R s m args below meth c H locs 0 0 Q (F0 m 0 ls []) := by
  obtain ⟨hx, hb, hml, hown, hts⟩ := id CX
  have hw : ∀ w ∈ WG, w.before args s = true := fun w h => hts w (List.mem_cons_of_mem _ h)
  have lk_18 := hw _ m1_93
  have lk_11 := hw _ m1_92
  unfold gX1_hasSameStack at hg
  refine lv_aload_n hx hb dX1_hasSameStack_0 rfl (lv_at hl 0 rfl) ?_
  refine m_gi (C := RX1) (T := TX1) (n := 5) (ci := 0) hx hb hts in_RX1 hown hK hP (kC_v (j := 3) hv0 (by decide)) (LC_RDG v0) rfl 1 (by decide) rfl lk_18 (fun _ h9 => h9) dX1_hasSameStack_1 ?_
  refine lv_aload_n hx hb dX1_hasSameStack_4 rfl (lv_at hl 1 rfl) ?_
  refine m_gi (C := RX1) (T := TX1) (n := 5) (ci := 0) hx hb hts in_RX1 hown hK hP (kC_v (j := 3) hv1 (by decide)) (LC_RDG v1) rfl 1 (by decide) rfl lk_18 (fun _ h9 => h9) dX1_hasSameStack_5 ?_
  refine lv_icmp_ne (tgt := 33) hx hb dX1_hasSameStack_8 (by decide) (fun c1 => ?_) (fun c1 => ?_)
  · have hg := if_f hg c1
    refine lv_iconst (v := 0) hx hb dX1_hasSameStack_33 (by decide) ?_
    exact hret _ _ _ hg dX1_hasSameStack_34 rfl
  · have hg := if_t hg c1
    refine lv_aload_n hx hb dX1_hasSameStack_11 rfl (lv_at hl 0 rfl) ?_
    refine m_gr (C := RX1) (T := TX1) (n := 5) (ci := 0) hx hb hts in_RX1 hown hK hP (kC_v (j := 3) hv0 (by decide)) (LC_RDG v0) rfl 0 (by decide) rfl lk_11 (fun _ h9 => h9) dX1_hasSameStack_12 ?_
    refine lv_aload_n hx hb dX1_hasSameStack_15 rfl (lv_at hl 1 rfl) ?_
    refine m_gr (C := RX1) (T := TX1) (n := 5) (ci := 0) hx hb hts in_RX1 hown hK hP (kC_v (j := 3) hv1 (by decide)) (LC_RDG v1) rfl 0 (by decide) rfl lk_11 (fun _ h9 => h9) dX1_hasSameStack_16 ?_
    refine lv_aload_n hx hb dX1_hasSameStack_19 rfl (lv_at hl 0 rfl) ?_
    refine m_gi (C := RX1) (T := TX1) (n := 5) (ci := 0) hx hb hts in_RX1 hown hK hP (kC_v (j := 3) hv0 (by decide)) (LC_RDG v0) rfl 1 (by decide) rfl lk_18 (fun _ h9 => h9) dX1_hasSameStack_20 ?_
    obtain ⟨r2, q3, hg⟩ := bd_e hg hne
    refine r_calli (W.runS (As := [.ref (ad (vb v0 + 4)), .ref (ad (vb v1 + 4)), .int (M (vb v0 + 3) 1)]) (rest := []) CX (ctX2_areSame l D sw cs ad X M (vb v0 + 4) 320 (kC_v (j := 4) hv0 (by decide)) (LC_SYM v0) (vb v1 + 4) 320 (kC_v (j := 4) hv1 (by decide)) (LC_SYM v1) (M (vb v0 + 3) 1) q3) (va_cwS 3 hts (gwS m2_152 m2_153 m1_19 m2_154) rfl rfl rfl (by decide +kernel) ⟨Nat.le_trans (Nat.le_of_ble_eq_true rfl) hR.1, Nat.le_trans (Nat.le_of_ble_eq_true rfl) hR.2⟩) (rPreS hSW hK hP _) rfl rfl hl.1 rfl (lv_room (Nat.le_of_ble_eq_true rfl)) dX1_hasSameStack_23 ⟨Nat.zero_le _, Nat.zero_le _⟩) ?_
    refine lv_if_eq (tgt := 33) hx hb dX1_hasSameStack_26 (by decide) (fun c4 => ?_) (fun c4 => ?_)
    · have hg := if_t hg c4
      refine lv_iconst (v := 0) hx hb dX1_hasSameStack_33 (by decide) ?_
      exact hret _ _ _ hg dX1_hasSameStack_34 rfl
    · have hg := if_f hg c4
      refine lv_iconst (v := 1) hx hb dX1_hasSameStack_29 (by decide) ?_
      refine lv_goto (tgt := 34) hx hb dX1_hasSameStack_30 (by decide) ?_
      exact hret _ _ _ hg dX1_hasSameStack_34 rfl
theorem ctX1_hasSameStack (l : Launch) (D : va_G) (sw : Sw) (cs : Cs) (ad : Nat → Nat) (X : va_W) (M : Mm) (v0 : Nat) (hv0 : v0 < 16) (v1 : Nat) (hv1 : v1 < 16) {r : Int32} (hq : gX1_hasSameStack M v0 v1 = some r) : Met l yX1_hasSameStack wsX1_hasSameStack ({ frames := 2, cells := 0, slots := 0, locals := 44 }) (va_Pc [.ref (ad (vb v0 + 3)), .ref (ad (vb v1 + 3))] (rPre D sw cs LC NC ad M X)) (vp_Si (fun r' => r' = r)) 0 0 (fun _ => False) :=
  met_r rfl rfl (Nat.le_of_ble_eq_true rfl) (fun p e s m args below meth c ls CX hr hlk hK hSW hP hl => bX1_hasSameStack M v0 hv0 v1 hv1 hq (by simp) CX ⟨Nat.le_refl _, Nat.le_refl _⟩ hK hSW hP hl (fun pc ls v hv dg hz => W.zret (ty := .boolean) CX.1 CX.2.1 hr hz (fun t ht hW => ⟨_, rfl, Option.some.inj hv, ht⟩) (fun _ h => by cases h) dg))
