abbrev wsX5_add : List Cond := Cond.code yX5_add cX5_add 3 none :: WG
def gX5_add (M : Mm) (v0 : Nat) (a1 : Int32) (a2 : Int32) : Option Mm := if (80 : Int32) ≤ (M (vb v0) 2) then (some M) else if ((M (vb v0) 2) < 0 ∨ 80 ≤ ((M (vb v0) 2)).toNatClampNeg) then none else lt (um M (vb v0 + 1) ((M (vb v0) 2)).toNatClampNeg a1) fun M3 => if ((M3 (vb v0) 2) < 0 ∨ 80 ≤ ((M3 (vb v0) 2)).toNatClampNeg) then none else lt (um M3 (vb v0 + 2) ((M3 (vb v0) 2)).toNatClampNeg a2) fun M5 => lt (um M5 (vb v0) 2 ((M5 (vb v0) 2) + (1 : Int32))) fun M6 => some M6
set_option maxHeartbeats 4000000 in
set_option maxRecDepth 100000 in
theorem bX5_add {p : Program} {l : Launch} {e : Env} {R : Room} {s : State} {m : MethodId} {args : Array Value} {below : List Frame} {meth : Method} {c : Code} {H : Heap} {locs : List Loc} {Q : State → Prop} {D : va_G} {sw : Sw} {cs : Cs} {ad : Nat → Nat} {X : va_W} {A : Nat → Prop} (M : Mm) (v0 : Nat) (hv0 : v0 < 16) (a1 : Int32) (a2 : Int32) {res : Option Mm} (hg : gX5_add M v0 a1 a2 = res) (hne : res ≠ none) (CX : CallFix p m c cX5_add 3 s args wsX5_add RX5) (hR : 0 ≤ R.frames ∧ 0 ≤ R.locals) (hK : va_K D vwCl (tysC cs) s) (hSW : SW sw A s s.heap) (hP : va_P D vwCl (wl cs LC NC ad M ++ X) H) (hD : va_D A (wl cs LC NC ad M ++ X)) (hS : va_S A s.heap H locs) (hA : ∀ q, s.heap.size ≤ q → A q) {ls : Array Slot} (hl : lv_has ls 3 [(0, .ref (ad (vb v0))), (1, .int a1), (2, .int a2)]) (hret : ∀ (pc : Nat) (ls : Array Slot) (H : Heap) (locs : List Loc) (M9 : Mm), some M9 = res → decode cX5_add pc = .ok (.return_, 1) → va_P D vwCl (wl cs LC NC ad M9 ++ X) H → va_D A (wl cs LC NC ad M9 ++ X) → va_S A s.heap H locs → W p l e R s m args below meth c H locs 0 0 Q (F0 m pc ls [])) : W p l e R s m args below meth c H locs 0 0 Q (F0 m 0 ls []) := by
  obtain ⟨hx, hb, hml, hown, hts⟩ := id CX
  have hw : ∀ w ∈ WG, w.before args s = true := fun w h => hts w (List.mem_cons_of_mem _ h)
  have lk_32 := hw _ m1_142
  have lk_9 := hw _ m1_138
  have lk_15 := hw _ m1_140
  unfold gX5_add at hg
  refine lv_aload_n hx hb dX5_add_0 rfl (lv_at hl 0 rfl) ?_
  refine m_gi (C := RX5) (T := TX5) (n := 5) (ci := 3) hx hb hts in_RX5 hown hK hP (kC_v0 hv0) (LC_VAR v0) rfl 2 (by decide) rfl lk_32 (fun _ h9 => h9) dX5_add_1 ?_
  refine lv_bipush (v := 80) hx hb dX5_add_4 (by decide) ?_
  refine lv_icmp_ge (tgt := 39) hx hb dX5_add_6 (by decide) (fun c1 => ?_) (fun c1 => ?_)
  · have hg := if_t hg c1
    exact hret _ _ _ _ _ hg dX5_add_39 hP hD hS
  · have hg := if_f hg c1
    refine lv_aload_n hx hb dX5_add_9 rfl (lv_at hl 0 rfl) ?_
    refine m_gr (C := RX5) (T := TX5) (n := 5) (ci := 3) hx hb hts in_RX5 hown hK hP (kC_v0 hv0) (LC_VAR v0) rfl 0 (by decide) rfl lk_9 (fun _ h9 => h9) dX5_add_10 ?_
    refine lv_aload_n hx hb dX5_add_13 rfl (lv_at hl 0 rfl) ?_
    refine m_gi (C := RX5) (T := TX5) (n := 5) (ci := 3) hx hb hts in_RX5 hown hK hP (kC_v0 hv0) (LC_VAR v0) rfl 2 (by decide) rfl lk_32 (fun _ h9 => h9) dX5_add_14 ?_
    refine lv_iload_n hx hb dX5_add_17 rfl (lv_at hl 1 rfl) ?_
    obtain ⟨b2, hg⟩ := ck_e hg hne
    obtain ⟨M3, hM3, hg⟩ := lt_e hg
    refine m_st hx hb hK hP hD hS (kC_v (j := 1) hv0 (by decide)) (LC_VTOK v0) b2 dX5_add_18 hM3 (fun H locs hP hD hS => ?_)
    refine lv_aload_n hx hb dX5_add_19 rfl (lv_at hl 0 rfl) ?_
    refine m_gr (C := RX5) (T := TX5) (n := 5) (ci := 3) hx hb hts in_RX5 hown hK hP (kC_v0 hv0) (LC_VAR v0) rfl 1 (by decide) rfl lk_15 (fun _ h9 => h9) dX5_add_20 ?_
    refine lv_aload_n hx hb dX5_add_23 rfl (lv_at hl 0 rfl) ?_
    refine m_gi (C := RX5) (T := TX5) (n := 5) (ci := 3) hx hb hts in_RX5 hown hK hP (kC_v0 hv0) (LC_VAR v0) rfl 2 (by decide) rfl lk_32 (fun _ h9 => h9) dX5_add_24 ?_
    refine lv_iload_n hx hb dX5_add_27 rfl (lv_at hl 2 rfl) ?_
    obtain ⟨b4, hg⟩ := ck_e hg hne
    obtain ⟨M5, hM5, hg⟩ := lt_e hg
    refine m_st hx hb hK hP hD hS (kC_v (j := 2) hv0 (by decide)) (LC_VPL v0) b4 dX5_add_28 hM5 (fun H locs hP hD hS => ?_)
    refine lv_aload_n hx hb dX5_add_29 rfl (lv_at hl 0 rfl) ?_
    refine lv_dup hx hb dX5_add_30 rfl ?_
    refine m_gi (C := RX5) (T := TX5) (n := 5) (ci := 3) hx hb hts in_RX5 hown hK hP (kC_v0 hv0) (LC_VAR v0) rfl 2 (by decide) rfl lk_32 (fun _ h9 => h9) dX5_add_31 ?_
    refine lv_iconst (v := 1) hx hb dX5_add_34 (by decide) ?_
    refine lv_iadd hx hb dX5_add_35 ?_
    obtain ⟨M6, hM6, hg⟩ := lt_e hg
    refine m_pi (C := RX5) (T := TX5) (n := 5) (ci := 3) hx hb hts in_RX5 tyX5 tyX5_ok nmX5 hown hK hP hD hS (kC_v0 hv0) (LC_VAR v0) rfl 2 (by decide) rfl lk_32 (fun _ h9 => h9) rfl rfl rfl dX5_add_36 hM6 (fun H locs hP hD hS => ?_)
    exact hret _ _ _ _ _ hg dX5_add_39 hP hD hS
theorem ctX5_add (l : Launch) (D : va_G) (sw : Sw) (cs : Cs) (ad : Nat → Nat) (X : va_W) (sz : Nat) (M : Mm) (v0 : Nat) (hv0 : v0 < 16) (a1 : Int32) (a2 : Int32) {M1 : Mm} (hq : gX5_add M v0 a1 a2 = some M1) : Met l yX5_add wsX5_add ({ frames := 0, cells := 0, slots := 0, locals := 0 }) (va_Pc [.ref (ad (vb v0)), .int a1, .int a2] (wPre D sw cs LC NC ad M X sz)) (wQv D cs LC NC ad M1 X sz) 0 0 (wA NC ad X sz) :=
  met_w rfl rfl (Nat.le_of_ble_eq_true rfl) (fun p e s m args below meth c ls CX hr hlk hK hSW hP hD hS hA hl => bX5_add M v0 hv0 a1 a2 hq (by simp) CX ⟨Nat.le_refl _, Nat.le_refl _⟩ hK hSW hP hD hS hA hl (fun pc ls H locs M9 hv dg hP hD hS => W.vret CX.1 CX.2.1 hr (fun t ht hW => ⟨⟨(), rfl, trivial, wpost hP ht (Option.some.inj hv)⟩, hS.F ht⟩) hS.2.2 dg))

abbrev wsX5_hasSameTokens : List Cond := Cond.code yX5_hasSameTokens cX5_hasSameTokens 2 (some .boolean) :: WG
def gX5_hasSameTokens (M : Mm) (v0 : Nat) (v1 : Nat) : Option Int32 := if (M (vb v0) 2) = (M (vb v1) 2) then (bd (gX2_areSame M (vb v0 + 1) 80 (vb v1 + 1) 80 (M (vb v0) 2)) fun r2 => if r2 = 0 then (some (0 : Int32)) else some (1 : Int32)) else some (0 : Int32)
set_option maxHeartbeats 4000000 in
set_option maxRecDepth 100000 in
theorem bX5_hasSameTokens {p : Program} {l : Launch} {e : Env} {R : Room} {s : State} {m : MethodId} {args : Array Value} {below : List Frame} {meth : Method} {c : Code} {H : Heap} {locs : List Loc} {Q : State → Prop} {D : va_G} {sw : Sw} {cs : Cs} {ad : Nat → Nat} {X : va_W} (M : Mm) (v0 : Nat) (hv0 : v0 < 16) (v1 : Nat) (hv1 : v1 < 16) {res : Option Int32} (hg : gX5_hasSameTokens M v0 v1 = res) (hne : res ≠ none) (CX : CallFix p m c cX5_hasSameTokens 2 s args wsX5_hasSameTokens RX5) (hR : 2 ≤ R.frames ∧ 44 ≤ R.locals) (hK : va_K D vwCl (tysC cs) s) (hSW : SW sw (fun _ => False) s H) (hP : va_P D vwCl (wl cs LC NC ad M ++ X) H) {ls : Array Slot} (hl : lv_has ls 2 [(0, .ref (ad (vb v0))), (1, .ref (ad (vb v1)))]) (hret : ∀ (pc : Nat) (ls : Array Slot) (v : Int32), some v = res → decode cX5_hasSameTokens pc = .ok (.ireturn, 1) → narrow .boolean (.int v) = .int v → W p l e R s m args below meth c H locs 0 0 Q (F0 m pc ls [.int v])) : W p l e R s m args below meth c H locs 0 0 Q (F0 m 0 ls []) := by
  obtain ⟨hx, hb, hml, hown, hts⟩ := id CX
  have hw : ∀ w ∈ WG, w.before args s = true := fun w h => hts w (List.mem_cons_of_mem _ h)
  have lk_32 := hw _ m1_142
  have lk_9 := hw _ m1_138
  unfold gX5_hasSameTokens at hg
  refine lv_aload_n hx hb dX5_hasSameTokens_0 rfl (lv_at hl 0 rfl) ?_
  refine m_gi (C := RX5) (T := TX5) (n := 5) (ci := 3) hx hb hts in_RX5 hown hK hP (kC_v0 hv0) (LC_VAR v0) rfl 2 (by decide) rfl lk_32 (fun _ h9 => h9) dX5_hasSameTokens_1 ?_
  refine lv_aload_n hx hb dX5_hasSameTokens_4 rfl (lv_at hl 1 rfl) ?_
  refine m_gi (C := RX5) (T := TX5) (n := 5) (ci := 3) hx hb hts in_RX5 hown hK hP (kC_v0 hv1) (LC_VAR v1) rfl 2 (by decide) rfl lk_32 (fun _ h9 => h9) dX5_hasSameTokens_5 ?_
  refine lv_icmp_ne (tgt := 33) hx hb dX5_hasSameTokens_8 (by decide) (fun c1 => ?_) (fun c1 => ?_)
  · have hg := if_f hg c1
    refine lv_iconst (v := 0) hx hb dX5_hasSameTokens_33 (by decide) ?_
    exact hret _ _ _ hg dX5_hasSameTokens_34 rfl
  · have hg := if_t hg c1
    refine lv_aload_n hx hb dX5_hasSameTokens_11 rfl (lv_at hl 0 rfl) ?_
    refine m_gr (C := RX5) (T := TX5) (n := 5) (ci := 3) hx hb hts in_RX5 hown hK hP (kC_v0 hv0) (LC_VAR v0) rfl 0 (by decide) rfl lk_9 (fun _ h9 => h9) dX5_hasSameTokens_12 ?_
    refine lv_aload_n hx hb dX5_hasSameTokens_15 rfl (lv_at hl 1 rfl) ?_
    refine m_gr (C := RX5) (T := TX5) (n := 5) (ci := 3) hx hb hts in_RX5 hown hK hP (kC_v0 hv1) (LC_VAR v1) rfl 0 (by decide) rfl lk_9 (fun _ h9 => h9) dX5_hasSameTokens_16 ?_
    refine lv_aload_n hx hb dX5_hasSameTokens_19 rfl (lv_at hl 0 rfl) ?_
    refine m_gi (C := RX5) (T := TX5) (n := 5) (ci := 3) hx hb hts in_RX5 hown hK hP (kC_v0 hv0) (LC_VAR v0) rfl 2 (by decide) rfl lk_32 (fun _ h9 => h9) dX5_hasSameTokens_20 ?_
    obtain ⟨r2, q3, hg⟩ := bd_e hg hne
    refine r_calli (W.runS (As := [.ref (ad (vb v0 + 1)), .ref (ad (vb v1 + 1)), .int (M (vb v0) 2)]) (rest := []) CX (ctX2_areSame l D sw cs ad X M (vb v0 + 1) 80 (kC_v (j := 1) hv0 (by decide)) (LC_VTOK v0) (vb v1 + 1) 80 (kC_v (j := 1) hv1 (by decide)) (LC_VTOK v1) (M (vb v0) 2) q3) (va_cwS 3 hts (gwS m3_88 m2_153 m1_19 m2_154) rfl rfl rfl (by decide +kernel) ⟨Nat.le_trans (Nat.le_of_ble_eq_true rfl) hR.1, Nat.le_trans (Nat.le_of_ble_eq_true rfl) hR.2⟩) (rPreS hSW hK hP _) rfl rfl hl.1 rfl (lv_room (Nat.le_of_ble_eq_true rfl)) dX5_hasSameTokens_23 ⟨Nat.zero_le _, Nat.zero_le _⟩) ?_
    refine lv_if_eq (tgt := 33) hx hb dX5_hasSameTokens_26 (by decide) (fun c4 => ?_) (fun c4 => ?_)
    · have hg := if_t hg c4
      refine lv_iconst (v := 0) hx hb dX5_hasSameTokens_33 (by decide) ?_
      exact hret _ _ _ hg dX5_hasSameTokens_34 rfl
    · have hg := if_f hg c4
      refine lv_iconst (v := 1) hx hb dX5_hasSameTokens_29 (by decide) ?_
      refine lv_goto (tgt := 34) hx hb dX5_hasSameTokens_30 (by decide) ?_
      exact hret _ _ _ hg dX5_hasSameTokens_34 rfl
theorem ctX5_hasSameTokens (l : Launch) (D : va_G) (sw : Sw) (cs : Cs) (ad : Nat → Nat) (X : va_W) (M : Mm) (v0 : Nat) (hv0 : v0 < 16) (v1 : Nat) (hv1 : v1 < 16) {r : Int32} (hq : gX5_hasSameTokens M v0 v1 = some r) : Met l yX5_hasSameTokens wsX5_hasSameTokens ({ frames := 2, cells := 0, slots := 0, locals := 44 }) (va_Pc [.ref (ad (vb v0)), .ref (ad (vb v1))] (rPre D sw cs LC NC ad M X)) (vp_Si (fun r' => r' = r)) 0 0 (fun _ => False) :=
  met_r rfl rfl (Nat.le_of_ble_eq_true rfl) (fun p e s m args below meth c ls CX hr hlk hK hSW hP hl => bX5_hasSameTokens M v0 hv0 v1 hv1 hq (by simp) CX ⟨Nat.le_refl _, Nat.le_refl _⟩ hK hSW hP hl (fun pc ls v hv dg hz => W.zret (ty := .boolean) CX.1 CX.2.1 hr hz (fun t ht hW => ⟨_, rfl, Option.some.inj hv, ht⟩) (fun _ h => by cases h) dg))

abbrev wsX6_isPresent : List Cond := Cond.code yX6_isPresent cX6_isPresent 3 (some .boolean) :: WG
def gX6_isPresent (M : Mm) (a1 : Int32) (a2 : Int32) : Option Int32 := if (a1 < 0 ∨ 80 ≤ (a1).toNatClampNeg) then none else if (((M 4 (a1).toNatClampNeg) >>> (a2 &&& 31)) &&& (1 : Int32)) = (1 : Int32) then (some (1 : Int32)) else some (0 : Int32)
set_option maxHeartbeats 4000000 in
set_option maxRecDepth 100000 in
theorem bX6_isPresent {p : Program} {l : Launch} {e : Env} {R : Room} {s : State} {m : MethodId} {args : Array Value} {below : List Frame} {meth : Method} {c : Code} {H : Heap} {locs : List Loc} {Q : State → Prop} {D : va_G} {sw : Sw} {cs : Cs} {ad : Nat → Nat} {X : va_W} (M : Mm) (a1 : Int32) (a2 : Int32) {res : Option Int32} (hg : gX6_isPresent M a1 a2 = res) (hne : res ≠ none) (CX : CallFix p m c cX6_isPresent 3 s args wsX6_isPresent RX6) (hR : 0 ≤ R.frames ∧ 0 ≤ R.locals) (hK : va_K D vwCl (tysC cs) s) (hSW : SW sw (fun _ => False) s H) (hP : va_P D vwCl (wl cs LC NC ad M ++ X) H) {ls : Array Slot} (hl : lv_has ls 3 [(0, .ref (ad 3)), (1, .int a1), (2, .int a2)]) (hret : ∀ (pc : Nat) (ls : Array Slot) (v : Int32), some v = res → decode cX6_isPresent pc = .ok (.ireturn, 1) → narrow .boolean (.int v) = .int v → W p l e R s m args below meth c H locs 0 0 Q (F0 m pc ls [.int v])) : W p l e R s m args below meth c H locs 0 0 Q (F0 m 0 ls []) := by
  obtain ⟨hx, hb, hml, hown, hts⟩ := id CX
  have hw : ∀ w ∈ WG, w.before args s = true := fun w h => hts w (List.mem_cons_of_mem _ h)
  have lk_9 := hw _ m1_56
  unfold gX6_isPresent at hg
  refine lv_aload_n hx hb dX6_isPresent_0 rfl (lv_at hl 0 rfl) ?_
  refine m_gr (C := RX6) (T := TX6) (n := 7) (ci := 4) hx hb hts in_RX6 hown hK hP (by decide) rfl rfl 0 (by decide) rfl lk_9 (fun _ h9 => h9) dX6_isPresent_1 ?_
  refine lv_iload_n hx hb dX6_isPresent_4 rfl (lv_at hl 1 rfl) ?_
  obtain ⟨b1, hg⟩ := ck_e hg hne
  refine m_ld hx hb hK hP (by decide) rfl b1 dX6_isPresent_5 ?_
  refine lv_iload_n hx hb dX6_isPresent_6 rfl (lv_at hl 2 rfl) ?_
  refine lv_ishr hx hb dX6_isPresent_7 ?_
  refine lv_iconst (v := 1) hx hb dX6_isPresent_8 (by decide) ?_
  refine lv_iand hx hb dX6_isPresent_9 ?_
  refine lv_iconst (v := 1) hx hb dX6_isPresent_10 (by decide) ?_
  refine lv_icmp_ne (tgt := 18) hx hb dX6_isPresent_11 (by decide) (fun c2 => ?_) (fun c2 => ?_)
  · have hg := if_f hg c2
    refine lv_iconst (v := 0) hx hb dX6_isPresent_18 (by decide) ?_
    exact hret _ _ _ hg dX6_isPresent_19 rfl
  · have hg := if_t hg c2
    refine lv_iconst (v := 1) hx hb dX6_isPresent_14 (by decide) ?_
    refine lv_goto (tgt := 19) hx hb dX6_isPresent_15 (by decide) ?_
    exact hret _ _ _ hg dX6_isPresent_19 rfl
theorem ctX6_isPresent (l : Launch) (D : va_G) (sw : Sw) (cs : Cs) (ad : Nat → Nat) (X : va_W) (M : Mm) (a1 : Int32) (a2 : Int32) {r : Int32} (hq : gX6_isPresent M a1 a2 = some r) : Met l yX6_isPresent wsX6_isPresent ({ frames := 0, cells := 0, slots := 0, locals := 0 }) (va_Pc [.ref (ad 3), .int a1, .int a2] (rPre D sw cs LC NC ad M X)) (vp_Si (fun r' => r' = r)) 0 0 (fun _ => False) :=
  met_r rfl rfl (Nat.le_of_ble_eq_true rfl) (fun p e s m args below meth c ls CX hr hlk hK hSW hP hl => bX6_isPresent M a1 a2 hq (by simp) CX ⟨Nat.le_refl _, Nat.le_refl _⟩ hK hSW hP hl (fun pc ls v hv dg hz => W.zret (ty := .boolean) CX.1 CX.2.1 hr hz (fun t ht hW => ⟨_, rfl, Option.some.inj hv, ht⟩) (fun _ h => by cases h) dg))

abbrev wsX6_enter : List Cond := Cond.code yX6_enter cX6_enter 3 none :: WG
def gX6_enter (M : Mm) (a1 : Int32) : Option Mm := if (M 3 6) < 0 then (some M) else if (M 3 6) < (5 : Int32) then (if ((gX4_featureOf a1) < 0 ∨ 4 ≤ ((gX4_featureOf a1)).toNatClampNeg) then none else lt (M 10 ((gX4_featureOf a1)).toNatClampNeg) fun x4 => lt (fun (M6 : Mm) (x7 : Int32) => if ((M6 3 6) < 0 ∨ 5 ≤ ((M6 3 6)).toNatClampNeg) then none else lt (um M6 11 ((M6 3 6)).toNatClampNeg (M6 3 5)) fun M10 => if ((M10 3 6) < 0 ∨ 5 ≤ ((M10 3 6)).toNatClampNeg) then none else lt (um M10 12 ((M10 3 6)).toNatClampNeg ((M10 3 5) &&& (x7 ^^^ (-1 : Int32)))) fun M12 => lt (um M12 3 5 ((M12 3 5) &&& x7)) fun M13 => lt (um M13 3 6 ((M13 3 6) + (1 : Int32))) fun M14 => some M14) fun J8 => if (gX4_isForOn a1) = 0 then (J8 M (x4 ^^^ (-1 : Int32))) else J8 M x4) else some M
set_option maxHeartbeats 4000000 in
set_option maxRecDepth 100000 in
theorem bX6_enter {p : Program} {l : Launch} {e : Env} {R : Room} {s : State} {m : MethodId} {args : Array Value} {below : List Frame} {meth : Method} {c : Code} {H : Heap} {locs : List Loc} {Q : State → Prop} {D : va_G} {sw : Sw} {cs : Cs} {ad : Nat → Nat} {X : va_W} {A : Nat → Prop} (M : Mm) (a1 : Int32) {res : Option Mm} (hg : gX6_enter M a1 = res) (hne : res ≠ none) (CX : CallFix p m c cX6_enter 3 s args wsX6_enter RX6) (hR : 1 ≤ R.frames ∧ 20 ≤ R.locals) (hK : va_K D vwCl (tysC cs) s) (hSW : SW sw A s s.heap) (hP : va_P D vwCl (wl cs LC NC ad M ++ X) H) (hD : va_D A (wl cs LC NC ad M ++ X)) (hS : va_S A s.heap H locs) (hA : ∀ q, s.heap.size ≤ q → A q) {ls : Array Slot} (hl : lv_has ls 3 [(0, .ref (ad 3)), (1, .int a1)]) (hret : ∀ (pc : Nat) (ls : Array Slot) (H : Heap) (locs : List Loc) (M9 : Mm), some M9 = res → decode cX6_enter pc = .ok (.return_, 1) → va_P D vwCl (wl cs LC NC ad M9 ++ X) H → va_D A (wl cs LC NC ad M9 ++ X) → va_S A s.heap H locs → W p l e R s m args below meth c H locs 0 0 Q (F0 m pc ls [])) : W p l e R s m args below meth c H locs 0 0 Q (F0 m 0 ls []) := by
  obtain ⟨hx, hb, hml, hown, hts⟩ := id CX
  have hw : ∀ w ∈ WG, w.before args s = true := fun w h => hts w (List.mem_cons_of_mem _ h)
  have lk_34 := hw _ m1_63
  have lk_20 := hw _ m1_59
  have lk_23 := hw _ m1_60
  have lk_30 := hw _ m1_62
  have lk_26 := hw _ m1_61
  unfold gX6_enter at hg
  refine lv_aload_n hx hb dX6_enter_0 rfl (lv_at hl 0 rfl) ?_
  refine m_gi (C := RX6) (T := TX6) (n := 7) (ci := 4) hx hb hts in_RX6 hown hK hP (by decide) rfl rfl 6 (by decide) rfl lk_34 (fun _ h9 => h9) dX6_enter_1 ?_
  refine lv_if_lt (tgt := 15) hx hb dX6_enter_4 (by decide) (fun c1 => ?_) (fun c1 => ?_)
  · have hg := if_t hg c1
    exact hret _ _ _ _ _ hg dX6_enter_15 hP hD hS
  · have hg := if_f hg c1
    refine lv_aload_n hx hb dX6_enter_7 rfl (lv_at hl 0 rfl) ?_
    refine m_gi (C := RX6) (T := TX6) (n := 7) (ci := 4) hx hb hts in_RX6 hown hK hP (by decide) rfl rfl 6 (by decide) rfl lk_34 (fun _ h9 => h9) dX6_enter_8 ?_
    refine lv_iconst (v := 5) hx hb dX6_enter_11 (by decide) ?_
    refine lv_icmp_lt (tgt := 16) hx hb dX6_enter_12 (by decide) (fun c2 => ?_) (fun c2 => ?_)
    · have hg := if_t hg c2
      refine lv_aload_n hx hb dX6_enter_16 rfl (lv_at hl 0 rfl) ?_
      refine m_gr (C := RX6) (T := TX6) (n := 7) (ci := 4) hx hb hts in_RX6 hown hK hP (by decide) rfl rfl 2 (by decide) rfl lk_20 (fun _ h9 => h9) dX6_enter_17 ?_
      refine lv_iload_n hx hb dX6_enter_20 rfl (lv_at hl 1 rfl) ?_
      refine r_calli (W.runS (As := [.int a1]) (rest := [.ref (ad 10)]) CX (ctX4_featureOf l a1) (va_cwS 1 hts (gwS m2_94 m2_95 m1_2 m2_96) rfl rfl rfl (by decide +kernel) ⟨Nat.le_trans (Nat.le_of_ble_eq_true rfl) hR.1, Nat.le_trans (Nat.le_of_ble_eq_true rfl) hR.2⟩) (pPreS _) rfl rfl hl.1 rfl (lv_room (Nat.le_of_ble_eq_true rfl)) dX6_enter_21 ⟨Nat.zero_le _, Nat.zero_le _⟩) ?_
      obtain ⟨b3, hg⟩ := ck_e hg hne
      refine m_ld hx hb hK hP (by decide) rfl b3 dX6_enter_24 ?_
      obtain ⟨x4, hx4, hg⟩ := lt_e hg
      refine top_i hx4 ?_
      refine lv_istore_n (lv' := [(2, .int x4), (0, .ref (ad 3)), (1, .int a1)]) hx hb dX6_enter_25 rfl hl (by decide) rfl (fun ls hl => ?_)
      refine lv_iload_n hx hb dX6_enter_26 rfl (lv_at hl 2 rfl) ?_
      refine r_calli (W.runS (As := [.int a1]) (rest := []) CX (ctX4_isForOn l a1) (va_cwS 1 hts (gwS m2_97 m2_98 m1_2 m2_99) rfl rfl rfl (by decide +kernel) ⟨Nat.le_trans (Nat.le_of_ble_eq_true rfl) hR.1, Nat.le_trans (Nat.le_of_ble_eq_true rfl) hR.2⟩) (pPreS _) rfl rfl hl.1 rfl (lv_room (Nat.le_of_ble_eq_true rfl)) dX6_enter_27 ⟨Nat.zero_le _, Nat.zero_le _⟩) ?_
      obtain ⟨J8, hJ8, hg⟩ := lf2 hg
      have kJ8 : ∀ (M6 : Mm) (x7 : Int32) (H : Heap) (locs : List Loc) (ls : Array Slot), va_P D vwCl (wl cs LC NC ad M6 ++ X) H → va_D A (wl cs LC NC ad M6 ++ X) → va_S A s.heap H locs → lv_has ls 3 [(0, .ref (ad 3)), (2, .int x7)] → J8 M6 x7 = res → W p l e R s m args below meth c H locs 0 0 Q (F0 m 37 ls []) := by
        intro M6 x7 H locs ls hP hD hS hl hg
        rw [hJ8] at hg
        refine lv_aload_n hx hb dX6_enter_37 rfl (lv_at hl 0 rfl) ?_
        refine m_gr (C := RX6) (T := TX6) (n := 7) (ci := 4) hx hb hts in_RX6 hown hK hP (by decide) rfl rfl 3 (by decide) rfl lk_23 (fun _ h9 => h9) dX6_enter_38 ?_
        refine lv_aload_n hx hb dX6_enter_41 rfl (lv_at hl 0 rfl) ?_
        refine m_gi (C := RX6) (T := TX6) (n := 7) (ci := 4) hx hb hts in_RX6 hown hK hP (by decide) rfl rfl 6 (by decide) rfl lk_34 (fun _ h9 => h9) dX6_enter_42 ?_
        refine lv_aload_n hx hb dX6_enter_45 rfl (lv_at hl 0 rfl) ?_
        refine m_gi (C := RX6) (T := TX6) (n := 7) (ci := 4) hx hb hts in_RX6 hown hK hP (by decide) rfl rfl 5 (by decide) rfl lk_30 (fun _ h9 => h9) dX6_enter_46 ?_
        obtain ⟨b9, hg⟩ := ck_e hg hne
        obtain ⟨M10, hM10, hg⟩ := lt_e hg
        refine m_st hx hb hK hP hD hS (by decide) rfl b9 dX6_enter_49 hM10 (fun H locs hP hD hS => ?_)
        refine lv_aload_n hx hb dX6_enter_50 rfl (lv_at hl 0 rfl) ?_
        refine m_gr (C := RX6) (T := TX6) (n := 7) (ci := 4) hx hb hts in_RX6 hown hK hP (by decide) rfl rfl 4 (by decide) rfl lk_26 (fun _ h9 => h9) dX6_enter_51 ?_
        refine lv_aload_n hx hb dX6_enter_54 rfl (lv_at hl 0 rfl) ?_
        refine m_gi (C := RX6) (T := TX6) (n := 7) (ci := 4) hx hb hts in_RX6 hown hK hP (by decide) rfl rfl 6 (by decide) rfl lk_34 (fun _ h9 => h9) dX6_enter_55 ?_
        refine lv_aload_n hx hb dX6_enter_58 rfl (lv_at hl 0 rfl) ?_
        refine m_gi (C := RX6) (T := TX6) (n := 7) (ci := 4) hx hb hts in_RX6 hown hK hP (by decide) rfl rfl 5 (by decide) rfl lk_30 (fun _ h9 => h9) dX6_enter_59 ?_
        refine lv_iload_n hx hb dX6_enter_62 rfl (lv_at hl 1 rfl) ?_
        refine lv_iconst (v := -1) hx hb dX6_enter_63 (by decide) ?_
        refine lv_ixor hx hb dX6_enter_64 ?_
        refine lv_iand hx hb dX6_enter_65 ?_
        obtain ⟨b11, hg⟩ := ck_e hg hne
        obtain ⟨M12, hM12, hg⟩ := lt_e hg
        refine m_st hx hb hK hP hD hS (by decide) rfl b11 dX6_enter_66 hM12 (fun H locs hP hD hS => ?_)
        refine lv_aload_n hx hb dX6_enter_67 rfl (lv_at hl 0 rfl) ?_
        refine lv_dup hx hb dX6_enter_68 rfl ?_
        refine m_gi (C := RX6) (T := TX6) (n := 7) (ci := 4) hx hb hts in_RX6 hown hK hP (by decide) rfl rfl 5 (by decide) rfl lk_30 (fun _ h9 => h9) dX6_enter_69 ?_
        refine lv_iload_n hx hb dX6_enter_72 rfl (lv_at hl 1 rfl) ?_
        refine lv_iand hx hb dX6_enter_73 ?_
        obtain ⟨M13, hM13, hg⟩ := lt_e hg
        refine m_pi (C := RX6) (T := TX6) (n := 7) (ci := 4) hx hb hts in_RX6 tyX6 tyX6_ok nmX6 hown hK hP hD hS (by decide) rfl rfl 5 (by decide) rfl lk_30 (fun _ h9 => h9) rfl rfl rfl dX6_enter_74 hM13 (fun H locs hP hD hS => ?_)
        refine lv_aload_n hx hb dX6_enter_77 rfl (lv_at hl 0 rfl) ?_
        refine lv_dup hx hb dX6_enter_78 rfl ?_
        refine m_gi (C := RX6) (T := TX6) (n := 7) (ci := 4) hx hb hts in_RX6 hown hK hP (by decide) rfl rfl 6 (by decide) rfl lk_34 (fun _ h9 => h9) dX6_enter_79 ?_
        refine lv_iconst (v := 1) hx hb dX6_enter_82 (by decide) ?_
        refine lv_iadd hx hb dX6_enter_83 ?_
        obtain ⟨M14, hM14, hg⟩ := lt_e hg
        refine m_pi (C := RX6) (T := TX6) (n := 7) (ci := 4) hx hb hts in_RX6 tyX6 tyX6_ok nmX6 hown hK hP hD hS (by decide) rfl rfl 6 (by decide) rfl lk_34 (fun _ h9 => h9) rfl rfl rfl dX6_enter_84 hM14 (fun H locs hP hD hS => ?_)
        exact hret _ _ _ _ _ hg dX6_enter_87 hP hD hS
      refine lv_if_ne (tgt := 37) hx hb dX6_enter_30 (by decide) (fun c5 => ?_) (fun c5 => ?_)
      · have hg := if_f hg c5
        exact kJ8 _ _ _ _ _ hP hD hS (lv_sub hl [1, 0] rfl) hg
      · have hg := if_t hg c5
        refine lv_iload_n hx hb dX6_enter_33 rfl (lv_at hl 0 rfl) ?_
        refine lv_iconst (v := -1) hx hb dX6_enter_34 (by decide) ?_
        refine lv_ixor hx hb dX6_enter_35 ?_
        refine lv_istore_n (lv' := [(2, .int (x4 ^^^ (-1 : Int32))), (0, .ref (ad 3)), (1, .int a1)]) hx hb dX6_enter_36 rfl hl (by decide) rfl (fun ls hl => ?_)
        exact kJ8 _ _ _ _ _ hP hD hS (lv_sub hl [1, 0] rfl) hg
    · have hg := if_f hg c2
      exact hret _ _ _ _ _ hg dX6_enter_15 hP hD hS
theorem ctX6_enter (l : Launch) (D : va_G) (sw : Sw) (cs : Cs) (ad : Nat → Nat) (X : va_W) (sz : Nat) (M : Mm) (a1 : Int32) {M1 : Mm} (hq : gX6_enter M a1 = some M1) : Met l yX6_enter wsX6_enter ({ frames := 1, cells := 0, slots := 0, locals := 20 }) (va_Pc [.ref (ad 3), .int a1] (wPre D sw cs LC NC ad M X sz)) (wQv D cs LC NC ad M1 X sz) 0 0 (wA NC ad X sz) :=
  met_w rfl rfl (Nat.le_of_ble_eq_true rfl) (fun p e s m args below meth c ls CX hr hlk hK hSW hP hD hS hA hl => bX6_enter M a1 hq (by simp) CX ⟨Nat.le_refl _, Nat.le_refl _⟩ hK hSW hP hD hS hA hl (fun pc ls H locs M9 hv dg hP hD hS => W.vret CX.1 CX.2.1 hr (fun t ht hW => ⟨⟨(), rfl, trivial, wpost hP ht (Option.some.inj hv)⟩, hS.F ht⟩) hS.2.2 dg))

abbrev wsX6_turn : List Cond := Cond.code yX6_turn cX6_turn 3 none :: WG
def gX6_turn (M : Mm) (a1 : Int32) : Option Mm := if (gX4_isForOn a1) = 0 then (if ((gX4_featureOf a1) < 0 ∨ 4 ≤ ((gX4_featureOf a1)).toNatClampNeg) then none else if ((gX4_featureOf a1) < 0 ∨ 4 ≤ ((gX4_featureOf a1)).toNatClampNeg) then none else lt (um M 10 ((gX4_featureOf a1)).toNatClampNeg ((M 10 ((gX4_featureOf a1)).toNatClampNeg) &&& ((M 3 5) ^^^ (-1 : Int32)))) fun M4 => some M4) else if ((gX4_featureOf a1) < 0 ∨ 4 ≤ ((gX4_featureOf a1)).toNatClampNeg) then none else if ((gX4_featureOf a1) < 0 ∨ 4 ≤ ((gX4_featureOf a1)).toNatClampNeg) then none else lt (um M 10 ((gX4_featureOf a1)).toNatClampNeg ((M 10 ((gX4_featureOf a1)).toNatClampNeg) ||| (M 3 5))) fun M7 => some M7
set_option maxHeartbeats 4000000 in
set_option maxRecDepth 100000 in
theorem bX6_turn {p : Program} {l : Launch} {e : Env} {R : Room} {s : State} {m : MethodId} {args : Array Value} {below : List Frame} {meth : Method} {c : Code} {H : Heap} {locs : List Loc} {Q : State → Prop} {D : va_G} {sw : Sw} {cs : Cs} {ad : Nat → Nat} {X : va_W} {A : Nat → Prop} (M : Mm) (a1 : Int32) {res : Option Mm} (hg : gX6_turn M a1 = res) (hne : res ≠ none) (CX : CallFix p m c cX6_turn 3 s args wsX6_turn RX6) (hR : 1 ≤ R.frames ∧ 20 ≤ R.locals) (hK : va_K D vwCl (tysC cs) s) (hSW : SW sw A s s.heap) (hP : va_P D vwCl (wl cs LC NC ad M ++ X) H) (hD : va_D A (wl cs LC NC ad M ++ X)) (hS : va_S A s.heap H locs) (hA : ∀ q, s.heap.size ≤ q → A q) {ls : Array Slot} (hl : lv_has ls 3 [(0, .ref (ad 3)), (1, .int a1)]) (hret : ∀ (pc : Nat) (ls : Array Slot) (H : Heap) (locs : List Loc) (M9 : Mm), some M9 = res → decode cX6_turn pc = .ok (.return_, 1) → va_P D vwCl (wl cs LC NC ad M9 ++ X) H → va_D A (wl cs LC NC ad M9 ++ X) → va_S A s.heap H locs → W p l e R s m args below meth c H locs 0 0 Q (F0 m pc ls [])) : W p l e R s m args below meth c H locs 0 0 Q (F0 m 0 ls []) := by
  obtain ⟨hx, hb, hml, hown, hts⟩ := id CX
  have hw : ∀ w ∈ WG, w.before args s = true := fun w h => hts w (List.mem_cons_of_mem _ h)
  have lk_20 := hw _ m1_59
  have lk_30 := hw _ m1_62
  unfold gX6_turn at hg
  refine lv_iload_n hx hb dX6_turn_0 rfl (lv_at hl 1 rfl) ?_
  refine r_calli (W.runS (As := [.int a1]) (rest := []) CX (ctX4_featureOf l a1) (va_cwS 1 hts (gwS m2_94 m2_95 m1_2 m2_96) rfl rfl rfl (by decide +kernel) ⟨Nat.le_trans (Nat.le_of_ble_eq_true rfl) hR.1, Nat.le_trans (Nat.le_of_ble_eq_true rfl) hR.2⟩) (pPreS _) rfl rfl hl.1 rfl (lv_room (Nat.le_of_ble_eq_true rfl)) dX6_turn_1 ⟨Nat.zero_le _, Nat.zero_le _⟩) ?_
  refine lv_istore_n (lv' := [(2, .int (gX4_featureOf a1)), (0, .ref (ad 3)), (1, .int a1)]) hx hb dX6_turn_4 rfl hl (by decide) rfl (fun ls hl => ?_)
  refine lv_iload_n hx hb dX6_turn_5 rfl (lv_at hl 2 rfl) ?_
  refine r_calli (W.runS (As := [.int a1]) (rest := []) CX (ctX4_isForOn l a1) (va_cwS 1 hts (gwS m2_97 m2_98 m1_2 m2_99) rfl rfl rfl (by decide +kernel) ⟨Nat.le_trans (Nat.le_of_ble_eq_true rfl) hR.1, Nat.le_trans (Nat.le_of_ble_eq_true rfl) hR.2⟩) (pPreS _) rfl rfl hl.1 rfl (lv_room (Nat.le_of_ble_eq_true rfl)) dX6_turn_6 ⟨Nat.zero_le _, Nat.zero_le _⟩) ?_
  refine lv_if_eq (tgt := 28) hx hb dX6_turn_9 (by decide) (fun c1 => ?_) (fun c1 => ?_)
  · have hg := if_t hg c1
    refine lv_aload_n hx hb dX6_turn_28 rfl (lv_at hl 1 rfl) ?_
    refine m_gr (C := RX6) (T := TX6) (n := 7) (ci := 4) hx hb hts in_RX6 hown hK hP (by decide) rfl rfl 2 (by decide) rfl lk_20 (fun _ h9 => h9) dX6_turn_29 ?_
    refine lv_iload_n hx hb dX6_turn_32 rfl (lv_at hl 0 rfl) ?_
    refine lv_dup2_11 hx hb dX6_turn_33 rfl rfl ?_
    obtain ⟨b2, hg⟩ := ck_e hg hne
    refine m_ld hx hb hK hP (by decide) rfl b2 dX6_turn_34 ?_
    refine lv_aload_n hx hb dX6_turn_35 rfl (lv_at hl 1 rfl) ?_
    refine m_gi (C := RX6) (T := TX6) (n := 7) (ci := 4) hx hb hts in_RX6 hown hK hP (by decide) rfl rfl 5 (by decide) rfl lk_30 (fun _ h9 => h9) dX6_turn_36 ?_
    refine lv_iconst (v := -1) hx hb dX6_turn_39 (by decide) ?_
    refine lv_ixor hx hb dX6_turn_40 ?_
    refine lv_iand hx hb dX6_turn_41 ?_
    obtain ⟨b3, hg⟩ := ck_e hg hne
    obtain ⟨M4, hM4, hg⟩ := lt_e hg
    refine m_st hx hb hK hP hD hS (by decide) rfl b3 dX6_turn_42 hM4 (fun H locs hP hD hS => ?_)
    exact hret _ _ _ _ _ hg dX6_turn_43 hP hD hS
  · have hg := if_f hg c1
    refine lv_aload_n hx hb dX6_turn_12 rfl (lv_at hl 1 rfl) ?_
    refine m_gr (C := RX6) (T := TX6) (n := 7) (ci := 4) hx hb hts in_RX6 hown hK hP (by decide) rfl rfl 2 (by decide) rfl lk_20 (fun _ h9 => h9) dX6_turn_13 ?_
    refine lv_iload_n hx hb dX6_turn_16 rfl (lv_at hl 0 rfl) ?_
    refine lv_dup2_11 hx hb dX6_turn_17 rfl rfl ?_
    obtain ⟨b5, hg⟩ := ck_e hg hne
    refine m_ld hx hb hK hP (by decide) rfl b5 dX6_turn_18 ?_
    refine lv_aload_n hx hb dX6_turn_19 rfl (lv_at hl 1 rfl) ?_
    refine m_gi (C := RX6) (T := TX6) (n := 7) (ci := 4) hx hb hts in_RX6 hown hK hP (by decide) rfl rfl 5 (by decide) rfl lk_30 (fun _ h9 => h9) dX6_turn_20 ?_
    refine lv_ior hx hb dX6_turn_23 ?_
    obtain ⟨b6, hg⟩ := ck_e hg hne
    obtain ⟨M7, hM7, hg⟩ := lt_e hg
    refine m_st hx hb hK hP hD hS (by decide) rfl b6 dX6_turn_24 hM7 (fun H locs hP hD hS => ?_)
    refine lv_goto (tgt := 43) hx hb dX6_turn_25 (by decide) ?_
    exact hret _ _ _ _ _ hg dX6_turn_43 hP hD hS
theorem ctX6_turn (l : Launch) (D : va_G) (sw : Sw) (cs : Cs) (ad : Nat → Nat) (X : va_W) (sz : Nat) (M : Mm) (a1 : Int32) {M1 : Mm} (hq : gX6_turn M a1 = some M1) : Met l yX6_turn wsX6_turn ({ frames := 1, cells := 0, slots := 0, locals := 20 }) (va_Pc [.ref (ad 3), .int a1] (wPre D sw cs LC NC ad M X sz)) (wQv D cs LC NC ad M1 X sz) 0 0 (wA NC ad X sz) :=
  met_w rfl rfl (Nat.le_of_ble_eq_true rfl) (fun p e s m args below meth c ls CX hr hlk hK hSW hP hD hS hA hl => bX6_turn M a1 hq (by simp) CX ⟨Nat.le_refl _, Nat.le_refl _⟩ hK hSW hP hD hS hA hl (fun pc ls H locs M9 hv dg hP hD hS => W.vret CX.1 CX.2.1 hr (fun t ht hW => ⟨⟨(), rfl, trivial, wpost hP ht (Option.some.inj hv)⟩, hS.F ht⟩) hS.2.2 dg))

abbrev wsX6_step : List Cond := Cond.code yX6_step cX6_step 3 none :: WG
def gX6_step (M : Mm) (a1 : Int32) (a2 : Int32) : Option Mm := if (gX4_isWhen a1) = 0 then (if (gX4_isSet a1) = 0 then (if (M 3 6) ≤ 0 then (some M) else if (5 : Int32) < (M 3 6) then (some M) else if a1 = (16 : Int32) then (if (((M 3 6) - (1 : Int32)) < 0 ∨ 5 ≤ (((M 3 6) - (1 : Int32))).toNatClampNeg) then none else if (a2 < 0 ∨ 80 ≤ (a2).toNatClampNeg) then none else lt (um M 4 (a2).toNatClampNeg (M 11 (((M 3 6) - (1 : Int32))).toNatClampNeg)) fun M15 => if (((M15 3 6) - (1 : Int32)) < 0 ∨ 5 ≤ (((M15 3 6) - (1 : Int32))).toNatClampNeg) then none else lt (um M15 3 5 (M15 12 (((M15 3 6) - (1 : Int32))).toNatClampNeg)) fun M17 => some M17) else if a1 = (17 : Int32) then (if (((M 3 6) - (1 : Int32)) < 0 ∨ 5 ≤ (((M 3 6) - (1 : Int32))).toNatClampNeg) then none else if (a2 < 0 ∨ 80 ≤ (a2).toNatClampNeg) then none else lt (um M 4 (a2).toNatClampNeg (M 11 (((M 3 6) - (1 : Int32))).toNatClampNeg)) fun M9 => if (((M9 3 6) - (1 : Int32)) < 0 ∨ 5 ≤ (((M9 3 6) - (1 : Int32))).toNatClampNeg) then none else lt (um M9 3 5 (M9 11 (((M9 3 6) - (1 : Int32))).toNatClampNeg)) fun M11 => lt (um M11 3 6 ((M11 3 6) - (1 : Int32))) fun M12 => some M12) else some M) else bd (gX6_turn M a1) fun M19 => some M19) else bd (gX6_enter M a1) fun M21 => some M21
set_option maxHeartbeats 4000000 in
set_option maxRecDepth 100000 in
theorem bX6_step {p : Program} {l : Launch} {e : Env} {R : Room} {s : State} {m : MethodId} {args : Array Value} {below : List Frame} {meth : Method} {c : Code} {H : Heap} {locs : List Loc} {Q : State → Prop} {D : va_G} {sw : Sw} {cs : Cs} {ad : Nat → Nat} {X : va_W} {A : Nat → Prop} (M : Mm) (a1 : Int32) (a2 : Int32) {res : Option Mm} (hg : gX6_step M a1 a2 = res) (hne : res ≠ none) (CX : CallFix p m c cX6_step 3 s args wsX6_step RX6) (hR : 2 ≤ R.frames ∧ 42 ≤ R.locals) (hK : va_K D vwCl (tysC cs) s) (hSW : SW sw A s s.heap) (hP : va_P D vwCl (wl cs LC NC ad M ++ X) H) (hD : va_D A (wl cs LC NC ad M ++ X)) (hS : va_S A s.heap H locs) (hA : ∀ q, s.heap.size ≤ q → A q) {ls : Array Slot} (hl : lv_has ls 3 [(0, .ref (ad 3)), (1, .int a1), (2, .int a2)]) (hret : ∀ (pc : Nat) (ls : Array Slot) (H : Heap) (locs : List Loc) (M9 : Mm), some M9 = res → decode cX6_step pc = .ok (.return_, 1) → va_P D vwCl (wl cs LC NC ad M9 ++ X) H → va_D A (wl cs LC NC ad M9 ++ X) → va_S A s.heap H locs → W p l e R s m args below meth c H locs 0 0 Q (F0 m pc ls [])) : W p l e R s m args below meth c H locs 0 0 Q (F0 m 0 ls []) := by
  obtain ⟨hx, hb, hml, hown, hts⟩ := id CX
  have hw : ∀ w ∈ WG, w.before args s = true := fun w h => hts w (List.mem_cons_of_mem _ h)
  have lk_34 := hw _ m1_63
  have lk_9 := hw _ m1_56
  have lk_23 := hw _ m1_60
  have lk_30 := hw _ m1_62
  have lk_26 := hw _ m1_61
  unfold gX6_step at hg
  refine lv_iload_n hx hb dX6_step_0 rfl (lv_at hl 1 rfl) ?_
  refine r_calli (W.runS (As := [.int a1]) (rest := []) CX (ctX4_isWhen l a1) (va_cwS 1 hts (gwS m2_87 m2_88 m1_2 m2_89) rfl rfl rfl (by decide +kernel) ⟨Nat.le_trans (Nat.le_of_ble_eq_true rfl) hR.1, Nat.le_trans (Nat.le_of_ble_eq_true rfl) hR.2⟩) (pPreS _) rfl rfl hl.1 rfl (lv_room (Nat.le_of_ble_eq_true rfl)) dX6_step_1 ⟨Nat.zero_le _, Nat.zero_le _⟩) ?_
  refine lv_if_eq (tgt := 15) hx hb dX6_step_4 (by decide) (fun c1 => ?_) (fun c1 => ?_)
  · have hg := if_t hg c1
    refine lv_iload_n hx hb dX6_step_15 rfl (lv_at hl 1 rfl) ?_
    refine r_calli (W.runS (As := [.int a1]) (rest := []) CX (ctX4_isSet l a1) (va_cwS 1 hts (gwS m2_100 m2_101 m1_2 m2_102) rfl rfl rfl (by decide +kernel) ⟨Nat.le_trans (Nat.le_of_ble_eq_true rfl) hR.1, Nat.le_trans (Nat.le_of_ble_eq_true rfl) hR.2⟩) (pPreS _) rfl rfl hl.1 rfl (lv_room (Nat.le_of_ble_eq_true rfl)) dX6_step_16 ⟨Nat.zero_le _, Nat.zero_le _⟩) ?_
    refine lv_if_eq (tgt := 30) hx hb dX6_step_19 (by decide) (fun c2 => ?_) (fun c2 => ?_)
    · have hg := if_t hg c2
      refine lv_aload_n hx hb dX6_step_30 rfl (lv_at hl 0 rfl) ?_
      refine m_gi (C := RX6) (T := TX6) (n := 7) (ci := 4) hx hb hts in_RX6 hown hK hP (by decide) rfl rfl 6 (by decide) rfl lk_34 (fun _ h9 => h9) dX6_step_31 ?_
      refine lv_if_le (tgt := 134) hx hb dX6_step_34 (by decide) (fun c3 => ?_) (fun c3 => ?_)
      · have hg := if_t hg c3
        exact hret _ _ _ _ _ hg dX6_step_134 hP hD hS
      · have hg := if_f hg c3
        refine lv_aload_n hx hb dX6_step_37 rfl (lv_at hl 0 rfl) ?_
        refine m_gi (C := RX6) (T := TX6) (n := 7) (ci := 4) hx hb hts in_RX6 hown hK hP (by decide) rfl rfl 6 (by decide) rfl lk_34 (fun _ h9 => h9) dX6_step_38 ?_
        refine lv_iconst (v := 5) hx hb dX6_step_41 (by decide) ?_
        refine lv_icmp_gt (tgt := 134) hx hb dX6_step_42 (by decide) (fun c4 => ?_) (fun c4 => ?_)
        · have hg := if_t hg c4
          exact hret _ _ _ _ _ hg dX6_step_134 hP hD hS
        · have hg := if_f hg c4
          refine lv_iload_n hx hb dX6_step_45 rfl (lv_at hl 1 rfl) ?_
          refine lv_bipush (v := 16) hx hb dX6_step_46 (by decide) ?_
          refine lv_icmp_ne (tgt := 86) hx hb dX6_step_48 (by decide) (fun c5 => ?_) (fun c5 => ?_)
          · have hg := if_f hg c5
            refine lv_iload_n hx hb dX6_step_86 rfl (lv_at hl 1 rfl) ?_
            refine lv_bipush (v := 17) hx hb dX6_step_87 (by decide) ?_
            refine lv_icmp_ne (tgt := 134) hx hb dX6_step_89 (by decide) (fun c6 => ?_) (fun c6 => ?_)
            · have hg := if_f hg c6
              exact hret _ _ _ _ _ hg dX6_step_134 hP hD hS
            · have hg := if_t hg c6
              refine lv_aload_n hx hb dX6_step_92 rfl (lv_at hl 0 rfl) ?_
              refine m_gr (C := RX6) (T := TX6) (n := 7) (ci := 4) hx hb hts in_RX6 hown hK hP (by decide) rfl rfl 0 (by decide) rfl lk_9 (fun _ h9 => h9) dX6_step_93 ?_
              refine lv_iload_n hx hb dX6_step_96 rfl (lv_at hl 2 rfl) ?_
              refine lv_aload_n hx hb dX6_step_97 rfl (lv_at hl 0 rfl) ?_
              refine m_gr (C := RX6) (T := TX6) (n := 7) (ci := 4) hx hb hts in_RX6 hown hK hP (by decide) rfl rfl 3 (by decide) rfl lk_23 (fun _ h9 => h9) dX6_step_98 ?_
              refine lv_aload_n hx hb dX6_step_101 rfl (lv_at hl 0 rfl) ?_
              refine m_gi (C := RX6) (T := TX6) (n := 7) (ci := 4) hx hb hts in_RX6 hown hK hP (by decide) rfl rfl 6 (by decide) rfl lk_34 (fun _ h9 => h9) dX6_step_102 ?_
              refine lv_iconst (v := 1) hx hb dX6_step_105 (by decide) ?_
              refine lv_isub hx hb dX6_step_106 ?_
              obtain ⟨b7, hg⟩ := ck_e hg hne
              refine m_ld hx hb hK hP (by decide) rfl b7 dX6_step_107 ?_
              obtain ⟨b8, hg⟩ := ck_e hg hne
              obtain ⟨M9, hM9, hg⟩ := lt_e hg
              refine m_st hx hb hK hP hD hS (by decide) rfl b8 dX6_step_108 hM9 (fun H locs hP hD hS => ?_)
              refine lv_aload_n hx hb dX6_step_109 rfl (lv_at hl 0 rfl) ?_
              refine lv_aload_n hx hb dX6_step_110 rfl (lv_at hl 0 rfl) ?_
              refine m_gr (C := RX6) (T := TX6) (n := 7) (ci := 4) hx hb hts in_RX6 hown hK hP (by decide) rfl rfl 3 (by decide) rfl lk_23 (fun _ h9 => h9) dX6_step_111 ?_
              refine lv_aload_n hx hb dX6_step_114 rfl (lv_at hl 0 rfl) ?_
              refine m_gi (C := RX6) (T := TX6) (n := 7) (ci := 4) hx hb hts in_RX6 hown hK hP (by decide) rfl rfl 6 (by decide) rfl lk_34 (fun _ h9 => h9) dX6_step_115 ?_
              refine lv_iconst (v := 1) hx hb dX6_step_118 (by decide) ?_
              refine lv_isub hx hb dX6_step_119 ?_
              obtain ⟨b10, hg⟩ := ck_e hg hne
              refine m_ld hx hb hK hP (by decide) rfl b10 dX6_step_120 ?_
              obtain ⟨M11, hM11, hg⟩ := lt_e hg
              refine m_pi (C := RX6) (T := TX6) (n := 7) (ci := 4) hx hb hts in_RX6 tyX6 tyX6_ok nmX6 hown hK hP hD hS (by decide) rfl rfl 5 (by decide) rfl lk_30 (fun _ h9 => h9) rfl rfl rfl dX6_step_121 hM11 (fun H locs hP hD hS => ?_)
              refine lv_aload_n hx hb dX6_step_124 rfl (lv_at hl 0 rfl) ?_
              refine lv_dup hx hb dX6_step_125 rfl ?_
              refine m_gi (C := RX6) (T := TX6) (n := 7) (ci := 4) hx hb hts in_RX6 hown hK hP (by decide) rfl rfl 6 (by decide) rfl lk_34 (fun _ h9 => h9) dX6_step_126 ?_
              refine lv_iconst (v := 1) hx hb dX6_step_129 (by decide) ?_
              refine lv_isub hx hb dX6_step_130 ?_
              obtain ⟨M12, hM12, hg⟩ := lt_e hg
              refine m_pi (C := RX6) (T := TX6) (n := 7) (ci := 4) hx hb hts in_RX6 tyX6 tyX6_ok nmX6 hown hK hP hD hS (by decide) rfl rfl 6 (by decide) rfl lk_34 (fun _ h9 => h9) rfl rfl rfl dX6_step_131 hM12 (fun H locs hP hD hS => ?_)
              exact hret _ _ _ _ _ hg dX6_step_134 hP hD hS
          · have hg := if_t hg c5
            refine lv_aload_n hx hb dX6_step_51 rfl (lv_at hl 0 rfl) ?_
            refine m_gr (C := RX6) (T := TX6) (n := 7) (ci := 4) hx hb hts in_RX6 hown hK hP (by decide) rfl rfl 0 (by decide) rfl lk_9 (fun _ h9 => h9) dX6_step_52 ?_
            refine lv_iload_n hx hb dX6_step_55 rfl (lv_at hl 2 rfl) ?_
            refine lv_aload_n hx hb dX6_step_56 rfl (lv_at hl 0 rfl) ?_
            refine m_gr (C := RX6) (T := TX6) (n := 7) (ci := 4) hx hb hts in_RX6 hown hK hP (by decide) rfl rfl 3 (by decide) rfl lk_23 (fun _ h9 => h9) dX6_step_57 ?_
            refine lv_aload_n hx hb dX6_step_60 rfl (lv_at hl 0 rfl) ?_
            refine m_gi (C := RX6) (T := TX6) (n := 7) (ci := 4) hx hb hts in_RX6 hown hK hP (by decide) rfl rfl 6 (by decide) rfl lk_34 (fun _ h9 => h9) dX6_step_61 ?_
            refine lv_iconst (v := 1) hx hb dX6_step_64 (by decide) ?_
            refine lv_isub hx hb dX6_step_65 ?_
            obtain ⟨b13, hg⟩ := ck_e hg hne
            refine m_ld hx hb hK hP (by decide) rfl b13 dX6_step_66 ?_
            obtain ⟨b14, hg⟩ := ck_e hg hne
            obtain ⟨M15, hM15, hg⟩ := lt_e hg
            refine m_st hx hb hK hP hD hS (by decide) rfl b14 dX6_step_67 hM15 (fun H locs hP hD hS => ?_)
            refine lv_aload_n hx hb dX6_step_68 rfl (lv_at hl 0 rfl) ?_
            refine lv_aload_n hx hb dX6_step_69 rfl (lv_at hl 0 rfl) ?_
            refine m_gr (C := RX6) (T := TX6) (n := 7) (ci := 4) hx hb hts in_RX6 hown hK hP (by decide) rfl rfl 4 (by decide) rfl lk_26 (fun _ h9 => h9) dX6_step_70 ?_
            refine lv_aload_n hx hb dX6_step_73 rfl (lv_at hl 0 rfl) ?_
            refine m_gi (C := RX6) (T := TX6) (n := 7) (ci := 4) hx hb hts in_RX6 hown hK hP (by decide) rfl rfl 6 (by decide) rfl lk_34 (fun _ h9 => h9) dX6_step_74 ?_
            refine lv_iconst (v := 1) hx hb dX6_step_77 (by decide) ?_
            refine lv_isub hx hb dX6_step_78 ?_
            obtain ⟨b16, hg⟩ := ck_e hg hne
            refine m_ld hx hb hK hP (by decide) rfl b16 dX6_step_79 ?_
            obtain ⟨M17, hM17, hg⟩ := lt_e hg
            refine m_pi (C := RX6) (T := TX6) (n := 7) (ci := 4) hx hb hts in_RX6 tyX6 tyX6_ok nmX6 hown hK hP hD hS (by decide) rfl rfl 5 (by decide) rfl lk_30 (fun _ h9 => h9) rfl rfl rfl dX6_step_80 hM17 (fun H locs hP hD hS => ?_)
            refine lv_goto (tgt := 134) hx hb dX6_step_83 (by decide) ?_
            exact hret _ _ _ _ _ hg dX6_step_134 hP hD hS
    · have hg := if_f hg c2
      refine lv_aload_n hx hb dX6_step_22 rfl (lv_at hl 0 rfl) ?_
      refine lv_iload_n hx hb dX6_step_23 rfl (lv_at hl 1 rfl) ?_
      obtain ⟨M19, q18, hg⟩ := bd_e hg hne
      refine w_callv (va_runV (As := [.int a1]) (rest := []) CX (ctX6_turn l D sw cs ad X H.size M a1 q18) (cwV 1 hts (gwV m2_103 m2_105 mp1_6 m1_3 m2_106) rfl rfl rfl (by decide +kernel) ⟨Nat.le_trans (Nat.le_of_ble_eq_true rfl) hR.1, Nat.le_trans (Nat.le_of_ble_eq_true rfl) hR.2⟩) (wPreV hSW hS hA hK hP hD (by decide) rfl rfl _) rfl rfl hl.1 rfl (lv_room (Nat.le_of_ble_eq_true rfl)) dX6_step_24 ⟨Nat.zero_le _, Nat.zero_le _⟩) hD hS hA (fun H locs hP hD hS => ?_)
      refine lv_goto (tgt := 134) hx hb dX6_step_27 (by decide) ?_
      exact hret _ _ _ _ _ hg dX6_step_134 hP hD hS
  · have hg := if_f hg c1
    refine lv_aload_n hx hb dX6_step_7 rfl (lv_at hl 0 rfl) ?_
    refine lv_iload_n hx hb dX6_step_8 rfl (lv_at hl 1 rfl) ?_
    obtain ⟨M21, q20, hg⟩ := bd_e hg hne
    refine w_callv (va_runV (As := [.int a1]) (rest := []) CX (ctX6_enter l D sw cs ad X H.size M a1 q20) (cwV 1 hts (gwV m2_90 m2_92 mp1_5 m1_3 m2_93) rfl rfl rfl (by decide +kernel) ⟨Nat.le_trans (Nat.le_of_ble_eq_true rfl) hR.1, Nat.le_trans (Nat.le_of_ble_eq_true rfl) hR.2⟩) (wPreV hSW hS hA hK hP hD (by decide) rfl rfl _) rfl rfl hl.1 rfl (lv_room (Nat.le_of_ble_eq_true rfl)) dX6_step_9 ⟨Nat.zero_le _, Nat.zero_le _⟩) hD hS hA (fun H locs hP hD hS => ?_)
    refine lv_goto (tgt := 134) hx hb dX6_step_12 (by decide) ?_
    exact hret _ _ _ _ _ hg dX6_step_134 hP hD hS
theorem ctX6_step (l : Launch) (D : va_G) (sw : Sw) (cs : Cs) (ad : Nat → Nat) (X : va_W) (sz : Nat) (M : Mm) (a1 : Int32) (a2 : Int32) {M1 : Mm} (hq : gX6_step M a1 a2 = some M1) : Met l yX6_step wsX6_step ({ frames := 2, cells := 0, slots := 0, locals := 42 }) (va_Pc [.ref (ad 3), .int a1, .int a2] (wPre D sw cs LC NC ad M X sz)) (wQv D cs LC NC ad M1 X sz) 0 0 (wA NC ad X sz) :=
  met_w rfl rfl (Nat.le_of_ble_eq_true rfl) (fun p e s m args below meth c ls CX hr hlk hK hSW hP hD hS hA hl => bX6_step M a1 a2 hq (by simp) CX ⟨Nat.le_refl _, Nat.le_refl _⟩ hK hSW hP hD hS hA hl (fun pc ls H locs M9 hv dg hP hD hS => W.vret CX.1 CX.2.1 hr (fun t ht hW => ⟨⟨(), rfl, trivial, wpost hP ht (Option.some.inj hv)⟩, hS.F ht⟩) hS.2.2 dg))

abbrev wsX3_hasSameOutputs : List Cond := Cond.code yX3_hasSameOutputs cX3_hasSameOutputs 2 (some .boolean) :: WG
def gX3_hasSameOutputs (M : Mm) (v0 : Nat) (v1 : Nat) : Option Int32 := if (M (vb v0 + 6) 5) = (M (vb v1 + 6) 5) then (bd (gX2_areSame M (vb v0 + 9) 80 (vb v1 + 9) 80 (M (vb v0 + 6) 5)) fun r2 => if r2 = 0 then (some (0 : Int32)) else some (1 : Int32)) else some (0 : Int32)
set_option maxHeartbeats 4000000 in
set_option maxRecDepth 100000 in
theorem bX3_hasSameOutputs {p : Program} {l : Launch} {e : Env} {R : Room} {s : State} {m : MethodId} {args : Array Value} {below : List Frame} {meth : Method} {c : Code} {H : Heap} {locs : List Loc} {Q : State → Prop} {D : va_G} {sw : Sw} {cs : Cs} {ad : Nat → Nat} {X : va_W} (M : Mm) (v0 : Nat) (hv0 : v0 < 16) (v1 : Nat) (hv1 : v1 < 16) {res : Option Int32} (hg : gX3_hasSameOutputs M v0 v1 = res) (hne : res ≠ none) (CX : CallFix p m c cX3_hasSameOutputs 2 s args wsX3_hasSameOutputs RX3) (hR : 2 ≤ R.frames ∧ 44 ≤ R.locals) (hK : va_K D vwCl (tysC cs) s) (hSW : SW sw (fun _ => False) s H) (hP : va_P D vwCl (wl cs LC NC ad M ++ X) H) {ls : Array Slot} (hl : lv_has ls 2 [(0, .ref (ad (vb v0 + 6))), (1, .ref (ad (vb v1 + 6)))]) (hret : ∀ (pc : Nat) (ls : Array Slot) (v : Int32), some v = res → decode cX3_hasSameOutputs pc = .ok (.ireturn, 1) → narrow .boolean (.int v) = .int v → W p l e R s m args below meth c H locs 0 0 Q (F0 m pc ls [.int v])) : W p l e R s m args below meth c H locs 0 0 Q (F0 m 0 ls []) := by
  obtain ⟨hx, hb, hml, hown, hts⟩ := id CX
  have hw : ∀ w ∈ WG, w.before args s = true := fun w h => hts w (List.mem_cons_of_mem _ h)
  have lk_34 := hw _ m1_123
  have lk_18 := hw _ m1_121
  unfold gX3_hasSameOutputs at hg
  refine lv_aload_n hx hb dX3_hasSameOutputs_0 rfl (lv_at hl 0 rfl) ?_
  refine m_gi (C := RX3) (T := TX3) (n := 6) (ci := 1) hx hb hts in_RX3 hown hK hP (kC_v (j := 6) hv0 (by decide)) (LC_RUN v0) rfl 5 (by decide) rfl lk_34 (fun _ h9 => h9) dX3_hasSameOutputs_1 ?_
  refine lv_aload_n hx hb dX3_hasSameOutputs_4 rfl (lv_at hl 1 rfl) ?_
  refine m_gi (C := RX3) (T := TX3) (n := 6) (ci := 1) hx hb hts in_RX3 hown hK hP (kC_v (j := 6) hv1 (by decide)) (LC_RUN v1) rfl 5 (by decide) rfl lk_34 (fun _ h9 => h9) dX3_hasSameOutputs_5 ?_
  refine lv_icmp_ne (tgt := 33) hx hb dX3_hasSameOutputs_8 (by decide) (fun c1 => ?_) (fun c1 => ?_)
  · have hg := if_f hg c1
    refine lv_iconst (v := 0) hx hb dX3_hasSameOutputs_33 (by decide) ?_
    exact hret _ _ _ hg dX3_hasSameOutputs_34 rfl
  · have hg := if_t hg c1
    refine lv_aload_n hx hb dX3_hasSameOutputs_11 rfl (lv_at hl 0 rfl) ?_
    refine m_gr (C := RX3) (T := TX3) (n := 6) (ci := 1) hx hb hts in_RX3 hown hK hP (kC_v (j := 6) hv0 (by decide)) (LC_RUN v0) rfl 4 (by decide) rfl lk_18 (fun _ h9 => h9) dX3_hasSameOutputs_12 ?_
    refine lv_aload_n hx hb dX3_hasSameOutputs_15 rfl (lv_at hl 1 rfl) ?_
    refine m_gr (C := RX3) (T := TX3) (n := 6) (ci := 1) hx hb hts in_RX3 hown hK hP (kC_v (j := 6) hv1 (by decide)) (LC_RUN v1) rfl 4 (by decide) rfl lk_18 (fun _ h9 => h9) dX3_hasSameOutputs_16 ?_
    refine lv_aload_n hx hb dX3_hasSameOutputs_19 rfl (lv_at hl 0 rfl) ?_
    refine m_gi (C := RX3) (T := TX3) (n := 6) (ci := 1) hx hb hts in_RX3 hown hK hP (kC_v (j := 6) hv0 (by decide)) (LC_RUN v0) rfl 5 (by decide) rfl lk_34 (fun _ h9 => h9) dX3_hasSameOutputs_20 ?_
    obtain ⟨r2, q3, hg⟩ := bd_e hg hne
    refine r_calli (W.runS (As := [.ref (ad (vb v0 + 9)), .ref (ad (vb v1 + 9)), .int (M (vb v0 + 6) 5)]) (rest := []) CX (ctX2_areSame l D sw cs ad X M (vb v0 + 9) 80 (kC_v (j := 9) hv0 (by decide)) (LC_ROUT v0) (vb v1 + 9) 80 (kC_v (j := 9) hv1 (by decide)) (LC_ROUT v1) (M (vb v0 + 6) 5) q3) (va_cwS 3 hts (gwS m3_168 m2_153 m1_19 m2_154) rfl rfl rfl (by decide +kernel) ⟨Nat.le_trans (Nat.le_of_ble_eq_true rfl) hR.1, Nat.le_trans (Nat.le_of_ble_eq_true rfl) hR.2⟩) (rPreS hSW hK hP _) rfl rfl hl.1 rfl (lv_room (Nat.le_of_ble_eq_true rfl)) dX3_hasSameOutputs_23 ⟨Nat.zero_le _, Nat.zero_le _⟩) ?_
    refine lv_if_eq (tgt := 33) hx hb dX3_hasSameOutputs_26 (by decide) (fun c4 => ?_) (fun c4 => ?_)
    · have hg := if_t hg c4
      refine lv_iconst (v := 0) hx hb dX3_hasSameOutputs_33 (by decide) ?_
      exact hret _ _ _ hg dX3_hasSameOutputs_34 rfl
    · have hg := if_f hg c4
      refine lv_iconst (v := 1) hx hb dX3_hasSameOutputs_29 (by decide) ?_
      refine lv_goto (tgt := 34) hx hb dX3_hasSameOutputs_30 (by decide) ?_
      exact hret _ _ _ hg dX3_hasSameOutputs_34 rfl
theorem ctX3_hasSameOutputs (l : Launch) (D : va_G) (sw : Sw) (cs : Cs) (ad : Nat → Nat) (X : va_W) (M : Mm) (v0 : Nat) (hv0 : v0 < 16) (v1 : Nat) (hv1 : v1 < 16) {r : Int32} (hq : gX3_hasSameOutputs M v0 v1 = some r) : Met l yX3_hasSameOutputs wsX3_hasSameOutputs ({ frames := 2, cells := 0, slots := 0, locals := 44 }) (va_Pc [.ref (ad (vb v0 + 6)), .ref (ad (vb v1 + 6))] (rPre D sw cs LC NC ad M X)) (vp_Si (fun r' => r' = r)) 0 0 (fun _ => False) :=
  met_r rfl rfl (Nat.le_of_ble_eq_true rfl) (fun p e s m args below meth c ls CX hr hlk hK hSW hP hl => bX3_hasSameOutputs M v0 hv0 v1 hv1 hq (by simp) CX ⟨Nat.le_refl _, Nat.le_refl _⟩ hK hSW hP hl (fun pc ls v hv dg hz => W.zret (ty := .boolean) CX.1 CX.2.1 hr hz (fun t ht hW => ⟨_, rfl, Option.some.inj hv, ht⟩) (fun _ h => by cases h) dg))

abbrev wsX3_peek : List Cond := Cond.code yX3_peek cX3_peek 1 (some .int) :: WG
def gX3_peek (M : Mm) (v0 : Nat) : Option Int32 := if (M (vb v0 + 6) 2) < 0 then (some (0 : Int32)) else if (M (vb v0 + 6) 1) ≤ (M (vb v0 + 6) 2) then (some (0 : Int32)) else if ((M (vb v0 + 6) 2) < 0 ∨ 80 ≤ ((M (vb v0 + 6) 2)).toNatClampNeg) then none else some (M (vb v0 + 7) ((M (vb v0 + 6) 2)).toNatClampNeg)
set_option maxHeartbeats 4000000 in
set_option maxRecDepth 100000 in
theorem bX3_peek {p : Program} {l : Launch} {e : Env} {R : Room} {s : State} {m : MethodId} {args : Array Value} {below : List Frame} {meth : Method} {c : Code} {H : Heap} {locs : List Loc} {Q : State → Prop} {D : va_G} {sw : Sw} {cs : Cs} {ad : Nat → Nat} {X : va_W} (M : Mm) (v0 : Nat) (hv0 : v0 < 16) {res : Option Int32} (hg : gX3_peek M v0 = res) (hne : res ≠ none) (CX : CallFix p m c cX3_peek 1 s args wsX3_peek RX3) (hR : 0 ≤ R.frames ∧ 0 ≤ R.locals) (hK : va_K D vwCl (tysC cs) s) (hSW : SW sw (fun _ => False) s H) (hP : va_P D vwCl (wl cs LC NC ad M ++ X) H) {ls : Array Slot} (hl : lv_has ls 1 [(0, .ref (ad (vb v0 + 6)))]) (hret : ∀ (pc : Nat) (ls : Array Slot) (v : Int32), some v = res → decode cX3_peek pc = .ok (.ireturn, 1) → W p l e R s m args below meth c H locs 0 0 Q (F0 m pc ls [.int v])) : W p l e R s m args below meth c H locs 0 0 Q (F0 m 0 ls []) := by
  obtain ⟨hx, hb, hml, hown, hts⟩ := id CX
  have hw : ∀ w ∈ WG, w.before args s = true := fun w h => hts w (List.mem_cons_of_mem _ h)
  have lk_31 := hw _ m1_118
  have lk_27 := hw _ m1_117
  have lk_9 := hw _ m1_116
  unfold gX3_peek at hg
  refine lv_aload_n hx hb dX3_peek_0 rfl (lv_at hl 0 rfl) ?_
  refine m_gi (C := RX3) (T := TX3) (n := 6) (ci := 1) hx hb hts in_RX3 hown hK hP (kC_v (j := 6) hv0 (by decide)) (LC_RUN v0) rfl 2 (by decide) rfl lk_31 (fun _ h9 => h9) dX3_peek_1 ?_
  refine lv_if_lt (tgt := 30) hx hb dX3_peek_4 (by decide) (fun c1 => ?_) (fun c1 => ?_)
  · have hg := if_t hg c1
    refine lv_iconst (v := 0) hx hb dX3_peek_30 (by decide) ?_
    exact hret _ _ _ hg dX3_peek_31
  · have hg := if_f hg c1
    refine lv_aload_n hx hb dX3_peek_7 rfl (lv_at hl 0 rfl) ?_
    refine m_gi (C := RX3) (T := TX3) (n := 6) (ci := 1) hx hb hts in_RX3 hown hK hP (kC_v (j := 6) hv0 (by decide)) (LC_RUN v0) rfl 2 (by decide) rfl lk_31 (fun _ h9 => h9) dX3_peek_8 ?_
    refine lv_aload_n hx hb dX3_peek_11 rfl (lv_at hl 0 rfl) ?_
    refine m_gi (C := RX3) (T := TX3) (n := 6) (ci := 1) hx hb hts in_RX3 hown hK hP (kC_v (j := 6) hv0 (by decide)) (LC_RUN v0) rfl 1 (by decide) rfl lk_27 (fun _ h9 => h9) dX3_peek_12 ?_
    refine lv_icmp_ge (tgt := 30) hx hb dX3_peek_15 (by decide) (fun c2 => ?_) (fun c2 => ?_)
    · have hg := if_t hg c2
      refine lv_iconst (v := 0) hx hb dX3_peek_30 (by decide) ?_
      exact hret _ _ _ hg dX3_peek_31
    · have hg := if_f hg c2
      refine lv_aload_n hx hb dX3_peek_18 rfl (lv_at hl 0 rfl) ?_
      refine m_gr (C := RX3) (T := TX3) (n := 6) (ci := 1) hx hb hts in_RX3 hown hK hP (kC_v (j := 6) hv0 (by decide)) (LC_RUN v0) rfl 0 (by decide) rfl lk_9 (fun _ h9 => h9) dX3_peek_19 ?_
      refine lv_aload_n hx hb dX3_peek_22 rfl (lv_at hl 0 rfl) ?_
      refine m_gi (C := RX3) (T := TX3) (n := 6) (ci := 1) hx hb hts in_RX3 hown hK hP (kC_v (j := 6) hv0 (by decide)) (LC_RUN v0) rfl 2 (by decide) rfl lk_31 (fun _ h9 => h9) dX3_peek_23 ?_
      obtain ⟨b3, hg⟩ := ck_e hg hne
      refine m_ld hx hb hK hP (kC_v (j := 7) hv0 (by decide)) (LC_RTOK v0) b3 dX3_peek_26 ?_
      refine lv_goto (tgt := 31) hx hb dX3_peek_27 (by decide) ?_
      exact hret _ _ _ hg dX3_peek_31
theorem ctX3_peek (l : Launch) (D : va_G) (sw : Sw) (cs : Cs) (ad : Nat → Nat) (X : va_W) (M : Mm) (v0 : Nat) (hv0 : v0 < 16) {r : Int32} (hq : gX3_peek M v0 = some r) : Met l yX3_peek wsX3_peek ({ frames := 0, cells := 0, slots := 0, locals := 0 }) (va_Pc [.ref (ad (vb v0 + 6))] (rPre D sw cs LC NC ad M X)) (vp_Si (fun r' => r' = r)) 0 0 (fun _ => False) :=
  met_r rfl rfl (Nat.le_of_ble_eq_true rfl) (fun p e s m args below meth c ls CX hr hlk hK hSW hP hl => bX3_peek M v0 hv0 hq (by simp) CX ⟨Nat.le_refl _, Nat.le_refl _⟩ hK hSW hP hl (fun pc ls v hv dg => W.iret CX.1 CX.2.1 hr (fun t ht hW => ⟨_, rfl, Option.some.inj hv, ht⟩) (fun _ h => by cases h) dg))

abbrev wsX3_advance : List Cond := Cond.code yX3_advance cX3_advance 2 (some .int) :: WG
def gX3_advance (M : Mm) (v0 : Nat) : Option (Int32 × Mm) := bd (gX3_peek M v0) fun r1 => if (M (vb v0 + 6) 1) ≤ (M (vb v0 + 6) 2) then (some (r1, M)) else lt (um M (vb v0 + 6) 2 ((M (vb v0 + 6) 2) + (1 : Int32))) fun M4 => some (r1, M4)
set_option maxHeartbeats 4000000 in
set_option maxRecDepth 100000 in
theorem bX3_advance {p : Program} {l : Launch} {e : Env} {R : Room} {s : State} {m : MethodId} {args : Array Value} {below : List Frame} {meth : Method} {c : Code} {H : Heap} {locs : List Loc} {Q : State → Prop} {D : va_G} {sw : Sw} {cs : Cs} {ad : Nat → Nat} {X : va_W} {A : Nat → Prop} (M : Mm) (v0 : Nat) (hv0 : v0 < 16) {res : Option (Int32 × Mm)} (hg : gX3_advance M v0 = res) (hne : res ≠ none) (CX : CallFix p m c cX3_advance 2 s args wsX3_advance RX3) (hR : 1 ≤ R.frames ∧ 20 ≤ R.locals) (hK : va_K D vwCl (tysC cs) s) (hSW : SW sw A s s.heap) (hP : va_P D vwCl (wl cs LC NC ad M ++ X) H) (hD : va_D A (wl cs LC NC ad M ++ X)) (hS : va_S A s.heap H locs) (hA : ∀ q, s.heap.size ≤ q → A q) {ls : Array Slot} (hl : lv_has ls 2 [(0, .ref (ad (vb v0 + 6)))]) (hret : ∀ (pc : Nat) (ls : Array Slot) (H : Heap) (locs : List Loc) (v : Int32) (M9 : Mm), some (v, M9) = res → decode cX3_advance pc = .ok (.ireturn, 1) → va_P D vwCl (wl cs LC NC ad M9 ++ X) H → va_D A (wl cs LC NC ad M9 ++ X) → va_S A s.heap H locs → W p l e R s m args below meth c H locs 0 0 Q (F0 m pc ls [.int v])) : W p l e R s m args below meth c H locs 0 0 Q (F0 m 0 ls []) := by
  obtain ⟨hx, hb, hml, hown, hts⟩ := id CX
  have hw : ∀ w ∈ WG, w.before args s = true := fun w h => hts w (List.mem_cons_of_mem _ h)
  have lk_31 := hw _ m1_118
  have lk_27 := hw _ m1_117
  unfold gX3_advance at hg
  refine lv_aload_n hx hb dX3_advance_0 rfl (lv_at hl 0 rfl) ?_
  obtain ⟨r1, q2, hg⟩ := bd_e hg hne
  refine r_calli (W.runV (As := []) (rest := []) CX (ctX3_peek l D sw cs ad X M v0 hv0 q2) (cwV 0 hts (gwV m3_15 m3_17 mp2_0 m1_6 m3_18) rfl rfl rfl (by decide +kernel) ⟨Nat.le_trans (Nat.le_of_ble_eq_true rfl) hR.1, Nat.le_trans (Nat.le_of_ble_eq_true rfl) hR.2⟩) (rPreV (hSW.wr hS) hK hP (kC_v (j := 6) hv0 (by decide)) (LC_RUN v0) rfl _) rfl rfl hl.1 rfl (lv_room (Nat.le_of_ble_eq_true rfl)) dX3_advance_1 ⟨Nat.zero_le _, Nat.zero_le _⟩) ?_
  refine lv_istore_n (lv' := [(1, .int r1), (0, .ref (ad (vb v0 + 6)))]) hx hb dX3_advance_4 rfl hl (by decide) rfl (fun ls hl => ?_)
  refine lv_aload_n hx hb dX3_advance_5 rfl (lv_at hl 1 rfl) ?_
  refine m_gi (C := RX3) (T := TX3) (n := 6) (ci := 1) hx hb hts in_RX3 hown hK hP (kC_v (j := 6) hv0 (by decide)) (LC_RUN v0) rfl 2 (by decide) rfl lk_31 (fun _ h9 => h9) dX3_advance_6 ?_
  refine lv_aload_n hx hb dX3_advance_9 rfl (lv_at hl 1 rfl) ?_
  refine m_gi (C := RX3) (T := TX3) (n := 6) (ci := 1) hx hb hts in_RX3 hown hK hP (kC_v (j := 6) hv0 (by decide)) (LC_RUN v0) rfl 1 (by decide) rfl lk_27 (fun _ h9 => h9) dX3_advance_10 ?_
  refine lv_icmp_ge (tgt := 26) hx hb dX3_advance_13 (by decide) (fun c3 => ?_) (fun c3 => ?_)
  · have hg := if_t hg c3
    refine lv_iload_n hx hb dX3_advance_26 rfl (lv_at hl 0 rfl) ?_
    exact hret _ _ _ _ _ _ hg dX3_advance_27 hP hD hS
  · have hg := if_f hg c3
    refine lv_aload_n hx hb dX3_advance_16 rfl (lv_at hl 1 rfl) ?_
    refine lv_dup hx hb dX3_advance_17 rfl ?_
    refine m_gi (C := RX3) (T := TX3) (n := 6) (ci := 1) hx hb hts in_RX3 hown hK hP (kC_v (j := 6) hv0 (by decide)) (LC_RUN v0) rfl 2 (by decide) rfl lk_31 (fun _ h9 => h9) dX3_advance_18 ?_
    refine lv_iconst (v := 1) hx hb dX3_advance_21 (by decide) ?_
    refine lv_iadd hx hb dX3_advance_22 ?_
    obtain ⟨M4, hM4, hg⟩ := lt_e hg
    refine m_pi (C := RX3) (T := TX3) (n := 6) (ci := 1) hx hb hts in_RX3 tyX3 tyX3_ok nmX3 hown hK hP hD hS (kC_v (j := 6) hv0 (by decide)) (LC_RUN v0) rfl 2 (by decide) rfl lk_31 (fun _ h9 => h9) rfl rfl rfl dX3_advance_23 hM4 (fun H locs hP hD hS => ?_)
    refine lv_iload_n hx hb dX3_advance_26 rfl (lv_at hl 0 rfl) ?_
    exact hret _ _ _ _ _ _ hg dX3_advance_27 hP hD hS
theorem ctX3_advance (l : Launch) (D : va_G) (sw : Sw) (cs : Cs) (ad : Nat → Nat) (X : va_W) (sz : Nat) (M : Mm) (v0 : Nat) (hv0 : v0 < 16) {r : Int32} {M1 : Mm} (hq : gX3_advance M v0 = some (r, M1)) : Met l yX3_advance wsX3_advance ({ frames := 1, cells := 0, slots := 0, locals := 20 }) (va_Pc [.ref (ad (vb v0 + 6))] (wPre D sw cs LC NC ad M X sz)) (wQi D cs LC NC ad M1 X sz r) 0 0 (wA NC ad X sz) :=
  met_w rfl rfl (Nat.le_of_ble_eq_true rfl) (fun p e s m args below meth c ls CX hr hlk hK hSW hP hD hS hA hl => bX3_advance M v0 hv0 hq (by simp) CX ⟨Nat.le_refl _, Nat.le_refl _⟩ hK hSW hP hD hS hA hl (fun pc ls H locs v M9 hv dg hP hD hS => W.iret CX.1 CX.2.1 hr (fun t ht hW => ⟨⟨_, (), rfl, (Prod.mk.inj (Option.some.inj hv)).1, wpost hP ht (Prod.mk.inj (Option.some.inj hv)).2⟩, hS.F ht⟩) hS.2.2 dg))

abbrev wsX3_assign : List Cond := Cond.code yX3_assign cX3_assign 3 none :: WG
def gX3_assign (M : Mm) (v0 : Nat) (a1 : Int32) (a2 : Int32) : Option Mm := if (gX0_isName a1) = 0 then (some M) else if ((a1 - (97 : Int32)) < 0 ∨ 4 ≤ ((a1 - (97 : Int32))).toNatClampNeg) then none else lt (um M (vb v0 + 8) ((a1 - (97 : Int32))).toNatClampNeg a2) fun M3 => some M3
set_option maxHeartbeats 4000000 in
set_option maxRecDepth 100000 in
theorem bX3_assign {p : Program} {l : Launch} {e : Env} {R : Room} {s : State} {m : MethodId} {args : Array Value} {below : List Frame} {meth : Method} {c : Code} {H : Heap} {locs : List Loc} {Q : State → Prop} {D : va_G} {sw : Sw} {cs : Cs} {ad : Nat → Nat} {X : va_W} {A : Nat → Prop} (M : Mm) (v0 : Nat) (hv0 : v0 < 16) (a1 : Int32) (a2 : Int32) {res : Option Mm} (hg : gX3_assign M v0 a1 a2 = res) (hne : res ≠ none) (CX : CallFix p m c cX3_assign 3 s args wsX3_assign RX3) (hR : 1 ≤ R.frames ∧ 20 ≤ R.locals) (hK : va_K D vwCl (tysC cs) s) (hSW : SW sw A s s.heap) (hP : va_P D vwCl (wl cs LC NC ad M ++ X) H) (hD : va_D A (wl cs LC NC ad M ++ X)) (hS : va_S A s.heap H locs) (hA : ∀ q, s.heap.size ≤ q → A q) {ls : Array Slot} (hl : lv_has ls 3 [(0, .ref (ad (vb v0 + 6))), (1, .int a1), (2, .int a2)]) (hret : ∀ (pc : Nat) (ls : Array Slot) (H : Heap) (locs : List Loc) (M9 : Mm), some M9 = res → decode cX3_assign pc = .ok (.return_, 1) → va_P D vwCl (wl cs LC NC ad M9 ++ X) H → va_D A (wl cs LC NC ad M9 ++ X) → va_S A s.heap H locs → W p l e R s m args below meth c H locs 0 0 Q (F0 m pc ls [])) : W p l e R s m args below meth c H locs 0 0 Q (F0 m 0 ls []) := by
  obtain ⟨hx, hb, hml, hown, hts⟩ := id CX
  have hw : ∀ w ∈ WG, w.before args s = true := fun w h => hts w (List.mem_cons_of_mem _ h)
  have lk_15 := hw _ m1_119
  unfold gX3_assign at hg
  refine lv_iload_n hx hb dX3_assign_0 rfl (lv_at hl 1 rfl) ?_
  refine r_calli (W.runS (As := [.int a1]) (rest := []) CX (ctX0_isName l a1) (va_cwS 1 hts (gwS m3_49 m1_189 m1_11 m1_190) rfl rfl rfl (by decide +kernel) ⟨Nat.le_trans (Nat.le_of_ble_eq_true rfl) hR.1, Nat.le_trans (Nat.le_of_ble_eq_true rfl) hR.2⟩) (pPreS _) rfl rfl hl.1 rfl (lv_room (Nat.le_of_ble_eq_true rfl)) dX3_assign_1 ⟨Nat.zero_le _, Nat.zero_le _⟩) ?_
  refine lv_if_eq (tgt := 17) hx hb dX3_assign_4 (by decide) (fun c1 => ?_) (fun c1 => ?_)
  · have hg := if_t hg c1
    exact hret _ _ _ _ _ hg dX3_assign_17 hP hD hS
  · have hg := if_f hg c1
    refine lv_aload_n hx hb dX3_assign_7 rfl (lv_at hl 0 rfl) ?_
    refine m_gr (C := RX3) (T := TX3) (n := 6) (ci := 1) hx hb hts in_RX3 hown hK hP (kC_v (j := 6) hv0 (by decide)) (LC_RUN v0) rfl 3 (by decide) rfl lk_15 (fun _ h9 => h9) dX3_assign_8 ?_
    refine lv_iload_n hx hb dX3_assign_11 rfl (lv_at hl 1 rfl) ?_
    refine lv_bipush (v := 97) hx hb dX3_assign_12 (by decide) ?_
    refine lv_isub hx hb dX3_assign_14 ?_
    refine lv_iload_n hx hb dX3_assign_15 rfl (lv_at hl 2 rfl) ?_
    obtain ⟨b2, hg⟩ := ck_e hg hne
    obtain ⟨M3, hM3, hg⟩ := lt_e hg
    refine m_st hx hb hK hP hD hS (kC_v (j := 8) hv0 (by decide)) (LC_RVARS v0) b2 dX3_assign_16 hM3 (fun H locs hP hD hS => ?_)
    exact hret _ _ _ _ _ hg dX3_assign_17 hP hD hS
theorem ctX3_assign (l : Launch) (D : va_G) (sw : Sw) (cs : Cs) (ad : Nat → Nat) (X : va_W) (sz : Nat) (M : Mm) (v0 : Nat) (hv0 : v0 < 16) (a1 : Int32) (a2 : Int32) {M1 : Mm} (hq : gX3_assign M v0 a1 a2 = some M1) : Met l yX3_assign wsX3_assign ({ frames := 1, cells := 0, slots := 0, locals := 20 }) (va_Pc [.ref (ad (vb v0 + 6)), .int a1, .int a2] (wPre D sw cs LC NC ad M X sz)) (wQv D cs LC NC ad M1 X sz) 0 0 (wA NC ad X sz) :=
  met_w rfl rfl (Nat.le_of_ble_eq_true rfl) (fun p e s m args below meth c ls CX hr hlk hK hSW hP hD hS hA hl => bX3_assign M v0 hv0 a1 a2 hq (by simp) CX ⟨Nat.le_refl _, Nat.le_refl _⟩ hK hSW hP hD hS hA hl (fun pc ls H locs M9 hv dg hP hD hS => W.vret CX.1 CX.2.1 hr (fun t ht hW => ⟨⟨(), rfl, trivial, wpost hP ht (Option.some.inj hv)⟩, hS.F ht⟩) hS.2.2 dg))

abbrev wsX3_put : List Cond := Cond.code yX3_put cX3_put 2 none :: WG
def gX3_put (M : Mm) (v0 : Nat) (a1 : Int32) : Option Mm := if (80 : Int32) ≤ (M (vb v0 + 6) 5) then (some M) else if ((M (vb v0 + 6) 5) < 0 ∨ 80 ≤ ((M (vb v0 + 6) 5)).toNatClampNeg) then none else lt (um M (vb v0 + 9) ((M (vb v0 + 6) 5)).toNatClampNeg a1) fun M3 => lt (um M3 (vb v0 + 6) 5 ((M3 (vb v0 + 6) 5) + (1 : Int32))) fun M4 => some M4
set_option maxHeartbeats 4000000 in
set_option maxRecDepth 100000 in
theorem bX3_put {p : Program} {l : Launch} {e : Env} {R : Room} {s : State} {m : MethodId} {args : Array Value} {below : List Frame} {meth : Method} {c : Code} {H : Heap} {locs : List Loc} {Q : State → Prop} {D : va_G} {sw : Sw} {cs : Cs} {ad : Nat → Nat} {X : va_W} {A : Nat → Prop} (M : Mm) (v0 : Nat) (hv0 : v0 < 16) (a1 : Int32) {res : Option Mm} (hg : gX3_put M v0 a1 = res) (hne : res ≠ none) (CX : CallFix p m c cX3_put 2 s args wsX3_put RX3) (hR : 0 ≤ R.frames ∧ 0 ≤ R.locals) (hK : va_K D vwCl (tysC cs) s) (hSW : SW sw A s s.heap) (hP : va_P D vwCl (wl cs LC NC ad M ++ X) H) (hD : va_D A (wl cs LC NC ad M ++ X)) (hS : va_S A s.heap H locs) (hA : ∀ q, s.heap.size ≤ q → A q) {ls : Array Slot} (hl : lv_has ls 2 [(0, .ref (ad (vb v0 + 6))), (1, .int a1)]) (hret : ∀ (pc : Nat) (ls : Array Slot) (H : Heap) (locs : List Loc) (M9 : Mm), some M9 = res → decode cX3_put pc = .ok (.return_, 1) → va_P D vwCl (wl cs LC NC ad M9 ++ X) H → va_D A (wl cs LC NC ad M9 ++ X) → va_S A s.heap H locs → W p l e R s m args below meth c H locs 0 0 Q (F0 m pc ls [])) : W p l e R s m args below meth c H locs 0 0 Q (F0 m 0 ls []) := by
  obtain ⟨hx, hb, hml, hown, hts⟩ := id CX
  have hw : ∀ w ∈ WG, w.before args s = true := fun w h => hts w (List.mem_cons_of_mem _ h)
  have lk_34 := hw _ m1_123
  have lk_18 := hw _ m1_121
  unfold gX3_put at hg
  refine lv_aload_n hx hb dX3_put_0 rfl (lv_at hl 0 rfl) ?_
  refine m_gi (C := RX3) (T := TX3) (n := 6) (ci := 1) hx hb hts in_RX3 hown hK hP (kC_v (j := 6) hv0 (by decide)) (LC_RUN v0) rfl 5 (by decide) rfl lk_34 (fun _ h9 => h9) dX3_put_1 ?_
  refine lv_bipush (v := 80) hx hb dX3_put_4 (by decide) ?_
  refine lv_icmp_ge (tgt := 29) hx hb dX3_put_6 (by decide) (fun c1 => ?_) (fun c1 => ?_)
  · have hg := if_t hg c1
    exact hret _ _ _ _ _ hg dX3_put_29 hP hD hS
  · have hg := if_f hg c1
    refine lv_aload_n hx hb dX3_put_9 rfl (lv_at hl 0 rfl) ?_
    refine m_gr (C := RX3) (T := TX3) (n := 6) (ci := 1) hx hb hts in_RX3 hown hK hP (kC_v (j := 6) hv0 (by decide)) (LC_RUN v0) rfl 4 (by decide) rfl lk_18 (fun _ h9 => h9) dX3_put_10 ?_
    refine lv_aload_n hx hb dX3_put_13 rfl (lv_at hl 0 rfl) ?_
    refine m_gi (C := RX3) (T := TX3) (n := 6) (ci := 1) hx hb hts in_RX3 hown hK hP (kC_v (j := 6) hv0 (by decide)) (LC_RUN v0) rfl 5 (by decide) rfl lk_34 (fun _ h9 => h9) dX3_put_14 ?_
    refine lv_iload_n hx hb dX3_put_17 rfl (lv_at hl 1 rfl) ?_
    obtain ⟨b2, hg⟩ := ck_e hg hne
    obtain ⟨M3, hM3, hg⟩ := lt_e hg
    refine m_st hx hb hK hP hD hS (kC_v (j := 9) hv0 (by decide)) (LC_ROUT v0) b2 dX3_put_18 hM3 (fun H locs hP hD hS => ?_)
    refine lv_aload_n hx hb dX3_put_19 rfl (lv_at hl 0 rfl) ?_
    refine lv_dup hx hb dX3_put_20 rfl ?_
    refine m_gi (C := RX3) (T := TX3) (n := 6) (ci := 1) hx hb hts in_RX3 hown hK hP (kC_v (j := 6) hv0 (by decide)) (LC_RUN v0) rfl 5 (by decide) rfl lk_34 (fun _ h9 => h9) dX3_put_21 ?_
    refine lv_iconst (v := 1) hx hb dX3_put_24 (by decide) ?_
    refine lv_iadd hx hb dX3_put_25 ?_
    obtain ⟨M4, hM4, hg⟩ := lt_e hg
    refine m_pi (C := RX3) (T := TX3) (n := 6) (ci := 1) hx hb hts in_RX3 tyX3 tyX3_ok nmX3 hown hK hP hD hS (kC_v (j := 6) hv0 (by decide)) (LC_RUN v0) rfl 5 (by decide) rfl lk_34 (fun _ h9 => h9) rfl rfl rfl dX3_put_26 hM4 (fun H locs hP hD hS => ?_)
    exact hret _ _ _ _ _ hg dX3_put_29 hP hD hS
theorem ctX3_put (l : Launch) (D : va_G) (sw : Sw) (cs : Cs) (ad : Nat → Nat) (X : va_W) (sz : Nat) (M : Mm) (v0 : Nat) (hv0 : v0 < 16) (a1 : Int32) {M1 : Mm} (hq : gX3_put M v0 a1 = some M1) : Met l yX3_put wsX3_put ({ frames := 0, cells := 0, slots := 0, locals := 0 }) (va_Pc [.ref (ad (vb v0 + 6)), .int a1] (wPre D sw cs LC NC ad M X sz)) (wQv D cs LC NC ad M1 X sz) 0 0 (wA NC ad X sz) :=
  met_w rfl rfl (Nat.le_of_ble_eq_true rfl) (fun p e s m args below meth c ls CX hr hlk hK hSW hP hD hS hA hl => bX3_put M v0 hv0 a1 hq (by simp) CX ⟨Nat.le_refl _, Nat.le_refl _⟩ hK hSW hP hD hS hA hl (fun pc ls H locs M9 hv dg hP hD hS => W.vret CX.1 CX.2.1 hr (fun t ht hW => ⟨⟨(), rfl, trivial, wpost hP ht (Option.some.inj hv)⟩, hS.F ht⟩) hS.2.2 dg))
