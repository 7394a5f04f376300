abbrev wsX7_checkFeature : List Cond := Cond.code yX7_checkFeature cX7_checkFeature 2 none :: WG
def gX7_checkFeature (M : Mm) (a1 : Int32) : Option ((Int32 ⊕ Nat) × Mm) := if a1 < 0 then (some (.inr 2, M)) else if a1 < (4 : Int32) then (some (.inl 0, M)) else some (.inr 2, M)
set_option maxHeartbeats 4000000 in
set_option maxRecDepth 100000 in
theorem bX7_checkFeature {p : Program} {l : Launch} {e : Env} {R : Room} {s : State} {m : MethodId} {args : Array Value} {below : List Frame} {meth : Method} {c : Code} {H : Heap} {locs : List Loc} {Q : State → Prop} {D : va_G} {sw : Sw} {cs : Cs} {ad : Nat → Nat} {X : va_W} {A : Nat → Prop} {Qc : Array Value → State → Outcome → State → Prop} {XC : String → State → State → Prop} (M : Mm) (a1 : Int32) {res : Option ((Int32 ⊕ Nat) × Mm)} (hg : gX7_checkFeature M a1 = res) (hne : res ≠ none) (CX : CallFix p m c cX7_checkFeature 2 s args wsX7_checkFeature RX7) (hR : 6 ≤ R.frames ∧ 90 ≤ R.locals) (hQ : Q = vx_MQ below Qc XC args s 1 6 A) (hfl : l.stackTraces = false) (hlk : meth.locks = false) (hnx : ∀ x ∈ c.exceptionTable.toList, False) (hXC : ∀ (k : Nat) (M9 : Mm) (t : State), some (.inr k, M9) = res → va_P D vwCl (wl cs LC NC ad M9 ++ X) t.heap → va_F A s t → XC (exn k) s t) (hK : va_K D vwCl (tysC cs) s) (hSW : SW sw A s s.heap) (hP : va_P D vwCl (wl cs LC NC ad M ++ X) H) (hD : va_D A (wl cs LC NC ad M ++ X)) (hS : va_S A s.heap H locs) (hA : ∀ q, s.heap.size ≤ q → A q) (hRc : 1 ≤ R.cells ∧ 6 ≤ R.slots) {ls : Array Slot} (hl : lv_has ls 2 [(0, .ref (ad 0)), (1, .int a1)]) (hret : ∀ (pc : Nat) (ls : Array Slot) (H : Heap) (locs : List Loc) (M9 : Mm), some (.inl 0, M9) = res → decode cX7_checkFeature pc = .ok (.return_, 1) → va_P D vwCl (wl cs LC NC ad M9 ++ X) H → va_D A (wl cs LC NC ad M9 ++ X) → va_S A s.heap H locs → W p l e R s m args below meth c H locs 1 6 Q (F0 m pc ls [])) : W p l e R s m args below meth c H locs 0 0 Q (F0 m 0 ls []) := by
  obtain ⟨hx, hb, hml, hown, hts⟩ := id CX
  have hw : ∀ w ∈ WG, w.before args s = true := fun w h => hts w (List.mem_cons_of_mem _ h)
  unfold gX7_checkFeature at hg
  refine lv_iload_n hx hb dX7_checkFeature_0 rfl (lv_at hl 1 rfl) ?_
  refine lv_if_lt (tgt := 9) hx hb dX7_checkFeature_1 (by decide) (fun c1 => ?_) (fun c1 => ?_)
  · have hg := if_t hg c1
    rw [hQ]
    obtain ⟨sa, hsa⟩ := hSW.ms (203, "there is no such feature") (List.mem_of_getElem? (i := 2) rfl)
    exact vx_throwS (cls := "java/lang/IndexOutOfBoundsException") (names := exU) hx hb hfl hown (by decide) (by decide) (hw _ m2_52) (hw _ m1_18) hsa (ex_hat hw hSW (List.mem_of_getElem? (i := 2) rfl) ex2_1 ex2_2) ex2_3 hSW.us hSW.sp hS (hl.1.trans hml.symm) dX7_checkFeature_9 dX7_checkFeature_12 dX7_checkFeature_13 dX7_checkFeature_15 dX7_checkFeature_18 (fun x9 h9 => (hnx x9 h9).elim) (Nat.lt_of_lt_of_le (Nat.le_of_ble_eq_true rfl) hR.1) (Nat.le_trans (Nat.le_of_ble_eq_true rfl) hR.2) (Nat.le_trans (Nat.le_of_ble_eq_true rfl) hRc.1) (Nat.le_trans (Nat.le_of_ble_eq_true rfl) hRc.2) hlk (fun t9 ha9 hz9 hk9 => hXC 2 _ t9 hg (t_x hP hS hz9 hk9).1 (t_x hP hS hz9 hk9).2) hS.2.2 (by decide) (by decide)
  · have hg := if_f hg c1
    refine lv_iload_n hx hb dX7_checkFeature_4 rfl (lv_at hl 1 rfl) ?_
    refine lv_iconst (v := 4) hx hb dX7_checkFeature_5 (by decide) ?_
    refine lv_icmp_lt (tgt := 19) hx hb dX7_checkFeature_6 (by decide) (fun c2 => ?_) (fun c2 => ?_)
    · have hg := if_t hg c2
      refine W.widen (k := 1) (n := 6) (by decide) (by decide) ?_
      exact hret _ _ _ _ _ hg dX7_checkFeature_19 hP hD hS
    · have hg := if_f hg c2
      rw [hQ]
      obtain ⟨sa, hsa⟩ := hSW.ms (203, "there is no such feature") (List.mem_of_getElem? (i := 2) rfl)
      exact vx_throwS (cls := "java/lang/IndexOutOfBoundsException") (names := exU) hx hb hfl hown (by decide) (by decide) (hw _ m2_52) (hw _ m1_18) hsa (ex_hat hw hSW (List.mem_of_getElem? (i := 2) rfl) ex2_1 ex2_2) ex2_3 hSW.us hSW.sp hS (hl.1.trans hml.symm) dX7_checkFeature_9 dX7_checkFeature_12 dX7_checkFeature_13 dX7_checkFeature_15 dX7_checkFeature_18 (fun x9 h9 => (hnx x9 h9).elim) (Nat.lt_of_lt_of_le (Nat.le_of_ble_eq_true rfl) hR.1) (Nat.le_trans (Nat.le_of_ble_eq_true rfl) hR.2) (Nat.le_trans (Nat.le_of_ble_eq_true rfl) hRc.1) (Nat.le_trans (Nat.le_of_ble_eq_true rfl) hRc.2) hlk (fun t9 ha9 hz9 hk9 => hXC 2 _ t9 hg (t_x hP hS hz9 hk9).1 (t_x hP hS hz9 hk9).2) hS.2.2 (by decide) (by decide)
theorem ctX7_checkFeature (l : Launch) (hfl : l.stackTraces = false) (D : va_G) (sw : Sw) (cs : Cs) (ad : Nat → Nat) (X : va_W) (sz : Nat) (M : Mm) (a1 : Int32) {o : Int32 ⊕ Nat} {M1 : Mm} (hq : gX7_checkFeature M a1 = some (o, M1)) : vx_Met l yX7_checkFeature wsX7_checkFeature ({ frames := 6, cells := 1, slots := 6, locals := 90 }) (va_Pc [.ref (ad 0), .int a1] (wPre D sw cs LC NC ad M X sz)) (tQv D cs LC NC ad M1 X sz o) (tX D cs LC NC ad M1 X sz o) 1 6 (wA NC ad X sz) :=
  met_t rfl rfl (Nat.le_of_ble_eq_true rfl) (fun p e s m args below meth c ls CX hr hlk hnx hK hSW hP hD hS hA hsz hl => bX7_checkFeature M a1 hq (by simp) CX ⟨Nat.le_refl _, Nat.le_refl _⟩ rfl hfl hlk hnx (fun k M9 t he hB hF => ⟨(), trivial, ⟨⟨k, (Prod.mk.inj (Option.some.inj he)).1.symm, rfl⟩, wpost hB rfl (Prod.mk.inj (Option.some.inj he)).2⟩, hF⟩) hK hSW hP hD hS hA ⟨Nat.le_refl _, Nat.le_refl _⟩ hl (fun pc ls H locs M9 hv dg hP hD hS => vx_ret (W.vret CX.1 CX.2.1 hr (fun t ht hW => ⟨⟨(), rfl, (Prod.mk.inj (Option.some.inj hv)).1.symm, wpost hP ht (Prod.mk.inj (Option.some.inj hv)).2⟩, hS.F ht⟩) hS.2.2 dg)))

abbrev wsX7_checkItem : List Cond := Cond.code yX7_checkItem cX7_checkItem 2 none :: WG
def gX7_checkItem (M : Mm) (a1 : Int32) : Option ((Int32 ⊕ Nat) × Mm) := if a1 < 0 then (some (.inr 2, M)) else if a1 < (M 1 1) then (some (.inl 0, M)) else some (.inr 2, M)
set_option maxHeartbeats 4000000 in
set_option maxRecDepth 100000 in
theorem bX7_checkItem {p : Program} {l : Launch} {e : Env} {R : Room} {s : State} {m : MethodId} {args : Array Value} {below : List Frame} {meth : Method} {c : Code} {H : Heap} {locs : List Loc} {Q : State → Prop} {D : va_G} {sw : Sw} {cs : Cs} {ad : Nat → Nat} {X : va_W} {A : Nat → Prop} {Qc : Array Value → State → Outcome → State → Prop} {XC : String → State → State → Prop} (M : Mm) (a1 : Int32) {res : Option ((Int32 ⊕ Nat) × Mm)} (hg : gX7_checkItem M a1 = res) (hne : res ≠ none) (CX : CallFix p m c cX7_checkItem 2 s args wsX7_checkItem RX7) (hR : 6 ≤ R.frames ∧ 90 ≤ R.locals) (hQ : Q = vx_MQ below Qc XC args s 1 6 A) (hfl : l.stackTraces = false) (hlk : meth.locks = false) (hnx : ∀ x ∈ c.exceptionTable.toList, False) (hXC : ∀ (k : Nat) (M9 : Mm) (t : State), some (.inr k, M9) = res → va_P D vwCl (wl cs LC NC ad M9 ++ X) t.heap → va_F A s t → XC (exn k) s t) (hK : va_K D vwCl (tysC cs) s) (hSW : SW sw A s s.heap) (hP : va_P D vwCl (wl cs LC NC ad M ++ X) H) (hD : va_D A (wl cs LC NC ad M ++ X)) (hS : va_S A s.heap H locs) (hA : ∀ q, s.heap.size ≤ q → A q) (hRc : 1 ≤ R.cells ∧ 6 ≤ R.slots) {ls : Array Slot} (hl : lv_has ls 2 [(0, .ref (ad 0)), (1, .int a1)]) (hret : ∀ (pc : Nat) (ls : Array Slot) (H : Heap) (locs : List Loc) (M9 : Mm), some (.inl 0, M9) = res → decode cX7_checkItem pc = .ok (.return_, 1) → va_P D vwCl (wl cs LC NC ad M9 ++ X) H → va_D A (wl cs LC NC ad M9 ++ X) → va_S A s.heap H locs → W p l e R s m args below meth c H locs 1 6 Q (F0 m pc ls [])) : W p l e R s m args below meth c H locs 0 0 Q (F0 m 0 ls []) := by
  obtain ⟨hx, hb, hml, hown, hts⟩ := id CX
  have hw : ∀ w ∈ WG, w.before args s = true := fun w h => hts w (List.mem_cons_of_mem _ h)
  have lk_10 := hw _ m1_159
  have lk_55 := hw _ m1_39
  unfold gX7_checkItem at hg
  refine lv_iload_n hx hb dX7_checkItem_0 rfl (lv_at hl 1 rfl) ?_
  refine lv_if_lt (tgt := 15) hx hb dX7_checkItem_1 (by decide) (fun c1 => ?_) (fun c1 => ?_)
  · have hg := if_t hg c1
    rw [hQ]
    obtain ⟨sa, hsa⟩ := hSW.ms (206, "there is no such item") (List.mem_of_getElem? (i := 6) rfl)
    exact vx_throwS (cls := "java/lang/IndexOutOfBoundsException") (names := exU) hx hb hfl hown (by decide) (by decide) (hw _ m2_52) (hw _ m1_18) hsa (ex_hat hw hSW (List.mem_of_getElem? (i := 2) rfl) ex2_1 ex2_2) ex2_3 hSW.us hSW.sp hS (hl.1.trans hml.symm) dX7_checkItem_15 dX7_checkItem_18 dX7_checkItem_19 dX7_checkItem_21 dX7_checkItem_24 (fun x9 h9 => (hnx x9 h9).elim) (Nat.lt_of_lt_of_le (Nat.le_of_ble_eq_true rfl) hR.1) (Nat.le_trans (Nat.le_of_ble_eq_true rfl) hR.2) (Nat.le_trans (Nat.le_of_ble_eq_true rfl) hRc.1) (Nat.le_trans (Nat.le_of_ble_eq_true rfl) hRc.2) hlk (fun t9 ha9 hz9 hk9 => hXC 2 _ t9 hg (t_x hP hS hz9 hk9).1 (t_x hP hS hz9 hk9).2) hS.2.2 (by decide) (by decide)
  · have hg := if_f hg c1
    refine lv_iload_n hx hb dX7_checkItem_4 rfl (lv_at hl 1 rfl) ?_
    refine lv_aload_n hx hb dX7_checkItem_5 rfl (lv_at hl 0 rfl) ?_
    refine m_gr (C := RX7) (T := TX7) (n := 5) (ci := 5) hx hb hts in_RX7 hown hK hP (by decide) rfl rfl 0 (by decide) rfl lk_10 (fun _ h9 => h9) dX7_checkItem_6 ?_
    refine m_gi (C := RX4) (T := TX4) (n := 2) (ci := 2) hx hb hts in_RX4 hown hK hP (by decide) rfl rfl 1 (by decide) rfl lk_55 (fun _ h9 => h9) dX7_checkItem_9 ?_
    refine lv_icmp_lt (tgt := 25) hx hb dX7_checkItem_12 (by decide) (fun c2 => ?_) (fun c2 => ?_)
    · have hg := if_t hg c2
      refine W.widen (k := 1) (n := 6) (by decide) (by decide) ?_
      exact hret _ _ _ _ _ hg dX7_checkItem_25 hP hD hS
    · have hg := if_f hg c2
      rw [hQ]
      obtain ⟨sa, hsa⟩ := hSW.ms (206, "there is no such item") (List.mem_of_getElem? (i := 6) rfl)
      exact vx_throwS (cls := "java/lang/IndexOutOfBoundsException") (names := exU) hx hb hfl hown (by decide) (by decide) (hw _ m2_52) (hw _ m1_18) hsa (ex_hat hw hSW (List.mem_of_getElem? (i := 2) rfl) ex2_1 ex2_2) ex2_3 hSW.us hSW.sp hS (hl.1.trans hml.symm) dX7_checkItem_15 dX7_checkItem_18 dX7_checkItem_19 dX7_checkItem_21 dX7_checkItem_24 (fun x9 h9 => (hnx x9 h9).elim) (Nat.lt_of_lt_of_le (Nat.le_of_ble_eq_true rfl) hR.1) (Nat.le_trans (Nat.le_of_ble_eq_true rfl) hR.2) (Nat.le_trans (Nat.le_of_ble_eq_true rfl) hRc.1) (Nat.le_trans (Nat.le_of_ble_eq_true rfl) hRc.2) hlk (fun t9 ha9 hz9 hk9 => hXC 2 _ t9 hg (t_x hP hS hz9 hk9).1 (t_x hP hS hz9 hk9).2) hS.2.2 (by decide) (by decide)
theorem ctX7_checkItem (l : Launch) (hfl : l.stackTraces = false) (D : va_G) (sw : Sw) (cs : Cs) (ad : Nat → Nat) (X : va_W) (sz : Nat) (M : Mm) (a1 : Int32) {o : Int32 ⊕ Nat} {M1 : Mm} (hq : gX7_checkItem M a1 = some (o, M1)) : vx_Met l yX7_checkItem wsX7_checkItem ({ frames := 6, cells := 1, slots := 6, locals := 90 }) (va_Pc [.ref (ad 0), .int a1] (wPre D sw cs LC NC ad M X sz)) (tQv D cs LC NC ad M1 X sz o) (tX D cs LC NC ad M1 X sz o) 1 6 (wA NC ad X sz) :=
  met_t rfl rfl (Nat.le_of_ble_eq_true rfl) (fun p e s m args below meth c ls CX hr hlk hnx hK hSW hP hD hS hA hsz hl => bX7_checkItem M a1 hq (by simp) CX ⟨Nat.le_refl _, Nat.le_refl _⟩ rfl hfl hlk hnx (fun k M9 t he hB hF => ⟨(), trivial, ⟨⟨k, (Prod.mk.inj (Option.some.inj he)).1.symm, rfl⟩, wpost hB rfl (Prod.mk.inj (Option.some.inj he)).2⟩, hF⟩) hK hSW hP hD hS hA ⟨Nat.le_refl _, Nat.le_refl _⟩ hl (fun pc ls H locs M9 hv dg hP hD hS => vx_ret (W.vret CX.1 CX.2.1 hr (fun t ht hW => ⟨⟨(), rfl, (Prod.mk.inj (Option.some.inj hv)).1.symm, wpost hP ht (Prod.mk.inj (Option.some.inj hv)).2⟩, hS.F ht⟩) hS.2.2 dg)))

abbrev wsX7_checkConfiguration : List Cond := Cond.code yX7_checkConfiguration cX7_checkConfiguration 2 none :: WG
def gX7_checkConfiguration (M : Mm) (a1 : Int32) : Option ((Int32 ⊕ Nat) × Mm) := if a1 < 0 then (some (.inr 2, M)) else if a1 < (16 : Int32) then (some (.inl 0, M)) else some (.inr 2, M)
set_option maxHeartbeats 4000000 in
set_option maxRecDepth 100000 in
theorem bX7_checkConfiguration {p : Program} {l : Launch} {e : Env} {R : Room} {s : State} {m : MethodId} {args : Array Value} {below : List Frame} {meth : Method} {c : Code} {H : Heap} {locs : List Loc} {Q : State → Prop} {D : va_G} {sw : Sw} {cs : Cs} {ad : Nat → Nat} {X : va_W} {A : Nat → Prop} {Qc : Array Value → State → Outcome → State → Prop} {XC : String → State → State → Prop} (M : Mm) (a1 : Int32) {res : Option ((Int32 ⊕ Nat) × Mm)} (hg : gX7_checkConfiguration M a1 = res) (hne : res ≠ none) (CX : CallFix p m c cX7_checkConfiguration 2 s args wsX7_checkConfiguration RX7) (hR : 6 ≤ R.frames ∧ 90 ≤ R.locals) (hQ : Q = vx_MQ below Qc XC args s 1 6 A) (hfl : l.stackTraces = false) (hlk : meth.locks = false) (hnx : ∀ x ∈ c.exceptionTable.toList, False) (hXC : ∀ (k : Nat) (M9 : Mm) (t : State), some (.inr k, M9) = res → va_P D vwCl (wl cs LC NC ad M9 ++ X) t.heap → va_F A s t → XC (exn k) s t) (hK : va_K D vwCl (tysC cs) s) (hSW : SW sw A s s.heap) (hP : va_P D vwCl (wl cs LC NC ad M ++ X) H) (hD : va_D A (wl cs LC NC ad M ++ X)) (hS : va_S A s.heap H locs) (hA : ∀ q, s.heap.size ≤ q → A q) (hRc : 1 ≤ R.cells ∧ 6 ≤ R.slots) {ls : Array Slot} (hl : lv_has ls 2 [(0, .ref (ad 0)), (1, .int a1)]) (hret : ∀ (pc : Nat) (ls : Array Slot) (H : Heap) (locs : List Loc) (M9 : Mm), some (.inl 0, M9) = res → decode cX7_checkConfiguration pc = .ok (.return_, 1) → va_P D vwCl (wl cs LC NC ad M9 ++ X) H → va_D A (wl cs LC NC ad M9 ++ X) → va_S A s.heap H locs → W p l e R s m args below meth c H locs 1 6 Q (F0 m pc ls [])) : W p l e R s m args below meth c H locs 0 0 Q (F0 m 0 ls []) := by
  obtain ⟨hx, hb, hml, hown, hts⟩ := id CX
  have hw : ∀ w ∈ WG, w.before args s = true := fun w h => hts w (List.mem_cons_of_mem _ h)
  unfold gX7_checkConfiguration at hg
  refine lv_iload_n hx hb dX7_checkConfiguration_0 rfl (lv_at hl 1 rfl) ?_
  refine lv_if_lt (tgt := 10) hx hb dX7_checkConfiguration_1 (by decide) (fun c1 => ?_) (fun c1 => ?_)
  · have hg := if_t hg c1
    rw [hQ]
    obtain ⟨sa, hsa⟩ := hSW.ms (208, "there is no such configuration") (List.mem_of_getElem? (i := 7) rfl)
    exact vx_throwS (cls := "java/lang/IndexOutOfBoundsException") (names := exU) hx hb hfl hown (by decide) (by decide) (hw _ m2_52) (hw _ m1_18) hsa (ex_hat hw hSW (List.mem_of_getElem? (i := 2) rfl) ex2_1 ex2_2) ex2_3 hSW.us hSW.sp hS (hl.1.trans hml.symm) dX7_checkConfiguration_10 dX7_checkConfiguration_13 dX7_checkConfiguration_14 dX7_checkConfiguration_16 dX7_checkConfiguration_19 (fun x9 h9 => (hnx x9 h9).elim) (Nat.lt_of_lt_of_le (Nat.le_of_ble_eq_true rfl) hR.1) (Nat.le_trans (Nat.le_of_ble_eq_true rfl) hR.2) (Nat.le_trans (Nat.le_of_ble_eq_true rfl) hRc.1) (Nat.le_trans (Nat.le_of_ble_eq_true rfl) hRc.2) hlk (fun t9 ha9 hz9 hk9 => hXC 2 _ t9 hg (t_x hP hS hz9 hk9).1 (t_x hP hS hz9 hk9).2) hS.2.2 (by decide) (by decide)
  · have hg := if_f hg c1
    refine lv_iload_n hx hb dX7_checkConfiguration_4 rfl (lv_at hl 1 rfl) ?_
    refine lv_bipush (v := 16) hx hb dX7_checkConfiguration_5 (by decide) ?_
    refine lv_icmp_lt (tgt := 20) hx hb dX7_checkConfiguration_7 (by decide) (fun c2 => ?_) (fun c2 => ?_)
    · have hg := if_t hg c2
      refine W.widen (k := 1) (n := 6) (by decide) (by decide) ?_
      exact hret _ _ _ _ _ hg dX7_checkConfiguration_20 hP hD hS
    · have hg := if_f hg c2
      rw [hQ]
      obtain ⟨sa, hsa⟩ := hSW.ms (208, "there is no such configuration") (List.mem_of_getElem? (i := 7) rfl)
      exact vx_throwS (cls := "java/lang/IndexOutOfBoundsException") (names := exU) hx hb hfl hown (by decide) (by decide) (hw _ m2_52) (hw _ m1_18) hsa (ex_hat hw hSW (List.mem_of_getElem? (i := 2) rfl) ex2_1 ex2_2) ex2_3 hSW.us hSW.sp hS (hl.1.trans hml.symm) dX7_checkConfiguration_10 dX7_checkConfiguration_13 dX7_checkConfiguration_14 dX7_checkConfiguration_16 dX7_checkConfiguration_19 (fun x9 h9 => (hnx x9 h9).elim) (Nat.lt_of_lt_of_le (Nat.le_of_ble_eq_true rfl) hR.1) (Nat.le_trans (Nat.le_of_ble_eq_true rfl) hR.2) (Nat.le_trans (Nat.le_of_ble_eq_true rfl) hRc.1) (Nat.le_trans (Nat.le_of_ble_eq_true rfl) hRc.2) hlk (fun t9 ha9 hz9 hk9 => hXC 2 _ t9 hg (t_x hP hS hz9 hk9).1 (t_x hP hS hz9 hk9).2) hS.2.2 (by decide) (by decide)
theorem ctX7_checkConfiguration (l : Launch) (hfl : l.stackTraces = false) (D : va_G) (sw : Sw) (cs : Cs) (ad : Nat → Nat) (X : va_W) (sz : Nat) (M : Mm) (a1 : Int32) {o : Int32 ⊕ Nat} {M1 : Mm} (hq : gX7_checkConfiguration M a1 = some (o, M1)) : vx_Met l yX7_checkConfiguration wsX7_checkConfiguration ({ frames := 6, cells := 1, slots := 6, locals := 90 }) (va_Pc [.ref (ad 0), .int a1] (wPre D sw cs LC NC ad M X sz)) (tQv D cs LC NC ad M1 X sz o) (tX D cs LC NC ad M1 X sz o) 1 6 (wA NC ad X sz) :=
  met_t rfl rfl (Nat.le_of_ble_eq_true rfl) (fun p e s m args below meth c ls CX hr hlk hnx hK hSW hP hD hS hA hsz hl => bX7_checkConfiguration M a1 hq (by simp) CX ⟨Nat.le_refl _, Nat.le_refl _⟩ rfl hfl hlk hnx (fun k M9 t he hB hF => ⟨(), trivial, ⟨⟨k, (Prod.mk.inj (Option.some.inj he)).1.symm, rfl⟩, wpost hB rfl (Prod.mk.inj (Option.some.inj he)).2⟩, hF⟩) hK hSW hP hD hS hA ⟨Nat.le_refl _, Nat.le_refl _⟩ hl (fun pc ls H locs M9 hv dg hP hD hS => vx_ret (W.vret CX.1 CX.2.1 hr (fun t ht hW => ⟨⟨(), rfl, (Prod.mk.inj (Option.some.inj hv)).1.symm, wpost hP ht (Prod.mk.inj (Option.some.inj hv)).2⟩, hS.F ht⟩) hS.2.2 dg)))

abbrev wsX7_checkIndex : List Cond := Cond.code yX7_checkIndex cX7_checkIndex 3 none :: WG
def gX7_checkIndex (M : Mm) (a1 : Int32) (a2 : Int32) : Option ((Int32 ⊕ Nat) × Mm) := if a2 < 0 then (some (.inr 2, M)) else if (a1 < 0 ∨ 16 ≤ (a1).toNatClampNeg) then none else lt ((a1).toNatClampNeg) fun v3 => if a2 < (M (vb v3) 2) then (some (.inl 0, M)) else some (.inr 2, M)
set_option maxHeartbeats 4000000 in
set_option maxRecDepth 100000 in
theorem bX7_checkIndex {p : Program} {l : Launch} {e : Env} {R : Room} {s : State} {m : MethodId} {args : Array Value} {below : List Frame} {meth : Method} {c : Code} {H : Heap} {locs : List Loc} {Q : State → Prop} {D : va_G} {sw : Sw} {cs : Cs} {ad : Nat → Nat} {X : va_W} {A : Nat → Prop} {Qc : Array Value → State → Outcome → State → Prop} {XC : String → State → State → Prop} (M : Mm) (a1 : Int32) (a2 : Int32) {res : Option ((Int32 ⊕ Nat) × Mm)} (hg : gX7_checkIndex M a1 a2 = res) (hne : res ≠ none) (CX : CallFix p m c cX7_checkIndex 3 s args wsX7_checkIndex RX7) (hR : 6 ≤ R.frames ∧ 90 ≤ R.locals) (hQ : Q = vx_MQ below Qc XC args s 1 6 A) (hfl : l.stackTraces = false) (hlk : meth.locks = false) (hnx : ∀ x ∈ c.exceptionTable.toList, False) (hXC : ∀ (k : Nat) (M9 : Mm) (t : State), some (.inr k, M9) = res → va_P D vwCl (wl cs LC NC ad M9 ++ X) t.heap → va_F A s t → XC (exn k) s t) (hK : va_K D vwCl (tysC cs) s) (hSW : SW sw A s s.heap) (hP : va_P D vwCl (wl cs LC NC ad M ++ X) H) (hD : va_D A (wl cs LC NC ad M ++ X)) (hS : va_S A s.heap H locs) (hA : ∀ q, s.heap.size ≤ q → A q) (hRc : 1 ≤ R.cells ∧ 6 ≤ R.slots) {ls : Array Slot} (hl : lv_has ls 3 [(0, .ref (ad 0)), (1, .int a1), (2, .int a2)]) (hret : ∀ (pc : Nat) (ls : Array Slot) (H : Heap) (locs : List Loc) (M9 : Mm), some (.inl 0, M9) = res → decode cX7_checkIndex pc = .ok (.return_, 1) → va_P D vwCl (wl cs LC NC ad M9 ++ X) H → va_D A (wl cs LC NC ad M9 ++ X) → va_S A s.heap H locs → W p l e R s m args below meth c H locs 1 6 Q (F0 m pc ls [])) : W p l e R s m args below meth c H locs 0 0 Q (F0 m 0 ls []) := by
  obtain ⟨hx, hb, hml, hown, hts⟩ := id CX
  have hw : ∀ w ∈ WG, w.before args s = true := fun w h => hts w (List.mem_cons_of_mem _ h)
  have lk_25 := hw _ m1_161
  have lk_132 := hw _ m1_143
  unfold gX7_checkIndex at hg
  refine lv_iload_n hx hb dX7_checkIndex_0 rfl (lv_at hl 2 rfl) ?_
  refine lv_if_lt (tgt := 17) hx hb dX7_checkIndex_1 (by decide) (fun c1 => ?_) (fun c1 => ?_)
  · have hg := if_t hg c1
    rw [hQ]
    obtain ⟨sa, hsa⟩ := hSW.ms (210, "there is no such index") (List.mem_of_getElem? (i := 8) rfl)
    exact vx_throwS (cls := "java/lang/IndexOutOfBoundsException") (names := exU) hx hb hfl hown (by decide) (by decide) (hw _ m2_52) (hw _ m1_18) hsa (ex_hat hw hSW (List.mem_of_getElem? (i := 2) rfl) ex2_1 ex2_2) ex2_3 hSW.us hSW.sp hS (hl.1.trans hml.symm) dX7_checkIndex_17 dX7_checkIndex_20 dX7_checkIndex_21 dX7_checkIndex_23 dX7_checkIndex_26 (fun x9 h9 => (hnx x9 h9).elim) (Nat.lt_of_lt_of_le (Nat.le_of_ble_eq_true rfl) hR.1) (Nat.le_trans (Nat.le_of_ble_eq_true rfl) hR.2) (Nat.le_trans (Nat.le_of_ble_eq_true rfl) hRc.1) (Nat.le_trans (Nat.le_of_ble_eq_true rfl) hRc.2) hlk (fun t9 ha9 hz9 hk9 => hXC 2 _ t9 hg (t_x hP hS hz9 hk9).1 (t_x hP hS hz9 hk9).2) hS.2.2 (by decide) (by decide)
  · have hg := if_f hg c1
    refine lv_iload_n hx hb dX7_checkIndex_4 rfl (lv_at hl 2 rfl) ?_
    refine lv_aload_n hx hb dX7_checkIndex_5 rfl (lv_at hl 0 rfl) ?_
    refine m_gr (C := RX7) (T := TX7) (n := 5) (ci := 5) hx hb hts in_RX7 hown hK hP (by decide) rfl rfl 2 (by decide) rfl lk_25 (fun _ h9 => h9) dX7_checkIndex_6 ?_
    refine lv_iload_n hx hb dX7_checkIndex_9 rfl (lv_at hl 1 rfl) ?_
    obtain ⟨b2, hg⟩ := ck_e hg hne
    obtain ⟨v3, hv3, hg⟩ := lt_e hg
    have h4 := ix_lt b2 hv3
    refine m_lq (k := 13) hx hb hK hP (by decide) rfl b2 dX7_checkIndex_10 ?_
    rw [← hv3]
    refine m_gi (C := RX5) (T := TX5) (n := 5) (ci := 3) hx hb hts in_RX5 hown hK hP (kC_v0 h4) (LC_VAR v3) rfl 2 (by decide) rfl lk_132 (fun _ h9 => h9) dX7_checkIndex_11 ?_
    refine lv_icmp_lt (tgt := 27) hx hb dX7_checkIndex_14 (by decide) (fun c5 => ?_) (fun c5 => ?_)
    · have hg := if_t hg c5
      refine W.widen (k := 1) (n := 6) (by decide) (by decide) ?_
      exact hret _ _ _ _ _ hg dX7_checkIndex_27 hP hD hS
    · have hg := if_f hg c5
      rw [hQ]
      obtain ⟨sa, hsa⟩ := hSW.ms (210, "there is no such index") (List.mem_of_getElem? (i := 8) rfl)
      exact vx_throwS (cls := "java/lang/IndexOutOfBoundsException") (names := exU) hx hb hfl hown (by decide) (by decide) (hw _ m2_52) (hw _ m1_18) hsa (ex_hat hw hSW (List.mem_of_getElem? (i := 2) rfl) ex2_1 ex2_2) ex2_3 hSW.us hSW.sp hS (hl.1.trans hml.symm) dX7_checkIndex_17 dX7_checkIndex_20 dX7_checkIndex_21 dX7_checkIndex_23 dX7_checkIndex_26 (fun x9 h9 => (hnx x9 h9).elim) (Nat.lt_of_lt_of_le (Nat.le_of_ble_eq_true rfl) hR.1) (Nat.le_trans (Nat.le_of_ble_eq_true rfl) hR.2) (Nat.le_trans (Nat.le_of_ble_eq_true rfl) hRc.1) (Nat.le_trans (Nat.le_of_ble_eq_true rfl) hRc.2) hlk (fun t9 ha9 hz9 hk9 => hXC 2 _ t9 hg (t_x hP hS hz9 hk9).1 (t_x hP hS hz9 hk9).2) hS.2.2 (by decide) (by decide)
theorem ctX7_checkIndex (l : Launch) (hfl : l.stackTraces = false) (D : va_G) (sw : Sw) (cs : Cs) (ad : Nat → Nat) (X : va_W) (sz : Nat) (M : Mm) (a1 : Int32) (a2 : Int32) {o : Int32 ⊕ Nat} {M1 : Mm} (hq : gX7_checkIndex M a1 a2 = some (o, M1)) : vx_Met l yX7_checkIndex wsX7_checkIndex ({ frames := 6, cells := 1, slots := 6, locals := 90 }) (va_Pc [.ref (ad 0), .int a1, .int a2] (wPre D sw cs LC NC ad M X sz)) (tQv D cs LC NC ad M1 X sz o) (tX D cs LC NC ad M1 X sz o) 1 6 (wA NC ad X sz) :=
  met_t rfl rfl (Nat.le_of_ble_eq_true rfl) (fun p e s m args below meth c ls CX hr hlk hnx hK hSW hP hD hS hA hsz hl => bX7_checkIndex M a1 a2 hq (by simp) CX ⟨Nat.le_refl _, Nat.le_refl _⟩ rfl hfl hlk hnx (fun k M9 t he hB hF => ⟨(), trivial, ⟨⟨k, (Prod.mk.inj (Option.some.inj he)).1.symm, rfl⟩, wpost hB rfl (Prod.mk.inj (Option.some.inj he)).2⟩, hF⟩) hK hSW hP hD hS hA ⟨Nat.le_refl _, Nat.le_refl _⟩ hl (fun pc ls H locs M9 hv dg hP hD hS => vx_ret (W.vret CX.1 CX.2.1 hr (fun t ht hW => ⟨⟨(), rfl, (Prod.mk.inj (Option.some.inj hv)).1.symm, wpost hP ht (Prod.mk.inj (Option.some.inj hv)).2⟩, hS.F ht⟩) hS.2.2 dg)))

abbrev wsX7_checkRoom : List Cond := Cond.code yX7_checkRoom cX7_checkRoom 1 none :: WG
def gX7_checkRoom (M : Mm) : Option ((Int32 ⊕ Nat) × Mm) := if (M 1 1) < (80 : Int32) then (some (.inl 0, M)) else some (.inr 1, M)
set_option maxHeartbeats 4000000 in
set_option maxRecDepth 100000 in
theorem bX7_checkRoom {p : Program} {l : Launch} {e : Env} {R : Room} {s : State} {m : MethodId} {args : Array Value} {below : List Frame} {meth : Method} {c : Code} {H : Heap} {locs : List Loc} {Q : State → Prop} {D : va_G} {sw : Sw} {cs : Cs} {ad : Nat → Nat} {X : va_W} {A : Nat → Prop} {Qc : Array Value → State → Outcome → State → Prop} {XC : String → State → State → Prop} (M : Mm) {res : Option ((Int32 ⊕ Nat) × Mm)} (hg : gX7_checkRoom M = res) (hne : res ≠ none) (CX : CallFix p m c cX7_checkRoom 1 s args wsX7_checkRoom RX7) (hR : 6 ≤ R.frames ∧ 90 ≤ R.locals) (hQ : Q = vx_MQ below Qc XC args s 1 6 A) (hfl : l.stackTraces = false) (hlk : meth.locks = false) (hnx : ∀ x ∈ c.exceptionTable.toList, False) (hXC : ∀ (k : Nat) (M9 : Mm) (t : State), some (.inr k, M9) = res → va_P D vwCl (wl cs LC NC ad M9 ++ X) t.heap → va_F A s t → XC (exn k) s t) (hK : va_K D vwCl (tysC cs) s) (hSW : SW sw A s s.heap) (hP : va_P D vwCl (wl cs LC NC ad M ++ X) H) (hD : va_D A (wl cs LC NC ad M ++ X)) (hS : va_S A s.heap H locs) (hA : ∀ q, s.heap.size ≤ q → A q) (hRc : 1 ≤ R.cells ∧ 6 ≤ R.slots) {ls : Array Slot} (hl : lv_has ls 1 [(0, .ref (ad 0))]) (hret : ∀ (pc : Nat) (ls : Array Slot) (H : Heap) (locs : List Loc) (M9 : Mm), some (.inl 0, M9) = res → decode cX7_checkRoom pc = .ok (.return_, 1) → va_P D vwCl (wl cs LC NC ad M9 ++ X) H → va_D A (wl cs LC NC ad M9 ++ X) → va_S A s.heap H locs → W p l e R s m args below meth c H locs 1 6 Q (F0 m pc ls [])) : W p l e R s m args below meth c H locs 0 0 Q (F0 m 0 ls []) := by
  obtain ⟨hx, hb, hml, hown, hts⟩ := id CX
  have hw : ∀ w ∈ WG, w.before args s = true := fun w h => hts w (List.mem_cons_of_mem _ h)
  have lk_10 := hw _ m1_159
  have lk_55 := hw _ m1_39
  unfold gX7_checkRoom at hg
  refine lv_aload_n hx hb dX7_checkRoom_0 rfl (lv_at hl 0 rfl) ?_
  refine m_gr (C := RX7) (T := TX7) (n := 5) (ci := 5) hx hb hts in_RX7 hown hK hP (by decide) rfl rfl 0 (by decide) rfl lk_10 (fun _ h9 => h9) dX7_checkRoom_1 ?_
  refine m_gi (C := RX4) (T := TX4) (n := 2) (ci := 2) hx hb hts in_RX4 hown hK hP (by decide) rfl rfl 1 (by decide) rfl lk_55 (fun _ h9 => h9) dX7_checkRoom_4 ?_
  refine lv_bipush (v := 80) hx hb dX7_checkRoom_7 (by decide) ?_
  refine lv_icmp_lt (tgt := 22) hx hb dX7_checkRoom_9 (by decide) (fun c1 => ?_) (fun c1 => ?_)
  · have hg := if_t hg c1
    refine W.widen (k := 1) (n := 6) (by decide) (by decide) ?_
    exact hret _ _ _ _ _ hg dX7_checkRoom_22 hP hD hS
  · have hg := if_f hg c1
    rw [hQ]
    obtain ⟨sa, hsa⟩ := hSW.ms (61, "too many items") (List.mem_of_getElem? (i := 1) rfl)
    exact vx_throwS (cls := "java/lang/IllegalStateException") (names := exU) hx hb hfl hown (by decide) (by decide) (hw _ m2_20) (hw _ m1_16) hsa (ex_hat hw hSW (List.mem_of_getElem? (i := 1) rfl) ex1_1 ex1_2) ex1_3 hSW.us hSW.sp hS (hl.1.trans hml.symm) dX7_checkRoom_12 dX7_checkRoom_15 dX7_checkRoom_16 dX7_checkRoom_18 dX7_checkRoom_21 (fun x9 h9 => (hnx x9 h9).elim) (Nat.lt_of_lt_of_le (Nat.le_of_ble_eq_true rfl) hR.1) (Nat.le_trans (Nat.le_of_ble_eq_true rfl) hR.2) (Nat.le_trans (Nat.le_of_ble_eq_true rfl) hRc.1) (Nat.le_trans (Nat.le_of_ble_eq_true rfl) hRc.2) hlk (fun t9 ha9 hz9 hk9 => hXC 1 _ t9 hg (t_x hP hS hz9 hk9).1 (t_x hP hS hz9 hk9).2) hS.2.2 (by decide) (by decide)
theorem ctX7_checkRoom (l : Launch) (hfl : l.stackTraces = false) (D : va_G) (sw : Sw) (cs : Cs) (ad : Nat → Nat) (X : va_W) (sz : Nat) (M : Mm) {o : Int32 ⊕ Nat} {M1 : Mm} (hq : gX7_checkRoom M = some (o, M1)) : vx_Met l yX7_checkRoom wsX7_checkRoom ({ frames := 6, cells := 1, slots := 6, locals := 90 }) (va_Pc [.ref (ad 0)] (wPre D sw cs LC NC ad M X sz)) (tQv D cs LC NC ad M1 X sz o) (tX D cs LC NC ad M1 X sz o) 1 6 (wA NC ad X sz) :=
  met_t rfl rfl (Nat.le_of_ble_eq_true rfl) (fun p e s m args below meth c ls CX hr hlk hnx hK hSW hP hD hS hA hsz hl => bX7_checkRoom M hq (by simp) CX ⟨Nat.le_refl _, Nat.le_refl _⟩ rfl hfl hlk hnx (fun k M9 t he hB hF => ⟨(), trivial, ⟨⟨k, (Prod.mk.inj (Option.some.inj he)).1.symm, rfl⟩, wpost hB rfl (Prod.mk.inj (Option.some.inj he)).2⟩, hF⟩) hK hSW hP hD hS hA ⟨Nat.le_refl _, Nat.le_refl _⟩ hl (fun pc ls H locs M9 hv dg hP hD hS => vx_ret (W.vret CX.1 CX.2.1 hr (fun t ht hW => ⟨⟨(), rfl, (Prod.mk.inj (Option.some.inj hv)).1.symm, wpost hP ht (Prod.mk.inj (Option.some.inj hv)).2⟩, hS.F ht⟩) hS.2.2 dg)))

abbrev wsX7_checkUnfinished : List Cond := Cond.code yX7_checkUnfinished cX7_checkUnfinished 1 none :: WG
def gX7_checkUnfinished (M : Mm) : Option ((Int32 ⊕ Nat) × Mm) := bd (gX4_countUnfinished M ) fun r1 => if r1 = 0 then (some (.inr 1, M)) else some (.inl 0, M)
set_option maxHeartbeats 4000000 in
set_option maxRecDepth 100000 in
theorem bX7_checkUnfinished {p : Program} {l : Launch} {e : Env} {R : Room} {s : State} {m : MethodId} {args : Array Value} {below : List Frame} {meth : Method} {c : Code} {H : Heap} {locs : List Loc} {Q : State → Prop} {D : va_G} {sw : Sw} {cs : Cs} {ad : Nat → Nat} {X : va_W} {A : Nat → Prop} {Qc : Array Value → State → Outcome → State → Prop} {XC : String → State → State → Prop} (M : Mm) {res : Option ((Int32 ⊕ Nat) × Mm)} (hg : gX7_checkUnfinished M = res) (hne : res ≠ none) (CX : CallFix p m c cX7_checkUnfinished 1 s args wsX7_checkUnfinished RX7) (hR : 6 ≤ R.frames ∧ 90 ≤ R.locals) (hQ : Q = vx_MQ below Qc XC args s 1 6 A) (hfl : l.stackTraces = false) (hlk : meth.locks = false) (hnx : ∀ x ∈ c.exceptionTable.toList, False) (hXC : ∀ (k : Nat) (M9 : Mm) (t : State), some (.inr k, M9) = res → va_P D vwCl (wl cs LC NC ad M9 ++ X) t.heap → va_F A s t → XC (exn k) s t) (hK : va_K D vwCl (tysC cs) s) (hSW : SW sw A s s.heap) (hP : va_P D vwCl (wl cs LC NC ad M ++ X) H) (hD : va_D A (wl cs LC NC ad M ++ X)) (hS : va_S A s.heap H locs) (hA : ∀ q, s.heap.size ≤ q → A q) (hRc : 1 ≤ R.cells ∧ 6 ≤ R.slots) {ls : Array Slot} (hl : lv_has ls 1 [(0, .ref (ad 0))]) (hret : ∀ (pc : Nat) (ls : Array Slot) (H : Heap) (locs : List Loc) (M9 : Mm), some (.inl 0, M9) = res → decode cX7_checkUnfinished pc = .ok (.return_, 1) → va_P D vwCl (wl cs LC NC ad M9 ++ X) H → va_D A (wl cs LC NC ad M9 ++ X) → va_S A s.heap H locs → W p l e R s m args below meth c H locs 1 6 Q (F0 m pc ls [])) : W p l e R s m args below meth c H locs 0 0 Q (F0 m 0 ls []) := by
  obtain ⟨hx, hb, hml, hown, hts⟩ := id CX
  have hw : ∀ w ∈ WG, w.before args s = true := fun w h => hts w (List.mem_cons_of_mem _ h)
  have lk_10 := hw _ m1_159
  unfold gX7_checkUnfinished at hg
  refine lv_aload_n hx hb dX7_checkUnfinished_0 rfl (lv_at hl 0 rfl) ?_
  refine m_gr (C := RX7) (T := TX7) (n := 5) (ci := 5) hx hb hts in_RX7 hown hK hP (by decide) rfl rfl 0 (by decide) rfl lk_10 (fun _ h9 => h9) dX7_checkUnfinished_1 ?_
  obtain ⟨r1, q2, hg⟩ := bd_e hg hne
  refine r_calli (W.runV (As := []) (rest := []) CX (ctX4_countUnfinished l D sw cs ad X M  q2) (cwV 0 hts (gwV m2_119 m2_120 m2_121 m1_2 m2_122) rfl rfl rfl (by decide +kernel) ⟨Nat.le_trans (Nat.le_of_ble_eq_true rfl) hR.1, Nat.le_trans (Nat.le_of_ble_eq_true rfl) hR.2⟩) (rPreV (hSW.wr hS) hK hP (by decide) rfl rfl _) rfl rfl hl.1 rfl (lv_room (Nat.le_of_ble_eq_true rfl)) dX7_checkUnfinished_4 ⟨Nat.zero_le _, Nat.zero_le _⟩) ?_
  refine lv_if_ne (tgt := 20) hx hb dX7_checkUnfinished_7 (by decide) (fun c3 => ?_) (fun c3 => ?_)
  · have hg := if_f hg c3
    refine W.widen (k := 1) (n := 6) (by decide) (by decide) ?_
    exact hret _ _ _ _ _ hg dX7_checkUnfinished_20 hP hD hS
  · have hg := if_t hg c3
    rw [hQ]
    obtain ⟨sa, hsa⟩ := hSW.ms (212, "there is no WHEN that is not finished") (List.mem_of_getElem? (i := 4) rfl)
    exact vx_throwS (cls := "java/lang/IllegalStateException") (names := exU) hx hb hfl hown (by decide) (by decide) (hw _ m2_20) (hw _ m1_16) hsa (ex_hat hw hSW (List.mem_of_getElem? (i := 1) rfl) ex1_1 ex1_2) ex1_3 hSW.us hSW.sp hS (hl.1.trans hml.symm) dX7_checkUnfinished_10 dX7_checkUnfinished_13 dX7_checkUnfinished_14 dX7_checkUnfinished_16 dX7_checkUnfinished_19 (fun x9 h9 => (hnx x9 h9).elim) (Nat.lt_of_lt_of_le (Nat.le_of_ble_eq_true rfl) hR.1) (Nat.le_trans (Nat.le_of_ble_eq_true rfl) hR.2) (Nat.le_trans (Nat.le_of_ble_eq_true rfl) hRc.1) (Nat.le_trans (Nat.le_of_ble_eq_true rfl) hRc.2) hlk (fun t9 ha9 hz9 hk9 => hXC 1 _ t9 hg (t_x hP hS hz9 hk9).1 (t_x hP hS hz9 hk9).2) hS.2.2 (by decide) (by decide)
theorem ctX7_checkUnfinished (l : Launch) (hfl : l.stackTraces = false) (D : va_G) (sw : Sw) (cs : Cs) (ad : Nat → Nat) (X : va_W) (sz : Nat) (M : Mm) {o : Int32 ⊕ Nat} {M1 : Mm} (hq : gX7_checkUnfinished M = some (o, M1)) : vx_Met l yX7_checkUnfinished wsX7_checkUnfinished ({ frames := 6, cells := 1, slots := 6, locals := 90 }) (va_Pc [.ref (ad 0)] (wPre D sw cs LC NC ad M X sz)) (tQv D cs LC NC ad M1 X sz o) (tX D cs LC NC ad M1 X sz o) 1 6 (wA NC ad X sz) :=
  met_t rfl rfl (Nat.le_of_ble_eq_true rfl) (fun p e s m args below meth c ls CX hr hlk hnx hK hSW hP hD hS hA hsz hl => bX7_checkUnfinished M hq (by simp) CX ⟨Nat.le_refl _, Nat.le_refl _⟩ rfl hfl hlk hnx (fun k M9 t he hB hF => ⟨(), trivial, ⟨⟨k, (Prod.mk.inj (Option.some.inj he)).1.symm, rfl⟩, wpost hB rfl (Prod.mk.inj (Option.some.inj he)).2⟩, hF⟩) hK hSW hP hD hS hA ⟨Nat.le_refl _, Nat.le_refl _⟩ hl (fun pc ls H locs M9 hv dg hP hD hS => vx_ret (W.vret CX.1 CX.2.1 hr (fun t ht hW => ⟨⟨(), rfl, (Prod.mk.inj (Option.some.inj hv)).1.symm, wpost hP ht (Prod.mk.inj (Option.some.inj hv)).2⟩, hS.F ht⟩) hS.2.2 dg)))

abbrev wsX7_checkFinished : List Cond := Cond.code yX7_checkFinished cX7_checkFinished 1 none :: WG
def gX7_checkFinished (M : Mm) : Option ((Int32 ⊕ Nat) × Mm) := bd (gX4_countUnfinished M ) fun r1 => if r1 = 0 then (some (.inl 0, M)) else some (.inr 1, M)
set_option maxHeartbeats 4000000 in
set_option maxRecDepth 100000 in
theorem bX7_checkFinished {p : Program} {l : Launch} {e : Env} {R : Room} {s : State} {m : MethodId} {args : Array Value} {below : List Frame} {meth : Method} {c : Code} {H : Heap} {locs : List Loc} {Q : State → Prop} {D : va_G} {sw : Sw} {cs : Cs} {ad : Nat → Nat} {X : va_W} {A : Nat → Prop} {Qc : Array Value → State → Outcome → State → Prop} {XC : String → State → State → Prop} (M : Mm) {res : Option ((Int32 ⊕ Nat) × Mm)} (hg : gX7_checkFinished M = res) (hne : res ≠ none) (CX : CallFix p m c cX7_checkFinished 1 s args wsX7_checkFinished RX7) (hR : 6 ≤ R.frames ∧ 90 ≤ R.locals) (hQ : Q = vx_MQ below Qc XC args s 1 6 A) (hfl : l.stackTraces = false) (hlk : meth.locks = false) (hnx : ∀ x ∈ c.exceptionTable.toList, False) (hXC : ∀ (k : Nat) (M9 : Mm) (t : State), some (.inr k, M9) = res → va_P D vwCl (wl cs LC NC ad M9 ++ X) t.heap → va_F A s t → XC (exn k) s t) (hK : va_K D vwCl (tysC cs) s) (hSW : SW sw A s s.heap) (hP : va_P D vwCl (wl cs LC NC ad M ++ X) H) (hD : va_D A (wl cs LC NC ad M ++ X)) (hS : va_S A s.heap H locs) (hA : ∀ q, s.heap.size ≤ q → A q) (hRc : 1 ≤ R.cells ∧ 6 ≤ R.slots) {ls : Array Slot} (hl : lv_has ls 1 [(0, .ref (ad 0))]) (hret : ∀ (pc : Nat) (ls : Array Slot) (H : Heap) (locs : List Loc) (M9 : Mm), some (.inl 0, M9) = res → decode cX7_checkFinished pc = .ok (.return_, 1) → va_P D vwCl (wl cs LC NC ad M9 ++ X) H → va_D A (wl cs LC NC ad M9 ++ X) → va_S A s.heap H locs → W p l e R s m args below meth c H locs 1 6 Q (F0 m pc ls [])) : W p l e R s m args below meth c H locs 0 0 Q (F0 m 0 ls []) := by
  obtain ⟨hx, hb, hml, hown, hts⟩ := id CX
  have hw : ∀ w ∈ WG, w.before args s = true := fun w h => hts w (List.mem_cons_of_mem _ h)
  have lk_10 := hw _ m1_159
  unfold gX7_checkFinished at hg
  refine lv_aload_n hx hb dX7_checkFinished_0 rfl (lv_at hl 0 rfl) ?_
  refine m_gr (C := RX7) (T := TX7) (n := 5) (ci := 5) hx hb hts in_RX7 hown hK hP (by decide) rfl rfl 0 (by decide) rfl lk_10 (fun _ h9 => h9) dX7_checkFinished_1 ?_
  obtain ⟨r1, q2, hg⟩ := bd_e hg hne
  refine r_calli (W.runV (As := []) (rest := []) CX (ctX4_countUnfinished l D sw cs ad X M  q2) (cwV 0 hts (gwV m2_119 m2_120 m2_121 m1_2 m2_122) rfl rfl rfl (by decide +kernel) ⟨Nat.le_trans (Nat.le_of_ble_eq_true rfl) hR.1, Nat.le_trans (Nat.le_of_ble_eq_true rfl) hR.2⟩) (rPreV (hSW.wr hS) hK hP (by decide) rfl rfl _) rfl rfl hl.1 rfl (lv_room (Nat.le_of_ble_eq_true rfl)) dX7_checkFinished_4 ⟨Nat.zero_le _, Nat.zero_le _⟩) ?_
  refine lv_if_eq (tgt := 20) hx hb dX7_checkFinished_7 (by decide) (fun c3 => ?_) (fun c3 => ?_)
  · have hg := if_t hg c3
    refine W.widen (k := 1) (n := 6) (by decide) (by decide) ?_
    exact hret _ _ _ _ _ hg dX7_checkFinished_20 hP hD hS
  · have hg := if_f hg c3
    rw [hQ]
    obtain ⟨sa, hsa⟩ := hSW.ms (214, "a WHEN is not finished") (List.mem_of_getElem? (i := 9) rfl)
    exact vx_throwS (cls := "java/lang/IllegalStateException") (names := exU) hx hb hfl hown (by decide) (by decide) (hw _ m2_20) (hw _ m1_16) hsa (ex_hat hw hSW (List.mem_of_getElem? (i := 1) rfl) ex1_1 ex1_2) ex1_3 hSW.us hSW.sp hS (hl.1.trans hml.symm) dX7_checkFinished_10 dX7_checkFinished_13 dX7_checkFinished_14 dX7_checkFinished_16 dX7_checkFinished_19 (fun x9 h9 => (hnx x9 h9).elim) (Nat.lt_of_lt_of_le (Nat.le_of_ble_eq_true rfl) hR.1) (Nat.le_trans (Nat.le_of_ble_eq_true rfl) hR.2) (Nat.le_trans (Nat.le_of_ble_eq_true rfl) hRc.1) (Nat.le_trans (Nat.le_of_ble_eq_true rfl) hRc.2) hlk (fun t9 ha9 hz9 hk9 => hXC 1 _ t9 hg (t_x hP hS hz9 hk9).1 (t_x hP hS hz9 hk9).2) hS.2.2 (by decide) (by decide)
theorem ctX7_checkFinished (l : Launch) (hfl : l.stackTraces = false) (D : va_G) (sw : Sw) (cs : Cs) (ad : Nat → Nat) (X : va_W) (sz : Nat) (M : Mm) {o : Int32 ⊕ Nat} {M1 : Mm} (hq : gX7_checkFinished M = some (o, M1)) : vx_Met l yX7_checkFinished wsX7_checkFinished ({ frames := 6, cells := 1, slots := 6, locals := 90 }) (va_Pc [.ref (ad 0)] (wPre D sw cs LC NC ad M X sz)) (tQv D cs LC NC ad M1 X sz o) (tX D cs LC NC ad M1 X sz o) 1 6 (wA NC ad X sz) :=
  met_t rfl rfl (Nat.le_of_ble_eq_true rfl) (fun p e s m args below meth c ls CX hr hlk hnx hK hSW hP hD hS hA hsz hl => bX7_checkFinished M hq (by simp) CX ⟨Nat.le_refl _, Nat.le_refl _⟩ rfl hfl hlk hnx (fun k M9 t he hB hF => ⟨(), trivial, ⟨⟨k, (Prod.mk.inj (Option.some.inj he)).1.symm, rfl⟩, wpost hB rfl (Prod.mk.inj (Option.some.inj he)).2⟩, hF⟩) hK hSW hP hD hS hA ⟨Nat.le_refl _, Nat.le_refl _⟩ hl (fun pc ls H locs M9 hv dg hP hD hS => vx_ret (W.vret CX.1 CX.2.1 hr (fun t ht hW => ⟨⟨(), rfl, (Prod.mk.inj (Option.some.inj hv)).1.symm, wpost hP ht (Prod.mk.inj (Option.some.inj hv)).2⟩, hS.F ht⟩) hS.2.2 dg)))

abbrev wsX7_write : List Cond := Cond.code yX7_write cX7_write 6 (some .int) :: WG
def gX7_write_L79 (a1 : Int64) : Nat → Mm → Int32 → Option ((Int32 ⊕ Nat) × Mm)
  | 0, _, _ => none
  | n9 + 1, M7, x8 => if x8 < 0 then (some (.inl (M7 1 1), M7)) else if (gX7_byteOf a1 x8) = 0 then (lt (x8 + (-8 : Int32)) fun x12 => gX7_write_L79 a1 n9 M7 x12) else bd2 (gX7_append M7 (gX7_byteOf a1 x8)) fun r15 M14 => lt (x8 + (-8 : Int32)) fun x16 => gX7_write_L79 a1 n9 M14 x16
def gX7_write_L6 (a1 : Int64) (E2 : Mm → Option ((Int32 ⊕ Nat) × Mm)) (E5 : Mm → Int32 → Option ((Int32 ⊕ Nat) × Mm)) : Nat → Mm → Int32 → Int32 → Option ((Int32 ⊕ Nat) × Mm)
  | 0, _, _, _ => none
  | n21 + 1, M18, x19, x20 => if x20 < 0 then (E5 M18 x19) else if (gX7_byteOf a1 x20) = 0 then (lt (x20 + (-8 : Int32)) fun x24 => gX7_write_L6 a1 E2 E5 n21 M18 x19 x24) else if (gX0_isToken (gX7_byteOf a1 x20)) = 0 then (E2 M18) else lt (x19 + (1 : Int32)) fun x26 => lt (x20 + (-8 : Int32)) fun x27 => gX7_write_L6 a1 E2 E5 n21 M18 x26 x27
def gX7_write (M : Mm) (a1 : Int64) : Option ((Int32 ⊕ Nat) × Mm) := lt (fun (M1 : Mm) => some (.inr 0, M1)) fun E2 => lt (fun (M3 : Mm) (x4 : Int32) => if ((M3 1 1) + x4) ≤ (80 : Int32) then (gX7_write_L79 a1 FU M3 (56 : Int32)) else some (.inr 1, M3)) fun E5 => gX7_write_L6 a1 E2 E5 FU M (0 : Int32) (56 : Int32)
set_option maxHeartbeats 4000000 in
set_option maxRecDepth 100000 in
theorem bX7_write {p : Program} {l : Launch} {e : Env} {R : Room} {s : State} {m : MethodId} {args : Array Value} {below : List Frame} {meth : Method} {c : Code} {H : Heap} {locs : List Loc} {Q : State → Prop} {D : va_G} {sw : Sw} {cs : Cs} {ad : Nat → Nat} {X : va_W} {A : Nat → Prop} {Qc : Array Value → State → Outcome → State → Prop} {XC : String → State → State → Prop} (M : Mm) (a1 : Int64) {res : Option ((Int32 ⊕ Nat) × Mm)} (hg : gX7_write M a1 = res) (hne : res ≠ none) (CX : CallFix p m c cX7_write 6 s args wsX7_write RX7) (hR : 6 ≤ R.frames ∧ 90 ≤ R.locals) (hQ : Q = vx_MQ below Qc XC args s 1 6 A) (hfl : l.stackTraces = false) (hlk : meth.locks = false) (hnx : ∀ x ∈ c.exceptionTable.toList, False) (hXC : ∀ (k : Nat) (M9 : Mm) (t : State), some (.inr k, M9) = res → va_P D vwCl (wl cs LC NC ad M9 ++ X) t.heap → va_F A s t → XC (exn k) s t) (hK : va_K D vwCl (tysC cs) s) (hSW : SW sw A s s.heap) (hP : va_P D vwCl (wl cs LC NC ad M ++ X) H) (hD : va_D A (wl cs LC NC ad M ++ X)) (hS : va_S A s.heap H locs) (hA : ∀ q, s.heap.size ≤ q → A q) (hRc : 1 ≤ R.cells ∧ 6 ≤ R.slots) {ls : Array Slot} (hl : lv_has ls 6 [(0, .ref (ad 0)), (1, .long a1)]) (hret : ∀ (pc : Nat) (ls : Array Slot) (H : Heap) (locs : List Loc) (v : Int32) (M9 : Mm), some (.inl v, M9) = res → decode cX7_write pc = .ok (.ireturn, 1) → va_P D vwCl (wl cs LC NC ad M9 ++ X) H → va_D A (wl cs LC NC ad M9 ++ X) → va_S A s.heap H locs → W p l e R s m args below meth c H locs 1 6 Q (F0 m pc ls [.int v])) : W p l e R s m args below meth c H locs 0 0 Q (F0 m 0 ls []) := by
  obtain ⟨hx, hb, hml, hown, hts⟩ := id CX
  have hw : ∀ w ∈ WG, w.before args s = true := fun w h => hts w (List.mem_cons_of_mem _ h)
  have lk_10 := hw _ m1_159
  have lk_55 := hw _ m1_39
  unfold gX7_write at hg
  refine lv_iconst (v := 0) hx hb dX7_write_0 (by decide) ?_
  refine lv_istore_n (lv' := [(3, .int (0 : Int32)), (0, .ref (ad 0)), (1, .long a1)]) hx hb dX7_write_1 rfl hl (by decide) rfl (fun ls hl => ?_)
  refine lv_bipush (v := 56) hx hb dX7_write_2 (by decide) ?_
  refine lv_istore (lv' := [(4, .int (56 : Int32)), (3, .int (0 : Int32)), (0, .ref (ad 0)), (1, .long a1)]) hx hb dX7_write_4 hl (by decide) rfl (fun ls hl => ?_)
  obtain ⟨E2, hE2, hg⟩ := lf1 hg
  have kE2 : ∀ (M1 : Mm) (H : Heap) (locs : List Loc) (ls : Array Slot), va_P D vwCl (wl cs LC NC ad M1 ++ X) H → va_D A (wl cs LC NC ad M1 ++ X) → va_S A s.heap H locs → lv_has ls 6 [] → E2 M1 = res → W p l e R s m args below meth c H locs 0 0 Q (F0 m 32 ls []) := by
    intro M1 H locs ls hP hD hS hl hg
    rw [hE2] at hg
    rw [hQ]
    obtain ⟨sa, hsa⟩ := hSW.ms (50, "a byte is no token") (List.mem_of_getElem? (i := 0) rfl)
    exact vx_throwS (cls := "java/lang/IllegalArgumentException") (names := exU) hx hb hfl hown (by decide) (by decide) (hw _ m1_191) (hw _ m1_15) hsa (ex_hat hw hSW (List.mem_of_getElem? (i := 0) rfl) ex0_1 ex0_2) ex0_3 hSW.us hSW.sp hS (hl.1.trans hml.symm) dX7_write_32 dX7_write_35 dX7_write_36 dX7_write_38 dX7_write_41 (fun x9 h9 => (hnx x9 h9).elim) (Nat.lt_of_lt_of_le (Nat.le_of_ble_eq_true rfl) hR.1) (Nat.le_trans (Nat.le_of_ble_eq_true rfl) hR.2) (Nat.le_trans (Nat.le_of_ble_eq_true rfl) hRc.1) (Nat.le_trans (Nat.le_of_ble_eq_true rfl) hRc.2) hlk (fun t9 ha9 hz9 hk9 => hXC 0 _ t9 hg (t_x hP hS hz9 hk9).1 (t_x hP hS hz9 hk9).2) hS.2.2 (by decide) (by decide)
  obtain ⟨E5, hE5, hg⟩ := lf2 hg
  have kE5 : ∀ (M3 : Mm) (x4 : Int32) (H : Heap) (locs : List Loc) (ls : Array Slot), va_P D vwCl (wl cs LC NC ad M3 ++ X) H → va_D A (wl cs LC NC ad M3 ++ X) → va_S A s.heap H locs → lv_has ls 6 [(0, .ref (ad 0)), (1, .long a1), (3, .int x4)] → E5 M3 x4 = res → W p l e R s m args below meth c H locs 0 0 Q (F0 m 51 ls []) := by
    intro M3 x4 H locs ls hP hD hS hl hg
    rw [hE5] at hg
    refine lv_aload_n hx hb dX7_write_51 rfl (lv_at hl 0 rfl) ?_
    refine m_gr (C := RX7) (T := TX7) (n := 5) (ci := 5) hx hb hts in_RX7 hown hK hP (by decide) rfl rfl 0 (by decide) rfl lk_10 (fun _ h9 => h9) dX7_write_52 ?_
    refine m_gi (C := RX4) (T := TX4) (n := 2) (ci := 2) hx hb hts in_RX4 hown hK hP (by decide) rfl rfl 1 (by decide) rfl lk_55 (fun _ h9 => h9) dX7_write_55 ?_
    refine lv_iload_n hx hb dX7_write_58 rfl (lv_at hl 2 rfl) ?_
    refine lv_iadd hx hb dX7_write_59 ?_
    refine lv_bipush (v := 80) hx hb dX7_write_60 (by decide) ?_
    refine lv_icmp_le (tgt := 75) hx hb dX7_write_62 (by decide) (fun c6 => ?_) (fun c6 => ?_)
    · have hg := if_t hg c6
      refine lv_bipush (v := 56) hx hb dX7_write_75 (by decide) ?_
      refine lv_istore (lv' := [(4, .int (56 : Int32)), (0, .ref (ad 0)), (1, .long a1), (3, .int x4)]) hx hb dX7_write_77 hl (by decide) rfl (fun ls hl => ?_)
      have kL79_17 : ∀ (n9 : Nat) (M7 : Mm) (x8 : Int32) (H : Heap) (locs : List Loc) (ls : Array Slot), va_P D vwCl (wl cs LC NC ad M7 ++ X) H → va_D A (wl cs LC NC ad M7 ++ X) → va_S A s.heap H locs → lv_has ls 6 [(0, .ref (ad 0)), (1, .long a1), (4, .int x8)] → gX7_write_L79 a1 n9 M7 x8 = res → W p l e R s m args below meth c H locs 0 0 Q (F0 m 79 ls []) := by
        intro n9
        induction n9 with
        | zero =>
          intro M7 x8 H locs ls hP hD hS hl hg
          rw [gX7_write_L79] at hg
          exact absurd hg.symm hne
        | succ n9 ih =>
          intro M7 x8 H locs ls hP hD hS hl hg
          rw [gX7_write_L79] at hg
          refine lv_iload hx hb dX7_write_79 (lv_at hl 2 rfl) ?_
          refine lv_if_lt (tgt := 110) hx hb dX7_write_81 (by decide) (fun c10 => ?_) (fun c10 => ?_)
          · have hg := if_t hg c10
            refine lv_aload_n hx hb dX7_write_110 rfl (lv_at hl 0 rfl) ?_
            refine m_gr (C := RX7) (T := TX7) (n := 5) (ci := 5) hx hb hts in_RX7 hown hK hP (by decide) rfl rfl 0 (by decide) rfl lk_10 (fun _ h9 => h9) dX7_write_111 ?_
            refine m_gi (C := RX4) (T := TX4) (n := 2) (ci := 2) hx hb hts in_RX4 hown hK hP (by decide) rfl rfl 1 (by decide) rfl lk_55 (fun _ h9 => h9) dX7_write_114 ?_
            refine W.widen (k := 1) (n := 6) (by decide) (by decide) ?_
            exact hret _ _ _ _ _ _ hg dX7_write_117 hP hD hS
          · have hg := if_f hg c10
            refine lv_lload_n hx hb dX7_write_84 rfl (lv_at hl 1 rfl) ?_
            refine lv_iload hx hb dX7_write_85 (lv_at hl 2 rfl) ?_
            refine r_calli (W.runS (As := [.long a1, .int x8]) (rest := []) CX (ctX7_byteOf l a1 x8) (va_cwS 2 hts (gwS m1_179 m1_180 m1_1 m1_181) rfl rfl rfl (by decide +kernel) ⟨Nat.le_trans (Nat.le_of_ble_eq_true rfl) hR.1, Nat.le_trans (Nat.le_of_ble_eq_true rfl) hR.2⟩) (pPreS _) rfl rfl hl.1 rfl (lv_room (Nat.le_of_ble_eq_true rfl)) dX7_write_87 ⟨Nat.zero_le _, Nat.zero_le _⟩) ?_
            refine lv_istore (lv' := [(5, .int (gX7_byteOf a1 x8)), (0, .ref (ad 0)), (1, .long a1), (4, .int x8)]) hx hb dX7_write_90 hl (by decide) rfl (fun ls hl => ?_)
            refine lv_iload hx hb dX7_write_92 (lv_at hl 0 rfl) ?_
            refine lv_if_eq (tgt := 104) hx hb dX7_write_94 (by decide) (fun c11 => ?_) (fun c11 => ?_)
            · have hg := if_t hg c11
              obtain ⟨x12, hx12, hg⟩ := lt_e hg
              refine lv_iinc (v := x12) (lv' := [(4, .int x12), (5, .int (gX7_byteOf a1 x8)), (0, .ref (ad 0)), (1, .long a1)]) hx hb dX7_write_104 hl (k := 3) rfl (hx12.symm) (by decide) rfl (fun ls hl => ?_)
              refine lv_goto (tgt := 79) hx hb dX7_write_107 (by decide) ?_
              exact ih _ _ _ _ _ hP hD hS (lv_sub hl [2, 3, 0] rfl) hg
            · have hg := if_f hg c11
              refine lv_aload_n hx hb dX7_write_97 rfl (lv_at hl 1 rfl) ?_
              refine lv_iload hx hb dX7_write_98 (lv_at hl 0 rfl) ?_
              obtain ⟨r15, M14, q13, hg⟩ := bd2_e hg hne
              refine w_calli (va_runV (As := [.int (gX7_byteOf a1 x8)]) (rest := []) CX (ctX7_append l D sw cs ad X H.size M7 (gX7_byteOf a1 x8) q13) (cwV 1 hts (gwV m2_36 m2_38 mp1_1 m1_1 m2_39) rfl rfl rfl (by decide +kernel) ⟨Nat.le_trans (Nat.le_of_ble_eq_true rfl) hR.1, Nat.le_trans (Nat.le_of_ble_eq_true rfl) hR.2⟩) (wPreV hSW hS hA hK hP hD (by decide) rfl rfl _) rfl rfl hl.1 rfl (lv_room (Nat.le_of_ble_eq_true rfl)) dX7_write_100 ⟨Nat.zero_le _, Nat.zero_le _⟩) hD hS hA (fun H locs hP hD hS => ?_)
              refine lv_pop hx hb dX7_write_103 rfl ?_
              obtain ⟨x16, hx16, hg⟩ := lt_e hg
              refine lv_iinc (v := x16) (lv' := [(4, .int x16), (5, .int (gX7_byteOf a1 x8)), (0, .ref (ad 0)), (1, .long a1)]) hx hb dX7_write_104 hl (k := 3) rfl (hx16.symm) (by decide) rfl (fun ls hl => ?_)
              refine lv_goto (tgt := 79) hx hb dX7_write_107 (by decide) ?_
              exact ih _ _ _ _ _ hP hD hS (lv_sub hl [2, 3, 0] rfl) hg
      exact kL79_17 FU _ _ _ _ _ hP hD hS (lv_sub hl [1, 2, 0] rfl) hg
    · have hg := if_f hg c6
      rw [hQ]
      obtain ⟨sa, hsa⟩ := hSW.ms (61, "too many items") (List.mem_of_getElem? (i := 1) rfl)
      exact vx_throwS (cls := "java/lang/IllegalStateException") (names := exU) hx hb hfl hown (by decide) (by decide) (hw _ m2_20) (hw _ m1_16) hsa (ex_hat hw hSW (List.mem_of_getElem? (i := 1) rfl) ex1_1 ex1_2) ex1_3 hSW.us hSW.sp hS (hl.1.trans hml.symm) dX7_write_65 dX7_write_68 dX7_write_69 dX7_write_71 dX7_write_74 (fun x9 h9 => (hnx x9 h9).elim) (Nat.lt_of_lt_of_le (Nat.le_of_ble_eq_true rfl) hR.1) (Nat.le_trans (Nat.le_of_ble_eq_true rfl) hR.2) (Nat.le_trans (Nat.le_of_ble_eq_true rfl) hRc.1) (Nat.le_trans (Nat.le_of_ble_eq_true rfl) hRc.2) hlk (fun t9 ha9 hz9 hk9 => hXC 1 _ t9 hg (t_x hP hS hz9 hk9).1 (t_x hP hS hz9 hk9).2) hS.2.2 (by decide) (by decide)
  have kL6_28 : ∀ (n21 : Nat) (M18 : Mm) (x19 : Int32) (x20 : Int32) (H : Heap) (locs : List Loc) (ls : Array Slot), va_P D vwCl (wl cs LC NC ad M18 ++ X) H → va_D A (wl cs LC NC ad M18 ++ X) → va_S A s.heap H locs → lv_has ls 6 [(0, .ref (ad 0)), (1, .long a1), (3, .int x19), (4, .int x20)] → gX7_write_L6 a1 E2 E5 n21 M18 x19 x20 = res → W p l e R s m args below meth c H locs 0 0 Q (F0 m 6 ls []) := by
    intro n21
    induction n21 with
    | zero =>
      intro M18 x19 x20 H locs ls hP hD hS hl hg
      rw [gX7_write_L6] at hg
      exact absurd hg.symm hne
    | succ n21 ih =>
      intro M18 x19 x20 H locs ls hP hD hS hl hg
      rw [gX7_write_L6] at hg
      refine lv_iload hx hb dX7_write_6 (lv_at hl 3 rfl) ?_
      refine lv_if_lt (tgt := 51) hx hb dX7_write_8 (by decide) (fun c22 => ?_) (fun c22 => ?_)
      · have hg := if_t hg c22
        exact kE5 _ _ _ _ _ hP hD hS (lv_sub hl [0, 1, 2] rfl) hg
      · have hg := if_f hg c22
        refine lv_lload_n hx hb dX7_write_11 rfl (lv_at hl 1 rfl) ?_
        refine lv_iload hx hb dX7_write_12 (lv_at hl 3 rfl) ?_
        refine r_calli (W.runS (As := [.long a1, .int x20]) (rest := []) CX (ctX7_byteOf l a1 x20) (va_cwS 2 hts (gwS m1_179 m1_180 m1_1 m1_181) rfl rfl rfl (by decide +kernel) ⟨Nat.le_trans (Nat.le_of_ble_eq_true rfl) hR.1, Nat.le_trans (Nat.le_of_ble_eq_true rfl) hR.2⟩) (pPreS _) rfl rfl hl.1 rfl (lv_room (Nat.le_of_ble_eq_true rfl)) dX7_write_14 ⟨Nat.zero_le _, Nat.zero_le _⟩) ?_
        refine lv_istore (lv' := [(5, .int (gX7_byteOf a1 x20)), (0, .ref (ad 0)), (1, .long a1), (3, .int x19), (4, .int x20)]) hx hb dX7_write_17 hl (by decide) rfl (fun ls hl => ?_)
        refine lv_iload hx hb dX7_write_19 (lv_at hl 0 rfl) ?_
        refine lv_if_eq (tgt := 45) hx hb dX7_write_21 (by decide) (fun c23 => ?_) (fun c23 => ?_)
        · have hg := if_t hg c23
          obtain ⟨x24, hx24, hg⟩ := lt_e hg
          refine lv_iinc (v := x24) (lv' := [(4, .int x24), (5, .int (gX7_byteOf a1 x20)), (0, .ref (ad 0)), (1, .long a1), (3, .int x19)]) hx hb dX7_write_45 hl (k := 4) rfl (hx24.symm) (by decide) rfl (fun ls hl => ?_)
          refine lv_goto (tgt := 6) hx hb dX7_write_48 (by decide) ?_
          exact ih _ _ _ _ _ _ hP hD hS (lv_sub hl [2, 3, 4, 0] rfl) hg
        · have hg := if_f hg c23
          refine lv_iload hx hb dX7_write_24 (lv_at hl 0 rfl) ?_
          refine r_calli (W.runS (As := [.int (gX7_byteOf a1 x20)]) (rest := []) CX (ctX0_isToken l (gX7_byteOf a1 x20)) (va_cwS 1 hts (gwS m1_182 m1_183 m1_11 m1_184) rfl rfl rfl (by decide +kernel) ⟨Nat.le_trans (Nat.le_of_ble_eq_true rfl) hR.1, Nat.le_trans (Nat.le_of_ble_eq_true rfl) hR.2⟩) (pPreS _) rfl rfl hl.1 rfl (lv_room (Nat.le_of_ble_eq_true rfl)) dX7_write_26 ⟨Nat.zero_le _, Nat.zero_le _⟩) ?_
          refine lv_if_ne (tgt := 42) hx hb dX7_write_29 (by decide) (fun c25 => ?_) (fun c25 => ?_)
          · have hg := if_f hg c25
            obtain ⟨x26, hx26, hg⟩ := lt_e hg
            refine lv_iinc (v := x26) (lv' := [(3, .int x26), (5, .int (gX7_byteOf a1 x20)), (0, .ref (ad 0)), (1, .long a1), (4, .int x20)]) hx hb dX7_write_42 hl (k := 3) rfl (hx26.symm) (by decide) rfl (fun ls hl => ?_)
            obtain ⟨x27, hx27, hg⟩ := lt_e hg
            refine lv_iinc (v := x27) (lv' := [(4, .int x27), (3, .int x26), (5, .int (gX7_byteOf a1 x20)), (0, .ref (ad 0)), (1, .long a1)]) hx hb dX7_write_45 hl (k := 4) rfl (hx27.symm) (by decide) rfl (fun ls hl => ?_)
            refine lv_goto (tgt := 6) hx hb dX7_write_48 (by decide) ?_
            exact ih _ _ _ _ _ _ hP hD hS (lv_sub hl [3, 4, 1, 0] rfl) hg
          · have hg := if_t hg c25
            exact kE2 _ _ _ _ hP hD hS (lv_sub hl [] rfl) hg
  exact kL6_28 FU _ _ _ _ _ _ hP hD hS (lv_sub hl [2, 3, 1, 0] rfl) hg
theorem ctX7_write (l : Launch) (hfl : l.stackTraces = false) (D : va_G) (sw : Sw) (cs : Cs) (ad : Nat → Nat) (X : va_W) (sz : Nat) (M : Mm) (a1 : Int64) {o : Int32 ⊕ Nat} {M1 : Mm} (hq : gX7_write M a1 = some (o, M1)) : vx_Met l yX7_write wsX7_write ({ frames := 6, cells := 1, slots := 6, locals := 90 }) (va_Pc [.ref (ad 0), .long a1] (wPre D sw cs LC NC ad M X sz)) (tQi D cs LC NC ad M1 X sz o) (tX D cs LC NC ad M1 X sz o) 1 6 (wA NC ad X sz) :=
  met_t rfl rfl (Nat.le_of_ble_eq_true rfl) (fun p e s m args below meth c ls CX hr hlk hnx hK hSW hP hD hS hA hsz hl => bX7_write M a1 hq (by simp) CX ⟨Nat.le_refl _, Nat.le_refl _⟩ rfl hfl hlk hnx (fun k M9 t he hB hF => ⟨(), trivial, ⟨⟨k, (Prod.mk.inj (Option.some.inj he)).1.symm, rfl⟩, wpost hB rfl (Prod.mk.inj (Option.some.inj he)).2⟩, hF⟩) hK hSW hP hD hS hA ⟨Nat.le_refl _, Nat.le_refl _⟩ hl (fun pc ls H locs v M9 hv dg hP hD hS => vx_ret (W.iret CX.1 CX.2.1 hr (fun t ht hW => ⟨⟨v, (), rfl, (Prod.mk.inj (Option.some.inj hv)).1.symm, wpost hP ht (Prod.mk.inj (Option.some.inj hv)).2⟩, hS.F ht⟩) hS.2.2 dg)))

abbrev wsX7_when : List Cond := Cond.code yX7_when cX7_when 3 (some .int) :: WG
def gX7_when (M : Mm) (a1 : Int32) (a2 : Int32) : Option ((Int32 ⊕ Nat) × Mm) := te (gX7_checkFeature M a1) fun r6 M2 => te (gX7_checkRoom M2 ) fun r12 M8 => bd (gX4_countUnfinished M8 ) fun r13 => if r13 < (5 : Int32) then (bd2 (gX7_append M8 (gX4_codeOfWhen a1 a2)) fun r18 M17 => some (.inl r18, M17)) else some (.inr 1, M8)
set_option maxHeartbeats 4000000 in
set_option maxRecDepth 100000 in
theorem bX7_when {p : Program} {l : Launch} {e : Env} {R : Room} {s : State} {m : MethodId} {args : Array Value} {below : List Frame} {meth : Method} {c : Code} {H : Heap} {locs : List Loc} {Q : State → Prop} {D : va_G} {sw : Sw} {cs : Cs} {ad : Nat → Nat} {X : va_W} {A : Nat → Prop} {Qc : Array Value → State → Outcome → State → Prop} {XC : String → State → State → Prop} (M : Mm) (a1 : Int32) (a2 : Int32) {res : Option ((Int32 ⊕ Nat) × Mm)} (hg : gX7_when M a1 a2 = res) (hne : res ≠ none) (CX : CallFix p m c cX7_when 3 s args wsX7_when RX7) (hR : 7 ≤ R.frames ∧ 111 ≤ R.locals) (hQ : Q = vx_MQ below Qc XC args s 3 18 A) (hfl : l.stackTraces = false) (hlk : meth.locks = false) (hnx : ∀ x ∈ c.exceptionTable.toList, False) (hXC : ∀ (k : Nat) (M9 : Mm) (t : State), some (.inr k, M9) = res → va_P D vwCl (wl cs LC NC ad M9 ++ X) t.heap → va_F A s t → XC (exn k) s t) (hK : va_K D vwCl (tysC cs) s) (hSW : SW sw A s s.heap) (hP : va_P D vwCl (wl cs LC NC ad M ++ X) H) (hD : va_D A (wl cs LC NC ad M ++ X)) (hS : va_S A s.heap H locs) (hA : ∀ q, s.heap.size ≤ q → A q) (hRc : 3 ≤ R.cells ∧ 18 ≤ R.slots) {ls : Array Slot} (hl : lv_has ls 3 [(0, .ref (ad 0)), (1, .int a1), (2, .int a2)]) (hret : ∀ (pc : Nat) (ls : Array Slot) (H : Heap) (locs : List Loc) (v : Int32) (M9 : Mm), some (.inl v, M9) = res → decode cX7_when pc = .ok (.ireturn, 1) → va_P D vwCl (wl cs LC NC ad M9 ++ X) H → va_D A (wl cs LC NC ad M9 ++ X) → va_S A s.heap H locs → W p l e R s m args below meth c H locs 3 18 Q (F0 m pc ls [.int v])) : W p l e R s m args below meth c H locs 0 0 Q (F0 m 0 ls []) := by
  obtain ⟨hx, hb, hml, hown, hts⟩ := id CX
  have hw : ∀ w ∈ WG, w.before args s = true := fun w h => hts w (List.mem_cons_of_mem _ h)
  have lk_10 := hw _ m1_159
  unfold gX7_when at hg
  refine lv_aload_n hx hb dX7_when_0 rfl (lv_at hl 0 rfl) ?_
  refine lv_iload_n hx hb dX7_when_1 rfl (lv_at hl 1 rfl) ?_
  obtain ⟨o1, M2, q3, k4, v5⟩ := te_e hg hne
  refine t_callv (vx_runV (As := [.int a1]) (rest := []) CX (ctX7_checkFeature l hfl D sw cs ad X H.size M a1 q3) (cwV 1 hts (gwV m3_205 m3_207 mp3_1 m1_1 m3_208) rfl rfl rfl (by decide +kernel) ⟨Nat.le_trans (Nat.le_of_ble_eq_true rfl) hR.1, Nat.le_trans (Nat.le_of_ble_eq_true rfl) hR.2⟩) (wPreV hSW hS hA hK hP hD (by decide) rfl rfl _) rfl rfl hl.1 rfl (lv_room (Nat.le_of_ble_eq_true rfl)) dX7_when_2 ⟨Nat.le_trans (Nat.le_of_ble_eq_true rfl) hRc.1, Nat.le_trans (Nat.le_of_ble_eq_true rfl) hRc.2⟩) hD hS hA (fun k9 ho9 H locs ce9 q9 hP hD hS hce9 hcv9 hcl9 => ?_) (fun r6 ho9 H locs hP hD hS => ?_)
  · rw [hQ]
    exact vx_out (fun x9 h9 => (hnx x9 h9).elim) hlk hce9 hcv9 hcl9 (fun t9 ht9 ha9 => hXC k9 _ t9 (k4 k9 ho9) (by rw [ht9]; exact hP) (hS.F ht9)) hS.2.2 (by decide) (by decide)
  · have hg := v5 r6 ho9
    refine lv_aload_n hx hb dX7_when_5 rfl (lv_at hl 0 rfl) ?_
    obtain ⟨o7, M8, q9, k10, v11⟩ := te_e hg hne
    refine t_callv (vx_runV (As := []) (rest := []) CX (ctX7_checkRoom l hfl D sw cs ad X H.size M2  q9) (cwV 0 hts (gwV m3_210 m3_212 mp3_2 m1_1 m3_213) rfl rfl rfl (by decide +kernel) ⟨Nat.le_trans (Nat.le_of_ble_eq_true rfl) hR.1, Nat.le_trans (Nat.le_of_ble_eq_true rfl) hR.2⟩) (wPreV hSW hS hA hK hP hD (by decide) rfl rfl _) rfl rfl hl.1 rfl (lv_room (Nat.le_of_ble_eq_true rfl)) dX7_when_6 ⟨Nat.le_trans (Nat.le_of_ble_eq_true rfl) hRc.1, Nat.le_trans (Nat.le_of_ble_eq_true rfl) hRc.2⟩) hD hS hA (fun k9 ho9 H locs ce9 q9 hP hD hS hce9 hcv9 hcl9 => ?_) (fun r12 ho9 H locs hP hD hS => ?_)
    · rw [hQ]
      exact vx_out (fun x9 h9 => (hnx x9 h9).elim) hlk hce9 hcv9 hcl9 (fun t9 ht9 ha9 => hXC k9 _ t9 (k10 k9 ho9) (by rw [ht9]; exact hP) (hS.F ht9)) hS.2.2 (by decide) (by decide)
    · have hg := v11 r12 ho9
      refine lv_aload_n hx hb dX7_when_9 rfl (lv_at hl 0 rfl) ?_
      refine m_gr (C := RX7) (T := TX7) (n := 5) (ci := 5) hx hb hts in_RX7 hown hK hP (by decide) rfl rfl 0 (by decide) rfl lk_10 (fun _ h9 => h9) dX7_when_10 ?_
      obtain ⟨r13, q14, hg⟩ := bd_e hg hne
      refine r_calli (W.runV (As := []) (rest := []) CX (ctX4_countUnfinished l D sw cs ad X M8  q14) (cwV 0 hts (gwV m2_119 m2_120 m2_121 m1_2 m2_122) rfl rfl rfl (by decide +kernel) ⟨Nat.le_trans (Nat.le_of_ble_eq_true rfl) hR.1, Nat.le_trans (Nat.le_of_ble_eq_true rfl) hR.2⟩) (rPreV (hSW.wr hS) hK hP (by decide) rfl rfl _) rfl rfl hl.1 rfl (lv_room (Nat.le_of_ble_eq_true rfl)) dX7_when_13 ⟨Nat.le_trans (Nat.le_of_ble_eq_true rfl) hRc.1, Nat.le_trans (Nat.le_of_ble_eq_true rfl) hRc.2⟩) ?_
      refine lv_iconst (v := 5) hx hb dX7_when_16 (by decide) ?_
      refine lv_icmp_lt (tgt := 30) hx hb dX7_when_17 (by decide) (fun c15 => ?_) (fun c15 => ?_)
      · have hg := if_t hg c15
        refine lv_aload_n hx hb dX7_when_30 rfl (lv_at hl 0 rfl) ?_
        refine lv_iload_n hx hb dX7_when_31 rfl (lv_at hl 1 rfl) ?_
        refine lv_iload_n hx hb dX7_when_32 rfl (lv_at hl 2 rfl) ?_
        refine r_calli (W.runS (As := [.int a1, .int a2]) (rest := [.ref (ad 0)]) CX (ctX4_codeOfWhen l a1 a2) (va_cwS 2 hts (gwS m3_215 m3_216 m1_2 m3_217) rfl rfl rfl (by decide +kernel) ⟨Nat.le_trans (Nat.le_of_ble_eq_true rfl) hR.1, Nat.le_trans (Nat.le_of_ble_eq_true rfl) hR.2⟩) (pPreS _) rfl rfl hl.1 rfl (lv_room (Nat.le_of_ble_eq_true rfl)) dX7_when_33 ⟨Nat.le_trans (Nat.le_of_ble_eq_true rfl) hRc.1, Nat.le_trans (Nat.le_of_ble_eq_true rfl) hRc.2⟩) ?_
        obtain ⟨r18, M17, q16, hg⟩ := bd2_e hg hne
        refine w_calli (va_runV (As := [.int (gX4_codeOfWhen a1 a2)]) (rest := []) CX (ctX7_append l D sw cs ad X H.size M8 (gX4_codeOfWhen a1 a2) q16) (cwV 1 hts (gwV m2_36 m2_38 mp1_1 m1_1 m2_39) rfl rfl rfl (by decide +kernel) ⟨Nat.le_trans (Nat.le_of_ble_eq_true rfl) hR.1, Nat.le_trans (Nat.le_of_ble_eq_true rfl) hR.2⟩) (wPreV hSW hS hA hK hP hD (by decide) rfl rfl _) rfl rfl hl.1 rfl (lv_room (Nat.le_of_ble_eq_true rfl)) dX7_when_36 ⟨Nat.le_trans (Nat.le_of_ble_eq_true rfl) hRc.1, Nat.le_trans (Nat.le_of_ble_eq_true rfl) hRc.2⟩) hD hS hA (fun H locs hP hD hS => ?_)
        refine W.widen (k := 3) (n := 18) (by decide) (by decide) ?_
        exact hret _ _ _ _ _ _ hg dX7_when_39 hP hD hS
      · have hg := if_f hg c15
        rw [hQ]
        obtain ⟨sa, hsa⟩ := hSW.ms (79, "too many WHENs that are not finished") (List.mem_of_getElem? (i := 3) rfl)
        exact vx_throwS (cls := "java/lang/IllegalStateException") (names := exU) hx hb hfl hown (by decide) (by decide) (hw _ m2_20) (hw _ m1_16) hsa (ex_hat hw hSW (List.mem_of_getElem? (i := 1) rfl) ex1_1 ex1_2) ex1_3 hSW.us hSW.sp hS (hl.1.trans hml.symm) dX7_when_20 dX7_when_23 dX7_when_24 dX7_when_26 dX7_when_29 (fun x9 h9 => (hnx x9 h9).elim) (Nat.lt_of_lt_of_le (Nat.le_of_ble_eq_true rfl) hR.1) (Nat.le_trans (Nat.le_of_ble_eq_true rfl) hR.2) (Nat.le_trans (Nat.le_of_ble_eq_true rfl) hRc.1) (Nat.le_trans (Nat.le_of_ble_eq_true rfl) hRc.2) hlk (fun t9 ha9 hz9 hk9 => hXC 1 _ t9 hg (t_x hP hS hz9 hk9).1 (t_x hP hS hz9 hk9).2) hS.2.2 (by decide) (by decide)
theorem ctX7_when (l : Launch) (hfl : l.stackTraces = false) (D : va_G) (sw : Sw) (cs : Cs) (ad : Nat → Nat) (X : va_W) (sz : Nat) (M : Mm) (a1 : Int32) (a2 : Int32) {o : Int32 ⊕ Nat} {M1 : Mm} (hq : gX7_when M a1 a2 = some (o, M1)) : vx_Met l yX7_when wsX7_when ({ frames := 7, cells := 3, slots := 18, locals := 111 }) (va_Pc [.ref (ad 0), .int a1, .int a2] (wPre D sw cs LC NC ad M X sz)) (tQi D cs LC NC ad M1 X sz o) (tX D cs LC NC ad M1 X sz o) 3 18 (wA NC ad X sz) :=
  met_t rfl rfl (Nat.le_of_ble_eq_true rfl) (fun p e s m args below meth c ls CX hr hlk hnx hK hSW hP hD hS hA hsz hl => bX7_when M a1 a2 hq (by simp) CX ⟨Nat.le_refl _, Nat.le_refl _⟩ rfl hfl hlk hnx (fun k M9 t he hB hF => ⟨(), trivial, ⟨⟨k, (Prod.mk.inj (Option.some.inj he)).1.symm, rfl⟩, wpost hB rfl (Prod.mk.inj (Option.some.inj he)).2⟩, hF⟩) hK hSW hP hD hS hA ⟨Nat.le_refl _, Nat.le_refl _⟩ hl (fun pc ls H locs v M9 hv dg hP hD hS => vx_ret (W.iret CX.1 CX.2.1 hr (fun t ht hW => ⟨⟨v, (), rfl, (Prod.mk.inj (Option.some.inj hv)).1.symm, wpost hP ht (Prod.mk.inj (Option.some.inj hv)).2⟩, hS.F ht⟩) hS.2.2 dg)))

abbrev wsX7_otherwise : List Cond := Cond.code yX7_otherwise cX7_otherwise 1 (some .int) :: WG
def gX7_otherwise (M : Mm) : Option ((Int32 ⊕ Nat) × Mm) := te (gX7_checkRoom M ) fun r6 M2 => te (gX7_checkUnfinished M2 ) fun r12 M8 => bd (gX4_lastUnfinishedHasOtherwise M8 ) fun r13 => if r13 = 0 then (bd2 (gX7_append M8 (16 : Int32)) fun r18 M17 => some (.inl r18, M17)) else some (.inr 1, M8)
set_option maxHeartbeats 4000000 in
set_option maxRecDepth 100000 in
theorem bX7_otherwise {p : Program} {l : Launch} {e : Env} {R : Room} {s : State} {m : MethodId} {args : Array Value} {below : List Frame} {meth : Method} {c : Code} {H : Heap} {locs : List Loc} {Q : State → Prop} {D : va_G} {sw : Sw} {cs : Cs} {ad : Nat → Nat} {X : va_W} {A : Nat → Prop} {Qc : Array Value → State → Outcome → State → Prop} {XC : String → State → State → Prop} (M : Mm) {res : Option ((Int32 ⊕ Nat) × Mm)} (hg : gX7_otherwise M = res) (hne : res ≠ none) (CX : CallFix p m c cX7_otherwise 1 s args wsX7_otherwise RX7) (hR : 7 ≤ R.frames ∧ 110 ≤ R.locals) (hQ : Q = vx_MQ below Qc XC args s 3 18 A) (hfl : l.stackTraces = false) (hlk : meth.locks = false) (hnx : ∀ x ∈ c.exceptionTable.toList, False) (hXC : ∀ (k : Nat) (M9 : Mm) (t : State), some (.inr k, M9) = res → va_P D vwCl (wl cs LC NC ad M9 ++ X) t.heap → va_F A s t → XC (exn k) s t) (hK : va_K D vwCl (tysC cs) s) (hSW : SW sw A s s.heap) (hP : va_P D vwCl (wl cs LC NC ad M ++ X) H) (hD : va_D A (wl cs LC NC ad M ++ X)) (hS : va_S A s.heap H locs) (hA : ∀ q, s.heap.size ≤ q → A q) (hRc : 3 ≤ R.cells ∧ 18 ≤ R.slots) {ls : Array Slot} (hl : lv_has ls 1 [(0, .ref (ad 0))]) (hret : ∀ (pc : Nat) (ls : Array Slot) (H : Heap) (locs : List Loc) (v : Int32) (M9 : Mm), some (.inl v, M9) = res → decode cX7_otherwise pc = .ok (.ireturn, 1) → va_P D vwCl (wl cs LC NC ad M9 ++ X) H → va_D A (wl cs LC NC ad M9 ++ X) → va_S A s.heap H locs → W p l e R s m args below meth c H locs 3 18 Q (F0 m pc ls [.int v])) : W p l e R s m args below meth c H locs 0 0 Q (F0 m 0 ls []) := by
  obtain ⟨hx, hb, hml, hown, hts⟩ := id CX
  have hw : ∀ w ∈ WG, w.before args s = true := fun w h => hts w (List.mem_cons_of_mem _ h)
  have lk_10 := hw _ m1_159
  unfold gX7_otherwise at hg
  refine lv_aload_n hx hb dX7_otherwise_0 rfl (lv_at hl 0 rfl) ?_
  obtain ⟨o1, M2, q3, k4, v5⟩ := te_e hg hne
  refine t_callv (vx_runV (As := []) (rest := []) CX (ctX7_checkRoom l hfl D sw cs ad X H.size M  q3) (cwV 0 hts (gwV m3_210 m3_212 mp3_2 m1_1 m3_213) rfl rfl rfl (by decide +kernel) ⟨Nat.le_trans (Nat.le_of_ble_eq_true rfl) hR.1, Nat.le_trans (Nat.le_of_ble_eq_true rfl) hR.2⟩) (wPreV hSW hS hA hK hP hD (by decide) rfl rfl _) rfl rfl hl.1 rfl (lv_room (Nat.le_of_ble_eq_true rfl)) dX7_otherwise_1 ⟨Nat.le_trans (Nat.le_of_ble_eq_true rfl) hRc.1, Nat.le_trans (Nat.le_of_ble_eq_true rfl) hRc.2⟩) hD hS hA (fun k9 ho9 H locs ce9 q9 hP hD hS hce9 hcv9 hcl9 => ?_) (fun r6 ho9 H locs hP hD hS => ?_)
  · rw [hQ]
    exact vx_out (fun x9 h9 => (hnx x9 h9).elim) hlk hce9 hcv9 hcl9 (fun t9 ht9 ha9 => hXC k9 _ t9 (k4 k9 ho9) (by rw [ht9]; exact hP) (hS.F ht9)) hS.2.2 (by decide) (by decide)
  · have hg := v5 r6 ho9
    refine lv_aload_n hx hb dX7_otherwise_4 rfl (lv_at hl 0 rfl) ?_
    obtain ⟨o7, M8, q9, k10, v11⟩ := te_e hg hne
    refine t_callv (vx_runV (As := []) (rest := []) CX (ctX7_checkUnfinished l hfl D sw cs ad X H.size M2  q9) (cwV 0 hts (gwV m3_222 m3_224 mp3_3 m1_1 m3_225) rfl rfl rfl (by decide +kernel) ⟨Nat.le_trans (Nat.le_of_ble_eq_true rfl) hR.1, Nat.le_trans (Nat.le_of_ble_eq_true rfl) hR.2⟩) (wPreV hSW hS hA hK hP hD (by decide) rfl rfl _) rfl rfl hl.1 rfl (lv_room (Nat.le_of_ble_eq_true rfl)) dX7_otherwise_5 ⟨Nat.le_trans (Nat.le_of_ble_eq_true rfl) hRc.1, Nat.le_trans (Nat.le_of_ble_eq_true rfl) hRc.2⟩) hD hS hA (fun k9 ho9 H locs ce9 q9 hP hD hS hce9 hcv9 hcl9 => ?_) (fun r12 ho9 H locs hP hD hS => ?_)
    · rw [hQ]
      exact vx_out (fun x9 h9 => (hnx x9 h9).elim) hlk hce9 hcv9 hcl9 (fun t9 ht9 ha9 => hXC k9 _ t9 (k10 k9 ho9) (by rw [ht9]; exact hP) (hS.F ht9)) hS.2.2 (by decide) (by decide)
    · have hg := v11 r12 ho9
      refine lv_aload_n hx hb dX7_otherwise_8 rfl (lv_at hl 0 rfl) ?_
      refine m_gr (C := RX7) (T := TX7) (n := 5) (ci := 5) hx hb hts in_RX7 hown hK hP (by decide) rfl rfl 0 (by decide) rfl lk_10 (fun _ h9 => h9) dX7_otherwise_9 ?_
      obtain ⟨r13, q14, hg⟩ := bd_e hg hne
      refine r_calli (W.runV (As := []) (rest := []) CX (ctX4_lastUnfinishedHasOtherwise l D sw cs ad X M8  q14) (cwV 0 hts (gwV m3_227 m3_228 m3_229 m1_2 m3_230) rfl rfl rfl (by decide +kernel) ⟨Nat.le_trans (Nat.le_of_ble_eq_true rfl) hR.1, Nat.le_trans (Nat.le_of_ble_eq_true rfl) hR.2⟩) (rPreV (hSW.wr hS) hK hP (by decide) rfl rfl _) rfl rfl hl.1 rfl (lv_room (Nat.le_of_ble_eq_true rfl)) dX7_otherwise_12 ⟨Nat.le_trans (Nat.le_of_ble_eq_true rfl) hRc.1, Nat.le_trans (Nat.le_of_ble_eq_true rfl) hRc.2⟩) ?_
      refine lv_if_eq (tgt := 28) hx hb dX7_otherwise_15 (by decide) (fun c15 => ?_) (fun c15 => ?_)
      · have hg := if_t hg c15
        refine lv_aload_n hx hb dX7_otherwise_28 rfl (lv_at hl 0 rfl) ?_
        refine lv_bipush (v := 16) hx hb dX7_otherwise_29 (by decide) ?_
        obtain ⟨r18, M17, q16, hg⟩ := bd2_e hg hne
        refine w_calli (va_runV (As := [.int (16 : Int32)]) (rest := []) CX (ctX7_append l D sw cs ad X H.size M8 (16 : Int32) q16) (cwV 1 hts (gwV m2_36 m2_38 mp1_1 m1_1 m2_39) rfl rfl rfl (by decide +kernel) ⟨Nat.le_trans (Nat.le_of_ble_eq_true rfl) hR.1, Nat.le_trans (Nat.le_of_ble_eq_true rfl) hR.2⟩) (wPreV hSW hS hA hK hP hD (by decide) rfl rfl _) rfl rfl hl.1 rfl (lv_room (Nat.le_of_ble_eq_true rfl)) dX7_otherwise_31 ⟨Nat.le_trans (Nat.le_of_ble_eq_true rfl) hRc.1, Nat.le_trans (Nat.le_of_ble_eq_true rfl) hRc.2⟩) hD hS hA (fun H locs hP hD hS => ?_)
        refine W.widen (k := 3) (n := 18) (by decide) (by decide) ?_
        exact hret _ _ _ _ _ _ hg dX7_otherwise_34 hP hD hS
      · have hg := if_f hg c15
        rw [hQ]
        obtain ⟨sa, hsa⟩ := hSW.ms (92, "the WHEN has an OTHERWISE") (List.mem_of_getElem? (i := 5) rfl)
        exact vx_throwS (cls := "java/lang/IllegalStateException") (names := exU) hx hb hfl hown (by decide) (by decide) (hw _ m2_20) (hw _ m1_16) hsa (ex_hat hw hSW (List.mem_of_getElem? (i := 1) rfl) ex1_1 ex1_2) ex1_3 hSW.us hSW.sp hS (hl.1.trans hml.symm) dX7_otherwise_18 dX7_otherwise_21 dX7_otherwise_22 dX7_otherwise_24 dX7_otherwise_27 (fun x9 h9 => (hnx x9 h9).elim) (Nat.lt_of_lt_of_le (Nat.le_of_ble_eq_true rfl) hR.1) (Nat.le_trans (Nat.le_of_ble_eq_true rfl) hR.2) (Nat.le_trans (Nat.le_of_ble_eq_true rfl) hRc.1) (Nat.le_trans (Nat.le_of_ble_eq_true rfl) hRc.2) hlk (fun t9 ha9 hz9 hk9 => hXC 1 _ t9 hg (t_x hP hS hz9 hk9).1 (t_x hP hS hz9 hk9).2) hS.2.2 (by decide) (by decide)
theorem ctX7_otherwise (l : Launch) (hfl : l.stackTraces = false) (D : va_G) (sw : Sw) (cs : Cs) (ad : Nat → Nat) (X : va_W) (sz : Nat) (M : Mm) {o : Int32 ⊕ Nat} {M1 : Mm} (hq : gX7_otherwise M = some (o, M1)) : vx_Met l yX7_otherwise wsX7_otherwise ({ frames := 7, cells := 3, slots := 18, locals := 110 }) (va_Pc [.ref (ad 0)] (wPre D sw cs LC NC ad M X sz)) (tQi D cs LC NC ad M1 X sz o) (tX D cs LC NC ad M1 X sz o) 3 18 (wA NC ad X sz) :=
  met_t rfl rfl (Nat.le_of_ble_eq_true rfl) (fun p e s m args below meth c ls CX hr hlk hnx hK hSW hP hD hS hA hsz hl => bX7_otherwise M hq (by simp) CX ⟨Nat.le_refl _, Nat.le_refl _⟩ rfl hfl hlk hnx (fun k M9 t he hB hF => ⟨(), trivial, ⟨⟨k, (Prod.mk.inj (Option.some.inj he)).1.symm, rfl⟩, wpost hB rfl (Prod.mk.inj (Option.some.inj he)).2⟩, hF⟩) hK hSW hP hD hS hA ⟨Nat.le_refl _, Nat.le_refl _⟩ hl (fun pc ls H locs v M9 hv dg hP hD hS => vx_ret (W.iret CX.1 CX.2.1 hr (fun t ht hW => ⟨⟨v, (), rfl, (Prod.mk.inj (Option.some.inj hv)).1.symm, wpost hP ht (Prod.mk.inj (Option.some.inj hv)).2⟩, hS.F ht⟩) hS.2.2 dg)))

abbrev wsX7_done : List Cond := Cond.code yX7_done cX7_done 1 (some .int) :: WG
def gX7_done (M : Mm) : Option ((Int32 ⊕ Nat) × Mm) := te (gX7_checkRoom M ) fun r6 M2 => te (gX7_checkUnfinished M2 ) fun r12 M8 => bd2 (gX7_append M8 (17 : Int32)) fun r15 M14 => some (.inl r15, M14)
set_option maxHeartbeats 4000000 in
set_option maxRecDepth 100000 in
theorem bX7_done {p : Program} {l : Launch} {e : Env} {R : Room} {s : State} {m : MethodId} {args : Array Value} {below : List Frame} {meth : Method} {c : Code} {H : Heap} {locs : List Loc} {Q : State → Prop} {D : va_G} {sw : Sw} {cs : Cs} {ad : Nat → Nat} {X : va_W} {A : Nat → Prop} {Qc : Array Value → State → Outcome → State → Prop} {XC : String → State → State → Prop} (M : Mm) {res : Option ((Int32 ⊕ Nat) × Mm)} (hg : gX7_done M = res) (hne : res ≠ none) (CX : CallFix p m c cX7_done 1 s args wsX7_done RX7) (hR : 7 ≤ R.frames ∧ 110 ≤ R.locals) (hQ : Q = vx_MQ below Qc XC args s 2 12 A) (hfl : l.stackTraces = false) (hlk : meth.locks = false) (hnx : ∀ x ∈ c.exceptionTable.toList, False) (hXC : ∀ (k : Nat) (M9 : Mm) (t : State), some (.inr k, M9) = res → va_P D vwCl (wl cs LC NC ad M9 ++ X) t.heap → va_F A s t → XC (exn k) s t) (hK : va_K D vwCl (tysC cs) s) (hSW : SW sw A s s.heap) (hP : va_P D vwCl (wl cs LC NC ad M ++ X) H) (hD : va_D A (wl cs LC NC ad M ++ X)) (hS : va_S A s.heap H locs) (hA : ∀ q, s.heap.size ≤ q → A q) (hRc : 2 ≤ R.cells ∧ 12 ≤ R.slots) {ls : Array Slot} (hl : lv_has ls 1 [(0, .ref (ad 0))]) (hret : ∀ (pc : Nat) (ls : Array Slot) (H : Heap) (locs : List Loc) (v : Int32) (M9 : Mm), some (.inl v, M9) = res → decode cX7_done pc = .ok (.ireturn, 1) → va_P D vwCl (wl cs LC NC ad M9 ++ X) H → va_D A (wl cs LC NC ad M9 ++ X) → va_S A s.heap H locs → W p l e R s m args below meth c H locs 2 12 Q (F0 m pc ls [.int v])) : W p l e R s m args below meth c H locs 0 0 Q (F0 m 0 ls []) := by
  obtain ⟨hx, hb, hml, hown, hts⟩ := id CX
  have hw : ∀ w ∈ WG, w.before args s = true := fun w h => hts w (List.mem_cons_of_mem _ h)
  unfold gX7_done at hg
  refine lv_aload_n hx hb dX7_done_0 rfl (lv_at hl 0 rfl) ?_
  obtain ⟨o1, M2, q3, k4, v5⟩ := te_e hg hne
  refine t_callv (vx_runV (As := []) (rest := []) CX (ctX7_checkRoom l hfl D sw cs ad X H.size M  q3) (cwV 0 hts (gwV m3_210 m3_212 mp3_2 m1_1 m3_213) rfl rfl rfl (by decide +kernel) ⟨Nat.le_trans (Nat.le_of_ble_eq_true rfl) hR.1, Nat.le_trans (Nat.le_of_ble_eq_true rfl) hR.2⟩) (wPreV hSW hS hA hK hP hD (by decide) rfl rfl _) rfl rfl hl.1 rfl (lv_room (Nat.le_of_ble_eq_true rfl)) dX7_done_1 ⟨Nat.le_trans (Nat.le_of_ble_eq_true rfl) hRc.1, Nat.le_trans (Nat.le_of_ble_eq_true rfl) hRc.2⟩) hD hS hA (fun k9 ho9 H locs ce9 q9 hP hD hS hce9 hcv9 hcl9 => ?_) (fun r6 ho9 H locs hP hD hS => ?_)
  · rw [hQ]
    exact vx_out (fun x9 h9 => (hnx x9 h9).elim) hlk hce9 hcv9 hcl9 (fun t9 ht9 ha9 => hXC k9 _ t9 (k4 k9 ho9) (by rw [ht9]; exact hP) (hS.F ht9)) hS.2.2 (by decide) (by decide)
  · have hg := v5 r6 ho9
    refine lv_aload_n hx hb dX7_done_4 rfl (lv_at hl 0 rfl) ?_
    obtain ⟨o7, M8, q9, k10, v11⟩ := te_e hg hne
    refine t_callv (vx_runV (As := []) (rest := []) CX (ctX7_checkUnfinished l hfl D sw cs ad X H.size M2  q9) (cwV 0 hts (gwV m3_222 m3_224 mp3_3 m1_1 m3_225) rfl rfl rfl (by decide +kernel) ⟨Nat.le_trans (Nat.le_of_ble_eq_true rfl) hR.1, Nat.le_trans (Nat.le_of_ble_eq_true rfl) hR.2⟩) (wPreV hSW hS hA hK hP hD (by decide) rfl rfl _) rfl rfl hl.1 rfl (lv_room (Nat.le_of_ble_eq_true rfl)) dX7_done_5 ⟨Nat.le_trans (Nat.le_of_ble_eq_true rfl) hRc.1, Nat.le_trans (Nat.le_of_ble_eq_true rfl) hRc.2⟩) hD hS hA (fun k9 ho9 H locs ce9 q9 hP hD hS hce9 hcv9 hcl9 => ?_) (fun r12 ho9 H locs hP hD hS => ?_)
    · rw [hQ]
      exact vx_out (fun x9 h9 => (hnx x9 h9).elim) hlk hce9 hcv9 hcl9 (fun t9 ht9 ha9 => hXC k9 _ t9 (k10 k9 ho9) (by rw [ht9]; exact hP) (hS.F ht9)) hS.2.2 (by decide) (by decide)
    · have hg := v11 r12 ho9
      refine lv_aload_n hx hb dX7_done_8 rfl (lv_at hl 0 rfl) ?_
      refine lv_bipush (v := 17) hx hb dX7_done_9 (by decide) ?_
      obtain ⟨r15, M14, q13, hg⟩ := bd2_e hg hne
      refine w_calli (va_runV (As := [.int (17 : Int32)]) (rest := []) CX (ctX7_append l D sw cs ad X H.size M8 (17 : Int32) q13) (cwV 1 hts (gwV m2_36 m2_38 mp1_1 m1_1 m2_39) rfl rfl rfl (by decide +kernel) ⟨Nat.le_trans (Nat.le_of_ble_eq_true rfl) hR.1, Nat.le_trans (Nat.le_of_ble_eq_true rfl) hR.2⟩) (wPreV hSW hS hA hK hP hD (by decide) rfl rfl _) rfl rfl hl.1 rfl (lv_room (Nat.le_of_ble_eq_true rfl)) dX7_done_11 ⟨Nat.le_trans (Nat.le_of_ble_eq_true rfl) hRc.1, Nat.le_trans (Nat.le_of_ble_eq_true rfl) hRc.2⟩) hD hS hA (fun H locs hP hD hS => ?_)
      refine W.widen (k := 2) (n := 12) (by decide) (by decide) ?_
      exact hret _ _ _ _ _ _ hg dX7_done_14 hP hD hS
theorem ctX7_done (l : Launch) (hfl : l.stackTraces = false) (D : va_G) (sw : Sw) (cs : Cs) (ad : Nat → Nat) (X : va_W) (sz : Nat) (M : Mm) {o : Int32 ⊕ Nat} {M1 : Mm} (hq : gX7_done M = some (o, M1)) : vx_Met l yX7_done wsX7_done ({ frames := 7, cells := 2, slots := 12, locals := 110 }) (va_Pc [.ref (ad 0)] (wPre D sw cs LC NC ad M X sz)) (tQi D cs LC NC ad M1 X sz o) (tX D cs LC NC ad M1 X sz o) 2 12 (wA NC ad X sz) :=
  met_t rfl rfl (Nat.le_of_ble_eq_true rfl) (fun p e s m args below meth c ls CX hr hlk hnx hK hSW hP hD hS hA hsz hl => bX7_done M hq (by simp) CX ⟨Nat.le_refl _, Nat.le_refl _⟩ rfl hfl hlk hnx (fun k M9 t he hB hF => ⟨(), trivial, ⟨⟨k, (Prod.mk.inj (Option.some.inj he)).1.symm, rfl⟩, wpost hB rfl (Prod.mk.inj (Option.some.inj he)).2⟩, hF⟩) hK hSW hP hD hS hA ⟨Nat.le_refl _, Nat.le_refl _⟩ hl (fun pc ls H locs v M9 hv dg hP hD hS => vx_ret (W.iret CX.1 CX.2.1 hr (fun t ht hW => ⟨⟨v, (), rfl, (Prod.mk.inj (Option.some.inj hv)).1.symm, wpost hP ht (Prod.mk.inj (Option.some.inj hv)).2⟩, hS.F ht⟩) hS.2.2 dg)))

abbrev wsX7_set : List Cond := Cond.code yX7_set cX7_set 3 (some .int) :: WG
def gX7_set (M : Mm) (a1 : Int32) (a2 : Int32) : Option ((Int32 ⊕ Nat) × Mm) := te (gX7_checkFeature M a1) fun r6 M2 => te (gX7_checkRoom M2 ) fun r12 M8 => bd2 (gX7_append M8 (gX4_codeOfSet a1 a2)) fun r15 M14 => some (.inl r15, M14)
set_option maxHeartbeats 4000000 in
set_option maxRecDepth 100000 in
theorem bX7_set {p : Program} {l : Launch} {e : Env} {R : Room} {s : State} {m : MethodId} {args : Array Value} {below : List Frame} {meth : Method} {c : Code} {H : Heap} {locs : List Loc} {Q : State → Prop} {D : va_G} {sw : Sw} {cs : Cs} {ad : Nat → Nat} {X : va_W} {A : Nat → Prop} {Qc : Array Value → State → Outcome → State → Prop} {XC : String → State → State → Prop} (M : Mm) (a1 : Int32) (a2 : Int32) {res : Option ((Int32 ⊕ Nat) × Mm)} (hg : gX7_set M a1 a2 = res) (hne : res ≠ none) (CX : CallFix p m c cX7_set 3 s args wsX7_set RX7) (hR : 7 ≤ R.frames ∧ 111 ≤ R.locals) (hQ : Q = vx_MQ below Qc XC args s 2 12 A) (hfl : l.stackTraces = false) (hlk : meth.locks = false) (hnx : ∀ x ∈ c.exceptionTable.toList, False) (hXC : ∀ (k : Nat) (M9 : Mm) (t : State), some (.inr k, M9) = res → va_P D vwCl (wl cs LC NC ad M9 ++ X) t.heap → va_F A s t → XC (exn k) s t) (hK : va_K D vwCl (tysC cs) s) (hSW : SW sw A s s.heap) (hP : va_P D vwCl (wl cs LC NC ad M ++ X) H) (hD : va_D A (wl cs LC NC ad M ++ X)) (hS : va_S A s.heap H locs) (hA : ∀ q, s.heap.size ≤ q → A q) (hRc : 2 ≤ R.cells ∧ 12 ≤ R.slots) {ls : Array Slot} (hl : lv_has ls 3 [(0, .ref (ad 0)), (1, .int a1), (2, .int a2)]) (hret : ∀ (pc : Nat) (ls : Array Slot) (H : Heap) (locs : List Loc) (v : Int32) (M9 : Mm), some (.inl v, M9) = res → decode cX7_set pc = .ok (.ireturn, 1) → va_P D vwCl (wl cs LC NC ad M9 ++ X) H → va_D A (wl cs LC NC ad M9 ++ X) → va_S A s.heap H locs → W p l e R s m args below meth c H locs 2 12 Q (F0 m pc ls [.int v])) : W p l e R s m args below meth c H locs 0 0 Q (F0 m 0 ls []) := by
  obtain ⟨hx, hb, hml, hown, hts⟩ := id CX
  have hw : ∀ w ∈ WG, w.before args s = true := fun w h => hts w (List.mem_cons_of_mem _ h)
  unfold gX7_set at hg
  refine lv_aload_n hx hb dX7_set_0 rfl (lv_at hl 0 rfl) ?_
  refine lv_iload_n hx hb dX7_set_1 rfl (lv_at hl 1 rfl) ?_
  obtain ⟨o1, M2, q3, k4, v5⟩ := te_e hg hne
  refine t_callv (vx_runV (As := [.int a1]) (rest := []) CX (ctX7_checkFeature l hfl D sw cs ad X H.size M a1 q3) (cwV 1 hts (gwV m3_205 m3_207 mp3_1 m1_1 m3_208) rfl rfl rfl (by decide +kernel) ⟨Nat.le_trans (Nat.le_of_ble_eq_true rfl) hR.1, Nat.le_trans (Nat.le_of_ble_eq_true rfl) hR.2⟩) (wPreV hSW hS hA hK hP hD (by decide) rfl rfl _) rfl rfl hl.1 rfl (lv_room (Nat.le_of_ble_eq_true rfl)) dX7_set_2 ⟨Nat.le_trans (Nat.le_of_ble_eq_true rfl) hRc.1, Nat.le_trans (Nat.le_of_ble_eq_true rfl) hRc.2⟩) hD hS hA (fun k9 ho9 H locs ce9 q9 hP hD hS hce9 hcv9 hcl9 => ?_) (fun r6 ho9 H locs hP hD hS => ?_)
  · rw [hQ]
    exact vx_out (fun x9 h9 => (hnx x9 h9).elim) hlk hce9 hcv9 hcl9 (fun t9 ht9 ha9 => hXC k9 _ t9 (k4 k9 ho9) (by rw [ht9]; exact hP) (hS.F ht9)) hS.2.2 (by decide) (by decide)
  · have hg := v5 r6 ho9
    refine lv_aload_n hx hb dX7_set_5 rfl (lv_at hl 0 rfl) ?_
    obtain ⟨o7, M8, q9, k10, v11⟩ := te_e hg hne
    refine t_callv (vx_runV (As := []) (rest := []) CX (ctX7_checkRoom l hfl D sw cs ad X H.size M2  q9) (cwV 0 hts (gwV m3_210 m3_212 mp3_2 m1_1 m3_213) rfl rfl rfl (by decide +kernel) ⟨Nat.le_trans (Nat.le_of_ble_eq_true rfl) hR.1, Nat.le_trans (Nat.le_of_ble_eq_true rfl) hR.2⟩) (wPreV hSW hS hA hK hP hD (by decide) rfl rfl _) rfl rfl hl.1 rfl (lv_room (Nat.le_of_ble_eq_true rfl)) dX7_set_6 ⟨Nat.le_trans (Nat.le_of_ble_eq_true rfl) hRc.1, Nat.le_trans (Nat.le_of_ble_eq_true rfl) hRc.2⟩) hD hS hA (fun k9 ho9 H locs ce9 q9 hP hD hS hce9 hcv9 hcl9 => ?_) (fun r12 ho9 H locs hP hD hS => ?_)
    · rw [hQ]
      exact vx_out (fun x9 h9 => (hnx x9 h9).elim) hlk hce9 hcv9 hcl9 (fun t9 ht9 ha9 => hXC k9 _ t9 (k10 k9 ho9) (by rw [ht9]; exact hP) (hS.F ht9)) hS.2.2 (by decide) (by decide)
    · have hg := v11 r12 ho9
      refine lv_aload_n hx hb dX7_set_9 rfl (lv_at hl 0 rfl) ?_
      refine lv_iload_n hx hb dX7_set_10 rfl (lv_at hl 1 rfl) ?_
      refine lv_iload_n hx hb dX7_set_11 rfl (lv_at hl 2 rfl) ?_
      refine r_calli (W.runS (As := [.int a1, .int a2]) (rest := [.ref (ad 0)]) CX (ctX4_codeOfSet l a1 a2) (va_cwS 2 hts (gwS m4_0 m4_1 m1_2 m4_2) rfl rfl rfl (by decide +kernel) ⟨Nat.le_trans (Nat.le_of_ble_eq_true rfl) hR.1, Nat.le_trans (Nat.le_of_ble_eq_true rfl) hR.2⟩) (pPreS _) rfl rfl hl.1 rfl (lv_room (Nat.le_of_ble_eq_true rfl)) dX7_set_12 ⟨Nat.le_trans (Nat.le_of_ble_eq_true rfl) hRc.1, Nat.le_trans (Nat.le_of_ble_eq_true rfl) hRc.2⟩) ?_
      obtain ⟨r15, M14, q13, hg⟩ := bd2_e hg hne
      refine w_calli (va_runV (As := [.int (gX4_codeOfSet a1 a2)]) (rest := []) CX (ctX7_append l D sw cs ad X H.size M8 (gX4_codeOfSet a1 a2) q13) (cwV 1 hts (gwV m2_36 m2_38 mp1_1 m1_1 m2_39) rfl rfl rfl (by decide +kernel) ⟨Nat.le_trans (Nat.le_of_ble_eq_true rfl) hR.1, Nat.le_trans (Nat.le_of_ble_eq_true rfl) hR.2⟩) (wPreV hSW hS hA hK hP hD (by decide) rfl rfl _) rfl rfl hl.1 rfl (lv_room (Nat.le_of_ble_eq_true rfl)) dX7_set_15 ⟨Nat.le_trans (Nat.le_of_ble_eq_true rfl) hRc.1, Nat.le_trans (Nat.le_of_ble_eq_true rfl) hRc.2⟩) hD hS hA (fun H locs hP hD hS => ?_)
      refine W.widen (k := 2) (n := 12) (by decide) (by decide) ?_
      exact hret _ _ _ _ _ _ hg dX7_set_18 hP hD hS
theorem ctX7_set (l : Launch) (hfl : l.stackTraces = false) (D : va_G) (sw : Sw) (cs : Cs) (ad : Nat → Nat) (X : va_W) (sz : Nat) (M : Mm) (a1 : Int32) (a2 : Int32) {o : Int32 ⊕ Nat} {M1 : Mm} (hq : gX7_set M a1 a2 = some (o, M1)) : vx_Met l yX7_set wsX7_set ({ frames := 7, cells := 2, slots := 12, locals := 111 }) (va_Pc [.ref (ad 0), .int a1, .int a2] (wPre D sw cs LC NC ad M X sz)) (tQi D cs LC NC ad M1 X sz o) (tX D cs LC NC ad M1 X sz o) 2 12 (wA NC ad X sz) :=
  met_t rfl rfl (Nat.le_of_ble_eq_true rfl) (fun p e s m args below meth c ls CX hr hlk hnx hK hSW hP hD hS hA hsz hl => bX7_set M a1 a2 hq (by simp) CX ⟨Nat.le_refl _, Nat.le_refl _⟩ rfl hfl hlk hnx (fun k M9 t he hB hF => ⟨(), trivial, ⟨⟨k, (Prod.mk.inj (Option.some.inj he)).1.symm, rfl⟩, wpost hB rfl (Prod.mk.inj (Option.some.inj he)).2⟩, hF⟩) hK hSW hP hD hS hA ⟨Nat.le_refl _, Nat.le_refl _⟩ hl (fun pc ls H locs v M9 hv dg hP hD hS => vx_ret (W.iret CX.1 CX.2.1 hr (fun t ht hW => ⟨⟨v, (), rfl, (Prod.mk.inj (Option.some.inj hv)).1.symm, wpost hP ht (Prod.mk.inj (Option.some.inj hv)).2⟩, hS.F ht⟩) hS.2.2 dg)))

abbrev wsX7_item : List Cond := Cond.code yX7_item cX7_item 2 (some .int) :: WG
def gX7_item (M : Mm) (a1 : Int32) : Option ((Int32 ⊕ Nat) × Mm) := te (gX7_checkItem M a1) fun r6 M2 => if (a1 < 0 ∨ 80 ≤ (a1).toNatClampNeg) then none else some (.inl (M2 2 (a1).toNatClampNeg), M2)
set_option maxHeartbeats 4000000 in
set_option maxRecDepth 100000 in
theorem bX7_item {p : Program} {l : Launch} {e : Env} {R : Room} {s : State} {m : MethodId} {args : Array Value} {below : List Frame} {meth : Method} {c : Code} {H : Heap} {locs : List Loc} {Q : State → Prop} {D : va_G} {sw : Sw} {cs : Cs} {ad : Nat → Nat} {X : va_W} {A : Nat → Prop} {Qc : Array Value → State → Outcome → State → Prop} {XC : String → State → State → Prop} (M : Mm) (a1 : Int32) {res : Option ((Int32 ⊕ Nat) × Mm)} (hg : gX7_item M a1 = res) (hne : res ≠ none) (CX : CallFix p m c cX7_item 2 s args wsX7_item RX7) (hR : 7 ≤ R.frames ∧ 111 ≤ R.locals) (hQ : Q = vx_MQ below Qc XC args s 1 6 A) (hfl : l.stackTraces = false) (hlk : meth.locks = false) (hnx : ∀ x ∈ c.exceptionTable.toList, False) (hXC : ∀ (k : Nat) (M9 : Mm) (t : State), some (.inr k, M9) = res → va_P D vwCl (wl cs LC NC ad M9 ++ X) t.heap → va_F A s t → XC (exn k) s t) (hK : va_K D vwCl (tysC cs) s) (hSW : SW sw A s s.heap) (hP : va_P D vwCl (wl cs LC NC ad M ++ X) H) (hD : va_D A (wl cs LC NC ad M ++ X)) (hS : va_S A s.heap H locs) (hA : ∀ q, s.heap.size ≤ q → A q) (hRc : 1 ≤ R.cells ∧ 6 ≤ R.slots) {ls : Array Slot} (hl : lv_has ls 2 [(0, .ref (ad 0)), (1, .int a1)]) (hret : ∀ (pc : Nat) (ls : Array Slot) (H : Heap) (locs : List Loc) (v : Int32) (M9 : Mm), some (.inl v, M9) = res → decode cX7_item pc = .ok (.ireturn, 1) → va_P D vwCl (wl cs LC NC ad M9 ++ X) H → va_D A (wl cs LC NC ad M9 ++ X) → va_S A s.heap H locs → W p l e R s m args below meth c H locs 1 6 Q (F0 m pc ls [.int v])) : W p l e R s m args below meth c H locs 0 0 Q (F0 m 0 ls []) := by
  obtain ⟨hx, hb, hml, hown, hts⟩ := id CX
  have hw : ∀ w ∈ WG, w.before args s = true := fun w h => hts w (List.mem_cons_of_mem _ h)
  have lk_10 := hw _ m1_159
  have lk_105 := hw _ m1_38
  unfold gX7_item at hg
  refine lv_aload_n hx hb dX7_item_0 rfl (lv_at hl 0 rfl) ?_
  refine lv_iload_n hx hb dX7_item_1 rfl (lv_at hl 1 rfl) ?_
  obtain ⟨o1, M2, q3, k4, v5⟩ := te_e hg hne
  refine t_callv (vx_runV (As := [.int a1]) (rest := []) CX (ctX7_checkItem l hfl D sw cs ad X H.size M a1 q3) (cwV 1 hts (gwV m2_48 m2_50 mp1_2 m1_1 m2_51) rfl rfl rfl (by decide +kernel) ⟨Nat.le_trans (Nat.le_of_ble_eq_true rfl) hR.1, Nat.le_trans (Nat.le_of_ble_eq_true rfl) hR.2⟩) (wPreV hSW hS hA hK hP hD (by decide) rfl rfl _) rfl rfl hl.1 rfl (lv_room (Nat.le_of_ble_eq_true rfl)) dX7_item_2 ⟨Nat.le_trans (Nat.le_of_ble_eq_true rfl) hRc.1, Nat.le_trans (Nat.le_of_ble_eq_true rfl) hRc.2⟩) hD hS hA (fun k9 ho9 H locs ce9 q9 hP hD hS hce9 hcv9 hcl9 => ?_) (fun r6 ho9 H locs hP hD hS => ?_)
  · rw [hQ]
    exact vx_out (fun x9 h9 => (hnx x9 h9).elim) hlk hce9 hcv9 hcl9 (fun t9 ht9 ha9 => hXC k9 _ t9 (k4 k9 ho9) (by rw [ht9]; exact hP) (hS.F ht9)) hS.2.2 (by decide) (by decide)
  · have hg := v5 r6 ho9
    refine lv_aload_n hx hb dX7_item_5 rfl (lv_at hl 0 rfl) ?_
    refine m_gr (C := RX7) (T := TX7) (n := 5) (ci := 5) hx hb hts in_RX7 hown hK hP (by decide) rfl rfl 0 (by decide) rfl lk_10 (fun _ h9 => h9) dX7_item_6 ?_
    refine m_gr (C := RX4) (T := TX4) (n := 2) (ci := 2) hx hb hts in_RX4 hown hK hP (by decide) rfl rfl 0 (by decide) rfl lk_105 (fun _ h9 => h9) dX7_item_9 ?_
    refine lv_iload_n hx hb dX7_item_12 rfl (lv_at hl 1 rfl) ?_
    obtain ⟨b7, hg⟩ := ck_e hg hne
    refine m_ld hx hb hK hP (by decide) rfl b7 dX7_item_13 ?_
    refine W.widen (k := 1) (n := 6) (by decide) (by decide) ?_
    exact hret _ _ _ _ _ _ hg dX7_item_14 hP hD hS
theorem ctX7_item (l : Launch) (hfl : l.stackTraces = false) (D : va_G) (sw : Sw) (cs : Cs) (ad : Nat → Nat) (X : va_W) (sz : Nat) (M : Mm) (a1 : Int32) {o : Int32 ⊕ Nat} {M1 : Mm} (hq : gX7_item M a1 = some (o, M1)) : vx_Met l yX7_item wsX7_item ({ frames := 7, cells := 1, slots := 6, locals := 111 }) (va_Pc [.ref (ad 0), .int a1] (wPre D sw cs LC NC ad M X sz)) (tQi D cs LC NC ad M1 X sz o) (tX D cs LC NC ad M1 X sz o) 1 6 (wA NC ad X sz) :=
  met_t rfl rfl (Nat.le_of_ble_eq_true rfl) (fun p e s m args below meth c ls CX hr hlk hnx hK hSW hP hD hS hA hsz hl => bX7_item M a1 hq (by simp) CX ⟨Nat.le_refl _, Nat.le_refl _⟩ rfl hfl hlk hnx (fun k M9 t he hB hF => ⟨(), trivial, ⟨⟨k, (Prod.mk.inj (Option.some.inj he)).1.symm, rfl⟩, wpost hB rfl (Prod.mk.inj (Option.some.inj he)).2⟩, hF⟩) hK hSW hP hD hS hA ⟨Nat.le_refl _, Nat.le_refl _⟩ hl (fun pc ls H locs v M9 hv dg hP hD hS => vx_ret (W.iret CX.1 CX.2.1 hr (fun t ht hW => ⟨⟨v, (), rfl, (Prod.mk.inj (Option.some.inj hv)).1.symm, wpost hP ht (Prod.mk.inj (Option.some.inj hv)).2⟩, hS.F ht⟩) hS.2.2 dg)))

abbrev wsX7_presence : List Cond := Cond.code yX7_presence cX7_presence 2 (some .int) :: WG
def gX7_presence (M : Mm) (a1 : Int32) : Option ((Int32 ⊕ Nat) × Mm) := te (gX7_checkItem M a1) fun r6 M2 => bd (gX7_refresh M2 ) fun M8 => if (a1 < 0 ∨ 80 ≤ (a1).toNatClampNeg) then none else some (.inl (M8 4 (a1).toNatClampNeg), M8)
set_option maxHeartbeats 4000000 in
set_option maxRecDepth 100000 in
theorem bX7_presence {p : Program} {l : Launch} {e : Env} {R : Room} {s : State} {m : MethodId} {args : Array Value} {below : List Frame} {meth : Method} {c : Code} {H : Heap} {locs : List Loc} {Q : State → Prop} {D : va_G} {sw : Sw} {cs : Cs} {ad : Nat → Nat} {X : va_W} {A : Nat → Prop} {Qc : Array Value → State → Outcome → State → Prop} {XC : String → State → State → Prop} (M : Mm) (a1 : Int32) {res : Option ((Int32 ⊕ Nat) × Mm)} (hg : gX7_presence M a1 = res) (hne : res ≠ none) (CX : CallFix p m c cX7_presence 2 s args wsX7_presence RX7) (hR : 406 ≤ R.frames ∧ 9729 ≤ R.locals) (hQ : Q = vx_MQ below Qc XC args s 1 6 A) (hfl : l.stackTraces = false) (hlk : meth.locks = false) (hnx : ∀ x ∈ c.exceptionTable.toList, False) (hXC : ∀ (k : Nat) (M9 : Mm) (t : State), some (.inr k, M9) = res → va_P D vwCl (wl cs LC NC ad M9 ++ X) t.heap → va_F A s t → XC (exn k) s t) (hK : va_K D vwCl (tysC cs) s) (hSW : SW sw A s s.heap) (hP : va_P D vwCl (wl cs LC NC ad M ++ X) H) (hD : va_D A (wl cs LC NC ad M ++ X)) (hS : va_S A s.heap H locs) (hA : ∀ q, s.heap.size ≤ q → A q) (hRc : 1 ≤ R.cells ∧ 6 ≤ R.slots) {ls : Array Slot} (hl : lv_has ls 2 [(0, .ref (ad 0)), (1, .int a1)]) (hret : ∀ (pc : Nat) (ls : Array Slot) (H : Heap) (locs : List Loc) (v : Int32) (M9 : Mm), some (.inl v, M9) = res → decode cX7_presence pc = .ok (.ireturn, 1) → va_P D vwCl (wl cs LC NC ad M9 ++ X) H → va_D A (wl cs LC NC ad M9 ++ X) → va_S A s.heap H locs → W p l e R s m args below meth c H locs 1 6 Q (F0 m pc ls [.int v])) : W p l e R s m args below meth c H locs 0 0 Q (F0 m 0 ls []) := by
  obtain ⟨hx, hb, hml, hown, hts⟩ := id CX
  have hw : ∀ w ∈ WG, w.before args s = true := fun w h => hts w (List.mem_cons_of_mem _ h)
  have lk_19 := hw _ m1_160
  have lk_115 := hw _ m1_57
  unfold gX7_presence at hg
  refine lv_aload_n hx hb dX7_presence_0 rfl (lv_at hl 0 rfl) ?_
  refine lv_iload_n hx hb dX7_presence_1 rfl (lv_at hl 1 rfl) ?_
  obtain ⟨o1, M2, q3, k4, v5⟩ := te_e hg hne
  refine t_callv (vx_runV (As := [.int a1]) (rest := []) CX (ctX7_checkItem l hfl D sw cs ad X H.size M a1 q3) (cwV 1 hts (gwV m2_48 m2_50 mp1_2 m1_1 m2_51) rfl rfl rfl (by decide +kernel) ⟨Nat.le_trans (Nat.le_of_ble_eq_true rfl) hR.1, Nat.le_trans (Nat.le_of_ble_eq_true rfl) hR.2⟩) (wPreV hSW hS hA hK hP hD (by decide) rfl rfl _) rfl rfl hl.1 rfl (lv_room (Nat.le_of_ble_eq_true rfl)) dX7_presence_2 ⟨Nat.le_trans (Nat.le_of_ble_eq_true rfl) hRc.1, Nat.le_trans (Nat.le_of_ble_eq_true rfl) hRc.2⟩) hD hS hA (fun k9 ho9 H locs ce9 q9 hP hD hS hce9 hcv9 hcl9 => ?_) (fun r6 ho9 H locs hP hD hS => ?_)
  · rw [hQ]
    exact vx_out (fun x9 h9 => (hnx x9 h9).elim) hlk hce9 hcv9 hcl9 (fun t9 ht9 ha9 => hXC k9 _ t9 (k4 k9 ho9) (by rw [ht9]; exact hP) (hS.F ht9)) hS.2.2 (by decide) (by decide)
  · have hg := v5 r6 ho9
    refine lv_aload_n hx hb dX7_presence_5 rfl (lv_at hl 0 rfl) ?_
    obtain ⟨M8, q7, hg⟩ := bd_e hg hne
    refine w_callv (va_runV (As := []) (rest := []) CX (ctX7_refresh l D sw cs ad X H.size M2  q7) (cwV 0 hts (gwV m2_72 m2_74 mp1_3 m1_1 m2_75) rfl rfl rfl (by decide +kernel) ⟨Nat.le_trans (Nat.le_of_ble_eq_true rfl) hR.1, Nat.le_trans (Nat.le_of_ble_eq_true rfl) hR.2⟩) (wPreV hSW hS hA hK hP hD (by decide) rfl rfl _) rfl rfl hl.1 rfl (lv_room (Nat.le_of_ble_eq_true rfl)) dX7_presence_6 ⟨Nat.le_trans (Nat.le_of_ble_eq_true rfl) hRc.1, Nat.le_trans (Nat.le_of_ble_eq_true rfl) hRc.2⟩) hD hS hA (fun H locs hP hD hS => ?_)
    refine lv_aload_n hx hb dX7_presence_9 rfl (lv_at hl 0 rfl) ?_
    refine m_gr (C := RX7) (T := TX7) (n := 5) (ci := 5) hx hb hts in_RX7 hown hK hP (by decide) rfl rfl 1 (by decide) rfl lk_19 (fun _ h9 => h9) dX7_presence_10 ?_
    refine m_gr (C := RX6) (T := TX6) (n := 7) (ci := 4) hx hb hts in_RX6 hown hK hP (by decide) rfl rfl 0 (by decide) rfl lk_115 (fun _ h9 => h9) dX7_presence_13 ?_
    refine lv_iload_n hx hb dX7_presence_16 rfl (lv_at hl 1 rfl) ?_
    obtain ⟨b9, hg⟩ := ck_e hg hne
    refine m_ld hx hb hK hP (by decide) rfl b9 dX7_presence_17 ?_
    refine W.widen (k := 1) (n := 6) (by decide) (by decide) ?_
    exact hret _ _ _ _ _ _ hg dX7_presence_18 hP hD hS
theorem ctX7_presence (l : Launch) (hfl : l.stackTraces = false) (D : va_G) (sw : Sw) (cs : Cs) (ad : Nat → Nat) (X : va_W) (sz : Nat) (M : Mm) (a1 : Int32) {o : Int32 ⊕ Nat} {M1 : Mm} (hq : gX7_presence M a1 = some (o, M1)) : vx_Met l yX7_presence wsX7_presence ({ frames := 406, cells := 1, slots := 6, locals := 9729 }) (va_Pc [.ref (ad 0), .int a1] (wPre D sw cs LC NC ad M X sz)) (tQi D cs LC NC ad M1 X sz o) (tX D cs LC NC ad M1 X sz o) 1 6 (wA NC ad X sz) :=
  met_t rfl rfl (Nat.le_of_ble_eq_true rfl) (fun p e s m args below meth c ls CX hr hlk hnx hK hSW hP hD hS hA hsz hl => bX7_presence M a1 hq (by simp) CX ⟨Nat.le_refl _, Nat.le_refl _⟩ rfl hfl hlk hnx (fun k M9 t he hB hF => ⟨(), trivial, ⟨⟨k, (Prod.mk.inj (Option.some.inj he)).1.symm, rfl⟩, wpost hB rfl (Prod.mk.inj (Option.some.inj he)).2⟩, hF⟩) hK hSW hP hD hS hA ⟨Nat.le_refl _, Nat.le_refl _⟩ hl (fun pc ls H locs v M9 hv dg hP hD hS => vx_ret (W.iret CX.1 CX.2.1 hr (fun t ht hW => ⟨⟨v, (), rfl, (Prod.mk.inj (Option.some.inj hv)).1.symm, wpost hP ht (Prod.mk.inj (Option.some.inj hv)).2⟩, hS.F ht⟩) hS.2.2 dg)))

abbrev wsX7_length : List Cond := Cond.code yX7_length cX7_length 2 (some .int) :: WG
def gX7_length (M : Mm) (a1 : Int32) : Option ((Int32 ⊕ Nat) × Mm) := te (gX7_checkConfiguration M a1) fun r6 M2 => bd (gX7_refresh M2 ) fun M8 => if (a1 < 0 ∨ 16 ≤ (a1).toNatClampNeg) then none else lt ((a1).toNatClampNeg) fun v10 => some (.inl (M8 (vb v10) 2), M8)
set_option maxHeartbeats 4000000 in
set_option maxRecDepth 100000 in
theorem bX7_length {p : Program} {l : Launch} {e : Env} {R : Room} {s : State} {m : MethodId} {args : Array Value} {below : List Frame} {meth : Method} {c : Code} {H : Heap} {locs : List Loc} {Q : State → Prop} {D : va_G} {sw : Sw} {cs : Cs} {ad : Nat → Nat} {X : va_W} {A : Nat → Prop} {Qc : Array Value → State → Outcome → State → Prop} {XC : String → State → State → Prop} (M : Mm) (a1 : Int32) {res : Option ((Int32 ⊕ Nat) × Mm)} (hg : gX7_length M a1 = res) (hne : res ≠ none) (CX : CallFix p m c cX7_length 2 s args wsX7_length RX7) (hR : 406 ≤ R.frames ∧ 9729 ≤ R.locals) (hQ : Q = vx_MQ below Qc XC args s 1 6 A) (hfl : l.stackTraces = false) (hlk : meth.locks = false) (hnx : ∀ x ∈ c.exceptionTable.toList, False) (hXC : ∀ (k : Nat) (M9 : Mm) (t : State), some (.inr k, M9) = res → va_P D vwCl (wl cs LC NC ad M9 ++ X) t.heap → va_F A s t → XC (exn k) s t) (hK : va_K D vwCl (tysC cs) s) (hSW : SW sw A s s.heap) (hP : va_P D vwCl (wl cs LC NC ad M ++ X) H) (hD : va_D A (wl cs LC NC ad M ++ X)) (hS : va_S A s.heap H locs) (hA : ∀ q, s.heap.size ≤ q → A q) (hRc : 1 ≤ R.cells ∧ 6 ≤ R.slots) {ls : Array Slot} (hl : lv_has ls 2 [(0, .ref (ad 0)), (1, .int a1)]) (hret : ∀ (pc : Nat) (ls : Array Slot) (H : Heap) (locs : List Loc) (v : Int32) (M9 : Mm), some (.inl v, M9) = res → decode cX7_length pc = .ok (.ireturn, 1) → va_P D vwCl (wl cs LC NC ad M9 ++ X) H → va_D A (wl cs LC NC ad M9 ++ X) → va_S A s.heap H locs → W p l e R s m args below meth c H locs 1 6 Q (F0 m pc ls [.int v])) : W p l e R s m args below meth c H locs 0 0 Q (F0 m 0 ls []) := by
  obtain ⟨hx, hb, hml, hown, hts⟩ := id CX
  have hw : ∀ w ∈ WG, w.before args s = true := fun w h => hts w (List.mem_cons_of_mem _ h)
  have lk_25 := hw _ m1_161
  have lk_132 := hw _ m1_143
  unfold gX7_length at hg
  refine lv_aload_n hx hb dX7_length_0 rfl (lv_at hl 0 rfl) ?_
  refine lv_iload_n hx hb dX7_length_1 rfl (lv_at hl 1 rfl) ?_
  obtain ⟨o1, M2, q3, k4, v5⟩ := te_e hg hne
  refine t_callv (vx_runV (As := [.int a1]) (rest := []) CX (ctX7_checkConfiguration l hfl D sw cs ad X H.size M a1 q3) (cwV 1 hts (gwV m3_62 m3_64 mp2_10 m1_1 m3_65) rfl rfl rfl (by decide +kernel) ⟨Nat.le_trans (Nat.le_of_ble_eq_true rfl) hR.1, Nat.le_trans (Nat.le_of_ble_eq_true rfl) hR.2⟩) (wPreV hSW hS hA hK hP hD (by decide) rfl rfl _) rfl rfl hl.1 rfl (lv_room (Nat.le_of_ble_eq_true rfl)) dX7_length_2 ⟨Nat.le_trans (Nat.le_of_ble_eq_true rfl) hRc.1, Nat.le_trans (Nat.le_of_ble_eq_true rfl) hRc.2⟩) hD hS hA (fun k9 ho9 H locs ce9 q9 hP hD hS hce9 hcv9 hcl9 => ?_) (fun r6 ho9 H locs hP hD hS => ?_)
  · rw [hQ]
    exact vx_out (fun x9 h9 => (hnx x9 h9).elim) hlk hce9 hcv9 hcl9 (fun t9 ht9 ha9 => hXC k9 _ t9 (k4 k9 ho9) (by rw [ht9]; exact hP) (hS.F ht9)) hS.2.2 (by decide) (by decide)
  · have hg := v5 r6 ho9
    refine lv_aload_n hx hb dX7_length_5 rfl (lv_at hl 0 rfl) ?_
    obtain ⟨M8, q7, hg⟩ := bd_e hg hne
    refine w_callv (va_runV (As := []) (rest := []) CX (ctX7_refresh l D sw cs ad X H.size M2  q7) (cwV 0 hts (gwV m2_72 m2_74 mp1_3 m1_1 m2_75) rfl rfl rfl (by decide +kernel) ⟨Nat.le_trans (Nat.le_of_ble_eq_true rfl) hR.1, Nat.le_trans (Nat.le_of_ble_eq_true rfl) hR.2⟩) (wPreV hSW hS hA hK hP hD (by decide) rfl rfl _) rfl rfl hl.1 rfl (lv_room (Nat.le_of_ble_eq_true rfl)) dX7_length_6 ⟨Nat.le_trans (Nat.le_of_ble_eq_true rfl) hRc.1, Nat.le_trans (Nat.le_of_ble_eq_true rfl) hRc.2⟩) hD hS hA (fun H locs hP hD hS => ?_)
    refine lv_aload_n hx hb dX7_length_9 rfl (lv_at hl 0 rfl) ?_
    refine m_gr (C := RX7) (T := TX7) (n := 5) (ci := 5) hx hb hts in_RX7 hown hK hP (by decide) rfl rfl 2 (by decide) rfl lk_25 (fun _ h9 => h9) dX7_length_10 ?_
    refine lv_iload_n hx hb dX7_length_13 rfl (lv_at hl 1 rfl) ?_
    obtain ⟨b9, hg⟩ := ck_e hg hne
    obtain ⟨v10, hv10, hg⟩ := lt_e hg
    have h11 := ix_lt b9 hv10
    refine m_lq (k := 13) hx hb hK hP (by decide) rfl b9 dX7_length_14 ?_
    rw [← hv10]
    refine m_gi (C := RX5) (T := TX5) (n := 5) (ci := 3) hx hb hts in_RX5 hown hK hP (kC_v0 h11) (LC_VAR v10) rfl 2 (by decide) rfl lk_132 (fun _ h9 => h9) dX7_length_15 ?_
    refine W.widen (k := 1) (n := 6) (by decide) (by decide) ?_
    exact hret _ _ _ _ _ _ hg dX7_length_18 hP hD hS
theorem ctX7_length (l : Launch) (hfl : l.stackTraces = false) (D : va_G) (sw : Sw) (cs : Cs) (ad : Nat → Nat) (X : va_W) (sz : Nat) (M : Mm) (a1 : Int32) {o : Int32 ⊕ Nat} {M1 : Mm} (hq : gX7_length M a1 = some (o, M1)) : vx_Met l yX7_length wsX7_length ({ frames := 406, cells := 1, slots := 6, locals := 9729 }) (va_Pc [.ref (ad 0), .int a1] (wPre D sw cs LC NC ad M X sz)) (tQi D cs LC NC ad M1 X sz o) (tX D cs LC NC ad M1 X sz o) 1 6 (wA NC ad X sz) :=
  met_t rfl rfl (Nat.le_of_ble_eq_true rfl) (fun p e s m args below meth c ls CX hr hlk hnx hK hSW hP hD hS hA hsz hl => bX7_length M a1 hq (by simp) CX ⟨Nat.le_refl _, Nat.le_refl _⟩ rfl hfl hlk hnx (fun k M9 t he hB hF => ⟨(), trivial, ⟨⟨k, (Prod.mk.inj (Option.some.inj he)).1.symm, rfl⟩, wpost hB rfl (Prod.mk.inj (Option.some.inj he)).2⟩, hF⟩) hK hSW hP hD hS hA ⟨Nat.le_refl _, Nat.le_refl _⟩ hl (fun pc ls H locs v M9 hv dg hP hD hS => vx_ret (W.iret CX.1 CX.2.1 hr (fun t ht hW => ⟨⟨v, (), rfl, (Prod.mk.inj (Option.some.inj hv)).1.symm, wpost hP ht (Prod.mk.inj (Option.some.inj hv)).2⟩, hS.F ht⟩) hS.2.2 dg)))

abbrev wsX7_place : List Cond := Cond.code yX7_place cX7_place 3 (some .int) :: WG
def gX7_place (M : Mm) (a1 : Int32) (a2 : Int32) : Option ((Int32 ⊕ Nat) × Mm) := te (gX7_checkConfiguration M a1) fun r6 M2 => bd (gX7_refresh M2 ) fun M8 => te (gX7_checkIndex M8 a1 a2) fun r14 M10 => if (a1 < 0 ∨ 16 ≤ (a1).toNatClampNeg) then none else lt ((a1).toNatClampNeg) fun v16 => if (a2 < 0 ∨ 80 ≤ (a2).toNatClampNeg) then none else some (.inl (M10 (vb v16 + 2) (a2).toNatClampNeg), M10)
set_option maxHeartbeats 4000000 in
set_option maxRecDepth 100000 in
theorem bX7_place {p : Program} {l : Launch} {e : Env} {R : Room} {s : State} {m : MethodId} {args : Array Value} {below : List Frame} {meth : Method} {c : Code} {H : Heap} {locs : List Loc} {Q : State → Prop} {D : va_G} {sw : Sw} {cs : Cs} {ad : Nat → Nat} {X : va_W} {A : Nat → Prop} {Qc : Array Value → State → Outcome → State → Prop} {XC : String → State → State → Prop} (M : Mm) (a1 : Int32) (a2 : Int32) {res : Option ((Int32 ⊕ Nat) × Mm)} (hg : gX7_place M a1 a2 = res) (hne : res ≠ none) (CX : CallFix p m c cX7_place 3 s args wsX7_place RX7) (hR : 406 ≤ R.frames ∧ 9729 ≤ R.locals) (hQ : Q = vx_MQ below Qc XC args s 2 12 A) (hfl : l.stackTraces = false) (hlk : meth.locks = false) (hnx : ∀ x ∈ c.exceptionTable.toList, False) (hXC : ∀ (k : Nat) (M9 : Mm) (t : State), some (.inr k, M9) = res → va_P D vwCl (wl cs LC NC ad M9 ++ X) t.heap → va_F A s t → XC (exn k) s t) (hK : va_K D vwCl (tysC cs) s) (hSW : SW sw A s s.heap) (hP : va_P D vwCl (wl cs LC NC ad M ++ X) H) (hD : va_D A (wl cs LC NC ad M ++ X)) (hS : va_S A s.heap H locs) (hA : ∀ q, s.heap.size ≤ q → A q) (hRc : 2 ≤ R.cells ∧ 12 ≤ R.slots) {ls : Array Slot} (hl : lv_has ls 3 [(0, .ref (ad 0)), (1, .int a1), (2, .int a2)]) (hret : ∀ (pc : Nat) (ls : Array Slot) (H : Heap) (locs : List Loc) (v : Int32) (M9 : Mm), some (.inl v, M9) = res → decode cX7_place pc = .ok (.ireturn, 1) → va_P D vwCl (wl cs LC NC ad M9 ++ X) H → va_D A (wl cs LC NC ad M9 ++ X) → va_S A s.heap H locs → W p l e R s m args below meth c H locs 2 12 Q (F0 m pc ls [.int v])) : W p l e R s m args below meth c H locs 0 0 Q (F0 m 0 ls []) := by
  obtain ⟨hx, hb, hml, hown, hts⟩ := id CX
  have hw : ∀ w ∈ WG, w.before args s = true := fun w h => hts w (List.mem_cons_of_mem _ h)
  have lk_25 := hw _ m1_161
  have lk_139 := hw _ m1_141
  unfold gX7_place at hg
  refine lv_aload_n hx hb dX7_place_0 rfl (lv_at hl 0 rfl) ?_
  refine lv_iload_n hx hb dX7_place_1 rfl (lv_at hl 1 rfl) ?_
  obtain ⟨o1, M2, q3, k4, v5⟩ := te_e hg hne
  refine t_callv (vx_runV (As := [.int a1]) (rest := []) CX (ctX7_checkConfiguration l hfl D sw cs ad X H.size M a1 q3) (cwV 1 hts (gwV m3_62 m3_64 mp2_10 m1_1 m3_65) rfl rfl rfl (by decide +kernel) ⟨Nat.le_trans (Nat.le_of_ble_eq_true rfl) hR.1, Nat.le_trans (Nat.le_of_ble_eq_true rfl) hR.2⟩) (wPreV hSW hS hA hK hP hD (by decide) rfl rfl _) rfl rfl hl.1 rfl (lv_room (Nat.le_of_ble_eq_true rfl)) dX7_place_2 ⟨Nat.le_trans (Nat.le_of_ble_eq_true rfl) hRc.1, Nat.le_trans (Nat.le_of_ble_eq_true rfl) hRc.2⟩) hD hS hA (fun k9 ho9 H locs ce9 q9 hP hD hS hce9 hcv9 hcl9 => ?_) (fun r6 ho9 H locs hP hD hS => ?_)
  · rw [hQ]
    exact vx_out (fun x9 h9 => (hnx x9 h9).elim) hlk hce9 hcv9 hcl9 (fun t9 ht9 ha9 => hXC k9 _ t9 (k4 k9 ho9) (by rw [ht9]; exact hP) (hS.F ht9)) hS.2.2 (by decide) (by decide)
  · have hg := v5 r6 ho9
    refine lv_aload_n hx hb dX7_place_5 rfl (lv_at hl 0 rfl) ?_
    obtain ⟨M8, q7, hg⟩ := bd_e hg hne
    refine w_callv (va_runV (As := []) (rest := []) CX (ctX7_refresh l D sw cs ad X H.size M2  q7) (cwV 0 hts (gwV m2_72 m2_74 mp1_3 m1_1 m2_75) rfl rfl rfl (by decide +kernel) ⟨Nat.le_trans (Nat.le_of_ble_eq_true rfl) hR.1, Nat.le_trans (Nat.le_of_ble_eq_true rfl) hR.2⟩) (wPreV hSW hS hA hK hP hD (by decide) rfl rfl _) rfl rfl hl.1 rfl (lv_room (Nat.le_of_ble_eq_true rfl)) dX7_place_6 ⟨Nat.le_trans (Nat.le_of_ble_eq_true rfl) hRc.1, Nat.le_trans (Nat.le_of_ble_eq_true rfl) hRc.2⟩) hD hS hA (fun H locs hP hD hS => ?_)
    refine lv_aload_n hx hb dX7_place_9 rfl (lv_at hl 0 rfl) ?_
    refine lv_iload_n hx hb dX7_place_10 rfl (lv_at hl 1 rfl) ?_
    refine lv_iload_n hx hb dX7_place_11 rfl (lv_at hl 2 rfl) ?_
    obtain ⟨o9, M10, q11, k12, v13⟩ := te_e hg hne
    refine t_callv (vx_runV (As := [.int a1, .int a2]) (rest := []) CX (ctX7_checkIndex l hfl D sw cs ad X H.size M8 a1 a2 q11) (cwV 2 hts (gwV m3_71 m3_73 mp2_11 m1_1 m3_74) rfl rfl rfl (by decide +kernel) ⟨Nat.le_trans (Nat.le_of_ble_eq_true rfl) hR.1, Nat.le_trans (Nat.le_of_ble_eq_true rfl) hR.2⟩) (wPreV hSW hS hA hK hP hD (by decide) rfl rfl _) rfl rfl hl.1 rfl (lv_room (Nat.le_of_ble_eq_true rfl)) dX7_place_12 ⟨Nat.le_trans (Nat.le_of_ble_eq_true rfl) hRc.1, Nat.le_trans (Nat.le_of_ble_eq_true rfl) hRc.2⟩) hD hS hA (fun k9 ho9 H locs ce9 q9 hP hD hS hce9 hcv9 hcl9 => ?_) (fun r14 ho9 H locs hP hD hS => ?_)
    · rw [hQ]
      exact vx_out (fun x9 h9 => (hnx x9 h9).elim) hlk hce9 hcv9 hcl9 (fun t9 ht9 ha9 => hXC k9 _ t9 (k12 k9 ho9) (by rw [ht9]; exact hP) (hS.F ht9)) hS.2.2 (by decide) (by decide)
    · have hg := v13 r14 ho9
      refine lv_aload_n hx hb dX7_place_15 rfl (lv_at hl 0 rfl) ?_
      refine m_gr (C := RX7) (T := TX7) (n := 5) (ci := 5) hx hb hts in_RX7 hown hK hP (by decide) rfl rfl 2 (by decide) rfl lk_25 (fun _ h9 => h9) dX7_place_16 ?_
      refine lv_iload_n hx hb dX7_place_19 rfl (lv_at hl 1 rfl) ?_
      obtain ⟨b15, hg⟩ := ck_e hg hne
      obtain ⟨v16, hv16, hg⟩ := lt_e hg
      have h17 := ix_lt b15 hv16
      refine m_lq (k := 13) hx hb hK hP (by decide) rfl b15 dX7_place_20 ?_
      rw [← hv16]
      refine m_gr (C := RX5) (T := TX5) (n := 5) (ci := 3) hx hb hts in_RX5 hown hK hP (kC_v0 h17) (LC_VAR v16) rfl 1 (by decide) rfl lk_139 (fun _ h9 => h9) dX7_place_21 ?_
      refine lv_iload_n hx hb dX7_place_24 rfl (lv_at hl 2 rfl) ?_
      obtain ⟨b18, hg⟩ := ck_e hg hne
      refine m_ld hx hb hK hP (kC_v (j := 2) h17 (by decide)) (LC_VPL v16) b18 dX7_place_25 ?_
      refine W.widen (k := 2) (n := 12) (by decide) (by decide) ?_
      exact hret _ _ _ _ _ _ hg dX7_place_26 hP hD hS
theorem ctX7_place (l : Launch) (hfl : l.stackTraces = false) (D : va_G) (sw : Sw) (cs : Cs) (ad : Nat → Nat) (X : va_W) (sz : Nat) (M : Mm) (a1 : Int32) (a2 : Int32) {o : Int32 ⊕ Nat} {M1 : Mm} (hq : gX7_place M a1 a2 = some (o, M1)) : vx_Met l yX7_place wsX7_place ({ frames := 406, cells := 2, slots := 12, locals := 9729 }) (va_Pc [.ref (ad 0), .int a1, .int a2] (wPre D sw cs LC NC ad M X sz)) (tQi D cs LC NC ad M1 X sz o) (tX D cs LC NC ad M1 X sz o) 2 12 (wA NC ad X sz) :=
  met_t rfl rfl (Nat.le_of_ble_eq_true rfl) (fun p e s m args below meth c ls CX hr hlk hnx hK hSW hP hD hS hA hsz hl => bX7_place M a1 a2 hq (by simp) CX ⟨Nat.le_refl _, Nat.le_refl _⟩ rfl hfl hlk hnx (fun k M9 t he hB hF => ⟨(), trivial, ⟨⟨k, (Prod.mk.inj (Option.some.inj he)).1.symm, rfl⟩, wpost hB rfl (Prod.mk.inj (Option.some.inj he)).2⟩, hF⟩) hK hSW hP hD hS hA ⟨Nat.le_refl _, Nat.le_refl _⟩ hl (fun pc ls H locs v M9 hv dg hP hD hS => vx_ret (W.iret CX.1 CX.2.1 hr (fun t ht hW => ⟨⟨v, (), rfl, (Prod.mk.inj (Option.some.inj hv)).1.symm, wpost hP ht (Prod.mk.inj (Option.some.inj hv)).2⟩, hS.F ht⟩) hS.2.2 dg)))

abbrev wsX7_error : List Cond := Cond.code yX7_error cX7_error 2 (some .int) :: WG
def gX7_error (M : Mm) (a1 : Int32) : Option ((Int32 ⊕ Nat) × Mm) := te (gX7_checkConfiguration M a1) fun r6 M2 => te (gX7_checkFinished M2 ) fun r12 M8 => bd (gX7_refresh M8 ) fun M14 => if (a1 < 0 ∨ 16 ≤ (a1).toNatClampNeg) then none else lt ((a1).toNatClampNeg) fun v16 => some (.inl (M14 (vb v16 + 3) 4), M14)
set_option maxHeartbeats 4000000 in
set_option maxRecDepth 100000 in
theorem bX7_error {p : Program} {l : Launch} {e : Env} {R : Room} {s : State} {m : MethodId} {args : Array Value} {below : List Frame} {meth : Method} {c : Code} {H : Heap} {locs : List Loc} {Q : State → Prop} {D : va_G} {sw : Sw} {cs : Cs} {ad : Nat → Nat} {X : va_W} {A : Nat → Prop} {Qc : Array Value → State → Outcome → State → Prop} {XC : String → State → State → Prop} (M : Mm) (a1 : Int32) {res : Option ((Int32 ⊕ Nat) × Mm)} (hg : gX7_error M a1 = res) (hne : res ≠ none) (CX : CallFix p m c cX7_error 2 s args wsX7_error RX7) (hR : 406 ≤ R.frames ∧ 9729 ≤ R.locals) (hQ : Q = vx_MQ below Qc XC args s 2 12 A) (hfl : l.stackTraces = false) (hlk : meth.locks = false) (hnx : ∀ x ∈ c.exceptionTable.toList, False) (hXC : ∀ (k : Nat) (M9 : Mm) (t : State), some (.inr k, M9) = res → va_P D vwCl (wl cs LC NC ad M9 ++ X) t.heap → va_F A s t → XC (exn k) s t) (hK : va_K D vwCl (tysC cs) s) (hSW : SW sw A s s.heap) (hP : va_P D vwCl (wl cs LC NC ad M ++ X) H) (hD : va_D A (wl cs LC NC ad M ++ X)) (hS : va_S A s.heap H locs) (hA : ∀ q, s.heap.size ≤ q → A q) (hRc : 2 ≤ R.cells ∧ 12 ≤ R.slots) {ls : Array Slot} (hl : lv_has ls 2 [(0, .ref (ad 0)), (1, .int a1)]) (hret : ∀ (pc : Nat) (ls : Array Slot) (H : Heap) (locs : List Loc) (v : Int32) (M9 : Mm), some (.inl v, M9) = res → decode cX7_error pc = .ok (.ireturn, 1) → va_P D vwCl (wl cs LC NC ad M9 ++ X) H → va_D A (wl cs LC NC ad M9 ++ X) → va_S A s.heap H locs → W p l e R s m args below meth c H locs 2 12 Q (F0 m pc ls [.int v])) : W p l e R s m args below meth c H locs 0 0 Q (F0 m 0 ls []) := by
  obtain ⟨hx, hb, hml, hown, hts⟩ := id CX
  have hw : ∀ w ∈ WG, w.before args s = true := fun w h => hts w (List.mem_cons_of_mem _ h)
  have lk_25 := hw _ m1_161
  have lk_148 := hw _ m1_145
  have lk_152 := hw _ m1_98
  unfold gX7_error at hg
  refine lv_aload_n hx hb dX7_error_0 rfl (lv_at hl 0 rfl) ?_
  refine lv_iload_n hx hb dX7_error_1 rfl (lv_at hl 1 rfl) ?_
  obtain ⟨o1, M2, q3, k4, v5⟩ := te_e hg hne
  refine t_callv (vx_runV (As := [.int a1]) (rest := []) CX (ctX7_checkConfiguration l hfl D sw cs ad X H.size M a1 q3) (cwV 1 hts (gwV m3_62 m3_64 mp2_10 m1_1 m3_65) rfl rfl rfl (by decide +kernel) ⟨Nat.le_trans (Nat.le_of_ble_eq_true rfl) hR.1, Nat.le_trans (Nat.le_of_ble_eq_true rfl) hR.2⟩) (wPreV hSW hS hA hK hP hD (by decide) rfl rfl _) rfl rfl hl.1 rfl (lv_room (Nat.le_of_ble_eq_true rfl)) dX7_error_2 ⟨Nat.le_trans (Nat.le_of_ble_eq_true rfl) hRc.1, Nat.le_trans (Nat.le_of_ble_eq_true rfl) hRc.2⟩) hD hS hA (fun k9 ho9 H locs ce9 q9 hP hD hS hce9 hcv9 hcl9 => ?_) (fun r6 ho9 H locs hP hD hS => ?_)
  · rw [hQ]
    exact vx_out (fun x9 h9 => (hnx x9 h9).elim) hlk hce9 hcv9 hcl9 (fun t9 ht9 ha9 => hXC k9 _ t9 (k4 k9 ho9) (by rw [ht9]; exact hP) (hS.F ht9)) hS.2.2 (by decide) (by decide)
  · have hg := v5 r6 ho9
    refine lv_aload_n hx hb dX7_error_5 rfl (lv_at hl 0 rfl) ?_
    obtain ⟨o7, M8, q9, k10, v11⟩ := te_e hg hne
    refine t_callv (vx_runV (As := []) (rest := []) CX (ctX7_checkFinished l hfl D sw cs ad X H.size M2  q9) (cwV 0 hts (gwV m3_93 m3_95 mp2_13 m1_1 m3_96) rfl rfl rfl (by decide +kernel) ⟨Nat.le_trans (Nat.le_of_ble_eq_true rfl) hR.1, Nat.le_trans (Nat.le_of_ble_eq_true rfl) hR.2⟩) (wPreV hSW hS hA hK hP hD (by decide) rfl rfl _) rfl rfl hl.1 rfl (lv_room (Nat.le_of_ble_eq_true rfl)) dX7_error_6 ⟨Nat.le_trans (Nat.le_of_ble_eq_true rfl) hRc.1, Nat.le_trans (Nat.le_of_ble_eq_true rfl) hRc.2⟩) hD hS hA (fun k9 ho9 H locs ce9 q9 hP hD hS hce9 hcv9 hcl9 => ?_) (fun r12 ho9 H locs hP hD hS => ?_)
    · rw [hQ]
      exact vx_out (fun x9 h9 => (hnx x9 h9).elim) hlk hce9 hcv9 hcl9 (fun t9 ht9 ha9 => hXC k9 _ t9 (k10 k9 ho9) (by rw [ht9]; exact hP) (hS.F ht9)) hS.2.2 (by decide) (by decide)
    · have hg := v11 r12 ho9
      refine lv_aload_n hx hb dX7_error_9 rfl (lv_at hl 0 rfl) ?_
      obtain ⟨M14, q13, hg⟩ := bd_e hg hne
      refine w_callv (va_runV (As := []) (rest := []) CX (ctX7_refresh l D sw cs ad X H.size M8  q13) (cwV 0 hts (gwV m2_72 m2_74 mp1_3 m1_1 m2_75) rfl rfl rfl (by decide +kernel) ⟨Nat.le_trans (Nat.le_of_ble_eq_true rfl) hR.1, Nat.le_trans (Nat.le_of_ble_eq_true rfl) hR.2⟩) (wPreV hSW hS hA hK hP hD (by decide) rfl rfl _) rfl rfl hl.1 rfl (lv_room (Nat.le_of_ble_eq_true rfl)) dX7_error_10 ⟨Nat.le_trans (Nat.le_of_ble_eq_true rfl) hRc.1, Nat.le_trans (Nat.le_of_ble_eq_true rfl) hRc.2⟩) hD hS hA (fun H locs hP hD hS => ?_)
      refine lv_aload_n hx hb dX7_error_13 rfl (lv_at hl 0 rfl) ?_
      refine m_gr (C := RX7) (T := TX7) (n := 5) (ci := 5) hx hb hts in_RX7 hown hK hP (by decide) rfl rfl 2 (by decide) rfl lk_25 (fun _ h9 => h9) dX7_error_14 ?_
      refine lv_iload_n hx hb dX7_error_17 rfl (lv_at hl 1 rfl) ?_
      obtain ⟨b15, hg⟩ := ck_e hg hne
      obtain ⟨v16, hv16, hg⟩ := lt_e hg
      have h17 := ix_lt b15 hv16
      refine m_lq (k := 13) hx hb hK hP (by decide) rfl b15 dX7_error_18 ?_
      rw [← hv16]
      refine m_gr (C := RX5) (T := TX5) (n := 5) (ci := 3) hx hb hts in_RX5 hown hK hP (kC_v0 h17) (LC_VAR v16) rfl 3 (by decide) rfl lk_148 (fun _ h9 => h9) dX7_error_19 ?_
      refine m_gi (C := RX1) (T := TX1) (n := 5) (ci := 0) hx hb hts in_RX1 hown hK hP (kC_v (j := 3) h17 (by decide)) (LC_RDG v16) rfl 4 (by decide) rfl lk_152 (fun _ h9 => h9) dX7_error_22 ?_
      refine W.widen (k := 2) (n := 12) (by decide) (by decide) ?_
      exact hret _ _ _ _ _ _ hg dX7_error_25 hP hD hS
theorem ctX7_error (l : Launch) (hfl : l.stackTraces = false) (D : va_G) (sw : Sw) (cs : Cs) (ad : Nat → Nat) (X : va_W) (sz : Nat) (M : Mm) (a1 : Int32) {o : Int32 ⊕ Nat} {M1 : Mm} (hq : gX7_error M a1 = some (o, M1)) : vx_Met l yX7_error wsX7_error ({ frames := 406, cells := 2, slots := 12, locals := 9729 }) (va_Pc [.ref (ad 0), .int a1] (wPre D sw cs LC NC ad M X sz)) (tQi D cs LC NC ad M1 X sz o) (tX D cs LC NC ad M1 X sz o) 2 12 (wA NC ad X sz) :=
  met_t rfl rfl (Nat.le_of_ble_eq_true rfl) (fun p e s m args below meth c ls CX hr hlk hnx hK hSW hP hD hS hA hsz hl => bX7_error M a1 hq (by simp) CX ⟨Nat.le_refl _, Nat.le_refl _⟩ rfl hfl hlk hnx (fun k M9 t he hB hF => ⟨(), trivial, ⟨⟨k, (Prod.mk.inj (Option.some.inj he)).1.symm, rfl⟩, wpost hB rfl (Prod.mk.inj (Option.some.inj he)).2⟩, hF⟩) hK hSW hP hD hS hA ⟨Nat.le_refl _, Nat.le_refl _⟩ hl (fun pc ls H locs v M9 hv dg hP hD hS => vx_ret (W.iret CX.1 CX.2.1 hr (fun t ht hW => ⟨⟨v, (), rfl, (Prod.mk.inj (Option.some.inj hv)).1.symm, wpost hP ht (Prod.mk.inj (Option.some.inj hv)).2⟩, hS.F ht⟩) hS.2.2 dg)))

abbrev wsX7_wrong : List Cond := Cond.code yX7_wrong cX7_wrong 3 (some .int) :: WG
def gX7_wrong_L12 : Nat → Mm → Int32 → Int32 → Option ((Int32 ⊕ Nat) × Mm)
  | 0, _, _, _ => none
  | n12 + 1, M9, x10, x11 => if (16 : Int32) ≤ x11 then (some (.inl x10, M9)) else if (x11 < 0 ∨ 16 ≤ (x11).toNatClampNeg) then none else lt ((x11).toNatClampNeg) fun v15 => if (M9 (vb v15 + 3) 4) = (-1 : Int32) then (lt (x11 + (1 : Int32)) fun x18 => gX7_wrong_L12 n12 M9 x10 x18) else lt (x10 ||| ((1 : Int32) <<< (x11 &&& 31))) fun x19 => lt (x11 + (1 : Int32)) fun x20 => gX7_wrong_L12 n12 M9 x19 x20
def gX7_wrong (M : Mm) : Option ((Int32 ⊕ Nat) × Mm) := te (gX7_checkFinished M ) fun r6 M2 => bd (gX7_refresh M2 ) fun M8 => gX7_wrong_L12 FU M8 (0 : Int32) (0 : Int32)
set_option maxHeartbeats 4000000 in
set_option maxRecDepth 100000 in
theorem bX7_wrong {p : Program} {l : Launch} {e : Env} {R : Room} {s : State} {m : MethodId} {args : Array Value} {below : List Frame} {meth : Method} {c : Code} {H : Heap} {locs : List Loc} {Q : State → Prop} {D : va_G} {sw : Sw} {cs : Cs} {ad : Nat → Nat} {X : va_W} {A : Nat → Prop} {Qc : Array Value → State → Outcome → State → Prop} {XC : String → State → State → Prop} (M : Mm) {res : Option ((Int32 ⊕ Nat) × Mm)} (hg : gX7_wrong M = res) (hne : res ≠ none) (CX : CallFix p m c cX7_wrong 3 s args wsX7_wrong RX7) (hR : 406 ≤ R.frames ∧ 9729 ≤ R.locals) (hQ : Q = vx_MQ below Qc XC args s 1 6 A) (hfl : l.stackTraces = false) (hlk : meth.locks = false) (hnx : ∀ x ∈ c.exceptionTable.toList, False) (hXC : ∀ (k : Nat) (M9 : Mm) (t : State), some (.inr k, M9) = res → va_P D vwCl (wl cs LC NC ad M9 ++ X) t.heap → va_F A s t → XC (exn k) s t) (hK : va_K D vwCl (tysC cs) s) (hSW : SW sw A s s.heap) (hP : va_P D vwCl (wl cs LC NC ad M ++ X) H) (hD : va_D A (wl cs LC NC ad M ++ X)) (hS : va_S A s.heap H locs) (hA : ∀ q, s.heap.size ≤ q → A q) (hRc : 1 ≤ R.cells ∧ 6 ≤ R.slots) {ls : Array Slot} (hl : lv_has ls 3 [(0, .ref (ad 0))]) (hret : ∀ (pc : Nat) (ls : Array Slot) (H : Heap) (locs : List Loc) (v : Int32) (M9 : Mm), some (.inl v, M9) = res → decode cX7_wrong pc = .ok (.ireturn, 1) → va_P D vwCl (wl cs LC NC ad M9 ++ X) H → va_D A (wl cs LC NC ad M9 ++ X) → va_S A s.heap H locs → W p l e R s m args below meth c H locs 1 6 Q (F0 m pc ls [.int v])) : W p l e R s m args below meth c H locs 0 0 Q (F0 m 0 ls []) := by
  obtain ⟨hx, hb, hml, hown, hts⟩ := id CX
  have hw : ∀ w ∈ WG, w.before args s = true := fun w h => hts w (List.mem_cons_of_mem _ h)
  have lk_25 := hw _ m1_161
  have lk_148 := hw _ m1_145
  have lk_152 := hw _ m1_98
  unfold gX7_wrong at hg
  refine lv_aload_n hx hb dX7_wrong_0 rfl (lv_at hl 0 rfl) ?_
  obtain ⟨o1, M2, q3, k4, v5⟩ := te_e hg hne
  refine t_callv (vx_runV (As := []) (rest := []) CX (ctX7_checkFinished l hfl D sw cs ad X H.size M  q3) (cwV 0 hts (gwV m3_93 m3_95 mp2_13 m1_1 m3_96) rfl rfl rfl (by decide +kernel) ⟨Nat.le_trans (Nat.le_of_ble_eq_true rfl) hR.1, Nat.le_trans (Nat.le_of_ble_eq_true rfl) hR.2⟩) (wPreV hSW hS hA hK hP hD (by decide) rfl rfl _) rfl rfl hl.1 rfl (lv_room (Nat.le_of_ble_eq_true rfl)) dX7_wrong_1 ⟨Nat.le_trans (Nat.le_of_ble_eq_true rfl) hRc.1, Nat.le_trans (Nat.le_of_ble_eq_true rfl) hRc.2⟩) hD hS hA (fun k9 ho9 H locs ce9 q9 hP hD hS hce9 hcv9 hcl9 => ?_) (fun r6 ho9 H locs hP hD hS => ?_)
  · rw [hQ]
    exact vx_out (fun x9 h9 => (hnx x9 h9).elim) hlk hce9 hcv9 hcl9 (fun t9 ht9 ha9 => hXC k9 _ t9 (k4 k9 ho9) (by rw [ht9]; exact hP) (hS.F ht9)) hS.2.2 (by decide) (by decide)
  · have hg := v5 r6 ho9
    refine lv_aload_n hx hb dX7_wrong_4 rfl (lv_at hl 0 rfl) ?_
    obtain ⟨M8, q7, hg⟩ := bd_e hg hne
    refine w_callv (va_runV (As := []) (rest := []) CX (ctX7_refresh l D sw cs ad X H.size M2  q7) (cwV 0 hts (gwV m2_72 m2_74 mp1_3 m1_1 m2_75) rfl rfl rfl (by decide +kernel) ⟨Nat.le_trans (Nat.le_of_ble_eq_true rfl) hR.1, Nat.le_trans (Nat.le_of_ble_eq_true rfl) hR.2⟩) (wPreV hSW hS hA hK hP hD (by decide) rfl rfl _) rfl rfl hl.1 rfl (lv_room (Nat.le_of_ble_eq_true rfl)) dX7_wrong_5 ⟨Nat.le_trans (Nat.le_of_ble_eq_true rfl) hRc.1, Nat.le_trans (Nat.le_of_ble_eq_true rfl) hRc.2⟩) hD hS hA (fun H locs hP hD hS => ?_)
    refine lv_iconst (v := 0) hx hb dX7_wrong_8 (by decide) ?_
    refine lv_istore_n (lv' := [(1, .int (0 : Int32)), (0, .ref (ad 0))]) hx hb dX7_wrong_9 rfl hl (by decide) rfl (fun ls hl => ?_)
    refine lv_iconst (v := 0) hx hb dX7_wrong_10 (by decide) ?_
    refine lv_istore_n (lv' := [(2, .int (0 : Int32)), (1, .int (0 : Int32)), (0, .ref (ad 0))]) hx hb dX7_wrong_11 rfl hl (by decide) rfl (fun ls hl => ?_)
    have kL12_21 : ∀ (n12 : Nat) (M9 : Mm) (x10 : Int32) (x11 : Int32) (H : Heap) (locs : List Loc) (ls : Array Slot), va_P D vwCl (wl cs LC NC ad M9 ++ X) H → va_D A (wl cs LC NC ad M9 ++ X) → va_S A s.heap H locs → lv_has ls 3 [(0, .ref (ad 0)), (1, .int x10), (2, .int x11)] → gX7_wrong_L12 n12 M9 x10 x11 = res → W p l e R s m args below meth c H locs (0 + 1) (0 + 6) Q (F0 m 12 ls []) := by
      intro n12
      induction n12 with
      | zero =>
        intro M9 x10 x11 H locs ls hP hD hS hl hg
        rw [gX7_wrong_L12] at hg
        exact absurd hg.symm hne
      | succ n12 ih =>
        intro M9 x10 x11 H locs ls hP hD hS hl hg
        rw [gX7_wrong_L12] at hg
        refine lv_iload_n hx hb dX7_wrong_12 rfl (lv_at hl 2 rfl) ?_
        refine lv_bipush (v := 16) hx hb dX7_wrong_13 (by decide) ?_
        refine lv_icmp_ge (tgt := 46) hx hb dX7_wrong_15 (by decide) (fun c13 => ?_) (fun c13 => ?_)
        · have hg := if_t hg c13
          refine lv_iload_n hx hb dX7_wrong_46 rfl (lv_at hl 1 rfl) ?_
          refine W.widen (k := 1) (n := 6) (by decide) (by decide) ?_
          exact hret _ _ _ _ _ _ hg dX7_wrong_47 hP hD hS
        · have hg := if_f hg c13
          refine lv_aload_n hx hb dX7_wrong_18 rfl (lv_at hl 0 rfl) ?_
          refine m_gr (C := RX7) (T := TX7) (n := 5) (ci := 5) hx hb hts in_RX7 hown hK hP (by decide) rfl rfl 2 (by decide) rfl lk_25 (fun _ h9 => h9) dX7_wrong_19 ?_
          refine lv_iload_n hx hb dX7_wrong_22 rfl (lv_at hl 2 rfl) ?_
          obtain ⟨b14, hg⟩ := ck_e hg hne
          obtain ⟨v15, hv15, hg⟩ := lt_e hg
          have h16 := ix_lt b14 hv15
          refine m_lq (k := 13) hx hb hK hP (by decide) rfl b14 dX7_wrong_23 ?_
          rw [← hv15]
          refine m_gr (C := RX5) (T := TX5) (n := 5) (ci := 3) hx hb hts in_RX5 hown hK hP (kC_v0 h16) (LC_VAR v15) rfl 3 (by decide) rfl lk_148 (fun _ h9 => h9) dX7_wrong_24 ?_
          refine m_gi (C := RX1) (T := TX1) (n := 5) (ci := 0) hx hb hts in_RX1 hown hK hP (kC_v (j := 3) h16 (by decide)) (LC_RDG v15) rfl 4 (by decide) rfl lk_152 (fun _ h9 => h9) dX7_wrong_27 ?_
          refine lv_iconst (v := -1) hx hb dX7_wrong_30 (by decide) ?_
          refine lv_icmp_eq (tgt := 40) hx hb dX7_wrong_31 (by decide) (fun c17 => ?_) (fun c17 => ?_)
          · have hg := if_t hg c17
            obtain ⟨x18, hx18, hg⟩ := lt_e hg
            refine lv_iinc (v := x18) (lv' := [(2, .int x18), (0, .ref (ad 0)), (1, .int x10)]) hx hb dX7_wrong_40 hl (k := 2) rfl (hx18.symm) (by decide) rfl (fun ls hl => ?_)
            refine lv_goto (tgt := 12) hx hb dX7_wrong_43 (by decide) ?_
            exact ih _ _ _ _ _ _ hP hD hS (lv_sub hl [1, 2, 0] rfl) hg
          · have hg := if_f hg c17
            refine lv_iload_n hx hb dX7_wrong_34 rfl (lv_at hl 1 rfl) ?_
            refine lv_iconst (v := 1) hx hb dX7_wrong_35 (by decide) ?_
            refine lv_iload_n hx hb dX7_wrong_36 rfl (lv_at hl 2 rfl) ?_
            refine lv_ishl hx hb dX7_wrong_37 ?_
            refine lv_ior hx hb dX7_wrong_38 ?_
            obtain ⟨x19, hx19, hg⟩ := lt_e hg
            refine top_i hx19 ?_
            refine lv_istore_n (lv' := [(1, .int x19), (0, .ref (ad 0)), (2, .int x11)]) hx hb dX7_wrong_39 rfl hl (by decide) rfl (fun ls hl => ?_)
            obtain ⟨x20, hx20, hg⟩ := lt_e hg
            refine lv_iinc (v := x20) (lv' := [(2, .int x20), (1, .int x19), (0, .ref (ad 0))]) hx hb dX7_wrong_40 hl (k := 2) rfl (hx20.symm) (by decide) rfl (fun ls hl => ?_)
            refine lv_goto (tgt := 12) hx hb dX7_wrong_43 (by decide) ?_
            exact ih _ _ _ _ _ _ hP hD hS (lv_sub hl [2, 1, 0] rfl) hg
    exact kL12_21 FU _ _ _ _ _ _ hP hD hS (lv_sub hl [2, 1, 0] rfl) hg
theorem ctX7_wrong (l : Launch) (hfl : l.stackTraces = false) (D : va_G) (sw : Sw) (cs : Cs) (ad : Nat → Nat) (X : va_W) (sz : Nat) (M : Mm) {o : Int32 ⊕ Nat} {M1 : Mm} (hq : gX7_wrong M = some (o, M1)) : vx_Met l yX7_wrong wsX7_wrong ({ frames := 406, cells := 1, slots := 6, locals := 9729 }) (va_Pc [.ref (ad 0)] (wPre D sw cs LC NC ad M X sz)) (tQi D cs LC NC ad M1 X sz o) (tX D cs LC NC ad M1 X sz o) 1 6 (wA NC ad X sz) :=
  met_t rfl rfl (Nat.le_of_ble_eq_true rfl) (fun p e s m args below meth c ls CX hr hlk hnx hK hSW hP hD hS hA hsz hl => bX7_wrong M hq (by simp) CX ⟨Nat.le_refl _, Nat.le_refl _⟩ rfl hfl hlk hnx (fun k M9 t he hB hF => ⟨(), trivial, ⟨⟨k, (Prod.mk.inj (Option.some.inj he)).1.symm, rfl⟩, wpost hB rfl (Prod.mk.inj (Option.some.inj he)).2⟩, hF⟩) hK hSW hP hD hS hA ⟨Nat.le_refl _, Nat.le_refl _⟩ hl (fun pc ls H locs v M9 hv dg hP hD hS => vx_ret (W.iret CX.1 CX.2.1 hr (fun t ht hW => ⟨⟨v, (), rfl, (Prod.mk.inj (Option.some.inj hv)).1.symm, wpost hP ht (Prod.mk.inj (Option.some.inj hv)).2⟩, hS.F ht⟩) hS.2.2 dg)))

abbrev wsX7_groups : List Cond := Cond.code yX7_groups cX7_groups 2 (some .int) :: WG
def gX7_groups (M : Mm) (a1 : Int32) : Option ((Int32 ⊕ Nat) × Mm) := te (gX7_checkItem M a1) fun r6 M2 => te (gX7_checkFinished M2 ) fun r12 M8 => bd (gX7_refresh M8 ) fun M14 => if (a1 < 0 ∨ 80 ≤ (a1).toNatClampNeg) then none else some (.inl (M14 14 (a1).toNatClampNeg), M14)
set_option maxHeartbeats 4000000 in
set_option maxRecDepth 100000 in
theorem bX7_groups {p : Program} {l : Launch} {e : Env} {R : Room} {s : State} {m : MethodId} {args : Array Value} {below : List Frame} {meth : Method} {c : Code} {H : Heap} {locs : List Loc} {Q : State → Prop} {D : va_G} {sw : Sw} {cs : Cs} {ad : Nat → Nat} {X : va_W} {A : Nat → Prop} {Qc : Array Value → State → Outcome → State → Prop} {XC : String → State → State → Prop} (M : Mm) (a1 : Int32) {res : Option ((Int32 ⊕ Nat) × Mm)} (hg : gX7_groups M a1 = res) (hne : res ≠ none) (CX : CallFix p m c cX7_groups 2 s args wsX7_groups RX7) (hR : 406 ≤ R.frames ∧ 9729 ≤ R.locals) (hQ : Q = vx_MQ below Qc XC args s 2 12 A) (hfl : l.stackTraces = false) (hlk : meth.locks = false) (hnx : ∀ x ∈ c.exceptionTable.toList, False) (hXC : ∀ (k : Nat) (M9 : Mm) (t : State), some (.inr k, M9) = res → va_P D vwCl (wl cs LC NC ad M9 ++ X) t.heap → va_F A s t → XC (exn k) s t) (hK : va_K D vwCl (tysC cs) s) (hSW : SW sw A s s.heap) (hP : va_P D vwCl (wl cs LC NC ad M ++ X) H) (hD : va_D A (wl cs LC NC ad M ++ X)) (hS : va_S A s.heap H locs) (hA : ∀ q, s.heap.size ≤ q → A q) (hRc : 2 ≤ R.cells ∧ 12 ≤ R.slots) {ls : Array Slot} (hl : lv_has ls 2 [(0, .ref (ad 0)), (1, .int a1)]) (hret : ∀ (pc : Nat) (ls : Array Slot) (H : Heap) (locs : List Loc) (v : Int32) (M9 : Mm), some (.inl v, M9) = res → decode cX7_groups pc = .ok (.ireturn, 1) → va_P D vwCl (wl cs LC NC ad M9 ++ X) H → va_D A (wl cs LC NC ad M9 ++ X) → va_S A s.heap H locs → W p l e R s m args below meth c H locs 2 12 Q (F0 m pc ls [.int v])) : W p l e R s m args below meth c H locs 0 0 Q (F0 m 0 ls []) := by
  obtain ⟨hx, hb, hml, hown, hts⟩ := id CX
  have hw : ∀ w ∈ WG, w.before args s = true := fun w h => hts w (List.mem_cons_of_mem _ h)
  have lk_30 := hw _ m1_162
  unfold gX7_groups at hg
  refine lv_aload_n hx hb dX7_groups_0 rfl (lv_at hl 0 rfl) ?_
  refine lv_iload_n hx hb dX7_groups_1 rfl (lv_at hl 1 rfl) ?_
  obtain ⟨o1, M2, q3, k4, v5⟩ := te_e hg hne
  refine t_callv (vx_runV (As := [.int a1]) (rest := []) CX (ctX7_checkItem l hfl D sw cs ad X H.size M a1 q3) (cwV 1 hts (gwV m2_48 m2_50 mp1_2 m1_1 m2_51) rfl rfl rfl (by decide +kernel) ⟨Nat.le_trans (Nat.le_of_ble_eq_true rfl) hR.1, Nat.le_trans (Nat.le_of_ble_eq_true rfl) hR.2⟩) (wPreV hSW hS hA hK hP hD (by decide) rfl rfl _) rfl rfl hl.1 rfl (lv_room (Nat.le_of_ble_eq_true rfl)) dX7_groups_2 ⟨Nat.le_trans (Nat.le_of_ble_eq_true rfl) hRc.1, Nat.le_trans (Nat.le_of_ble_eq_true rfl) hRc.2⟩) hD hS hA (fun k9 ho9 H locs ce9 q9 hP hD hS hce9 hcv9 hcl9 => ?_) (fun r6 ho9 H locs hP hD hS => ?_)
  · rw [hQ]
    exact vx_out (fun x9 h9 => (hnx x9 h9).elim) hlk hce9 hcv9 hcl9 (fun t9 ht9 ha9 => hXC k9 _ t9 (k4 k9 ho9) (by rw [ht9]; exact hP) (hS.F ht9)) hS.2.2 (by decide) (by decide)
  · have hg := v5 r6 ho9
    refine lv_aload_n hx hb dX7_groups_5 rfl (lv_at hl 0 rfl) ?_
    obtain ⟨o7, M8, q9, k10, v11⟩ := te_e hg hne
    refine t_callv (vx_runV (As := []) (rest := []) CX (ctX7_checkFinished l hfl D sw cs ad X H.size M2  q9) (cwV 0 hts (gwV m3_93 m3_95 mp2_13 m1_1 m3_96) rfl rfl rfl (by decide +kernel) ⟨Nat.le_trans (Nat.le_of_ble_eq_true rfl) hR.1, Nat.le_trans (Nat.le_of_ble_eq_true rfl) hR.2⟩) (wPreV hSW hS hA hK hP hD (by decide) rfl rfl _) rfl rfl hl.1 rfl (lv_room (Nat.le_of_ble_eq_true rfl)) dX7_groups_6 ⟨Nat.le_trans (Nat.le_of_ble_eq_true rfl) hRc.1, Nat.le_trans (Nat.le_of_ble_eq_true rfl) hRc.2⟩) hD hS hA (fun k9 ho9 H locs ce9 q9 hP hD hS hce9 hcv9 hcl9 => ?_) (fun r12 ho9 H locs hP hD hS => ?_)
    · rw [hQ]
      exact vx_out (fun x9 h9 => (hnx x9 h9).elim) hlk hce9 hcv9 hcl9 (fun t9 ht9 ha9 => hXC k9 _ t9 (k10 k9 ho9) (by rw [ht9]; exact hP) (hS.F ht9)) hS.2.2 (by decide) (by decide)
    · have hg := v11 r12 ho9
      refine lv_aload_n hx hb dX7_groups_9 rfl (lv_at hl 0 rfl) ?_
      obtain ⟨M14, q13, hg⟩ := bd_e hg hne
      refine w_callv (va_runV (As := []) (rest := []) CX (ctX7_refresh l D sw cs ad X H.size M8  q13) (cwV 0 hts (gwV m2_72 m2_74 mp1_3 m1_1 m2_75) rfl rfl rfl (by decide +kernel) ⟨Nat.le_trans (Nat.le_of_ble_eq_true rfl) hR.1, Nat.le_trans (Nat.le_of_ble_eq_true rfl) hR.2⟩) (wPreV hSW hS hA hK hP hD (by decide) rfl rfl _) rfl rfl hl.1 rfl (lv_room (Nat.le_of_ble_eq_true rfl)) dX7_groups_10 ⟨Nat.le_trans (Nat.le_of_ble_eq_true rfl) hRc.1, Nat.le_trans (Nat.le_of_ble_eq_true rfl) hRc.2⟩) hD hS hA (fun H locs hP hD hS => ?_)
      refine lv_aload_n hx hb dX7_groups_13 rfl (lv_at hl 0 rfl) ?_
      refine m_gr (C := RX7) (T := TX7) (n := 5) (ci := 5) hx hb hts in_RX7 hown hK hP (by decide) rfl rfl 3 (by decide) rfl lk_30 (fun _ h9 => h9) dX7_groups_14 ?_
      refine lv_iload_n hx hb dX7_groups_17 rfl (lv_at hl 1 rfl) ?_
      obtain ⟨b15, hg⟩ := ck_e hg hne
      refine m_ld hx hb hK hP (by decide) rfl b15 dX7_groups_18 ?_
      refine W.widen (k := 2) (n := 12) (by decide) (by decide) ?_
      exact hret _ _ _ _ _ _ hg dX7_groups_19 hP hD hS
theorem ctX7_groups (l : Launch) (hfl : l.stackTraces = false) (D : va_G) (sw : Sw) (cs : Cs) (ad : Nat → Nat) (X : va_W) (sz : Nat) (M : Mm) (a1 : Int32) {o : Int32 ⊕ Nat} {M1 : Mm} (hq : gX7_groups M a1 = some (o, M1)) : vx_Met l yX7_groups wsX7_groups ({ frames := 406, cells := 2, slots := 12, locals := 9729 }) (va_Pc [.ref (ad 0), .int a1] (wPre D sw cs LC NC ad M X sz)) (tQi D cs LC NC ad M1 X sz o) (tX D cs LC NC ad M1 X sz o) 2 12 (wA NC ad X sz) :=
  met_t rfl rfl (Nat.le_of_ble_eq_true rfl) (fun p e s m args below meth c ls CX hr hlk hnx hK hSW hP hD hS hA hsz hl => bX7_groups M a1 hq (by simp) CX ⟨Nat.le_refl _, Nat.le_refl _⟩ rfl hfl hlk hnx (fun k M9 t he hB hF => ⟨(), trivial, ⟨⟨k, (Prod.mk.inj (Option.some.inj he)).1.symm, rfl⟩, wpost hB rfl (Prod.mk.inj (Option.some.inj he)).2⟩, hF⟩) hK hSW hP hD hS hA ⟨Nat.le_refl _, Nat.le_refl _⟩ hl (fun pc ls H locs v M9 hv dg hP hD hS => vx_ret (W.iret CX.1 CX.2.1 hr (fun t ht hW => ⟨⟨v, (), rfl, (Prod.mk.inj (Option.some.inj hv)).1.symm, wpost hP ht (Prod.mk.inj (Option.some.inj hv)).2⟩, hS.F ht⟩) hS.2.2 dg)))

abbrev wsX7_stack : List Cond := Cond.code yX7_stack cX7_stack 3 (some .int) :: WG
def gX7_stack (M : Mm) (a1 : Int32) (a2 : Int32) : Option ((Int32 ⊕ Nat) × Mm) := te (gX7_checkConfiguration M a1) fun r6 M2 => bd (gX7_refresh M2 ) fun M8 => te (gX7_checkIndex M8 a1 a2) fun r14 M10 => te (gX7_checkFinished M10 ) fun r20 M16 => if (a1 < 0 ∨ 16 ≤ (a1).toNatClampNeg) then none else lt ((a1).toNatClampNeg) fun v22 => bd (gX1_heightAhead M16 v22 a2) fun r24 => some (.inl r24, M16)
set_option maxHeartbeats 4000000 in
set_option maxRecDepth 100000 in
theorem bX7_stack {p : Program} {l : Launch} {e : Env} {R : Room} {s : State} {m : MethodId} {args : Array Value} {below : List Frame} {meth : Method} {c : Code} {H : Heap} {locs : List Loc} {Q : State → Prop} {D : va_G} {sw : Sw} {cs : Cs} {ad : Nat → Nat} {X : va_W} {A : Nat → Prop} {Qc : Array Value → State → Outcome → State → Prop} {XC : String → State → State → Prop} (M : Mm) (a1 : Int32) (a2 : Int32) {res : Option ((Int32 ⊕ Nat) × Mm)} (hg : gX7_stack M a1 a2 = res) (hne : res ≠ none) (CX : CallFix p m c cX7_stack 3 s args wsX7_stack RX7) (hR : 406 ≤ R.frames ∧ 9729 ≤ R.locals) (hQ : Q = vx_MQ below Qc XC args s 3 18 A) (hfl : l.stackTraces = false) (hlk : meth.locks = false) (hnx : ∀ x ∈ c.exceptionTable.toList, False) (hXC : ∀ (k : Nat) (M9 : Mm) (t : State), some (.inr k, M9) = res → va_P D vwCl (wl cs LC NC ad M9 ++ X) t.heap → va_F A s t → XC (exn k) s t) (hK : va_K D vwCl (tysC cs) s) (hSW : SW sw A s s.heap) (hP : va_P D vwCl (wl cs LC NC ad M ++ X) H) (hD : va_D A (wl cs LC NC ad M ++ X)) (hS : va_S A s.heap H locs) (hA : ∀ q, s.heap.size ≤ q → A q) (hRc : 3 ≤ R.cells ∧ 18 ≤ R.slots) {ls : Array Slot} (hl : lv_has ls 3 [(0, .ref (ad 0)), (1, .int a1), (2, .int a2)]) (hret : ∀ (pc : Nat) (ls : Array Slot) (H : Heap) (locs : List Loc) (v : Int32) (M9 : Mm), some (.inl v, M9) = res → decode cX7_stack pc = .ok (.ireturn, 1) → va_P D vwCl (wl cs LC NC ad M9 ++ X) H → va_D A (wl cs LC NC ad M9 ++ X) → va_S A s.heap H locs → W p l e R s m args below meth c H locs 3 18 Q (F0 m pc ls [.int v])) : W p l e R s m args below meth c H locs 0 0 Q (F0 m 0 ls []) := by
  obtain ⟨hx, hb, hml, hown, hts⟩ := id CX
  have hw : ∀ w ∈ WG, w.before args s = true := fun w h => hts w (List.mem_cons_of_mem _ h)
  have lk_25 := hw _ m1_161
  have lk_148 := hw _ m1_145
  unfold gX7_stack at hg
  refine lv_aload_n hx hb dX7_stack_0 rfl (lv_at hl 0 rfl) ?_
  refine lv_iload_n hx hb dX7_stack_1 rfl (lv_at hl 1 rfl) ?_
  obtain ⟨o1, M2, q3, k4, v5⟩ := te_e hg hne
  refine t_callv (vx_runV (As := [.int a1]) (rest := []) CX (ctX7_checkConfiguration l hfl D sw cs ad X H.size M a1 q3) (cwV 1 hts (gwV m3_62 m3_64 mp2_10 m1_1 m3_65) rfl rfl rfl (by decide +kernel) ⟨Nat.le_trans (Nat.le_of_ble_eq_true rfl) hR.1, Nat.le_trans (Nat.le_of_ble_eq_true rfl) hR.2⟩) (wPreV hSW hS hA hK hP hD (by decide) rfl rfl _) rfl rfl hl.1 rfl (lv_room (Nat.le_of_ble_eq_true rfl)) dX7_stack_2 ⟨Nat.le_trans (Nat.le_of_ble_eq_true rfl) hRc.1, Nat.le_trans (Nat.le_of_ble_eq_true rfl) hRc.2⟩) hD hS hA (fun k9 ho9 H locs ce9 q9 hP hD hS hce9 hcv9 hcl9 => ?_) (fun r6 ho9 H locs hP hD hS => ?_)
  · rw [hQ]
    exact vx_out (fun x9 h9 => (hnx x9 h9).elim) hlk hce9 hcv9 hcl9 (fun t9 ht9 ha9 => hXC k9 _ t9 (k4 k9 ho9) (by rw [ht9]; exact hP) (hS.F ht9)) hS.2.2 (by decide) (by decide)
  · have hg := v5 r6 ho9
    refine lv_aload_n hx hb dX7_stack_5 rfl (lv_at hl 0 rfl) ?_
    obtain ⟨M8, q7, hg⟩ := bd_e hg hne
    refine w_callv (va_runV (As := []) (rest := []) CX (ctX7_refresh l D sw cs ad X H.size M2  q7) (cwV 0 hts (gwV m2_72 m2_74 mp1_3 m1_1 m2_75) rfl rfl rfl (by decide +kernel) ⟨Nat.le_trans (Nat.le_of_ble_eq_true rfl) hR.1, Nat.le_trans (Nat.le_of_ble_eq_true rfl) hR.2⟩) (wPreV hSW hS hA hK hP hD (by decide) rfl rfl _) rfl rfl hl.1 rfl (lv_room (Nat.le_of_ble_eq_true rfl)) dX7_stack_6 ⟨Nat.le_trans (Nat.le_of_ble_eq_true rfl) hRc.1, Nat.le_trans (Nat.le_of_ble_eq_true rfl) hRc.2⟩) hD hS hA (fun H locs hP hD hS => ?_)
    refine lv_aload_n hx hb dX7_stack_9 rfl (lv_at hl 0 rfl) ?_
    refine lv_iload_n hx hb dX7_stack_10 rfl (lv_at hl 1 rfl) ?_
    refine lv_iload_n hx hb dX7_stack_11 rfl (lv_at hl 2 rfl) ?_
    obtain ⟨o9, M10, q11, k12, v13⟩ := te_e hg hne
    refine t_callv (vx_runV (As := [.int a1, .int a2]) (rest := []) CX (ctX7_checkIndex l hfl D sw cs ad X H.size M8 a1 a2 q11) (cwV 2 hts (gwV m3_71 m3_73 mp2_11 m1_1 m3_74) rfl rfl rfl (by decide +kernel) ⟨Nat.le_trans (Nat.le_of_ble_eq_true rfl) hR.1, Nat.le_trans (Nat.le_of_ble_eq_true rfl) hR.2⟩) (wPreV hSW hS hA hK hP hD (by decide) rfl rfl _) rfl rfl hl.1 rfl (lv_room (Nat.le_of_ble_eq_true rfl)) dX7_stack_12 ⟨Nat.le_trans (Nat.le_of_ble_eq_true rfl) hRc.1, Nat.le_trans (Nat.le_of_ble_eq_true rfl) hRc.2⟩) hD hS hA (fun k9 ho9 H locs ce9 q9 hP hD hS hce9 hcv9 hcl9 => ?_) (fun r14 ho9 H locs hP hD hS => ?_)
    · rw [hQ]
      exact vx_out (fun x9 h9 => (hnx x9 h9).elim) hlk hce9 hcv9 hcl9 (fun t9 ht9 ha9 => hXC k9 _ t9 (k12 k9 ho9) (by rw [ht9]; exact hP) (hS.F ht9)) hS.2.2 (by decide) (by decide)
    · have hg := v13 r14 ho9
      refine lv_aload_n hx hb dX7_stack_15 rfl (lv_at hl 0 rfl) ?_
      obtain ⟨o15, M16, q17, k18, v19⟩ := te_e hg hne
      refine t_callv (vx_runV (As := []) (rest := []) CX (ctX7_checkFinished l hfl D sw cs ad X H.size M10  q17) (cwV 0 hts (gwV m3_93 m3_95 mp2_13 m1_1 m3_96) rfl rfl rfl (by decide +kernel) ⟨Nat.le_trans (Nat.le_of_ble_eq_true rfl) hR.1, Nat.le_trans (Nat.le_of_ble_eq_true rfl) hR.2⟩) (wPreV hSW hS hA hK hP hD (by decide) rfl rfl _) rfl rfl hl.1 rfl (lv_room (Nat.le_of_ble_eq_true rfl)) dX7_stack_16 ⟨Nat.le_trans (Nat.le_of_ble_eq_true rfl) hRc.1, Nat.le_trans (Nat.le_of_ble_eq_true rfl) hRc.2⟩) hD hS hA (fun k9 ho9 H locs ce9 q9 hP hD hS hce9 hcv9 hcl9 => ?_) (fun r20 ho9 H locs hP hD hS => ?_)
      · rw [hQ]
        exact vx_out (fun x9 h9 => (hnx x9 h9).elim) hlk hce9 hcv9 hcl9 (fun t9 ht9 ha9 => hXC k9 _ t9 (k18 k9 ho9) (by rw [ht9]; exact hP) (hS.F ht9)) hS.2.2 (by decide) (by decide)
      · have hg := v19 r20 ho9
        refine lv_aload_n hx hb dX7_stack_19 rfl (lv_at hl 0 rfl) ?_
        refine m_gr (C := RX7) (T := TX7) (n := 5) (ci := 5) hx hb hts in_RX7 hown hK hP (by decide) rfl rfl 2 (by decide) rfl lk_25 (fun _ h9 => h9) dX7_stack_20 ?_
        refine lv_iload_n hx hb dX7_stack_23 rfl (lv_at hl 1 rfl) ?_
        obtain ⟨b21, hg⟩ := ck_e hg hne
        obtain ⟨v22, hv22, hg⟩ := lt_e hg
        have h23 := ix_lt b21 hv22
        refine m_lq (k := 13) hx hb hK hP (by decide) rfl b21 dX7_stack_24 ?_
        rw [← hv22]
        refine m_gr (C := RX5) (T := TX5) (n := 5) (ci := 3) hx hb hts in_RX5 hown hK hP (kC_v0 h23) (LC_VAR v22) rfl 3 (by decide) rfl lk_148 (fun _ h9 => h9) dX7_stack_25 ?_
        refine lv_iload_n hx hb dX7_stack_28 rfl (lv_at hl 2 rfl) ?_
        obtain ⟨r24, q25, hg⟩ := bd_e hg hne
        refine r_calli (W.runV (As := [.int a2]) (rest := []) CX (ctX1_heightAhead l D sw cs ad X M16 v22 h23 a2 q25) (cwV 1 hts (gwV m3_118 m3_119 m3_120 m1_5 m3_121) rfl rfl rfl (by decide +kernel) ⟨Nat.le_trans (Nat.le_of_ble_eq_true rfl) hR.1, Nat.le_trans (Nat.le_of_ble_eq_true rfl) hR.2⟩) (rPreV (hSW.wr hS) hK hP (kC_v (j := 3) h23 (by decide)) (LC_RDG v22) rfl _) rfl rfl hl.1 rfl (lv_room (Nat.le_of_ble_eq_true rfl)) dX7_stack_29 ⟨Nat.le_trans (Nat.le_of_ble_eq_true rfl) hRc.1, Nat.le_trans (Nat.le_of_ble_eq_true rfl) hRc.2⟩) ?_
        refine W.widen (k := 3) (n := 18) (by decide) (by decide) ?_
        exact hret _ _ _ _ _ _ hg dX7_stack_32 hP hD hS
theorem ctX7_stack (l : Launch) (hfl : l.stackTraces = false) (D : va_G) (sw : Sw) (cs : Cs) (ad : Nat → Nat) (X : va_W) (sz : Nat) (M : Mm) (a1 : Int32) (a2 : Int32) {o : Int32 ⊕ Nat} {M1 : Mm} (hq : gX7_stack M a1 a2 = some (o, M1)) : vx_Met l yX7_stack wsX7_stack ({ frames := 406, cells := 3, slots := 18, locals := 9729 }) (va_Pc [.ref (ad 0), .int a1, .int a2] (wPre D sw cs LC NC ad M X sz)) (tQi D cs LC NC ad M1 X sz o) (tX D cs LC NC ad M1 X sz o) 3 18 (wA NC ad X sz) :=
  met_t rfl rfl (Nat.le_of_ble_eq_true rfl) (fun p e s m args below meth c ls CX hr hlk hnx hK hSW hP hD hS hA hsz hl => bX7_stack M a1 a2 hq (by simp) CX ⟨Nat.le_refl _, Nat.le_refl _⟩ rfl hfl hlk hnx (fun k M9 t he hB hF => ⟨(), trivial, ⟨⟨k, (Prod.mk.inj (Option.some.inj he)).1.symm, rfl⟩, wpost hB rfl (Prod.mk.inj (Option.some.inj he)).2⟩, hF⟩) hK hSW hP hD hS hA ⟨Nat.le_refl _, Nat.le_refl _⟩ hl (fun pc ls H locs v M9 hv dg hP hD hS => vx_ret (W.iret CX.1 CX.2.1 hr (fun t ht hW => ⟨⟨v, (), rfl, (Prod.mk.inj (Option.some.inj hv)).1.symm, wpost hP ht (Prod.mk.inj (Option.some.inj hv)).2⟩, hS.F ht⟩) hS.2.2 dg)))

abbrev wsX7_behaviours : List Cond := Cond.code yX7_behaviours cX7_behaviours 3 (some .int) :: WG
def gX7_behaviours_L12 : Nat → Mm → Int32 → Int32 → Option ((Int32 ⊕ Nat) × Mm)
  | 0, _, _, _ => none
  | n12 + 1, M9, x10, x11 => if (16 : Int32) ≤ x11 then (some (.inl x10, M9)) else if (x11 < 0 ∨ 16 ≤ (x11).toNatClampNeg) then none else lt ((x11).toNatClampNeg) fun v15 => if (M9 (vb v15 + 3) 4) = (-1 : Int32) then (bd (gX7_isFirstOfItsBehaviour M9 x11) fun r19 => if r19 = 0 then (lt (x11 + (1 : Int32)) fun x22 => gX7_behaviours_L12 n12 M9 x10 x22) else lt (x10 + (1 : Int32)) fun x23 => lt (x11 + (1 : Int32)) fun x24 => gX7_behaviours_L12 n12 M9 x23 x24) else lt (x11 + (1 : Int32)) fun x18 => gX7_behaviours_L12 n12 M9 x10 x18
def gX7_behaviours (M : Mm) : Option ((Int32 ⊕ Nat) × Mm) := te (gX7_checkFinished M ) fun r6 M2 => bd (gX7_refresh M2 ) fun M8 => gX7_behaviours_L12 FU M8 (0 : Int32) (0 : Int32)
set_option maxHeartbeats 4000000 in
set_option maxRecDepth 100000 in
theorem bX7_behaviours {p : Program} {l : Launch} {e : Env} {R : Room} {s : State} {m : MethodId} {args : Array Value} {below : List Frame} {meth : Method} {c : Code} {H : Heap} {locs : List Loc} {Q : State → Prop} {D : va_G} {sw : Sw} {cs : Cs} {ad : Nat → Nat} {X : va_W} {A : Nat → Prop} {Qc : Array Value → State → Outcome → State → Prop} {XC : String → State → State → Prop} (M : Mm) {res : Option ((Int32 ⊕ Nat) × Mm)} (hg : gX7_behaviours M = res) (hne : res ≠ none) (CX : CallFix p m c cX7_behaviours 3 s args wsX7_behaviours RX7) (hR : 406 ≤ R.frames ∧ 9729 ≤ R.locals) (hQ : Q = vx_MQ below Qc XC args s 1 6 A) (hfl : l.stackTraces = false) (hlk : meth.locks = false) (hnx : ∀ x ∈ c.exceptionTable.toList, False) (hXC : ∀ (k : Nat) (M9 : Mm) (t : State), some (.inr k, M9) = res → va_P D vwCl (wl cs LC NC ad M9 ++ X) t.heap → va_F A s t → XC (exn k) s t) (hK : va_K D vwCl (tysC cs) s) (hSW : SW sw A s s.heap) (hP : va_P D vwCl (wl cs LC NC ad M ++ X) H) (hD : va_D A (wl cs LC NC ad M ++ X)) (hS : va_S A s.heap H locs) (hA : ∀ q, s.heap.size ≤ q → A q) (hRc : 1 ≤ R.cells ∧ 6 ≤ R.slots) {ls : Array Slot} (hl : lv_has ls 3 [(0, .ref (ad 0))]) (hret : ∀ (pc : Nat) (ls : Array Slot) (H : Heap) (locs : List Loc) (v : Int32) (M9 : Mm), some (.inl v, M9) = res → decode cX7_behaviours pc = .ok (.ireturn, 1) → va_P D vwCl (wl cs LC NC ad M9 ++ X) H → va_D A (wl cs LC NC ad M9 ++ X) → va_S A s.heap H locs → W p l e R s m args below meth c H locs 1 6 Q (F0 m pc ls [.int v])) : W p l e R s m args below meth c H locs 0 0 Q (F0 m 0 ls []) := by
  obtain ⟨hx, hb, hml, hown, hts⟩ := id CX
  have hw : ∀ w ∈ WG, w.before args s = true := fun w h => hts w (List.mem_cons_of_mem _ h)
  have lk_25 := hw _ m1_161
  have lk_148 := hw _ m1_145
  have lk_152 := hw _ m1_98
  unfold gX7_behaviours at hg
  refine lv_aload_n hx hb dX7_behaviours_0 rfl (lv_at hl 0 rfl) ?_
  obtain ⟨o1, M2, q3, k4, v5⟩ := te_e hg hne
  refine t_callv (vx_runV (As := []) (rest := []) CX (ctX7_checkFinished l hfl D sw cs ad X H.size M  q3) (cwV 0 hts (gwV m3_93 m3_95 mp2_13 m1_1 m3_96) rfl rfl rfl (by decide +kernel) ⟨Nat.le_trans (Nat.le_of_ble_eq_true rfl) hR.1, Nat.le_trans (Nat.le_of_ble_eq_true rfl) hR.2⟩) (wPreV hSW hS hA hK hP hD (by decide) rfl rfl _) rfl rfl hl.1 rfl (lv_room (Nat.le_of_ble_eq_true rfl)) dX7_behaviours_1 ⟨Nat.le_trans (Nat.le_of_ble_eq_true rfl) hRc.1, Nat.le_trans (Nat.le_of_ble_eq_true rfl) hRc.2⟩) hD hS hA (fun k9 ho9 H locs ce9 q9 hP hD hS hce9 hcv9 hcl9 => ?_) (fun r6 ho9 H locs hP hD hS => ?_)
  · rw [hQ]
    exact vx_out (fun x9 h9 => (hnx x9 h9).elim) hlk hce9 hcv9 hcl9 (fun t9 ht9 ha9 => hXC k9 _ t9 (k4 k9 ho9) (by rw [ht9]; exact hP) (hS.F ht9)) hS.2.2 (by decide) (by decide)
  · have hg := v5 r6 ho9
    refine lv_aload_n hx hb dX7_behaviours_4 rfl (lv_at hl 0 rfl) ?_
    obtain ⟨M8, q7, hg⟩ := bd_e hg hne
    refine w_callv (va_runV (As := []) (rest := []) CX (ctX7_refresh l D sw cs ad X H.size M2  q7) (cwV 0 hts (gwV m2_72 m2_74 mp1_3 m1_1 m2_75) rfl rfl rfl (by decide +kernel) ⟨Nat.le_trans (Nat.le_of_ble_eq_true rfl) hR.1, Nat.le_trans (Nat.le_of_ble_eq_true rfl) hR.2⟩) (wPreV hSW hS hA hK hP hD (by decide) rfl rfl _) rfl rfl hl.1 rfl (lv_room (Nat.le_of_ble_eq_true rfl)) dX7_behaviours_5 ⟨Nat.le_trans (Nat.le_of_ble_eq_true rfl) hRc.1, Nat.le_trans (Nat.le_of_ble_eq_true rfl) hRc.2⟩) hD hS hA (fun H locs hP hD hS => ?_)
    refine lv_iconst (v := 0) hx hb dX7_behaviours_8 (by decide) ?_
    refine lv_istore_n (lv' := [(1, .int (0 : Int32)), (0, .ref (ad 0))]) hx hb dX7_behaviours_9 rfl hl (by decide) rfl (fun ls hl => ?_)
    refine lv_iconst (v := 0) hx hb dX7_behaviours_10 (by decide) ?_
    refine lv_istore_n (lv' := [(2, .int (0 : Int32)), (1, .int (0 : Int32)), (0, .ref (ad 0))]) hx hb dX7_behaviours_11 rfl hl (by decide) rfl (fun ls hl => ?_)
    have kL12_25 : ∀ (n12 : Nat) (M9 : Mm) (x10 : Int32) (x11 : Int32) (H : Heap) (locs : List Loc) (ls : Array Slot), va_P D vwCl (wl cs LC NC ad M9 ++ X) H → va_D A (wl cs LC NC ad M9 ++ X) → va_S A s.heap H locs → lv_has ls 3 [(0, .ref (ad 0)), (1, .int x10), (2, .int x11)] → gX7_behaviours_L12 n12 M9 x10 x11 = res → W p l e R s m args below meth c H locs (0 + 1) (0 + 6) Q (F0 m 12 ls []) := by
      intro n12
      induction n12 with
      | zero =>
        intro M9 x10 x11 H locs ls hP hD hS hl hg
        rw [gX7_behaviours_L12] at hg
        exact absurd hg.symm hne
      | succ n12 ih =>
        intro M9 x10 x11 H locs ls hP hD hS hl hg
        rw [gX7_behaviours_L12] at hg
        refine lv_iload_n hx hb dX7_behaviours_12 rfl (lv_at hl 2 rfl) ?_
        refine lv_bipush (v := 16) hx hb dX7_behaviours_13 (by decide) ?_
        refine lv_icmp_ge (tgt := 51) hx hb dX7_behaviours_15 (by decide) (fun c13 => ?_) (fun c13 => ?_)
        · have hg := if_t hg c13
          refine lv_iload_n hx hb dX7_behaviours_51 rfl (lv_at hl 1 rfl) ?_
          refine W.widen (k := 1) (n := 6) (by decide) (by decide) ?_
          exact hret _ _ _ _ _ _ hg dX7_behaviours_52 hP hD hS
        · have hg := if_f hg c13
          refine lv_aload_n hx hb dX7_behaviours_18 rfl (lv_at hl 0 rfl) ?_
          refine m_gr (C := RX7) (T := TX7) (n := 5) (ci := 5) hx hb hts in_RX7 hown hK hP (by decide) rfl rfl 2 (by decide) rfl lk_25 (fun _ h9 => h9) dX7_behaviours_19 ?_
          refine lv_iload_n hx hb dX7_behaviours_22 rfl (lv_at hl 2 rfl) ?_
          obtain ⟨b14, hg⟩ := ck_e hg hne
          obtain ⟨v15, hv15, hg⟩ := lt_e hg
          have h16 := ix_lt b14 hv15
          refine m_lq (k := 13) hx hb hK hP (by decide) rfl b14 dX7_behaviours_23 ?_
          rw [← hv15]
          refine m_gr (C := RX5) (T := TX5) (n := 5) (ci := 3) hx hb hts in_RX5 hown hK hP (kC_v0 h16) (LC_VAR v15) rfl 3 (by decide) rfl lk_148 (fun _ h9 => h9) dX7_behaviours_24 ?_
          refine m_gi (C := RX1) (T := TX1) (n := 5) (ci := 0) hx hb hts in_RX1 hown hK hP (kC_v (j := 3) h16 (by decide)) (LC_RDG v15) rfl 4 (by decide) rfl lk_152 (fun _ h9 => h9) dX7_behaviours_27 ?_
          refine lv_iconst (v := -1) hx hb dX7_behaviours_30 (by decide) ?_
          refine lv_icmp_ne (tgt := 45) hx hb dX7_behaviours_31 (by decide) (fun c17 => ?_) (fun c17 => ?_)
          · have hg := if_f hg c17
            obtain ⟨x18, hx18, hg⟩ := lt_e hg
            refine lv_iinc (v := x18) (lv' := [(2, .int x18), (0, .ref (ad 0)), (1, .int x10)]) hx hb dX7_behaviours_45 hl (k := 2) rfl (hx18.symm) (by decide) rfl (fun ls hl => ?_)
            refine lv_goto (tgt := 12) hx hb dX7_behaviours_48 (by decide) ?_
            exact ih _ _ _ _ _ _ hP hD hS (lv_sub hl [1, 2, 0] rfl) hg
          · have hg := if_t hg c17
            refine lv_aload_n hx hb dX7_behaviours_34 rfl (lv_at hl 0 rfl) ?_
            refine lv_iload_n hx hb dX7_behaviours_35 rfl (lv_at hl 2 rfl) ?_
            obtain ⟨r19, q20, hg⟩ := bd_e hg hne
            refine r_calli (W.runV (As := [.int x11]) (rest := []) CX (ctX7_isFirstOfItsBehaviour l D sw cs ad X M9 x11 q20) (cwV 1 hts (gwV m3_160 m3_162 mp3_0 m1_1 m3_163) rfl rfl rfl (by decide +kernel) ⟨Nat.le_trans (Nat.le_of_ble_eq_true rfl) hR.1, Nat.le_trans (Nat.le_of_ble_eq_true rfl) hR.2⟩) (rPreV (hSW.wr hS) hK hP (by decide) rfl rfl _) rfl rfl hl.1 rfl (lv_room (Nat.le_of_ble_eq_true rfl)) dX7_behaviours_36 ⟨Nat.le_trans (Nat.le_of_ble_eq_true rfl) hRc.1, Nat.le_trans (Nat.le_of_ble_eq_true rfl) hRc.2⟩) ?_
            refine lv_if_eq (tgt := 45) hx hb dX7_behaviours_39 (by decide) (fun c21 => ?_) (fun c21 => ?_)
            · have hg := if_t hg c21
              obtain ⟨x22, hx22, hg⟩ := lt_e hg
              refine lv_iinc (v := x22) (lv' := [(2, .int x22), (0, .ref (ad 0)), (1, .int x10)]) hx hb dX7_behaviours_45 hl (k := 2) rfl (hx22.symm) (by decide) rfl (fun ls hl => ?_)
              refine lv_goto (tgt := 12) hx hb dX7_behaviours_48 (by decide) ?_
              exact ih _ _ _ _ _ _ hP hD hS (lv_sub hl [1, 2, 0] rfl) hg
            · have hg := if_f hg c21
              obtain ⟨x23, hx23, hg⟩ := lt_e hg
              refine lv_iinc (v := x23) (lv' := [(1, .int x23), (0, .ref (ad 0)), (2, .int x11)]) hx hb dX7_behaviours_42 hl (k := 1) rfl (hx23.symm) (by decide) rfl (fun ls hl => ?_)
              obtain ⟨x24, hx24, hg⟩ := lt_e hg
              refine lv_iinc (v := x24) (lv' := [(2, .int x24), (1, .int x23), (0, .ref (ad 0))]) hx hb dX7_behaviours_45 hl (k := 2) rfl (hx24.symm) (by decide) rfl (fun ls hl => ?_)
              refine lv_goto (tgt := 12) hx hb dX7_behaviours_48 (by decide) ?_
              exact ih _ _ _ _ _ _ hP hD hS (lv_sub hl [2, 1, 0] rfl) hg
    exact kL12_25 FU _ _ _ _ _ _ hP hD hS (lv_sub hl [2, 1, 0] rfl) hg
theorem ctX7_behaviours (l : Launch) (hfl : l.stackTraces = false) (D : va_G) (sw : Sw) (cs : Cs) (ad : Nat → Nat) (X : va_W) (sz : Nat) (M : Mm) {o : Int32 ⊕ Nat} {M1 : Mm} (hq : gX7_behaviours M = some (o, M1)) : vx_Met l yX7_behaviours wsX7_behaviours ({ frames := 406, cells := 1, slots := 6, locals := 9729 }) (va_Pc [.ref (ad 0)] (wPre D sw cs LC NC ad M X sz)) (tQi D cs LC NC ad M1 X sz o) (tX D cs LC NC ad M1 X sz o) 1 6 (wA NC ad X sz) :=
  met_t rfl rfl (Nat.le_of_ble_eq_true rfl) (fun p e s m args below meth c ls CX hr hlk hnx hK hSW hP hD hS hA hsz hl => bX7_behaviours M hq (by simp) CX ⟨Nat.le_refl _, Nat.le_refl _⟩ rfl hfl hlk hnx (fun k M9 t he hB hF => ⟨(), trivial, ⟨⟨k, (Prod.mk.inj (Option.some.inj he)).1.symm, rfl⟩, wpost hB rfl (Prod.mk.inj (Option.some.inj he)).2⟩, hF⟩) hK hSW hP hD hS hA ⟨Nat.le_refl _, Nat.le_refl _⟩ hl (fun pc ls H locs v M9 hv dg hP hD hS => vx_ret (W.iret CX.1 CX.2.1 hr (fun t ht hW => ⟨⟨v, (), rfl, (Prod.mk.inj (Option.some.inj hv)).1.symm, wpost hP ht (Prod.mk.inj (Option.some.inj hv)).2⟩, hS.F ht⟩) hS.2.2 dg)))
