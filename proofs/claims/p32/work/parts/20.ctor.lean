theorem cPreS {s : State} {H : Heap} {D : va_G} {cs : Cs} {X : va_W} {ci h : Nat} {fs : List Value} {A : Nat → Prop} (hK : va_K D vwCl (tysC cs) s) (hP : va_P D vwCl (X ++ [(h, .inr (ci, fs))]) H) (hD : va_D A (X ++ [(h, .inr (ci, fs))])) (hC : CW s) : PreS s H (va_Pc [.ref h] (cPre D cs X ci fs h H.size)) [.ref h] :=
  ⟨fun a U g mk q => by obtain ⟨q0, q1, qP, qK, qD, qC⟩ := q; exact ⟨q0, q1, qP, va_K.moved (u := U) (U := U.calling g mk a) (Vm.Alike.refl U.vm) qK, qD, CW.same (u := U) (U := U.calling g mk a) rfl qC⟩, fun U hU hW => ⟨rfl, by rw [hU], by rw [hU]; exact hP, va_K.moved hW.alike hK, hD.weaken (fun _ _ _ _ => trivial), hC.warm hW⟩⟩
abbrev wsX4_init : List Cond := Cond.code yX4_init cX4_init 1 none :: WG
def lX4_init (cs : Cs) (v : Nat → Nat) : va_W := [((v 0), .inr (2, [.ref (v 1), .int 0])), ((v 1), .inl (cs.1, 80, .inl (fun _ => 0)))]
set_option maxHeartbeats 4000000 in
set_option maxRecDepth 100000 in
theorem ctX4_init (l : Launch) (D : va_G) (cs : Cs) (X : va_W) (h sz : Nat) : Met l yX4_init wsX4_init { frames := 1, cells := 1, slots := 80, locals := 24 } (va_Pc [.ref h] (cPre D cs X 2 [.null, .int 0] h sz)) (cQ D X (lX4_init cs) h (cA X 2 [.null, .int 0] h sz)) 1 80 (cA X 2 [.null, .int 0] h sz) := by
  refine Met.ofW (cc := cX4_init) (maxL := 1) (ret := none) (by decide) rfl ?_
  intro p e s m args below meth c s₁ B hml hv
  obtain ⟨rfl, hsz, hP, hK, hD0, hC⟩ := hv
  have hin : meth.name = "<init>" := (name_of_methodNamed B.named B.method).1
  have CX : CallFix p m c cX4_init 1 s _ wsX4_init RX4 := ⟨B.exec, B.bytes, hml, findClass_of_methodNamed B.named, atoms_spec (ws := wsX4_init) B.pre⟩
  obtain ⟨hx, hb, hml, hown, hts⟩ := id CX
  have hr := B.returns
  have hlk := B.notSynchronized
  have hw : ∀ w ∈ WG, w.before _ s = true := fun w h => hts w (List.mem_cons_of_mem _ h)
  have km := hw _ m1_47
  have hR : 1 ≤ ({ frames := 1, cells := 1, slots := 80, locals := 24 } : Room).frames ∧ 24 ≤ ({ frames := 1, cells := 1, slots := 80, locals := 24 } : Room).locals := ⟨Nat.le_refl _, Nat.le_refl _⟩
  have hRc : 1 ≤ ({ frames := 1, cells := 1, slots := 80, locals := 24 } : Room).cells ∧ 80 ≤ ({ frames := 1, cells := 1, slots := 80, locals := 24 } : Room).slots := ⟨Nat.le_refl _, Nat.le_refl _⟩
  subst hsz
  have hD := hD0.self (sz := s.heap.size)
  generalize hAe : va_A (X ++ [(h, .inr (2, [.null, .int 0]))]) s.heap.size = A at hD
  show W _ _ _ _ _ _ _ _ _ _ _ _ _ _ (MQ _ (cQ D X (lX4_init cs) h (va_A (X ++ [(h, .inr (2, [.null, .int 0]))]) s.heap.size)) _ _ _ _ (va_A (X ++ [(h, .inr (2, [.null, .int 0]))]) s.heap.size)) _
  rw [hAe]
  have hA : ∀ q : Nat, s.heap.size ≤ q → A q := fun q h9 => by rw [← hAe]; exact Or.inr h9
  have hS : va_S A s.heap s.heap [] := va_S.rf
  have hl := lv_entry ([.ref h]) (n := 1) (Nat.le_of_ble_eq_true rfl)
  rw [lg_entry_eq]
  generalize (lg_sl ([.ref h]) ++ List.replicate (1 - (lg_sl ([.ref h])).length) Slot.unset).toArray = ls at hl ⊢
  have hl : lv_has ls 1 [(0, .ref h)] := hl
  skip
  refine lv_aload_n hx hb dX4_init_0 rfl (lv_at hl 0 rfl) ?_
  refine W.objInit hx hb hown (hw _ m1_35) (hw _ m1_28) (hw _ m1_29) rfl (by rw [hml]; exact hl.1) rfl dX4_init_1 (Nat.le_trans (Nat.le_of_ble_eq_true rfl) hR.1) (Nat.le_trans (Nat.le_of_ble_eq_true rfl) hR.2) ?_
  refine W.eq (g2 := F0 m 4 ls []) rfl ?_
  refine lv_aload_n hx hb dX4_init_4 rfl (lv_at hl 0 rfl) ?_
  refine lv_bipush (v := 80) hx hb dX4_init_5 (by decide) ?_
  refine k_new (n := 80) hx hb km hK hP hD hS hA rfl (by decide) (Nat.le_trans (Nat.le_of_ble_eq_true rfl) hRc.1) (Nat.le_trans (Nat.le_of_ble_eq_true rfl) hRc.2) dX4_init_7 (fun q1 H hP hD hS => ?_)
  have hP : va_P D vwCl (X ++ [(h, .inr (2, [.null, .int 0])), (q1, .inl (cs.1, 80, .inl (fun _ => 0)))]) H := hP
  have hD : va_D A (X ++ [(h, .inr (2, [.null, .int 0])), (q1, .inl (cs.1, 80, .inl (fun _ => 0)))]) := hD
  refine W.widen (k := 1) (n := 80) (by decide) (by decide) ?_
  refine k_putF (ci := 2) (C := RX4) (T := TX4) (N := 2) hx hb hts in_RX4 tyX4 tyX4_ok nmX4 hown hK hP hD hS 0 rfl rfl 0 (by decide) (hw _ m1_36) rfl hin rfl (ty := tyX4 0) (tyX4_ok 0 (by decide)) rfl rfl (Nat.le_of_ble_eq_true rfl) dX4_init_9 (fun H locs hP hD hS => ?_)
  have hP : va_P D vwCl (X ++ [(h, .inr (2, [.ref q1, .int 0])), (q1, .inl (cs.1, 80, .inl (fun _ => 0)))]) H := hP
  have hD : va_D A (X ++ [(h, .inr (2, [.ref q1, .int 0])), (q1, .inl (cs.1, 80, .inl (fun _ => 0)))]) := hD
  exact W.vret hx hb hr (fun t ht hW => ⟨⟨(fun j => ([h, q1] : List Nat).getD j 0), rfl, rfl, by rw [ht]; exact hP, hD⟩, hS.F ht⟩) hS.2.2 dX4_init_12
abbrev wsX1_init : List Cond := Cond.code yX1_init cX1_init 1 none :: WG
def lX1_init (cs : Cs) (v : Nat → Nat) : va_W := [((v 0), .inr (0, [.ref (v 1), .int 0, .ref (v 2), .int 0, .int 0])), ((v 1), .inl (cs.1, 320, .inl (fun _ => 0))), ((v 2), .inl (cs.1, 80, .inl (fun _ => 0)))]
set_option maxHeartbeats 4000000 in
set_option maxRecDepth 100000 in
theorem ctX1_init (l : Launch) (D : va_G) (cs : Cs) (X : va_W) (h sz : Nat) : Met l yX1_init wsX1_init { frames := 1, cells := 2, slots := 400, locals := 24 } (va_Pc [.ref h] (cPre D cs X 0 [.null, .int 0, .null, .int 0, .int 0] h sz)) (cQ D X (lX1_init cs) h (cA X 0 [.null, .int 0, .null, .int 0, .int 0] h sz)) 2 400 (cA X 0 [.null, .int 0, .null, .int 0, .int 0] h sz) := by
  refine Met.ofW (cc := cX1_init) (maxL := 1) (ret := none) (by decide) rfl ?_
  intro p e s m args below meth c s₁ B hml hv
  obtain ⟨rfl, hsz, hP, hK, hD0, hC⟩ := hv
  have hin : meth.name = "<init>" := (name_of_methodNamed B.named B.method).1
  have CX : CallFix p m c cX1_init 1 s _ wsX1_init RX1 := ⟨B.exec, B.bytes, hml, findClass_of_methodNamed B.named, atoms_spec (ws := wsX1_init) B.pre⟩
  obtain ⟨hx, hb, hml, hown, hts⟩ := id CX
  have hr := B.returns
  have hlk := B.notSynchronized
  have hw : ∀ w ∈ WG, w.before _ s = true := fun w h => hts w (List.mem_cons_of_mem _ h)
  have km := hw _ m1_47
  have hR : 1 ≤ ({ frames := 1, cells := 2, slots := 400, locals := 24 } : Room).frames ∧ 24 ≤ ({ frames := 1, cells := 2, slots := 400, locals := 24 } : Room).locals := ⟨Nat.le_refl _, Nat.le_refl _⟩
  have hRc : 2 ≤ ({ frames := 1, cells := 2, slots := 400, locals := 24 } : Room).cells ∧ 400 ≤ ({ frames := 1, cells := 2, slots := 400, locals := 24 } : Room).slots := ⟨Nat.le_refl _, Nat.le_refl _⟩
  subst hsz
  have hD := hD0.self (sz := s.heap.size)
  generalize hAe : va_A (X ++ [(h, .inr (0, [.null, .int 0, .null, .int 0, .int 0]))]) s.heap.size = A at hD
  show W _ _ _ _ _ _ _ _ _ _ _ _ _ _ (MQ _ (cQ D X (lX1_init cs) h (va_A (X ++ [(h, .inr (0, [.null, .int 0, .null, .int 0, .int 0]))]) s.heap.size)) _ _ _ _ (va_A (X ++ [(h, .inr (0, [.null, .int 0, .null, .int 0, .int 0]))]) s.heap.size)) _
  rw [hAe]
  have hA : ∀ q : Nat, s.heap.size ≤ q → A q := fun q h9 => by rw [← hAe]; exact Or.inr h9
  have hS : va_S A s.heap s.heap [] := va_S.rf
  have hl := lv_entry ([.ref h]) (n := 1) (Nat.le_of_ble_eq_true rfl)
  rw [lg_entry_eq]
  generalize (lg_sl ([.ref h]) ++ List.replicate (1 - (lg_sl ([.ref h])).length) Slot.unset).toArray = ls at hl ⊢
  have hl : lv_has ls 1 [(0, .ref h)] := hl
  skip
  refine lv_aload_n hx hb dX1_init_0 rfl (lv_at hl 0 rfl) ?_
  refine W.objInit hx hb hown (hw _ m1_91) (hw _ m1_28) (hw _ m1_29) rfl (by rw [hml]; exact hl.1) rfl dX1_init_1 (Nat.le_trans (Nat.le_of_ble_eq_true rfl) hR.1) (Nat.le_trans (Nat.le_of_ble_eq_true rfl) hR.2) ?_
  refine W.eq (g2 := F0 m 4 ls []) rfl ?_
  refine lv_aload_n hx hb dX1_init_4 rfl (lv_at hl 0 rfl) ?_
  refine lv_sipush (v := 320) hx hb dX1_init_5 (by decide) ?_
  refine k_new (n := 320) hx hb km hK hP hD hS hA rfl (by decide) (Nat.le_trans (Nat.le_of_ble_eq_true rfl) hRc.1) (Nat.le_trans (Nat.le_of_ble_eq_true rfl) hRc.2) dX1_init_8 (fun q1 H hP hD hS => ?_)
  have hP : va_P D vwCl (X ++ [(h, .inr (0, [.null, .int 0, .null, .int 0, .int 0])), (q1, .inl (cs.1, 320, .inl (fun _ => 0)))]) H := hP
  have hD : va_D A (X ++ [(h, .inr (0, [.null, .int 0, .null, .int 0, .int 0])), (q1, .inl (cs.1, 320, .inl (fun _ => 0)))]) := hD
  refine W.widen (k := 1) (n := 320) (by decide) (by decide) ?_
  refine k_putF (ci := 0) (C := RX1) (T := TX1) (N := 5) hx hb hts in_RX1 tyX1 tyX1_ok nmX1 hown hK hP hD hS 0 rfl rfl 0 (by decide) (hw _ m1_92) rfl hin rfl (ty := tyX1 0) (tyX1_ok 0 (by decide)) rfl rfl (Nat.le_of_ble_eq_true rfl) dX1_init_10 (fun H locs hP hD hS => ?_)
  have hP : va_P D vwCl (X ++ [(h, .inr (0, [.ref q1, .int 0, .null, .int 0, .int 0])), (q1, .inl (cs.1, 320, .inl (fun _ => 0)))]) H := hP
  have hD : va_D A (X ++ [(h, .inr (0, [.ref q1, .int 0, .null, .int 0, .int 0])), (q1, .inl (cs.1, 320, .inl (fun _ => 0)))]) := hD
  refine lv_aload_n hx hb dX1_init_13 rfl (lv_at hl 0 rfl) ?_
  refine lv_bipush (v := 80) hx hb dX1_init_14 (by decide) ?_
  refine k_new (n := 80) hx hb km hK hP hD hS hA rfl (by decide) (Nat.le_trans (Nat.le_of_ble_eq_true rfl) hRc.1) (Nat.le_trans (Nat.le_of_ble_eq_true rfl) hRc.2) dX1_init_16 (fun q2 H hP hD hS => ?_)
  have hP : va_P D vwCl (X ++ [(h, .inr (0, [.ref q1, .int 0, .null, .int 0, .int 0])), (q1, .inl (cs.1, 320, .inl (fun _ => 0))), (q2, .inl (cs.1, 80, .inl (fun _ => 0)))]) H := hP
  have hD : va_D A (X ++ [(h, .inr (0, [.ref q1, .int 0, .null, .int 0, .int 0])), (q1, .inl (cs.1, 320, .inl (fun _ => 0))), (q2, .inl (cs.1, 80, .inl (fun _ => 0)))]) := hD
  refine W.widen (k := 2) (n := 400) (by decide) (by decide) ?_
  refine k_putF (ci := 0) (C := RX1) (T := TX1) (N := 5) hx hb hts in_RX1 tyX1 tyX1_ok nmX1 hown hK hP hD hS 0 rfl rfl 2 (by decide) (hw _ m1_94) rfl hin rfl (ty := tyX1 2) (tyX1_ok 2 (by decide)) rfl rfl (Nat.le_of_ble_eq_true rfl) dX1_init_18 (fun H locs hP hD hS => ?_)
  have hP : va_P D vwCl (X ++ [(h, .inr (0, [.ref q1, .int 0, .ref q2, .int 0, .int 0])), (q1, .inl (cs.1, 320, .inl (fun _ => 0))), (q2, .inl (cs.1, 80, .inl (fun _ => 0)))]) H := hP
  have hD : va_D A (X ++ [(h, .inr (0, [.ref q1, .int 0, .ref q2, .int 0, .int 0])), (q1, .inl (cs.1, 320, .inl (fun _ => 0))), (q2, .inl (cs.1, 80, .inl (fun _ => 0)))]) := hD
  exact W.vret hx hb hr (fun t ht hW => ⟨⟨(fun j => ([h, q1, q2] : List Nat).getD j 0), rfl, rfl, by rw [ht]; exact hP, hD⟩, hS.F ht⟩) hS.2.2 dX1_init_21
abbrev wsX3_init : List Cond := Cond.code yX3_init cX3_init 1 none :: WG
def lX3_init (cs : Cs) (v : Nat → Nat) : va_W := [((v 0), .inr (1, [.ref (v 1), .int 0, .int 0, .ref (v 2), .ref (v 3), .int 0])), ((v 1), .inl (cs.1, 80, .inl (fun _ => 0))), ((v 2), .inl (cs.1, 4, .inl (fun _ => 0))), ((v 3), .inl (cs.1, 80, .inl (fun _ => 0)))]
set_option maxHeartbeats 4000000 in
set_option maxRecDepth 100000 in
theorem ctX3_init (l : Launch) (D : va_G) (cs : Cs) (X : va_W) (h sz : Nat) : Met l yX3_init wsX3_init { frames := 1, cells := 3, slots := 164, locals := 24 } (va_Pc [.ref h] (cPre D cs X 1 [.null, .int 0, .int 0, .null, .null, .int 0] h sz)) (cQ D X (lX3_init cs) h (cA X 1 [.null, .int 0, .int 0, .null, .null, .int 0] h sz)) 3 164 (cA X 1 [.null, .int 0, .int 0, .null, .null, .int 0] h sz) := by
  refine Met.ofW (cc := cX3_init) (maxL := 1) (ret := none) (by decide) rfl ?_
  intro p e s m args below meth c s₁ B hml hv
  obtain ⟨rfl, hsz, hP, hK, hD0, hC⟩ := hv
  have hin : meth.name = "<init>" := (name_of_methodNamed B.named B.method).1
  have CX : CallFix p m c cX3_init 1 s _ wsX3_init RX3 := ⟨B.exec, B.bytes, hml, findClass_of_methodNamed B.named, atoms_spec (ws := wsX3_init) B.pre⟩
  obtain ⟨hx, hb, hml, hown, hts⟩ := id CX
  have hr := B.returns
  have hlk := B.notSynchronized
  have hw : ∀ w ∈ WG, w.before _ s = true := fun w h => hts w (List.mem_cons_of_mem _ h)
  have km := hw _ m1_47
  have hR : 1 ≤ ({ frames := 1, cells := 3, slots := 164, locals := 24 } : Room).frames ∧ 24 ≤ ({ frames := 1, cells := 3, slots := 164, locals := 24 } : Room).locals := ⟨Nat.le_refl _, Nat.le_refl _⟩
  have hRc : 3 ≤ ({ frames := 1, cells := 3, slots := 164, locals := 24 } : Room).cells ∧ 164 ≤ ({ frames := 1, cells := 3, slots := 164, locals := 24 } : Room).slots := ⟨Nat.le_refl _, Nat.le_refl _⟩
  subst hsz
  have hD := hD0.self (sz := s.heap.size)
  generalize hAe : va_A (X ++ [(h, .inr (1, [.null, .int 0, .int 0, .null, .null, .int 0]))]) s.heap.size = A at hD
  show W _ _ _ _ _ _ _ _ _ _ _ _ _ _ (MQ _ (cQ D X (lX3_init cs) h (va_A (X ++ [(h, .inr (1, [.null, .int 0, .int 0, .null, .null, .int 0]))]) s.heap.size)) _ _ _ _ (va_A (X ++ [(h, .inr (1, [.null, .int 0, .int 0, .null, .null, .int 0]))]) s.heap.size)) _
  rw [hAe]
  have hA : ∀ q : Nat, s.heap.size ≤ q → A q := fun q h9 => by rw [← hAe]; exact Or.inr h9
  have hS : va_S A s.heap s.heap [] := va_S.rf
  have hl := lv_entry ([.ref h]) (n := 1) (Nat.le_of_ble_eq_true rfl)
  rw [lg_entry_eq]
  generalize (lg_sl ([.ref h]) ++ List.replicate (1 - (lg_sl ([.ref h])).length) Slot.unset).toArray = ls at hl ⊢
  have hl : lv_has ls 1 [(0, .ref h)] := hl
  skip
  refine lv_aload_n hx hb dX3_init_0 rfl (lv_at hl 0 rfl) ?_
  refine W.objInit hx hb hown (hw _ m1_115) (hw _ m1_28) (hw _ m1_29) rfl (by rw [hml]; exact hl.1) rfl dX3_init_1 (Nat.le_trans (Nat.le_of_ble_eq_true rfl) hR.1) (Nat.le_trans (Nat.le_of_ble_eq_true rfl) hR.2) ?_
  refine W.eq (g2 := F0 m 4 ls []) rfl ?_
  refine lv_aload_n hx hb dX3_init_4 rfl (lv_at hl 0 rfl) ?_
  refine lv_bipush (v := 80) hx hb dX3_init_5 (by decide) ?_
  refine k_new (n := 80) hx hb km hK hP hD hS hA rfl (by decide) (Nat.le_trans (Nat.le_of_ble_eq_true rfl) hRc.1) (Nat.le_trans (Nat.le_of_ble_eq_true rfl) hRc.2) dX3_init_7 (fun q1 H hP hD hS => ?_)
  have hP : va_P D vwCl (X ++ [(h, .inr (1, [.null, .int 0, .int 0, .null, .null, .int 0])), (q1, .inl (cs.1, 80, .inl (fun _ => 0)))]) H := hP
  have hD : va_D A (X ++ [(h, .inr (1, [.null, .int 0, .int 0, .null, .null, .int 0])), (q1, .inl (cs.1, 80, .inl (fun _ => 0)))]) := hD
  refine W.widen (k := 1) (n := 80) (by decide) (by decide) ?_
  refine k_putF (ci := 1) (C := RX3) (T := TX3) (N := 6) hx hb hts in_RX3 tyX3 tyX3_ok nmX3 hown hK hP hD hS 0 rfl rfl 0 (by decide) (hw _ m1_116) rfl hin rfl (ty := tyX3 0) (tyX3_ok 0 (by decide)) rfl rfl (Nat.le_of_ble_eq_true rfl) dX3_init_9 (fun H locs hP hD hS => ?_)
  have hP : va_P D vwCl (X ++ [(h, .inr (1, [.ref q1, .int 0, .int 0, .null, .null, .int 0])), (q1, .inl (cs.1, 80, .inl (fun _ => 0)))]) H := hP
  have hD : va_D A (X ++ [(h, .inr (1, [.ref q1, .int 0, .int 0, .null, .null, .int 0])), (q1, .inl (cs.1, 80, .inl (fun _ => 0)))]) := hD
  refine lv_aload_n hx hb dX3_init_12 rfl (lv_at hl 0 rfl) ?_
  refine lv_iconst (v := 4) hx hb dX3_init_13 (by decide) ?_
  refine k_new (n := 4) hx hb km hK hP hD hS hA rfl (by decide) (Nat.le_trans (Nat.le_of_ble_eq_true rfl) hRc.1) (Nat.le_trans (Nat.le_of_ble_eq_true rfl) hRc.2) dX3_init_14 (fun q2 H hP hD hS => ?_)
  have hP : va_P D vwCl (X ++ [(h, .inr (1, [.ref q1, .int 0, .int 0, .null, .null, .int 0])), (q1, .inl (cs.1, 80, .inl (fun _ => 0))), (q2, .inl (cs.1, 4, .inl (fun _ => 0)))]) H := hP
  have hD : va_D A (X ++ [(h, .inr (1, [.ref q1, .int 0, .int 0, .null, .null, .int 0])), (q1, .inl (cs.1, 80, .inl (fun _ => 0))), (q2, .inl (cs.1, 4, .inl (fun _ => 0)))]) := hD
  refine W.widen (k := 2) (n := 84) (by decide) (by decide) ?_
  refine k_putF (ci := 1) (C := RX3) (T := TX3) (N := 6) hx hb hts in_RX3 tyX3 tyX3_ok nmX3 hown hK hP hD hS 0 rfl rfl 3 (by decide) (hw _ m1_119) rfl hin rfl (ty := tyX3 3) (tyX3_ok 3 (by decide)) rfl rfl (Nat.le_of_ble_eq_true rfl) dX3_init_16 (fun H locs hP hD hS => ?_)
  have hP : va_P D vwCl (X ++ [(h, .inr (1, [.ref q1, .int 0, .int 0, .ref q2, .null, .int 0])), (q1, .inl (cs.1, 80, .inl (fun _ => 0))), (q2, .inl (cs.1, 4, .inl (fun _ => 0)))]) H := hP
  have hD : va_D A (X ++ [(h, .inr (1, [.ref q1, .int 0, .int 0, .ref q2, .null, .int 0])), (q1, .inl (cs.1, 80, .inl (fun _ => 0))), (q2, .inl (cs.1, 4, .inl (fun _ => 0)))]) := hD
  refine lv_aload_n hx hb dX3_init_19 rfl (lv_at hl 0 rfl) ?_
  refine lv_bipush (v := 80) hx hb dX3_init_20 (by decide) ?_
  refine k_new (n := 80) hx hb km hK hP hD hS hA rfl (by decide) (Nat.le_trans (Nat.le_of_ble_eq_true rfl) hRc.1) (Nat.le_trans (Nat.le_of_ble_eq_true rfl) hRc.2) dX3_init_22 (fun q3 H hP hD hS => ?_)
  have hP : va_P D vwCl (X ++ [(h, .inr (1, [.ref q1, .int 0, .int 0, .ref q2, .null, .int 0])), (q1, .inl (cs.1, 80, .inl (fun _ => 0))), (q2, .inl (cs.1, 4, .inl (fun _ => 0))), (q3, .inl (cs.1, 80, .inl (fun _ => 0)))]) H := hP
  have hD : va_D A (X ++ [(h, .inr (1, [.ref q1, .int 0, .int 0, .ref q2, .null, .int 0])), (q1, .inl (cs.1, 80, .inl (fun _ => 0))), (q2, .inl (cs.1, 4, .inl (fun _ => 0))), (q3, .inl (cs.1, 80, .inl (fun _ => 0)))]) := hD
  refine W.widen (k := 3) (n := 164) (by decide) (by decide) ?_
  refine k_putF (ci := 1) (C := RX3) (T := TX3) (N := 6) hx hb hts in_RX3 tyX3 tyX3_ok nmX3 hown hK hP hD hS 0 rfl rfl 4 (by decide) (hw _ m1_121) rfl hin rfl (ty := tyX3 4) (tyX3_ok 4 (by decide)) rfl rfl (Nat.le_of_ble_eq_true rfl) dX3_init_24 (fun H locs hP hD hS => ?_)
  have hP : va_P D vwCl (X ++ [(h, .inr (1, [.ref q1, .int 0, .int 0, .ref q2, .ref q3, .int 0])), (q1, .inl (cs.1, 80, .inl (fun _ => 0))), (q2, .inl (cs.1, 4, .inl (fun _ => 0))), (q3, .inl (cs.1, 80, .inl (fun _ => 0)))]) H := hP
  have hD : va_D A (X ++ [(h, .inr (1, [.ref q1, .int 0, .int 0, .ref q2, .ref q3, .int 0])), (q1, .inl (cs.1, 80, .inl (fun _ => 0))), (q2, .inl (cs.1, 4, .inl (fun _ => 0))), (q3, .inl (cs.1, 80, .inl (fun _ => 0)))]) := hD
  exact W.vret hx hb hr (fun t ht hW => ⟨⟨(fun j => ([h, q1, q2, q3] : List Nat).getD j 0), rfl, rfl, by rw [ht]; exact hP, hD⟩, hS.F ht⟩) hS.2.2 dX3_init_27
abbrev wsX6_init : List Cond := Cond.code yX6_init cX6_init 1 none :: WG
def lX6_init (cs : Cs) (v : Nat → Nat) : va_W := [((v 0), .inr (4, [.ref (v 1), .ref (v 2), .ref (v 7), .ref (v 8), .ref (v 9), .int 0, .int 0])), ((v 1), .inl (cs.1, 80, .inl (fun _ => 0))), ((v 2), .inl (cs.2.2, 4, .inr (.inr (.inr (.inr (fun i => some (v (i + 3)))))))), ((v 3), .inl (cs.1, 80, .inl (fun _ => 0))), ((v 4), .inl (cs.1, 80, .inl (fun _ => 0))), ((v 5), .inl (cs.1, 80, .inl (fun _ => 0))), ((v 6), .inl (cs.1, 80, .inl (fun _ => 0))), ((v 7), .inl (cs.1, 4, .inl (fun _ => 0))), ((v 8), .inl (cs.1, 5, .inl (fun _ => 0))), ((v 9), .inl (cs.1, 5, .inl (fun _ => 0)))]
set_option maxHeartbeats 4000000 in
set_option maxRecDepth 100000 in
theorem ctX6_init (l : Launch) (D : va_G) (cs : Cs) (X : va_W) (h sz : Nat) : Met l yX6_init wsX6_init { frames := 1, cells := 9, slots := 418, locals := 24 } (va_Pc [.ref h] (cPre D cs X 4 [.null, .null, .null, .null, .null, .int 0, .int 0] h sz)) (cQ D X (lX6_init cs) h (cA X 4 [.null, .null, .null, .null, .null, .int 0, .int 0] h sz)) 9 418 (cA X 4 [.null, .null, .null, .null, .null, .int 0, .int 0] h sz) := by
  refine Met.ofW (cc := cX6_init) (maxL := 1) (ret := none) (by decide) rfl ?_
  intro p e s m args below meth c s₁ B hml hv
  obtain ⟨rfl, hsz, hP, hK, hD0, hC⟩ := hv
  have hin : meth.name = "<init>" := (name_of_methodNamed B.named B.method).1
  have CX : CallFix p m c cX6_init 1 s _ wsX6_init RX6 := ⟨B.exec, B.bytes, hml, findClass_of_methodNamed B.named, atoms_spec (ws := wsX6_init) B.pre⟩
  obtain ⟨hx, hb, hml, hown, hts⟩ := id CX
  have hr := B.returns
  have hlk := B.notSynchronized
  have hw : ∀ w ∈ WG, w.before _ s = true := fun w h => hts w (List.mem_cons_of_mem _ h)
  have km := hw _ m1_47
  have hR : 1 ≤ ({ frames := 1, cells := 9, slots := 418, locals := 24 } : Room).frames ∧ 24 ≤ ({ frames := 1, cells := 9, slots := 418, locals := 24 } : Room).locals := ⟨Nat.le_refl _, Nat.le_refl _⟩
  have hRc : 9 ≤ ({ frames := 1, cells := 9, slots := 418, locals := 24 } : Room).cells ∧ 418 ≤ ({ frames := 1, cells := 9, slots := 418, locals := 24 } : Room).slots := ⟨Nat.le_refl _, Nat.le_refl _⟩
  subst hsz
  have hD := hD0.self (sz := s.heap.size)
  generalize hAe : va_A (X ++ [(h, .inr (4, [.null, .null, .null, .null, .null, .int 0, .int 0]))]) s.heap.size = A at hD
  show W _ _ _ _ _ _ _ _ _ _ _ _ _ _ (MQ _ (cQ D X (lX6_init cs) h (va_A (X ++ [(h, .inr (4, [.null, .null, .null, .null, .null, .int 0, .int 0]))]) s.heap.size)) _ _ _ _ (va_A (X ++ [(h, .inr (4, [.null, .null, .null, .null, .null, .int 0, .int 0]))]) s.heap.size)) _
  rw [hAe]
  have hA : ∀ q : Nat, s.heap.size ≤ q → A q := fun q h9 => by rw [← hAe]; exact Or.inr h9
  have hS : va_S A s.heap s.heap [] := va_S.rf
  have hl := lv_entry ([.ref h]) (n := 1) (Nat.le_of_ble_eq_true rfl)
  rw [lg_entry_eq]
  generalize (lg_sl ([.ref h]) ++ List.replicate (1 - (lg_sl ([.ref h])).length) Slot.unset).toArray = ls at hl ⊢
  have hl : lv_has ls 1 [(0, .ref h)] := hl
  skip
  refine lv_aload_n hx hb dX6_init_0 rfl (lv_at hl 0 rfl) ?_
  refine W.objInit hx hb hown (hw _ m1_53) (hw _ m1_28) (hw _ m1_29) rfl (by rw [hml]; exact hl.1) rfl dX6_init_1 (Nat.le_trans (Nat.le_of_ble_eq_true rfl) hR.1) (Nat.le_trans (Nat.le_of_ble_eq_true rfl) hR.2) ?_
  refine W.eq (g2 := F0 m 4 ls []) rfl ?_
  refine lv_aload_n hx hb dX6_init_4 rfl (lv_at hl 0 rfl) ?_
  refine lv_bipush (v := 80) hx hb dX6_init_5 (by decide) ?_
  refine k_new (n := 80) hx hb km hK hP hD hS hA rfl (by decide) (Nat.le_trans (Nat.le_of_ble_eq_true rfl) hRc.1) (Nat.le_trans (Nat.le_of_ble_eq_true rfl) hRc.2) dX6_init_7 (fun q1 H hP hD hS => ?_)
  have hP : va_P D vwCl (X ++ [(h, .inr (4, [.null, .null, .null, .null, .null, .int 0, .int 0])), (q1, .inl (cs.1, 80, .inl (fun _ => 0)))]) H := hP
  have hD : va_D A (X ++ [(h, .inr (4, [.null, .null, .null, .null, .null, .int 0, .int 0])), (q1, .inl (cs.1, 80, .inl (fun _ => 0)))]) := hD
  refine W.widen (k := 1) (n := 80) (by decide) (by decide) ?_
  refine k_putF (ci := 4) (C := RX6) (T := TX6) (N := 7) hx hb hts in_RX6 tyX6 tyX6_ok nmX6 hown hK hP hD hS 0 rfl rfl 0 (by decide) (hw _ m1_56) rfl hin rfl (ty := tyX6 0) (tyX6_ok 0 (by decide)) rfl rfl (Nat.le_of_ble_eq_true rfl) dX6_init_9 (fun H locs hP hD hS => ?_)
  have hP : va_P D vwCl (X ++ [(h, .inr (4, [.ref q1, .null, .null, .null, .null, .int 0, .int 0])), (q1, .inl (cs.1, 80, .inl (fun _ => 0)))]) H := hP
  have hD : va_D A (X ++ [(h, .inr (4, [.ref q1, .null, .null, .null, .null, .int 0, .int 0])), (q1, .inl (cs.1, 80, .inl (fun _ => 0)))]) := hD
  refine lv_aload_n hx hb dX6_init_12 rfl (lv_at hl 0 rfl) ?_
  refine lv_iconst (v := 4) hx hb dX6_init_13 (by decide) ?_
  refine lv_bipush (v := 80) hx hb dX6_init_14 (by decide) ?_
  refine k_mna hx hb hown (hw _ m1_54) hC.2.1 km hK hP hD hS hA (Nat.le_trans (Nat.le_of_ble_eq_true rfl) hRc.1) (Nat.le_trans (Nat.le_of_ble_eq_true rfl) hRc.2) dX6_init_16 (fun q2 q3 q4 q5 q6 H f f0 f1 f2 f3 hP hD hS => ?_)
  have hP : va_P D vwCl (X ++ [(h, .inr (4, [.ref q1, .null, .null, .null, .null, .int 0, .int 0])), (q1, .inl (cs.1, 80, .inl (fun _ => 0))), (q2, .inl (cs.2.2, 4, .inr (.inr (.inr (.inr f))))), (q3, .inl (cs.1, 80, .inl (fun _ => 0))), (q4, .inl (cs.1, 80, .inl (fun _ => 0))), (q5, .inl (cs.1, 80, .inl (fun _ => 0))), (q6, .inl (cs.1, 80, .inl (fun _ => 0)))]) H := hP
  have hD : va_D A (X ++ [(h, .inr (4, [.ref q1, .null, .null, .null, .null, .int 0, .int 0])), (q1, .inl (cs.1, 80, .inl (fun _ => 0))), (q2, .inl (cs.2.2, 4, .inr (.inr (.inr (.inr f))))), (q3, .inl (cs.1, 80, .inl (fun _ => 0))), (q4, .inl (cs.1, 80, .inl (fun _ => 0))), (q5, .inl (cs.1, 80, .inl (fun _ => 0))), (q6, .inl (cs.1, 80, .inl (fun _ => 0)))]) := hD
  refine W.widen (k := 6) (n := 404) (by decide) (by decide) ?_
  refine k_putF (ci := 4) (C := RX6) (T := TX6) (N := 7) hx hb hts in_RX6 tyX6 tyX6_ok nmX6 hown hK hP hD hS 0 rfl rfl 1 (by decide) (hw _ m1_58) rfl hin rfl (ty := tyX6 1) (tyX6_ok 1 (by decide)) rfl rfl (Nat.le_of_ble_eq_true rfl) dX6_init_20 (fun H locs hP hD hS => ?_)
  have hP : va_P D vwCl (X ++ [(h, .inr (4, [.ref q1, .ref q2, .null, .null, .null, .int 0, .int 0])), (q1, .inl (cs.1, 80, .inl (fun _ => 0))), (q2, .inl (cs.2.2, 4, .inr (.inr (.inr (.inr f))))), (q3, .inl (cs.1, 80, .inl (fun _ => 0))), (q4, .inl (cs.1, 80, .inl (fun _ => 0))), (q5, .inl (cs.1, 80, .inl (fun _ => 0))), (q6, .inl (cs.1, 80, .inl (fun _ => 0)))]) H := hP
  have hD : va_D A (X ++ [(h, .inr (4, [.ref q1, .ref q2, .null, .null, .null, .int 0, .int 0])), (q1, .inl (cs.1, 80, .inl (fun _ => 0))), (q2, .inl (cs.2.2, 4, .inr (.inr (.inr (.inr f))))), (q3, .inl (cs.1, 80, .inl (fun _ => 0))), (q4, .inl (cs.1, 80, .inl (fun _ => 0))), (q5, .inl (cs.1, 80, .inl (fun _ => 0))), (q6, .inl (cs.1, 80, .inl (fun _ => 0)))]) := hD
  refine lv_aload_n hx hb dX6_init_23 rfl (lv_at hl 0 rfl) ?_
  refine lv_iconst (v := 4) hx hb dX6_init_24 (by decide) ?_
  refine k_new (n := 4) hx hb km hK hP hD hS hA rfl (by decide) (Nat.le_trans (Nat.le_of_ble_eq_true rfl) hRc.1) (Nat.le_trans (Nat.le_of_ble_eq_true rfl) hRc.2) dX6_init_25 (fun q7 H hP hD hS => ?_)
  have hP : va_P D vwCl (X ++ [(h, .inr (4, [.ref q1, .ref q2, .null, .null, .null, .int 0, .int 0])), (q1, .inl (cs.1, 80, .inl (fun _ => 0))), (q2, .inl (cs.2.2, 4, .inr (.inr (.inr (.inr f))))), (q3, .inl (cs.1, 80, .inl (fun _ => 0))), (q4, .inl (cs.1, 80, .inl (fun _ => 0))), (q5, .inl (cs.1, 80, .inl (fun _ => 0))), (q6, .inl (cs.1, 80, .inl (fun _ => 0))), (q7, .inl (cs.1, 4, .inl (fun _ => 0)))]) H := hP
  have hD : va_D A (X ++ [(h, .inr (4, [.ref q1, .ref q2, .null, .null, .null, .int 0, .int 0])), (q1, .inl (cs.1, 80, .inl (fun _ => 0))), (q2, .inl (cs.2.2, 4, .inr (.inr (.inr (.inr f))))), (q3, .inl (cs.1, 80, .inl (fun _ => 0))), (q4, .inl (cs.1, 80, .inl (fun _ => 0))), (q5, .inl (cs.1, 80, .inl (fun _ => 0))), (q6, .inl (cs.1, 80, .inl (fun _ => 0))), (q7, .inl (cs.1, 4, .inl (fun _ => 0)))]) := hD
  refine W.widen (k := 7) (n := 408) (by decide) (by decide) ?_
  refine k_putF (ci := 4) (C := RX6) (T := TX6) (N := 7) hx hb hts in_RX6 tyX6 tyX6_ok nmX6 hown hK hP hD hS 0 rfl rfl 2 (by decide) (hw _ m1_59) rfl hin rfl (ty := tyX6 2) (tyX6_ok 2 (by decide)) rfl rfl (Nat.le_of_ble_eq_true rfl) dX6_init_27 (fun H locs hP hD hS => ?_)
  have hP : va_P D vwCl (X ++ [(h, .inr (4, [.ref q1, .ref q2, .ref q7, .null, .null, .int 0, .int 0])), (q1, .inl (cs.1, 80, .inl (fun _ => 0))), (q2, .inl (cs.2.2, 4, .inr (.inr (.inr (.inr f))))), (q3, .inl (cs.1, 80, .inl (fun _ => 0))), (q4, .inl (cs.1, 80, .inl (fun _ => 0))), (q5, .inl (cs.1, 80, .inl (fun _ => 0))), (q6, .inl (cs.1, 80, .inl (fun _ => 0))), (q7, .inl (cs.1, 4, .inl (fun _ => 0)))]) H := hP
  have hD : va_D A (X ++ [(h, .inr (4, [.ref q1, .ref q2, .ref q7, .null, .null, .int 0, .int 0])), (q1, .inl (cs.1, 80, .inl (fun _ => 0))), (q2, .inl (cs.2.2, 4, .inr (.inr (.inr (.inr f))))), (q3, .inl (cs.1, 80, .inl (fun _ => 0))), (q4, .inl (cs.1, 80, .inl (fun _ => 0))), (q5, .inl (cs.1, 80, .inl (fun _ => 0))), (q6, .inl (cs.1, 80, .inl (fun _ => 0))), (q7, .inl (cs.1, 4, .inl (fun _ => 0)))]) := hD
  refine lv_aload_n hx hb dX6_init_30 rfl (lv_at hl 0 rfl) ?_
  refine lv_iconst (v := 5) hx hb dX6_init_31 (by decide) ?_
  refine k_new (n := 5) hx hb km hK hP hD hS hA rfl (by decide) (Nat.le_trans (Nat.le_of_ble_eq_true rfl) hRc.1) (Nat.le_trans (Nat.le_of_ble_eq_true rfl) hRc.2) dX6_init_32 (fun q8 H hP hD hS => ?_)
  have hP : va_P D vwCl (X ++ [(h, .inr (4, [.ref q1, .ref q2, .ref q7, .null, .null, .int 0, .int 0])), (q1, .inl (cs.1, 80, .inl (fun _ => 0))), (q2, .inl (cs.2.2, 4, .inr (.inr (.inr (.inr f))))), (q3, .inl (cs.1, 80, .inl (fun _ => 0))), (q4, .inl (cs.1, 80, .inl (fun _ => 0))), (q5, .inl (cs.1, 80, .inl (fun _ => 0))), (q6, .inl (cs.1, 80, .inl (fun _ => 0))), (q7, .inl (cs.1, 4, .inl (fun _ => 0))), (q8, .inl (cs.1, 5, .inl (fun _ => 0)))]) H := hP
  have hD : va_D A (X ++ [(h, .inr (4, [.ref q1, .ref q2, .ref q7, .null, .null, .int 0, .int 0])), (q1, .inl (cs.1, 80, .inl (fun _ => 0))), (q2, .inl (cs.2.2, 4, .inr (.inr (.inr (.inr f))))), (q3, .inl (cs.1, 80, .inl (fun _ => 0))), (q4, .inl (cs.1, 80, .inl (fun _ => 0))), (q5, .inl (cs.1, 80, .inl (fun _ => 0))), (q6, .inl (cs.1, 80, .inl (fun _ => 0))), (q7, .inl (cs.1, 4, .inl (fun _ => 0))), (q8, .inl (cs.1, 5, .inl (fun _ => 0)))]) := hD
  refine W.widen (k := 8) (n := 413) (by decide) (by decide) ?_
  refine k_putF (ci := 4) (C := RX6) (T := TX6) (N := 7) hx hb hts in_RX6 tyX6 tyX6_ok nmX6 hown hK hP hD hS 0 rfl rfl 3 (by decide) (hw _ m1_60) rfl hin rfl (ty := tyX6 3) (tyX6_ok 3 (by decide)) rfl rfl (Nat.le_of_ble_eq_true rfl) dX6_init_34 (fun H locs hP hD hS => ?_)
  have hP : va_P D vwCl (X ++ [(h, .inr (4, [.ref q1, .ref q2, .ref q7, .ref q8, .null, .int 0, .int 0])), (q1, .inl (cs.1, 80, .inl (fun _ => 0))), (q2, .inl (cs.2.2, 4, .inr (.inr (.inr (.inr f))))), (q3, .inl (cs.1, 80, .inl (fun _ => 0))), (q4, .inl (cs.1, 80, .inl (fun _ => 0))), (q5, .inl (cs.1, 80, .inl (fun _ => 0))), (q6, .inl (cs.1, 80, .inl (fun _ => 0))), (q7, .inl (cs.1, 4, .inl (fun _ => 0))), (q8, .inl (cs.1, 5, .inl (fun _ => 0)))]) H := hP
  have hD : va_D A (X ++ [(h, .inr (4, [.ref q1, .ref q2, .ref q7, .ref q8, .null, .int 0, .int 0])), (q1, .inl (cs.1, 80, .inl (fun _ => 0))), (q2, .inl (cs.2.2, 4, .inr (.inr (.inr (.inr f))))), (q3, .inl (cs.1, 80, .inl (fun _ => 0))), (q4, .inl (cs.1, 80, .inl (fun _ => 0))), (q5, .inl (cs.1, 80, .inl (fun _ => 0))), (q6, .inl (cs.1, 80, .inl (fun _ => 0))), (q7, .inl (cs.1, 4, .inl (fun _ => 0))), (q8, .inl (cs.1, 5, .inl (fun _ => 0)))]) := hD
  refine lv_aload_n hx hb dX6_init_37 rfl (lv_at hl 0 rfl) ?_
  refine lv_iconst (v := 5) hx hb dX6_init_38 (by decide) ?_
  refine k_new (n := 5) hx hb km hK hP hD hS hA rfl (by decide) (Nat.le_trans (Nat.le_of_ble_eq_true rfl) hRc.1) (Nat.le_trans (Nat.le_of_ble_eq_true rfl) hRc.2) dX6_init_39 (fun q9 H hP hD hS => ?_)
  have hP : va_P D vwCl (X ++ [(h, .inr (4, [.ref q1, .ref q2, .ref q7, .ref q8, .null, .int 0, .int 0])), (q1, .inl (cs.1, 80, .inl (fun _ => 0))), (q2, .inl (cs.2.2, 4, .inr (.inr (.inr (.inr f))))), (q3, .inl (cs.1, 80, .inl (fun _ => 0))), (q4, .inl (cs.1, 80, .inl (fun _ => 0))), (q5, .inl (cs.1, 80, .inl (fun _ => 0))), (q6, .inl (cs.1, 80, .inl (fun _ => 0))), (q7, .inl (cs.1, 4, .inl (fun _ => 0))), (q8, .inl (cs.1, 5, .inl (fun _ => 0))), (q9, .inl (cs.1, 5, .inl (fun _ => 0)))]) H := hP
  have hD : va_D A (X ++ [(h, .inr (4, [.ref q1, .ref q2, .ref q7, .ref q8, .null, .int 0, .int 0])), (q1, .inl (cs.1, 80, .inl (fun _ => 0))), (q2, .inl (cs.2.2, 4, .inr (.inr (.inr (.inr f))))), (q3, .inl (cs.1, 80, .inl (fun _ => 0))), (q4, .inl (cs.1, 80, .inl (fun _ => 0))), (q5, .inl (cs.1, 80, .inl (fun _ => 0))), (q6, .inl (cs.1, 80, .inl (fun _ => 0))), (q7, .inl (cs.1, 4, .inl (fun _ => 0))), (q8, .inl (cs.1, 5, .inl (fun _ => 0))), (q9, .inl (cs.1, 5, .inl (fun _ => 0)))]) := hD
  refine W.widen (k := 9) (n := 418) (by decide) (by decide) ?_
  refine k_putF (ci := 4) (C := RX6) (T := TX6) (N := 7) hx hb hts in_RX6 tyX6 tyX6_ok nmX6 hown hK hP hD hS 0 rfl rfl 4 (by decide) (hw _ m1_61) rfl hin rfl (ty := tyX6 4) (tyX6_ok 4 (by decide)) rfl rfl (Nat.le_of_ble_eq_true rfl) dX6_init_41 (fun H locs hP hD hS => ?_)
  have hP : va_P D vwCl (X ++ [(h, .inr (4, [.ref q1, .ref q2, .ref q7, .ref q8, .ref q9, .int 0, .int 0])), (q1, .inl (cs.1, 80, .inl (fun _ => 0))), (q2, .inl (cs.2.2, 4, .inr (.inr (.inr (.inr f))))), (q3, .inl (cs.1, 80, .inl (fun _ => 0))), (q4, .inl (cs.1, 80, .inl (fun _ => 0))), (q5, .inl (cs.1, 80, .inl (fun _ => 0))), (q6, .inl (cs.1, 80, .inl (fun _ => 0))), (q7, .inl (cs.1, 4, .inl (fun _ => 0))), (q8, .inl (cs.1, 5, .inl (fun _ => 0))), (q9, .inl (cs.1, 5, .inl (fun _ => 0)))]) H := hP
  have hD : va_D A (X ++ [(h, .inr (4, [.ref q1, .ref q2, .ref q7, .ref q8, .ref q9, .int 0, .int 0])), (q1, .inl (cs.1, 80, .inl (fun _ => 0))), (q2, .inl (cs.2.2, 4, .inr (.inr (.inr (.inr f))))), (q3, .inl (cs.1, 80, .inl (fun _ => 0))), (q4, .inl (cs.1, 80, .inl (fun _ => 0))), (q5, .inl (cs.1, 80, .inl (fun _ => 0))), (q6, .inl (cs.1, 80, .inl (fun _ => 0))), (q7, .inl (cs.1, 4, .inl (fun _ => 0))), (q8, .inl (cs.1, 5, .inl (fun _ => 0))), (q9, .inl (cs.1, 5, .inl (fun _ => 0)))]) := hD
  have hP := k_fnP 2 (fun i => some ((fun j => ([h, q1, q2, q3, q4, q5, q6, q7, q8, q9] : List Nat).getD j 0) (i + 3))) rfl (fun i hi => by rcases (show i = 0 ∨ i = 1 ∨ i = 2 ∨ i = 3 by omega) with rfl | rfl | rfl | rfl <;> first | exact f0 | exact f1 | exact f2 | exact f3) hP
  have hD := k_fnD 2 (fun i => some ((fun j => ([h, q1, q2, q3, q4, q5, q6, q7, q8, q9] : List Nat).getD j 0) (i + 3))) rfl hD
  exact W.vret hx hb hr (fun t ht hW => ⟨⟨(fun j => ([h, q1, q2, q3, q4, q5, q6, q7, q8, q9] : List Nat).getD j 0), rfl, rfl, by rw [ht]; exact hP, hD⟩, hS.F ht⟩) hS.2.2 dX6_init_44
abbrev wsX5_init : List Cond := Cond.code yX5_init cX5_init 1 none :: WG
def lX5_init (cs : Cs) (v : Nat → Nat) : va_W := [((v 0), .inr (3, [.ref (v 1), .ref (v 2), .int 0, .ref (v 3), .ref (v 6)])), ((v 1), .inl (cs.1, 80, .inl (fun _ => 0))), ((v 2), .inl (cs.1, 80, .inl (fun _ => 0))), ((v 3), .inr (0, [.ref (v 4), .int 0, .ref (v 5), .int 0, .int 0])), ((v 4), .inl (cs.1, 320, .inl (fun _ => 0))), ((v 5), .inl (cs.1, 80, .inl (fun _ => 0))), ((v 6), .inr (1, [.ref (v 7), .int 0, .int 0, .ref (v 8), .ref (v 9), .int 0])), ((v 7), .inl (cs.1, 80, .inl (fun _ => 0))), ((v 8), .inl (cs.1, 4, .inl (fun _ => 0))), ((v 9), .inl (cs.1, 80, .inl (fun _ => 0)))]
set_option maxHeartbeats 4000000 in
set_option maxRecDepth 100000 in
theorem ctX5_init (l : Launch) (D : va_G) (cs : Cs) (X : va_W) (h sz : Nat) : Met l yX5_init wsX5_init { frames := 2, cells := 9, slots := 735, locals := 44 } (va_Pc [.ref h] (cPre D cs X 3 [.null, .null, .int 0, .null, .null] h sz)) (cQ D X (lX5_init cs) h (cA X 3 [.null, .null, .int 0, .null, .null] h sz)) 9 735 (cA X 3 [.null, .null, .int 0, .null, .null] h sz) := by
  refine Met.ofW (cc := cX5_init) (maxL := 1) (ret := none) (by decide) rfl ?_
  intro p e s m args below meth c s₁ B hml hv
  obtain ⟨rfl, hsz, hP, hK, hD0, hC⟩ := hv
  have hin : meth.name = "<init>" := (name_of_methodNamed B.named B.method).1
  have CX : CallFix p m c cX5_init 1 s _ wsX5_init RX5 := ⟨B.exec, B.bytes, hml, findClass_of_methodNamed B.named, atoms_spec (ws := wsX5_init) B.pre⟩
  obtain ⟨hx, hb, hml, hown, hts⟩ := id CX
  have hr := B.returns
  have hlk := B.notSynchronized
  have hw : ∀ w ∈ WG, w.before _ s = true := fun w h => hts w (List.mem_cons_of_mem _ h)
  have km := hw _ m1_47
  have hR : 2 ≤ ({ frames := 2, cells := 9, slots := 735, locals := 44 } : Room).frames ∧ 44 ≤ ({ frames := 2, cells := 9, slots := 735, locals := 44 } : Room).locals := ⟨Nat.le_refl _, Nat.le_refl _⟩
  have hRc : 9 ≤ ({ frames := 2, cells := 9, slots := 735, locals := 44 } : Room).cells ∧ 735 ≤ ({ frames := 2, cells := 9, slots := 735, locals := 44 } : Room).slots := ⟨Nat.le_refl _, Nat.le_refl _⟩
  subst hsz
  have hD := hD0.self (sz := s.heap.size)
  generalize hAe : va_A (X ++ [(h, .inr (3, [.null, .null, .int 0, .null, .null]))]) s.heap.size = A at hD
  show W _ _ _ _ _ _ _ _ _ _ _ _ _ _ (MQ _ (cQ D X (lX5_init cs) h (va_A (X ++ [(h, .inr (3, [.null, .null, .int 0, .null, .null]))]) s.heap.size)) _ _ _ _ (va_A (X ++ [(h, .inr (3, [.null, .null, .int 0, .null, .null]))]) s.heap.size)) _
  rw [hAe]
  have hA : ∀ q : Nat, s.heap.size ≤ q → A q := fun q h9 => by rw [← hAe]; exact Or.inr h9
  have hS : va_S A s.heap s.heap [] := va_S.rf
  have hl := lv_entry ([.ref h]) (n := 1) (Nat.le_of_ble_eq_true rfl)
  rw [lg_entry_eq]
  generalize (lg_sl ([.ref h]) ++ List.replicate (1 - (lg_sl ([.ref h])).length) Slot.unset).toArray = ls at hl ⊢
  have hl : lv_has ls 1 [(0, .ref h)] := hl
  skip
  refine lv_aload_n hx hb dX5_init_0 rfl (lv_at hl 0 rfl) ?_
  refine W.objInit hx hb hown (hw _ m1_85) (hw _ m1_28) (hw _ m1_29) rfl (by rw [hml]; exact hl.1) rfl dX5_init_1 (Nat.le_trans (Nat.le_of_ble_eq_true rfl) hR.1) (Nat.le_trans (Nat.le_of_ble_eq_true rfl) hR.2) ?_
  refine W.eq (g2 := F0 m 4 ls []) rfl ?_
  refine lv_aload_n hx hb dX5_init_4 rfl (lv_at hl 0 rfl) ?_
  refine lv_bipush (v := 80) hx hb dX5_init_5 (by decide) ?_
  refine k_new (n := 80) hx hb km hK hP hD hS hA rfl (by decide) (Nat.le_trans (Nat.le_of_ble_eq_true rfl) hRc.1) (Nat.le_trans (Nat.le_of_ble_eq_true rfl) hRc.2) dX5_init_7 (fun q1 H hP hD hS => ?_)
  have hP : va_P D vwCl (X ++ [(h, .inr (3, [.null, .null, .int 0, .null, .null])), (q1, .inl (cs.1, 80, .inl (fun _ => 0)))]) H := hP
  have hD : va_D A (X ++ [(h, .inr (3, [.null, .null, .int 0, .null, .null])), (q1, .inl (cs.1, 80, .inl (fun _ => 0)))]) := hD
  refine W.widen (k := 1) (n := 80) (by decide) (by decide) ?_
  refine k_putF (ci := 3) (C := RX5) (T := TX5) (N := 5) hx hb hts in_RX5 tyX5 tyX5_ok nmX5 hown hK hP hD hS 0 rfl rfl 0 (by decide) (hw _ m1_138) rfl hin rfl (ty := tyX5 0) (tyX5_ok 0 (by decide)) rfl rfl (Nat.le_of_ble_eq_true rfl) dX5_init_9 (fun H locs hP hD hS => ?_)
  have hP : va_P D vwCl (X ++ [(h, .inr (3, [.ref q1, .null, .int 0, .null, .null])), (q1, .inl (cs.1, 80, .inl (fun _ => 0)))]) H := hP
  have hD : va_D A (X ++ [(h, .inr (3, [.ref q1, .null, .int 0, .null, .null])), (q1, .inl (cs.1, 80, .inl (fun _ => 0)))]) := hD
  refine lv_aload_n hx hb dX5_init_12 rfl (lv_at hl 0 rfl) ?_
  refine lv_bipush (v := 80) hx hb dX5_init_13 (by decide) ?_
  refine k_new (n := 80) hx hb km hK hP hD hS hA rfl (by decide) (Nat.le_trans (Nat.le_of_ble_eq_true rfl) hRc.1) (Nat.le_trans (Nat.le_of_ble_eq_true rfl) hRc.2) dX5_init_15 (fun q2 H hP hD hS => ?_)
  have hP : va_P D vwCl (X ++ [(h, .inr (3, [.ref q1, .null, .int 0, .null, .null])), (q1, .inl (cs.1, 80, .inl (fun _ => 0))), (q2, .inl (cs.1, 80, .inl (fun _ => 0)))]) H := hP
  have hD : va_D A (X ++ [(h, .inr (3, [.ref q1, .null, .int 0, .null, .null])), (q1, .inl (cs.1, 80, .inl (fun _ => 0))), (q2, .inl (cs.1, 80, .inl (fun _ => 0)))]) := hD
  refine W.widen (k := 2) (n := 160) (by decide) (by decide) ?_
  refine k_putF (ci := 3) (C := RX5) (T := TX5) (N := 5) hx hb hts in_RX5 tyX5 tyX5_ok nmX5 hown hK hP hD hS 0 rfl rfl 1 (by decide) (hw _ m1_140) rfl hin rfl (ty := tyX5 1) (tyX5_ok 1 (by decide)) rfl rfl (Nat.le_of_ble_eq_true rfl) dX5_init_17 (fun H locs hP hD hS => ?_)
  have hP : va_P D vwCl (X ++ [(h, .inr (3, [.ref q1, .ref q2, .int 0, .null, .null])), (q1, .inl (cs.1, 80, .inl (fun _ => 0))), (q2, .inl (cs.1, 80, .inl (fun _ => 0)))]) H := hP
  have hD : va_D A (X ++ [(h, .inr (3, [.ref q1, .ref q2, .int 0, .null, .null])), (q1, .inl (cs.1, 80, .inl (fun _ => 0))), (q2, .inl (cs.1, 80, .inl (fun _ => 0)))]) := hD
  refine lv_aload_n hx hb dX5_init_20 rfl (lv_at hl 0 rfl) ?_
  refine k_newo (ci := 0) (fs := [.null, .int 0, .null, .int 0, .int 0]) (C := RX1) (T := TX1) (N := 5) hx hb hts in_RX1 tyX1 tyX1_ok hown (hw _ m1_86) (hw _ m1_87) (hw _ m1_5) hK hP hD hS hA rfl (fun j hj => by rcases (show j = 0 ∨ j = 1 ∨ j = 2 ∨ j = 3 ∨ j = 4 by omega) with rfl | rfl | rfl | rfl | rfl <;> rfl) (Nat.le_trans (Nat.le_of_ble_eq_true rfl) hRc.1) (Nat.le_trans (Nat.le_of_ble_eq_true rfl) hRc.2) dX5_init_21 (fun q3 H hP hD hS => ?_)
  have hP : va_P D vwCl (X ++ [(h, .inr (3, [.ref q1, .ref q2, .int 0, .null, .null])), (q1, .inl (cs.1, 80, .inl (fun _ => 0))), (q2, .inl (cs.1, 80, .inl (fun _ => 0))), (q3, .inr (0, [.null, .int 0, .null, .int 0, .int 0]))]) H := hP
  have hD : va_D A (X ++ [(h, .inr (3, [.ref q1, .ref q2, .int 0, .null, .null])), (q1, .inl (cs.1, 80, .inl (fun _ => 0))), (q2, .inl (cs.1, 80, .inl (fun _ => 0))), (q3, .inr (0, [.null, .int 0, .null, .int 0, .int 0]))]) := hD
  refine W.widen (k := 3) (n := 165) (by decide) (by decide) ?_
  refine lv_dup hx hb dX5_init_24 rfl ?_
  have hPc : va_P D vwCl ((X ++ [(h, .inr (3, [.ref q1, .ref q2, .int 0, .null, .null])), (q1, .inl (cs.1, 80, .inl (fun _ => 0))), (q2, .inl (cs.1, 80, .inl (fun _ => 0)))]) ++ [(q3, .inr (0, [.null, .int 0, .null, .int 0, .int 0]))]) H := by rw [List.append_assoc]; exact hP
  have hDc : va_D A ((X ++ [(h, .inr (3, [.ref q1, .ref q2, .int 0, .null, .null])), (q1, .inl (cs.1, 80, .inl (fun _ => 0))), (q2, .inl (cs.1, 80, .inl (fun _ => 0)))]) ++ [(q3, .inr (0, [.null, .int 0, .null, .int 0, .int 0]))]) := by rw [List.append_assoc]; exact hD
  have hFc := cA_free hDc hS hA
  refine va_callv (va_runIN (As := []) (rest := [.ref q3, .ref h]) CX (ctX1_init l D cs (X ++ [(h, .inr (3, [.ref q1, .ref q2, .int 0, .null, .null])), (q1, .inl (cs.1, 80, .inl (fun _ => 0))), (q2, .inl (cs.1, 80, .inl (fun _ => 0)))]) q3 H.size) ⟨va_cnB 0 hts (gwI m1_90) rfl rfl rfl hC.2.2.2.2.2.1 (hw _ m1_5) (by decide +kernel) ⟨Nat.le_trans (Nat.le_of_ble_eq_true rfl) hR.1, Nat.le_trans (Nat.le_of_ble_eq_true rfl) hR.2⟩, rfl, hw _ m1_89⟩ (cPreS hK hPc hDc hC) rfl rfl hl.1 rfl (lv_room (Nat.le_of_ble_eq_true rfl)) dX5_init_25 ⟨Nat.le_trans (Nat.le_of_ble_eq_true rfl) hRc.1, Nat.le_trans (Nat.le_of_ble_eq_true rfl) hRc.2⟩) hS (fun q _ h => hFc q h) hFc (fun u t H1 locs ht hvm hw1 hB hz1 hk1 hS => ?_)
  obtain ⟨v4, rfl⟩ : ∃ z, z = u := ⟨_, rfl⟩
  try dsimp only at hw1
  subst hw1
  obtain ⟨hP1, hD1⟩ := hB
  rw [ht, List.append_assoc] at hP1
  rw [List.append_assoc] at hD1
  generalize H1 = H at hP1 hS ⊢
  have hD1 := hD1.weaken (fun _ _ _ h9 => hFc _ h9)
  have hP : va_P D vwCl (X ++ [(h, .inr (3, [.ref q1, .ref q2, .int 0, .null, .null])), (q1, .inl (cs.1, 80, .inl (fun _ => 0))), (q2, .inl (cs.1, 80, .inl (fun _ => 0))), ((v4 0), .inr (0, [.ref (v4 1), .int 0, .ref (v4 2), .int 0, .int 0])), ((v4 1), .inl (cs.1, 320, .inl (fun _ => 0))), ((v4 2), .inl (cs.1, 80, .inl (fun _ => 0)))]) H := hP1
  have hD : va_D A (X ++ [(h, .inr (3, [.ref q1, .ref q2, .int 0, .null, .null])), (q1, .inl (cs.1, 80, .inl (fun _ => 0))), (q2, .inl (cs.1, 80, .inl (fun _ => 0))), ((v4 0), .inr (0, [.ref (v4 1), .int 0, .ref (v4 2), .int 0, .int 0])), ((v4 1), .inl (cs.1, 320, .inl (fun _ => 0))), ((v4 2), .inl (cs.1, 80, .inl (fun _ => 0)))]) := hD1
  refine W.widen (k := 5) (n := 565) (by decide) (by decide) ?_
  refine k_putF (ci := 3) (C := RX5) (T := TX5) (N := 5) hx hb hts in_RX5 tyX5 tyX5_ok nmX5 hown hK hP hD hS 0 rfl rfl 3 (by decide) (hw _ m1_144) rfl hin rfl (ty := tyX5 3) (tyX5_ok 3 (by decide)) rfl rfl (Nat.le_of_ble_eq_true rfl) dX5_init_28 (fun H locs hP hD hS => ?_)
  have hP : va_P D vwCl (X ++ [(h, .inr (3, [.ref q1, .ref q2, .int 0, .ref (v4 0), .null])), (q1, .inl (cs.1, 80, .inl (fun _ => 0))), (q2, .inl (cs.1, 80, .inl (fun _ => 0))), ((v4 0), .inr (0, [.ref (v4 1), .int 0, .ref (v4 2), .int 0, .int 0])), ((v4 1), .inl (cs.1, 320, .inl (fun _ => 0))), ((v4 2), .inl (cs.1, 80, .inl (fun _ => 0)))]) H := hP
  have hD : va_D A (X ++ [(h, .inr (3, [.ref q1, .ref q2, .int 0, .ref (v4 0), .null])), (q1, .inl (cs.1, 80, .inl (fun _ => 0))), (q2, .inl (cs.1, 80, .inl (fun _ => 0))), ((v4 0), .inr (0, [.ref (v4 1), .int 0, .ref (v4 2), .int 0, .int 0])), ((v4 1), .inl (cs.1, 320, .inl (fun _ => 0))), ((v4 2), .inl (cs.1, 80, .inl (fun _ => 0)))]) := hD
  refine lv_aload_n hx hb dX5_init_31 rfl (lv_at hl 0 rfl) ?_
  refine k_newo (ci := 1) (fs := [.null, .int 0, .int 0, .null, .null, .int 0]) (C := RX3) (T := TX3) (N := 6) hx hb hts in_RX3 tyX3 tyX3_ok hown (hw _ m1_110) (hw _ m1_111) (hw _ m1_6) hK hP hD hS hA rfl (fun j hj => by rcases (show j = 0 ∨ j = 1 ∨ j = 2 ∨ j = 3 ∨ j = 4 ∨ j = 5 by omega) with rfl | rfl | rfl | rfl | rfl | rfl <;> rfl) (Nat.le_trans (Nat.le_of_ble_eq_true rfl) hRc.1) (Nat.le_trans (Nat.le_of_ble_eq_true rfl) hRc.2) dX5_init_32 (fun q5 H hP hD hS => ?_)
  have hP : va_P D vwCl (X ++ [(h, .inr (3, [.ref q1, .ref q2, .int 0, .ref (v4 0), .null])), (q1, .inl (cs.1, 80, .inl (fun _ => 0))), (q2, .inl (cs.1, 80, .inl (fun _ => 0))), ((v4 0), .inr (0, [.ref (v4 1), .int 0, .ref (v4 2), .int 0, .int 0])), ((v4 1), .inl (cs.1, 320, .inl (fun _ => 0))), ((v4 2), .inl (cs.1, 80, .inl (fun _ => 0))), (q5, .inr (1, [.null, .int 0, .int 0, .null, .null, .int 0]))]) H := hP
  have hD : va_D A (X ++ [(h, .inr (3, [.ref q1, .ref q2, .int 0, .ref (v4 0), .null])), (q1, .inl (cs.1, 80, .inl (fun _ => 0))), (q2, .inl (cs.1, 80, .inl (fun _ => 0))), ((v4 0), .inr (0, [.ref (v4 1), .int 0, .ref (v4 2), .int 0, .int 0])), ((v4 1), .inl (cs.1, 320, .inl (fun _ => 0))), ((v4 2), .inl (cs.1, 80, .inl (fun _ => 0))), (q5, .inr (1, [.null, .int 0, .int 0, .null, .null, .int 0]))]) := hD
  refine W.widen (k := 6) (n := 571) (by decide) (by decide) ?_
  refine lv_dup hx hb dX5_init_35 rfl ?_
  have hPc : va_P D vwCl ((X ++ [(h, .inr (3, [.ref q1, .ref q2, .int 0, .ref (v4 0), .null])), (q1, .inl (cs.1, 80, .inl (fun _ => 0))), (q2, .inl (cs.1, 80, .inl (fun _ => 0))), ((v4 0), .inr (0, [.ref (v4 1), .int 0, .ref (v4 2), .int 0, .int 0])), ((v4 1), .inl (cs.1, 320, .inl (fun _ => 0))), ((v4 2), .inl (cs.1, 80, .inl (fun _ => 0)))]) ++ [(q5, .inr (1, [.null, .int 0, .int 0, .null, .null, .int 0]))]) H := by rw [List.append_assoc]; exact hP
  have hDc : va_D A ((X ++ [(h, .inr (3, [.ref q1, .ref q2, .int 0, .ref (v4 0), .null])), (q1, .inl (cs.1, 80, .inl (fun _ => 0))), (q2, .inl (cs.1, 80, .inl (fun _ => 0))), ((v4 0), .inr (0, [.ref (v4 1), .int 0, .ref (v4 2), .int 0, .int 0])), ((v4 1), .inl (cs.1, 320, .inl (fun _ => 0))), ((v4 2), .inl (cs.1, 80, .inl (fun _ => 0)))]) ++ [(q5, .inr (1, [.null, .int 0, .int 0, .null, .null, .int 0]))]) := by rw [List.append_assoc]; exact hD
  have hFc := cA_free hDc hS hA
  refine va_callv (va_runIN (As := []) (rest := [.ref q5, .ref h]) CX (ctX3_init l D cs (X ++ [(h, .inr (3, [.ref q1, .ref q2, .int 0, .ref (v4 0), .null])), (q1, .inl (cs.1, 80, .inl (fun _ => 0))), (q2, .inl (cs.1, 80, .inl (fun _ => 0))), ((v4 0), .inr (0, [.ref (v4 1), .int 0, .ref (v4 2), .int 0, .int 0])), ((v4 1), .inl (cs.1, 320, .inl (fun _ => 0))), ((v4 2), .inl (cs.1, 80, .inl (fun _ => 0)))]) q5 H.size) ⟨va_cnB 0 hts (gwI m1_114) rfl rfl rfl hC.2.2.2.2.2.2 (hw _ m1_6) (by decide +kernel) ⟨Nat.le_trans (Nat.le_of_ble_eq_true rfl) hR.1, Nat.le_trans (Nat.le_of_ble_eq_true rfl) hR.2⟩, rfl, hw _ m1_113⟩ (cPreS hK hPc hDc hC) rfl rfl hl.1 rfl (lv_room (Nat.le_of_ble_eq_true rfl)) dX5_init_36 ⟨Nat.le_trans (Nat.le_of_ble_eq_true rfl) hRc.1, Nat.le_trans (Nat.le_of_ble_eq_true rfl) hRc.2⟩) hS (fun q _ h => hFc q h) hFc (fun u t H1 locs ht hvm hw1 hB hz1 hk1 hS => ?_)
  obtain ⟨v6, rfl⟩ : ∃ z, z = u := ⟨_, rfl⟩
  try dsimp only at hw1
  subst hw1
  obtain ⟨hP1, hD1⟩ := hB
  rw [ht, List.append_assoc] at hP1
  rw [List.append_assoc] at hD1
  generalize H1 = H at hP1 hS ⊢
  have hD1 := hD1.weaken (fun _ _ _ h9 => hFc _ h9)
  have hP : va_P D vwCl (X ++ [(h, .inr (3, [.ref q1, .ref q2, .int 0, .ref (v4 0), .null])), (q1, .inl (cs.1, 80, .inl (fun _ => 0))), (q2, .inl (cs.1, 80, .inl (fun _ => 0))), ((v4 0), .inr (0, [.ref (v4 1), .int 0, .ref (v4 2), .int 0, .int 0])), ((v4 1), .inl (cs.1, 320, .inl (fun _ => 0))), ((v4 2), .inl (cs.1, 80, .inl (fun _ => 0))), ((v6 0), .inr (1, [.ref (v6 1), .int 0, .int 0, .ref (v6 2), .ref (v6 3), .int 0])), ((v6 1), .inl (cs.1, 80, .inl (fun _ => 0))), ((v6 2), .inl (cs.1, 4, .inl (fun _ => 0))), ((v6 3), .inl (cs.1, 80, .inl (fun _ => 0)))]) H := hP1
  have hD : va_D A (X ++ [(h, .inr (3, [.ref q1, .ref q2, .int 0, .ref (v4 0), .null])), (q1, .inl (cs.1, 80, .inl (fun _ => 0))), (q2, .inl (cs.1, 80, .inl (fun _ => 0))), ((v4 0), .inr (0, [.ref (v4 1), .int 0, .ref (v4 2), .int 0, .int 0])), ((v4 1), .inl (cs.1, 320, .inl (fun _ => 0))), ((v4 2), .inl (cs.1, 80, .inl (fun _ => 0))), ((v6 0), .inr (1, [.ref (v6 1), .int 0, .int 0, .ref (v6 2), .ref (v6 3), .int 0])), ((v6 1), .inl (cs.1, 80, .inl (fun _ => 0))), ((v6 2), .inl (cs.1, 4, .inl (fun _ => 0))), ((v6 3), .inl (cs.1, 80, .inl (fun _ => 0)))]) := hD1
  refine W.widen (k := 9) (n := 735) (by decide) (by decide) ?_
  refine k_putF (ci := 3) (C := RX5) (T := TX5) (N := 5) hx hb hts in_RX5 tyX5 tyX5_ok nmX5 hown hK hP hD hS 0 rfl rfl 4 (by decide) (hw _ m1_146) rfl hin rfl (ty := tyX5 4) (tyX5_ok 4 (by decide)) rfl rfl (Nat.le_of_ble_eq_true rfl) dX5_init_39 (fun H locs hP hD hS => ?_)
  have hP : va_P D vwCl (X ++ [(h, .inr (3, [.ref q1, .ref q2, .int 0, .ref (v4 0), .ref (v6 0)])), (q1, .inl (cs.1, 80, .inl (fun _ => 0))), (q2, .inl (cs.1, 80, .inl (fun _ => 0))), ((v4 0), .inr (0, [.ref (v4 1), .int 0, .ref (v4 2), .int 0, .int 0])), ((v4 1), .inl (cs.1, 320, .inl (fun _ => 0))), ((v4 2), .inl (cs.1, 80, .inl (fun _ => 0))), ((v6 0), .inr (1, [.ref (v6 1), .int 0, .int 0, .ref (v6 2), .ref (v6 3), .int 0])), ((v6 1), .inl (cs.1, 80, .inl (fun _ => 0))), ((v6 2), .inl (cs.1, 4, .inl (fun _ => 0))), ((v6 3), .inl (cs.1, 80, .inl (fun _ => 0)))]) H := hP
  have hD : va_D A (X ++ [(h, .inr (3, [.ref q1, .ref q2, .int 0, .ref (v4 0), .ref (v6 0)])), (q1, .inl (cs.1, 80, .inl (fun _ => 0))), (q2, .inl (cs.1, 80, .inl (fun _ => 0))), ((v4 0), .inr (0, [.ref (v4 1), .int 0, .ref (v4 2), .int 0, .int 0])), ((v4 1), .inl (cs.1, 320, .inl (fun _ => 0))), ((v4 2), .inl (cs.1, 80, .inl (fun _ => 0))), ((v6 0), .inr (1, [.ref (v6 1), .int 0, .int 0, .ref (v6 2), .ref (v6 3), .int 0])), ((v6 1), .inl (cs.1, 80, .inl (fun _ => 0))), ((v6 2), .inl (cs.1, 4, .inl (fun _ => 0))), ((v6 3), .inl (cs.1, 80, .inl (fun _ => 0)))]) := hD
  exact W.vret hx hb hr (fun t ht hW => ⟨⟨(fun j => ([h, q1, q2, (v4 0), (v4 1), (v4 2), (v6 0), (v6 1), (v6 2), (v6 3)] : List Nat).getD j 0), rfl, rfl, by rw [ht]; exact hP, hD⟩, hS.F ht⟩) hS.2.2 dX5_init_42
