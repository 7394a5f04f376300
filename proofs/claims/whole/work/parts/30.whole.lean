/-! THE LAW FROM ITS ENTRY, out of Agree -/
set_option maxHeartbeats 8000000 in
set_option maxRecDepth 100000 in
theorem whole_of {Rel : Mm → Mm → Prop} (AG : Agree Rel) {p : Program} {e : Env} {s : State} {m : MethodId} {below : List Frame} {meth : Method} {c : Code} (l : Launch) (hfl : l.stackTraces = false) {b L : Nat} {xs : Nat → Int32} (hL : L ≤ 1536) (hx : p.tables.exec = Jvm.exec) (hb : c.code = code) (hml : c.maxLocals = 9) (hown : s.vm.findClass RL = some m.cls) (hts0 : ∀ w ∈ lw_tbl, w.before #[Value.ref b] s = true) (hX : va_X b L xs s s.heap) (hbl : b < s.heap.size) (hgv : (Jvm.Cond.and given_1 narrow_1).before #[Value.ref b] s = true) {Q : State → Prop} (fin : ∀ (H : Heap) (ls : Array Slot), W p l e room_1 s m #[Value.ref b] below meth c H [] 601024 7293034 Q (F0 m 1677 ls [])) : W p l e room_1 s m #[Value.ref b] below meth c s.heap [] 0 0 Q (entryFrame m ([Value.ref b] : List Value).toArray 9) := by
  have hts : ∀ w ∈ Cond.arrayClass .int :: WG, w.before #[Value.ref b] s = true := fun w h => by
    rcases List.mem_cons.mp h with rfl | h
    · exact hts0 _ (WG_lw m1_48)
    · exact hts0 _ (WG_lw h)
  have hw : ∀ w ∈ WG, w.before #[Value.ref b] s = true := fun w h => hts0 _ (WG_lw h)
  have hf := flat_of_before _ hgv
  obtain ⟨D, cs, hK⟩ := K_of hts0
  obtain ⟨sw, hSW⟩ := SW_of hf hts0 (hK.1 5 _ rfl).2.1
  have hC := CW_of hts0
  have CX : CallFix p m c code 9 s #[Value.ref b] (Cond.arrayClass .int :: WG) RL := ⟨hx, hb, hml, hown, hts⟩
  have hA : ∀ q : Nat, s.heap.size ≤ q → AL s q := fun _ h => h
  have hS : va_S (AL s) s.heap s.heap [] := va_S.rf
  have hP : va_P D vwCl ([] ++ []) s.heap := fun k q h => by simp at h
  have hD : va_D (AL s) ([] ++ []) := ⟨fun i j p q h => by simp at h, fun k q h => by simp at h⟩
  have hl := lv_entry ([.ref b]) (n := 9) (Nat.le_of_ble_eq_true rfl)
  rw [lg_entry_eq]
  generalize (lg_sl ([.ref b]) ++ List.replicate (9 - (lg_sl ([.ref b])).length) Slot.unset).toArray = ls at hl ⊢
  have hl : lv_has ls 9 [(0, .ref b)] := hl
  refine k_newo (X := []) (lx := []) (ci := 5) (fs := [.null, .null, .null, .null, .int 0]) (C := RX7) (T := TX7) (N := 5) hx hb hts in_RX7 tyX7 tyX7_ok hown (hw _ m1_23) (hw _ m1_24) (hw _ m1_1) hK hP hD hS hA rfl (fun j hj => by rcases (show j = 0 ∨ j = 1 ∨ j = 2 ∨ j = 3 ∨ j = 4 by omega) with rfl | rfl | rfl | rfl | rfl <;> rfl) (Nat.le_of_ble_eq_true rfl) (Nat.le_of_ble_eq_true rfl) dL_law_0 (fun h7 H hP hD hS => ?_)
  refine lv_dup hx hb dL_law_3 rfl ?_
  have hFc := cA_free (ws := [] ++ [(h7, .inr (5, [.null, .null, .null, .null, .int 0]))]) hD hS hA
  refine va_callv (va_runI (As := []) (rest := [.ref h7]) CX (ctX7_init l D cs [] h7 H.size) (cwI 0 hts (gwI m1_27) rfl rfl rfl (hw _ m1_1) (hw _ m1_25) (hw _ m1_26) rfl (by decide +kernel) ⟨Nat.le_of_ble_eq_true rfl, Nat.le_of_ble_eq_true rfl⟩) (cPreS hK hP hD hC) rfl rfl hl.1 rfl (lv_room (Nat.le_of_ble_eq_true rfl)) dL_law_4 ⟨Nat.le_of_ble_eq_true rfl, Nat.le_of_ble_eq_true rfl⟩) hS (fun q _ h => hFc q h) hFc (fun u t H1 locs ht hvm hw1 hB hz1 hk1 hS => ?_)
  obtain ⟨va, vb_, vq, vg, vw⟩ := u
  obtain ⟨hPa, hDa⟩ := hB
  rw [ht] at hPa
  have hPb := w7_P hPa
  have hDb := w7_D (hDa.weaken (fun _ _ _ h9 => hFc _ h9))
  obtain ⟨ad, had⟩ : ∃ ad, ad = ad7 h7 va vb_ vq vg vw := ⟨_, rfl⟩
  have h0 : h7 = ad 0 := by rw [had]; rfl
  dsimp only at hPb hDb
  rw [← had] at hPb hDb
  rw [List.append_nil] at hPb hDb
  rw [h0]
  generalize H1 = H at hPb hS ⊢
  refine W.widen (k := 200) (n := 14000) (by decide) (by decide) ?_
  refine lv_astore_n (lv' := [(1, .ref (ad 0)), (0, .ref b)]) hx hb dL_law_7 rfl hl (by decide) rfl (fun ls hl => ?_)
  refine k_newo (X := wl cs LC NC ad M0) (lx := []) (ci := 6) (fs := [.int 0, .int 0, .null, .null, .null, .null, .null, .null, .null, .null, .null, .int 0, .null, .int 0, .null]) (C := RX8) (T := TX8) (N := 15) hx hb hts in_RX8 tyX8 tyX8_ok hown (hw _ m4_110) (hw _ m4_111) (hw _ m1_7) hK (by rw [List.append_nil]; exact hPb) (by rw [List.append_nil]; exact hDb) hS hA rfl (fun j hj => by rcases (show j = 0 ∨ j = 1 ∨ j = 2 ∨ j = 3 ∨ j = 4 ∨ j = 5 ∨ j = 6 ∨ j = 7 ∨ j = 8 ∨ j = 9 ∨ j = 10 ∨ j = 11 ∨ j = 12 ∨ j = 13 ∨ j = 14 by omega) with rfl | rfl | rfl | rfl | rfl | rfl | rfl | rfl | rfl | rfl | rfl | rfl | rfl | rfl | rfl <;> rfl) (Nat.le_of_ble_eq_true rfl) (Nat.le_of_ble_eq_true rfl) dL_law_8 (fun h8 H hP hD hS => ?_)
  refine lv_dup hx hb dL_law_11 rfl ?_
  have hFc := cA_free (ws := wl cs LC NC ad M0 ++ [(h8, .inr (6, [.int 0, .int 0, .null, .null, .null, .null, .null, .null, .null, .null, .null, .int 0, .null, .int 0, .null]))]) hD hS hA
  refine va_callv (va_runI (As := []) (rest := [.ref h8]) CX (ctX8_init l D cs (wl cs LC NC ad M0) h8 H.size) (cwI 0 hts (gwI m4_114) rfl rfl rfl (hw _ m1_7) (hw _ m4_112) (hw _ m4_113) rfl (by decide +kernel) ⟨Nat.le_of_ble_eq_true rfl, Nat.le_of_ble_eq_true rfl⟩) (cPreS hK hP hD hC) rfl rfl hl.1 rfl (lv_room (Nat.le_of_ble_eq_true rfl)) dL_law_12 ⟨Nat.le_of_ble_eq_true rfl, Nat.le_of_ble_eq_true rfl⟩) hS (fun q _ h => hFc q h) hFc (fun am t H1 locs ht hvm hw1 hB hz1 hk1 hS => ?_)
  obtain ⟨hPa2, hDa2⟩ := hB
  rw [ht] at hPa2
  have hDb2 := hDa2.weaken (fun _ _ _ h9 => hFc _ h9)
  have hw1 : h8 = am 0 := (show am 0 = h8 from hw1).symm
  have hPc : va_P D vwCl (wl cs LC NC ad M0 ++ wl cs LM NM am M0) H1 := hPa2
  have hDc : va_D (AL s) (wl cs LC NC ad M0 ++ wl cs LM NM am M0) := hDb2
  rw [hw1]
  generalize H1 = H at hPc hS ⊢
  refine W.widen (k := 300) (n := 30000) (by decide) (by decide) ?_
  refine lv_astore_n (lv' := [(2, .ref (am 0)), (1, .ref (ad 0)), (0, .ref b)]) hx hb dL_law_15 rfl hl (by decide) rfl (fun ls hl => ?_)
  refine lv_iconst (v := 1) hx hb dL_law_16 (by decide) ?_
  refine va_newa (atype := .long) (ty := .long) (N' := 1) (a0 := (1, .inr (.inl (fun _ => 0)))) hx hb (hw _ m5_238) rfl hK hPc hDc hS hA (fun cA => vp_cell_l cA 1 (fun _ => 0)) (by decide) (by decide) (by decide) (Nat.le_of_ble_eq_true rfl) (Nat.le_of_ble_eq_true rfl) dL_law_17 (fun o cL H hK1 hP hD hS => ?_)
  refine lv_astore_n (lv' := [(3, .ref o), (2, .ref (am 0)), (1, .ref (ad 0)), (0, .ref b)]) hx hb dL_law_19 rfl hl (by decide) rfl (fun ls hl => ?_)
  refine lv_iconst (v := 1) hx hb dL_law_20 (by decide) ?_
  refine va_newa (atype := .double) (ty := .double) (N' := 1) (a0 := (1, .inr (.inr (.inr (.inl (fun _ => 0)))))) hx hb (hw _ m5_239) rfl hK hP hD hS hA (fun cA => vp_cell_d cA 1 (fun _ => 0)) (by decide) (by decide) (by decide) (Nat.le_of_ble_eq_true rfl) (Nat.le_of_ble_eq_true rfl) dL_law_21 (fun od cD H hK2 hP hD hS => ?_)
  refine lv_astore (lv' := [(4, .ref od), (3, .ref o), (2, .ref (am 0)), (1, .ref (ad 0)), (0, .ref b)]) hx hb dL_law_23 hl (by decide) rfl (fun ls hl => ?_)
  refine lv_iconst (v := 0) hx hb dL_law_25 (by decide) ?_
  refine lv_istore (lv' := [(5, .int 0), (4, .ref od), (3, .ref o), (2, .ref (am 0)), (1, .ref (ad 0)), (0, .ref b)]) hx hb dL_law_26 hl (by decide) rfl (fun ls hl => ?_)
  have hKL : va_K D vwCl (tysL (cL, cD)) s := ⟨hK.1, fun k q hq => by
    match k, hq with
    | 0, hq => cases hq; exact hK1.2 3 _ rfl
    | 1, hq => cases hq; exact hK2.2 3 _ rfl
    | k + 2, hq => simp at hq⟩
  refine W.widen (k := 900 + 16 * 0) (n := 90000 + 1400 * 0) (by decide) (by decide) ?_
  refine law_loop (cq := (cL, cD)) (ad := ad) (am := am) (o := o) (od := od) ⟨CX, hX, hbl, hK, hKL, hSW, hfl⟩ hL AG (c0 := 900) (s0 := 90000) (by decide) (by decide) fin 1001 0 (by decide) (by decide) M0 M0 AG.1 (fun _ => 0) (fun _ => 0) H locs ls ?_ ?_ hS ?_
  · rw [List.append_assoc, List.append_assoc] at hP; exact hP
  · rw [List.append_assoc, List.append_assoc] at hD; exact hD
  · exact lv_sub hl [0, 5, 4, 3, 2, 1] rfl
