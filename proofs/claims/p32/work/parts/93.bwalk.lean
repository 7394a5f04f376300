/-! BUILD over the machine: what stands while it runs -/
abbrev wsL_build : List Cond := Cond.code yL_build cL_build 21 (some .int) :: WG
def BK (l : Launch) (p : Program) (R : Room) (s : State) (m : MethodId) (args : Array Value) (c : Code) (A : Nat → Prop) (D : va_G) (sw : Sw) (cs : Cs) (cT : ClassId) (b L : Nat) (xs : Nat → Int32) : Prop :=
  CallFix p m c cL_build 21 s args wsL_build RL ∧ (va_X b L xs s s.heap ∧ L < 2 ^ 31) ∧ b < s.heap.size ∧ ¬ A b ∧ va_K D vwCl (tysC cs) s ∧ va_K D vwCl (tysC cs ++ [(cT, .object "java/lang/String")]) s ∧ SW sw A s s.heap ∧ l.stackTraces = false ∧ (∀ q, s.heap.size ≤ q → A q) ∧ (20 ≤ R.frames ∧ 400 ≤ R.locals)
abbrev xB (cs : Cs) (cT : ClassId) (sw : Sw) (o q1 q2 : Nat) (f g : Nat → Int32) : va_W := [(o, .inl (cs.1, 80, .inl f)), (q1, .inl (cT, 14, .inr (.inr (.inr (.inr (fun i => some (sw.1 (15 + i)))))))), (q2, .inl (cs.1, 6, .inl g))]
section BROWS
variable {p : Program} {l : Launch} {e : Env} {R : Room} {s : State} {m : MethodId} {args : Array Value} {below : List Frame} {meth : Method} {c : Code} {H H0 : Heap} {locs : List Loc} {cells slots : Nat} {Q : State → Prop} {cc : ByteArray} {pc : Nat} {ls : Array Slot} {rest : List Value} {D : va_G} {A : Nat → Prop} {sw : Sw} {cs : Cs} {cT : ClassId} {ad : Nat → Nat} {M : Mm} {o q1 q2 : Nat} {f g : Nat → Int32}
theorem b_sti (hx : p.tables.exec = Jvm.exec) (hb : c.code = cc) (hK : va_K D vwCl (tysC cs) s) (hP : va_P D vwCl (wl cs LC NC ad M ++ xB cs cT sw o q1 q2 f g) H) (hD : va_D A (wl cs LC NC ad M ++ xB cs cT sw o q1 q2 f g)) (hS : va_S A H0 H locs) {n : Nat} {v : Int32} (hn : n < 80) (hdg : decode cc pc = .ok (.iastore, 1))
    (kk : ∀ (H1 : Heap) (locs1 : List Loc), va_P D vwCl (wl cs LC NC ad M ++ xB cs cT sw o q1 q2 (upd f n v) g) H1 → va_D A (wl cs LC NC ad M ++ xB cs cT sw o q1 q2 (upd f n v) g) → va_S A H0 H1 locs1 → W p l e R s m args below meth c H1 locs1 cells slots Q (F0 m (pc + 1) ls rest)) : W p l e R s m args below meth c H locs cells slots Q (F0 m pc ls (.int v :: .int (nI n) :: .ref o :: rest)) := by
  refine va_iast hx hb hK hP hD hS (NC + 0) 0 (wx_get rfl) rfl (nI_in hn (by decide)) hdg (fun H1 locs1 hP1 hD1 hS1 => ?_)
  rw [wx_set, cI (by omega)] at hP1 hD1
  exact kk H1 locs1 hP1 hD1 hS1
theorem b_sto (hx : p.tables.exec = Jvm.exec) (hb : c.code = cc) (hK : va_K D vwCl (tysC cs) s) (hP : va_P D vwCl (wl cs LC NC ad M ++ xB cs cT sw o q1 q2 f g) H) (hD : va_D A (wl cs LC NC ad M ++ xB cs cT sw o q1 q2 f g)) (hS : va_S A H0 H locs) {n : Nat} {v : Int32} (hn : n < 6) (hdg : decode cc pc = .ok (.iastore, 1))
    (kk : ∀ (H1 : Heap) (locs1 : List Loc), va_P D vwCl (wl cs LC NC ad M ++ xB cs cT sw o q1 q2 f (upd g n v)) H1 → va_D A (wl cs LC NC ad M ++ xB cs cT sw o q1 q2 f (upd g n v)) → va_S A H0 H1 locs1 → W p l e R s m args below meth c H1 locs1 cells slots Q (F0 m (pc + 1) ls rest)) : W p l e R s m args below meth c H locs cells slots Q (F0 m pc ls (.int v :: .int (nI n) :: .ref q2 :: rest)) := by
  refine va_iast hx hb hK hP hD hS (NC + 2) 0 (wx_get rfl) rfl (nI_in hn (by decide)) hdg (fun H1 locs1 hP1 hD1 hS1 => ?_)
  rw [wx_set, cI (by omega)] at hP1 hD1
  exact kk H1 locs1 hP1 hD1 hS1
theorem b_ldo (hx : p.tables.exec = Jvm.exec) (hb : c.code = cc) (hK : va_K D vwCl (tysC cs) s) (hP : va_P D vwCl (wl cs LC NC ad M ++ xB cs cT sw o q1 q2 f g) H) {n : Nat} (hn : n < 6) (hdg : decode cc pc = .ok (.iaload, 1))
    (kk : W p l e R s m args below meth c H locs cells slots Q (F0 m (pc + 1) ls (.int (g n) :: rest))) : W p l e R s m args below meth c H locs cells slots Q (F0 m pc ls (.int (nI n) :: .ref q2 :: rest)) := by
  refine va_iald hx hb hK hP (NC + 2) 0 (wx_get rfl) rfl (nI_in hn (by decide)) hdg ?_
  rw [cI (by omega)]
  exact kk
theorem b_lds (hx : p.tables.exec = Jvm.exec) (hb : c.code = cc) (hKT : va_K D vwCl (tysC cs ++ [(cT, .object "java/lang/String")]) s) (hP : va_P D vwCl (wl cs LC NC ad M ++ xB cs cT sw o q1 q2 f g) H) {j : Nat} (hj : j < 14) (hdg : decode cc pc = .ok (.aaload, 1))
    (kk : W p l e R s m args below meth c H locs cells slots Q (F0 m (pc + 1) ls (.ref (sw.1 (15 + j)) :: rest))) : W p l e R s m args below meth c H locs cells slots Q (F0 m pc ls (.int (nI j) :: .ref q1 :: rest)) := by
  refine va_aldq hx hb hKT hP (NC + 1) 3 (wx_get rfl) rfl (nI_in hj (by decide)) hdg ?_
  rw [cI (by omega)]
  exact kk
end BROWS
theorem o_len {n : Nat} (h : n ≤ 5) : n < 2 ^ 31 := by omega
set_option maxHeartbeats 4000000 in
set_option maxRecDepth 100000 in
theorem bb_tail {p : Program} {l : Launch} {e : Env} {R : Room} {s : State} {m : MethodId} {args : Array Value} {below : List Frame} {meth : Method} {c : Code} {Q : State → Prop} {A : Nat → Prop} {D : va_G} {sw : Sw} {cs : Cs} {cT : ClassId} {b L : Nat} {xs : Nat → Int32} (K : BK l p R s m args c A D sw cs cT b L xs) {ad : Nat → Nat} {o q1 q2 P k : Nat} {c0 s0 : Nat} (hcs : c0 + 100 ≤ R.cells) (hss : s0 + 1000 ≤ R.slots) {M : Mm} {n : Nat} {cd : Nat → Nat} {u : List (Nat × Bool)} {f g : Nat → Int32} (hB : BI M n cd u f g) (hn : n ≤ 60) {H : Heap} {locs : List Loc} {ls : Array Slot} (hP : va_P D vwCl (wl cs LC NC ad M ++ xB cs cT sw o q1 q2 f g) H) (hD : va_D A (wl cs LC NC ad M ++ xB cs cT sw o q1 q2 f g)) (hS : va_S A s.heap H locs) (hl : lv_has ls 21 [(6, .int (nI n)), (7, .int (nI u.length)), (10, .int (nI k)), (0, .ref (ad 0)), (1, .ref b), (2, .int 0), (3, .int 60), (4, .ref o), (5, .ref q1), (8, .ref q2), (9, .int (nI P))]) (kk : ∀ (M : Mm) (n : Nat) (cd : Nat → Nat) (u : List (Nat × Bool)) (f g : Nat → Int32) (H : Heap) (locs : List Loc) (ls : Array Slot), BI M n cd u f g → n ≤ 60 → va_P D vwCl (wl cs LC NC ad M ++ xB cs cT sw o q1 q2 f g) H → va_D A (wl cs LC NC ad M ++ xB cs cT sw o q1 q2 f g) → va_S A s.heap H locs → lv_has ls 21 [(6, .int (nI n)), (7, .int (nI u.length)), (10, .int (nI k)), (0, .ref (ad 0)), (1, .ref b), (2, .int 0), (3, .int 60), (4, .ref o), (5, .ref q1), (8, .ref q2), (9, .int (nI P))] → W p l e R s m args below meth c H locs (c0 + 100) (s0 + 1000) Q (F0 m 593 ls [])) : W p l e R s m args below meth c H locs c0 s0 Q (F0 m 582 ls []) := by
  obtain ⟨CX, hX, hbl, hbA, hK, hKT, hSW, hfl, hA, hR⟩ := id K
  obtain ⟨hx, hb, hml, hown, hts⟩ := id CX
  have hw : ∀ w ∈ WG, w.before args s = true := fun w h => hts w (List.mem_cons_of_mem _ h)
  refine lv_aload_n hx hb dL_build_582 rfl (lv_at hl 3 rfl) ?_
  refine r_calli (r := (nI u.length)) (W.runV (As := []) (rest := []) CX (ctX7_unfinished l D sw cs ad (xB cs cT sw o q1 q2 f g) M  (k_unfinished hB.1 hB.2.1)) (cwV 0 hts (gwV m4_4 m4_5 m4_6 m1_1 m4_7) rfl rfl rfl (by decide +kernel) ⟨Nat.le_trans (Nat.le_of_ble_eq_true rfl) hR.1, Nat.le_trans (Nat.le_of_ble_eq_true rfl) hR.2⟩) (rPreV (hSW.wr hS) hK hP (by decide) rfl rfl _) rfl rfl hl.1 rfl (lv_room (Nat.le_of_ble_eq_true rfl)) dL_build_583 ⟨Nat.le_trans (show _ ≤ c0 + 100 by omega) hcs, Nat.le_trans (show _ ≤ s0 + 1000 by omega) hss⟩) ?_
  refine lv_iload hx hb dL_build_586 (lv_at hl 1 rfl) ?_
  refine lv_icmp_eq (tgt := 593) hx hb dL_build_588 (by decide) (fun _ => ?_) (fun h9 => absurd (rfl) h9)
  refine W.widen (k := c0 + 100) (n := s0 + 1000) (by omega) (by omega) ?_
  exact kk M n cd u f g H locs ls hB hn hP hD hS (lv_sub hl [0, 1, 2, 3, 4, 5, 6, 7, 8, 9, 10] rfl)
set_option maxHeartbeats 4000000 in
set_option maxRecDepth 100000 in
theorem bb_when {p : Program} {l : Launch} {e : Env} {R : Room} {s : State} {m : MethodId} {args : Array Value} {below : List Frame} {meth : Method} {c : Code} {Q : State → Prop} {A : Nat → Prop} {D : va_G} {sw : Sw} {cs : Cs} {cT : ClassId} {b L : Nat} {xs : Nat → Int32} (K : BK l p R s m args c A D sw cs cT b L xs) {ad : Nat → Nat} {o q1 q2 P k : Nat} {c0 s0 : Nat} (hcs : c0 + 100 ≤ R.cells) (hss : s0 + 1000 ≤ R.slots) {M : Mm} {n : Nat} {cd : Nat → Nat} {u : List (Nat × Bool)} {f g : Nat → Int32} (hB : BI M n cd u f g) {x : Int32} {w ft on : Nat} (hf : ft < 4) (ho : on ≤ 1) (hn : n < 60) (h5 : u.length < 5) {H : Heap} {locs : List Loc} {ls : Array Slot} (hP : va_P D vwCl (wl cs LC NC ad M ++ xB cs cT sw o q1 q2 f g) H) (hD : va_D A (wl cs LC NC ad M ++ xB cs cT sw o q1 q2 f g)) (hS : va_S A s.heap H locs) (hl : lv_has ls 21 [(6, .int (nI n)), (7, .int (nI u.length)), (10, .int (nI k)), (0, .ref (ad 0)), (1, .ref b), (2, .int 0), (3, .int 60), (4, .ref o), (5, .ref q1), (8, .ref q2), (9, .int (nI P)), (11, .int x), (12, .int (nI w)), (13, .int (nI ft)), (14, .int (nI on))]) (kk : ∀ (M : Mm) (n : Nat) (cd : Nat → Nat) (u : List (Nat × Bool)) (f g : Nat → Int32) (H : Heap) (locs : List Loc) (ls : Array Slot), BI M n cd u f g → n ≤ 60 → va_P D vwCl (wl cs LC NC ad M ++ xB cs cT sw o q1 q2 f g) H → va_D A (wl cs LC NC ad M ++ xB cs cT sw o q1 q2 f g) → va_S A s.heap H locs → lv_has ls 21 [(6, .int (nI n)), (7, .int (nI u.length)), (10, .int (nI k)), (0, .ref (ad 0)), (1, .ref b), (2, .int 0), (3, .int 60), (4, .ref o), (5, .ref q1), (8, .ref q2), (9, .int (nI P))] → W p l e R s m args below meth c H locs (c0 + 100) (s0 + 1000) Q (F0 m 582 ls [])) : W p l e R s m args below meth c H locs c0 s0 Q (F0 m 382 ls []) := by
  obtain ⟨CX, hX, hbl, hbA, hK, hKT, hSW, hfl, hA, hR⟩ := id K
  obtain ⟨hx, hb, hml, hown, hts⟩ := id CX
  have hw : ∀ w ∈ WG, w.before args s = true := fun w h => hts w (List.mem_cons_of_mem _ h)
  refine lv_aload hx hb dL_build_382 (lv_at hl 7 rfl) ?_
  refine lv_iload hx hb dL_build_384 (lv_at hl 0 rfl) ?_
  refine lv_iconst (v := 2) hx hb dL_build_386 (by decide) ?_
  refine lv_iload hx hb dL_build_387 (lv_at hl 13 rfl) ?_
  refine lv_imul hx hb dL_build_389 ?_
  refine lv_iload hx hb dL_build_390 (lv_at hl 14 rfl) ?_
  have e2 : (2 : Int32) * nI ft = nI (2 * ft) := s_mul 2 ft
  refine lv_if_eq (tgt := 399) hx hb dL_build_392 (by decide) (fun h9 => ?_) (fun h9 => ?_)
  · have he : on = 0 := by
      have := (nI_z (k := on) (by omega)).mp h9
      omega
    refine lv_iconst (v := 0) hx hb dL_build_399 (by decide) ?_
    refine lv_iadd hx hb dL_build_400 ?_
    refine top_i (y := (nI (2 * ft + on))) (by rw [he, e2]; exact (nI_add (2 * ft) 0).symm) ?_
    refine b_sti hx hb hK hP hD hS (by omega) dL_build_401 (fun H locs hP hD hS => ?_)
    refine lv_iinc (v := (nI (n + 1))) (lv' := [(6, .int (nI (n + 1))), (7, .int (nI u.length)), (10, .int (nI k)), (0, .ref (ad 0)), (1, .ref b), (2, .int 0), (3, .int 60), (4, .ref o), (5, .ref q1), (8, .ref q2), (9, .int (nI P)), (11, .int x), (12, .int (nI w)), (13, .int (nI ft)), (14, .int (nI on))]) hx hb dL_build_402 hl (k := 0) rfl (up1 n) (by decide) rfl (fun ls hl => ?_)
    refine lv_aload hx hb dL_build_405 (lv_at hl 9 rfl) ?_
    refine lv_iload hx hb dL_build_407 (lv_at hl 1 rfl) ?_
    refine lv_iconst (v := 0) hx hb dL_build_409 (by decide) ?_
    refine b_sto hx hb hK hP hD hS (by omega) dL_build_410 (fun H locs hP hD hS => ?_)
    refine lv_iinc (v := (nI (u.length + 1))) (lv' := [(7, .int (nI (u.length + 1))), (6, .int (nI (n + 1))), (10, .int (nI k)), (0, .ref (ad 0)), (1, .ref b), (2, .int 0), (3, .int 60), (4, .ref o), (5, .ref q1), (8, .ref q2), (9, .int (nI P)), (11, .int x), (12, .int (nI w)), (13, .int (nI ft)), (14, .int (nI on))]) hx hb dL_build_411 hl (k := 1) rfl (up1 u.length) (by decide) rfl (fun ls hl => ?_)
    obtain ⟨M1, e1, hB1⟩ := BI_when hB (show n < 80 by omega) hf ho h5
    refine lv_aload_n hx hb dL_build_414 rfl (lv_at hl 3 rfl) ?_
    refine lv_iload hx hb dL_build_415 (lv_at hl 13 rfl) ?_
    refine lv_iload hx hb dL_build_417 (lv_at hl 14 rfl) ?_
    refine t_calli (vx_runV (As := [.int (nI ft), .int (nI on)]) (rest := []) CX (ctX7_when l hfl D sw cs ad (xB cs cT sw o q1 q2 (upd f n (nI (2 * ft + on))) (upd g u.length 0)) H.size M (nI ft) (nI on) e1) (cwV 2 hts (gwV m3_201 m3_202 m3_203 m1_1 m3_204) rfl rfl rfl (by decide +kernel) ⟨Nat.le_trans (Nat.le_of_ble_eq_true rfl) hR.1, Nat.le_trans (Nat.le_of_ble_eq_true rfl) hR.2⟩) (wPreV hSW hS hA hK hP hD (by decide) rfl rfl _) rfl rfl hl.1 rfl (lv_room (Nat.le_of_ble_eq_true rfl)) dL_build_419 ⟨Nat.le_trans (show _ ≤ c0 + 100 by omega) hcs, Nat.le_trans (show _ ≤ s0 + 1000 by omega) hss⟩) hD hS hA (fun k9 ho9 => by cases ho9) (fun r9 ho9 H locs hP hD hS => ?_)
    cases ho9
    refine lv_iload hx hb dL_build_422 (lv_at hl 1 rfl) ?_
    refine lv_icmp_eq (tgt := 582) hx hb dL_build_424 (by decide) (fun _ => ?_) (fun h9 => absurd (rfl) h9)
    refine W.widen (k := c0 + 100) (n := s0 + 1000) (by omega) (by omega) ?_
    exact kk M1 (n + 1) _ _ _ _ H locs ls hB1 (by omega) hP hD hS (lv_sub hl [1, 0, 2, 3, 4, 5, 6, 7, 8, 9, 10] rfl)
  · have he : on = 1 := by
      rcases (show on = 0 ∨ on = 1 by omega) with q | q
      · exact absurd (by rw [q]; rfl) h9
      · exact q
    refine lv_iconst (v := 1) hx hb dL_build_395 (by decide) ?_
    refine lv_goto (tgt := 400) hx hb dL_build_396 (by decide) ?_
    refine lv_iadd hx hb dL_build_400 ?_
    refine top_i (y := (nI (2 * ft + on))) (by rw [he, e2]; exact (nI_add (2 * ft) 1).symm) ?_
    refine b_sti hx hb hK hP hD hS (by omega) dL_build_401 (fun H locs hP hD hS => ?_)
    refine lv_iinc (v := (nI (n + 1))) (lv' := [(6, .int (nI (n + 1))), (7, .int (nI u.length)), (10, .int (nI k)), (0, .ref (ad 0)), (1, .ref b), (2, .int 0), (3, .int 60), (4, .ref o), (5, .ref q1), (8, .ref q2), (9, .int (nI P)), (11, .int x), (12, .int (nI w)), (13, .int (nI ft)), (14, .int (nI on))]) hx hb dL_build_402 hl (k := 0) rfl (up1 n) (by decide) rfl (fun ls hl => ?_)
    refine lv_aload hx hb dL_build_405 (lv_at hl 9 rfl) ?_
    refine lv_iload hx hb dL_build_407 (lv_at hl 1 rfl) ?_
    refine lv_iconst (v := 0) hx hb dL_build_409 (by decide) ?_
    refine b_sto hx hb hK hP hD hS (by omega) dL_build_410 (fun H locs hP hD hS => ?_)
    refine lv_iinc (v := (nI (u.length + 1))) (lv' := [(7, .int (nI (u.length + 1))), (6, .int (nI (n + 1))), (10, .int (nI k)), (0, .ref (ad 0)), (1, .ref b), (2, .int 0), (3, .int 60), (4, .ref o), (5, .ref q1), (8, .ref q2), (9, .int (nI P)), (11, .int x), (12, .int (nI w)), (13, .int (nI ft)), (14, .int (nI on))]) hx hb dL_build_411 hl (k := 1) rfl (up1 u.length) (by decide) rfl (fun ls hl => ?_)
    obtain ⟨M1, e1, hB1⟩ := BI_when hB (show n < 80 by omega) hf ho h5
    refine lv_aload_n hx hb dL_build_414 rfl (lv_at hl 3 rfl) ?_
    refine lv_iload hx hb dL_build_415 (lv_at hl 13 rfl) ?_
    refine lv_iload hx hb dL_build_417 (lv_at hl 14 rfl) ?_
    refine t_calli (vx_runV (As := [.int (nI ft), .int (nI on)]) (rest := []) CX (ctX7_when l hfl D sw cs ad (xB cs cT sw o q1 q2 (upd f n (nI (2 * ft + on))) (upd g u.length 0)) H.size M (nI ft) (nI on) e1) (cwV 2 hts (gwV m3_201 m3_202 m3_203 m1_1 m3_204) rfl rfl rfl (by decide +kernel) ⟨Nat.le_trans (Nat.le_of_ble_eq_true rfl) hR.1, Nat.le_trans (Nat.le_of_ble_eq_true rfl) hR.2⟩) (wPreV hSW hS hA hK hP hD (by decide) rfl rfl _) rfl rfl hl.1 rfl (lv_room (Nat.le_of_ble_eq_true rfl)) dL_build_419 ⟨Nat.le_trans (show _ ≤ c0 + 100 by omega) hcs, Nat.le_trans (show _ ≤ s0 + 1000 by omega) hss⟩) hD hS hA (fun k9 ho9 => by cases ho9) (fun r9 ho9 H locs hP hD hS => ?_)
    cases ho9
    refine lv_iload hx hb dL_build_422 (lv_at hl 1 rfl) ?_
    refine lv_icmp_eq (tgt := 582) hx hb dL_build_424 (by decide) (fun _ => ?_) (fun h9 => absurd (rfl) h9)
    refine W.widen (k := c0 + 100) (n := s0 + 1000) (by omega) (by omega) ?_
    exact kk M1 (n + 1) _ _ _ _ H locs ls hB1 (by omega) hP hD hS (lv_sub hl [1, 0, 2, 3, 4, 5, 6, 7, 8, 9, 10] rfl)
set_option maxHeartbeats 4000000 in
set_option maxRecDepth 100000 in
theorem bb_set {p : Program} {l : Launch} {e : Env} {R : Room} {s : State} {m : MethodId} {args : Array Value} {below : List Frame} {meth : Method} {c : Code} {Q : State → Prop} {A : Nat → Prop} {D : va_G} {sw : Sw} {cs : Cs} {cT : ClassId} {b L : Nat} {xs : Nat → Int32} (K : BK l p R s m args c A D sw cs cT b L xs) {ad : Nat → Nat} {o q1 q2 P k : Nat} {c0 s0 : Nat} (hcs : c0 + 100 ≤ R.cells) (hss : s0 + 1000 ≤ R.slots) {M : Mm} {n : Nat} {cd : Nat → Nat} {u : List (Nat × Bool)} {f g : Nat → Int32} (hB : BI M n cd u f g) {x : Int32} {w ft on : Nat} (hf : ft < 4) (ho : on ≤ 1) (hn : n < 60) {H : Heap} {locs : List Loc} {ls : Array Slot} (hP : va_P D vwCl (wl cs LC NC ad M ++ xB cs cT sw o q1 q2 f g) H) (hD : va_D A (wl cs LC NC ad M ++ xB cs cT sw o q1 q2 f g)) (hS : va_S A s.heap H locs) (hl : lv_has ls 21 [(6, .int (nI n)), (7, .int (nI u.length)), (10, .int (nI k)), (0, .ref (ad 0)), (1, .ref b), (2, .int 0), (3, .int 60), (4, .ref o), (5, .ref q1), (8, .ref q2), (9, .int (nI P)), (11, .int x), (12, .int (nI w)), (13, .int (nI ft)), (14, .int (nI on))]) (kk : ∀ (M : Mm) (n : Nat) (cd : Nat → Nat) (u : List (Nat × Bool)) (f g : Nat → Int32) (H : Heap) (locs : List Loc) (ls : Array Slot), BI M n cd u f g → n ≤ 60 → va_P D vwCl (wl cs LC NC ad M ++ xB cs cT sw o q1 q2 f g) H → va_D A (wl cs LC NC ad M ++ xB cs cT sw o q1 q2 f g) → va_S A s.heap H locs → lv_has ls 21 [(6, .int (nI n)), (7, .int (nI u.length)), (10, .int (nI k)), (0, .ref (ad 0)), (1, .ref b), (2, .int 0), (3, .int 60), (4, .ref o), (5, .ref q1), (8, .ref q2), (9, .int (nI P))] → W p l e R s m args below meth c H locs (c0 + 100) (s0 + 1000) Q (F0 m 582 ls [])) : W p l e R s m args below meth c H locs c0 s0 Q (F0 m 541 ls []) := by
  obtain ⟨CX, hX, hbl, hbA, hK, hKT, hSW, hfl, hA, hR⟩ := id K
  obtain ⟨hx, hb, hml, hown, hts⟩ := id CX
  have hw : ∀ w ∈ WG, w.before args s = true := fun w h => hts w (List.mem_cons_of_mem _ h)
  refine lv_aload hx hb dL_build_541 (lv_at hl 7 rfl) ?_
  refine lv_iload hx hb dL_build_543 (lv_at hl 0 rfl) ?_
  refine lv_bipush (v := 8) hx hb dL_build_545 (by decide) ?_
  refine lv_iconst (v := 2) hx hb dL_build_547 (by decide) ?_
  refine lv_iload hx hb dL_build_548 (lv_at hl 13 rfl) ?_
  refine lv_imul hx hb dL_build_550 ?_
  refine lv_iadd hx hb dL_build_551 ?_
  refine lv_iload hx hb dL_build_552 (lv_at hl 14 rfl) ?_
  have e2 : (8 : Int32) + (2 : Int32) * nI ft = nI (8 + 2 * ft) := (congrArg (fun z : Int32 => (8 : Int32) + z) (s_mul 2 ft)).trans (nI_add 8 (2 * ft))
  refine lv_if_eq (tgt := 561) hx hb dL_build_554 (by decide) (fun h9 => ?_) (fun h9 => ?_)
  · have he : on = 0 := by
      have := (nI_z (k := on) (by omega)).mp h9
      omega
    refine lv_iconst (v := 0) hx hb dL_build_561 (by decide) ?_
    refine lv_iadd hx hb dL_build_562 ?_
    refine top_i (y := (nI (8 + 2 * ft + on))) (by rw [he, e2]; exact (nI_add (8 + 2 * ft) 0).symm) ?_
    refine b_sti hx hb hK hP hD hS (by omega) dL_build_563 (fun H locs hP hD hS => ?_)
    refine lv_iinc (v := (nI (n + 1))) (lv' := [(6, .int (nI (n + 1))), (7, .int (nI u.length)), (10, .int (nI k)), (0, .ref (ad 0)), (1, .ref b), (2, .int 0), (3, .int 60), (4, .ref o), (5, .ref q1), (8, .ref q2), (9, .int (nI P)), (11, .int x), (12, .int (nI w)), (13, .int (nI ft)), (14, .int (nI on))]) hx hb dL_build_564 hl (k := 0) rfl (up1 n) (by decide) rfl (fun ls hl => ?_)
    obtain ⟨M1, e1, hB1⟩ := BI_set hB (show n < 80 by omega) hf ho
    refine lv_aload_n hx hb dL_build_567 rfl (lv_at hl 3 rfl) ?_
    refine lv_iload hx hb dL_build_568 (lv_at hl 13 rfl) ?_
    refine lv_iload hx hb dL_build_570 (lv_at hl 14 rfl) ?_
    refine t_calli (vx_runV (As := [.int (nI ft), .int (nI on)]) (rest := []) CX (ctX7_set l hfl D sw cs ad (xB cs cT sw o q1 q2 (upd f n (nI (8 + 2 * ft + on))) g) H.size M (nI ft) (nI on) e1) (cwV 2 hts (gwV m3_236 m3_237 m3_238 m1_1 m3_239) rfl rfl rfl (by decide +kernel) ⟨Nat.le_trans (Nat.le_of_ble_eq_true rfl) hR.1, Nat.le_trans (Nat.le_of_ble_eq_true rfl) hR.2⟩) (wPreV hSW hS hA hK hP hD (by decide) rfl rfl _) rfl rfl hl.1 rfl (lv_room (Nat.le_of_ble_eq_true rfl)) dL_build_572 ⟨Nat.le_trans (show _ ≤ c0 + 100 by omega) hcs, Nat.le_trans (show _ ≤ s0 + 1000 by omega) hss⟩) hD hS hA (fun k9 ho9 => by cases ho9) (fun r9 ho9 H locs hP hD hS => ?_)
    cases ho9
    refine lv_iload hx hb dL_build_575 (lv_at hl 0 rfl) ?_
    refine lv_icmp_eq (tgt := 582) hx hb dL_build_577 (by decide) (fun _ => ?_) (fun h9 => absurd (rfl) h9)
    refine W.widen (k := c0 + 100) (n := s0 + 1000) (by omega) (by omega) ?_
    exact kk M1 (n + 1) _ _ _ _ H locs ls hB1 (by omega) hP hD hS (lv_sub hl [0, 1, 2, 3, 4, 5, 6, 7, 8, 9, 10] rfl)
  · have he : on = 1 := by
      rcases (show on = 0 ∨ on = 1 by omega) with q | q
      · exact absurd (by rw [q]; rfl) h9
      · exact q
    refine lv_iconst (v := 1) hx hb dL_build_557 (by decide) ?_
    refine lv_goto (tgt := 562) hx hb dL_build_558 (by decide) ?_
    refine lv_iadd hx hb dL_build_562 ?_
    refine top_i (y := (nI (8 + 2 * ft + on))) (by rw [he, e2]; exact (nI_add (8 + 2 * ft) 1).symm) ?_
    refine b_sti hx hb hK hP hD hS (by omega) dL_build_563 (fun H locs hP hD hS => ?_)
    refine lv_iinc (v := (nI (n + 1))) (lv' := [(6, .int (nI (n + 1))), (7, .int (nI u.length)), (10, .int (nI k)), (0, .ref (ad 0)), (1, .ref b), (2, .int 0), (3, .int 60), (4, .ref o), (5, .ref q1), (8, .ref q2), (9, .int (nI P)), (11, .int x), (12, .int (nI w)), (13, .int (nI ft)), (14, .int (nI on))]) hx hb dL_build_564 hl (k := 0) rfl (up1 n) (by decide) rfl (fun ls hl => ?_)
    obtain ⟨M1, e1, hB1⟩ := BI_set hB (show n < 80 by omega) hf ho
    refine lv_aload_n hx hb dL_build_567 rfl (lv_at hl 3 rfl) ?_
    refine lv_iload hx hb dL_build_568 (lv_at hl 13 rfl) ?_
    refine lv_iload hx hb dL_build_570 (lv_at hl 14 rfl) ?_
    refine t_calli (vx_runV (As := [.int (nI ft), .int (nI on)]) (rest := []) CX (ctX7_set l hfl D sw cs ad (xB cs cT sw o q1 q2 (upd f n (nI (8 + 2 * ft + on))) g) H.size M (nI ft) (nI on) e1) (cwV 2 hts (gwV m3_236 m3_237 m3_238 m1_1 m3_239) rfl rfl rfl (by decide +kernel) ⟨Nat.le_trans (Nat.le_of_ble_eq_true rfl) hR.1, Nat.le_trans (Nat.le_of_ble_eq_true rfl) hR.2⟩) (wPreV hSW hS hA hK hP hD (by decide) rfl rfl _) rfl rfl hl.1 rfl (lv_room (Nat.le_of_ble_eq_true rfl)) dL_build_572 ⟨Nat.le_trans (show _ ≤ c0 + 100 by omega) hcs, Nat.le_trans (show _ ≤ s0 + 1000 by omega) hss⟩) hD hS hA (fun k9 ho9 => by cases ho9) (fun r9 ho9 H locs hP hD hS => ?_)
    cases ho9
    refine lv_iload hx hb dL_build_575 (lv_at hl 0 rfl) ?_
    refine lv_icmp_eq (tgt := 582) hx hb dL_build_577 (by decide) (fun _ => ?_) (fun h9 => absurd (rfl) h9)
    refine W.widen (k := c0 + 100) (n := s0 + 1000) (by omega) (by omega) ?_
    exact kk M1 (n + 1) _ _ _ _ H locs ls hB1 (by omega) hP hD hS (lv_sub hl [0, 1, 2, 3, 4, 5, 6, 7, 8, 9, 10] rfl)
set_option maxHeartbeats 4000000 in
set_option maxRecDepth 100000 in
theorem bb_oth {p : Program} {l : Launch} {e : Env} {R : Room} {s : State} {m : MethodId} {args : Array Value} {below : List Frame} {meth : Method} {c : Code} {Q : State → Prop} {A : Nat → Prop} {D : va_G} {sw : Sw} {cs : Cs} {cT : ClassId} {b L : Nat} {xs : Nat → Int32} (K : BK l p R s m args c A D sw cs cT b L xs) {ad : Nat → Nat} {o q1 q2 P k : Nat} {c0 s0 : Nat} (hcs : c0 + 100 ≤ R.cells) (hss : s0 + 1000 ≤ R.slots) {M : Mm} {n : Nat} {cd : Nat → Nat} {p0 : Nat} {r : List (Nat × Bool)} {f g : Nat → Int32} (hB : BI M n cd ((p0, false) :: r) f g) {x : Int32} {w ft on : Nat} (hn : n < 60) {H : Heap} {locs : List Loc} {ls : Array Slot} (hP : va_P D vwCl (wl cs LC NC ad M ++ xB cs cT sw o q1 q2 f g) H) (hD : va_D A (wl cs LC NC ad M ++ xB cs cT sw o q1 q2 f g)) (hS : va_S A s.heap H locs) (hl : lv_has ls 21 [(6, .int (nI n)), (7, .int (nI (r.length + 1))), (10, .int (nI k)), (0, .ref (ad 0)), (1, .ref b), (2, .int 0), (3, .int 60), (4, .ref o), (5, .ref q1), (8, .ref q2), (9, .int (nI P)), (11, .int x), (12, .int (nI w)), (13, .int (nI ft)), (14, .int (nI on))]) (kk : ∀ (M : Mm) (n : Nat) (cd : Nat → Nat) (u : List (Nat × Bool)) (f g : Nat → Int32) (H : Heap) (locs : List Loc) (ls : Array Slot), BI M n cd u f g → n ≤ 60 → va_P D vwCl (wl cs LC NC ad M ++ xB cs cT sw o q1 q2 f g) H → va_D A (wl cs LC NC ad M ++ xB cs cT sw o q1 q2 f g) → va_S A s.heap H locs → lv_has ls 21 [(6, .int (nI n)), (7, .int (nI u.length)), (10, .int (nI k)), (0, .ref (ad 0)), (1, .ref b), (2, .int 0), (3, .int 60), (4, .ref o), (5, .ref q1), (8, .ref q2), (9, .int (nI P))] → W p l e R s m args below meth c H locs (c0 + 100) (s0 + 1000) Q (F0 m 582 ls [])) : W p l e R s m args below meth c H locs c0 s0 Q (F0 m 457 ls []) := by
  obtain ⟨CX, hX, hbl, hbA, hK, hKT, hSW, hfl, hA, hR⟩ := id K
  obtain ⟨hx, hb, hml, hown, hts⟩ := id CX
  have hw : ∀ w ∈ WG, w.before args s = true := fun w h => hts w (List.mem_cons_of_mem _ h)
  refine lv_aload hx hb dL_build_457 (lv_at hl 9 rfl) ?_
  refine lv_iload hx hb dL_build_459 (lv_at hl 1 rfl) ?_
  refine lv_iconst (v := 1) hx hb dL_build_461 (by decide) ?_
  refine lv_isub hx hb dL_build_462 ?_
  refine top_i (y := (nI r.length)) ((nI_pred r.length).symm) ?_
  refine lv_iconst (v := 1) hx hb dL_build_463 (by decide) ?_
  refine b_sto hx hb hK hP hD hS (by have := hB.l5; simp only [List.length_cons] at this; omega) dL_build_464 (fun H locs hP hD hS => ?_)
  refine lv_aload hx hb dL_build_465 (lv_at hl 7 rfl) ?_
  refine lv_iload hx hb dL_build_467 (lv_at hl 0 rfl) ?_
  refine lv_bipush (v := 16) hx hb dL_build_469 (by decide) ?_
  refine b_sti hx hb hK hP hD hS (by omega) dL_build_471 (fun H locs hP hD hS => ?_)
  refine lv_iinc (v := (nI (n + 1))) (lv' := [(6, .int (nI (n + 1))), (7, .int (nI (r.length + 1))), (10, .int (nI k)), (0, .ref (ad 0)), (1, .ref b), (2, .int 0), (3, .int 60), (4, .ref o), (5, .ref q1), (8, .ref q2), (9, .int (nI P)), (11, .int x), (12, .int (nI w)), (13, .int (nI ft)), (14, .int (nI on))]) hx hb dL_build_472 hl (k := 0) rfl (up1 n) (by decide) rfl (fun ls hl => ?_)
  refine lv_aload_n hx hb dL_build_475 rfl (lv_at hl 3 rfl) ?_
  obtain ⟨M1, e1, hB1⟩ := BI_oth hB (show n < 80 by omega)
  refine t_calli (vx_runV (As := []) (rest := []) CX (ctX7_otherwise l hfl D sw cs ad (xB cs cT sw o q1 q2 (upd f n (16 : Int32)) (upd g r.length (1 : Int32))) H.size M  e1) (cwV 0 hts (gwV m3_218 m3_219 m3_220 m1_1 m3_221) rfl rfl rfl (by decide +kernel) ⟨Nat.le_trans (Nat.le_of_ble_eq_true rfl) hR.1, Nat.le_trans (Nat.le_of_ble_eq_true rfl) hR.2⟩) (wPreV hSW hS hA hK hP hD (by decide) rfl rfl _) rfl rfl hl.1 rfl (lv_room (Nat.le_of_ble_eq_true rfl)) dL_build_476 ⟨Nat.le_trans (show _ ≤ c0 + 100 by omega) hcs, Nat.le_trans (show _ ≤ s0 + 1000 by omega) hss⟩) hD hS hA (fun k9 ho9 => by cases ho9) (fun r9 ho9 H locs hP hD hS => ?_)
  cases ho9
  refine lv_iload hx hb dL_build_479 (lv_at hl 0 rfl) ?_
  refine lv_icmp_eq (tgt := 582) hx hb dL_build_481 (by decide) (fun _ => ?_) (fun h9 => absurd (rfl) h9)
  refine W.widen (k := c0 + 100) (n := s0 + 1000) (by omega) (by omega) ?_
  exact kk M1 (n + 1) _ _ _ _ H locs ls hB1 (by omega) hP hD hS (lv_sub hl [0, 1, 2, 3, 4, 5, 6, 7, 8, 9, 10] rfl)
set_option maxHeartbeats 4000000 in
set_option maxRecDepth 100000 in
theorem bb_done {p : Program} {l : Launch} {e : Env} {R : Room} {s : State} {m : MethodId} {args : Array Value} {below : List Frame} {meth : Method} {c : Code} {Q : State → Prop} {A : Nat → Prop} {D : va_G} {sw : Sw} {cs : Cs} {cT : ClassId} {b L : Nat} {xs : Nat → Int32} (K : BK l p R s m args c A D sw cs cT b L xs) {ad : Nat → Nat} {o q1 q2 P k : Nat} {c0 s0 : Nat} (hcs : c0 + 100 ≤ R.cells) (hss : s0 + 1000 ≤ R.slots) {M : Mm} {n : Nat} {cd : Nat → Nat} {q0 : Nat × Bool} {r : List (Nat × Bool)} {f g : Nat → Int32} (hB : BI M n cd (q0 :: r) f g) {x : Int32} {w ft on : Nat} (hn : n < 60) {H : Heap} {locs : List Loc} {ls : Array Slot} (hP : va_P D vwCl (wl cs LC NC ad M ++ xB cs cT sw o q1 q2 f g) H) (hD : va_D A (wl cs LC NC ad M ++ xB cs cT sw o q1 q2 f g)) (hS : va_S A s.heap H locs) (hl : lv_has ls 21 [(6, .int (nI n)), (7, .int (nI (r.length + 1))), (10, .int (nI k)), (0, .ref (ad 0)), (1, .ref b), (2, .int 0), (3, .int 60), (4, .ref o), (5, .ref q1), (8, .ref q2), (9, .int (nI P)), (11, .int x), (12, .int (nI w)), (13, .int (nI ft)), (14, .int (nI on))]) (kk : ∀ (M : Mm) (n : Nat) (cd : Nat → Nat) (u : List (Nat × Bool)) (f g : Nat → Int32) (H : Heap) (locs : List Loc) (ls : Array Slot), BI M n cd u f g → n ≤ 60 → va_P D vwCl (wl cs LC NC ad M ++ xB cs cT sw o q1 q2 f g) H → va_D A (wl cs LC NC ad M ++ xB cs cT sw o q1 q2 f g) → va_S A s.heap H locs → lv_has ls 21 [(6, .int (nI n)), (7, .int (nI u.length)), (10, .int (nI k)), (0, .ref (ad 0)), (1, .ref b), (2, .int 0), (3, .int 60), (4, .ref o), (5, .ref q1), (8, .ref q2), (9, .int (nI P))] → W p l e R s m args below meth c H locs (c0 + 100) (s0 + 1000) Q (F0 m 582 ls [])) : W p l e R s m args below meth c H locs c0 s0 Q (F0 m 504 ls []) := by
  obtain ⟨CX, hX, hbl, hbA, hK, hKT, hSW, hfl, hA, hR⟩ := id K
  obtain ⟨hx, hb, hml, hown, hts⟩ := id CX
  have hw : ∀ w ∈ WG, w.before args s = true := fun w h => hts w (List.mem_cons_of_mem _ h)
  refine lv_iinc (v := (nI r.length)) (lv' := [(7, .int (nI r.length)), (6, .int (nI n)), (10, .int (nI k)), (0, .ref (ad 0)), (1, .ref b), (2, .int 0), (3, .int 60), (4, .ref o), (5, .ref q1), (8, .ref q2), (9, .int (nI P)), (11, .int x), (12, .int (nI w)), (13, .int (nI ft)), (14, .int (nI on))]) hx hb dL_build_504 hl (k := 1) rfl (dn1 r.length) (by decide) rfl (fun ls hl => ?_)
  refine lv_aload hx hb dL_build_507 (lv_at hl 7 rfl) ?_
  refine lv_iload hx hb dL_build_509 (lv_at hl 1 rfl) ?_
  refine lv_bipush (v := 17) hx hb dL_build_511 (by decide) ?_
  refine b_sti hx hb hK hP hD hS (by omega) dL_build_513 (fun H locs hP hD hS => ?_)
  refine lv_iinc (v := (nI (n + 1))) (lv' := [(6, .int (nI (n + 1))), (7, .int (nI r.length)), (10, .int (nI k)), (0, .ref (ad 0)), (1, .ref b), (2, .int 0), (3, .int 60), (4, .ref o), (5, .ref q1), (8, .ref q2), (9, .int (nI P)), (11, .int x), (12, .int (nI w)), (13, .int (nI ft)), (14, .int (nI on))]) hx hb dL_build_514 hl (k := 1) rfl (up1 n) (by decide) rfl (fun ls hl => ?_)
  refine lv_aload_n hx hb dL_build_517 rfl (lv_at hl 3 rfl) ?_
  obtain ⟨M1, e1, hB1⟩ := BI_done hB (show n < 80 by omega)
  refine t_calli (vx_runV (As := []) (rest := []) CX (ctX7_done l hfl D sw cs ad (xB cs cT sw o q1 q2 (upd f n (17 : Int32)) g) H.size M  e1) (cwV 0 hts (gwV m3_232 m3_233 m3_234 m1_1 m3_235) rfl rfl rfl (by decide +kernel) ⟨Nat.le_trans (Nat.le_of_ble_eq_true rfl) hR.1, Nat.le_trans (Nat.le_of_ble_eq_true rfl) hR.2⟩) (wPreV hSW hS hA hK hP hD (by decide) rfl rfl _) rfl rfl hl.1 rfl (lv_room (Nat.le_of_ble_eq_true rfl)) dL_build_518 ⟨Nat.le_trans (show _ ≤ c0 + 100 by omega) hcs, Nat.le_trans (show _ ≤ s0 + 1000 by omega) hss⟩) hD hS hA (fun k9 ho9 => by cases ho9) (fun r9 ho9 H locs hP hD hS => ?_)
  cases ho9
  refine lv_iload hx hb dL_build_521 (lv_at hl 0 rfl) ?_
  refine lv_icmp_eq (tgt := 582) hx hb dL_build_523 (by decide) (fun _ => ?_) (fun h9 => absurd (rfl) h9)
  refine W.widen (k := c0 + 100) (n := s0 + 1000) (by omega) (by omega) ?_
  exact kk M1 (n + 1) _ _ _ _ H locs ls hB1 (by omega) hP hD hS (lv_sub hl [0, 1, 2, 3, 4, 5, 6, 7, 8, 9, 10] rfl)
