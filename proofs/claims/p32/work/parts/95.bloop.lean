set_option maxHeartbeats 4000000 in
set_option maxRecDepth 100000 in
theorem bb_528 {p : Program} {l : Launch} {e : Env} {R : Room} {s : State} {m : MethodId} {args : Array Value} {below : List Frame} {meth : Method} {c : Code} {Q : State → Prop} {A : Nat → Prop} {D : va_G} {sw : Sw} {cs : Cs} {cT : ClassId} {b L : Nat} {xs : Nat → Int32} (K : BK l p R s m args c A D sw cs cT b L xs) {ad : Nat → Nat} {o q1 q2 P k : Nat} {c0 s0 : Nat} (hcs : c0 + 100 ≤ R.cells) (hss : s0 + 1000 ≤ R.slots) {M : Mm} {n : Nat} {cd : Nat → Nat} {u : List (Nat × Bool)} {f g : Nat → Int32} (hB : BI M n cd u f g) {x : Int32} {w ft on : Nat} (hf : ft < 4) (ho : on ≤ 1) (hn : n ≤ 60) {H : Heap} {locs : List Loc} {ls : Array Slot} (hP : va_P D vwCl (wl cs LC NC ad M ++ xB cs cT sw o q1 q2 f g) H) (hD : va_D A (wl cs LC NC ad M ++ xB cs cT sw o q1 q2 f g)) (hS : va_S A s.heap H locs) (hl : lv_has ls 21 [(6, .int (nI n)), (7, .int (nI u.length)), (10, .int (nI k)), (0, .ref (ad 0)), (1, .ref b), (2, .int 0), (3, .int 60), (4, .ref o), (5, .ref q1), (8, .ref q2), (9, .int (nI P)), (11, .int x), (12, .int (nI w)), (13, .int (nI ft)), (14, .int (nI on))]) (kk : ∀ (M : Mm) (n : Nat) (cd : Nat → Nat) (u : List (Nat × Bool)) (f g : Nat → Int32) (H : Heap) (locs : List Loc) (ls : Array Slot), BI M n cd u f g → n ≤ 60 → va_P D vwCl (wl cs LC NC ad M ++ xB cs cT sw o q1 q2 f g) H → va_D A (wl cs LC NC ad M ++ xB cs cT sw o q1 q2 f g) → va_S A s.heap H locs → lv_has ls 21 [(6, .int (nI n)), (7, .int (nI u.length)), (10, .int (nI k)), (0, .ref (ad 0)), (1, .ref b), (2, .int 0), (3, .int 60), (4, .ref o), (5, .ref q1), (8, .ref q2), (9, .int (nI P))] → W p l e R s m args below meth c H locs (c0 + 100) (s0 + 1000) Q (F0 m 582 ls [])) : W p l e R s m args below meth c H locs c0 s0 Q (F0 m 528 ls []) := by
  obtain ⟨CX, hX, hbl, hbA, hK, hKT, hSW, hfl, hA, hR⟩ := id K
  obtain ⟨hx, hb, hml, hown, hts⟩ := id CX
  have hw : ∀ w ∈ WG, w.before args s = true := fun w h => hts w (List.mem_cons_of_mem _ h)
  refine lv_iload hx hb dL_build_528 (lv_at hl 12 rfl) ?_
  refine lv_bipush (v := 11) hx hb dL_build_530 (by decide) ?_
  refine lv_icmp_ne (tgt := 582) hx hb dL_build_532 (by decide) (fun h9 => ?_) (fun h9 => ?_)
  · refine W.widen (k := c0 + 100) (n := s0 + 1000) (by omega) (by omega) ?_
    exact kk M n cd u f g H locs ls hB (by omega) hP hD hS (lv_sub hl [0, 1, 2, 3, 4, 5, 6, 7, 8, 9, 10] rfl)
  · refine lv_iload hx hb dL_build_535 (lv_at hl 0 rfl) ?_
    refine lv_iload_n hx hb dL_build_537 rfl (lv_at hl 6 rfl) ?_
    refine lv_icmp_ge (tgt := 582) hx hb dL_build_538 (by decide) (fun h8 => ?_) (fun h8 => ?_)
    · refine W.widen (k := c0 + 100) (n := s0 + 1000) (by omega) (by omega) ?_
      exact kk M n cd u f g H locs ls hB (by omega) hP hD hS (lv_sub hl [0, 1, 2, 3, 4, 5, 6, 7, 8, 9, 10] rfl)
    · have hn60 : n < 60 := by
        by_cases q : n < 60
        · exact q
        · exact absurd (nI_le (a := 60) (b := n) (by omega) (by omega)) h8
      exact bb_set K hcs hss hB hf ho hn60 hP hD hS (lv_sub hl [0, 1, 2, 3, 4, 5, 6, 7, 8, 9, 10, 11, 12, 13, 14] rfl) kk
set_option maxHeartbeats 4000000 in
set_option maxRecDepth 100000 in
theorem bb_486 {p : Program} {l : Launch} {e : Env} {R : Room} {s : State} {m : MethodId} {args : Array Value} {below : List Frame} {meth : Method} {c : Code} {Q : State → Prop} {A : Nat → Prop} {D : va_G} {sw : Sw} {cs : Cs} {cT : ClassId} {b L : Nat} {xs : Nat → Int32} (K : BK l p R s m args c A D sw cs cT b L xs) {ad : Nat → Nat} {o q1 q2 P k : Nat} {c0 s0 : Nat} (hcs : c0 + 100 ≤ R.cells) (hss : s0 + 1000 ≤ R.slots) {M : Mm} {n : Nat} {cd : Nat → Nat} {u : List (Nat × Bool)} {f g : Nat → Int32} (hB : BI M n cd u f g) {x : Int32} {w ft on : Nat} (hf : ft < 4) (ho : on ≤ 1) (hn : n ≤ 60) {H : Heap} {locs : List Loc} {ls : Array Slot} (hP : va_P D vwCl (wl cs LC NC ad M ++ xB cs cT sw o q1 q2 f g) H) (hD : va_D A (wl cs LC NC ad M ++ xB cs cT sw o q1 q2 f g)) (hS : va_S A s.heap H locs) (hl : lv_has ls 21 [(6, .int (nI n)), (7, .int (nI u.length)), (10, .int (nI k)), (0, .ref (ad 0)), (1, .ref b), (2, .int 0), (3, .int 60), (4, .ref o), (5, .ref q1), (8, .ref q2), (9, .int (nI P)), (11, .int x), (12, .int (nI w)), (13, .int (nI ft)), (14, .int (nI on))]) (kk : ∀ (M : Mm) (n : Nat) (cd : Nat → Nat) (u : List (Nat × Bool)) (f g : Nat → Int32) (H : Heap) (locs : List Loc) (ls : Array Slot), BI M n cd u f g → n ≤ 60 → va_P D vwCl (wl cs LC NC ad M ++ xB cs cT sw o q1 q2 f g) H → va_D A (wl cs LC NC ad M ++ xB cs cT sw o q1 q2 f g) → va_S A s.heap H locs → lv_has ls 21 [(6, .int (nI n)), (7, .int (nI u.length)), (10, .int (nI k)), (0, .ref (ad 0)), (1, .ref b), (2, .int 0), (3, .int 60), (4, .ref o), (5, .ref q1), (8, .ref q2), (9, .int (nI P))] → W p l e R s m args below meth c H locs (c0 + 100) (s0 + 1000) Q (F0 m 582 ls [])) : W p l e R s m args below meth c H locs c0 s0 Q (F0 m 486 ls []) := by
  obtain ⟨CX, hX, hbl, hbA, hK, hKT, hSW, hfl, hA, hR⟩ := id K
  obtain ⟨hx, hb, hml, hown, hts⟩ := id CX
  have hw : ∀ w ∈ WG, w.before args s = true := fun w h => hts w (List.mem_cons_of_mem _ h)
  refine lv_iload hx hb dL_build_486 (lv_at hl 12 rfl) ?_
  refine lv_bipush (v := 10) hx hb dL_build_488 (by decide) ?_
  refine lv_icmp_ne (tgt := 528) hx hb dL_build_490 (by decide) (fun h9 => ?_) (fun h9 => ?_)
  · exact bb_528 K hcs hss hB hf ho hn hP hD hS (lv_sub hl [0, 1, 2, 3, 4, 5, 6, 7, 8, 9, 10, 11, 12, 13, 14] rfl) kk
  · refine lv_iload hx hb dL_build_493 (lv_at hl 1 rfl) ?_
    refine lv_if_le (tgt := 528) hx hb dL_build_495 (by decide) (fun h8 => ?_) (fun h8 => ?_)
    · exact bb_528 K hcs hss hB hf ho hn hP hD hS (lv_sub hl [0, 1, 2, 3, 4, 5, 6, 7, 8, 9, 10, 11, 12, 13, 14] rfl) kk
    · refine lv_iload hx hb dL_build_498 (lv_at hl 0 rfl) ?_
      refine lv_iload_n hx hb dL_build_500 rfl (lv_at hl 6 rfl) ?_
      refine lv_icmp_ge (tgt := 528) hx hb dL_build_501 (by decide) (fun h7 => ?_) (fun h7 => ?_)
      · exact bb_528 K hcs hss hB hf ho hn hP hD hS (lv_sub hl [0, 1, 2, 3, 4, 5, 6, 7, 8, 9, 10, 11, 12, 13, 14] rfl) kk
      · have hn60 : n < 60 := by
          by_cases q : n < 60
          · exact q
          · exact absurd (nI_le (a := 60) (b := n) (by omega) (by omega)) h7
        cases u with
        | nil => exact absurd (show nI ([] : List (Nat × Bool)).length ≤ 0 by decide) h8
        | cons q0 r =>
          exact bb_done K hcs hss hB hn60 hP hD hS (lv_sub hl [0, 1, 2, 3, 4, 5, 6, 7, 8, 9, 10, 11, 12, 13, 14] rfl) kk
set_option maxHeartbeats 4000000 in
set_option maxRecDepth 100000 in
theorem bb_429 {p : Program} {l : Launch} {e : Env} {R : Room} {s : State} {m : MethodId} {args : Array Value} {below : List Frame} {meth : Method} {c : Code} {Q : State → Prop} {A : Nat → Prop} {D : va_G} {sw : Sw} {cs : Cs} {cT : ClassId} {b L : Nat} {xs : Nat → Int32} (K : BK l p R s m args c A D sw cs cT b L xs) {ad : Nat → Nat} {o q1 q2 P k : Nat} {c0 s0 : Nat} (hcs : c0 + 100 ≤ R.cells) (hss : s0 + 1000 ≤ R.slots) {M : Mm} {n : Nat} {cd : Nat → Nat} {u : List (Nat × Bool)} {f g : Nat → Int32} (hB : BI M n cd u f g) {x : Int32} {w ft on : Nat} (hf : ft < 4) (ho : on ≤ 1) (hn : n ≤ 60) {H : Heap} {locs : List Loc} {ls : Array Slot} (hP : va_P D vwCl (wl cs LC NC ad M ++ xB cs cT sw o q1 q2 f g) H) (hD : va_D A (wl cs LC NC ad M ++ xB cs cT sw o q1 q2 f g)) (hS : va_S A s.heap H locs) (hl : lv_has ls 21 [(6, .int (nI n)), (7, .int (nI u.length)), (10, .int (nI k)), (0, .ref (ad 0)), (1, .ref b), (2, .int 0), (3, .int 60), (4, .ref o), (5, .ref q1), (8, .ref q2), (9, .int (nI P)), (11, .int x), (12, .int (nI w)), (13, .int (nI ft)), (14, .int (nI on))]) (kk : ∀ (M : Mm) (n : Nat) (cd : Nat → Nat) (u : List (Nat × Bool)) (f g : Nat → Int32) (H : Heap) (locs : List Loc) (ls : Array Slot), BI M n cd u f g → n ≤ 60 → va_P D vwCl (wl cs LC NC ad M ++ xB cs cT sw o q1 q2 f g) H → va_D A (wl cs LC NC ad M ++ xB cs cT sw o q1 q2 f g) → va_S A s.heap H locs → lv_has ls 21 [(6, .int (nI n)), (7, .int (nI u.length)), (10, .int (nI k)), (0, .ref (ad 0)), (1, .ref b), (2, .int 0), (3, .int 60), (4, .ref o), (5, .ref q1), (8, .ref q2), (9, .int (nI P))] → W p l e R s m args below meth c H locs (c0 + 100) (s0 + 1000) Q (F0 m 582 ls [])) : W p l e R s m args below meth c H locs c0 s0 Q (F0 m 429 ls []) := by
  obtain ⟨CX, hX, hbl, hbA, hK, hKT, hSW, hfl, hA, hR⟩ := id K
  obtain ⟨hx, hb, hml, hown, hts⟩ := id CX
  have hw : ∀ w ∈ WG, w.before args s = true := fun w h => hts w (List.mem_cons_of_mem _ h)
  refine lv_iload hx hb dL_build_429 (lv_at hl 12 rfl) ?_
  refine lv_bipush (v := 9) hx hb dL_build_431 (by decide) ?_
  refine lv_icmp_ne (tgt := 486) hx hb dL_build_433 (by decide) (fun h9 => ?_) (fun h9 => ?_)
  · exact bb_486 K hcs hss hB hf ho hn hP hD hS (lv_sub hl [0, 1, 2, 3, 4, 5, 6, 7, 8, 9, 10, 11, 12, 13, 14] rfl) kk
  · refine lv_iload hx hb dL_build_436 (lv_at hl 1 rfl) ?_
    refine lv_if_le (tgt := 486) hx hb dL_build_438 (by decide) (fun h8 => ?_) (fun h8 => ?_)
    · exact bb_486 K hcs hss hB hf ho hn hP hD hS (lv_sub hl [0, 1, 2, 3, 4, 5, 6, 7, 8, 9, 10, 11, 12, 13, 14] rfl) kk
    · cases u with
      | nil => exact absurd (show nI ([] : List (Nat × Bool)).length ≤ 0 by decide) h8
      | cons q0 r =>
        have hl : lv_has ls 21 [(6, .int (nI n)), (7, .int (nI (r.length + 1))), (10, .int (nI k)), (0, .ref (ad 0)), (1, .ref b), (2, .int 0), (3, .int 60), (4, .ref o), (5, .ref q1), (8, .ref q2), (9, .int (nI P)), (11, .int x), (12, .int (nI w)), (13, .int (nI ft)), (14, .int (nI on))] := hl
        have h5 := hB.l5
        simp only [List.length_cons] at h5
        refine lv_aload hx hb dL_build_441 (lv_at hl 9 rfl) ?_
        refine lv_iload hx hb dL_build_443 (lv_at hl 1 rfl) ?_
        refine lv_iconst (v := 1) hx hb dL_build_445 (by decide) ?_
        refine lv_isub hx hb dL_build_446 ?_
        refine top_i (y := (nI r.length)) ((nI_pred r.length).symm) ?_
        refine b_ldo hx hb hK hP (by omega) dL_build_447 ?_
        refine lv_if_ne (tgt := 486) hx hb dL_build_448 (by decide) (fun h7 => ?_) (fun h7 => ?_)
        · exact bb_486 K hcs hss hB hf ho hn hP hD hS (lv_sub hl [0, 1, 2, 3, 4, 5, 6, 7, 8, 9, 10, 11, 12, 13, 14] rfl) kk
        · have hg0 : g r.length = 0 := h7
          refine lv_iload hx hb dL_build_451 (lv_at hl 0 rfl) ?_
          refine lv_iload_n hx hb dL_build_453 rfl (lv_at hl 6 rfl) ?_
          refine lv_icmp_ge (tgt := 486) hx hb dL_build_454 (by decide) (fun h6 => ?_) (fun h6 => ?_)
          · exact bb_486 K hcs hss hB hf ho hn hP hD hS (lv_sub hl [0, 1, 2, 3, 4, 5, 6, 7, 8, 9, 10, 11, 12, 13, 14] rfl) kk
          · have hn60 : n < 60 := by
              by_cases q : n < 60
              · exact q
              · exact absurd (nI_le (a := 60) (b := n) (by omega) (by omega)) h6
            obtain ⟨p0, b0⟩ := q0
            cases b0 with
            | true => exact absurd (hB.2.2.2.1.symm.trans hg0) (show ¬ (1 : Int32) = 0 by decide)
            | false => exact bb_oth K hcs hss hB hn60 hP hD hS (lv_sub hl [0, 1, 2, 3, 4, 5, 6, 7, 8, 9, 10, 11, 12, 13, 14] rfl) kk
set_option maxHeartbeats 4000000 in
set_option maxRecDepth 100000 in
theorem bb_sw {p : Program} {l : Launch} {e : Env} {R : Room} {s : State} {m : MethodId} {args : Array Value} {below : List Frame} {meth : Method} {c : Code} {Q : State → Prop} {A : Nat → Prop} {D : va_G} {sw : Sw} {cs : Cs} {cT : ClassId} {b L : Nat} {xs : Nat → Int32} (K : BK l p R s m args c A D sw cs cT b L xs) {ad : Nat → Nat} {o q1 q2 P k : Nat} {c0 s0 : Nat} (hcs : c0 + 100 ≤ R.cells) (hss : s0 + 1000 ≤ R.slots) {M : Mm} {n : Nat} {cd : Nat → Nat} {u : List (Nat × Bool)} {f g : Nat → Int32} (hB : BI M n cd u f g) {x : Int32} {w ft on : Nat} (hf : ft < 4) (ho : on ≤ 1) (hn : n ≤ 60) {H : Heap} {locs : List Loc} {ls : Array Slot} (hP : va_P D vwCl (wl cs LC NC ad M ++ xB cs cT sw o q1 q2 f g) H) (hD : va_D A (wl cs LC NC ad M ++ xB cs cT sw o q1 q2 f g)) (hS : va_S A s.heap H locs) (hl : lv_has ls 21 [(6, .int (nI n)), (7, .int (nI u.length)), (10, .int (nI k)), (0, .ref (ad 0)), (1, .ref b), (2, .int 0), (3, .int 60), (4, .ref o), (5, .ref q1), (8, .ref q2), (9, .int (nI P)), (11, .int x), (12, .int (nI w)), (13, .int (nI ft)), (14, .int (nI on))]) (kk : ∀ (M : Mm) (n : Nat) (cd : Nat → Nat) (u : List (Nat × Bool)) (f g : Nat → Int32) (H : Heap) (locs : List Loc) (ls : Array Slot), BI M n cd u f g → n ≤ 60 → va_P D vwCl (wl cs LC NC ad M ++ xB cs cT sw o q1 q2 f g) H → va_D A (wl cs LC NC ad M ++ xB cs cT sw o q1 q2 f g) → va_S A s.heap H locs → lv_has ls 21 [(6, .int (nI n)), (7, .int (nI u.length)), (10, .int (nI k)), (0, .ref (ad 0)), (1, .ref b), (2, .int 0), (3, .int 60), (4, .ref o), (5, .ref q1), (8, .ref q2), (9, .int (nI P))] → W p l e R s m args below meth c H locs (c0 + 100) (s0 + 1000) Q (F0 m 582 ls [])) (kn : ∀ (M : Mm) (n : Nat) (cd : Nat → Nat) (u : List (Nat × Bool)) (f g : Nat → Int32) (H : Heap) (locs : List Loc) (ls : Array Slot), BI M n cd u f g → n ≤ 60 → va_P D vwCl (wl cs LC NC ad M ++ xB cs cT sw o q1 q2 f g) H → va_D A (wl cs LC NC ad M ++ xB cs cT sw o q1 q2 f g) → va_S A s.heap H locs → lv_has ls 21 [(6, .int (nI n)), (7, .int (nI u.length)), (10, .int (nI k)), (0, .ref (ad 0)), (1, .ref b), (2, .int 0), (3, .int 60), (4, .ref o), (5, .ref q1), (8, .ref q2), (9, .int (nI P))] → W p l e R s m args below meth c H locs (c0 + 100) (s0 + 1000) Q (F0 m 593 ls [])) : W p l e R s m args below meth c H locs c0 s0 Q (F0 m 180 ls []) := by
  obtain ⟨CX, hX, hbl, hbA, hK, hKT, hSW, hfl, hA, hR⟩ := id K
  obtain ⟨hx, hb, hml, hown, hts⟩ := id CX
  have hw : ∀ w ∈ WG, w.before args s = true := fun w h => hts w (List.mem_cons_of_mem _ h)
  refine lv_iload hx hb dL_build_180 (lv_at hl 12 rfl) ?_
  refine lv_bipush (v := 7) hx hb dL_build_182 (by decide) ?_
  refine lv_icmp_ge (tgt := 363) hx hb dL_build_184 (by decide) (fun h9 => ?_) (fun h9 => ?_)
  · refine lv_iload hx hb dL_build_363 (lv_at hl 12 rfl) ?_
    refine lv_bipush (v := 9) hx hb dL_build_365 (by decide) ?_
    refine lv_icmp_ge (tgt := 429) hx hb dL_build_367 (by decide) (fun h8 => ?_) (fun h8 => ?_)
    · exact bb_429 K hcs hss hB hf ho hn hP hD hS (lv_sub hl [0, 1, 2, 3, 4, 5, 6, 7, 8, 9, 10, 11, 12, 13, 14] rfl) kk
    · refine lv_iload hx hb dL_build_370 (lv_at hl 1 rfl) ?_
      refine lv_iconst (v := 5) hx hb dL_build_372 (by decide) ?_
      refine lv_icmp_ge (tgt := 429) hx hb dL_build_373 (by decide) (fun h7 => ?_) (fun h7 => ?_)
      · exact bb_429 K hcs hss hB hf ho hn hP hD hS (lv_sub hl [0, 1, 2, 3, 4, 5, 6, 7, 8, 9, 10, 11, 12, 13, 14] rfl) kk
      · have h5 : u.length < 5 := by
          have := hB.l5
          by_cases q : u.length < 5
          · exact q
          · exact absurd (nI_le (a := 5) (b := u.length) (by omega) (by omega)) h7
        refine lv_iload hx hb dL_build_376 (lv_at hl 0 rfl) ?_
        refine lv_iload_n hx hb dL_build_378 rfl (lv_at hl 6 rfl) ?_
        refine lv_icmp_ge (tgt := 429) hx hb dL_build_379 (by decide) (fun h6 => ?_) (fun h6 => ?_)
        · exact bb_429 K hcs hss hB hf ho hn hP hD hS (lv_sub hl [0, 1, 2, 3, 4, 5, 6, 7, 8, 9, 10, 11, 12, 13, 14] rfl) kk
        · have hn60 : n < 60 := by
            by_cases q : n < 60
            · exact q
            · exact absurd (nI_le (a := 60) (b := n) (by omega) (by omega)) h6
          exact bb_when K hcs hss hB hf ho hn60 h5 hP hD hS (lv_sub hl [0, 1, 2, 3, 4, 5, 6, 7, 8, 9, 10, 11, 12, 13, 14] rfl) kk
  · exact bb_str K hcs hss hB hn hP hD hS (lv_sub hl [0, 1, 2, 3, 4, 5, 6, 7, 8, 9, 10, 11, 12, 13, 14] rfl) kk kn
set_option maxHeartbeats 4000000 in
set_option maxRecDepth 100000 in
theorem bb_part {p : Program} {l : Launch} {e : Env} {R : Room} {s : State} {m : MethodId} {args : Array Value} {below : List Frame} {meth : Method} {c : Code} {Q : State → Prop} {A : Nat → Prop} {D : va_G} {sw : Sw} {cs : Cs} {cT : ClassId} {b L : Nat} {xs : Nat → Int32} (K : BK l p R s m args c A D sw cs cT b L xs) {ad : Nat → Nat} {o q1 q2 P k : Nat} {c0 s0 : Nat} (hcs : c0 + 200 ≤ R.cells) (hss : s0 + 2000 ≤ R.slots) {M : Mm} {n : Nat} {cd : Nat → Nat} {u : List (Nat × Bool)} {f g : Nat → Int32} (hB : BI M n cd u f g) (hn : n ≤ 60) (hk : k < 1000) {H : Heap} {locs : List Loc} {ls : Array Slot} (hP : va_P D vwCl (wl cs LC NC ad M ++ xB cs cT sw o q1 q2 f g) H) (hD : va_D A (wl cs LC NC ad M ++ xB cs cT sw o q1 q2 f g)) (hS : va_S A s.heap H locs) (hl : lv_has ls 21 [(6, .int (nI n)), (7, .int (nI u.length)), (10, .int (nI k)), (0, .ref (ad 0)), (1, .ref b), (2, .int 0), (3, .int 60), (4, .ref o), (5, .ref q1), (8, .ref q2), (9, .int (nI P))]) (kk : ∀ (M : Mm) (n : Nat) (cd : Nat → Nat) (u : List (Nat × Bool)) (f g : Nat → Int32) (H : Heap) (locs : List Loc) (ls : Array Slot), BI M n cd u f g → n ≤ 60 → va_P D vwCl (wl cs LC NC ad M ++ xB cs cT sw o q1 q2 f g) H → va_D A (wl cs LC NC ad M ++ xB cs cT sw o q1 q2 f g) → va_S A s.heap H locs → lv_has ls 21 [(6, .int (nI n)), (7, .int (nI u.length)), (10, .int (nI k)), (0, .ref (ad 0)), (1, .ref b), (2, .int 0), (3, .int 60), (4, .ref o), (5, .ref q1), (8, .ref q2), (9, .int (nI P))] → W p l e R s m args below meth c H locs (c0 + 100 + 100) (s0 + 1000 + 1000) Q (F0 m 593 ls [])) : W p l e R s m args below meth c H locs c0 s0 Q (F0 m 119 ls []) := by
  obtain ⟨CX, hX, hbl, hbA, hK, hKT, hSW, hfl, hA, hR⟩ := id K
  obtain ⟨hx, hb, hml, hown, hts⟩ := id CX
  have hw : ∀ w ∈ WG, w.before args s = true := fun w h => hts w (List.mem_cons_of_mem _ h)
  refine lv_aload_n hx hb dL_build_119 rfl (lv_at hl 4 rfl) ?_
  refine lv_iload_n hx hb dL_build_120 rfl (lv_at hl 5 rfl) ?_
  refine lv_iconst (v := 1) hx hb dL_build_121 (by decide) ?_
  refine lv_iadd hx hb dL_build_122 ?_
  refine lv_iload hx hb dL_build_123 (lv_at hl 2 rfl) ?_
  refine lv_bipush (v := 10) hx hb dL_build_125 (by decide) ?_
  have e10 : nI (k % 10) = nI k - nI k / (10 : Int32) * (10 : Int32) := (i_mod (a := k) (k := 10) (by omega) (by decide) (by decide)).symm
  refine lv_irem hx hb dL_build_127 (by decide) ?_
  refine top_i (y := (nI (k % 10))) (e10) ?_
  refine lv_iadd hx hb dL_build_128 ?_
  refine top_i (y := (nI (1 + k % 10))) (by rw [show (0 : Int32) + 1 = nI 1 from by decide +kernel, nI_add]) ?_
  refine r_calli (r := (cel L xs (1 + k % 10))) (W.runS (As := [.ref b, .int (nI (1 + k % 10))]) (rest := []) CX (ctL_cell l b L xs (1 + k % 10) (by omega) hX.2) (va_cwS 2 hts (gwS m3_173 m3_174 m1_0 m3_175) rfl rfl rfl (by decide +kernel) ⟨Nat.le_trans (Nat.le_of_ble_eq_true rfl) hR.1, Nat.le_trans (Nat.le_of_ble_eq_true rfl) hR.2⟩) (xPreS hX.1 hbl hbA hS _) rfl rfl hl.1 rfl (lv_room (Nat.le_of_ble_eq_true rfl)) dL_build_129 ⟨Nat.le_trans (show _ ≤ c0 + 200 by omega) hcs, Nat.le_trans (show _ ≤ s0 + 2000 by omega) hss⟩) ?_
  refine lv_iload hx hb dL_build_132 (lv_at hl 2 rfl) ?_
  refine lv_bipush (v := 10) hx hb dL_build_134 (by decide) ?_
  refine lv_idiv hx hb dL_build_136 (by decide) ?_
  refine lv_iconst (v := 5) hx hb dL_build_137 (by decide) ?_
  refine lv_imul hx hb dL_build_138 ?_
  refine lv_ishr hx hb dL_build_139 ?_
  obtain ⟨xx, hxx⟩ : ∃ z, z = ((cel L xs (1 + k % 10)) >>> ((((nI k) / (10 : Int32)) * (5 : Int32)) &&& 31)) := ⟨_, rfl⟩
  refine top_i hxx ?_
  refine lv_istore (lv' := [(11, .int xx), (6, .int (nI n)), (7, .int (nI u.length)), (10, .int (nI k)), (0, .ref (ad 0)), (1, .ref b), (2, .int 0), (3, .int 60), (4, .ref o), (5, .ref q1), (8, .ref q2), (9, .int (nI P))]) hx hb dL_build_140 hl (by decide) rfl (fun ls hl => ?_)
  refine lv_iload hx hb dL_build_142 (lv_at hl 0 rfl) ?_
  refine lv_bipush (v := 12) hx hb dL_build_144 (by decide) ?_
  obtain ⟨w, hw12, ew⟩ := blw_j xx (k := 12) (by decide) (by decide)
  refine r_calli (r := (blw xx (12 : Int32))) (W.runS (As := [.int xx, .int (12 : Int32)]) (rest := []) CX (ctL_below l xx 12 (by decide)) (va_cwS 2 hts (gwS m3_169 m3_170 m1_0 m3_171) rfl rfl rfl (by decide +kernel) ⟨Nat.le_trans (Nat.le_of_ble_eq_true rfl) hR.1, Nat.le_trans (Nat.le_of_ble_eq_true rfl) hR.2⟩) (pPreS _) rfl rfl hl.1 rfl (lv_room (Nat.le_of_ble_eq_true rfl)) dL_build_146 ⟨Nat.le_trans (show _ ≤ c0 + 200 by omega) hcs, Nat.le_trans (show _ ≤ s0 + 2000 by omega) hss⟩) ?_
  refine top_i (y := (nI w)) (ew.symm) ?_
  refine lv_istore (lv' := [(12, .int (nI w)), (11, .int xx), (6, .int (nI n)), (7, .int (nI u.length)), (10, .int (nI k)), (0, .ref (ad 0)), (1, .ref b), (2, .int 0), (3, .int 60), (4, .ref o), (5, .ref q1), (8, .ref q2), (9, .int (nI P))]) hx hb dL_build_149 hl (by decide) rfl (fun ls hl => ?_)
  refine lv_iload hx hb dL_build_151 (lv_at hl 1 rfl) ?_
  refine lv_iconst (v := 4) hx hb dL_build_153 (by decide) ?_
  refine lv_ishr hx hb dL_build_154 ?_
  refine lv_iconst (v := 4) hx hb dL_build_155 (by decide) ?_
  obtain ⟨ft, hf, ef⟩ := blw_j (xx >>> ((4 : Int32) &&& 31)) (k := 4) (by decide) (by decide)
  refine r_calli (r := (blw (xx >>> ((4 : Int32) &&& 31)) (4 : Int32))) (W.runS (As := [.int (xx >>> ((4 : Int32) &&& 31)), .int (4 : Int32)]) (rest := []) CX (ctL_below l (xx >>> ((4 : Int32) &&& 31)) 4 (by decide)) (va_cwS 2 hts (gwS m3_169 m3_170 m1_0 m3_171) rfl rfl rfl (by decide +kernel) ⟨Nat.le_trans (Nat.le_of_ble_eq_true rfl) hR.1, Nat.le_trans (Nat.le_of_ble_eq_true rfl) hR.2⟩) (pPreS _) rfl rfl hl.1 rfl (lv_room (Nat.le_of_ble_eq_true rfl)) dL_build_156 ⟨Nat.le_trans (show _ ≤ c0 + 200 by omega) hcs, Nat.le_trans (show _ ≤ s0 + 2000 by omega) hss⟩) ?_
  refine top_i (y := (nI ft)) (ef.symm) ?_
  refine lv_istore (lv' := [(13, .int (nI ft)), (12, .int (nI w)), (11, .int xx), (6, .int (nI n)), (7, .int (nI u.length)), (10, .int (nI k)), (0, .ref (ad 0)), (1, .ref b), (2, .int 0), (3, .int 60), (4, .ref o), (5, .ref q1), (8, .ref q2), (9, .int (nI P))]) hx hb dL_build_159 hl (by decide) rfl (fun ls hl => ?_)
  refine lv_iload hx hb dL_build_161 (lv_at hl 2 rfl) ?_
  refine lv_bipush (v := 6) hx hb dL_build_163 (by decide) ?_
  refine lv_ishr hx hb dL_build_165 ?_
  refine lv_iconst (v := 2) hx hb dL_build_166 (by decide) ?_
  refine r_calli (r := (blw (xx >>> ((6 : Int32) &&& 31)) (2 : Int32))) (W.runS (As := [.int (xx >>> ((6 : Int32) &&& 31)), .int (2 : Int32)]) (rest := []) CX (ctL_below l (xx >>> ((6 : Int32) &&& 31)) 2 (by decide)) (va_cwS 2 hts (gwS m3_169 m3_170 m1_0 m3_171) rfl rfl rfl (by decide +kernel) ⟨Nat.le_trans (Nat.le_of_ble_eq_true rfl) hR.1, Nat.le_trans (Nat.le_of_ble_eq_true rfl) hR.2⟩) (pPreS _) rfl rfl hl.1 rfl (lv_room (Nat.le_of_ble_eq_true rfl)) dL_build_167 ⟨Nat.le_trans (show _ ≤ c0 + 200 by omega) hcs, Nat.le_trans (show _ ≤ s0 + 2000 by omega) hss⟩) ?_
  refine lv_if_ne (tgt := 177) hx hb dL_build_170 (by decide) (fun h9 => ?_) (fun h9 => ?_)
  · refine lv_iconst (v := 0) hx hb dL_build_177 (by decide) ?_
    refine top_i (y := (nI 0)) (rfl) ?_
    refine lv_istore (lv' := [(14, .int (nI 0)), (13, .int (nI ft)), (12, .int (nI w)), (11, .int xx), (6, .int (nI n)), (7, .int (nI u.length)), (10, .int (nI k)), (0, .ref (ad 0)), (1, .ref b), (2, .int 0), (3, .int 60), (4, .ref o), (5, .ref q1), (8, .ref q2), (9, .int (nI P))]) hx hb dL_build_178 hl (by decide) rfl (fun ls hl => ?_)
    exact bb_sw K (c0 := c0) (s0 := s0) (by omega) (by omega) hB (w := w) (ft := ft) (on := 0) hf (by decide) hn hP hD hS (lv_sub hl [4, 5, 6, 7, 8, 9, 10, 11, 12, 13, 14, 3, 2, 1, 0] rfl) (fun M n cd u f g H locs ls hB hn hP hD hS hl => bb_tail K (c0 := c0 + 100) (s0 := s0 + 1000) (by omega) (by omega) hB hn hP hD hS hl kk) (fun M n cd u f g H locs ls hB hn hP hD hS hl => W.widen (k := c0 + 100 + 100) (n := s0 + 1000 + 1000) (by omega) (by omega) (kk M n cd u f g H locs ls hB hn hP hD hS hl))
  · refine lv_iconst (v := 1) hx hb dL_build_173 (by decide) ?_
    refine lv_goto (tgt := 178) hx hb dL_build_174 (by decide) ?_
    refine top_i (y := (nI 1)) (rfl) ?_
    refine lv_istore (lv' := [(14, .int (nI 1)), (13, .int (nI ft)), (12, .int (nI w)), (11, .int xx), (6, .int (nI n)), (7, .int (nI u.length)), (10, .int (nI k)), (0, .ref (ad 0)), (1, .ref b), (2, .int 0), (3, .int 60), (4, .ref o), (5, .ref q1), (8, .ref q2), (9, .int (nI P))]) hx hb dL_build_178 hl (by decide) rfl (fun ls hl => ?_)
    exact bb_sw K (c0 := c0) (s0 := s0) (by omega) (by omega) hB (w := w) (ft := ft) (on := 1) hf (by decide) hn hP hD hS (lv_sub hl [4, 5, 6, 7, 8, 9, 10, 11, 12, 13, 14, 3, 2, 1, 0] rfl) (fun M n cd u f g H locs ls hB hn hP hD hS hl => bb_tail K (c0 := c0 + 100) (s0 := s0 + 1000) (by omega) (by omega) hB hn hP hD hS hl kk) (fun M n cd u f g H locs ls hB hn hP hD hS hl => W.widen (k := c0 + 100 + 100) (n := s0 + 1000 + 1000) (by omega) (by omega) (kk M n cd u f g H locs ls hB hn hP hD hS hl))
set_option maxHeartbeats 4000000 in
set_option maxRecDepth 100000 in
theorem bb_loop {p : Program} {l : Launch} {e : Env} {R : Room} {s : State} {m : MethodId} {args : Array Value} {below : List Frame} {meth : Method} {c : Code} {Q : State → Prop} {A : Nat → Prop} {D : va_G} {sw : Sw} {cs : Cs} {cT : ClassId} {b L : Nat} {xs : Nat → Int32} (K : BK l p R s m args c A D sw cs cT b L xs) {ad : Nat → Nat} {o q1 q2 P : Nat} {c0 s0 : Nat} (hcs : c0 + 4800 ≤ R.cells) (hss : s0 + 48000 ≤ R.slots) (hPP : P < 24) (kk : ∀ (k : Nat) (M : Mm) (n : Nat) (cd : Nat → Nat) (u : List (Nat × Bool)) (f g : Nat → Int32) (H : Heap) (locs : List Loc) (ls : Array Slot), BI M n cd u f g → n ≤ 60 → va_P D vwCl (wl cs LC NC ad M ++ xB cs cT sw o q1 q2 f g) H → va_D A (wl cs LC NC ad M ++ xB cs cT sw o q1 q2 f g) → va_S A s.heap H locs → lv_has ls 21 [(6, .int (nI n)), (7, .int (nI u.length)), (10, .int (nI k)), (0, .ref (ad 0)), (1, .ref b), (2, .int 0), (3, .int 60), (4, .ref o), (5, .ref q1), (8, .ref q2), (9, .int (nI P))] → W p l e R s m args below meth c H locs (c0 + 200 * 24) (s0 + 2000 * 24) Q (F0 m 599 ls [])) : ∀ (d k : Nat), P < d + k → k ≤ P → ∀ (M : Mm) (n : Nat) (cd : Nat → Nat) (u : List (Nat × Bool)) (f g : Nat → Int32) (H : Heap) (locs : List Loc) (ls : Array Slot), BI M n cd u f g → n ≤ 60 → va_P D vwCl (wl cs LC NC ad M ++ xB cs cT sw o q1 q2 f g) H → va_D A (wl cs LC NC ad M ++ xB cs cT sw o q1 q2 f g) → va_S A s.heap H locs → lv_has ls 21 [(6, .int (nI n)), (7, .int (nI u.length)), (10, .int (nI k)), (0, .ref (ad 0)), (1, .ref b), (2, .int 0), (3, .int 60), (4, .ref o), (5, .ref q1), (8, .ref q2), (9, .int (nI P))] → W p l e R s m args below meth c H locs (c0 + 200 * k) (s0 + 2000 * k) Q (F0 m 112 ls []) := by
  obtain ⟨CX, hX, hbl, hbA, hK, hKT, hSW, hfl, hA, hR⟩ := id K
  obtain ⟨hx, hb, hml, hown, hts⟩ := id CX
  have hw : ∀ w ∈ WG, w.before args s = true := fun w h => hts w (List.mem_cons_of_mem _ h)
  intro d
  induction d with
  | zero =>
    intro k h1 h2
    exact absurd h1 (by omega)
  | succ d ih =>
    intro k h1 h2 M n cd u f g H locs ls hB hn hP hD hS hl
    refine lv_iload hx hb dL_build_112 (lv_at hl 2 rfl) ?_
    refine lv_iload hx hb dL_build_114 (lv_at hl 10 rfl) ?_
    refine lv_icmp_ge (tgt := 599) hx hb dL_build_116 (by decide) (fun h9 => ?_) (fun h9 => ?_)
    · refine W.widen (k := c0 + 200 * 24) (n := s0 + 2000 * 24) (by omega) (by omega) ?_
      exact kk k M n cd u f g H locs ls hB (by omega) hP hD hS (lv_sub hl [0, 1, 2, 3, 4, 5, 6, 7, 8, 9, 10] rfl)
    · have hkP : k < P := by
        by_cases q : k < P
        · exact q
        · exact absurd (nI_le (a := P) (b := k) (by omega) (by omega)) h9
      skip
      refine bb_part K (c0 := c0 + 200 * k) (s0 := s0 + 2000 * k) (by omega) (by omega) hB hn (by omega) hP hD hS (lv_sub hl [0, 1, 2, 3, 4, 5, 6, 7, 8, 9, 10] rfl) (fun M n cd u f g H locs ls hB hn hP hD hS hl => ?_)
      refine lv_iinc (v := (nI (k + 1))) (lv' := [(10, .int (nI (k + 1))), (6, .int (nI n)), (7, .int (nI u.length)), (0, .ref (ad 0)), (1, .ref b), (2, .int 0), (3, .int 60), (4, .ref o), (5, .ref q1), (8, .ref q2), (9, .int (nI P))]) hx hb dL_build_593 hl (k := 2) rfl (up1 k) (by decide) rfl (fun ls hl => ?_)
      refine lv_goto (tgt := 112) hx hb dL_build_596 (by decide) ?_
      refine W.widen (k := c0 + 200 * (k + 1)) (n := s0 + 2000 * (k + 1)) (by omega) (by omega) ?_
      exact ih (k + 1) (by omega) (by omega) M n cd u f g H locs ls hB hn hP hD hS (lv_sub hl [1, 2, 0, 3, 4, 5, 6, 7, 8, 9, 10] rfl)
set_option maxHeartbeats 4000000 in
set_option maxRecDepth 100000 in
theorem bb_while {p : Program} {l : Launch} {e : Env} {R : Room} {s : State} {m : MethodId} {args : Array Value} {below : List Frame} {meth : Method} {c : Code} {Q : State → Prop} {A : Nat → Prop} {D : va_G} {sw : Sw} {cs : Cs} {cT : ClassId} {b L : Nat} {xs : Nat → Int32} (K : BK l p R s m args c A D sw cs cT b L xs) {ad : Nat → Nat} {o q1 q2 P k : Nat}  : ∀ (u : List (Nat × Bool)) {c0 s0 : Nat}, c0 + 100 * u.length ≤ R.cells → s0 + 1000 * u.length ≤ R.slots → ∀ {M : Mm} {n : Nat} {cd : Nat → Nat} {f g : Nat → Int32}, BI M n cd u f g → n + u.length ≤ 65 → ∀ {H : Heap} {locs : List Loc} {ls : Array Slot}, va_P D vwCl (wl cs LC NC ad M ++ xB cs cT sw o q1 q2 f g) H → va_D A (wl cs LC NC ad M ++ xB cs cT sw o q1 q2 f g) → va_S A s.heap H locs → lv_has ls 21 [(6, .int (nI n)), (7, .int (nI u.length)), (10, .int (nI k)), (0, .ref (ad 0)), (1, .ref b), (2, .int 0), (3, .int 60), (4, .ref o), (5, .ref q1), (8, .ref q2), (9, .int (nI P))] → (∀ (M : Mm) (n : Nat) (cd : Nat → Nat) (f g : Nat → Int32) (H : Heap) (locs : List Loc) (ls : Array Slot), BI M n cd [] f g → n ≤ 65 → va_P D vwCl (wl cs LC NC ad M ++ xB cs cT sw o q1 q2 f g) H → va_D A (wl cs LC NC ad M ++ xB cs cT sw o q1 q2 f g) → va_S A s.heap H locs → lv_has ls 21 [(6, .int (nI n)), (7, .int (nI 0)), (10, .int (nI k)), (0, .ref (ad 0)), (1, .ref b), (2, .int 0), (3, .int 60), (4, .ref o), (5, .ref q1), (8, .ref q2), (9, .int (nI P))] → W p l e R s m args below meth c H locs (c0 + 100 * u.length) (s0 + 1000 * u.length) Q (F0 m 628 ls [])) → W p l e R s m args below meth c H locs c0 s0 Q (F0 m 599 ls []) := by
  obtain ⟨CX, hX, hbl, hbA, hK, hKT, hSW, hfl, hA, hR⟩ := id K
  obtain ⟨hx, hb, hml, hown, hts⟩ := id CX
  have hw : ∀ w ∈ WG, w.before args s = true := fun w h => hts w (List.mem_cons_of_mem _ h)
  intro u
  induction u with
  | nil =>
    intro c0 s0 hcs hss M n cd f g hB hn H locs ls hP hD hS hl kk
    simp only [List.length_nil, Nat.add_zero, Nat.mul_zero] at hn
    have hl : lv_has ls 21 [(6, .int (nI n)), (7, .int (nI 0)), (10, .int (nI k)), (0, .ref (ad 0)), (1, .ref b), (2, .int 0), (3, .int 60), (4, .ref o), (5, .ref q1), (8, .ref q2), (9, .int (nI P))] := hl
    refine lv_iload hx hb dL_build_599 (lv_at hl 1 rfl) ?_
    refine lv_if_le (tgt := 628) hx hb dL_build_601 (by decide) (fun _ => ?_) (fun h9 => absurd (by decide) h9)
    exact kk M n cd f g H locs ls hB (by omega) hP hD hS hl
  | cons q0 r ih =>
    intro c0 s0 hcs hss M n cd f g hB hn H locs ls hP hD hS hl kk
    simp only [List.length_cons] at hcs hss hn
    have h5 := hB.l5
    simp only [List.length_cons] at h5
    have hl : lv_has ls 21 [(6, .int (nI n)), (7, .int (nI (r.length + 1))), (10, .int (nI k)), (0, .ref (ad 0)), (1, .ref b), (2, .int 0), (3, .int 60), (4, .ref o), (5, .ref q1), (8, .ref q2), (9, .int (nI P))] := hl
    refine lv_iload hx hb dL_build_599 (lv_at hl 1 rfl) ?_
    refine lv_if_le (tgt := 628) hx hb dL_build_601 (by decide) (fun h9 => absurd h9 (nI_nle (by omega) (by omega))) (fun _ => ?_)
    refine lv_iinc (v := (nI r.length)) (lv' := [(7, .int (nI r.length)), (6, .int (nI n)), (10, .int (nI k)), (0, .ref (ad 0)), (1, .ref b), (2, .int 0), (3, .int 60), (4, .ref o), (5, .ref q1), (8, .ref q2), (9, .int (nI P))]) hx hb dL_build_604 hl (k := 1) rfl (dn1 r.length) (by decide) rfl (fun ls hl => ?_)
    refine lv_aload hx hb dL_build_607 (lv_at hl 7 rfl) ?_
    refine lv_iload hx hb dL_build_609 (lv_at hl 1 rfl) ?_
    refine lv_bipush (v := 17) hx hb dL_build_611 (by decide) ?_
    refine b_sti hx hb hK hP hD hS (by omega) dL_build_613 (fun H locs hP hD hS => ?_)
    refine lv_iinc (v := (nI (n + 1))) (lv' := [(6, .int (nI (n + 1))), (7, .int (nI r.length)), (10, .int (nI k)), (0, .ref (ad 0)), (1, .ref b), (2, .int 0), (3, .int 60), (4, .ref o), (5, .ref q1), (8, .ref q2), (9, .int (nI P))]) hx hb dL_build_614 hl (k := 1) rfl (up1 n) (by decide) rfl (fun ls hl => ?_)
    refine lv_aload_n hx hb dL_build_617 rfl (lv_at hl 3 rfl) ?_
    obtain ⟨M1, e1, hB1⟩ := BI_done hB (show n < 80 by omega)
    refine t_calli (vx_runV (As := []) (rest := []) CX (ctX7_done l hfl D sw cs ad (xB cs cT sw o q1 q2 (upd f n (17 : Int32)) g) H.size M  e1) (cwV 0 hts (gwV m3_232 m3_233 m3_234 m1_1 m3_235) rfl rfl rfl (by decide +kernel) ⟨Nat.le_trans (Nat.le_of_ble_eq_true rfl) hR.1, Nat.le_trans (Nat.le_of_ble_eq_true rfl) hR.2⟩) (wPreV hSW hS hA hK hP hD (by decide) rfl rfl _) rfl rfl hl.1 rfl (lv_room (Nat.le_of_ble_eq_true rfl)) dL_build_618 ⟨Nat.le_trans (show _ ≤ c0 + 100 * (r.length + 1) by omega) hcs, Nat.le_trans (show _ ≤ s0 + 1000 * (r.length + 1) by omega) hss⟩) hD hS hA (fun k9 ho9 => by cases ho9) (fun r9 ho9 H locs hP hD hS => ?_)
    cases ho9
    refine lv_iload hx hb dL_build_621 (lv_at hl 0 rfl) ?_
    refine lv_icmp_eq (tgt := 599) hx hb dL_build_623 (by decide) (fun _ => ?_) (fun h9 => absurd (rfl) h9)
    refine W.widen (k := c0 + 100) (n := s0 + 1000) (by omega) (by omega) ?_
    refine ih (c0 := c0 + 100) (s0 := s0 + 1000) (by omega) (by omega) (n := n + 1) hB1 (by omega) hP hD hS (lv_sub hl [0, 1, 2, 3, 4, 5, 6, 7, 8, 9, 10] rfl) (fun M n cd f g H locs ls hB hn hP hD hS hl => ?_)
    refine W.widen (k := c0 + 100 * (r.length + 1)) (n := s0 + 1000 * (r.length + 1)) (by omega) (by omega) ?_
    exact kk M n cd f g H locs ls hB hn hP hD hS hl
