abbrev wsX7_readAll : List Cond := Cond.code yX7_readAll cX7_readAll 3 none :: WG
def gX7_readAll_L125 : Nat → Mm → Int32 → Option Mm
  | 0, _, _ => none
  | n7 + 1, M5, x6 => if (16 : Int32) ≤ x6 then (some M5) else if (x6 < 0 ∨ 16 ≤ (x6).toNatClampNeg) then none else lt ((x6).toNatClampNeg) fun v10 => bd (gX1_end M5 v10 (M5 1 1)) fun M13 => lt (x6 + (1 : Int32)) fun x14 => gX7_readAll_L125 n7 M13 x14
def gX7_readAll_L74 (E31 : Mm → Int32 → Option Mm) : Nat → Mm → Int32 → Int32 → Option Mm
  | 0, _, _, _ => none
  | n36 + 1, M33, x34, x35 => if (16 : Int32) ≤ x35 then (E31 M33 x34) else bd (gX7_isReadBy M33 x35 x34) fun r38 => if r38 = 0 then (lt (x35 + (1 : Int32)) fun x41 => gX7_readAll_L74 E31 n36 M33 x34 x41) else if (x35 < 0 ∨ 16 ≤ (x35).toNatClampNeg) then none else lt ((x35).toNatClampNeg) fun v43 => if (x34 < 0 ∨ 80 ≤ (x34).toNatClampNeg) then none else bd (gX1_take M33 v43 (M33 2 (x34).toNatClampNeg) x34) fun M47 => lt (x35 + (1 : Int32)) fun x48 => gX7_readAll_L74 E31 n36 M47 x34 x48
def gX7_readAll_L28 (E4 : Mm → Option Mm) : Nat → Mm → Int32 → Option Mm
  | 0, _, _ => none
  | n18 + 1, M16, x17 => if (M16 1 1) ≤ x17 then (E4 M16) else if (x17 < 0 ∨ 80 ≤ (x17).toNatClampNeg) then none else lt (um M16 14 (x17).toNatClampNeg (0 : Int32)) fun M21 => if (x17 < 0 ∨ 80 ≤ (x17).toNatClampNeg) then none else if (gX0_isToken (M21 2 (x17).toNatClampNeg)) = 0 then (lt (x17 + (1 : Int32)) fun x24 => gX7_readAll_L28 E4 n18 M21 x24) else bd (gX7_countGroups M21 x17) fun r25 => if (x17 < 0 ∨ 80 ≤ (x17).toNatClampNeg) then none else lt (um M21 14 (x17).toNatClampNeg r25) fun M28 => lt (fun (M29 : Mm) (x30 : Int32) => lt (x30 + (1 : Int32)) fun x32 => gX7_readAll_L28 E4 n18 M29 x32) fun E31 => gX7_readAll_L74 E31 FU M28 x17 (0 : Int32)
def gX7_readAll_L2 (E2 : Mm → Option Mm) : Nat → Mm → Int32 → Option Mm
  | 0, _, _ => none
  | n53 + 1, M51, x52 => if (16 : Int32) ≤ x52 then (E2 M51) else if (x52 < 0 ∨ 16 ≤ (x52).toNatClampNeg) then none else lt ((x52).toNatClampNeg) fun v56 => bd (gX1_begin M51 v56) fun M59 => lt (x52 + (1 : Int32)) fun x60 => gX7_readAll_L2 E2 n53 M59 x60
def gX7_readAll (M : Mm) : Option Mm := lt (fun (M1 : Mm) => lt (fun (M3 : Mm) => gX7_readAll_L125 FU M3 (0 : Int32)) fun E4 => gX7_readAll_L28 E4 FU M1 (0 : Int32)) fun E2 => gX7_readAll_L2 E2 FU M (0 : Int32)
set_option maxHeartbeats 4000000 in
set_option maxRecDepth 100000 in
theorem bX7_readAll {p : Program} {l : Launch} {e : Env} {R : Room} {s : State} {m : MethodId} {args : Array Value} {below : List Frame} {meth : Method} {c : Code} {H : Heap} {locs : List Loc} {Q : State → Prop} {D : va_G} {sw : Sw} {cs : Cs} {ad : Nat → Nat} {X : va_W} {A : Nat → Prop} (M : Mm) {res : Option Mm} (hg : gX7_readAll M = res) (hne : res ≠ none) (CX : CallFix p m c cX7_readAll 3 s args wsX7_readAll RX7) (hR : 6 ≤ R.frames ∧ 133 ≤ R.locals) (hK : va_K D vwCl (tysC cs) s) (hSW : SW sw A s s.heap) (hP : va_P D vwCl (wl cs LC NC ad M ++ X) H) (hD : va_D A (wl cs LC NC ad M ++ X)) (hS : va_S A s.heap H locs) (hA : ∀ q, s.heap.size ≤ q → A q) {ls : Array Slot} (hl : lv_has ls 3 [(0, .ref (ad 0))]) (hret : ∀ (pc : Nat) (ls : Array Slot) (H : Heap) (locs : List Loc) (M9 : Mm), some M9 = res → decode cX7_readAll pc = .ok (.return_, 1) → va_P D vwCl (wl cs LC NC ad M9 ++ X) H → va_D A (wl cs LC NC ad M9 ++ X) → va_S A s.heap H locs → W p l e R s m args below meth c H locs 0 0 Q (F0 m pc ls [])) : W p l e R s m args below meth c H locs 0 0 Q (F0 m 0 ls []) := by
  obtain ⟨hx, hb, hml, hown, hts⟩ := id CX
  have hw : ∀ w ∈ WG, w.before args s = true := fun w h => hts w (List.mem_cons_of_mem _ h)
  have lk_25 := hw _ m1_163
  have lk_148 := hw _ m1_147
  have lk_10 := hw _ m1_161
  have lk_55 := hw _ m1_40
  have lk_30 := hw _ m1_164
  have lk_105 := hw _ m1_39
  unfold gX7_readAll at hg
  refine lv_iconst (v := 0) hx hb dX7_readAll_0 (by decide) ?_
  refine lv_istore_n (lv' := [(1, .int (0 : Int32)), (0, .ref (ad 0))]) hx hb dX7_readAll_1 rfl hl (by decide) rfl (fun ls hl => ?_)
  obtain ⟨E2, hE2, hg⟩ := lf1 hg
  have kE2 : ∀ (M1 : Mm) (H : Heap) (locs : List Loc) (ls : Array Slot), va_P D vwCl (wl cs LC NC ad M1 ++ X) H → va_D A (wl cs LC NC ad M1 ++ X) → va_S A s.heap H locs → lv_has ls 3 [(0, .ref (ad 0))] → E2 M1 = res → W p l e R s m args below meth c H locs 0 0 Q (F0 m 26 ls []) := by
    intro M1 H locs ls hP hD hS hl hg
    rw [hE2] at hg
    refine lv_iconst (v := 0) hx hb dX7_readAll_26 (by decide) ?_
    refine lv_istore_n (lv' := [(1, .int (0 : Int32)), (0, .ref (ad 0))]) hx hb dX7_readAll_27 rfl hl (by decide) rfl (fun ls hl => ?_)
    obtain ⟨E4, hE4, hg⟩ := lf1 hg
    have kE4 : ∀ (M3 : Mm) (H : Heap) (locs : List Loc) (ls : Array Slot), va_P D vwCl (wl cs LC NC ad M3 ++ X) H → va_D A (wl cs LC NC ad M3 ++ X) → va_S A s.heap H locs → lv_has ls 3 [(0, .ref (ad 0))] → E4 M3 = res → W p l e R s m args below meth c H locs 0 0 Q (F0 m 123 ls []) := by
      intro M3 H locs ls hP hD hS hl hg
      rw [hE4] at hg
      refine lv_iconst (v := 0) hx hb dX7_readAll_123 (by decide) ?_
      refine lv_istore_n (lv' := [(1, .int (0 : Int32)), (0, .ref (ad 0))]) hx hb dX7_readAll_124 rfl hl (by decide) rfl (fun ls hl => ?_)
      have kL125_15 : ∀ (n7 : Nat) (M5 : Mm) (x6 : Int32) (H : Heap) (locs : List Loc) (ls : Array Slot), va_P D vwCl (wl cs LC NC ad M5 ++ X) H → va_D A (wl cs LC NC ad M5 ++ X) → va_S A s.heap H locs → lv_has ls 3 [(0, .ref (ad 0)), (1, .int x6)] → gX7_readAll_L125 n7 M5 x6 = res → W p l e R s m args below meth c H locs 0 0 Q (F0 m 125 ls []) := by
        intro n7
        induction n7 with
        | zero =>
          intro M5 x6 H locs ls hP hD hS hl hg
          rw [gX7_readAll_L125] at hg
          exact absurd hg.symm hne
        | succ n7 ih =>
          intro M5 x6 H locs ls hP hD hS hl hg
          rw [gX7_readAll_L125] at hg
          refine lv_iload_n hx hb dX7_readAll_125 rfl (lv_at hl 1 rfl) ?_
          refine lv_bipush (v := 16) hx hb dX7_readAll_126 (by decide) ?_
          refine lv_icmp_ge (tgt := 156) hx hb dX7_readAll_128 (by decide) (fun c8 => ?_) (fun c8 => ?_)
          · have hg := if_t hg c8
            exact hret _ _ _ _ _ hg dX7_readAll_156 hP hD hS
          · have hg := if_f hg c8
            refine lv_aload_n hx hb dX7_readAll_131 rfl (lv_at hl 0 rfl) ?_
            refine m_gr (C := RX7) (T := TX7) (n := 5) (ci := 5) hx hb hts in_RX7 hown hK hP (by decide) rfl rfl 2 (by decide) rfl lk_25 (fun _ h9 => h9) dX7_readAll_132 ?_
            refine lv_iload_n hx hb dX7_readAll_135 rfl (lv_at hl 1 rfl) ?_
            obtain ⟨b9, hg⟩ := ck_e hg hne
            obtain ⟨v10, hv10, hg⟩ := lt_e hg
            have h11 := ix_lt b9 hv10
            refine m_lq (k := 13) hx hb hK hP (by decide) rfl b9 dX7_readAll_136 ?_
            rw [← hv10]
            refine m_gr (C := RX5) (T := TX5) (n := 5) (ci := 3) hx hb hts in_RX5 hown hK hP (kC_v0 h11) (LC_VAR v10) rfl 3 (by decide) rfl lk_148 (fun _ h9 => h9) dX7_readAll_137 ?_
            refine lv_aload_n hx hb dX7_readAll_140 rfl (lv_at hl 0 rfl) ?_
            refine m_gr (C := RX7) (T := TX7) (n := 5) (ci := 5) hx hb hts in_RX7 hown hK hP (by decide) rfl rfl 0 (by decide) rfl lk_10 (fun _ h9 => h9) dX7_readAll_141 ?_
            refine m_gi (C := RX4) (T := TX4) (n := 2) (ci := 2) hx hb hts in_RX4 hown hK hP (by decide) rfl rfl 1 (by decide) rfl lk_55 (fun _ h9 => h9) dX7_readAll_144 ?_
            obtain ⟨M13, q12, hg⟩ := bd_e hg hne
            refine w_callv (va_runV (As := [.int (M5 1 1)]) (rest := []) CX (ctX1_end l D sw cs ad X H.size M5 v10 h11 (M5 1 1) q12) (cwV 1 hts (gwV m2_124 m2_125 m2_126 m1_5 m2_127) rfl rfl rfl (by decide +kernel) ⟨Nat.le_trans (Nat.le_of_ble_eq_true rfl) hR.1, Nat.le_trans (Nat.le_of_ble_eq_true rfl) hR.2⟩) (wPreV hSW hS hA hK hP hD (kC_v (j := 3) h11 (by decide)) (LC_RDG v10) rfl _) rfl rfl hl.1 rfl (lv_room (Nat.le_of_ble_eq_true rfl)) dX7_readAll_147 ⟨Nat.zero_le _, Nat.zero_le _⟩) hD hS hA (fun H locs hP hD hS => ?_)
            obtain ⟨x14, hx14, hg⟩ := lt_e hg
            refine lv_iinc (v := x14) (lv' := [(1, .int x14), (0, .ref (ad 0))]) hx hb dX7_readAll_150 hl (k := 1) rfl (hx14.symm) (by decide) rfl (fun ls hl => ?_)
            refine lv_goto (tgt := 125) hx hb dX7_readAll_153 (by decide) ?_
            exact ih _ _ _ _ _ hP hD hS (lv_sub hl [1, 0] rfl) hg
      exact kL125_15 FU _ _ _ _ _ hP hD hS (lv_sub hl [1, 0] rfl) hg
    have kL28_50 : ∀ (n18 : Nat) (M16 : Mm) (x17 : Int32) (H : Heap) (locs : List Loc) (ls : Array Slot), va_P D vwCl (wl cs LC NC ad M16 ++ X) H → va_D A (wl cs LC NC ad M16 ++ X) → va_S A s.heap H locs → lv_has ls 3 [(0, .ref (ad 0)), (1, .int x17)] → gX7_readAll_L28 E4 n18 M16 x17 = res → W p l e R s m args below meth c H locs 0 0 Q (F0 m 28 ls []) := by
      intro n18
      induction n18 with
      | zero =>
        intro M16 x17 H locs ls hP hD hS hl hg
        rw [gX7_readAll_L28] at hg
        exact absurd hg.symm hne
      | succ n18 ih =>
        intro M16 x17 H locs ls hP hD hS hl hg
        rw [gX7_readAll_L28] at hg
        refine lv_iload_n hx hb dX7_readAll_28 rfl (lv_at hl 1 rfl) ?_
        refine lv_aload_n hx hb dX7_readAll_29 rfl (lv_at hl 0 rfl) ?_
        refine m_gr (C := RX7) (T := TX7) (n := 5) (ci := 5) hx hb hts in_RX7 hown hK hP (by decide) rfl rfl 0 (by decide) rfl lk_10 (fun _ h9 => h9) dX7_readAll_30 ?_
        refine m_gi (C := RX4) (T := TX4) (n := 2) (ci := 2) hx hb hts in_RX4 hown hK hP (by decide) rfl rfl 1 (by decide) rfl lk_55 (fun _ h9 => h9) dX7_readAll_33 ?_
        refine lv_icmp_ge (tgt := 123) hx hb dX7_readAll_36 (by decide) (fun c19 => ?_) (fun c19 => ?_)
        · have hg := if_t hg c19
          exact kE4 _ _ _ _ hP hD hS (lv_sub hl [0] rfl) hg
        · have hg := if_f hg c19
          refine lv_aload_n hx hb dX7_readAll_39 rfl (lv_at hl 0 rfl) ?_
          refine m_gr (C := RX7) (T := TX7) (n := 5) (ci := 5) hx hb hts in_RX7 hown hK hP (by decide) rfl rfl 3 (by decide) rfl lk_30 (fun _ h9 => h9) dX7_readAll_40 ?_
          refine lv_iload_n hx hb dX7_readAll_43 rfl (lv_at hl 1 rfl) ?_
          refine lv_iconst (v := 0) hx hb dX7_readAll_44 (by decide) ?_
          obtain ⟨b20, hg⟩ := ck_e hg hne
          obtain ⟨M21, hM21, hg⟩ := lt_e hg
          refine m_st hx hb hK hP hD hS (by decide) rfl b20 dX7_readAll_45 hM21 (fun H locs hP hD hS => ?_)
          refine lv_aload_n hx hb dX7_readAll_46 rfl (lv_at hl 0 rfl) ?_
          refine m_gr (C := RX7) (T := TX7) (n := 5) (ci := 5) hx hb hts in_RX7 hown hK hP (by decide) rfl rfl 0 (by decide) rfl lk_10 (fun _ h9 => h9) dX7_readAll_47 ?_
          refine m_gr (C := RX4) (T := TX4) (n := 2) (ci := 2) hx hb hts in_RX4 hown hK hP (by decide) rfl rfl 0 (by decide) rfl lk_105 (fun _ h9 => h9) dX7_readAll_50 ?_
          refine lv_iload_n hx hb dX7_readAll_53 rfl (lv_at hl 1 rfl) ?_
          obtain ⟨b22, hg⟩ := ck_e hg hne
          refine m_ld hx hb hK hP (by decide) rfl b22 dX7_readAll_54 ?_
          refine r_calli (W.runS (As := [.int (M21 2 (x17).toNatClampNeg)]) (rest := []) CX (ctX0_isToken l (M21 2 (x17).toNatClampNeg)) (va_cwS 1 hts (gwS m1_233 m1_234 m1_8 m1_235) rfl rfl rfl (by decide +kernel) ⟨Nat.le_trans (Nat.le_of_ble_eq_true rfl) hR.1, Nat.le_trans (Nat.le_of_ble_eq_true rfl) hR.2⟩) (pPreS _) rfl rfl hl.1 rfl (lv_room (Nat.le_of_ble_eq_true rfl)) dX7_readAll_55 ⟨Nat.zero_le _, Nat.zero_le _⟩) ?_
          refine lv_if_eq (tgt := 117) hx hb dX7_readAll_58 (by decide) (fun c23 => ?_) (fun c23 => ?_)
          · have hg := if_t hg c23
            obtain ⟨x24, hx24, hg⟩ := lt_e hg
            refine lv_iinc (v := x24) (lv' := [(1, .int x24), (0, .ref (ad 0))]) hx hb dX7_readAll_117 hl (k := 1) rfl (hx24.symm) (by decide) rfl (fun ls hl => ?_)
            refine lv_goto (tgt := 28) hx hb dX7_readAll_120 (by decide) ?_
            exact ih _ _ _ _ _ hP hD hS (lv_sub hl [1, 0] rfl) hg
          · have hg := if_f hg c23
            refine lv_aload_n hx hb dX7_readAll_61 rfl (lv_at hl 0 rfl) ?_
            refine m_gr (C := RX7) (T := TX7) (n := 5) (ci := 5) hx hb hts in_RX7 hown hK hP (by decide) rfl rfl 3 (by decide) rfl lk_30 (fun _ h9 => h9) dX7_readAll_62 ?_
            refine lv_iload_n hx hb dX7_readAll_65 rfl (lv_at hl 1 rfl) ?_
            refine lv_aload_n hx hb dX7_readAll_66 rfl (lv_at hl 0 rfl) ?_
            refine lv_iload_n hx hb dX7_readAll_67 rfl (lv_at hl 1 rfl) ?_
            obtain ⟨r25, q26, hg⟩ := bd_e hg hne
            refine r_calli (W.runV (As := [.int x17]) (rest := [.int x17, .ref (ad 14)]) CX (ctX7_countGroups l D sw cs ad X M21 x17 q26) (cwV 1 hts (gwV m2_22 m2_24 mp1_7 m1_1 m2_25) rfl rfl rfl (by decide +kernel) ⟨Nat.le_trans (Nat.le_of_ble_eq_true rfl) hR.1, Nat.le_trans (Nat.le_of_ble_eq_true rfl) hR.2⟩) (rPreV (hSW.wr hS) hK hP (by decide) rfl rfl _) rfl rfl hl.1 rfl (lv_room (Nat.le_of_ble_eq_true rfl)) dX7_readAll_68 ⟨Nat.zero_le _, Nat.zero_le _⟩) ?_
            obtain ⟨b27, hg⟩ := ck_e hg hne
            obtain ⟨M28, hM28, hg⟩ := lt_e hg
            refine m_st hx hb hK hP hD hS (by decide) rfl b27 dX7_readAll_71 hM28 (fun H locs hP hD hS => ?_)
            refine lv_iconst (v := 0) hx hb dX7_readAll_72 (by decide) ?_
            refine lv_istore_n (lv' := [(2, .int (0 : Int32)), (0, .ref (ad 0)), (1, .int x17)]) hx hb dX7_readAll_73 rfl hl (by decide) rfl (fun ls hl => ?_)
            obtain ⟨E31, hE31, hg⟩ := lf2 hg
            have kE31 : ∀ (M29 : Mm) (x30 : Int32) (H : Heap) (locs : List Loc) (ls : Array Slot), va_P D vwCl (wl cs LC NC ad M29 ++ X) H → va_D A (wl cs LC NC ad M29 ++ X) → va_S A s.heap H locs → lv_has ls 3 [(0, .ref (ad 0)), (1, .int x30)] → E31 M29 x30 = res → W p l e R s m args below meth c H locs 0 0 Q (F0 m 117 ls []) := by
              intro M29 x30 H locs ls hP hD hS hl hg
              rw [hE31] at hg
              obtain ⟨x32, hx32, hg⟩ := lt_e hg
              refine lv_iinc (v := x32) (lv' := [(1, .int x32), (0, .ref (ad 0))]) hx hb dX7_readAll_117 hl (k := 1) rfl (hx32.symm) (by decide) rfl (fun ls hl => ?_)
              refine lv_goto (tgt := 28) hx hb dX7_readAll_120 (by decide) ?_
              exact ih _ _ _ _ _ hP hD hS (lv_sub hl [1, 0] rfl) hg
            have kL74_49 : ∀ (n36 : Nat) (M33 : Mm) (x34 : Int32) (x35 : Int32) (H : Heap) (locs : List Loc) (ls : Array Slot), va_P D vwCl (wl cs LC NC ad M33 ++ X) H → va_D A (wl cs LC NC ad M33 ++ X) → va_S A s.heap H locs → lv_has ls 3 [(0, .ref (ad 0)), (1, .int x34), (2, .int x35)] → gX7_readAll_L74 E31 n36 M33 x34 x35 = res → W p l e R s m args below meth c H locs 0 0 Q (F0 m 74 ls []) := by
              intro n36
              induction n36 with
              | zero =>
                intro M33 x34 x35 H locs ls hP hD hS hl hg
                rw [gX7_readAll_L74] at hg
                exact absurd hg.symm hne
              | succ n36 ih =>
                intro M33 x34 x35 H locs ls hP hD hS hl hg
                rw [gX7_readAll_L74] at hg
                refine lv_iload_n hx hb dX7_readAll_74 rfl (lv_at hl 2 rfl) ?_
                refine lv_bipush (v := 16) hx hb dX7_readAll_75 (by decide) ?_
                refine lv_icmp_ge (tgt := 117) hx hb dX7_readAll_77 (by decide) (fun c37 => ?_) (fun c37 => ?_)
                · have hg := if_t hg c37
                  exact kE31 _ _ _ _ _ hP hD hS (lv_sub hl [0, 1] rfl) hg
                · have hg := if_f hg c37
                  refine lv_aload_n hx hb dX7_readAll_80 rfl (lv_at hl 0 rfl) ?_
                  refine lv_iload_n hx hb dX7_readAll_81 rfl (lv_at hl 2 rfl) ?_
                  refine lv_iload_n hx hb dX7_readAll_82 rfl (lv_at hl 1 rfl) ?_
                  obtain ⟨r38, q39, hg⟩ := bd_e hg hne
                  refine r_calli (W.runV (As := [.int x35, .int x34]) (rest := []) CX (ctX7_isReadBy l D sw cs ad X M33 x35 x34 q39) (cwV 2 hts (gwV m2_26 m2_28 mp1_8 m1_1 m2_29) rfl rfl rfl (by decide +kernel) ⟨Nat.le_trans (Nat.le_of_ble_eq_true rfl) hR.1, Nat.le_trans (Nat.le_of_ble_eq_true rfl) hR.2⟩) (rPreV (hSW.wr hS) hK hP (by decide) rfl rfl _) rfl rfl hl.1 rfl (lv_room (Nat.le_of_ble_eq_true rfl)) dX7_readAll_83 ⟨Nat.zero_le _, Nat.zero_le _⟩) ?_
                  refine lv_if_eq (tgt := 111) hx hb dX7_readAll_86 (by decide) (fun c40 => ?_) (fun c40 => ?_)
                  · have hg := if_t hg c40
                    obtain ⟨x41, hx41, hg⟩ := lt_e hg
                    refine lv_iinc (v := x41) (lv' := [(2, .int x41), (0, .ref (ad 0)), (1, .int x34)]) hx hb dX7_readAll_111 hl (k := 2) rfl (hx41.symm) (by decide) rfl (fun ls hl => ?_)
                    refine lv_goto (tgt := 74) hx hb dX7_readAll_114 (by decide) ?_
                    exact ih _ _ _ _ _ _ hP hD hS (lv_sub hl [1, 2, 0] rfl) hg
                  · have hg := if_f hg c40
                    refine lv_aload_n hx hb dX7_readAll_89 rfl (lv_at hl 0 rfl) ?_
                    refine m_gr (C := RX7) (T := TX7) (n := 5) (ci := 5) hx hb hts in_RX7 hown hK hP (by decide) rfl rfl 2 (by decide) rfl lk_25 (fun _ h9 => h9) dX7_readAll_90 ?_
                    refine lv_iload_n hx hb dX7_readAll_93 rfl (lv_at hl 2 rfl) ?_
                    obtain ⟨b42, hg⟩ := ck_e hg hne
                    obtain ⟨v43, hv43, hg⟩ := lt_e hg
                    have h44 := ix_lt b42 hv43
                    refine m_lq (k := 13) hx hb hK hP (by decide) rfl b42 dX7_readAll_94 ?_
                    rw [← hv43]
                    refine m_gr (C := RX5) (T := TX5) (n := 5) (ci := 3) hx hb hts in_RX5 hown hK hP (kC_v0 h44) (LC_VAR v43) rfl 3 (by decide) rfl lk_148 (fun _ h9 => h9) dX7_readAll_95 ?_
                    refine lv_aload_n hx hb dX7_readAll_98 rfl (lv_at hl 0 rfl) ?_
                    refine m_gr (C := RX7) (T := TX7) (n := 5) (ci := 5) hx hb hts in_RX7 hown hK hP (by decide) rfl rfl 0 (by decide) rfl lk_10 (fun _ h9 => h9) dX7_readAll_99 ?_
                    refine m_gr (C := RX4) (T := TX4) (n := 2) (ci := 2) hx hb hts in_RX4 hown hK hP (by decide) rfl rfl 0 (by decide) rfl lk_105 (fun _ h9 => h9) dX7_readAll_102 ?_
                    refine lv_iload_n hx hb dX7_readAll_105 rfl (lv_at hl 1 rfl) ?_
                    obtain ⟨b45, hg⟩ := ck_e hg hne
                    refine m_ld hx hb hK hP (by decide) rfl b45 dX7_readAll_106 ?_
                    refine lv_iload_n hx hb dX7_readAll_107 rfl (lv_at hl 1 rfl) ?_
                    obtain ⟨M47, q46, hg⟩ := bd_e hg hne
                    refine w_callv (va_runV (As := [.int (M33 2 (x34).toNatClampNeg), .int x34]) (rest := []) CX (ctX1_take l D sw cs ad X H.size M33 v43 h44 (M33 2 (x34).toNatClampNeg) x34 q46) (cwV 2 hts (gwV m2_44 m2_45 m2_46 m1_5 m2_47) rfl rfl rfl (by decide +kernel) ⟨Nat.le_trans (Nat.le_of_ble_eq_true rfl) hR.1, Nat.le_trans (Nat.le_of_ble_eq_true rfl) hR.2⟩) (wPreV hSW hS hA hK hP hD (kC_v (j := 3) h44 (by decide)) (LC_RDG v43) rfl _) rfl rfl hl.1 rfl (lv_room (Nat.le_of_ble_eq_true rfl)) dX7_readAll_108 ⟨Nat.zero_le _, Nat.zero_le _⟩) hD hS hA (fun H locs hP hD hS => ?_)
                    obtain ⟨x48, hx48, hg⟩ := lt_e hg
                    refine lv_iinc (v := x48) (lv' := [(2, .int x48), (0, .ref (ad 0)), (1, .int x34)]) hx hb dX7_readAll_111 hl (k := 2) rfl (hx48.symm) (by decide) rfl (fun ls hl => ?_)
                    refine lv_goto (tgt := 74) hx hb dX7_readAll_114 (by decide) ?_
                    exact ih _ _ _ _ _ _ hP hD hS (lv_sub hl [1, 2, 0] rfl) hg
            exact kL74_49 FU _ _ _ _ _ _ hP hD hS (lv_sub hl [1, 2, 0] rfl) hg
    exact kL28_50 FU _ _ _ _ _ hP hD hS (lv_sub hl [1, 0] rfl) hg
  have kL2_61 : ∀ (n53 : Nat) (M51 : Mm) (x52 : Int32) (H : Heap) (locs : List Loc) (ls : Array Slot), va_P D vwCl (wl cs LC NC ad M51 ++ X) H → va_D A (wl cs LC NC ad M51 ++ X) → va_S A s.heap H locs → lv_has ls 3 [(0, .ref (ad 0)), (1, .int x52)] → gX7_readAll_L2 E2 n53 M51 x52 = res → W p l e R s m args below meth c H locs 0 0 Q (F0 m 2 ls []) := by
    intro n53
    induction n53 with
    | zero =>
      intro M51 x52 H locs ls hP hD hS hl hg
      rw [gX7_readAll_L2] at hg
      exact absurd hg.symm hne
    | succ n53 ih =>
      intro M51 x52 H locs ls hP hD hS hl hg
      rw [gX7_readAll_L2] at hg
      refine lv_iload_n hx hb dX7_readAll_2 rfl (lv_at hl 1 rfl) ?_
      refine lv_bipush (v := 16) hx hb dX7_readAll_3 (by decide) ?_
      refine lv_icmp_ge (tgt := 26) hx hb dX7_readAll_5 (by decide) (fun c54 => ?_) (fun c54 => ?_)
      · have hg := if_t hg c54
        exact kE2 _ _ _ _ hP hD hS (lv_sub hl [0] rfl) hg
      · have hg := if_f hg c54
        refine lv_aload_n hx hb dX7_readAll_8 rfl (lv_at hl 0 rfl) ?_
        refine m_gr (C := RX7) (T := TX7) (n := 5) (ci := 5) hx hb hts in_RX7 hown hK hP (by decide) rfl rfl 2 (by decide) rfl lk_25 (fun _ h9 => h9) dX7_readAll_9 ?_
        refine lv_iload_n hx hb dX7_readAll_12 rfl (lv_at hl 1 rfl) ?_
        obtain ⟨b55, hg⟩ := ck_e hg hne
        obtain ⟨v56, hv56, hg⟩ := lt_e hg
        have h57 := ix_lt b55 hv56
        refine m_lq (k := 13) hx hb hK hP (by decide) rfl b55 dX7_readAll_13 ?_
        rw [← hv56]
        refine m_gr (C := RX5) (T := TX5) (n := 5) (ci := 3) hx hb hts in_RX5 hown hK hP (kC_v0 h57) (LC_VAR v56) rfl 3 (by decide) rfl lk_148 (fun _ h9 => h9) dX7_readAll_14 ?_
        obtain ⟨M59, q58, hg⟩ := bd_e hg hne
        refine w_callv (va_runV (As := []) (rest := []) CX (ctX1_begin l D sw cs ad X H.size M51 v56 h57 q58) (cwV 0 hts (gwV m2_14 m2_15 m2_16 m1_5 m2_17) rfl rfl rfl (by decide +kernel) ⟨Nat.le_trans (Nat.le_of_ble_eq_true rfl) hR.1, Nat.le_trans (Nat.le_of_ble_eq_true rfl) hR.2⟩) (wPreV hSW hS hA hK hP hD (kC_v (j := 3) h57 (by decide)) (LC_RDG v56) rfl _) rfl rfl hl.1 rfl (lv_room (Nat.le_of_ble_eq_true rfl)) dX7_readAll_17 ⟨Nat.zero_le _, Nat.zero_le _⟩) hD hS hA (fun H locs hP hD hS => ?_)
        obtain ⟨x60, hx60, hg⟩ := lt_e hg
        refine lv_iinc (v := x60) (lv' := [(1, .int x60), (0, .ref (ad 0))]) hx hb dX7_readAll_20 hl (k := 1) rfl (hx60.symm) (by decide) rfl (fun ls hl => ?_)
        refine lv_goto (tgt := 2) hx hb dX7_readAll_23 (by decide) ?_
        exact ih _ _ _ _ _ hP hD hS (lv_sub hl [1, 0] rfl) hg
  exact kL2_61 FU _ _ _ _ _ hP hD hS (lv_sub hl [1, 0] rfl) hg
theorem ctX7_readAll (l : Launch) (D : va_G) (sw : Sw) (cs : Cs) (ad : Nat → Nat) (X : va_W) (sz : Nat) (M : Mm) {M1 : Mm} (hq : gX7_readAll M = some M1) : Met l yX7_readAll wsX7_readAll ({ frames := 6, cells := 0, slots := 0, locals := 133 }) (va_Pc [.ref (ad 0)] (wPre D sw cs LC NC ad M X sz)) (wQv D cs LC NC ad M1 X sz) 0 0 (wA NC ad X sz) :=
  met_w rfl rfl (Nat.le_of_ble_eq_true rfl) (fun p e s m args below meth c ls CX hr hlk hK hSW hP hD hS hA hl => bX7_readAll M hq (by simp) CX ⟨Nat.le_refl _, Nat.le_refl _⟩ hK hSW hP hD hS hA hl (fun pc ls H locs M9 hv dg hP hD hS => W.vret CX.1 CX.2.1 hr (fun t ht hW => ⟨⟨(), rfl, trivial, wpost hP ht (Option.some.inj hv)⟩, hS.F ht⟩) hS.2.2 dg))

abbrev wsX7_runAll : List Cond := Cond.code yX7_runAll cX7_runAll 2 none :: WG
def gX7_runAll_L2 : Nat → Mm → Int32 → Option Mm
  | 0, _, _ => none
  | n3 + 1, M1, x2 => if (16 : Int32) ≤ x2 then (some M1) else if (x2 < 0 ∨ 16 ≤ (x2).toNatClampNeg) then none else lt ((x2).toNatClampNeg) fun v6 => if (M1 (vb v6 + 3) 4) = (-1 : Int32) then (if (x2 < 0 ∨ 16 ≤ (x2).toNatClampNeg) then none else lt ((x2).toNatClampNeg) fun v11 => if (x2 < 0 ∨ 16 ≤ (x2).toNatClampNeg) then none else lt ((x2).toNatClampNeg) fun v14 => if (x2 < 0 ∨ 16 ≤ (x2).toNatClampNeg) then none else lt ((x2).toNatClampNeg) fun v17 => bd (gX3_execute M1 v11 (vb v14 + 1) 80 (M1 (vb v17) 2)) fun M20 => lt (x2 + (1 : Int32)) fun x21 => gX7_runAll_L2 n3 M20 x21) else lt (x2 + (1 : Int32)) fun x9 => gX7_runAll_L2 n3 M1 x9
def gX7_runAll (M : Mm) : Option Mm := gX7_runAll_L2 FU M (0 : Int32)
set_option maxHeartbeats 4000000 in
set_option maxRecDepth 100000 in
theorem bX7_runAll {p : Program} {l : Launch} {e : Env} {R : Room} {s : State} {m : MethodId} {args : Array Value} {below : List Frame} {meth : Method} {c : Code} {H : Heap} {locs : List Loc} {Q : State → Prop} {D : va_G} {sw : Sw} {cs : Cs} {ad : Nat → Nat} {X : va_W} {A : Nat → Prop} (M : Mm) {res : Option Mm} (hg : gX7_runAll M = res) (hne : res ≠ none) (CX : CallFix p m c cX7_runAll 2 s args wsX7_runAll RX7) (hR : 404 ≤ R.frames ∧ 9688 ≤ R.locals) (hK : va_K D vwCl (tysC cs) s) (hSW : SW sw A s s.heap) (hP : va_P D vwCl (wl cs LC NC ad M ++ X) H) (hD : va_D A (wl cs LC NC ad M ++ X)) (hS : va_S A s.heap H locs) (hA : ∀ q, s.heap.size ≤ q → A q) {ls : Array Slot} (hl : lv_has ls 2 [(0, .ref (ad 0))]) (hret : ∀ (pc : Nat) (ls : Array Slot) (H : Heap) (locs : List Loc) (M9 : Mm), some M9 = res → decode cX7_runAll pc = .ok (.return_, 1) → va_P D vwCl (wl cs LC NC ad M9 ++ X) H → va_D A (wl cs LC NC ad M9 ++ X) → va_S A s.heap H locs → W p l e R s m args below meth c H locs 0 0 Q (F0 m pc ls [])) : W p l e R s m args below meth c H locs 0 0 Q (F0 m 0 ls []) := by
  obtain ⟨hx, hb, hml, hown, hts⟩ := id CX
  have hw : ∀ w ∈ WG, w.before args s = true := fun w h => hts w (List.mem_cons_of_mem _ h)
  have lk_25 := hw _ m1_163
  have lk_148 := hw _ m1_147
  have lk_152 := hw _ m1_100
  have lk_169 := hw _ m1_149
  have lk_257 := hw _ m1_141
  have lk_132 := hw _ m1_145
  unfold gX7_runAll at hg
  refine lv_iconst (v := 0) hx hb dX7_runAll_0 (by decide) ?_
  refine lv_istore_n (lv' := [(1, .int (0 : Int32)), (0, .ref (ad 0))]) hx hb dX7_runAll_1 rfl hl (by decide) rfl (fun ls hl => ?_)
  have kL2_22 : ∀ (n3 : Nat) (M1 : Mm) (x2 : Int32) (H : Heap) (locs : List Loc) (ls : Array Slot), va_P D vwCl (wl cs LC NC ad M1 ++ X) H → va_D A (wl cs LC NC ad M1 ++ X) → va_S A s.heap H locs → lv_has ls 2 [(0, .ref (ad 0)), (1, .int x2)] → gX7_runAll_L2 n3 M1 x2 = res → W p l e R s m args below meth c H locs 0 0 Q (F0 m 2 ls []) := by
    intro n3
    induction n3 with
    | zero =>
      intro M1 x2 H locs ls hP hD hS hl hg
      rw [gX7_runAll_L2] at hg
      exact absurd hg.symm hne
    | succ n3 ih =>
      intro M1 x2 H locs ls hP hD hS hl hg
      rw [gX7_runAll_L2] at hg
      refine lv_iload_n hx hb dX7_runAll_2 rfl (lv_at hl 1 rfl) ?_
      refine lv_bipush (v := 16) hx hb dX7_runAll_3 (by decide) ?_
      refine lv_icmp_ge (tgt := 60) hx hb dX7_runAll_5 (by decide) (fun c4 => ?_) (fun c4 => ?_)
      · have hg := if_t hg c4
        exact hret _ _ _ _ _ hg dX7_runAll_60 hP hD hS
      · have hg := if_f hg c4
        refine lv_aload_n hx hb dX7_runAll_8 rfl (lv_at hl 0 rfl) ?_
        refine m_gr (C := RX7) (T := TX7) (n := 5) (ci := 5) hx hb hts in_RX7 hown hK hP (by decide) rfl rfl 2 (by decide) rfl lk_25 (fun _ h9 => h9) dX7_runAll_9 ?_
        refine lv_iload_n hx hb dX7_runAll_12 rfl (lv_at hl 1 rfl) ?_
        obtain ⟨b5, hg⟩ := ck_e hg hne
        obtain ⟨v6, hv6, hg⟩ := lt_e hg
        have h7 := ix_lt b5 hv6
        refine m_lq (k := 13) hx hb hK hP (by decide) rfl b5 dX7_runAll_13 ?_
        rw [← hv6]
        refine m_gr (C := RX5) (T := TX5) (n := 5) (ci := 3) hx hb hts in_RX5 hown hK hP (kC_v0 h7) (LC_VAR v6) rfl 3 (by decide) rfl lk_148 (fun _ h9 => h9) dX7_runAll_14 ?_
        refine m_gi (C := RX1) (T := TX1) (n := 5) (ci := 0) hx hb hts in_RX1 hown hK hP (kC_v (j := 3) h7 (by decide)) (LC_RDG v6) rfl 4 (by decide) rfl lk_152 (fun _ h9 => h9) dX7_runAll_17 ?_
        refine lv_iconst (v := -1) hx hb dX7_runAll_20 (by decide) ?_
        refine lv_icmp_ne (tgt := 54) hx hb dX7_runAll_21 (by decide) (fun c8 => ?_) (fun c8 => ?_)
        · have hg := if_f hg c8
          obtain ⟨x9, hx9, hg⟩ := lt_e hg
          refine lv_iinc (v := x9) (lv' := [(1, .int x9), (0, .ref (ad 0))]) hx hb dX7_runAll_54 hl (k := 1) rfl (hx9.symm) (by decide) rfl (fun ls hl => ?_)
          refine lv_goto (tgt := 2) hx hb dX7_runAll_57 (by decide) ?_
          exact ih _ _ _ _ _ hP hD hS (lv_sub hl [1, 0] rfl) hg
        · have hg := if_t hg c8
          refine lv_aload_n hx hb dX7_runAll_24 rfl (lv_at hl 0 rfl) ?_
          refine m_gr (C := RX7) (T := TX7) (n := 5) (ci := 5) hx hb hts in_RX7 hown hK hP (by decide) rfl rfl 2 (by decide) rfl lk_25 (fun _ h9 => h9) dX7_runAll_25 ?_
          refine lv_iload_n hx hb dX7_runAll_28 rfl (lv_at hl 1 rfl) ?_
          obtain ⟨b10, hg⟩ := ck_e hg hne
          obtain ⟨v11, hv11, hg⟩ := lt_e hg
          have h12 := ix_lt b10 hv11
          refine m_lq (k := 13) hx hb hK hP (by decide) rfl b10 dX7_runAll_29 ?_
          rw [← hv11]
          refine m_gr (C := RX5) (T := TX5) (n := 5) (ci := 3) hx hb hts in_RX5 hown hK hP (kC_v0 h12) (LC_VAR v11) rfl 4 (by decide) rfl lk_169 (fun _ h9 => h9) dX7_runAll_30 ?_
          refine lv_aload_n hx hb dX7_runAll_33 rfl (lv_at hl 0 rfl) ?_
          refine m_gr (C := RX7) (T := TX7) (n := 5) (ci := 5) hx hb hts in_RX7 hown hK hP (by decide) rfl rfl 2 (by decide) rfl lk_25 (fun _ h9 => h9) dX7_runAll_34 ?_
          refine lv_iload_n hx hb dX7_runAll_37 rfl (lv_at hl 1 rfl) ?_
          obtain ⟨b13, hg⟩ := ck_e hg hne
          obtain ⟨v14, hv14, hg⟩ := lt_e hg
          have h15 := ix_lt b13 hv14
          refine m_lq (k := 13) hx hb hK hP (by decide) rfl b13 dX7_runAll_38 ?_
          rw [← hv14]
          refine m_gr (C := RX5) (T := TX5) (n := 5) (ci := 3) hx hb hts in_RX5 hown hK hP (kC_v0 h15) (LC_VAR v14) rfl 0 (by decide) rfl lk_257 (fun _ h9 => h9) dX7_runAll_39 ?_
          refine lv_aload_n hx hb dX7_runAll_42 rfl (lv_at hl 0 rfl) ?_
          refine m_gr (C := RX7) (T := TX7) (n := 5) (ci := 5) hx hb hts in_RX7 hown hK hP (by decide) rfl rfl 2 (by decide) rfl lk_25 (fun _ h9 => h9) dX7_runAll_43 ?_
          refine lv_iload_n hx hb dX7_runAll_46 rfl (lv_at hl 1 rfl) ?_
          obtain ⟨b16, hg⟩ := ck_e hg hne
          obtain ⟨v17, hv17, hg⟩ := lt_e hg
          have h18 := ix_lt b16 hv17
          refine m_lq (k := 13) hx hb hK hP (by decide) rfl b16 dX7_runAll_47 ?_
          rw [← hv17]
          refine m_gi (C := RX5) (T := TX5) (n := 5) (ci := 3) hx hb hts in_RX5 hown hK hP (kC_v0 h18) (LC_VAR v17) rfl 2 (by decide) rfl lk_132 (fun _ h9 => h9) dX7_runAll_48 ?_
          obtain ⟨M20, q19, hg⟩ := bd_e hg hne
          refine w_callv (va_runV (As := [.ref (ad (vb v14 + 1)), .int (M1 (vb v17) 2)]) (rest := []) CX (ctX3_execute l D sw cs ad X H.size M1 v11 h12 (vb v14 + 1) 80 (kC_v (j := 1) h15 (by decide)) (LC_VTOK v14) (M1 (vb v17) 2) q19) (cwV 2 hts (gwV m2_132 m2_133 m2_134 m1_6 m2_135) rfl rfl rfl (by decide +kernel) ⟨Nat.le_trans (Nat.le_of_ble_eq_true rfl) hR.1, Nat.le_trans (Nat.le_of_ble_eq_true rfl) hR.2⟩) (wPreV hSW hS hA hK hP hD (kC_v (j := 6) h12 (by decide)) (LC_RUN v11) rfl _) rfl rfl hl.1 rfl (lv_room (Nat.le_of_ble_eq_true rfl)) dX7_runAll_51 ⟨Nat.zero_le _, Nat.zero_le _⟩) hD hS hA (fun H locs hP hD hS => ?_)
          obtain ⟨x21, hx21, hg⟩ := lt_e hg
          refine lv_iinc (v := x21) (lv' := [(1, .int x21), (0, .ref (ad 0))]) hx hb dX7_runAll_54 hl (k := 1) rfl (hx21.symm) (by decide) rfl (fun ls hl => ?_)
          refine lv_goto (tgt := 2) hx hb dX7_runAll_57 (by decide) ?_
          exact ih _ _ _ _ _ hP hD hS (lv_sub hl [1, 0] rfl) hg
  exact kL2_22 FU _ _ _ _ _ hP hD hS (lv_sub hl [1, 0] rfl) hg
theorem ctX7_runAll (l : Launch) (D : va_G) (sw : Sw) (cs : Cs) (ad : Nat → Nat) (X : va_W) (sz : Nat) (M : Mm) {M1 : Mm} (hq : gX7_runAll M = some M1) : Met l yX7_runAll wsX7_runAll ({ frames := 404, cells := 0, slots := 0, locals := 9688 }) (va_Pc [.ref (ad 0)] (wPre D sw cs LC NC ad M X sz)) (wQv D cs LC NC ad M1 X sz) 0 0 (wA NC ad X sz) :=
  met_w rfl rfl (Nat.le_of_ble_eq_true rfl) (fun p e s m args below meth c ls CX hr hlk hK hSW hP hD hS hA hl => bX7_runAll M hq (by simp) CX ⟨Nat.le_refl _, Nat.le_refl _⟩ hK hSW hP hD hS hA hl (fun pc ls H locs M9 hv dg hP hD hS => W.vret CX.1 CX.2.1 hr (fun t ht hW => ⟨⟨(), rfl, trivial, wpost hP ht (Option.some.inj hv)⟩, hS.F ht⟩) hS.2.2 dg))

abbrev wsX7_refresh : List Cond := Cond.code yX7_refresh cX7_refresh 1 none :: WG
def gX7_refresh (M : Mm) : Option Mm := if (M 0 4) = 0 then (bd (gX6_goThrough M ) fun M3 => bd (gX7_collectVariants M3 ) fun M5 => bd (gX4_countUnfinished M5 ) fun r6 => if r6 = 0 then (bd (gX7_readAll M5 ) fun M11 => bd (gX7_runAll M11 ) fun M13 => lt (um M13 0 4 (1 : Int32)) fun M14 => some M14) else lt (um M5 0 4 (1 : Int32)) fun M9 => some M9) else some M
set_option maxHeartbeats 4000000 in
set_option maxRecDepth 100000 in
theorem bX7_refresh {p : Program} {l : Launch} {e : Env} {R : Room} {s : State} {m : MethodId} {args : Array Value} {below : List Frame} {meth : Method} {c : Code} {H : Heap} {locs : List Loc} {Q : State → Prop} {D : va_G} {sw : Sw} {cs : Cs} {ad : Nat → Nat} {X : va_W} {A : Nat → Prop} (M : Mm) {res : Option Mm} (hg : gX7_refresh M = res) (hne : res ≠ none) (CX : CallFix p m c cX7_refresh 1 s args wsX7_refresh RX7) (hR : 405 ≤ R.frames ∧ 9709 ≤ R.locals) (hK : va_K D vwCl (tysC cs) s) (hSW : SW sw A s s.heap) (hP : va_P D vwCl (wl cs LC NC ad M ++ X) H) (hD : va_D A (wl cs LC NC ad M ++ X)) (hS : va_S A s.heap H locs) (hA : ∀ q, s.heap.size ≤ q → A q) {ls : Array Slot} (hl : lv_has ls 1 [(0, .ref (ad 0))]) (hret : ∀ (pc : Nat) (ls : Array Slot) (H : Heap) (locs : List Loc) (M9 : Mm), some M9 = res → decode cX7_refresh pc = .ok (.return_, 1) → va_P D vwCl (wl cs LC NC ad M9 ++ X) H → va_D A (wl cs LC NC ad M9 ++ X) → va_S A s.heap H locs → W p l e R s m args below meth c H locs 0 0 Q (F0 m pc ls [])) : W p l e R s m args below meth c H locs 0 0 Q (F0 m 0 ls []) := by
  obtain ⟨hx, hb, hml, hown, hts⟩ := id CX
  have hw : ∀ w ∈ WG, w.before args s = true := fun w h => hts w (List.mem_cons_of_mem _ h)
  have lk_34 := hw _ m1_165
  have lk_19 := hw _ m1_162
  have lk_10 := hw _ m1_161
  unfold gX7_refresh at hg
  refine lv_aload_n hx hb dX7_refresh_0 rfl (lv_at hl 0 rfl) ?_
  refine m_gi (C := RX7) (T := TX7) (n := 5) (ci := 5) hx hb hts in_RX7 hown hK hP (by decide) rfl rfl 4 (by decide) rfl lk_34 (fun _ h9 => h9) dX7_refresh_1 ?_
  refine lv_if_eq (tgt := 8) hx hb dX7_refresh_4 (by decide) (fun c1 => ?_) (fun c1 => ?_)
  · have hg := if_t hg c1
    refine lv_aload_n hx hb dX7_refresh_8 rfl (lv_at hl 0 rfl) ?_
    refine m_gr (C := RX7) (T := TX7) (n := 5) (ci := 5) hx hb hts in_RX7 hown hK hP (by decide) rfl rfl 1 (by decide) rfl lk_19 (fun _ h9 => h9) dX7_refresh_9 ?_
    refine lv_aload_n hx hb dX7_refresh_12 rfl (lv_at hl 0 rfl) ?_
    refine m_gr (C := RX7) (T := TX7) (n := 5) (ci := 5) hx hb hts in_RX7 hown hK hP (by decide) rfl rfl 0 (by decide) rfl lk_10 (fun _ h9 => h9) dX7_refresh_13 ?_
    obtain ⟨M3, q2, hg⟩ := bd_e hg hne
    refine w_callv (va_runV (As := [.ref (ad 1)]) (rest := []) CX (ctX6_goThrough l D sw cs ad X H.size M  q2) (cwV 1 hts (gwV m1_200 m1_201 m1_202 m1_3 m1_203) rfl rfl rfl (by decide +kernel) ⟨Nat.le_trans (Nat.le_of_ble_eq_true rfl) hR.1, Nat.le_trans (Nat.le_of_ble_eq_true rfl) hR.2⟩) (wPreV hSW hS hA hK hP hD (by decide) rfl rfl _) rfl rfl hl.1 rfl (lv_room (Nat.le_of_ble_eq_true rfl)) dX7_refresh_16 ⟨Nat.zero_le _, Nat.zero_le _⟩) hD hS hA (fun H locs hP hD hS => ?_)
    refine lv_aload_n hx hb dX7_refresh_19 rfl (lv_at hl 0 rfl) ?_
    obtain ⟨M5, q4, hg⟩ := bd_e hg hne
    refine w_callv (va_runV (As := []) (rest := []) CX (ctX7_collectVariants l D sw cs ad X H.size M3  q4) (cwV 0 hts (gwV m1_229 m1_231 mp1_4 m1_1 m1_232) rfl rfl rfl (by decide +kernel) ⟨Nat.le_trans (Nat.le_of_ble_eq_true rfl) hR.1, Nat.le_trans (Nat.le_of_ble_eq_true rfl) hR.2⟩) (wPreV hSW hS hA hK hP hD (by decide) rfl rfl _) rfl rfl hl.1 rfl (lv_room (Nat.le_of_ble_eq_true rfl)) dX7_refresh_20 ⟨Nat.zero_le _, Nat.zero_le _⟩) hD hS hA (fun H locs hP hD hS => ?_)
    refine lv_aload_n hx hb dX7_refresh_23 rfl (lv_at hl 0 rfl) ?_
    refine m_gr (C := RX7) (T := TX7) (n := 5) (ci := 5) hx hb hts in_RX7 hown hK hP (by decide) rfl rfl 0 (by decide) rfl lk_10 (fun _ h9 => h9) dX7_refresh_24 ?_
    obtain ⟨r6, q7, hg⟩ := bd_e hg hne
    refine r_calli (W.runV (As := []) (rest := []) CX (ctX4_countUnfinished l D sw cs ad X M5  q7) (cwV 0 hts (gwV m1_185 m1_186 m1_187 m1_2 m1_188) rfl rfl rfl (by decide +kernel) ⟨Nat.le_trans (Nat.le_of_ble_eq_true rfl) hR.1, Nat.le_trans (Nat.le_of_ble_eq_true rfl) hR.2⟩) (rPreV (hSW.wr hS) hK hP (by decide) rfl rfl _) rfl rfl hl.1 rfl (lv_room (Nat.le_of_ble_eq_true rfl)) dX7_refresh_27 ⟨Nat.zero_le _, Nat.zero_le _⟩) ?_
    refine lv_if_ne (tgt := 41) hx hb dX7_refresh_30 (by decide) (fun c8 => ?_) (fun c8 => ?_)
    · have hg := if_f hg c8
      refine lv_aload_n hx hb dX7_refresh_41 rfl (lv_at hl 0 rfl) ?_
      refine lv_iconst (v := 1) hx hb dX7_refresh_42 (by decide) ?_
      obtain ⟨M9, hM9, hg⟩ := lt_e hg
      refine m_pi (C := RX7) (T := TX7) (n := 5) (ci := 5) hx hb hts in_RX7 tyX7 tyX7_ok nmX7 hown hK hP hD hS (by decide) rfl rfl 4 (by decide) rfl lk_34 (fun _ h9 => h9) rfl rfl rfl dX7_refresh_43 hM9 (fun H locs hP hD hS => ?_)
      exact hret _ _ _ _ _ hg dX7_refresh_46 hP hD hS
    · have hg := if_t hg c8
      refine lv_aload_n hx hb dX7_refresh_33 rfl (lv_at hl 0 rfl) ?_
      obtain ⟨M11, q10, hg⟩ := bd_e hg hne
      refine w_callv (va_runV (As := []) (rest := []) CX (ctX7_readAll l D sw cs ad X H.size M5  q10) (cwV 0 hts (gwV m2_10 m2_12 mp1_5 m1_1 m2_13) rfl rfl rfl (by decide +kernel) ⟨Nat.le_trans (Nat.le_of_ble_eq_true rfl) hR.1, Nat.le_trans (Nat.le_of_ble_eq_true rfl) hR.2⟩) (wPreV hSW hS hA hK hP hD (by decide) rfl rfl _) rfl rfl hl.1 rfl (lv_room (Nat.le_of_ble_eq_true rfl)) dX7_refresh_34 ⟨Nat.zero_le _, Nat.zero_le _⟩) hD hS hA (fun H locs hP hD hS => ?_)
      refine lv_aload_n hx hb dX7_refresh_37 rfl (lv_at hl 0 rfl) ?_
      obtain ⟨M13, q12, hg⟩ := bd_e hg hne
      refine w_callv (va_runV (As := []) (rest := []) CX (ctX7_runAll l D sw cs ad X H.size M11  q12) (cwV 0 hts (gwV m2_128 m2_130 mp1_11 m1_1 m2_131) rfl rfl rfl (by decide +kernel) ⟨Nat.le_trans (Nat.le_of_ble_eq_true rfl) hR.1, Nat.le_trans (Nat.le_of_ble_eq_true rfl) hR.2⟩) (wPreV hSW hS hA hK hP hD (by decide) rfl rfl _) rfl rfl hl.1 rfl (lv_room (Nat.le_of_ble_eq_true rfl)) dX7_refresh_38 ⟨Nat.zero_le _, Nat.zero_le _⟩) hD hS hA (fun H locs hP hD hS => ?_)
      refine lv_aload_n hx hb dX7_refresh_41 rfl (lv_at hl 0 rfl) ?_
      refine lv_iconst (v := 1) hx hb dX7_refresh_42 (by decide) ?_
      obtain ⟨M14, hM14, hg⟩ := lt_e hg
      refine m_pi (C := RX7) (T := TX7) (n := 5) (ci := 5) hx hb hts in_RX7 tyX7 tyX7_ok nmX7 hown hK hP hD hS (by decide) rfl rfl 4 (by decide) rfl lk_34 (fun _ h9 => h9) rfl rfl rfl dX7_refresh_43 hM14 (fun H locs hP hD hS => ?_)
      exact hret _ _ _ _ _ hg dX7_refresh_46 hP hD hS
  · have hg := if_f hg c1
    exact hret _ _ _ _ _ hg dX7_refresh_7 hP hD hS
theorem ctX7_refresh (l : Launch) (D : va_G) (sw : Sw) (cs : Cs) (ad : Nat → Nat) (X : va_W) (sz : Nat) (M : Mm) {M1 : Mm} (hq : gX7_refresh M = some M1) : Met l yX7_refresh wsX7_refresh ({ frames := 405, cells := 0, slots := 0, locals := 9709 }) (va_Pc [.ref (ad 0)] (wPre D sw cs LC NC ad M X sz)) (wQv D cs LC NC ad M1 X sz) 0 0 (wA NC ad X sz) :=
  met_w rfl rfl (Nat.le_of_ble_eq_true rfl) (fun p e s m args below meth c ls CX hr hlk hK hSW hP hD hS hA hl => bX7_refresh M hq (by simp) CX ⟨Nat.le_refl _, Nat.le_refl _⟩ hK hSW hP hD hS hA hl (fun pc ls H locs M9 hv dg hP hD hS => W.vret CX.1 CX.2.1 hr (fun t ht hW => ⟨⟨(), rfl, trivial, wpost hP ht (Option.some.inj hv)⟩, hS.F ht⟩) hS.2.2 dg))

abbrev wsX7_size : List Cond := Cond.code yX7_size cX7_size 1 (some .int) :: WG
def gX7_size (M : Mm) : Option Int32 := some (M 1 1)
set_option maxHeartbeats 4000000 in
set_option maxRecDepth 100000 in
theorem bX7_size {p : Program} {l : Launch} {e : Env} {R : Room} {s : State} {m : MethodId} {args : Array Value} {below : List Frame} {meth : Method} {c : Code} {H : Heap} {locs : List Loc} {Q : State → Prop} {D : va_G} {sw : Sw} {cs : Cs} {ad : Nat → Nat} {X : va_W} (M : Mm) {res : Option Int32} (hg : gX7_size M = res) (hne : res ≠ none) (CX : CallFix p m c cX7_size 1 s args wsX7_size RX7) (hR : 0 ≤ R.frames ∧ 0 ≤ R.locals) (hK : va_K D vwCl (tysC cs) s) (hSW : SW sw (fun _ => False) s H) (hP : va_P D vwCl (wl cs LC NC ad M ++ X) H) {ls : Array Slot} (hl : lv_has ls 1 [(0, .ref (ad 0))]) (hret : ∀ (pc : Nat) (ls : Array Slot) (v : Int32), some v = res → decode cX7_size pc = .ok (.ireturn, 1) → W p l e R s m args below meth c H locs 0 0 Q (F0 m pc ls [.int v])) : W p l e R s m args below meth c H locs 0 0 Q (F0 m 0 ls []) := by
  obtain ⟨hx, hb, hml, hown, hts⟩ := id CX
  have hw : ∀ w ∈ WG, w.before args s = true := fun w h => hts w (List.mem_cons_of_mem _ h)
  have lk_10 := hw _ m1_161
  have lk_55 := hw _ m1_40
  unfold gX7_size at hg
  refine lv_aload_n hx hb dX7_size_0 rfl (lv_at hl 0 rfl) ?_
  refine m_gr (C := RX7) (T := TX7) (n := 5) (ci := 5) hx hb hts in_RX7 hown hK hP (by decide) rfl rfl 0 (by decide) rfl lk_10 (fun _ h9 => h9) dX7_size_1 ?_
  refine m_gi (C := RX4) (T := TX4) (n := 2) (ci := 2) hx hb hts in_RX4 hown hK hP (by decide) rfl rfl 1 (by decide) rfl lk_55 (fun _ h9 => h9) dX7_size_4 ?_
  exact hret _ _ _ hg dX7_size_7
theorem ctX7_size (l : Launch) (D : va_G) (sw : Sw) (cs : Cs) (ad : Nat → Nat) (X : va_W) (M : Mm) {r : Int32} (hq : gX7_size M = some r) : Met l yX7_size wsX7_size ({ frames := 0, cells := 0, slots := 0, locals := 0 }) (va_Pc [.ref (ad 0)] (rPre D sw cs LC NC ad M X)) (vp_Si (fun r' => r' = r)) 0 0 (fun _ => False) :=
  met_r rfl rfl (Nat.le_of_ble_eq_true rfl) (fun p e s m args below meth c ls CX hr hlk hK hSW hP hl => bX7_size M hq (by simp) CX ⟨Nat.le_refl _, Nat.le_refl _⟩ hK hSW hP hl (fun pc ls v hv dg => W.iret CX.1 CX.2.1 hr (fun t ht hW => ⟨_, rfl, Option.some.inj hv, ht⟩) (fun _ h => by cases h) dg))

abbrev wsX7_unfinished : List Cond := Cond.code yX7_unfinished cX7_unfinished 1 (some .int) :: WG
def gX7_unfinished (M : Mm) : Option Int32 := bd (gX4_countUnfinished M ) fun r1 => some r1
set_option maxHeartbeats 4000000 in
set_option maxRecDepth 100000 in
theorem bX7_unfinished {p : Program} {l : Launch} {e : Env} {R : Room} {s : State} {m : MethodId} {args : Array Value} {below : List Frame} {meth : Method} {c : Code} {H : Heap} {locs : List Loc} {Q : State → Prop} {D : va_G} {sw : Sw} {cs : Cs} {ad : Nat → Nat} {X : va_W} (M : Mm) {res : Option Int32} (hg : gX7_unfinished M = res) (hne : res ≠ none) (CX : CallFix p m c cX7_unfinished 1 s args wsX7_unfinished RX7) (hR : 2 ≤ R.frames ∧ 42 ≤ R.locals) (hK : va_K D vwCl (tysC cs) s) (hSW : SW sw (fun _ => False) s H) (hP : va_P D vwCl (wl cs LC NC ad M ++ X) H) {ls : Array Slot} (hl : lv_has ls 1 [(0, .ref (ad 0))]) (hret : ∀ (pc : Nat) (ls : Array Slot) (v : Int32), some v = res → decode cX7_unfinished pc = .ok (.ireturn, 1) → W p l e R s m args below meth c H locs 0 0 Q (F0 m pc ls [.int v])) : W p l e R s m args below meth c H locs 0 0 Q (F0 m 0 ls []) := by
  obtain ⟨hx, hb, hml, hown, hts⟩ := id CX
  have hw : ∀ w ∈ WG, w.before args s = true := fun w h => hts w (List.mem_cons_of_mem _ h)
  have lk_10 := hw _ m1_161
  unfold gX7_unfinished at hg
  refine lv_aload_n hx hb dX7_unfinished_0 rfl (lv_at hl 0 rfl) ?_
  refine m_gr (C := RX7) (T := TX7) (n := 5) (ci := 5) hx hb hts in_RX7 hown hK hP (by decide) rfl rfl 0 (by decide) rfl lk_10 (fun _ h9 => h9) dX7_unfinished_1 ?_
  obtain ⟨r1, q2, hg⟩ := bd_e hg hne
  refine r_calli (W.runV (As := []) (rest := []) CX (ctX4_countUnfinished l D sw cs ad X M  q2) (cwV 0 hts (gwV m1_185 m1_186 m1_187 m1_2 m1_188) rfl rfl rfl (by decide +kernel) ⟨Nat.le_trans (Nat.le_of_ble_eq_true rfl) hR.1, Nat.le_trans (Nat.le_of_ble_eq_true rfl) hR.2⟩) (rPreV hSW hK hP (by decide) rfl rfl _) rfl rfl hl.1 rfl (lv_room (Nat.le_of_ble_eq_true rfl)) dX7_unfinished_4 ⟨Nat.zero_le _, Nat.zero_le _⟩) ?_
  exact hret _ _ _ hg dX7_unfinished_7
theorem ctX7_unfinished (l : Launch) (D : va_G) (sw : Sw) (cs : Cs) (ad : Nat → Nat) (X : va_W) (M : Mm) {r : Int32} (hq : gX7_unfinished M = some r) : Met l yX7_unfinished wsX7_unfinished ({ frames := 2, cells := 0, slots := 0, locals := 42 }) (va_Pc [.ref (ad 0)] (rPre D sw cs LC NC ad M X)) (vp_Si (fun r' => r' = r)) 0 0 (fun _ => False) :=
  met_r rfl rfl (Nat.le_of_ble_eq_true rfl) (fun p e s m args below meth c ls CX hr hlk hK hSW hP hl => bX7_unfinished M hq (by simp) CX ⟨Nat.le_refl _, Nat.le_refl _⟩ hK hSW hP hl (fun pc ls v hv dg => W.iret CX.1 CX.2.1 hr (fun t ht hW => ⟨_, rfl, Option.some.inj hv, ht⟩) (fun _ h => by cases h) dg))

abbrev wsX7_dead : List Cond := Cond.code yX7_dead cX7_dead 3 (some .int) :: WG
def gX7_dead_L8 : Nat → Mm → Int32 → Int32 → Option (Int32 × Mm)
  | 0, _, _, _ => none
  | n6 + 1, M3, x4, x5 => if (M3 1 1) ≤ x5 then (some (x4, M3)) else if (x5 < 0 ∨ 80 ≤ (x5).toNatClampNeg) then none else if (gX0_isToken (M3 2 (x5).toNatClampNeg)) = 0 then (lt (x5 + (1 : Int32)) fun x10 => gX7_dead_L8 n6 M3 x4 x10) else if (x5 < 0 ∨ 80 ≤ (x5).toNatClampNeg) then none else if (M3 4 (x5).toNatClampNeg) = 0 then (lt (x4 + (1 : Int32)) fun x14 => lt (x5 + (1 : Int32)) fun x15 => gX7_dead_L8 n6 M3 x14 x15) else lt (x5 + (1 : Int32)) fun x13 => gX7_dead_L8 n6 M3 x4 x13
def gX7_dead (M : Mm) : Option (Int32 × Mm) := bd (gX7_refresh M ) fun M2 => gX7_dead_L8 FU M2 (0 : Int32) (0 : Int32)
set_option maxHeartbeats 4000000 in
set_option maxRecDepth 100000 in
theorem bX7_dead {p : Program} {l : Launch} {e : Env} {R : Room} {s : State} {m : MethodId} {args : Array Value} {below : List Frame} {meth : Method} {c : Code} {H : Heap} {locs : List Loc} {Q : State → Prop} {D : va_G} {sw : Sw} {cs : Cs} {ad : Nat → Nat} {X : va_W} {A : Nat → Prop} (M : Mm) {res : Option (Int32 × Mm)} (hg : gX7_dead M = res) (hne : res ≠ none) (CX : CallFix p m c cX7_dead 3 s args wsX7_dead RX7) (hR : 406 ≤ R.frames ∧ 9729 ≤ R.locals) (hK : va_K D vwCl (tysC cs) s) (hSW : SW sw A s s.heap) (hP : va_P D vwCl (wl cs LC NC ad M ++ X) H) (hD : va_D A (wl cs LC NC ad M ++ X)) (hS : va_S A s.heap H locs) (hA : ∀ q, s.heap.size ≤ q → A q) {ls : Array Slot} (hl : lv_has ls 3 [(0, .ref (ad 0))]) (hret : ∀ (pc : Nat) (ls : Array Slot) (H : Heap) (locs : List Loc) (v : Int32) (M9 : Mm), some (v, M9) = res → decode cX7_dead pc = .ok (.ireturn, 1) → va_P D vwCl (wl cs LC NC ad M9 ++ X) H → va_D A (wl cs LC NC ad M9 ++ X) → va_S A s.heap H locs → W p l e R s m args below meth c H locs 0 0 Q (F0 m pc ls [.int v])) : W p l e R s m args below meth c H locs 0 0 Q (F0 m 0 ls []) := by
  obtain ⟨hx, hb, hml, hown, hts⟩ := id CX
  have hw : ∀ w ∈ WG, w.before args s = true := fun w h => hts w (List.mem_cons_of_mem _ h)
  have lk_10 := hw _ m1_161
  have lk_55 := hw _ m1_40
  have lk_105 := hw _ m1_39
  have lk_19 := hw _ m1_162
  have lk_115 := hw _ m1_58
  unfold gX7_dead at hg
  refine lv_aload_n hx hb dX7_dead_0 rfl (lv_at hl 0 rfl) ?_
  obtain ⟨M2, q1, hg⟩ := bd_e hg hne
  refine w_callv (va_runV (As := []) (rest := []) CX (ctX7_refresh l D sw cs ad X H.size M  q1) (cwV 0 hts (gwV m1_196 m1_198 mp1_0 m1_1 m1_199) rfl rfl rfl (by decide +kernel) ⟨Nat.le_trans (Nat.le_of_ble_eq_true rfl) hR.1, Nat.le_trans (Nat.le_of_ble_eq_true rfl) hR.2⟩) (wPreV hSW hS hA hK hP hD (by decide) rfl rfl _) rfl rfl hl.1 rfl (lv_room (Nat.le_of_ble_eq_true rfl)) dX7_dead_1 ⟨Nat.zero_le _, Nat.zero_le _⟩) hD hS hA (fun H locs hP hD hS => ?_)
  refine lv_iconst (v := 0) hx hb dX7_dead_4 (by decide) ?_
  refine lv_istore_n (lv' := [(1, .int (0 : Int32)), (0, .ref (ad 0))]) hx hb dX7_dead_5 rfl hl (by decide) rfl (fun ls hl => ?_)
  refine lv_iconst (v := 0) hx hb dX7_dead_6 (by decide) ?_
  refine lv_istore_n (lv' := [(2, .int (0 : Int32)), (1, .int (0 : Int32)), (0, .ref (ad 0))]) hx hb dX7_dead_7 rfl hl (by decide) rfl (fun ls hl => ?_)
  have kL8_16 : ∀ (n6 : Nat) (M3 : Mm) (x4 : Int32) (x5 : Int32) (H : Heap) (locs : List Loc) (ls : Array Slot), va_P D vwCl (wl cs LC NC ad M3 ++ X) H → va_D A (wl cs LC NC ad M3 ++ X) → va_S A s.heap H locs → lv_has ls 3 [(0, .ref (ad 0)), (1, .int x4), (2, .int x5)] → gX7_dead_L8 n6 M3 x4 x5 = res → W p l e R s m args below meth c H locs 0 0 Q (F0 m 8 ls []) := by
    intro n6
    induction n6 with
    | zero =>
      intro M3 x4 x5 H locs ls hP hD hS hl hg
      rw [gX7_dead_L8] at hg
      exact absurd hg.symm hne
    | succ n6 ih =>
      intro M3 x4 x5 H locs ls hP hD hS hl hg
      rw [gX7_dead_L8] at hg
      refine lv_iload_n hx hb dX7_dead_8 rfl (lv_at hl 2 rfl) ?_
      refine lv_aload_n hx hb dX7_dead_9 rfl (lv_at hl 0 rfl) ?_
      refine m_gr (C := RX7) (T := TX7) (n := 5) (ci := 5) hx hb hts in_RX7 hown hK hP (by decide) rfl rfl 0 (by decide) rfl lk_10 (fun _ h9 => h9) dX7_dead_10 ?_
      refine m_gi (C := RX4) (T := TX4) (n := 2) (ci := 2) hx hb hts in_RX4 hown hK hP (by decide) rfl rfl 1 (by decide) rfl lk_55 (fun _ h9 => h9) dX7_dead_13 ?_
      refine lv_icmp_ge (tgt := 55) hx hb dX7_dead_16 (by decide) (fun c7 => ?_) (fun c7 => ?_)
      · have hg := if_t hg c7
        refine lv_iload_n hx hb dX7_dead_55 rfl (lv_at hl 1 rfl) ?_
        exact hret _ _ _ _ _ _ hg dX7_dead_56 hP hD hS
      · have hg := if_f hg c7
        refine lv_aload_n hx hb dX7_dead_19 rfl (lv_at hl 0 rfl) ?_
        refine m_gr (C := RX7) (T := TX7) (n := 5) (ci := 5) hx hb hts in_RX7 hown hK hP (by decide) rfl rfl 0 (by decide) rfl lk_10 (fun _ h9 => h9) dX7_dead_20 ?_
        refine m_gr (C := RX4) (T := TX4) (n := 2) (ci := 2) hx hb hts in_RX4 hown hK hP (by decide) rfl rfl 0 (by decide) rfl lk_105 (fun _ h9 => h9) dX7_dead_23 ?_
        refine lv_iload_n hx hb dX7_dead_26 rfl (lv_at hl 2 rfl) ?_
        obtain ⟨b8, hg⟩ := ck_e hg hne
        refine m_ld hx hb hK hP (by decide) rfl b8 dX7_dead_27 ?_
        refine r_calli (W.runS (As := [.int (M3 2 (x5).toNatClampNeg)]) (rest := []) CX (ctX0_isToken l (M3 2 (x5).toNatClampNeg)) (va_cwS 1 hts (gwS m1_233 m1_234 m1_8 m1_235) rfl rfl rfl (by decide +kernel) ⟨Nat.le_trans (Nat.le_of_ble_eq_true rfl) hR.1, Nat.le_trans (Nat.le_of_ble_eq_true rfl) hR.2⟩) (pPreS _) rfl rfl hl.1 rfl (lv_room (Nat.le_of_ble_eq_true rfl)) dX7_dead_28 ⟨Nat.zero_le _, Nat.zero_le _⟩) ?_
        refine lv_if_eq (tgt := 49) hx hb dX7_dead_31 (by decide) (fun c9 => ?_) (fun c9 => ?_)
        · have hg := if_t hg c9
          obtain ⟨x10, hx10, hg⟩ := lt_e hg
          refine lv_iinc (v := x10) (lv' := [(2, .int x10), (0, .ref (ad 0)), (1, .int x4)]) hx hb dX7_dead_49 hl (k := 2) rfl (hx10.symm) (by decide) rfl (fun ls hl => ?_)
          refine lv_goto (tgt := 8) hx hb dX7_dead_52 (by decide) ?_
          exact ih _ _ _ _ _ _ hP hD hS (lv_sub hl [1, 2, 0] rfl) hg
        · have hg := if_f hg c9
          refine lv_aload_n hx hb dX7_dead_34 rfl (lv_at hl 0 rfl) ?_
          refine m_gr (C := RX7) (T := TX7) (n := 5) (ci := 5) hx hb hts in_RX7 hown hK hP (by decide) rfl rfl 1 (by decide) rfl lk_19 (fun _ h9 => h9) dX7_dead_35 ?_
          refine m_gr (C := RX6) (T := TX6) (n := 7) (ci := 4) hx hb hts in_RX6 hown hK hP (by decide) rfl rfl 0 (by decide) rfl lk_115 (fun _ h9 => h9) dX7_dead_38 ?_
          refine lv_iload_n hx hb dX7_dead_41 rfl (lv_at hl 2 rfl) ?_
          obtain ⟨b11, hg⟩ := ck_e hg hne
          refine m_ld hx hb hK hP (by decide) rfl b11 dX7_dead_42 ?_
          refine lv_if_ne (tgt := 49) hx hb dX7_dead_43 (by decide) (fun c12 => ?_) (fun c12 => ?_)
          · have hg := if_f hg c12
            obtain ⟨x13, hx13, hg⟩ := lt_e hg
            refine lv_iinc (v := x13) (lv' := [(2, .int x13), (0, .ref (ad 0)), (1, .int x4)]) hx hb dX7_dead_49 hl (k := 2) rfl (hx13.symm) (by decide) rfl (fun ls hl => ?_)
            refine lv_goto (tgt := 8) hx hb dX7_dead_52 (by decide) ?_
            exact ih _ _ _ _ _ _ hP hD hS (lv_sub hl [1, 2, 0] rfl) hg
          · have hg := if_t hg c12
            obtain ⟨x14, hx14, hg⟩ := lt_e hg
            refine lv_iinc (v := x14) (lv' := [(1, .int x14), (0, .ref (ad 0)), (2, .int x5)]) hx hb dX7_dead_46 hl (k := 1) rfl (hx14.symm) (by decide) rfl (fun ls hl => ?_)
            obtain ⟨x15, hx15, hg⟩ := lt_e hg
            refine lv_iinc (v := x15) (lv' := [(2, .int x15), (1, .int x14), (0, .ref (ad 0))]) hx hb dX7_dead_49 hl (k := 2) rfl (hx15.symm) (by decide) rfl (fun ls hl => ?_)
            refine lv_goto (tgt := 8) hx hb dX7_dead_52 (by decide) ?_
            exact ih _ _ _ _ _ _ hP hD hS (lv_sub hl [2, 1, 0] rfl) hg
  exact kL8_16 FU _ _ _ _ _ _ hP hD hS (lv_sub hl [2, 1, 0] rfl) hg
theorem ctX7_dead (l : Launch) (D : va_G) (sw : Sw) (cs : Cs) (ad : Nat → Nat) (X : va_W) (sz : Nat) (M : Mm) {r : Int32} {M1 : Mm} (hq : gX7_dead M = some (r, M1)) : Met l yX7_dead wsX7_dead ({ frames := 406, cells := 0, slots := 0, locals := 9729 }) (va_Pc [.ref (ad 0)] (wPre D sw cs LC NC ad M X sz)) (wQi D cs LC NC ad M1 X sz r) 0 0 (wA NC ad X sz) :=
  met_w rfl rfl (Nat.le_of_ble_eq_true rfl) (fun p e s m args below meth c ls CX hr hlk hK hSW hP hD hS hA hl => bX7_dead M hq (by simp) CX ⟨Nat.le_refl _, Nat.le_refl _⟩ hK hSW hP hD hS hA hl (fun pc ls H locs v M9 hv dg hP hD hS => W.iret CX.1 CX.2.1 hr (fun t ht hW => ⟨⟨_, (), rfl, (Prod.mk.inj (Option.some.inj hv)).1, wpost hP ht (Prod.mk.inj (Option.some.inj hv)).2⟩, hS.F ht⟩) hS.2.2 dg))

abbrev wsX7_variants : List Cond := Cond.code yX7_variants cX7_variants 3 (some .int) :: WG
def gX7_variants_L8 : Nat → Mm → Int32 → Int32 → Option (Int32 × Mm)
  | 0, _, _, _ => none
  | n6 + 1, M3, x4, x5 => if (16 : Int32) ≤ x5 then (some (x4, M3)) else bd (gX7_isFirstOfItsText M3 x5) fun r8 => if r8 = 0 then (lt (x5 + (1 : Int32)) fun x11 => gX7_variants_L8 n6 M3 x4 x11) else lt (x4 + (1 : Int32)) fun x12 => lt (x5 + (1 : Int32)) fun x13 => gX7_variants_L8 n6 M3 x12 x13
def gX7_variants (M : Mm) : Option (Int32 × Mm) := bd (gX7_refresh M ) fun M2 => gX7_variants_L8 FU M2 (0 : Int32) (0 : Int32)
set_option maxHeartbeats 4000000 in
set_option maxRecDepth 100000 in
theorem bX7_variants {p : Program} {l : Launch} {e : Env} {R : Room} {s : State} {m : MethodId} {args : Array Value} {below : List Frame} {meth : Method} {c : Code} {H : Heap} {locs : List Loc} {Q : State → Prop} {D : va_G} {sw : Sw} {cs : Cs} {ad : Nat → Nat} {X : va_W} {A : Nat → Prop} (M : Mm) {res : Option (Int32 × Mm)} (hg : gX7_variants M = res) (hne : res ≠ none) (CX : CallFix p m c cX7_variants 3 s args wsX7_variants RX7) (hR : 406 ≤ R.frames ∧ 9729 ≤ R.locals) (hK : va_K D vwCl (tysC cs) s) (hSW : SW sw A s s.heap) (hP : va_P D vwCl (wl cs LC NC ad M ++ X) H) (hD : va_D A (wl cs LC NC ad M ++ X)) (hS : va_S A s.heap H locs) (hA : ∀ q, s.heap.size ≤ q → A q) {ls : Array Slot} (hl : lv_has ls 3 [(0, .ref (ad 0))]) (hret : ∀ (pc : Nat) (ls : Array Slot) (H : Heap) (locs : List Loc) (v : Int32) (M9 : Mm), some (v, M9) = res → decode cX7_variants pc = .ok (.ireturn, 1) → va_P D vwCl (wl cs LC NC ad M9 ++ X) H → va_D A (wl cs LC NC ad M9 ++ X) → va_S A s.heap H locs → W p l e R s m args below meth c H locs 0 0 Q (F0 m pc ls [.int v])) : W p l e R s m args below meth c H locs 0 0 Q (F0 m 0 ls []) := by
  obtain ⟨hx, hb, hml, hown, hts⟩ := id CX
  have hw : ∀ w ∈ WG, w.before args s = true := fun w h => hts w (List.mem_cons_of_mem _ h)
  unfold gX7_variants at hg
  refine lv_aload_n hx hb dX7_variants_0 rfl (lv_at hl 0 rfl) ?_
  obtain ⟨M2, q1, hg⟩ := bd_e hg hne
  refine w_callv (va_runV (As := []) (rest := []) CX (ctX7_refresh l D sw cs ad X H.size M  q1) (cwV 0 hts (gwV m1_196 m1_198 mp1_0 m1_1 m1_199) rfl rfl rfl (by decide +kernel) ⟨Nat.le_trans (Nat.le_of_ble_eq_true rfl) hR.1, Nat.le_trans (Nat.le_of_ble_eq_true rfl) hR.2⟩) (wPreV hSW hS hA hK hP hD (by decide) rfl rfl _) rfl rfl hl.1 rfl (lv_room (Nat.le_of_ble_eq_true rfl)) dX7_variants_1 ⟨Nat.zero_le _, Nat.zero_le _⟩) hD hS hA (fun H locs hP hD hS => ?_)
  refine lv_iconst (v := 0) hx hb dX7_variants_4 (by decide) ?_
  refine lv_istore_n (lv' := [(1, .int (0 : Int32)), (0, .ref (ad 0))]) hx hb dX7_variants_5 rfl hl (by decide) rfl (fun ls hl => ?_)
  refine lv_iconst (v := 0) hx hb dX7_variants_6 (by decide) ?_
  refine lv_istore_n (lv' := [(2, .int (0 : Int32)), (1, .int (0 : Int32)), (0, .ref (ad 0))]) hx hb dX7_variants_7 rfl hl (by decide) rfl (fun ls hl => ?_)
  have kL8_14 : ∀ (n6 : Nat) (M3 : Mm) (x4 : Int32) (x5 : Int32) (H : Heap) (locs : List Loc) (ls : Array Slot), va_P D vwCl (wl cs LC NC ad M3 ++ X) H → va_D A (wl cs LC NC ad M3 ++ X) → va_S A s.heap H locs → lv_has ls 3 [(0, .ref (ad 0)), (1, .int x4), (2, .int x5)] → gX7_variants_L8 n6 M3 x4 x5 = res → W p l e R s m args below meth c H locs 0 0 Q (F0 m 8 ls []) := by
    intro n6
    induction n6 with
    | zero =>
      intro M3 x4 x5 H locs ls hP hD hS hl hg
      rw [gX7_variants_L8] at hg
      exact absurd hg.symm hne
    | succ n6 ih =>
      intro M3 x4 x5 H locs ls hP hD hS hl hg
      rw [gX7_variants_L8] at hg
      refine lv_iload_n hx hb dX7_variants_8 rfl (lv_at hl 2 rfl) ?_
      refine lv_bipush (v := 16) hx hb dX7_variants_9 (by decide) ?_
      refine lv_icmp_ge (tgt := 31) hx hb dX7_variants_11 (by decide) (fun c7 => ?_) (fun c7 => ?_)
      · have hg := if_t hg c7
        refine lv_iload_n hx hb dX7_variants_31 rfl (lv_at hl 1 rfl) ?_
        exact hret _ _ _ _ _ _ hg dX7_variants_32 hP hD hS
      · have hg := if_f hg c7
        refine lv_aload_n hx hb dX7_variants_14 rfl (lv_at hl 0 rfl) ?_
        refine lv_iload_n hx hb dX7_variants_15 rfl (lv_at hl 2 rfl) ?_
        obtain ⟨r8, q9, hg⟩ := bd_e hg hne
        refine r_calli (W.runV (As := [.int x5]) (rest := []) CX (ctX7_isFirstOfItsText l D sw cs ad X M3 x5 q9) (cwV 1 hts (gwV m2_189 m2_191 mp2_7 m1_1 m2_192) rfl rfl rfl (by decide +kernel) ⟨Nat.le_trans (Nat.le_of_ble_eq_true rfl) hR.1, Nat.le_trans (Nat.le_of_ble_eq_true rfl) hR.2⟩) (rPreV (hSW.wr hS) hK hP (by decide) rfl rfl _) rfl rfl hl.1 rfl (lv_room (Nat.le_of_ble_eq_true rfl)) dX7_variants_16 ⟨Nat.zero_le _, Nat.zero_le _⟩) ?_
        refine lv_if_eq (tgt := 25) hx hb dX7_variants_19 (by decide) (fun c10 => ?_) (fun c10 => ?_)
        · have hg := if_t hg c10
          obtain ⟨x11, hx11, hg⟩ := lt_e hg
          refine lv_iinc (v := x11) (lv' := [(2, .int x11), (0, .ref (ad 0)), (1, .int x4)]) hx hb dX7_variants_25 hl (k := 2) rfl (hx11.symm) (by decide) rfl (fun ls hl => ?_)
          refine lv_goto (tgt := 8) hx hb dX7_variants_28 (by decide) ?_
          exact ih _ _ _ _ _ _ hP hD hS (lv_sub hl [1, 2, 0] rfl) hg
        · have hg := if_f hg c10
          obtain ⟨x12, hx12, hg⟩ := lt_e hg
          refine lv_iinc (v := x12) (lv' := [(1, .int x12), (0, .ref (ad 0)), (2, .int x5)]) hx hb dX7_variants_22 hl (k := 1) rfl (hx12.symm) (by decide) rfl (fun ls hl => ?_)
          obtain ⟨x13, hx13, hg⟩ := lt_e hg
          refine lv_iinc (v := x13) (lv' := [(2, .int x13), (1, .int x12), (0, .ref (ad 0))]) hx hb dX7_variants_25 hl (k := 2) rfl (hx13.symm) (by decide) rfl (fun ls hl => ?_)
          refine lv_goto (tgt := 8) hx hb dX7_variants_28 (by decide) ?_
          exact ih _ _ _ _ _ _ hP hD hS (lv_sub hl [2, 1, 0] rfl) hg
  exact kL8_14 FU _ _ _ _ _ _ hP hD hS (lv_sub hl [2, 1, 0] rfl) hg
theorem ctX7_variants (l : Launch) (D : va_G) (sw : Sw) (cs : Cs) (ad : Nat → Nat) (X : va_W) (sz : Nat) (M : Mm) {r : Int32} {M1 : Mm} (hq : gX7_variants M = some (r, M1)) : Met l yX7_variants wsX7_variants ({ frames := 406, cells := 0, slots := 0, locals := 9729 }) (va_Pc [.ref (ad 0)] (wPre D sw cs LC NC ad M X sz)) (wQi D cs LC NC ad M1 X sz r) 0 0 (wA NC ad X sz) :=
  met_w rfl rfl (Nat.le_of_ble_eq_true rfl) (fun p e s m args below meth c ls CX hr hlk hK hSW hP hD hS hA hl => bX7_variants M hq (by simp) CX ⟨Nat.le_refl _, Nat.le_refl _⟩ hK hSW hP hD hS hA hl (fun pc ls H locs v M9 hv dg hP hD hS => W.iret CX.1 CX.2.1 hr (fun t ht hW => ⟨⟨_, (), rfl, (Prod.mk.inj (Option.some.inj hv)).1, wpost hP ht (Prod.mk.inj (Option.some.inj hv)).2⟩, hS.F ht⟩) hS.2.2 dg))

abbrev wsX7_digest : List Cond := Cond.code yX7_digest cX7_digest 4 (some .long) :: WG
def gX7_digest_L80 : Nat → Mm → Int64 → Int32 → Option (Int64 × Mm)
  | 0, _, _, _ => none
  | n13 + 1, M10, x11, x12 => if (16 : Int32) ≤ x12 then (some (x11, M10)) else if (x12 < 0 ∨ 16 ≤ (x12).toNatClampNeg) then none else lt ((x12).toNatClampNeg) fun v16 => bd (gX7_mixVariant M10 x11 v16) fun r18 => lt (x12 + (1 : Int32)) fun x20 => gX7_digest_L80 n13 M10 r18 x20
def gX7_digest_L21 (E6 : Mm → Int64 → Option (Int64 × Mm)) : Nat → Mm → Int64 → Int32 → Option (Int64 × Mm)
  | 0, _, _, _ => none
  | n25 + 1, M22, x23, x24 => if (M22 1 1) ≤ x24 then (E6 M22 x23) else if (x24 < 0 ∨ 80 ≤ (x24).toNatClampNeg) then none else lt (gX7_mix x23 (((M22 2 (x24).toNatClampNeg)).toInt64)) fun x28 => if (x24 < 0 ∨ 80 ≤ (x24).toNatClampNeg) then none else lt (gX7_mix x28 (((M22 4 (x24).toNatClampNeg)).toInt64)) fun x30 => lt (x24 + (1 : Int32)) fun x31 => gX7_digest_L21 E6 n25 M22 x30 x31
def gX7_digest (M : Mm) : Option (Int64 × Mm) := bd (gX7_refresh M ) fun M2 => lt (gX7_mix (139 : Int64) (((M2 1 1)).toInt64)) fun x3 => lt (fun (M4 : Mm) (x5 : Int64) => bd (gX4_countUnfinished M4 ) fun r7 => if r7 = 0 then (gX7_digest_L80 FU M4 x5 (0 : Int32)) else some (x5, M4)) fun E6 => gX7_digest_L21 E6 FU M2 x3 (0 : Int32)
set_option maxHeartbeats 4000000 in
set_option maxRecDepth 100000 in
theorem bX7_digest {p : Program} {l : Launch} {e : Env} {R : Room} {s : State} {m : MethodId} {args : Array Value} {below : List Frame} {meth : Method} {c : Code} {H : Heap} {locs : List Loc} {Q : State → Prop} {D : va_G} {sw : Sw} {cs : Cs} {ad : Nat → Nat} {X : va_W} {A : Nat → Prop} (M : Mm) {res : Option (Int64 × Mm)} (hg : gX7_digest M = res) (hne : res ≠ none) (CX : CallFix p m c cX7_digest 4 s args wsX7_digest RX7) (hR : 406 ≤ R.frames ∧ 9729 ≤ R.locals) (hK : va_K D vwCl (tysC cs) s) (hSW : SW sw A s s.heap) (hP : va_P D vwCl (wl cs LC NC ad M ++ X) H) (hD : va_D A (wl cs LC NC ad M ++ X)) (hS : va_S A s.heap H locs) (hA : ∀ q, s.heap.size ≤ q → A q) {ls : Array Slot} (hl : lv_has ls 4 [(0, .ref (ad 0))]) (hret : ∀ (pc : Nat) (ls : Array Slot) (H : Heap) (locs : List Loc) (v : Int64) (M9 : Mm), some (v, M9) = res → decode cX7_digest pc = .ok (.lreturn, 1) → va_P D vwCl (wl cs LC NC ad M9 ++ X) H → va_D A (wl cs LC NC ad M9 ++ X) → va_S A s.heap H locs → W p l e R s m args below meth c H locs 0 0 Q (F0 m pc ls [.long v])) : W p l e R s m args below meth c H locs 0 0 Q (F0 m 0 ls []) := by
  obtain ⟨hx, hb, hml, hown, hts⟩ := id CX
  have hw : ∀ w ∈ WG, w.before args s = true := fun w h => hts w (List.mem_cons_of_mem _ h)
  have lk_191 := hw _ m2_202
  have lk_10 := hw _ m1_161
  have lk_55 := hw _ m1_40
  have lk_25 := hw _ m1_163
  have lk_105 := hw _ m1_39
  have lk_19 := hw _ m1_162
  have lk_115 := hw _ m1_58
  unfold gX7_digest at hg
  refine lv_aload_n hx hb dX7_digest_0 rfl (lv_at hl 0 rfl) ?_
  obtain ⟨M2, q1, hg⟩ := bd_e hg hne
  refine w_callv (va_runV (As := []) (rest := []) CX (ctX7_refresh l D sw cs ad X H.size M  q1) (cwV 0 hts (gwV m1_196 m1_198 mp1_0 m1_1 m1_199) rfl rfl rfl (by decide +kernel) ⟨Nat.le_trans (Nat.le_of_ble_eq_true rfl) hR.1, Nat.le_trans (Nat.le_of_ble_eq_true rfl) hR.2⟩) (wPreV hSW hS hA hK hP hD (by decide) rfl rfl _) rfl rfl hl.1 rfl (lv_room (Nat.le_of_ble_eq_true rfl)) dX7_digest_1 ⟨Nat.zero_le _, Nat.zero_le _⟩) hD hS hA (fun H locs hP hD hS => ?_)
  refine lv_ldc2 (v := 139) hx hb hown lk_191 dX7_digest_4 ?_
  refine lv_aload_n hx hb dX7_digest_7 rfl (lv_at hl 0 rfl) ?_
  refine m_gr (C := RX7) (T := TX7) (n := 5) (ci := 5) hx hb hts in_RX7 hown hK hP (by decide) rfl rfl 0 (by decide) rfl lk_10 (fun _ h9 => h9) dX7_digest_8 ?_
  refine m_gi (C := RX4) (T := TX4) (n := 2) (ci := 2) hx hb hts in_RX4 hown hK hP (by decide) rfl rfl 1 (by decide) rfl lk_55 (fun _ h9 => h9) dX7_digest_11 ?_
  refine lv_i2l hx hb dX7_digest_14 rfl ?_
  refine r_calll (W.runS (As := [.long (139 : Int64), .long (((M2 1 1)).toInt64)]) (rest := []) CX (ctX7_mix l (139 : Int64) (((M2 1 1)).toInt64)) (va_cwS 2 hts (gwS m2_203 m2_204 m1_1 m2_205) rfl rfl rfl (by decide +kernel) ⟨Nat.le_trans (Nat.le_of_ble_eq_true rfl) hR.1, Nat.le_trans (Nat.le_of_ble_eq_true rfl) hR.2⟩) (pPreS _) rfl rfl hl.1 rfl (lv_room (Nat.le_of_ble_eq_true rfl)) dX7_digest_15 ⟨Nat.zero_le _, Nat.zero_le _⟩) ?_
  obtain ⟨x3, hx3, hg⟩ := lt_e hg
  refine top_l hx3 ?_
  refine lv_lstore_n (lv' := [(1, .long x3), (0, .ref (ad 0))]) hx hb dX7_digest_18 rfl hl (by decide) rfl (fun ls hl => ?_)
  refine lv_iconst (v := 0) hx hb dX7_digest_19 (by decide) ?_
  refine lv_istore_n (lv' := [(3, .int (0 : Int32)), (1, .long x3), (0, .ref (ad 0))]) hx hb dX7_digest_20 rfl hl (by decide) rfl (fun ls hl => ?_)
  obtain ⟨E6, hE6, hg⟩ := lf2 hg
  have kE6 : ∀ (M4 : Mm) (x5 : Int64) (H : Heap) (locs : List Loc) (ls : Array Slot), va_P D vwCl (wl cs LC NC ad M4 ++ X) H → va_D A (wl cs LC NC ad M4 ++ X) → va_S A s.heap H locs → lv_has ls 4 [(0, .ref (ad 0)), (1, .long x5)] → E6 M4 x5 = res → W p l e R s m args below meth c H locs 0 0 Q (F0 m 68 ls []) := by
    intro M4 x5 H locs ls hP hD hS hl hg
    rw [hE6] at hg
    refine lv_aload_n hx hb dX7_digest_68 rfl (lv_at hl 0 rfl) ?_
    refine m_gr (C := RX7) (T := TX7) (n := 5) (ci := 5) hx hb hts in_RX7 hown hK hP (by decide) rfl rfl 0 (by decide) rfl lk_10 (fun _ h9 => h9) dX7_digest_69 ?_
    obtain ⟨r7, q8, hg⟩ := bd_e hg hne
    refine r_calli (W.runV (As := []) (rest := []) CX (ctX4_countUnfinished l D sw cs ad X M4  q8) (cwV 0 hts (gwV m1_185 m1_186 m1_187 m1_2 m1_188) rfl rfl rfl (by decide +kernel) ⟨Nat.le_trans (Nat.le_of_ble_eq_true rfl) hR.1, Nat.le_trans (Nat.le_of_ble_eq_true rfl) hR.2⟩) (rPreV (hSW.wr hS) hK hP (by decide) rfl rfl _) rfl rfl hl.1 rfl (lv_room (Nat.le_of_ble_eq_true rfl)) dX7_digest_72 ⟨Nat.zero_le _, Nat.zero_le _⟩) ?_
    refine lv_if_ne (tgt := 103) hx hb dX7_digest_75 (by decide) (fun c9 => ?_) (fun c9 => ?_)
    · have hg := if_f hg c9
      refine lv_lload_n hx hb dX7_digest_103 rfl (lv_at hl 1 rfl) ?_
      exact hret _ _ _ _ _ _ hg dX7_digest_104 hP hD hS
    · have hg := if_t hg c9
      refine lv_iconst (v := 0) hx hb dX7_digest_78 (by decide) ?_
      refine lv_istore_n (lv' := [(3, .int (0 : Int32)), (0, .ref (ad 0)), (1, .long x5)]) hx hb dX7_digest_79 rfl hl (by decide) rfl (fun ls hl => ?_)
      have kL80_21 : ∀ (n13 : Nat) (M10 : Mm) (x11 : Int64) (x12 : Int32) (H : Heap) (locs : List Loc) (ls : Array Slot), va_P D vwCl (wl cs LC NC ad M10 ++ X) H → va_D A (wl cs LC NC ad M10 ++ X) → va_S A s.heap H locs → lv_has ls 4 [(0, .ref (ad 0)), (1, .long x11), (3, .int x12)] → gX7_digest_L80 n13 M10 x11 x12 = res → W p l e R s m args below meth c H locs 0 0 Q (F0 m 80 ls []) := by
        intro n13
        induction n13 with
        | zero =>
          intro M10 x11 x12 H locs ls hP hD hS hl hg
          rw [gX7_digest_L80] at hg
          exact absurd hg.symm hne
        | succ n13 ih =>
          intro M10 x11 x12 H locs ls hP hD hS hl hg
          rw [gX7_digest_L80] at hg
          refine lv_iload_n hx hb dX7_digest_80 rfl (lv_at hl 2 rfl) ?_
          refine lv_bipush (v := 16) hx hb dX7_digest_81 (by decide) ?_
          refine lv_icmp_ge (tgt := 103) hx hb dX7_digest_83 (by decide) (fun c14 => ?_) (fun c14 => ?_)
          · have hg := if_t hg c14
            refine lv_lload_n hx hb dX7_digest_103 rfl (lv_at hl 1 rfl) ?_
            exact hret _ _ _ _ _ _ hg dX7_digest_104 hP hD hS
          · have hg := if_f hg c14
            refine lv_lload_n hx hb dX7_digest_86 rfl (lv_at hl 1 rfl) ?_
            refine lv_aload_n hx hb dX7_digest_87 rfl (lv_at hl 0 rfl) ?_
            refine m_gr (C := RX7) (T := TX7) (n := 5) (ci := 5) hx hb hts in_RX7 hown hK hP (by decide) rfl rfl 2 (by decide) rfl lk_25 (fun _ h9 => h9) dX7_digest_88 ?_
            refine lv_iload_n hx hb dX7_digest_91 rfl (lv_at hl 2 rfl) ?_
            obtain ⟨b15, hg⟩ := ck_e hg hne
            obtain ⟨v16, hv16, hg⟩ := lt_e hg
            have h17 := ix_lt b15 hv16
            refine m_lq (k := 13) hx hb hK hP (by decide) rfl b15 dX7_digest_92 ?_
            rw [← hv16]
            obtain ⟨r18, q19, hg⟩ := bd_e hg hne
            refine r_calll (W.runS (As := [.long x11, .ref (ad (vb v16))]) (rest := []) CX (ctX7_mixVariant l D sw cs ad X M10 x11 v16 h17 q19) (va_cwS 2 hts (gwS m2_207 m2_208 m1_1 m2_209) rfl rfl rfl (by decide +kernel) ⟨Nat.le_trans (Nat.le_of_ble_eq_true rfl) hR.1, Nat.le_trans (Nat.le_of_ble_eq_true rfl) hR.2⟩) (rPreS (hSW.wr hS) hK hP _) rfl rfl hl.1 rfl (lv_room (Nat.le_of_ble_eq_true rfl)) dX7_digest_93 ⟨Nat.zero_le _, Nat.zero_le _⟩) ?_
            refine lv_lstore_n (lv' := [(1, .long r18), (0, .ref (ad 0)), (3, .int x12)]) hx hb dX7_digest_96 rfl hl (by decide) rfl (fun ls hl => ?_)
            obtain ⟨x20, hx20, hg⟩ := lt_e hg
            refine lv_iinc (v := x20) (lv' := [(3, .int x20), (1, .long r18), (0, .ref (ad 0))]) hx hb dX7_digest_97 hl (k := 2) rfl (hx20.symm) (by decide) rfl (fun ls hl => ?_)
            refine lv_goto (tgt := 80) hx hb dX7_digest_100 (by decide) ?_
            exact ih _ _ _ _ _ _ hP hD hS (lv_sub hl [2, 1, 0] rfl) hg
      exact kL80_21 FU _ _ _ _ _ _ hP hD hS (lv_sub hl [1, 2, 0] rfl) hg
  have kL21_32 : ∀ (n25 : Nat) (M22 : Mm) (x23 : Int64) (x24 : Int32) (H : Heap) (locs : List Loc) (ls : Array Slot), va_P D vwCl (wl cs LC NC ad M22 ++ X) H → va_D A (wl cs LC NC ad M22 ++ X) → va_S A s.heap H locs → lv_has ls 4 [(0, .ref (ad 0)), (1, .long x23), (3, .int x24)] → gX7_digest_L21 E6 n25 M22 x23 x24 = res → W p l e R s m args below meth c H locs 0 0 Q (F0 m 21 ls []) := by
    intro n25
    induction n25 with
    | zero =>
      intro M22 x23 x24 H locs ls hP hD hS hl hg
      rw [gX7_digest_L21] at hg
      exact absurd hg.symm hne
    | succ n25 ih =>
      intro M22 x23 x24 H locs ls hP hD hS hl hg
      rw [gX7_digest_L21] at hg
      refine lv_iload_n hx hb dX7_digest_21 rfl (lv_at hl 2 rfl) ?_
      refine lv_aload_n hx hb dX7_digest_22 rfl (lv_at hl 0 rfl) ?_
      refine m_gr (C := RX7) (T := TX7) (n := 5) (ci := 5) hx hb hts in_RX7 hown hK hP (by decide) rfl rfl 0 (by decide) rfl lk_10 (fun _ h9 => h9) dX7_digest_23 ?_
      refine m_gi (C := RX4) (T := TX4) (n := 2) (ci := 2) hx hb hts in_RX4 hown hK hP (by decide) rfl rfl 1 (by decide) rfl lk_55 (fun _ h9 => h9) dX7_digest_26 ?_
      refine lv_icmp_ge (tgt := 68) hx hb dX7_digest_29 (by decide) (fun c26 => ?_) (fun c26 => ?_)
      · have hg := if_t hg c26
        exact kE6 _ _ _ _ _ hP hD hS (lv_sub hl [0, 1] rfl) hg
      · have hg := if_f hg c26
        refine lv_lload_n hx hb dX7_digest_32 rfl (lv_at hl 1 rfl) ?_
        refine lv_aload_n hx hb dX7_digest_33 rfl (lv_at hl 0 rfl) ?_
        refine m_gr (C := RX7) (T := TX7) (n := 5) (ci := 5) hx hb hts in_RX7 hown hK hP (by decide) rfl rfl 0 (by decide) rfl lk_10 (fun _ h9 => h9) dX7_digest_34 ?_
        refine m_gr (C := RX4) (T := TX4) (n := 2) (ci := 2) hx hb hts in_RX4 hown hK hP (by decide) rfl rfl 0 (by decide) rfl lk_105 (fun _ h9 => h9) dX7_digest_37 ?_
        refine lv_iload_n hx hb dX7_digest_40 rfl (lv_at hl 2 rfl) ?_
        obtain ⟨b27, hg⟩ := ck_e hg hne
        refine m_ld hx hb hK hP (by decide) rfl b27 dX7_digest_41 ?_
        refine lv_i2l hx hb dX7_digest_42 rfl ?_
        refine r_calll (W.runS (As := [.long x23, .long (((M22 2 (x24).toNatClampNeg)).toInt64)]) (rest := []) CX (ctX7_mix l x23 (((M22 2 (x24).toNatClampNeg)).toInt64)) (va_cwS 2 hts (gwS m2_203 m2_204 m1_1 m2_205) rfl rfl rfl (by decide +kernel) ⟨Nat.le_trans (Nat.le_of_ble_eq_true rfl) hR.1, Nat.le_trans (Nat.le_of_ble_eq_true rfl) hR.2⟩) (pPreS _) rfl rfl hl.1 rfl (lv_room (Nat.le_of_ble_eq_true rfl)) dX7_digest_43 ⟨Nat.zero_le _, Nat.zero_le _⟩) ?_
        obtain ⟨x28, hx28, hg⟩ := lt_e hg
        refine top_l hx28 ?_
        refine lv_lstore_n (lv' := [(1, .long x28), (0, .ref (ad 0)), (3, .int x24)]) hx hb dX7_digest_46 rfl hl (by decide) rfl (fun ls hl => ?_)
        refine lv_lload_n hx hb dX7_digest_47 rfl (lv_at hl 0 rfl) ?_
        refine lv_aload_n hx hb dX7_digest_48 rfl (lv_at hl 1 rfl) ?_
        refine m_gr (C := RX7) (T := TX7) (n := 5) (ci := 5) hx hb hts in_RX7 hown hK hP (by decide) rfl rfl 1 (by decide) rfl lk_19 (fun _ h9 => h9) dX7_digest_49 ?_
        refine m_gr (C := RX6) (T := TX6) (n := 7) (ci := 4) hx hb hts in_RX6 hown hK hP (by decide) rfl rfl 0 (by decide) rfl lk_115 (fun _ h9 => h9) dX7_digest_52 ?_
        refine lv_iload_n hx hb dX7_digest_55 rfl (lv_at hl 2 rfl) ?_
        obtain ⟨b29, hg⟩ := ck_e hg hne
        refine m_ld hx hb hK hP (by decide) rfl b29 dX7_digest_56 ?_
        refine lv_i2l hx hb dX7_digest_57 rfl ?_
        refine r_calll (W.runS (As := [.long x28, .long (((M22 4 (x24).toNatClampNeg)).toInt64)]) (rest := []) CX (ctX7_mix l x28 (((M22 4 (x24).toNatClampNeg)).toInt64)) (va_cwS 2 hts (gwS m2_203 m2_204 m1_1 m2_205) rfl rfl rfl (by decide +kernel) ⟨Nat.le_trans (Nat.le_of_ble_eq_true rfl) hR.1, Nat.le_trans (Nat.le_of_ble_eq_true rfl) hR.2⟩) (pPreS _) rfl rfl hl.1 rfl (lv_room (Nat.le_of_ble_eq_true rfl)) dX7_digest_58 ⟨Nat.zero_le _, Nat.zero_le _⟩) ?_
        obtain ⟨x30, hx30, hg⟩ := lt_e hg
        refine top_l hx30 ?_
        refine lv_lstore_n (lv' := [(1, .long x30), (0, .ref (ad 0)), (3, .int x24)]) hx hb dX7_digest_61 rfl hl (by decide) rfl (fun ls hl => ?_)
        obtain ⟨x31, hx31, hg⟩ := lt_e hg
        refine lv_iinc (v := x31) (lv' := [(3, .int x31), (1, .long x30), (0, .ref (ad 0))]) hx hb dX7_digest_62 hl (k := 2) rfl (hx31.symm) (by decide) rfl (fun ls hl => ?_)
        refine lv_goto (tgt := 21) hx hb dX7_digest_65 (by decide) ?_
        exact ih _ _ _ _ _ _ hP hD hS (lv_sub hl [2, 1, 0] rfl) hg
  exact kL21_32 FU _ _ _ _ _ _ hP hD hS (lv_sub hl [2, 1, 0] rfl) hg
theorem ctX7_digest (l : Launch) (D : va_G) (sw : Sw) (cs : Cs) (ad : Nat → Nat) (X : va_W) (sz : Nat) (M : Mm) {r : Int64} {M1 : Mm} (hq : gX7_digest M = some (r, M1)) : Met l yX7_digest wsX7_digest ({ frames := 406, cells := 0, slots := 0, locals := 9729 }) (va_Pc [.ref (ad 0)] (wPre D sw cs LC NC ad M X sz)) (wQl D cs LC NC ad M1 X sz r) 0 0 (wA NC ad X sz) :=
  met_w rfl rfl (Nat.le_of_ble_eq_true rfl) (fun p e s m args below meth c ls CX hr hlk hK hSW hP hD hS hA hl => bX7_digest M hq (by simp) CX ⟨Nat.le_refl _, Nat.le_refl _⟩ hK hSW hP hD hS hA hl (fun pc ls H locs v M9 hv dg hP hD hS => W.lret CX.1 CX.2.1 hr (fun t ht hW => ⟨⟨_, (), rfl, (Prod.mk.inj (Option.some.inj hv)).1, wpost hP ht (Prod.mk.inj (Option.some.inj hv)).2⟩, hS.F ht⟩) hS.2.2 dg))

abbrev wsX8_behaviours : List Cond := Cond.code yX8_behaviours cX8_behaviours 9 (some .int) :: WG
def gX8_behaviours_L152 (E67 : Mm → (Nat → Int32) → (Nat → Int32) → Int32 → Int32 → Int32 → Int32 → Option (Int32 × Mm)) : Nat → Mm → (Nat → Int32) → (Nat → Int32) → Int32 → Int32 → Int32 → Int32 → Int32 → Option (Int32 × Mm)
  | 0, _, _, _, _, _, _, _, _ => none
  | n79 + 1, M71, f72, f73, x74, x75, x76, x77, x78 => if (M71 0 13) ≤ x78 then (E67 M71 f72 f73 x74 x75 x76 x77) else if x77 = 0 then (E67 M71 f72 f73 x74 x75 x76 x77) else if ((((80 : Int32) * x76) + x78) < 0 ∨ 1280 ≤ ((((80 : Int32) * x76) + x78)).toNatClampNeg) then none else if (x78 < 0 ∨ 80 ≤ (x78).toNatClampNeg) then none else if (f73 ((((80 : Int32) * x76) + x78)).toNatClampNeg) = (M71 11 (x78).toNatClampNeg) then (lt (x78 + (1 : Int32)) fun x86 => gX8_behaviours_L152 E67 n79 M71 f72 f73 x74 x75 x76 (1 : Int32) x86) else lt (x78 + (1 : Int32)) fun x85 => gX8_behaviours_L152 E67 n79 M71 f72 f73 x74 x75 x76 (0 : Int32) x85
def gX8_behaviours_L119 (E36 : Mm → (Nat → Int32) → (Nat → Int32) → Int32 → Int32 → Int32 → Option (Int32 × Mm)) : Nat → Mm → (Nat → Int32) → (Nat → Int32) → Int32 → Int32 → Int32 → Int32 → Option (Int32 × Mm)
  | 0, _, _, _, _, _, _, _ => none
  | n47 + 1, M40, f41, f42, x43, x44, x45, x46 => if x44 ≤ x46 then (E36 M40 f41 f42 x43 x44 x45) else if x45 = 0 then (E36 M40 f41 f42 x43 x44 x45) else if (x46 < 0 ∨ 16 ≤ (x46).toNatClampNeg) then none else lt (fun (M52 : Mm) (f53 : Nat → Int32) (f54 : Nat → Int32) (x55 : Int32) (x56 : Int32) (x57 : Int32) (s58 : Int32) => lt (fun (M60 : Mm) (f61 : Nat → Int32) (f62 : Nat → Int32) (x63 : Int32) (x64 : Int32) (x65 : Int32) (x66 : Int32) => if x66 = 0 then (lt (x65 + (1 : Int32)) fun x70 => gX8_behaviours_L119 E36 n47 M60 f61 f62 x63 x64 (1 : Int32) x70) else lt (x65 + (1 : Int32)) fun x69 => gX8_behaviours_L119 E36 n47 M60 f61 f62 x63 x64 (0 : Int32) x69) fun E67 => gX8_behaviours_L152 E67 FU M52 f53 f54 x55 x56 x57 s58 (0 : Int32)) fun J59 => if (f41 (x46).toNatClampNeg) = (M40 0 13) then (J59 M40 f41 f42 x43 x44 x46 (1 : Int32)) else J59 M40 f41 f42 x43 x44 x46 (0 : Int32)
def gX8_behaviours_L81 (E29 : Mm → (Nat → Int32) → (Nat → Int32) → Int32 → Int32 → Option (Int32 × Mm)) : Nat → Mm → (Nat → Int32) → (Nat → Int32) → Int32 → Int32 → Int32 → Option (Int32 × Mm)
  | 0, _, _, _, _, _, _ => none
  | n95 + 1, M89, f90, f91, x92, x93, x94 => if (M89 0 13) ≤ x94 then (E29 M89 f90 f91 x92 x93) else if (x94 < 0 ∨ 80 ≤ (x94).toNatClampNeg) then none else if ((((80 : Int32) * x93) + x94) < 0 ∨ 1280 ≤ ((((80 : Int32) * x93) + x94)).toNatClampNeg) then none else lt (upd f91 ((((80 : Int32) * x93) + x94)).toNatClampNeg (M89 11 (x94).toNatClampNeg)) fun f99 => lt (x94 + (1 : Int32)) fun x100 => gX8_behaviours_L81 E29 n95 M89 f90 f99 x92 x93 x100
def gX8_behaviours_L38 : Nat → Mm → (Nat → Int32) → (Nat → Int32) → Int32 → Int32 → Option (Int32 × Mm)
  | 0, _, _, _, _, _ => none
  | n14 + 1, M9, f10, f11, x12, x13 => if (16 : Int32) ≤ x13 then (some (x12, M9)) else if (x13 < 0 ∨ 16 ≤ (x13).toNatClampNeg) then none else lt (upd f10 (x13).toNatClampNeg (-1 : Int32)) fun f17 => if (x13 < 0 ∨ 16 ≤ (x13).toNatClampNeg) then none else if (M9 6 (x13).toNatClampNeg) = (-1 : Int32) then (bd (gX8_run M9 x13) fun M21 => if (x13 < 0 ∨ 16 ≤ (x13).toNatClampNeg) then none else lt (upd f17 (x13).toNatClampNeg (M21 0 13)) fun f23 => lt (fun (M24 : Mm) (f25 : Nat → Int32) (f26 : Nat → Int32) (x27 : Int32) (x28 : Int32) => lt (fun (M30 : Mm) (f31 : Nat → Int32) (f32 : Nat → Int32) (x33 : Int32) (x34 : Int32) (x35 : Int32) => if x35 = 0 then (lt (x34 + (1 : Int32)) fun x38 => gX8_behaviours_L38 n14 M30 f31 f32 (x33 + (0 : Int32)) x38) else lt (x34 + (1 : Int32)) fun x39 => gX8_behaviours_L38 n14 M30 f31 f32 (x33 + (1 : Int32)) x39) fun E36 => gX8_behaviours_L119 E36 FU M24 f25 f26 x27 x28 (1 : Int32) (0 : Int32)) fun E29 => gX8_behaviours_L81 E29 FU M21 f23 f11 x12 x13 (0 : Int32)) else lt (x13 + (1 : Int32)) fun x102 => gX8_behaviours_L38 n14 M9 f17 f11 x12 x102
def gX8_behaviours (M : Mm) : Option (Int32 × Mm) := lt (um M 0 0 (0 : Int32)) fun M1 => bd (gX8_isWhole M1 ) fun r2 => if r2 = 0 then (bd2 (gX8_no M1 (1 : Int32)) fun r106 M105 => some (r106, M105)) else bd (gX8_read M1 ) fun M6 => gX8_behaviours_L38 FU M6 (fun _ => 0) (fun _ => 0) (0 : Int32) (0 : Int32)
set_option maxHeartbeats 4000000 in
set_option maxRecDepth 100000 in
theorem bX8_behaviours {p : Program} {l : Launch} {e : Env} {R : Room} {s : State} {m : MethodId} {args : Array Value} {below : List Frame} {meth : Method} {c : Code} {H : Heap} {locs : List Loc} {Q : State → Prop} {D : va_G} {sw : Sw} {cs : Cs} {ad : Nat → Nat} {X : va_W} {A : Nat → Prop} (M : Mm) {res : Option (Int32 × Mm)} (hg : gX8_behaviours M = res) (hne : res ≠ none) (CX : CallFix p m c cX8_behaviours 9 s args wsX8_behaviours RX8) (hR : 804 ≤ R.frames ∧ 19290 ≤ R.locals) (hK : va_K D vwCl (tysC cs) s) (hSW : SW sw A s s.heap) (hP : va_P D vwCl (wl cs LM NM ad M ++ X) H) (hD : va_D A (wl cs LM NM ad M ++ X)) (hS : va_S A s.heap H locs) (hA : ∀ q, s.heap.size ≤ q → A q) (hRc : 5 ≤ R.cells ∧ 1310 ≤ R.slots) {ls : Array Slot} (hl : lv_has ls 9 [(0, .ref (ad 0))]) (hret : ∀ (pc : Nat) (ls : Array Slot) (H : Heap) (locs : List Loc) (v : Int32) (M9 : Mm), some (v, M9) = res → decode cX8_behaviours pc = .ok (.ireturn, 1) → va_P D vwCl (wl cs LM NM ad M9 ++ X) H → va_D A (wl cs LM NM ad M9 ++ X) → va_S A s.heap H locs → W p l e R s m args below meth c H locs 5 1310 Q (F0 m pc ls [.int v])) : W p l e R s m args below meth c H locs 0 0 Q (F0 m 0 ls []) := by
  obtain ⟨hx, hb, hml, hown, hts⟩ := id CX
  have hw : ∀ w ∈ WG, w.before args s = true := fun w h => hts w (List.mem_cons_of_mem _ h)
  have lk_43 := hw _ m4_116
  have km := hw _ m1_48
  have lk_25 := hw _ m4_123
  have lk_171 := hw _ m4_129
  have lk_40 := hw _ m4_130
  unfold gX8_behaviours at hg
  refine lv_aload_n hx hb dX8_behaviours_0 rfl (lv_at hl 0 rfl) ?_
  refine lv_iconst (v := 0) hx hb dX8_behaviours_1 (by decide) ?_
  obtain ⟨M1, hM1, hg⟩ := lt_e hg
  refine m_pi (C := RX8) (T := TX8) (n := 15) (ci := 6) hx hb hts in_RX8 tyX8 tyX8_ok nmX8 hown hK hP hD hS (by decide) rfl rfl 0 (by decide) rfl lk_43 (fun _ h9 => h9) rfl rfl rfl dX8_behaviours_2 hM1 (fun H locs hP hD hS => ?_)
  refine lv_aload_n hx hb dX8_behaviours_5 rfl (lv_at hl 0 rfl) ?_
  obtain ⟨r2, q3, hg⟩ := bd_e hg hne
  refine r_calli (W.runV (As := []) (rest := []) CX (ctX8_isWhole l D sw cs ad X M1  q3) (cwV 0 hts (gwV m5_117 m5_119 mp3_15 m1_7 m5_120) rfl rfl rfl (by decide +kernel) ⟨Nat.le_trans (Nat.le_of_ble_eq_true rfl) hR.1, Nat.le_trans (Nat.le_of_ble_eq_true rfl) hR.2⟩) (rPreV (hSW.wr hS) hK hP (by decide) rfl rfl _) rfl rfl hl.1 rfl (lv_room (Nat.le_of_ble_eq_true rfl)) dX8_behaviours_6 ⟨Nat.zero_le _, Nat.zero_le _⟩) ?_
  refine lv_if_ne (tgt := 18) hx hb dX8_behaviours_9 (by decide) (fun c4 => ?_) (fun c4 => ?_)
  · have hg := if_f hg c4
    refine lv_aload_n hx hb dX8_behaviours_18 rfl (lv_at hl 0 rfl) ?_
    obtain ⟨M6, q5, hg⟩ := bd_e hg hne
    refine w_callv (va_runV (As := []) (rest := []) CX (ctX8_read l D sw cs ad X H.size M1  q5) (cwV 0 hts (gwV m5_121 m5_123 mp4_0 m1_7 m5_124) rfl rfl rfl (by decide +kernel) ⟨Nat.le_trans (Nat.le_of_ble_eq_true rfl) hR.1, Nat.le_trans (Nat.le_of_ble_eq_true rfl) hR.2⟩) (wPreV hSW hS hA hK hP hD (by decide) rfl rfl _) rfl rfl hl.1 rfl (lv_room (Nat.le_of_ble_eq_true rfl)) dX8_behaviours_19 ⟨Nat.le_trans (Nat.le_of_ble_eq_true rfl) hRc.1, Nat.le_trans (Nat.le_of_ble_eq_true rfl) hRc.2⟩) hD hS hA (fun H locs hP hD hS => ?_)
    refine lv_bipush (v := 16) hx hb dX8_behaviours_22 (by decide) ?_
    rw [show wl cs LM NM ad M6 ++ X = wl cs LM NM ad M6 ++ (X ++ []) by rw [List.append_nil]] at hP hD
    refine m_new (n := 16) hx hb km hK hP hD hS hA rfl (by decide) (Nat.le_trans (Nat.le_of_ble_eq_true rfl) hRc.1) (Nat.le_trans (Nat.le_of_ble_eq_true rfl) hRc.2) dX8_behaviours_24 (fun q7 H hP hD hS => ?_)
    have hP : va_P D vwCl (wl cs LM NM ad M6 ++ (X ++ [(q7, .inl (cs.1, 16, .inl (fun _ => 0)))])) H := hP
    have hD : va_D A (wl cs LM NM ad M6 ++ (X ++ [(q7, .inl (cs.1, 16, .inl (fun _ => 0)))])) := hD
    refine lv_astore_n (lv' := [(1, .ref q7), (0, .ref (ad 0))]) hx hb dX8_behaviours_26 rfl hl (by decide) rfl (fun ls hl => ?_)
    refine lv_sipush (v := 1280) hx hb dX8_behaviours_27 (by decide) ?_
    refine m_new (n := 1280) hx hb km hK hP hD hS hA rfl (by decide) (Nat.le_trans (Nat.le_of_ble_eq_true rfl) hRc.1) (Nat.le_trans (Nat.le_of_ble_eq_true rfl) hRc.2) dX8_behaviours_30 (fun q8 H hP hD hS => ?_)
    have hP : va_P D vwCl (wl cs LM NM ad M6 ++ (X ++ [(q7, .inl (cs.1, 16, .inl (fun _ => 0))), (q8, .inl (cs.1, 1280, .inl (fun _ => 0)))])) H := hP
    have hD : va_D A (wl cs LM NM ad M6 ++ (X ++ [(q7, .inl (cs.1, 16, .inl (fun _ => 0))), (q8, .inl (cs.1, 1280, .inl (fun _ => 0)))])) := hD
    refine lv_astore_n (lv' := [(2, .ref q8), (1, .ref q7), (0, .ref (ad 0))]) hx hb dX8_behaviours_32 rfl hl (by decide) rfl (fun ls hl => ?_)
    refine lv_iconst (v := 0) hx hb dX8_behaviours_33 (by decide) ?_
    refine lv_istore_n (lv' := [(3, .int (0 : Int32)), (2, .ref q8), (1, .ref q7), (0, .ref (ad 0))]) hx hb dX8_behaviours_34 rfl hl (by decide) rfl (fun ls hl => ?_)
    refine lv_iconst (v := 0) hx hb dX8_behaviours_35 (by decide) ?_
    refine lv_istore (lv' := [(4, .int (0 : Int32)), (3, .int (0 : Int32)), (2, .ref q8), (1, .ref q7), (0, .ref (ad 0))]) hx hb dX8_behaviours_36 hl (by decide) rfl (fun ls hl => ?_)
    have kL38_103 : ∀ (n14 : Nat) (M9 : Mm) (f10 : Nat → Int32) (f11 : Nat → Int32) (x12 : Int32) (x13 : Int32) (H : Heap) (locs : List Loc) (ls : Array Slot), va_P D vwCl (wl cs LM NM ad M9 ++ (X ++ [(q7, .inl (cs.1, 16, .inl f10)), (q8, .inl (cs.1, 1280, .inl f11))])) H → va_D A (wl cs LM NM ad M9 ++ (X ++ [(q7, .inl (cs.1, 16, .inl f10)), (q8, .inl (cs.1, 1280, .inl f11))])) → va_S A s.heap H locs → lv_has ls 9 [(0, .ref (ad 0)), (1, .ref q7), (2, .ref q8), (3, .int x12), (4, .int x13)] → gX8_behaviours_L38 n14 M9 f10 f11 x12 x13 = res → W p l e R s m args below meth c H locs (((0 + 3) + 1) + 1) (((0 + 14) + 16) + 1280) Q (F0 m 38 ls []) := by
      intro n14
      induction n14 with
      | zero =>
        intro M9 f10 f11 x12 x13 H locs ls hP hD hS hl hg
        rw [gX8_behaviours_L38] at hg
        exact absurd hg.symm hne
      | succ n14 ih =>
        intro M9 f10 f11 x12 x13 H locs ls hP hD hS hl hg
        rw [gX8_behaviours_L38] at hg
        refine lv_iload hx hb dX8_behaviours_38 (lv_at hl 4 rfl) ?_
        refine lv_bipush (v := 16) hx hb dX8_behaviours_40 (by decide) ?_
        refine lv_icmp_ge (tgt := 236) hx hb dX8_behaviours_42 (by decide) (fun c15 => ?_) (fun c15 => ?_)
        · have hg := if_t hg c15
          refine lv_iload_n hx hb dX8_behaviours_236 rfl (lv_at hl 3 rfl) ?_
          have hP := w_drop hP
          have hD := w_dropD hD
          refine W.widen (k := 5) (n := 1310) (by decide) (by decide) ?_
          exact hret _ _ _ _ _ _ hg dX8_behaviours_237 hP hD hS
        · have hg := if_f hg c15
          refine lv_aload_n hx hb dX8_behaviours_45 rfl (lv_at hl 1 rfl) ?_
          refine lv_iload hx hb dX8_behaviours_46 (lv_at hl 4 rfl) ?_
          refine lv_iconst (v := -1) hx hb dX8_behaviours_48 (by decide) ?_
          obtain ⟨b16, hg⟩ := ck_e hg hne
          obtain ⟨f17, hf17, hg⟩ := lt_e hg
          refine m_stX hx hb hK hP hD hS 0 rfl b16 dX8_behaviours_49 hf17 (fun H locs hP hD hS => ?_)
          have hP : va_P D vwCl (wl cs LM NM ad M9 ++ (X ++ [(q7, .inl (cs.1, 16, .inl f17)), (q8, .inl (cs.1, 1280, .inl f11))])) H := hP
          have hD : va_D A (wl cs LM NM ad M9 ++ (X ++ [(q7, .inl (cs.1, 16, .inl f17)), (q8, .inl (cs.1, 1280, .inl f11))])) := hD
          refine lv_aload_n hx hb dX8_behaviours_50 rfl (lv_at hl 0 rfl) ?_
          refine m_gr (C := RX8) (T := TX8) (n := 15) (ci := 6) hx hb hts in_RX8 hown hK hP (by decide) rfl rfl 7 (by decide) rfl lk_25 (fun _ h9 => h9) dX8_behaviours_51 ?_
          refine lv_iload hx hb dX8_behaviours_54 (lv_at hl 4 rfl) ?_
          obtain ⟨b18, hg⟩ := ck_e hg hne
          refine m_ld hx hb hK hP (by decide) rfl b18 dX8_behaviours_56 ?_
          refine lv_iconst (v := -1) hx hb dX8_behaviours_57 (by decide) ?_
          refine lv_icmp_eq (tgt := 64) hx hb dX8_behaviours_58 (by decide) (fun c19 => ?_) (fun c19 => ?_)
          · have hg := if_t hg c19
            refine lv_aload_n hx hb dX8_behaviours_64 rfl (lv_at hl 0 rfl) ?_
            refine lv_iload hx hb dX8_behaviours_65 (lv_at hl 4 rfl) ?_
            obtain ⟨M21, q20, hg⟩ := bd_e hg hne
            refine w_callv (va_runV (As := [.int x13]) (rest := []) CX (ctX8_run l D sw cs ad (X ++ [(q7, .inl (cs.1, 16, .inl f17)), (q8, .inl (cs.1, 1280, .inl f11))]) H.size M9 x13 q20) (cwV 1 hts (gwV m5_195 m5_197 mp4_10 m1_7 m5_198) rfl rfl rfl (by decide +kernel) ⟨Nat.le_trans (Nat.le_of_ble_eq_true rfl) hR.1, Nat.le_trans (Nat.le_of_ble_eq_true rfl) hR.2⟩) (wPreV hSW hS hA hK hP hD (by decide) rfl rfl _) rfl rfl hl.1 rfl (lv_room (Nat.le_of_ble_eq_true rfl)) dX8_behaviours_67 ⟨Nat.le_trans (Nat.le_of_ble_eq_true rfl) hRc.1, Nat.le_trans (Nat.le_of_ble_eq_true rfl) hRc.2⟩) hD hS hA (fun H locs hP hD hS => ?_)
            refine lv_aload_n hx hb dX8_behaviours_70 rfl (lv_at hl 1 rfl) ?_
            refine lv_iload hx hb dX8_behaviours_71 (lv_at hl 4 rfl) ?_
            refine lv_aload_n hx hb dX8_behaviours_73 rfl (lv_at hl 0 rfl) ?_
            refine m_gi (C := RX8) (T := TX8) (n := 15) (ci := 6) hx hb hts in_RX8 hown hK hP (by decide) rfl rfl 13 (by decide) rfl lk_171 (fun _ h9 => h9) dX8_behaviours_74 ?_
            obtain ⟨b22, hg⟩ := ck_e hg hne
            obtain ⟨f23, hf23, hg⟩ := lt_e hg
            refine m_stX hx hb hK hP hD hS 0 rfl b22 dX8_behaviours_77 hf23 (fun H locs hP hD hS => ?_)
            have hP : va_P D vwCl (wl cs LM NM ad M21 ++ (X ++ [(q7, .inl (cs.1, 16, .inl f23)), (q8, .inl (cs.1, 1280, .inl f11))])) H := hP
            have hD : va_D A (wl cs LM NM ad M21 ++ (X ++ [(q7, .inl (cs.1, 16, .inl f23)), (q8, .inl (cs.1, 1280, .inl f11))])) := hD
            refine lv_iconst (v := 0) hx hb dX8_behaviours_78 (by decide) ?_
            refine lv_istore (lv' := [(5, .int (0 : Int32)), (0, .ref (ad 0)), (1, .ref q7), (2, .ref q8), (3, .int x12), (4, .int x13)]) hx hb dX8_behaviours_79 hl (by decide) rfl (fun ls hl => ?_)
            obtain ⟨E29, hE29, hg⟩ := lf5 hg
            have kE29 : ∀ (M24 : Mm) (f25 : Nat → Int32) (f26 : Nat → Int32) (x27 : Int32) (x28 : Int32) (H : Heap) (locs : List Loc) (ls : Array Slot), va_P D vwCl (wl cs LM NM ad M24 ++ (X ++ [(q7, .inl (cs.1, 16, .inl f25)), (q8, .inl (cs.1, 1280, .inl f26))])) H → va_D A (wl cs LM NM ad M24 ++ (X ++ [(q7, .inl (cs.1, 16, .inl f25)), (q8, .inl (cs.1, 1280, .inl f26))])) → va_S A s.heap H locs → lv_has ls 9 [(0, .ref (ad 0)), (1, .ref q7), (2, .ref q8), (3, .int x27), (4, .int x28)] → E29 M24 f25 f26 x27 x28 = res → W p l e R s m args below meth c H locs (((0 + 3) + 1) + 1) (((0 + 14) + 16) + 1280) Q (F0 m 113 ls []) := by
              intro M24 f25 f26 x27 x28 H locs ls hP hD hS hl hg
              rw [hE29] at hg
              refine lv_iconst (v := 1) hx hb dX8_behaviours_113 (by decide) ?_
              refine lv_istore (lv' := [(5, .int (1 : Int32)), (0, .ref (ad 0)), (1, .ref q7), (2, .ref q8), (3, .int x27), (4, .int x28)]) hx hb dX8_behaviours_114 hl (by decide) rfl (fun ls hl => ?_)
              refine lv_iconst (v := 0) hx hb dX8_behaviours_116 (by decide) ?_
              refine lv_istore (lv' := [(6, .int (0 : Int32)), (5, .int (1 : Int32)), (0, .ref (ad 0)), (1, .ref q7), (2, .ref q8), (3, .int x27), (4, .int x28)]) hx hb dX8_behaviours_117 hl (by decide) rfl (fun ls hl => ?_)
              obtain ⟨E36, hE36, hg⟩ := lf6 hg
              have kE36 : ∀ (M30 : Mm) (f31 : Nat → Int32) (f32 : Nat → Int32) (x33 : Int32) (x34 : Int32) (x35 : Int32) (H : Heap) (locs : List Loc) (ls : Array Slot), va_P D vwCl (wl cs LM NM ad M30 ++ (X ++ [(q7, .inl (cs.1, 16, .inl f31)), (q8, .inl (cs.1, 1280, .inl f32))])) H → va_D A (wl cs LM NM ad M30 ++ (X ++ [(q7, .inl (cs.1, 16, .inl f31)), (q8, .inl (cs.1, 1280, .inl f32))])) → va_S A s.heap H locs → lv_has ls 9 [(0, .ref (ad 0)), (1, .ref q7), (2, .ref q8), (3, .int x33), (4, .int x34), (5, .int x35)] → E36 M30 f31 f32 x33 x34 x35 = res → W p l e R s m args below meth c H locs (((0 + 3) + 1) + 1) (((0 + 14) + 16) + 1280) Q (F0 m 217 ls []) := by
                intro M30 f31 f32 x33 x34 x35 H locs ls hP hD hS hl hg
                rw [hE36] at hg
                refine lv_iload_n hx hb dX8_behaviours_217 rfl (lv_at hl 3 rfl) ?_
                refine lv_iload hx hb dX8_behaviours_218 (lv_at hl 5 rfl) ?_
                refine lv_if_eq (tgt := 227) hx hb dX8_behaviours_220 (by decide) (fun c37 => ?_) (fun c37 => ?_)
                · have hg := if_t hg c37
                  refine lv_iconst (v := 0) hx hb dX8_behaviours_227 (by decide) ?_
                  refine lv_iadd hx hb dX8_behaviours_228 ?_
                  refine lv_istore_n (lv' := [(3, .int (x33 + (0 : Int32))), (0, .ref (ad 0)), (1, .ref q7), (2, .ref q8), (4, .int x34), (5, .int x35)]) hx hb dX8_behaviours_229 rfl hl (by decide) rfl (fun ls hl => ?_)
                  obtain ⟨x38, hx38, hg⟩ := lt_e hg
                  refine lv_iinc (v := x38) (lv' := [(4, .int x38), (3, .int (x33 + (0 : Int32))), (0, .ref (ad 0)), (1, .ref q7), (2, .ref q8), (5, .int x35)]) hx hb dX8_behaviours_230 hl (k := 4) rfl (hx38.symm) (by decide) rfl (fun ls hl => ?_)
                  refine lv_goto (tgt := 38) hx hb dX8_behaviours_233 (by decide) ?_
                  exact ih _ _ _ _ _ _ _ _ hP hD hS (lv_sub hl [2, 3, 4, 1, 0] rfl) hg
                · have hg := if_f hg c37
                  refine lv_iconst (v := 1) hx hb dX8_behaviours_223 (by decide) ?_
                  refine lv_goto (tgt := 228) hx hb dX8_behaviours_224 (by decide) ?_
                  refine lv_iadd hx hb dX8_behaviours_228 ?_
                  refine lv_istore_n (lv' := [(3, .int (x33 + (1 : Int32))), (0, .ref (ad 0)), (1, .ref q7), (2, .ref q8), (4, .int x34), (5, .int x35)]) hx hb dX8_behaviours_229 rfl hl (by decide) rfl (fun ls hl => ?_)
                  obtain ⟨x39, hx39, hg⟩ := lt_e hg
                  refine lv_iinc (v := x39) (lv' := [(4, .int x39), (3, .int (x33 + (1 : Int32))), (0, .ref (ad 0)), (1, .ref q7), (2, .ref q8), (5, .int x35)]) hx hb dX8_behaviours_230 hl (k := 4) rfl (hx39.symm) (by decide) rfl (fun ls hl => ?_)
                  refine lv_goto (tgt := 38) hx hb dX8_behaviours_233 (by decide) ?_
                  exact ih _ _ _ _ _ _ _ _ hP hD hS (lv_sub hl [2, 3, 4, 1, 0] rfl) hg
              have kL119_88 : ∀ (n47 : Nat) (M40 : Mm) (f41 : Nat → Int32) (f42 : Nat → Int32) (x43 : Int32) (x44 : Int32) (x45 : Int32) (x46 : Int32) (H : Heap) (locs : List Loc) (ls : Array Slot), va_P D vwCl (wl cs LM NM ad M40 ++ (X ++ [(q7, .inl (cs.1, 16, .inl f41)), (q8, .inl (cs.1, 1280, .inl f42))])) H → va_D A (wl cs LM NM ad M40 ++ (X ++ [(q7, .inl (cs.1, 16, .inl f41)), (q8, .inl (cs.1, 1280, .inl f42))])) → va_S A s.heap H locs → lv_has ls 9 [(0, .ref (ad 0)), (1, .ref q7), (2, .ref q8), (3, .int x43), (4, .int x44), (5, .int x45), (6, .int x46)] → gX8_behaviours_L119 E36 n47 M40 f41 f42 x43 x44 x45 x46 = res → W p l e R s m args below meth c H locs (((0 + 3) + 1) + 1) (((0 + 14) + 16) + 1280) Q (F0 m 119 ls []) := by
                intro n47
                induction n47 with
                | zero =>
                  intro M40 f41 f42 x43 x44 x45 x46 H locs ls hP hD hS hl hg
                  rw [gX8_behaviours_L119] at hg
                  exact absurd hg.symm hne
                | succ n47 ih =>
                  intro M40 f41 f42 x43 x44 x45 x46 H locs ls hP hD hS hl hg
                  rw [gX8_behaviours_L119] at hg
                  refine lv_iload hx hb dX8_behaviours_119 (lv_at hl 6 rfl) ?_
                  refine lv_iload hx hb dX8_behaviours_121 (lv_at hl 4 rfl) ?_
                  refine lv_icmp_ge (tgt := 217) hx hb dX8_behaviours_123 (by decide) (fun c48 => ?_) (fun c48 => ?_)
                  · have hg := if_t hg c48
                    exact kE36 _ _ _ _ _ _ _ _ _ hP hD hS (lv_sub hl [0, 1, 2, 3, 4, 5] rfl) hg
                  · have hg := if_f hg c48
                    refine lv_iload hx hb dX8_behaviours_126 (lv_at hl 5 rfl) ?_
                    refine lv_if_eq (tgt := 217) hx hb dX8_behaviours_128 (by decide) (fun c49 => ?_) (fun c49 => ?_)
                    · have hg := if_t hg c49
                      exact kE36 _ _ _ _ _ _ _ _ _ hP hD hS (lv_sub hl [0, 1, 2, 3, 4, 5] rfl) hg
                    · have hg := if_f hg c49
                      refine lv_aload_n hx hb dX8_behaviours_131 rfl (lv_at hl 1 rfl) ?_
                      refine lv_iload hx hb dX8_behaviours_132 (lv_at hl 6 rfl) ?_
                      obtain ⟨b50, hg⟩ := ck_e hg hne
                      refine m_ldX hx hb hK hP 0 rfl b50 dX8_behaviours_134 ?_
                      refine lv_aload_n hx hb dX8_behaviours_135 rfl (lv_at hl 0 rfl) ?_
                      refine m_gi (C := RX8) (T := TX8) (n := 15) (ci := 6) hx hb hts in_RX8 hown hK hP (by decide) rfl rfl 13 (by decide) rfl lk_171 (fun _ h9 => h9) dX8_behaviours_136 ?_
                      obtain ⟨J59, hJ59, hg⟩ := lf7 hg
                      have kJ59 : ∀ (M52 : Mm) (f53 : Nat → Int32) (f54 : Nat → Int32) (x55 : Int32) (x56 : Int32) (x57 : Int32) (s58 : Int32) (H : Heap) (locs : List Loc) (ls : Array Slot), va_P D vwCl (wl cs LM NM ad M52 ++ (X ++ [(q7, .inl (cs.1, 16, .inl f53)), (q8, .inl (cs.1, 1280, .inl f54))])) H → va_D A (wl cs LM NM ad M52 ++ (X ++ [(q7, .inl (cs.1, 16, .inl f53)), (q8, .inl (cs.1, 1280, .inl f54))])) → va_S A s.heap H locs → lv_has ls 9 [(0, .ref (ad 0)), (1, .ref q7), (2, .ref q8), (3, .int x55), (4, .int x56), (6, .int x57)] → J59 M52 f53 f54 x55 x56 x57 s58 = res → W p l e R s m args below meth c H locs (((0 + 3) + 1) + 1) (((0 + 14) + 16) + 1280) Q (F0 m 147 ls [.int s58]) := by
                        intro M52 f53 f54 x55 x56 x57 s58 H locs ls hP hD hS hl hg
                        rw [hJ59] at hg
                        refine lv_istore (lv' := [(7, .int s58), (0, .ref (ad 0)), (1, .ref q7), (2, .ref q8), (3, .int x55), (4, .int x56), (6, .int x57)]) hx hb dX8_behaviours_147 hl (by decide) rfl (fun ls hl => ?_)
                        refine lv_iconst (v := 0) hx hb dX8_behaviours_149 (by decide) ?_
                        refine lv_istore (lv' := [(8, .int (0 : Int32)), (7, .int s58), (0, .ref (ad 0)), (1, .ref q7), (2, .ref q8), (3, .int x55), (4, .int x56), (6, .int x57)]) hx hb dX8_behaviours_150 hl (by decide) rfl (fun ls hl => ?_)
                        obtain ⟨E67, hE67, hg⟩ := lf7 hg
                        have kE67 : ∀ (M60 : Mm) (f61 : Nat → Int32) (f62 : Nat → Int32) (x63 : Int32) (x64 : Int32) (x65 : Int32) (x66 : Int32) (H : Heap) (locs : List Loc) (ls : Array Slot), va_P D vwCl (wl cs LM NM ad M60 ++ (X ++ [(q7, .inl (cs.1, 16, .inl f61)), (q8, .inl (cs.1, 1280, .inl f62))])) H → va_D A (wl cs LM NM ad M60 ++ (X ++ [(q7, .inl (cs.1, 16, .inl f61)), (q8, .inl (cs.1, 1280, .inl f62))])) → va_S A s.heap H locs → lv_has ls 9 [(0, .ref (ad 0)), (1, .ref q7), (2, .ref q8), (3, .int x63), (4, .int x64), (6, .int x65), (7, .int x66)] → E67 M60 f61 f62 x63 x64 x65 x66 = res → W p l e R s m args below meth c H locs (((0 + 3) + 1) + 1) (((0 + 14) + 16) + 1280) Q (F0 m 199 ls []) := by
                          intro M60 f61 f62 x63 x64 x65 x66 H locs ls hP hD hS hl hg
                          rw [hE67] at hg
                          refine lv_iload hx hb dX8_behaviours_199 (lv_at hl 6 rfl) ?_
                          refine lv_if_ne (tgt := 208) hx hb dX8_behaviours_201 (by decide) (fun c68 => ?_) (fun c68 => ?_)
                          · have hg := if_f hg c68
                            refine lv_iconst (v := 0) hx hb dX8_behaviours_208 (by decide) ?_
                            refine lv_istore (lv' := [(5, .int (0 : Int32)), (0, .ref (ad 0)), (1, .ref q7), (2, .ref q8), (3, .int x63), (4, .int x64), (6, .int x65), (7, .int x66)]) hx hb dX8_behaviours_209 hl (by decide) rfl (fun ls hl => ?_)
                            obtain ⟨x69, hx69, hg⟩ := lt_e hg
                            refine lv_iinc (v := x69) (lv' := [(6, .int x69), (5, .int (0 : Int32)), (0, .ref (ad 0)), (1, .ref q7), (2, .ref q8), (3, .int x63), (4, .int x64), (7, .int x66)]) hx hb dX8_behaviours_211 hl (k := 6) rfl (hx69.symm) (by decide) rfl (fun ls hl => ?_)
                            refine lv_goto (tgt := 119) hx hb dX8_behaviours_214 (by decide) ?_
                            exact ih _ _ _ _ _ _ _ _ _ _ hP hD hS (lv_sub hl [2, 3, 4, 5, 6, 1, 0] rfl) hg
                          · have hg := if_t hg c68
                            refine lv_iconst (v := 1) hx hb dX8_behaviours_204 (by decide) ?_
                            refine lv_goto (tgt := 209) hx hb dX8_behaviours_205 (by decide) ?_
                            refine lv_istore (lv' := [(5, .int (1 : Int32)), (0, .ref (ad 0)), (1, .ref q7), (2, .ref q8), (3, .int x63), (4, .int x64), (6, .int x65), (7, .int x66)]) hx hb dX8_behaviours_209 hl (by decide) rfl (fun ls hl => ?_)
                            obtain ⟨x70, hx70, hg⟩ := lt_e hg
                            refine lv_iinc (v := x70) (lv' := [(6, .int x70), (5, .int (1 : Int32)), (0, .ref (ad 0)), (1, .ref q7), (2, .ref q8), (3, .int x63), (4, .int x64), (7, .int x66)]) hx hb dX8_behaviours_211 hl (k := 6) rfl (hx70.symm) (by decide) rfl (fun ls hl => ?_)
                            refine lv_goto (tgt := 119) hx hb dX8_behaviours_214 (by decide) ?_
                            exact ih _ _ _ _ _ _ _ _ _ _ hP hD hS (lv_sub hl [2, 3, 4, 5, 6, 1, 0] rfl) hg
                        have kL152_87 : ∀ (n79 : Nat) (M71 : Mm) (f72 : Nat → Int32) (f73 : Nat → Int32) (x74 : Int32) (x75 : Int32) (x76 : Int32) (x77 : Int32) (x78 : Int32) (H : Heap) (locs : List Loc) (ls : Array Slot), va_P D vwCl (wl cs LM NM ad M71 ++ (X ++ [(q7, .inl (cs.1, 16, .inl f72)), (q8, .inl (cs.1, 1280, .inl f73))])) H → va_D A (wl cs LM NM ad M71 ++ (X ++ [(q7, .inl (cs.1, 16, .inl f72)), (q8, .inl (cs.1, 1280, .inl f73))])) → va_S A s.heap H locs → lv_has ls 9 [(0, .ref (ad 0)), (1, .ref q7), (2, .ref q8), (3, .int x74), (4, .int x75), (6, .int x76), (7, .int x77), (8, .int x78)] → gX8_behaviours_L152 E67 n79 M71 f72 f73 x74 x75 x76 x77 x78 = res → W p l e R s m args below meth c H locs (((0 + 3) + 1) + 1) (((0 + 14) + 16) + 1280) Q (F0 m 152 ls []) := by
                          intro n79
                          induction n79 with
                          | zero =>
                            intro M71 f72 f73 x74 x75 x76 x77 x78 H locs ls hP hD hS hl hg
                            rw [gX8_behaviours_L152] at hg
                            exact absurd hg.symm hne
                          | succ n79 ih =>
                            intro M71 f72 f73 x74 x75 x76 x77 x78 H locs ls hP hD hS hl hg
                            rw [gX8_behaviours_L152] at hg
                            refine lv_iload hx hb dX8_behaviours_152 (lv_at hl 7 rfl) ?_
                            refine lv_aload_n hx hb dX8_behaviours_154 rfl (lv_at hl 0 rfl) ?_
                            refine m_gi (C := RX8) (T := TX8) (n := 15) (ci := 6) hx hb hts in_RX8 hown hK hP (by decide) rfl rfl 13 (by decide) rfl lk_171 (fun _ h9 => h9) dX8_behaviours_155 ?_
                            refine lv_icmp_ge (tgt := 199) hx hb dX8_behaviours_158 (by decide) (fun c80 => ?_) (fun c80 => ?_)
                            · have hg := if_t hg c80
                              exact kE67 _ _ _ _ _ _ _ _ _ _ hP hD hS (lv_sub hl [0, 1, 2, 3, 4, 5, 6] rfl) hg
                            · have hg := if_f hg c80
                              refine lv_iload hx hb dX8_behaviours_161 (lv_at hl 6 rfl) ?_
                              refine lv_if_eq (tgt := 199) hx hb dX8_behaviours_163 (by decide) (fun c81 => ?_) (fun c81 => ?_)
                              · have hg := if_t hg c81
                                exact kE67 _ _ _ _ _ _ _ _ _ _ hP hD hS (lv_sub hl [0, 1, 2, 3, 4, 5, 6] rfl) hg
                              · have hg := if_f hg c81
                                refine lv_aload_n hx hb dX8_behaviours_166 rfl (lv_at hl 2 rfl) ?_
                                refine lv_bipush (v := 80) hx hb dX8_behaviours_167 (by decide) ?_
                                refine lv_iload hx hb dX8_behaviours_169 (lv_at hl 5 rfl) ?_
                                refine lv_imul hx hb dX8_behaviours_171 ?_
                                refine lv_iload hx hb dX8_behaviours_172 (lv_at hl 7 rfl) ?_
                                refine lv_iadd hx hb dX8_behaviours_174 ?_
                                obtain ⟨b82, hg⟩ := ck_e hg hne
                                refine m_ldX hx hb hK hP 1 rfl b82 dX8_behaviours_175 ?_
                                refine lv_aload_n hx hb dX8_behaviours_176 rfl (lv_at hl 0 rfl) ?_
                                refine m_gr (C := RX8) (T := TX8) (n := 15) (ci := 6) hx hb hts in_RX8 hown hK hP (by decide) rfl rfl 14 (by decide) rfl lk_40 (fun _ h9 => h9) dX8_behaviours_177 ?_
                                refine lv_iload hx hb dX8_behaviours_180 (lv_at hl 7 rfl) ?_
                                obtain ⟨b83, hg⟩ := ck_e hg hne
                                refine m_ld hx hb hK hP (by decide) rfl b83 dX8_behaviours_182 ?_
                                refine lv_icmp_ne (tgt := 190) hx hb dX8_behaviours_183 (by decide) (fun c84 => ?_) (fun c84 => ?_)
                                · have hg := if_f hg c84
                                  refine lv_iconst (v := 0) hx hb dX8_behaviours_190 (by decide) ?_
                                  refine lv_istore (lv' := [(7, .int (0 : Int32)), (0, .ref (ad 0)), (1, .ref q7), (2, .ref q8), (3, .int x74), (4, .int x75), (6, .int x76), (8, .int x78)]) hx hb dX8_behaviours_191 hl (by decide) rfl (fun ls hl => ?_)
                                  obtain ⟨x85, hx85, hg⟩ := lt_e hg
                                  refine lv_iinc (v := x85) (lv' := [(8, .int x85), (7, .int (0 : Int32)), (0, .ref (ad 0)), (1, .ref q7), (2, .ref q8), (3, .int x74), (4, .int x75), (6, .int x76)]) hx hb dX8_behaviours_193 hl (k := 7) rfl (hx85.symm) (by decide) rfl (fun ls hl => ?_)
                                  refine lv_goto (tgt := 152) hx hb dX8_behaviours_196 (by decide) ?_
                                  exact ih _ _ _ _ _ _ _ _ _ _ _ hP hD hS (lv_sub hl [2, 3, 4, 5, 6, 7, 1, 0] rfl) hg
                                · have hg := if_t hg c84
                                  refine lv_iconst (v := 1) hx hb dX8_behaviours_186 (by decide) ?_
                                  refine lv_goto (tgt := 191) hx hb dX8_behaviours_187 (by decide) ?_
                                  refine lv_istore (lv' := [(7, .int (1 : Int32)), (0, .ref (ad 0)), (1, .ref q7), (2, .ref q8), (3, .int x74), (4, .int x75), (6, .int x76), (8, .int x78)]) hx hb dX8_behaviours_191 hl (by decide) rfl (fun ls hl => ?_)
                                  obtain ⟨x86, hx86, hg⟩ := lt_e hg
                                  refine lv_iinc (v := x86) (lv' := [(8, .int x86), (7, .int (1 : Int32)), (0, .ref (ad 0)), (1, .ref q7), (2, .ref q8), (3, .int x74), (4, .int x75), (6, .int x76)]) hx hb dX8_behaviours_193 hl (k := 7) rfl (hx86.symm) (by decide) rfl (fun ls hl => ?_)
                                  refine lv_goto (tgt := 152) hx hb dX8_behaviours_196 (by decide) ?_
                                  exact ih _ _ _ _ _ _ _ _ _ _ _ hP hD hS (lv_sub hl [2, 3, 4, 5, 6, 7, 1, 0] rfl) hg
                        exact kL152_87 FU _ _ _ _ _ _ _ _ _ _ _ hP hD hS (lv_sub hl [2, 3, 4, 5, 6, 7, 1, 0] rfl) hg
                      refine lv_icmp_ne (tgt := 146) hx hb dX8_behaviours_139 (by decide) (fun c51 => ?_) (fun c51 => ?_)
                      · have hg := if_f hg c51
                        refine lv_iconst (v := 0) hx hb dX8_behaviours_146 (by decide) ?_
                        exact kJ59 _ _ _ _ _ _ _ _ _ _ hP hD hS (lv_sub hl [0, 1, 2, 3, 4, 6] rfl) hg
                      · have hg := if_t hg c51
                        refine lv_iconst (v := 1) hx hb dX8_behaviours_142 (by decide) ?_
                        refine lv_goto (tgt := 147) hx hb dX8_behaviours_143 (by decide) ?_
                        exact kJ59 _ _ _ _ _ _ _ _ _ _ hP hD hS (lv_sub hl [0, 1, 2, 3, 4, 6] rfl) hg
              exact kL119_88 FU _ _ _ _ _ _ _ _ _ _ hP hD hS (lv_sub hl [2, 3, 4, 5, 6, 1, 0] rfl) hg
            have kL81_101 : ∀ (n95 : Nat) (M89 : Mm) (f90 : Nat → Int32) (f91 : Nat → Int32) (x92 : Int32) (x93 : Int32) (x94 : Int32) (H : Heap) (locs : List Loc) (ls : Array Slot), va_P D vwCl (wl cs LM NM ad M89 ++ (X ++ [(q7, .inl (cs.1, 16, .inl f90)), (q8, .inl (cs.1, 1280, .inl f91))])) H → va_D A (wl cs LM NM ad M89 ++ (X ++ [(q7, .inl (cs.1, 16, .inl f90)), (q8, .inl (cs.1, 1280, .inl f91))])) → va_S A s.heap H locs → lv_has ls 9 [(0, .ref (ad 0)), (1, .ref q7), (2, .ref q8), (3, .int x92), (4, .int x93), (5, .int x94)] → gX8_behaviours_L81 E29 n95 M89 f90 f91 x92 x93 x94 = res → W p l e R s m args below meth c H locs (((0 + 3) + 1) + 1) (((0 + 14) + 16) + 1280) Q (F0 m 81 ls []) := by
              intro n95
              induction n95 with
              | zero =>
                intro M89 f90 f91 x92 x93 x94 H locs ls hP hD hS hl hg
                rw [gX8_behaviours_L81] at hg
                exact absurd hg.symm hne
              | succ n95 ih =>
                intro M89 f90 f91 x92 x93 x94 H locs ls hP hD hS hl hg
                rw [gX8_behaviours_L81] at hg
                refine lv_iload hx hb dX8_behaviours_81 (lv_at hl 5 rfl) ?_
                refine lv_aload_n hx hb dX8_behaviours_83 rfl (lv_at hl 0 rfl) ?_
                refine m_gi (C := RX8) (T := TX8) (n := 15) (ci := 6) hx hb hts in_RX8 hown hK hP (by decide) rfl rfl 13 (by decide) rfl lk_171 (fun _ h9 => h9) dX8_behaviours_84 ?_
                refine lv_icmp_ge (tgt := 113) hx hb dX8_behaviours_87 (by decide) (fun c96 => ?_) (fun c96 => ?_)
                · have hg := if_t hg c96
                  exact kE29 _ _ _ _ _ _ _ _ hP hD hS (lv_sub hl [0, 1, 2, 3, 4] rfl) hg
                · have hg := if_f hg c96
                  refine lv_aload_n hx hb dX8_behaviours_90 rfl (lv_at hl 2 rfl) ?_
                  refine lv_bipush (v := 80) hx hb dX8_behaviours_91 (by decide) ?_
                  refine lv_iload hx hb dX8_behaviours_93 (lv_at hl 4 rfl) ?_
                  refine lv_imul hx hb dX8_behaviours_95 ?_
                  refine lv_iload hx hb dX8_behaviours_96 (lv_at hl 5 rfl) ?_
                  refine lv_iadd hx hb dX8_behaviours_98 ?_
                  refine lv_aload_n hx hb dX8_behaviours_99 rfl (lv_at hl 0 rfl) ?_
                  refine m_gr (C := RX8) (T := TX8) (n := 15) (ci := 6) hx hb hts in_RX8 hown hK hP (by decide) rfl rfl 14 (by decide) rfl lk_40 (fun _ h9 => h9) dX8_behaviours_100 ?_
                  refine lv_iload hx hb dX8_behaviours_103 (lv_at hl 5 rfl) ?_
                  obtain ⟨b97, hg⟩ := ck_e hg hne
                  refine m_ld hx hb hK hP (by decide) rfl b97 dX8_behaviours_105 ?_
                  obtain ⟨b98, hg⟩ := ck_e hg hne
                  obtain ⟨f99, hf99, hg⟩ := lt_e hg
                  refine m_stX hx hb hK hP hD hS 1 rfl b98 dX8_behaviours_106 hf99 (fun H locs hP hD hS => ?_)
                  have hP : va_P D vwCl (wl cs LM NM ad M89 ++ (X ++ [(q7, .inl (cs.1, 16, .inl f90)), (q8, .inl (cs.1, 1280, .inl f99))])) H := hP
                  have hD : va_D A (wl cs LM NM ad M89 ++ (X ++ [(q7, .inl (cs.1, 16, .inl f90)), (q8, .inl (cs.1, 1280, .inl f99))])) := hD
                  obtain ⟨x100, hx100, hg⟩ := lt_e hg
                  refine lv_iinc (v := x100) (lv' := [(5, .int x100), (0, .ref (ad 0)), (1, .ref q7), (2, .ref q8), (3, .int x92), (4, .int x93)]) hx hb dX8_behaviours_107 hl (k := 5) rfl (hx100.symm) (by decide) rfl (fun ls hl => ?_)
                  refine lv_goto (tgt := 81) hx hb dX8_behaviours_110 (by decide) ?_
                  exact ih _ _ _ _ _ _ _ _ _ hP hD hS (lv_sub hl [1, 2, 3, 4, 5, 0] rfl) hg
            exact kL81_101 FU _ _ _ _ _ _ _ _ _ hP hD hS (lv_sub hl [1, 2, 3, 4, 5, 0] rfl) hg
          · have hg := if_f hg c19
            refine lv_goto (tgt := 230) hx hb dX8_behaviours_61 (by decide) ?_
            obtain ⟨x102, hx102, hg⟩ := lt_e hg
            refine lv_iinc (v := x102) (lv' := [(4, .int x102), (0, .ref (ad 0)), (1, .ref q7), (2, .ref q8), (3, .int x12)]) hx hb dX8_behaviours_230 hl (k := 4) rfl (hx102.symm) (by decide) rfl (fun ls hl => ?_)
            refine lv_goto (tgt := 38) hx hb dX8_behaviours_233 (by decide) ?_
            exact ih _ _ _ _ _ _ _ _ hP hD hS (lv_sub hl [1, 2, 3, 4, 0] rfl) hg
    exact kL38_103 FU _ _ _ _ _ _ _ _ hP hD hS (lv_sub hl [4, 3, 2, 1, 0] rfl) hg
  · have hg := if_t hg c4
    refine lv_aload_n hx hb dX8_behaviours_12 rfl (lv_at hl 0 rfl) ?_
    refine lv_iconst (v := 1) hx hb dX8_behaviours_13 (by decide) ?_
    obtain ⟨r106, M105, q104, hg⟩ := bd2_e hg hne
    refine w_calli (va_runV (As := [.int (1 : Int32)]) (rest := []) CX (ctX8_no l D sw cs ad X H.size M1 (1 : Int32) q104) (cwV 1 hts (gwV m4_232 m4_234 mp3_4 m1_7 m4_235) rfl rfl rfl (by decide +kernel) ⟨Nat.le_trans (Nat.le_of_ble_eq_true rfl) hR.1, Nat.le_trans (Nat.le_of_ble_eq_true rfl) hR.2⟩) (wPreV hSW hS hA hK hP hD (by decide) rfl rfl _) rfl rfl hl.1 rfl (lv_room (Nat.le_of_ble_eq_true rfl)) dX8_behaviours_14 ⟨Nat.zero_le _, Nat.zero_le _⟩) hD hS hA (fun H locs hP hD hS => ?_)
    refine W.widen (k := 5) (n := 1310) (by decide) (by decide) ?_
    exact hret _ _ _ _ _ _ hg dX8_behaviours_17 hP hD hS
theorem ctX8_behaviours (l : Launch) (D : va_G) (sw : Sw) (cs : Cs) (ad : Nat → Nat) (X : va_W) (sz : Nat) (M : Mm) {r : Int32} {M1 : Mm} (hq : gX8_behaviours M = some (r, M1)) : Met l yX8_behaviours wsX8_behaviours ({ frames := 804, cells := 5, slots := 1310, locals := 19290 }) (va_Pc [.ref (ad 0)] (wPre D sw cs LM NM ad M X sz)) (wQi D cs LM NM ad M1 X sz r) 5 1310 (wA NM ad X sz) :=
  met_w rfl rfl (Nat.le_of_ble_eq_true rfl) (fun p e s m args below meth c ls CX hr hlk hK hSW hP hD hS hA hl => bX8_behaviours M hq (by simp) CX ⟨Nat.le_refl _, Nat.le_refl _⟩ hK hSW hP hD hS hA ⟨Nat.le_refl _, Nat.le_refl _⟩ hl (fun pc ls H locs v M9 hv dg hP hD hS => W.iret CX.1 CX.2.1 hr (fun t ht hW => ⟨⟨_, (), rfl, (Prod.mk.inj (Option.some.inj hv)).1, wpost hP ht (Prod.mk.inj (Option.some.inj hv)).2⟩, hS.F ht⟩) hS.2.2 dg))

abbrev wsX8_digest : List Cond := Cond.code yX8_digest cX8_digest 5 (some .long) :: WG
def gX8_digest_L129 (E28 : Mm → Int64 → Int32 → Option (Int64 × Mm)) : Nat → Mm → Int64 → Int32 → Int32 → Option (Int64 × Mm)
  | 0, _, _, _, _ => none
  | n34 + 1, M30, x31, x32, x33 => if (M30 0 13) ≤ x33 then (E28 M30 x31 x32) else if (x33 < 0 ∨ 80 ≤ (x33).toNatClampNeg) then none else lt ((x31 * (31 : Int64)) + (((M30 11 (x33).toNatClampNeg)).toInt64)) fun x37 => lt (x33 + (1 : Int32)) fun x38 => gX8_digest_L129 E28 n34 M30 x37 x32 x38
def gX8_digest_L76 : Nat → Mm → Int64 → Int32 → Option (Int64 × Mm)
  | 0, _, _, _ => none
  | n16 + 1, M13, x14, x15 => if (16 : Int32) ≤ x15 then (some (x14, M13)) else if (x15 < 0 ∨ 16 ≤ (x15).toNatClampNeg) then none else lt ((x14 * (31 : Int64)) + (((M13 6 (x15).toNatClampNeg)).toInt64)) fun x19 => if (x15 < 0 ∨ 16 ≤ (x15).toNatClampNeg) then none else if (M13 6 (x15).toNatClampNeg) = (-1 : Int32) then (bd (gX8_run M13 x15) fun M23 => lt ((x19 * (31 : Int64)) + (((M23 0 13)).toInt64)) fun x24 => lt (fun (M25 : Mm) (x26 : Int64) (x27 : Int32) => lt (x27 + (1 : Int32)) fun x29 => gX8_digest_L76 n16 M25 x26 x29) fun E28 => gX8_digest_L129 E28 FU M23 x24 x15 (0 : Int32)) else lt (x15 + (1 : Int32)) fun x40 => gX8_digest_L76 n16 M13 x19 x40
def gX8_digest_L21 (E7 : Mm → Int64 → Option (Int64 × Mm)) : Nat → Mm → Int64 → Int32 → Option (Int64 × Mm)
  | 0, _, _, _ => none
  | n45 + 1, M42, x43, x44 => if (M42 0 1) ≤ x44 then (E7 M42 x43) else if (x44 < 0 ∨ 80 ≤ (x44).toNatClampNeg) then none else if (x44 < 0 ∨ 80 ≤ (x44).toNatClampNeg) then none else lt ((((x43 * (31 : Int64)) + (((M42 1 (x44).toNatClampNeg)).toInt64)) * (31 : Int64)) + (((M42 2 (x44).toNatClampNeg)).toInt64)) fun x49 => lt (x44 + (1 : Int32)) fun x50 => gX8_digest_L21 E7 n45 M42 x49 x50
def gX8_digest (M : Mm) : Option (Int64 × Mm) := lt (um M 0 0 (0 : Int32)) fun M1 => bd (gX8_look M1 ) fun M3 => lt ((4309 : Int64) + (((M3 0 1)).toInt64)) fun x4 => lt (fun (M5 : Mm) (x6 : Int64) => bd (gX8_isWhole M5 ) fun r8 => if r8 = 0 then (some (x6, M5)) else bd (gX8_read M5 ) fun M12 => gX8_digest_L76 FU M12 x6 (0 : Int32)) fun E7 => gX8_digest_L21 E7 FU M3 x4 (0 : Int32)
set_option maxHeartbeats 4000000 in
set_option maxRecDepth 100000 in
theorem bX8_digest {p : Program} {l : Launch} {e : Env} {R : Room} {s : State} {m : MethodId} {args : Array Value} {below : List Frame} {meth : Method} {c : Code} {H : Heap} {locs : List Loc} {Q : State → Prop} {D : va_G} {sw : Sw} {cs : Cs} {ad : Nat → Nat} {X : va_W} {A : Nat → Prop} (M : Mm) {res : Option (Int64 × Mm)} (hg : gX8_digest M = res) (hne : res ≠ none) (CX : CallFix p m c cX8_digest 5 s args wsX8_digest RX8) (hR : 804 ≤ R.frames ∧ 19290 ≤ R.locals) (hK : va_K D vwCl (tysC cs) s) (hSW : SW sw A s s.heap) (hP : va_P D vwCl (wl cs LM NM ad M ++ X) H) (hD : va_D A (wl cs LM NM ad M ++ X)) (hS : va_S A s.heap H locs) (hA : ∀ q, s.heap.size ≤ q → A q) (hRc : 6 ≤ R.cells ∧ 28 ≤ R.slots) {ls : Array Slot} (hl : lv_has ls 5 [(0, .ref (ad 0))]) (hret : ∀ (pc : Nat) (ls : Array Slot) (H : Heap) (locs : List Loc) (v : Int64) (M9 : Mm), some (v, M9) = res → decode cX8_digest pc = .ok (.lreturn, 1) → va_P D vwCl (wl cs LM NM ad M9 ++ X) H → va_D A (wl cs LM NM ad M9 ++ X) → va_S A s.heap H locs → W p l e R s m args below meth c H locs 6 28 Q (F0 m pc ls [.long v])) : W p l e R s m args below meth c H locs 0 0 Q (F0 m 0 ls []) := by
  obtain ⟨hx, hb, hml, hown, hts⟩ := id CX
  have hw : ∀ w ∈ WG, w.before args s = true := fun w h => hts w (List.mem_cons_of_mem _ h)
  have lk_43 := hw _ m4_116
  have lk_181 := hw _ m5_235
  have lk_47 := hw _ m4_117
  have lk_183 := hw _ m5_236
  have lk_25 := hw _ m4_123
  have lk_171 := hw _ m4_129
  have lk_40 := hw _ m4_130
  have lk_9 := hw _ m4_118
  have lk_13 := hw _ m4_119
  unfold gX8_digest at hg
  refine lv_aload_n hx hb dX8_digest_0 rfl (lv_at hl 0 rfl) ?_
  refine lv_iconst (v := 0) hx hb dX8_digest_1 (by decide) ?_
  obtain ⟨M1, hM1, hg⟩ := lt_e hg
  refine m_pi (C := RX8) (T := TX8) (n := 15) (ci := 6) hx hb hts in_RX8 tyX8 tyX8_ok nmX8 hown hK hP hD hS (by decide) rfl rfl 0 (by decide) rfl lk_43 (fun _ h9 => h9) rfl rfl rfl dX8_digest_2 hM1 (fun H locs hP hD hS => ?_)
  refine lv_aload_n hx hb dX8_digest_5 rfl (lv_at hl 0 rfl) ?_
  obtain ⟨M3, q2, hg⟩ := bd_e hg hne
  refine w_callv (va_runV (As := []) (rest := []) CX (ctX8_look l D sw cs ad X H.size M1  q2) (cwV 0 hts (gwV m5_66 m5_68 mp3_11 m1_7 m5_69) rfl rfl rfl (by decide +kernel) ⟨Nat.le_trans (Nat.le_of_ble_eq_true rfl) hR.1, Nat.le_trans (Nat.le_of_ble_eq_true rfl) hR.2⟩) (wPreV hSW hS hA hK hP hD (by decide) rfl rfl _) rfl rfl hl.1 rfl (lv_room (Nat.le_of_ble_eq_true rfl)) dX8_digest_6 ⟨Nat.le_trans (Nat.le_of_ble_eq_true rfl) hRc.1, Nat.le_trans (Nat.le_of_ble_eq_true rfl) hRc.2⟩) hD hS hA (fun H locs hP hD hS => ?_)
  refine lv_ldc2 (v := 4309) hx hb hown lk_181 dX8_digest_9 ?_
  refine lv_aload_n hx hb dX8_digest_12 rfl (lv_at hl 0 rfl) ?_
  refine m_gi (C := RX8) (T := TX8) (n := 15) (ci := 6) hx hb hts in_RX8 hown hK hP (by decide) rfl rfl 1 (by decide) rfl lk_47 (fun _ h9 => h9) dX8_digest_13 ?_
  refine lv_i2l hx hb dX8_digest_16 rfl ?_
  refine lv_ladd hx hb dX8_digest_17 ?_
  obtain ⟨x4, hx4, hg⟩ := lt_e hg
  refine top_l hx4 ?_
  refine lv_lstore_n (lv' := [(1, .long x4), (0, .ref (ad 0))]) hx hb dX8_digest_18 rfl hl (by decide) rfl (fun ls hl => ?_)
  refine lv_iconst (v := 0) hx hb dX8_digest_19 (by decide) ?_
  refine lv_istore_n (lv' := [(3, .int (0 : Int32)), (1, .long x4), (0, .ref (ad 0))]) hx hb dX8_digest_20 rfl hl (by decide) rfl (fun ls hl => ?_)
  obtain ⟨E7, hE7, hg⟩ := lf2 hg
  have kE7 : ∀ (M5 : Mm) (x6 : Int64) (H : Heap) (locs : List Loc) (ls : Array Slot), va_P D vwCl (wl cs LM NM ad M5 ++ X) H → va_D A (wl cs LM NM ad M5 ++ X) → va_S A s.heap H locs → lv_has ls 5 [(0, .ref (ad 0)), (1, .long x6)] → E7 M5 x6 = res → W p l e R s m args below meth c H locs (0 + 3) (0 + 14) Q (F0 m 61 ls []) := by
    intro M5 x6 H locs ls hP hD hS hl hg
    rw [hE7] at hg
    refine lv_aload_n hx hb dX8_digest_61 rfl (lv_at hl 0 rfl) ?_
    obtain ⟨r8, q9, hg⟩ := bd_e hg hne
    refine r_calli (W.runV (As := []) (rest := []) CX (ctX8_isWhole l D sw cs ad X M5  q9) (cwV 0 hts (gwV m5_117 m5_119 mp3_15 m1_7 m5_120) rfl rfl rfl (by decide +kernel) ⟨Nat.le_trans (Nat.le_of_ble_eq_true rfl) hR.1, Nat.le_trans (Nat.le_of_ble_eq_true rfl) hR.2⟩) (rPreV (hSW.wr hS) hK hP (by decide) rfl rfl _) rfl rfl hl.1 rfl (lv_room (Nat.le_of_ble_eq_true rfl)) dX8_digest_62 ⟨Nat.le_trans (Nat.le_of_ble_eq_true rfl) hRc.1, Nat.le_trans (Nat.le_of_ble_eq_true rfl) hRc.2⟩) ?_
    refine lv_if_ne (tgt := 70) hx hb dX8_digest_65 (by decide) (fun c10 => ?_) (fun c10 => ?_)
    · have hg := if_f hg c10
      refine lv_aload_n hx hb dX8_digest_70 rfl (lv_at hl 0 rfl) ?_
      obtain ⟨M12, q11, hg⟩ := bd_e hg hne
      refine w_callv (va_runV (As := []) (rest := []) CX (ctX8_read l D sw cs ad X H.size M5  q11) (cwV 0 hts (gwV m5_121 m5_123 mp4_0 m1_7 m5_124) rfl rfl rfl (by decide +kernel) ⟨Nat.le_trans (Nat.le_of_ble_eq_true rfl) hR.1, Nat.le_trans (Nat.le_of_ble_eq_true rfl) hR.2⟩) (wPreV hSW hS hA hK hP hD (by decide) rfl rfl _) rfl rfl hl.1 rfl (lv_room (Nat.le_of_ble_eq_true rfl)) dX8_digest_71 ⟨Nat.le_trans (Nat.le_of_ble_eq_true rfl) hRc.1, Nat.le_trans (Nat.le_of_ble_eq_true rfl) hRc.2⟩) hD hS hA (fun H locs hP hD hS => ?_)
      refine lv_iconst (v := 0) hx hb dX8_digest_74 (by decide) ?_
      refine lv_istore_n (lv' := [(3, .int (0 : Int32)), (0, .ref (ad 0)), (1, .long x6)]) hx hb dX8_digest_75 rfl hl (by decide) rfl (fun ls hl => ?_)
      have kL76_41 : ∀ (n16 : Nat) (M13 : Mm) (x14 : Int64) (x15 : Int32) (H : Heap) (locs : List Loc) (ls : Array Slot), va_P D vwCl (wl cs LM NM ad M13 ++ X) H → va_D A (wl cs LM NM ad M13 ++ X) → va_S A s.heap H locs → lv_has ls 5 [(0, .ref (ad 0)), (1, .long x14), (3, .int x15)] → gX8_digest_L76 n16 M13 x14 x15 = res → W p l e R s m args below meth c H locs ((0 + 3) + 3) ((0 + 14) + 14) Q (F0 m 76 ls []) := by
        intro n16
        induction n16 with
        | zero =>
          intro M13 x14 x15 H locs ls hP hD hS hl hg
          rw [gX8_digest_L76] at hg
          exact absurd hg.symm hne
        | succ n16 ih =>
          intro M13 x14 x15 H locs ls hP hD hS hl hg
          rw [gX8_digest_L76] at hg
          refine lv_iload_n hx hb dX8_digest_76 rfl (lv_at hl 2 rfl) ?_
          refine lv_bipush (v := 16) hx hb dX8_digest_77 (by decide) ?_
          refine lv_icmp_ge (tgt := 165) hx hb dX8_digest_79 (by decide) (fun c17 => ?_) (fun c17 => ?_)
          · have hg := if_t hg c17
            refine lv_lload_n hx hb dX8_digest_165 rfl (lv_at hl 1 rfl) ?_
            refine W.widen (k := 6) (n := 28) (by decide) (by decide) ?_
            exact hret _ _ _ _ _ _ hg dX8_digest_166 hP hD hS
          · have hg := if_f hg c17
            refine lv_lload_n hx hb dX8_digest_82 rfl (lv_at hl 1 rfl) ?_
            refine lv_ldc2 (v := 31) hx hb hown lk_183 dX8_digest_83 ?_
            refine lv_lmul hx hb dX8_digest_86 ?_
            refine lv_aload_n hx hb dX8_digest_87 rfl (lv_at hl 0 rfl) ?_
            refine m_gr (C := RX8) (T := TX8) (n := 15) (ci := 6) hx hb hts in_RX8 hown hK hP (by decide) rfl rfl 7 (by decide) rfl lk_25 (fun _ h9 => h9) dX8_digest_88 ?_
            refine lv_iload_n hx hb dX8_digest_91 rfl (lv_at hl 2 rfl) ?_
            obtain ⟨b18, hg⟩ := ck_e hg hne
            refine m_ld hx hb hK hP (by decide) rfl b18 dX8_digest_92 ?_
            refine lv_i2l hx hb dX8_digest_93 rfl ?_
            refine lv_ladd hx hb dX8_digest_94 ?_
            obtain ⟨x19, hx19, hg⟩ := lt_e hg
            refine top_l hx19 ?_
            refine lv_lstore_n (lv' := [(1, .long x19), (0, .ref (ad 0)), (3, .int x15)]) hx hb dX8_digest_95 rfl hl (by decide) rfl (fun ls hl => ?_)
            refine lv_aload_n hx hb dX8_digest_96 rfl (lv_at hl 1 rfl) ?_
            refine m_gr (C := RX8) (T := TX8) (n := 15) (ci := 6) hx hb hts in_RX8 hown hK hP (by decide) rfl rfl 7 (by decide) rfl lk_25 (fun _ h9 => h9) dX8_digest_97 ?_
            refine lv_iload_n hx hb dX8_digest_100 rfl (lv_at hl 2 rfl) ?_
            obtain ⟨b20, hg⟩ := ck_e hg hne
            refine m_ld hx hb hK hP (by decide) rfl b20 dX8_digest_101 ?_
            refine lv_iconst (v := -1) hx hb dX8_digest_102 (by decide) ?_
            refine lv_icmp_eq (tgt := 109) hx hb dX8_digest_103 (by decide) (fun c21 => ?_) (fun c21 => ?_)
            · have hg := if_t hg c21
              refine lv_aload_n hx hb dX8_digest_109 rfl (lv_at hl 1 rfl) ?_
              refine lv_iload_n hx hb dX8_digest_110 rfl (lv_at hl 2 rfl) ?_
              obtain ⟨M23, q22, hg⟩ := bd_e hg hne
              refine w_callv (va_runV (As := [.int x15]) (rest := []) CX (ctX8_run l D sw cs ad X H.size M13 x15 q22) (cwV 1 hts (gwV m5_195 m5_197 mp4_10 m1_7 m5_198) rfl rfl rfl (by decide +kernel) ⟨Nat.le_trans (Nat.le_of_ble_eq_true rfl) hR.1, Nat.le_trans (Nat.le_of_ble_eq_true rfl) hR.2⟩) (wPreV hSW hS hA hK hP hD (by decide) rfl rfl _) rfl rfl hl.1 rfl (lv_room (Nat.le_of_ble_eq_true rfl)) dX8_digest_111 ⟨Nat.le_trans (Nat.le_of_ble_eq_true rfl) hRc.1, Nat.le_trans (Nat.le_of_ble_eq_true rfl) hRc.2⟩) hD hS hA (fun H locs hP hD hS => ?_)
              refine lv_lload_n hx hb dX8_digest_114 rfl (lv_at hl 0 rfl) ?_
              refine lv_ldc2 (v := 31) hx hb hown lk_183 dX8_digest_115 ?_
              refine lv_lmul hx hb dX8_digest_118 ?_
              refine lv_aload_n hx hb dX8_digest_119 rfl (lv_at hl 1 rfl) ?_
              refine m_gi (C := RX8) (T := TX8) (n := 15) (ci := 6) hx hb hts in_RX8 hown hK hP (by decide) rfl rfl 13 (by decide) rfl lk_171 (fun _ h9 => h9) dX8_digest_120 ?_
              refine lv_i2l hx hb dX8_digest_123 rfl ?_
              refine lv_ladd hx hb dX8_digest_124 ?_
              obtain ⟨x24, hx24, hg⟩ := lt_e hg
              refine top_l hx24 ?_
              refine lv_lstore_n (lv' := [(1, .long x24), (0, .ref (ad 0)), (3, .int x15)]) hx hb dX8_digest_125 rfl hl (by decide) rfl (fun ls hl => ?_)
              refine lv_iconst (v := 0) hx hb dX8_digest_126 (by decide) ?_
              refine lv_istore (lv' := [(4, .int (0 : Int32)), (1, .long x24), (0, .ref (ad 0)), (3, .int x15)]) hx hb dX8_digest_127 hl (by decide) rfl (fun ls hl => ?_)
              obtain ⟨E28, hE28, hg⟩ := lf3 hg
              have kE28 : ∀ (M25 : Mm) (x26 : Int64) (x27 : Int32) (H : Heap) (locs : List Loc) (ls : Array Slot), va_P D vwCl (wl cs LM NM ad M25 ++ X) H → va_D A (wl cs LM NM ad M25 ++ X) → va_S A s.heap H locs → lv_has ls 5 [(0, .ref (ad 0)), (1, .long x26), (3, .int x27)] → E28 M25 x26 x27 = res → W p l e R s m args below meth c H locs ((0 + 3) + 3) ((0 + 14) + 14) Q (F0 m 159 ls []) := by
                intro M25 x26 x27 H locs ls hP hD hS hl hg
                rw [hE28] at hg
                obtain ⟨x29, hx29, hg⟩ := lt_e hg
                refine lv_iinc (v := x29) (lv' := [(3, .int x29), (0, .ref (ad 0)), (1, .long x26)]) hx hb dX8_digest_159 hl (k := 2) rfl (hx29.symm) (by decide) rfl (fun ls hl => ?_)
                refine lv_goto (tgt := 76) hx hb dX8_digest_162 (by decide) ?_
                exact ih _ _ _ _ _ _ hP hD hS (lv_sub hl [1, 2, 0] rfl) hg
              have kL129_39 : ∀ (n34 : Nat) (M30 : Mm) (x31 : Int64) (x32 : Int32) (x33 : Int32) (H : Heap) (locs : List Loc) (ls : Array Slot), va_P D vwCl (wl cs LM NM ad M30 ++ X) H → va_D A (wl cs LM NM ad M30 ++ X) → va_S A s.heap H locs → lv_has ls 5 [(0, .ref (ad 0)), (1, .long x31), (3, .int x32), (4, .int x33)] → gX8_digest_L129 E28 n34 M30 x31 x32 x33 = res → W p l e R s m args below meth c H locs ((0 + 3) + 3) ((0 + 14) + 14) Q (F0 m 129 ls []) := by
                intro n34
                induction n34 with
                | zero =>
                  intro M30 x31 x32 x33 H locs ls hP hD hS hl hg
                  rw [gX8_digest_L129] at hg
                  exact absurd hg.symm hne
                | succ n34 ih =>
                  intro M30 x31 x32 x33 H locs ls hP hD hS hl hg
                  rw [gX8_digest_L129] at hg
                  refine lv_iload hx hb dX8_digest_129 (lv_at hl 3 rfl) ?_
                  refine lv_aload_n hx hb dX8_digest_131 rfl (lv_at hl 0 rfl) ?_
                  refine m_gi (C := RX8) (T := TX8) (n := 15) (ci := 6) hx hb hts in_RX8 hown hK hP (by decide) rfl rfl 13 (by decide) rfl lk_171 (fun _ h9 => h9) dX8_digest_132 ?_
                  refine lv_icmp_ge (tgt := 159) hx hb dX8_digest_135 (by decide) (fun c35 => ?_) (fun c35 => ?_)
                  · have hg := if_t hg c35
                    exact kE28 _ _ _ _ _ _ hP hD hS (lv_sub hl [0, 1, 2] rfl) hg
                  · have hg := if_f hg c35
                    refine lv_lload_n hx hb dX8_digest_138 rfl (lv_at hl 1 rfl) ?_
                    refine lv_ldc2 (v := 31) hx hb hown lk_183 dX8_digest_139 ?_
                    refine lv_lmul hx hb dX8_digest_142 ?_
                    refine lv_aload_n hx hb dX8_digest_143 rfl (lv_at hl 0 rfl) ?_
                    refine m_gr (C := RX8) (T := TX8) (n := 15) (ci := 6) hx hb hts in_RX8 hown hK hP (by decide) rfl rfl 14 (by decide) rfl lk_40 (fun _ h9 => h9) dX8_digest_144 ?_
                    refine lv_iload hx hb dX8_digest_147 (lv_at hl 3 rfl) ?_
                    obtain ⟨b36, hg⟩ := ck_e hg hne
                    refine m_ld hx hb hK hP (by decide) rfl b36 dX8_digest_149 ?_
                    refine lv_i2l hx hb dX8_digest_150 rfl ?_
                    refine lv_ladd hx hb dX8_digest_151 ?_
                    obtain ⟨x37, hx37, hg⟩ := lt_e hg
                    refine top_l hx37 ?_
                    refine lv_lstore_n (lv' := [(1, .long x37), (0, .ref (ad 0)), (3, .int x32), (4, .int x33)]) hx hb dX8_digest_152 rfl hl (by decide) rfl (fun ls hl => ?_)
                    obtain ⟨x38, hx38, hg⟩ := lt_e hg
                    refine lv_iinc (v := x38) (lv' := [(4, .int x38), (1, .long x37), (0, .ref (ad 0)), (3, .int x32)]) hx hb dX8_digest_153 hl (k := 3) rfl (hx38.symm) (by decide) rfl (fun ls hl => ?_)
                    refine lv_goto (tgt := 129) hx hb dX8_digest_156 (by decide) ?_
                    exact ih _ _ _ _ _ _ _ hP hD hS (lv_sub hl [2, 1, 3, 0] rfl) hg
              exact kL129_39 FU _ _ _ _ _ _ _ hP hD hS (lv_sub hl [2, 1, 3, 0] rfl) hg
            · have hg := if_f hg c21
              refine lv_goto (tgt := 159) hx hb dX8_digest_106 (by decide) ?_
              obtain ⟨x40, hx40, hg⟩ := lt_e hg
              refine lv_iinc (v := x40) (lv' := [(3, .int x40), (1, .long x19), (0, .ref (ad 0))]) hx hb dX8_digest_159 hl (k := 2) rfl (hx40.symm) (by decide) rfl (fun ls hl => ?_)
              refine lv_goto (tgt := 76) hx hb dX8_digest_162 (by decide) ?_
              exact ih _ _ _ _ _ _ hP hD hS (lv_sub hl [2, 1, 0] rfl) hg
      exact kL76_41 FU _ _ _ _ _ _ hP hD hS (lv_sub hl [1, 2, 0] rfl) hg
    · have hg := if_t hg c10
      refine lv_lload_n hx hb dX8_digest_68 rfl (lv_at hl 1 rfl) ?_
      refine W.widen (k := 6) (n := 28) (by decide) (by decide) ?_
      exact hret _ _ _ _ _ _ hg dX8_digest_69 hP hD hS
  have kL21_51 : ∀ (n45 : Nat) (M42 : Mm) (x43 : Int64) (x44 : Int32) (H : Heap) (locs : List Loc) (ls : Array Slot), va_P D vwCl (wl cs LM NM ad M42 ++ X) H → va_D A (wl cs LM NM ad M42 ++ X) → va_S A s.heap H locs → lv_has ls 5 [(0, .ref (ad 0)), (1, .long x43), (3, .int x44)] → gX8_digest_L21 E7 n45 M42 x43 x44 = res → W p l e R s m args below meth c H locs (0 + 3) (0 + 14) Q (F0 m 21 ls []) := by
    intro n45
    induction n45 with
    | zero =>
      intro M42 x43 x44 H locs ls hP hD hS hl hg
      rw [gX8_digest_L21] at hg
      exact absurd hg.symm hne
    | succ n45 ih =>
      intro M42 x43 x44 H locs ls hP hD hS hl hg
      rw [gX8_digest_L21] at hg
      refine lv_iload_n hx hb dX8_digest_21 rfl (lv_at hl 2 rfl) ?_
      refine lv_aload_n hx hb dX8_digest_22 rfl (lv_at hl 0 rfl) ?_
      refine m_gi (C := RX8) (T := TX8) (n := 15) (ci := 6) hx hb hts in_RX8 hown hK hP (by decide) rfl rfl 1 (by decide) rfl lk_47 (fun _ h9 => h9) dX8_digest_23 ?_
      refine lv_icmp_ge (tgt := 61) hx hb dX8_digest_26 (by decide) (fun c46 => ?_) (fun c46 => ?_)
      · have hg := if_t hg c46
        exact kE7 _ _ _ _ _ hP hD hS (lv_sub hl [0, 1] rfl) hg
      · have hg := if_f hg c46
        refine lv_lload_n hx hb dX8_digest_29 rfl (lv_at hl 1 rfl) ?_
        refine lv_ldc2 (v := 31) hx hb hown lk_183 dX8_digest_30 ?_
        refine lv_lmul hx hb dX8_digest_33 ?_
        refine lv_aload_n hx hb dX8_digest_34 rfl (lv_at hl 0 rfl) ?_
        refine m_gr (C := RX8) (T := TX8) (n := 15) (ci := 6) hx hb hts in_RX8 hown hK hP (by decide) rfl rfl 2 (by decide) rfl lk_9 (fun _ h9 => h9) dX8_digest_35 ?_
        refine lv_iload_n hx hb dX8_digest_38 rfl (lv_at hl 2 rfl) ?_
        obtain ⟨b47, hg⟩ := ck_e hg hne
        refine m_ld hx hb hK hP (by decide) rfl b47 dX8_digest_39 ?_
        refine lv_i2l hx hb dX8_digest_40 rfl ?_
        refine lv_ladd hx hb dX8_digest_41 ?_
        refine lv_ldc2 (v := 31) hx hb hown lk_183 dX8_digest_42 ?_
        refine lv_lmul hx hb dX8_digest_45 ?_
        refine lv_aload_n hx hb dX8_digest_46 rfl (lv_at hl 0 rfl) ?_
        refine m_gr (C := RX8) (T := TX8) (n := 15) (ci := 6) hx hb hts in_RX8 hown hK hP (by decide) rfl rfl 3 (by decide) rfl lk_13 (fun _ h9 => h9) dX8_digest_47 ?_
        refine lv_iload_n hx hb dX8_digest_50 rfl (lv_at hl 2 rfl) ?_
        obtain ⟨b48, hg⟩ := ck_e hg hne
        refine m_ld hx hb hK hP (by decide) rfl b48 dX8_digest_51 ?_
        refine lv_i2l hx hb dX8_digest_52 rfl ?_
        refine lv_ladd hx hb dX8_digest_53 ?_
        obtain ⟨x49, hx49, hg⟩ := lt_e hg
        refine top_l hx49 ?_
        refine lv_lstore_n (lv' := [(1, .long x49), (0, .ref (ad 0)), (3, .int x44)]) hx hb dX8_digest_54 rfl hl (by decide) rfl (fun ls hl => ?_)
        obtain ⟨x50, hx50, hg⟩ := lt_e hg
        refine lv_iinc (v := x50) (lv' := [(3, .int x50), (1, .long x49), (0, .ref (ad 0))]) hx hb dX8_digest_55 hl (k := 2) rfl (hx50.symm) (by decide) rfl (fun ls hl => ?_)
        refine lv_goto (tgt := 21) hx hb dX8_digest_58 (by decide) ?_
        exact ih _ _ _ _ _ _ hP hD hS (lv_sub hl [2, 1, 0] rfl) hg
  exact kL21_51 FU _ _ _ _ _ _ hP hD hS (lv_sub hl [2, 1, 0] rfl) hg
theorem ctX8_digest (l : Launch) (D : va_G) (sw : Sw) (cs : Cs) (ad : Nat → Nat) (X : va_W) (sz : Nat) (M : Mm) {r : Int64} {M1 : Mm} (hq : gX8_digest M = some (r, M1)) : Met l yX8_digest wsX8_digest ({ frames := 804, cells := 6, slots := 28, locals := 19290 }) (va_Pc [.ref (ad 0)] (wPre D sw cs LM NM ad M X sz)) (wQl D cs LM NM ad M1 X sz r) 6 28 (wA NM ad X sz) :=
  met_w rfl rfl (Nat.le_of_ble_eq_true rfl) (fun p e s m args below meth c ls CX hr hlk hK hSW hP hD hS hA hl => bX8_digest M hq (by simp) CX ⟨Nat.le_refl _, Nat.le_refl _⟩ hK hSW hP hD hS hA ⟨Nat.le_refl _, Nat.le_refl _⟩ hl (fun pc ls H locs v M9 hv dg hP hD hS => W.lret CX.1 CX.2.1 hr (fun t ht hW => ⟨⟨_, (), rfl, (Prod.mk.inj (Option.some.inj hv)).1, wpost hP ht (Prod.mk.inj (Option.some.inj hv)).2⟩, hS.F ht⟩) hS.2.2 dg))
