abbrev wsX7_readAll : List Cond := Cond.code yX7_readAll cX7_readAll 3 none :: WG
def gX7_readAll_L125 : Nat → Mm → Int32 → Option Mm
  | 0, _, _ => none
  | n7 + 1, M5, x6 => if (16 : Int32) ≤ x6 then (some M5) else if (x6 < 0 ∨ 16 ≤ (x6).toNatClampNeg) then none else lt ((x6).toNatClampNeg) fun v10 => bd (gX1_end M5 v10 (M5 1 1)) fun M13 => lt (x6 + (1 : Int32)) fun x14 => gX7_readAll_L125 n7 M13 x14
def gX7_readAll_L74 (E31 : Mm → Int32 → Option Mm) : Nat → Mm → Int32 → Int32 → Option Mm
  | 0, _, _, _ => none
  | n36 + 1, M33, x34, x35 => if (16 : Int32) ≤ x35 then (E31 M33 x34) else bd (gX7_isReadBy M33 x35 x34) fun r38 => if r38 = 0 then (lt (x35 + (1 : Int32)) fun x41 => gX7_readAll_L74 E31 n36 M33 x34 x41) else if (x35 < 0 ∨ 16 ≤ (x35).toNatClampNeg) then none else lt ((x35).toNatClampNeg) fun v43 => if (x34 < 0 ∨ 80 ≤ (x34).toNatClampNeg) then none else bd (gX1_take M33 v43 (M33 2 (x34).toNatClampNeg) x34) fun M47 => lt (x35 + (1 : Int32)) fun x48 => gX7_readAll_L74 E31 n36 M47 x34 x48
def gX7_readAll_L28 (E4 : Mm → Option Mm) : Nat → Mm → Int32 → Option Mm
  | 0, _, _ => none
  | n18 + 1, M16, x17 => if (M16 1 1) ≤ x17 then (E4 M16) else if (x17 < 0 ∨ 80 ≤ (x17).toNatClampNeg) then none else lt (um M16 14 (x17).toNatClampNeg (0 : Int32)) fun M21 => if (x17 < 0 ∨ 80 ≤ (x17).toNatClampNeg) then none else if (gX0_isToken (M21 2 (x17).toNatClampNeg)) = 0 then (lt (x17 + (1 : Int32)) fun x24 => gX7_readAll_L28 E4 n18 M21 x24) else bd (gX7_countGroups M21 x17) fun r25 => if (x17 < 0 ∨ 80 ≤ (x17).toNatClampNeg) then none else lt (um M21 14 (x17).toNatClampNeg r25) fun M28 => lt (fun (M29 : Mm) (x30 : Int32) => lt (x30 + (1 : Int32)) fun x32 => gX7_readAll_L28 E4 n18 M29 x32) fun E31 => gX7_readAll_L74 E31 FU M28 x17 (0 : Int32)
def gX7_readAll_L2 (E2 : Mm → Option Mm) : Nat → Mm → Int32 → Option Mm
  | 0, _, _ => none
  | n53 + 1, M51, x52 => if (16 : Int32) ≤ x52 then (E2 M51) else if (x52 < 0 ∨ 16 ≤ (x52).toNatClampNeg) then none else lt ((x52).toNatClampNeg) fun v56 => bd (gX1_begin M51 v56) fun M59 => lt (x52 + (1 : Int32)) fun x60 => gX7_readAll_L2 E2 n53 M59 x60
def gX7_readAll (M : Mm) : Option Mm := lt (fun (M1 : Mm) => lt (fun (M3 : Mm) => gX7_readAll_L125 FU M3 (0 : Int32)) fun E4 => gX7_readAll_L28 E4 FU M1 (0 : Int32)) fun E2 => gX7_readAll_L2 E2 FU M (0 : Int32)
set_option maxHeartbeats 4000000 in
set_option maxRecDepth 100000 in
theorem bX7_readAll {p : Program} {l : Launch} {e : Env} {R : Room} {s : State} {m : MethodId} {args : Array Value} {below : List Frame} {meth : Method} {c : Code} {H : Heap} {locs : List Loc} {Q : State → Prop} {D : va_G} {sw : Sw} {cs : Cs} {ad : Nat → Nat} {X : va_W} {A : Nat → Prop} (M : Mm) {res : Option Mm} (hg : gX7_readAll M = res) (hne : res ≠ none) (CX : CallFix p m c cX7_readAll 3 s args wsX7_readAll RX7) (hR : 6 ≤ R.frames ∧ 133 ≤ R.locals) (hK : va_K D vwCl (tysC cs) s) (hSW : SW sw A s s.heap) (hP : va_P D vwCl (wl cs LC NC ad M ++ X) H) (hD : va_D A (wl cs LC NC ad M ++ X)) (hS : va_S A s.heap H locs) (hA : ∀ q, s.heap.size ≤ q → A q) {ls : Array Slot} (hl : lv_has ls 3 [(0, .ref (ad 0))]) (hret : ∀ (pc : Nat) (ls : Array Slot) (H : Heap) (locs : List Loc) (M9 : Mm), some M9 = res → decode cX7_readAll pc = .ok (.return_, 1) → va_P D vwCl (wl cs LC NC ad M9 ++ X) H → va_D A (wl cs LC NC ad M9 ++ X) → va_S A s.heap H locs → W p l e R s m args below meth c H locs 0 0 Q (F0 m pc ls [])) : W p l e R s m args below meth c H locs 0 0 Q (F0 m 0 ls []) := by
  obtain ⟨hx, hb, hml, hown, hts⟩ := id CX
  have hw : ∀ w ∈ WG, w.before args s = true := fun w h => hts w (List.mem_cons_of_mem _ h)
  have lk_25 := hw _ m1_161
  have lk_148 := hw _ m1_145
  have lk_10 := hw _ m1_159
  have lk_55 := hw _ m1_39
  have lk_30 := hw _ m1_162
  have lk_105 := hw _ m1_38
  unfold gX7_readAll at hg
  refine lv_iconst (v := 0) hx hb dX7_readAll_0 (by decide) ?_
  refine lv_istore_n (lv' := [(1, .int (0 : Int32)), (0, .ref (ad 0))]) hx hb dX7_readAll_1 rfl hl (by decide) rfl (fun ls hl => ?_)
  obtain ⟨E2, hE2, hg⟩ := lf1 hg
  have kE2 : ∀ (M1 : Mm) (H : Heap) (locs : List Loc) (ls : Array Slot), va_P D vwCl (wl cs LC NC ad M1 ++ X) H → va_D A (wl cs LC NC ad M1 ++ X) → va_S A s.heap H locs → lv_has ls 3 [(0, .ref (ad 0))] → E2 M1 = res → W p l e R s m args below meth c H locs 0 0 Q (F0 m 26 ls []) := by
    intro M1 H locs ls hP hD hS hl hg
    rw [hE2] at hg
    refine lv_iconst (v := 0) hx hb dX7_readAll_26 (by decide) ?_
    refine lv_istore_n (lv' := [(1, .int (0 : Int32)), (0, .ref (ad 0))]) hx hb dX7_readAll_27 rfl hl (by decide) rfl (fun ls hl => ?_)
    obtain ⟨E4, hE4, hg⟩ := lf1 hg
    have kE4 : ∀ (M3 : Mm) (H : Heap) (locs : List Loc) (ls : Array Slot), va_P D vwCl (wl cs LC NC ad M3 ++ X) H → va_D A (wl cs LC NC ad M3 ++ X) → va_S A s.heap H locs → lv_has ls 3 [(0, .ref (ad 0))] → E4 M3 = res → W p l e R s m args below meth c H locs 0 0 Q (F0 m 123 ls []) := by
      intro M3 H locs ls hP hD hS hl hg
      rw [hE4] at hg
      refine lv_iconst (v := 0) hx hb dX7_readAll_123 (by decide) ?_
      refine lv_istore_n (lv' := [(1, .int (0 : Int32)), (0, .ref (ad 0))]) hx hb dX7_readAll_124 rfl hl (by decide) rfl (fun ls hl => ?_)
      have kL125_15 : ∀ (n7 : Nat) (M5 : Mm) (x6 : Int32) (H : Heap) (locs : List Loc) (ls : Array Slot), va_P D vwCl (wl cs LC NC ad M5 ++ X) H → va_D A (wl cs LC NC ad M5 ++ X) → va_S A s.heap H locs → lv_has ls 3 [(0, .ref (ad 0)), (1, .int x6)] → gX7_readAll_L125 n7 M5 x6 = res → W p l e R s m args below meth c H locs 0 0 Q (F0 m 125 ls []) := by
        intro n7
        induction n7 with
        | zero =>
          intro M5 x6 H locs ls hP hD hS hl hg
          rw [gX7_readAll_L125] at hg
          exact absurd hg.symm hne
        | succ n7 ih =>
          intro M5 x6 H locs ls hP hD hS hl hg
          rw [gX7_readAll_L125] at hg
          refine lv_iload_n hx hb dX7_readAll_125 rfl (lv_at hl 1 rfl) ?_
          refine lv_bipush (v := 16) hx hb dX7_readAll_126 (by decide) ?_
          refine lv_icmp_ge (tgt := 156) hx hb dX7_readAll_128 (by decide) (fun c8 => ?_) (fun c8 => ?_)
          · have hg := if_t hg c8
            exact hret _ _ _ _ _ hg dX7_readAll_156 hP hD hS
          · have hg := if_f hg c8
            refine lv_aload_n hx hb dX7_readAll_131 rfl (lv_at hl 0 rfl) ?_
            refine m_gr (C := RX7) (T := TX7) (n := 5) (ci := 5) hx hb hts in_RX7 hown hK hP (by decide) rfl rfl 2 (by decide) rfl lk_25 (fun _ h9 => h9) dX7_readAll_132 ?_
            refine lv_iload_n hx hb dX7_readAll_135 rfl (lv_at hl 1 rfl) ?_
            obtain ⟨b9, hg⟩ := ck_e hg hne
            obtain ⟨v10, hv10, hg⟩ := lt_e hg
            have h11 := ix_lt b9 hv10
            refine m_lq (k := 13) hx hb hK hP (by decide) rfl b9 dX7_readAll_136 ?_
            rw [← hv10]
            refine m_gr (C := RX5) (T := TX5) (n := 5) (ci := 3) hx hb hts in_RX5 hown hK hP (kC_v0 h11) (LC_VAR v10) rfl 3 (by decide) rfl lk_148 (fun _ h9 => h9) dX7_readAll_137 ?_
            refine lv_aload_n hx hb dX7_readAll_140 rfl (lv_at hl 0 rfl) ?_
            refine m_gr (C := RX7) (T := TX7) (n := 5) (ci := 5) hx hb hts in_RX7 hown hK hP (by decide) rfl rfl 0 (by decide) rfl lk_10 (fun _ h9 => h9) dX7_readAll_141 ?_
            refine m_gi (C := RX4) (T := TX4) (n := 2) (ci := 2) hx hb hts in_RX4 hown hK hP (by decide) rfl rfl 1 (by decide) rfl lk_55 (fun _ h9 => h9) dX7_readAll_144 ?_
            obtain ⟨M13, q12, hg⟩ := bd_e hg hne
            refine w_callv (va_runV (As := [.int (M5 1 1)]) (rest := []) CX (ctX1_end l D sw cs ad X H.size M5 v10 h11 (M5 1 1) q12) (cwV 1 hts (gwV m2_238 m2_239 m3_0 m1_5 m3_1) rfl rfl rfl (by decide +kernel) ⟨Nat.le_trans (Nat.le_of_ble_eq_true rfl) hR.1, Nat.le_trans (Nat.le_of_ble_eq_true rfl) hR.2⟩) (wPreV hSW hS hA hK hP hD (kC_v (j := 3) h11 (by decide)) (LC_RDG v10) rfl _) rfl rfl hl.1 rfl (lv_room (Nat.le_of_ble_eq_true rfl)) dX7_readAll_147 ⟨Nat.zero_le _, Nat.zero_le _⟩) hD hS hA (fun H locs hP hD hS => ?_)
            obtain ⟨x14, hx14, hg⟩ := lt_e hg
            refine lv_iinc (v := x14) (lv' := [(1, .int x14), (0, .ref (ad 0))]) hx hb dX7_readAll_150 hl (k := 1) rfl (hx14.symm) (by decide) rfl (fun ls hl => ?_)
            refine lv_goto (tgt := 125) hx hb dX7_readAll_153 (by decide) ?_
            exact ih _ _ _ _ _ hP hD hS (lv_sub hl [1, 0] rfl) hg
      exact kL125_15 FU _ _ _ _ _ hP hD hS (lv_sub hl [1, 0] rfl) hg
    have kL28_50 : ∀ (n18 : Nat) (M16 : Mm) (x17 : Int32) (H : Heap) (locs : List Loc) (ls : Array Slot), va_P D vwCl (wl cs LC NC ad M16 ++ X) H → va_D A (wl cs LC NC ad M16 ++ X) → va_S A s.heap H locs → lv_has ls 3 [(0, .ref (ad 0)), (1, .int x17)] → gX7_readAll_L28 E4 n18 M16 x17 = res → W p l e R s m args below meth c H locs 0 0 Q (F0 m 28 ls []) := by
      intro n18
      induction n18 with
      | zero =>
        intro M16 x17 H locs ls hP hD hS hl hg
        rw [gX7_readAll_L28] at hg
        exact absurd hg.symm hne
      | succ n18 ih =>
        intro M16 x17 H locs ls hP hD hS hl hg
        rw [gX7_readAll_L28] at hg
        refine lv_iload_n hx hb dX7_readAll_28 rfl (lv_at hl 1 rfl) ?_
        refine lv_aload_n hx hb dX7_readAll_29 rfl (lv_at hl 0 rfl) ?_
        refine m_gr (C := RX7) (T := TX7) (n := 5) (ci := 5) hx hb hts in_RX7 hown hK hP (by decide) rfl rfl 0 (by decide) rfl lk_10 (fun _ h9 => h9) dX7_readAll_30 ?_
        refine m_gi (C := RX4) (T := TX4) (n := 2) (ci := 2) hx hb hts in_RX4 hown hK hP (by decide) rfl rfl 1 (by decide) rfl lk_55 (fun _ h9 => h9) dX7_readAll_33 ?_
        refine lv_icmp_ge (tgt := 123) hx hb dX7_readAll_36 (by decide) (fun c19 => ?_) (fun c19 => ?_)
        · have hg := if_t hg c19
          exact kE4 _ _ _ _ hP hD hS (lv_sub hl [0] rfl) hg
        · have hg := if_f hg c19
          refine lv_aload_n hx hb dX7_readAll_39 rfl (lv_at hl 0 rfl) ?_
          refine m_gr (C := RX7) (T := TX7) (n := 5) (ci := 5) hx hb hts in_RX7 hown hK hP (by decide) rfl rfl 3 (by decide) rfl lk_30 (fun _ h9 => h9) dX7_readAll_40 ?_
          refine lv_iload_n hx hb dX7_readAll_43 rfl (lv_at hl 1 rfl) ?_
          refine lv_iconst (v := 0) hx hb dX7_readAll_44 (by decide) ?_
          obtain ⟨b20, hg⟩ := ck_e hg hne
          obtain ⟨M21, hM21, hg⟩ := lt_e hg
          refine m_st hx hb hK hP hD hS (by decide) rfl b20 dX7_readAll_45 hM21 (fun H locs hP hD hS => ?_)
          refine lv_aload_n hx hb dX7_readAll_46 rfl (lv_at hl 0 rfl) ?_
          refine m_gr (C := RX7) (T := TX7) (n := 5) (ci := 5) hx hb hts in_RX7 hown hK hP (by decide) rfl rfl 0 (by decide) rfl lk_10 (fun _ h9 => h9) dX7_readAll_47 ?_
          refine m_gr (C := RX4) (T := TX4) (n := 2) (ci := 2) hx hb hts in_RX4 hown hK hP (by decide) rfl rfl 0 (by decide) rfl lk_105 (fun _ h9 => h9) dX7_readAll_50 ?_
          refine lv_iload_n hx hb dX7_readAll_53 rfl (lv_at hl 1 rfl) ?_
          obtain ⟨b22, hg⟩ := ck_e hg hne
          refine m_ld hx hb hK hP (by decide) rfl b22 dX7_readAll_54 ?_
          refine r_calli (W.runS (As := [.int (M21 2 (x17).toNatClampNeg)]) (rest := []) CX (ctX0_isToken l (M21 2 (x17).toNatClampNeg)) (va_cwS 1 hts (gwS m1_182 m1_183 m1_11 m1_184) rfl rfl rfl (by decide +kernel) ⟨Nat.le_trans (Nat.le_of_ble_eq_true rfl) hR.1, Nat.le_trans (Nat.le_of_ble_eq_true rfl) hR.2⟩) (pPreS _) rfl rfl hl.1 rfl (lv_room (Nat.le_of_ble_eq_true rfl)) dX7_readAll_55 ⟨Nat.zero_le _, Nat.zero_le _⟩) ?_
          refine lv_if_eq (tgt := 117) hx hb dX7_readAll_58 (by decide) (fun c23 => ?_) (fun c23 => ?_)
          · have hg := if_t hg c23
            obtain ⟨x24, hx24, hg⟩ := lt_e hg
            refine lv_iinc (v := x24) (lv' := [(1, .int x24), (0, .ref (ad 0))]) hx hb dX7_readAll_117 hl (k := 1) rfl (hx24.symm) (by decide) rfl (fun ls hl => ?_)
            refine lv_goto (tgt := 28) hx hb dX7_readAll_120 (by decide) ?_
            exact ih _ _ _ _ _ hP hD hS (lv_sub hl [1, 0] rfl) hg
          · have hg := if_f hg c23
            refine lv_aload_n hx hb dX7_readAll_61 rfl (lv_at hl 0 rfl) ?_
            refine m_gr (C := RX7) (T := TX7) (n := 5) (ci := 5) hx hb hts in_RX7 hown hK hP (by decide) rfl rfl 3 (by decide) rfl lk_30 (fun _ h9 => h9) dX7_readAll_62 ?_
            refine lv_iload_n hx hb dX7_readAll_65 rfl (lv_at hl 1 rfl) ?_
            refine lv_aload_n hx hb dX7_readAll_66 rfl (lv_at hl 0 rfl) ?_
            refine lv_iload_n hx hb dX7_readAll_67 rfl (lv_at hl 1 rfl) ?_
            obtain ⟨r25, q26, hg⟩ := bd_e hg hne
            refine r_calli (W.runV (As := [.int x17]) (rest := [.int x17, .ref (ad 14)]) CX (ctX7_countGroups l D sw cs ad X M21 x17 q26) (cwV 1 hts (gwV m2_136 m2_138 mp1_10 m1_1 m2_139) rfl rfl rfl (by decide +kernel) ⟨Nat.le_trans (Nat.le_of_ble_eq_true rfl) hR.1, Nat.le_trans (Nat.le_of_ble_eq_true rfl) hR.2⟩) (rPreV (hSW.wr hS) hK hP (by decide) rfl rfl _) rfl rfl hl.1 rfl (lv_room (Nat.le_of_ble_eq_true rfl)) dX7_readAll_68 ⟨Nat.zero_le _, Nat.zero_le _⟩) ?_
            obtain ⟨b27, hg⟩ := ck_e hg hne
            obtain ⟨M28, hM28, hg⟩ := lt_e hg
            refine m_st hx hb hK hP hD hS (by decide) rfl b27 dX7_readAll_71 hM28 (fun H locs hP hD hS => ?_)
            refine lv_iconst (v := 0) hx hb dX7_readAll_72 (by decide) ?_
            refine lv_istore_n (lv' := [(2, .int (0 : Int32)), (0, .ref (ad 0)), (1, .int x17)]) hx hb dX7_readAll_73 rfl hl (by decide) rfl (fun ls hl => ?_)
            obtain ⟨E31, hE31, hg⟩ := lf2 hg
            have kE31 : ∀ (M29 : Mm) (x30 : Int32) (H : Heap) (locs : List Loc) (ls : Array Slot), va_P D vwCl (wl cs LC NC ad M29 ++ X) H → va_D A (wl cs LC NC ad M29 ++ X) → va_S A s.heap H locs → lv_has ls 3 [(0, .ref (ad 0)), (1, .int x30)] → E31 M29 x30 = res → W p l e R s m args below meth c H locs 0 0 Q (F0 m 117 ls []) := by
              intro M29 x30 H locs ls hP hD hS hl hg
              rw [hE31] at hg
              obtain ⟨x32, hx32, hg⟩ := lt_e hg
              refine lv_iinc (v := x32) (lv' := [(1, .int x32), (0, .ref (ad 0))]) hx hb dX7_readAll_117 hl (k := 1) rfl (hx32.symm) (by decide) rfl (fun ls hl => ?_)
              refine lv_goto (tgt := 28) hx hb dX7_readAll_120 (by decide) ?_
              exact ih _ _ _ _ _ hP hD hS (lv_sub hl [1, 0] rfl) hg
            have kL74_49 : ∀ (n36 : Nat) (M33 : Mm) (x34 : Int32) (x35 : Int32) (H : Heap) (locs : List Loc) (ls : Array Slot), va_P D vwCl (wl cs LC NC ad M33 ++ X) H → va_D A (wl cs LC NC ad M33 ++ X) → va_S A s.heap H locs → lv_has ls 3 [(0, .ref (ad 0)), (1, .int x34), (2, .int x35)] → gX7_readAll_L74 E31 n36 M33 x34 x35 = res → W p l e R s m args below meth c H locs 0 0 Q (F0 m 74 ls []) := by
              intro n36
              induction n36 with
              | zero =>
                intro M33 x34 x35 H locs ls hP hD hS hl hg
                rw [gX7_readAll_L74] at hg
                exact absurd hg.symm hne
              | succ n36 ih =>
                intro M33 x34 x35 H locs ls hP hD hS hl hg
                rw [gX7_readAll_L74] at hg
                refine lv_iload_n hx hb dX7_readAll_74 rfl (lv_at hl 2 rfl) ?_
                refine lv_bipush (v := 16) hx hb dX7_readAll_75 (by decide) ?_
                refine lv_icmp_ge (tgt := 117) hx hb dX7_readAll_77 (by decide) (fun c37 => ?_) (fun c37 => ?_)
                · have hg := if_t hg c37
                  exact kE31 _ _ _ _ _ hP hD hS (lv_sub hl [0, 1] rfl) hg
                · have hg := if_f hg c37
                  refine lv_aload_n hx hb dX7_readAll_80 rfl (lv_at hl 0 rfl) ?_
                  refine lv_iload_n hx hb dX7_readAll_81 rfl (lv_at hl 2 rfl) ?_
                  refine lv_iload_n hx hb dX7_readAll_82 rfl (lv_at hl 1 rfl) ?_
                  obtain ⟨r38, q39, hg⟩ := bd_e hg hne
                  refine r_calli (W.runV (As := [.int x35, .int x34]) (rest := []) CX (ctX7_isReadBy l D sw cs ad X M33 x35 x34 q39) (cwV 2 hts (gwV m2_140 m2_142 mp1_11 m1_1 m2_143) rfl rfl rfl (by decide +kernel) ⟨Nat.le_trans (Nat.le_of_ble_eq_true rfl) hR.1, Nat.le_trans (Nat.le_of_ble_eq_true rfl) hR.2⟩) (rPreV (hSW.wr hS) hK hP (by decide) rfl rfl _) rfl rfl hl.1 rfl (lv_room (Nat.le_of_ble_eq_true rfl)) dX7_readAll_83 ⟨Nat.zero_le _, Nat.zero_le _⟩) ?_
                  refine lv_if_eq (tgt := 111) hx hb dX7_readAll_86 (by decide) (fun c40 => ?_) (fun c40 => ?_)
                  · have hg := if_t hg c40
                    obtain ⟨x41, hx41, hg⟩ := lt_e hg
                    refine lv_iinc (v := x41) (lv' := [(2, .int x41), (0, .ref (ad 0)), (1, .int x34)]) hx hb dX7_readAll_111 hl (k := 2) rfl (hx41.symm) (by decide) rfl (fun ls hl => ?_)
                    refine lv_goto (tgt := 74) hx hb dX7_readAll_114 (by decide) ?_
                    exact ih _ _ _ _ _ _ hP hD hS (lv_sub hl [1, 2, 0] rfl) hg
                  · have hg := if_f hg c40
                    refine lv_aload_n hx hb dX7_readAll_89 rfl (lv_at hl 0 rfl) ?_
                    refine m_gr (C := RX7) (T := TX7) (n := 5) (ci := 5) hx hb hts in_RX7 hown hK hP (by decide) rfl rfl 2 (by decide) rfl lk_25 (fun _ h9 => h9) dX7_readAll_90 ?_
                    refine lv_iload_n hx hb dX7_readAll_93 rfl (lv_at hl 2 rfl) ?_
                    obtain ⟨b42, hg⟩ := ck_e hg hne
                    obtain ⟨v43, hv43, hg⟩ := lt_e hg
                    have h44 := ix_lt b42 hv43
                    refine m_lq (k := 13) hx hb hK hP (by decide) rfl b42 dX7_readAll_94 ?_
                    rw [← hv43]
                    refine m_gr (C := RX5) (T := TX5) (n := 5) (ci := 3) hx hb hts in_RX5 hown hK hP (kC_v0 h44) (LC_VAR v43) rfl 3 (by decide) rfl lk_148 (fun _ h9 => h9) dX7_readAll_95 ?_
                    refine lv_aload_n hx hb dX7_readAll_98 rfl (lv_at hl 0 rfl) ?_
                    refine m_gr (C := RX7) (T := TX7) (n := 5) (ci := 5) hx hb hts in_RX7 hown hK hP (by decide) rfl rfl 0 (by decide) rfl lk_10 (fun _ h9 => h9) dX7_readAll_99 ?_
                    refine m_gr (C := RX4) (T := TX4) (n := 2) (ci := 2) hx hb hts in_RX4 hown hK hP (by decide) rfl rfl 0 (by decide) rfl lk_105 (fun _ h9 => h9) dX7_readAll_102 ?_
                    refine lv_iload_n hx hb dX7_readAll_105 rfl (lv_at hl 1 rfl) ?_
                    obtain ⟨b45, hg⟩ := ck_e hg hne
                    refine m_ld hx hb hK hP (by decide) rfl b45 dX7_readAll_106 ?_
                    refine lv_iload_n hx hb dX7_readAll_107 rfl (lv_at hl 1 rfl) ?_
                    obtain ⟨M47, q46, hg⟩ := bd_e hg hne
                    refine w_callv (va_runV (As := [.int (M33 2 (x34).toNatClampNeg), .int x34]) (rest := []) CX (ctX1_take l D sw cs ad X H.size M33 v43 h44 (M33 2 (x34).toNatClampNeg) x34 q46) (cwV 2 hts (gwV m2_158 m2_159 m2_160 m1_5 m2_161) rfl rfl rfl (by decide +kernel) ⟨Nat.le_trans (Nat.le_of_ble_eq_true rfl) hR.1, Nat.le_trans (Nat.le_of_ble_eq_true rfl) hR.2⟩) (wPreV hSW hS hA hK hP hD (kC_v (j := 3) h44 (by decide)) (LC_RDG v43) rfl _) rfl rfl hl.1 rfl (lv_room (Nat.le_of_ble_eq_true rfl)) dX7_readAll_108 ⟨Nat.zero_le _, Nat.zero_le _⟩) hD hS hA (fun H locs hP hD hS => ?_)
                    obtain ⟨x48, hx48, hg⟩ := lt_e hg
                    refine lv_iinc (v := x48) (lv' := [(2, .int x48), (0, .ref (ad 0)), (1, .int x34)]) hx hb dX7_readAll_111 hl (k := 2) rfl (hx48.symm) (by decide) rfl (fun ls hl => ?_)
                    refine lv_goto (tgt := 74) hx hb dX7_readAll_114 (by decide) ?_
                    exact ih _ _ _ _ _ _ hP hD hS (lv_sub hl [1, 2, 0] rfl) hg
            exact kL74_49 FU _ _ _ _ _ _ hP hD hS (lv_sub hl [1, 2, 0] rfl) hg
    exact kL28_50 FU _ _ _ _ _ hP hD hS (lv_sub hl [1, 0] rfl) hg
  have kL2_61 : ∀ (n53 : Nat) (M51 : Mm) (x52 : Int32) (H : Heap) (locs : List Loc) (ls : Array Slot), va_P D vwCl (wl cs LC NC ad M51 ++ X) H → va_D A (wl cs LC NC ad M51 ++ X) → va_S A s.heap H locs → lv_has ls 3 [(0, .ref (ad 0)), (1, .int x52)] → gX7_readAll_L2 E2 n53 M51 x52 = res → W p l e R s m args below meth c H locs 0 0 Q (F0 m 2 ls []) := by
    intro n53
    induction n53 with
    | zero =>
      intro M51 x52 H locs ls hP hD hS hl hg
      rw [gX7_readAll_L2] at hg
      exact absurd hg.symm hne
    | succ n53 ih =>
      intro M51 x52 H locs ls hP hD hS hl hg
      rw [gX7_readAll_L2] at hg
      refine lv_iload_n hx hb dX7_readAll_2 rfl (lv_at hl 1 rfl) ?_
      refine lv_bipush (v := 16) hx hb dX7_readAll_3 (by decide) ?_
      refine lv_icmp_ge (tgt := 26) hx hb dX7_readAll_5 (by decide) (fun c54 => ?_) (fun c54 => ?_)
      · have hg := if_t hg c54
        exact kE2 _ _ _ _ hP hD hS (lv_sub hl [0] rfl) hg
      · have hg := if_f hg c54
        refine lv_aload_n hx hb dX7_readAll_8 rfl (lv_at hl 0 rfl) ?_
        refine m_gr (C := RX7) (T := TX7) (n := 5) (ci := 5) hx hb hts in_RX7 hown hK hP (by decide) rfl rfl 2 (by decide) rfl lk_25 (fun _ h9 => h9) dX7_readAll_9 ?_
        refine lv_iload_n hx hb dX7_readAll_12 rfl (lv_at hl 1 rfl) ?_
        obtain ⟨b55, hg⟩ := ck_e hg hne
        obtain ⟨v56, hv56, hg⟩ := lt_e hg
        have h57 := ix_lt b55 hv56
        refine m_lq (k := 13) hx hb hK hP (by decide) rfl b55 dX7_readAll_13 ?_
        rw [← hv56]
        refine m_gr (C := RX5) (T := TX5) (n := 5) (ci := 3) hx hb hts in_RX5 hown hK hP (kC_v0 h57) (LC_VAR v56) rfl 3 (by decide) rfl lk_148 (fun _ h9 => h9) dX7_readAll_14 ?_
        obtain ⟨M59, q58, hg⟩ := bd_e hg hne
        refine w_callv (va_runV (As := []) (rest := []) CX (ctX1_begin l D sw cs ad X H.size M51 v56 h57 q58) (cwV 0 hts (gwV m2_128 m2_129 m2_130 m1_5 m2_131) rfl rfl rfl (by decide +kernel) ⟨Nat.le_trans (Nat.le_of_ble_eq_true rfl) hR.1, Nat.le_trans (Nat.le_of_ble_eq_true rfl) hR.2⟩) (wPreV hSW hS hA hK hP hD (kC_v (j := 3) h57 (by decide)) (LC_RDG v56) rfl _) rfl rfl hl.1 rfl (lv_room (Nat.le_of_ble_eq_true rfl)) dX7_readAll_17 ⟨Nat.zero_le _, Nat.zero_le _⟩) hD hS hA (fun H locs hP hD hS => ?_)
        obtain ⟨x60, hx60, hg⟩ := lt_e hg
        refine lv_iinc (v := x60) (lv' := [(1, .int x60), (0, .ref (ad 0))]) hx hb dX7_readAll_20 hl (k := 1) rfl (hx60.symm) (by decide) rfl (fun ls hl => ?_)
        refine lv_goto (tgt := 2) hx hb dX7_readAll_23 (by decide) ?_
        exact ih _ _ _ _ _ hP hD hS (lv_sub hl [1, 0] rfl) hg
  exact kL2_61 FU _ _ _ _ _ hP hD hS (lv_sub hl [1, 0] rfl) hg
theorem ctX7_readAll (l : Launch) (D : va_G) (sw : Sw) (cs : Cs) (ad : Nat → Nat) (X : va_W) (sz : Nat) (M : Mm) {M1 : Mm} (hq : gX7_readAll M = some M1) : Met l yX7_readAll wsX7_readAll ({ frames := 6, cells := 0, slots := 0, locals := 133 }) (va_Pc [.ref (ad 0)] (wPre D sw cs LC NC ad M X sz)) (wQv D cs LC NC ad M1 X sz) 0 0 (wA NC ad X sz) :=
  met_w rfl rfl (Nat.le_of_ble_eq_true rfl) (fun p e s m args below meth c ls CX hr hlk hK hSW hP hD hS hA hl => bX7_readAll M hq (by simp) CX ⟨Nat.le_refl _, Nat.le_refl _⟩ hK hSW hP hD hS hA hl (fun pc ls H locs M9 hv dg hP hD hS => W.vret CX.1 CX.2.1 hr (fun t ht hW => ⟨⟨(), rfl, trivial, wpost hP ht (Option.some.inj hv)⟩, hS.F ht⟩) hS.2.2 dg))

abbrev wsX7_runAll : List Cond := Cond.code yX7_runAll cX7_runAll 2 none :: WG
def gX7_runAll_L2 : Nat → Mm → Int32 → Option Mm
  | 0, _, _ => none
  | n3 + 1, M1, x2 => if (16 : Int32) ≤ x2 then (some M1) else if (x2 < 0 ∨ 16 ≤ (x2).toNatClampNeg) then none else lt ((x2).toNatClampNeg) fun v6 => if (M1 (vb v6 + 3) 4) = (-1 : Int32) then (if (x2 < 0 ∨ 16 ≤ (x2).toNatClampNeg) then none else lt ((x2).toNatClampNeg) fun v11 => if (x2 < 0 ∨ 16 ≤ (x2).toNatClampNeg) then none else lt ((x2).toNatClampNeg) fun v14 => if (x2 < 0 ∨ 16 ≤ (x2).toNatClampNeg) then none else lt ((x2).toNatClampNeg) fun v17 => bd (gX3_execute M1 v11 (vb v14 + 1) 80 (M1 (vb v17) 2)) fun M20 => lt (x2 + (1 : Int32)) fun x21 => gX7_runAll_L2 n3 M20 x21) else lt (x2 + (1 : Int32)) fun x9 => gX7_runAll_L2 n3 M1 x9
def gX7_runAll (M : Mm) : Option Mm := gX7_runAll_L2 FU M (0 : Int32)
set_option maxHeartbeats 4000000 in
set_option maxRecDepth 100000 in
theorem bX7_runAll {p : Program} {l : Launch} {e : Env} {R : Room} {s : State} {m : MethodId} {args : Array Value} {below : List Frame} {meth : Method} {c : Code} {H : Heap} {locs : List Loc} {Q : State → Prop} {D : va_G} {sw : Sw} {cs : Cs} {ad : Nat → Nat} {X : va_W} {A : Nat → Prop} (M : Mm) {res : Option Mm} (hg : gX7_runAll M = res) (hne : res ≠ none) (CX : CallFix p m c cX7_runAll 2 s args wsX7_runAll RX7) (hR : 404 ≤ R.frames ∧ 9688 ≤ R.locals) (hK : va_K D vwCl (tysC cs) s) (hSW : SW sw A s s.heap) (hP : va_P D vwCl (wl cs LC NC ad M ++ X) H) (hD : va_D A (wl cs LC NC ad M ++ X)) (hS : va_S A s.heap H locs) (hA : ∀ q, s.heap.size ≤ q → A q) {ls : Array Slot} (hl : lv_has ls 2 [(0, .ref (ad 0))]) (hret : ∀ (pc : Nat) (ls : Array Slot) (H : Heap) (locs : List Loc) (M9 : Mm), some M9 = res → decode cX7_runAll pc = .ok (.return_, 1) → va_P D vwCl (wl cs LC NC ad M9 ++ X) H → va_D A (wl cs LC NC ad M9 ++ X) → va_S A s.heap H locs → W p l e R s m args below meth c H locs 0 0 Q (F0 m pc ls [])) : W p l e R s m args below meth c H locs 0 0 Q (F0 m 0 ls []) := by
  obtain ⟨hx, hb, hml, hown, hts⟩ := id CX
  have hw : ∀ w ∈ WG, w.before args s = true := fun w h => hts w (List.mem_cons_of_mem _ h)
  have lk_25 := hw _ m1_161
  have lk_148 := hw _ m1_145
  have lk_152 := hw _ m1_98
  have lk_169 := hw _ m1_147
  have lk_257 := hw _ m1_139
  have lk_132 := hw _ m1_143
  unfold gX7_runAll at hg
  refine lv_iconst (v := 0) hx hb dX7_runAll_0 (by decide) ?_
  refine lv_istore_n (lv' := [(1, .int (0 : Int32)), (0, .ref (ad 0))]) hx hb dX7_runAll_1 rfl hl (by decide) rfl (fun ls hl => ?_)
  have kL2_22 : ∀ (n3 : Nat) (M1 : Mm) (x2 : Int32) (H : Heap) (locs : List Loc) (ls : Array Slot), va_P D vwCl (wl cs LC NC ad M1 ++ X) H → va_D A (wl cs LC NC ad M1 ++ X) → va_S A s.heap H locs → lv_has ls 2 [(0, .ref (ad 0)), (1, .int x2)] → gX7_runAll_L2 n3 M1 x2 = res → W p l e R s m args below meth c H locs 0 0 Q (F0 m 2 ls []) := by
    intro n3
    induction n3 with
    | zero =>
      intro M1 x2 H locs ls hP hD hS hl hg
      rw [gX7_runAll_L2] at hg
      exact absurd hg.symm hne
    | succ n3 ih =>
      intro M1 x2 H locs ls hP hD hS hl hg
      rw [gX7_runAll_L2] at hg
      refine lv_iload_n hx hb dX7_runAll_2 rfl (lv_at hl 1 rfl) ?_
      refine lv_bipush (v := 16) hx hb dX7_runAll_3 (by decide) ?_
      refine lv_icmp_ge (tgt := 60) hx hb dX7_runAll_5 (by decide) (fun c4 => ?_) (fun c4 => ?_)
      · have hg := if_t hg c4
        exact hret _ _ _ _ _ hg dX7_runAll_60 hP hD hS
      · have hg := if_f hg c4
        refine lv_aload_n hx hb dX7_runAll_8 rfl (lv_at hl 0 rfl) ?_
        refine m_gr (C := RX7) (T := TX7) (n := 5) (ci := 5) hx hb hts in_RX7 hown hK hP (by decide) rfl rfl 2 (by decide) rfl lk_25 (fun _ h9 => h9) dX7_runAll_9 ?_
        refine lv_iload_n hx hb dX7_runAll_12 rfl (lv_at hl 1 rfl) ?_
        obtain ⟨b5, hg⟩ := ck_e hg hne
        obtain ⟨v6, hv6, hg⟩ := lt_e hg
        have h7 := ix_lt b5 hv6
        refine m_lq (k := 13) hx hb hK hP (by decide) rfl b5 dX7_runAll_13 ?_
        rw [← hv6]
        refine m_gr (C := RX5) (T := TX5) (n := 5) (ci := 3) hx hb hts in_RX5 hown hK hP (kC_v0 h7) (LC_VAR v6) rfl 3 (by decide) rfl lk_148 (fun _ h9 => h9) dX7_runAll_14 ?_
        refine m_gi (C := RX1) (T := TX1) (n := 5) (ci := 0) hx hb hts in_RX1 hown hK hP (kC_v (j := 3) h7 (by decide)) (LC_RDG v6) rfl 4 (by decide) rfl lk_152 (fun _ h9 => h9) dX7_runAll_17 ?_
        refine lv_iconst (v := -1) hx hb dX7_runAll_20 (by decide) ?_
        refine lv_icmp_ne (tgt := 54) hx hb dX7_runAll_21 (by decide) (fun c8 => ?_) (fun c8 => ?_)
        · have hg := if_f hg c8
          obtain ⟨x9, hx9, hg⟩ := lt_e hg
          refine lv_iinc (v := x9) (lv' := [(1, .int x9), (0, .ref (ad 0))]) hx hb dX7_runAll_54 hl (k := 1) rfl (hx9.symm) (by decide) rfl (fun ls hl => ?_)
          refine lv_goto (tgt := 2) hx hb dX7_runAll_57 (by decide) ?_
          exact ih _ _ _ _ _ hP hD hS (lv_sub hl [1, 0] rfl) hg
        · have hg := if_t hg c8
          refine lv_aload_n hx hb dX7_runAll_24 rfl (lv_at hl 0 rfl) ?_
          refine m_gr (C := RX7) (T := TX7) (n := 5) (ci := 5) hx hb hts in_RX7 hown hK hP (by decide) rfl rfl 2 (by decide) rfl lk_25 (fun _ h9 => h9) dX7_runAll_25 ?_
          refine lv_iload_n hx hb dX7_runAll_28 rfl (lv_at hl 1 rfl) ?_
          obtain ⟨b10, hg⟩ := ck_e hg hne
          obtain ⟨v11, hv11, hg⟩ := lt_e hg
          have h12 := ix_lt b10 hv11
          refine m_lq (k := 13) hx hb hK hP (by decide) rfl b10 dX7_runAll_29 ?_
          rw [← hv11]
          refine m_gr (C := RX5) (T := TX5) (n := 5) (ci := 3) hx hb hts in_RX5 hown hK hP (kC_v0 h12) (LC_VAR v11) rfl 4 (by decide) rfl lk_169 (fun _ h9 => h9) dX7_runAll_30 ?_
          refine lv_aload_n hx hb dX7_runAll_33 rfl (lv_at hl 0 rfl) ?_
          refine m_gr (C := RX7) (T := TX7) (n := 5) (ci := 5) hx hb hts in_RX7 hown hK hP (by decide) rfl rfl 2 (by decide) rfl lk_25 (fun _ h9 => h9) dX7_runAll_34 ?_
          refine lv_iload_n hx hb dX7_runAll_37 rfl (lv_at hl 1 rfl) ?_
          obtain ⟨b13, hg⟩ := ck_e hg hne
          obtain ⟨v14, hv14, hg⟩ := lt_e hg
          have h15 := ix_lt b13 hv14
          refine m_lq (k := 13) hx hb hK hP (by decide) rfl b13 dX7_runAll_38 ?_
          rw [← hv14]
          refine m_gr (C := RX5) (T := TX5) (n := 5) (ci := 3) hx hb hts in_RX5 hown hK hP (kC_v0 h15) (LC_VAR v14) rfl 0 (by decide) rfl lk_257 (fun _ h9 => h9) dX7_runAll_39 ?_
          refine lv_aload_n hx hb dX7_runAll_42 rfl (lv_at hl 0 rfl) ?_
          refine m_gr (C := RX7) (T := TX7) (n := 5) (ci := 5) hx hb hts in_RX7 hown hK hP (by decide) rfl rfl 2 (by decide) rfl lk_25 (fun _ h9 => h9) dX7_runAll_43 ?_
          refine lv_iload_n hx hb dX7_runAll_46 rfl (lv_at hl 1 rfl) ?_
          obtain ⟨b16, hg⟩ := ck_e hg hne
          obtain ⟨v17, hv17, hg⟩ := lt_e hg
          have h18 := ix_lt b16 hv17
          refine m_lq (k := 13) hx hb hK hP (by decide) rfl b16 dX7_runAll_47 ?_
          rw [← hv17]
          refine m_gi (C := RX5) (T := TX5) (n := 5) (ci := 3) hx hb hts in_RX5 hown hK hP (kC_v0 h18) (LC_VAR v17) rfl 2 (by decide) rfl lk_132 (fun _ h9 => h9) dX7_runAll_48 ?_
          obtain ⟨M20, q19, hg⟩ := bd_e hg hne
          refine w_callv (va_runV (As := [.ref (ad (vb v14 + 1)), .int (M1 (vb v17) 2)]) (rest := []) CX (ctX3_execute l D sw cs ad X H.size M1 v11 h12 (vb v14 + 1) 80 (kC_v (j := 1) h15 (by decide)) (LC_VTOK v14) (M1 (vb v17) 2) q19) (cwV 2 hts (gwV m3_6 m3_7 m3_8 m1_6 m3_9) rfl rfl rfl (by decide +kernel) ⟨Nat.le_trans (Nat.le_of_ble_eq_true rfl) hR.1, Nat.le_trans (Nat.le_of_ble_eq_true rfl) hR.2⟩) (wPreV hSW hS hA hK hP hD (kC_v (j := 6) h12 (by decide)) (LC_RUN v11) rfl _) rfl rfl hl.1 rfl (lv_room (Nat.le_of_ble_eq_true rfl)) dX7_runAll_51 ⟨Nat.zero_le _, Nat.zero_le _⟩) hD hS hA (fun H locs hP hD hS => ?_)
          obtain ⟨x21, hx21, hg⟩ := lt_e hg
          refine lv_iinc (v := x21) (lv' := [(1, .int x21), (0, .ref (ad 0))]) hx hb dX7_runAll_54 hl (k := 1) rfl (hx21.symm) (by decide) rfl (fun ls hl => ?_)
          refine lv_goto (tgt := 2) hx hb dX7_runAll_57 (by decide) ?_
          exact ih _ _ _ _ _ hP hD hS (lv_sub hl [1, 0] rfl) hg
  exact kL2_22 FU _ _ _ _ _ hP hD hS (lv_sub hl [1, 0] rfl) hg
theorem ctX7_runAll (l : Launch) (D : va_G) (sw : Sw) (cs : Cs) (ad : Nat → Nat) (X : va_W) (sz : Nat) (M : Mm) {M1 : Mm} (hq : gX7_runAll M = some M1) : Met l yX7_runAll wsX7_runAll ({ frames := 404, cells := 0, slots := 0, locals := 9688 }) (va_Pc [.ref (ad 0)] (wPre D sw cs LC NC ad M X sz)) (wQv D cs LC NC ad M1 X sz) 0 0 (wA NC ad X sz) :=
  met_w rfl rfl (Nat.le_of_ble_eq_true rfl) (fun p e s m args below meth c ls CX hr hlk hK hSW hP hD hS hA hl => bX7_runAll M hq (by simp) CX ⟨Nat.le_refl _, Nat.le_refl _⟩ hK hSW hP hD hS hA hl (fun pc ls H locs M9 hv dg hP hD hS => W.vret CX.1 CX.2.1 hr (fun t ht hW => ⟨⟨(), rfl, trivial, wpost hP ht (Option.some.inj hv)⟩, hS.F ht⟩) hS.2.2 dg))

abbrev wsX7_refresh : List Cond := Cond.code yX7_refresh cX7_refresh 1 none :: WG
def gX7_refresh (M : Mm) : Option Mm := if (M 0 4) = 0 then (bd (gX6_goThrough M ) fun M3 => bd (gX7_collectVariants M3 ) fun M5 => bd (gX4_countUnfinished M5 ) fun r6 => if r6 = 0 then (bd (gX7_readAll M5 ) fun M11 => bd (gX7_runAll M11 ) fun M13 => lt (um M13 0 4 (1 : Int32)) fun M14 => some M14) else lt (um M5 0 4 (1 : Int32)) fun M9 => some M9) else some M
set_option maxHeartbeats 4000000 in
set_option maxRecDepth 100000 in
theorem bX7_refresh {p : Program} {l : Launch} {e : Env} {R : Room} {s : State} {m : MethodId} {args : Array Value} {below : List Frame} {meth : Method} {c : Code} {H : Heap} {locs : List Loc} {Q : State → Prop} {D : va_G} {sw : Sw} {cs : Cs} {ad : Nat → Nat} {X : va_W} {A : Nat → Prop} (M : Mm) {res : Option Mm} (hg : gX7_refresh M = res) (hne : res ≠ none) (CX : CallFix p m c cX7_refresh 1 s args wsX7_refresh RX7) (hR : 405 ≤ R.frames ∧ 9709 ≤ R.locals) (hK : va_K D vwCl (tysC cs) s) (hSW : SW sw A s s.heap) (hP : va_P D vwCl (wl cs LC NC ad M ++ X) H) (hD : va_D A (wl cs LC NC ad M ++ X)) (hS : va_S A s.heap H locs) (hA : ∀ q, s.heap.size ≤ q → A q) {ls : Array Slot} (hl : lv_has ls 1 [(0, .ref (ad 0))]) (hret : ∀ (pc : Nat) (ls : Array Slot) (H : Heap) (locs : List Loc) (M9 : Mm), some M9 = res → decode cX7_refresh pc = .ok (.return_, 1) → va_P D vwCl (wl cs LC NC ad M9 ++ X) H → va_D A (wl cs LC NC ad M9 ++ X) → va_S A s.heap H locs → W p l e R s m args below meth c H locs 0 0 Q (F0 m pc ls [])) : W p l e R s m args below meth c H locs 0 0 Q (F0 m 0 ls []) := by
  obtain ⟨hx, hb, hml, hown, hts⟩ := id CX
  have hw : ∀ w ∈ WG, w.before args s = true := fun w h => hts w (List.mem_cons_of_mem _ h)
  have lk_34 := hw _ m1_163
  have lk_19 := hw _ m1_160
  have lk_10 := hw _ m1_159
  unfold gX7_refresh at hg
  refine lv_aload_n hx hb dX7_refresh_0 rfl (lv_at hl 0 rfl) ?_
  refine m_gi (C := RX7) (T := TX7) (n := 5) (ci := 5) hx hb hts in_RX7 hown hK hP (by decide) rfl rfl 4 (by decide) rfl lk_34 (fun _ h9 => h9) dX7_refresh_1 ?_
  refine lv_if_eq (tgt := 8) hx hb dX7_refresh_4 (by decide) (fun c1 => ?_) (fun c1 => ?_)
  · have hg := if_t hg c1
    refine lv_aload_n hx hb dX7_refresh_8 rfl (lv_at hl 0 rfl) ?_
    refine m_gr (C := RX7) (T := TX7) (n := 5) (ci := 5) hx hb hts in_RX7 hown hK hP (by decide) rfl rfl 1 (by decide) rfl lk_19 (fun _ h9 => h9) dX7_refresh_9 ?_
    refine lv_aload_n hx hb dX7_refresh_12 rfl (lv_at hl 0 rfl) ?_
    refine m_gr (C := RX7) (T := TX7) (n := 5) (ci := 5) hx hb hts in_RX7 hown hK hP (by decide) rfl rfl 0 (by decide) rfl lk_10 (fun _ h9 => h9) dX7_refresh_13 ?_
    obtain ⟨M3, q2, hg⟩ := bd_e hg hne
    refine w_callv (va_runV (As := [.ref (ad 1)]) (rest := []) CX (ctX6_goThrough l D sw cs ad X H.size M  q2) (cwV 1 hts (gwV m2_76 m2_77 m2_78 m1_3 m2_79) rfl rfl rfl (by decide +kernel) ⟨Nat.le_trans (Nat.le_of_ble_eq_true rfl) hR.1, Nat.le_trans (Nat.le_of_ble_eq_true rfl) hR.2⟩) (wPreV hSW hS hA hK hP hD (by decide) rfl rfl _) rfl rfl hl.1 rfl (lv_room (Nat.le_of_ble_eq_true rfl)) dX7_refresh_16 ⟨Nat.zero_le _, Nat.zero_le _⟩) hD hS hA (fun H locs hP hD hS => ?_)
    refine lv_aload_n hx hb dX7_refresh_19 rfl (lv_at hl 0 rfl) ?_
    obtain ⟨M5, q4, hg⟩ := bd_e hg hne
    refine w_callv (va_runV (As := []) (rest := []) CX (ctX7_collectVariants l D sw cs ad X H.size M3  q4) (cwV 0 hts (gwV m2_107 m2_109 mp1_7 m1_1 m2_110) rfl rfl rfl (by decide +kernel) ⟨Nat.le_trans (Nat.le_of_ble_eq_true rfl) hR.1, Nat.le_trans (Nat.le_of_ble_eq_true rfl) hR.2⟩) (wPreV hSW hS hA hK hP hD (by decide) rfl rfl _) rfl rfl hl.1 rfl (lv_room (Nat.le_of_ble_eq_true rfl)) dX7_refresh_20 ⟨Nat.zero_le _, Nat.zero_le _⟩) hD hS hA (fun H locs hP hD hS => ?_)
    refine lv_aload_n hx hb dX7_refresh_23 rfl (lv_at hl 0 rfl) ?_
    refine m_gr (C := RX7) (T := TX7) (n := 5) (ci := 5) hx hb hts in_RX7 hown hK hP (by decide) rfl rfl 0 (by decide) rfl lk_10 (fun _ h9 => h9) dX7_refresh_24 ?_
    obtain ⟨r6, q7, hg⟩ := bd_e hg hne
    refine r_calli (W.runV (As := []) (rest := []) CX (ctX4_countUnfinished l D sw cs ad X M5  q7) (cwV 0 hts (gwV m2_119 m2_120 m2_121 m1_2 m2_122) rfl rfl rfl (by decide +kernel) ⟨Nat.le_trans (Nat.le_of_ble_eq_true rfl) hR.1, Nat.le_trans (Nat.le_of_ble_eq_true rfl) hR.2⟩) (rPreV (hSW.wr hS) hK hP (by decide) rfl rfl _) rfl rfl hl.1 rfl (lv_room (Nat.le_of_ble_eq_true rfl)) dX7_refresh_27 ⟨Nat.zero_le _, Nat.zero_le _⟩) ?_
    refine lv_if_ne (tgt := 41) hx hb dX7_refresh_30 (by decide) (fun c8 => ?_) (fun c8 => ?_)
    · have hg := if_f hg c8
      refine lv_aload_n hx hb dX7_refresh_41 rfl (lv_at hl 0 rfl) ?_
      refine lv_iconst (v := 1) hx hb dX7_refresh_42 (by decide) ?_
      obtain ⟨M9, hM9, hg⟩ := lt_e hg
      refine m_pi (C := RX7) (T := TX7) (n := 5) (ci := 5) hx hb hts in_RX7 tyX7 tyX7_ok nmX7 hown hK hP hD hS (by decide) rfl rfl 4 (by decide) rfl lk_34 (fun _ h9 => h9) rfl rfl rfl dX7_refresh_43 hM9 (fun H locs hP hD hS => ?_)
      exact hret _ _ _ _ _ hg dX7_refresh_46 hP hD hS
    · have hg := if_t hg c8
      refine lv_aload_n hx hb dX7_refresh_33 rfl (lv_at hl 0 rfl) ?_
      obtain ⟨M11, q10, hg⟩ := bd_e hg hne
      refine w_callv (va_runV (As := []) (rest := []) CX (ctX7_readAll l D sw cs ad X H.size M5  q10) (cwV 0 hts (gwV m2_124 m2_126 mp1_8 m1_1 m2_127) rfl rfl rfl (by decide +kernel) ⟨Nat.le_trans (Nat.le_of_ble_eq_true rfl) hR.1, Nat.le_trans (Nat.le_of_ble_eq_true rfl) hR.2⟩) (wPreV hSW hS hA hK hP hD (by decide) rfl rfl _) rfl rfl hl.1 rfl (lv_room (Nat.le_of_ble_eq_true rfl)) dX7_refresh_34 ⟨Nat.zero_le _, Nat.zero_le _⟩) hD hS hA (fun H locs hP hD hS => ?_)
      refine lv_aload_n hx hb dX7_refresh_37 rfl (lv_at hl 0 rfl) ?_
      obtain ⟨M13, q12, hg⟩ := bd_e hg hne
      refine w_callv (va_runV (As := []) (rest := []) CX (ctX7_runAll l D sw cs ad X H.size M11  q12) (cwV 0 hts (gwV m3_2 m3_4 mp1_14 m1_1 m3_5) rfl rfl rfl (by decide +kernel) ⟨Nat.le_trans (Nat.le_of_ble_eq_true rfl) hR.1, Nat.le_trans (Nat.le_of_ble_eq_true rfl) hR.2⟩) (wPreV hSW hS hA hK hP hD (by decide) rfl rfl _) rfl rfl hl.1 rfl (lv_room (Nat.le_of_ble_eq_true rfl)) dX7_refresh_38 ⟨Nat.zero_le _, Nat.zero_le _⟩) hD hS hA (fun H locs hP hD hS => ?_)
      refine lv_aload_n hx hb dX7_refresh_41 rfl (lv_at hl 0 rfl) ?_
      refine lv_iconst (v := 1) hx hb dX7_refresh_42 (by decide) ?_
      obtain ⟨M14, hM14, hg⟩ := lt_e hg
      refine m_pi (C := RX7) (T := TX7) (n := 5) (ci := 5) hx hb hts in_RX7 tyX7 tyX7_ok nmX7 hown hK hP hD hS (by decide) rfl rfl 4 (by decide) rfl lk_34 (fun _ h9 => h9) rfl rfl rfl dX7_refresh_43 hM14 (fun H locs hP hD hS => ?_)
      exact hret _ _ _ _ _ hg dX7_refresh_46 hP hD hS
  · have hg := if_f hg c1
    exact hret _ _ _ _ _ hg dX7_refresh_7 hP hD hS
theorem ctX7_refresh (l : Launch) (D : va_G) (sw : Sw) (cs : Cs) (ad : Nat → Nat) (X : va_W) (sz : Nat) (M : Mm) {M1 : Mm} (hq : gX7_refresh M = some M1) : Met l yX7_refresh wsX7_refresh ({ frames := 405, cells := 0, slots := 0, locals := 9709 }) (va_Pc [.ref (ad 0)] (wPre D sw cs LC NC ad M X sz)) (wQv D cs LC NC ad M1 X sz) 0 0 (wA NC ad X sz) :=
  met_w rfl rfl (Nat.le_of_ble_eq_true rfl) (fun p e s m args below meth c ls CX hr hlk hK hSW hP hD hS hA hl => bX7_refresh M hq (by simp) CX ⟨Nat.le_refl _, Nat.le_refl _⟩ hK hSW hP hD hS hA hl (fun pc ls H locs M9 hv dg hP hD hS => W.vret CX.1 CX.2.1 hr (fun t ht hW => ⟨⟨(), rfl, trivial, wpost hP ht (Option.some.inj hv)⟩, hS.F ht⟩) hS.2.2 dg))

abbrev wsX7_size : List Cond := Cond.code yX7_size cX7_size 1 (some .int) :: WG
def gX7_size (M : Mm) : Option Int32 := some (M 1 1)
set_option maxHeartbeats 4000000 in
set_option maxRecDepth 100000 in
theorem bX7_size {p : Program} {l : Launch} {e : Env} {R : Room} {s : State} {m : MethodId} {args : Array Value} {below : List Frame} {meth : Method} {c : Code} {H : Heap} {locs : List Loc} {Q : State → Prop} {D : va_G} {sw : Sw} {cs : Cs} {ad : Nat → Nat} {X : va_W} (M : Mm) {res : Option Int32} (hg : gX7_size M = res) (hne : res ≠ none) (CX : CallFix p m c cX7_size 1 s args wsX7_size RX7) (hR : 0 ≤ R.frames ∧ 0 ≤ R.locals) (hK : va_K D vwCl (tysC cs) s) (hSW : SW sw (fun _ => False) s H) (hP : va_P D vwCl (wl cs LC NC ad M ++ X) H) {ls : Array Slot} (hl : lv_has ls 1 [(0, .ref (ad 0))]) (hret : ∀ (pc : Nat) (ls : Array Slot) (v : Int32), some v = res → decode cX7_size pc = .ok (.ireturn, 1) → W p l e R s m args below meth c H locs 0 0 Q (F0 m pc ls [.int v])) : W p l e R s m args below meth c H locs 0 0 Q (F0 m 0 ls []) := by
  obtain ⟨hx, hb, hml, hown, hts⟩ := id CX
  have hw : ∀ w ∈ WG, w.before args s = true := fun w h => hts w (List.mem_cons_of_mem _ h)
  have lk_10 := hw _ m1_159
  have lk_55 := hw _ m1_39
  unfold gX7_size at hg
  refine lv_aload_n hx hb dX7_size_0 rfl (lv_at hl 0 rfl) ?_
  refine m_gr (C := RX7) (T := TX7) (n := 5) (ci := 5) hx hb hts in_RX7 hown hK hP (by decide) rfl rfl 0 (by decide) rfl lk_10 (fun _ h9 => h9) dX7_size_1 ?_
  refine m_gi (C := RX4) (T := TX4) (n := 2) (ci := 2) hx hb hts in_RX4 hown hK hP (by decide) rfl rfl 1 (by decide) rfl lk_55 (fun _ h9 => h9) dX7_size_4 ?_
  exact hret _ _ _ hg dX7_size_7
theorem ctX7_size (l : Launch) (D : va_G) (sw : Sw) (cs : Cs) (ad : Nat → Nat) (X : va_W) (M : Mm) {r : Int32} (hq : gX7_size M = some r) : Met l yX7_size wsX7_size ({ frames := 0, cells := 0, slots := 0, locals := 0 }) (va_Pc [.ref (ad 0)] (rPre D sw cs LC NC ad M X)) (vp_Si (fun r' => r' = r)) 0 0 (fun _ => False) :=
  met_r rfl rfl (Nat.le_of_ble_eq_true rfl) (fun p e s m args below meth c ls CX hr hlk hK hSW hP hl => bX7_size M hq (by simp) CX ⟨Nat.le_refl _, Nat.le_refl _⟩ hK hSW hP hl (fun pc ls v hv dg => W.iret CX.1 CX.2.1 hr (fun t ht hW => ⟨_, rfl, Option.some.inj hv, ht⟩) (fun _ h => by cases h) dg))

abbrev wsX7_unfinished : List Cond := Cond.code yX7_unfinished cX7_unfinished 1 (some .int) :: WG
def gX7_unfinished (M : Mm) : Option Int32 := bd (gX4_countUnfinished M ) fun r1 => some r1
set_option maxHeartbeats 4000000 in
set_option maxRecDepth 100000 in
theorem bX7_unfinished {p : Program} {l : Launch} {e : Env} {R : Room} {s : State} {m : MethodId} {args : Array Value} {below : List Frame} {meth : Method} {c : Code} {H : Heap} {locs : List Loc} {Q : State → Prop} {D : va_G} {sw : Sw} {cs : Cs} {ad : Nat → Nat} {X : va_W} (M : Mm) {res : Option Int32} (hg : gX7_unfinished M = res) (hne : res ≠ none) (CX : CallFix p m c cX7_unfinished 1 s args wsX7_unfinished RX7) (hR : 2 ≤ R.frames ∧ 42 ≤ R.locals) (hK : va_K D vwCl (tysC cs) s) (hSW : SW sw (fun _ => False) s H) (hP : va_P D vwCl (wl cs LC NC ad M ++ X) H) {ls : Array Slot} (hl : lv_has ls 1 [(0, .ref (ad 0))]) (hret : ∀ (pc : Nat) (ls : Array Slot) (v : Int32), some v = res → decode cX7_unfinished pc = .ok (.ireturn, 1) → W p l e R s m args below meth c H locs 0 0 Q (F0 m pc ls [.int v])) : W p l e R s m args below meth c H locs 0 0 Q (F0 m 0 ls []) := by
  obtain ⟨hx, hb, hml, hown, hts⟩ := id CX
  have hw : ∀ w ∈ WG, w.before args s = true := fun w h => hts w (List.mem_cons_of_mem _ h)
  have lk_10 := hw _ m1_159
  unfold gX7_unfinished at hg
  refine lv_aload_n hx hb dX7_unfinished_0 rfl (lv_at hl 0 rfl) ?_
  refine m_gr (C := RX7) (T := TX7) (n := 5) (ci := 5) hx hb hts in_RX7 hown hK hP (by decide) rfl rfl 0 (by decide) rfl lk_10 (fun _ h9 => h9) dX7_unfinished_1 ?_
  obtain ⟨r1, q2, hg⟩ := bd_e hg hne
  refine r_calli (W.runV (As := []) (rest := []) CX (ctX4_countUnfinished l D sw cs ad X M  q2) (cwV 0 hts (gwV m2_119 m2_120 m2_121 m1_2 m2_122) rfl rfl rfl (by decide +kernel) ⟨Nat.le_trans (Nat.le_of_ble_eq_true rfl) hR.1, Nat.le_trans (Nat.le_of_ble_eq_true rfl) hR.2⟩) (rPreV hSW hK hP (by decide) rfl rfl _) rfl rfl hl.1 rfl (lv_room (Nat.le_of_ble_eq_true rfl)) dX7_unfinished_4 ⟨Nat.zero_le _, Nat.zero_le _⟩) ?_
  exact hret _ _ _ hg dX7_unfinished_7
theorem ctX7_unfinished (l : Launch) (D : va_G) (sw : Sw) (cs : Cs) (ad : Nat → Nat) (X : va_W) (M : Mm) {r : Int32} (hq : gX7_unfinished M = some r) : Met l yX7_unfinished wsX7_unfinished ({ frames := 2, cells := 0, slots := 0, locals := 42 }) (va_Pc [.ref (ad 0)] (rPre D sw cs LC NC ad M X)) (vp_Si (fun r' => r' = r)) 0 0 (fun _ => False) :=
  met_r rfl rfl (Nat.le_of_ble_eq_true rfl) (fun p e s m args below meth c ls CX hr hlk hK hSW hP hl => bX7_unfinished M hq (by simp) CX ⟨Nat.le_refl _, Nat.le_refl _⟩ hK hSW hP hl (fun pc ls v hv dg => W.iret CX.1 CX.2.1 hr (fun t ht hW => ⟨_, rfl, Option.some.inj hv, ht⟩) (fun _ h => by cases h) dg))

abbrev wsX7_variants : List Cond := Cond.code yX7_variants cX7_variants 3 (some .int) :: WG
def gX7_variants_L8 : Nat → Mm → Int32 → Int32 → Option (Int32 × Mm)
  | 0, _, _, _ => none
  | n6 + 1, M3, x4, x5 => if (16 : Int32) ≤ x5 then (some (x4, M3)) else bd (gX7_isFirstOfItsText M3 x5) fun r8 => if r8 = 0 then (lt (x5 + (1 : Int32)) fun x11 => gX7_variants_L8 n6 M3 x4 x11) else lt (x4 + (1 : Int32)) fun x12 => lt (x5 + (1 : Int32)) fun x13 => gX7_variants_L8 n6 M3 x12 x13
def gX7_variants (M : Mm) : Option (Int32 × Mm) := bd (gX7_refresh M ) fun M2 => gX7_variants_L8 FU M2 (0 : Int32) (0 : Int32)
set_option maxHeartbeats 4000000 in
set_option maxRecDepth 100000 in
theorem bX7_variants {p : Program} {l : Launch} {e : Env} {R : Room} {s : State} {m : MethodId} {args : Array Value} {below : List Frame} {meth : Method} {c : Code} {H : Heap} {locs : List Loc} {Q : State → Prop} {D : va_G} {sw : Sw} {cs : Cs} {ad : Nat → Nat} {X : va_W} {A : Nat → Prop} (M : Mm) {res : Option (Int32 × Mm)} (hg : gX7_variants M = res) (hne : res ≠ none) (CX : CallFix p m c cX7_variants 3 s args wsX7_variants RX7) (hR : 406 ≤ R.frames ∧ 9729 ≤ R.locals) (hK : va_K D vwCl (tysC cs) s) (hSW : SW sw A s s.heap) (hP : va_P D vwCl (wl cs LC NC ad M ++ X) H) (hD : va_D A (wl cs LC NC ad M ++ X)) (hS : va_S A s.heap H locs) (hA : ∀ q, s.heap.size ≤ q → A q) {ls : Array Slot} (hl : lv_has ls 3 [(0, .ref (ad 0))]) (hret : ∀ (pc : Nat) (ls : Array Slot) (H : Heap) (locs : List Loc) (v : Int32) (M9 : Mm), some (v, M9) = res → decode cX7_variants pc = .ok (.ireturn, 1) → va_P D vwCl (wl cs LC NC ad M9 ++ X) H → va_D A (wl cs LC NC ad M9 ++ X) → va_S A s.heap H locs → W p l e R s m args below meth c H locs 0 0 Q (F0 m pc ls [.int v])) : W p l e R s m args below meth c H locs 0 0 Q (F0 m 0 ls []) := by
  obtain ⟨hx, hb, hml, hown, hts⟩ := id CX
  have hw : ∀ w ∈ WG, w.before args s = true := fun w h => hts w (List.mem_cons_of_mem _ h)
  unfold gX7_variants at hg
  refine lv_aload_n hx hb dX7_variants_0 rfl (lv_at hl 0 rfl) ?_
  obtain ⟨M2, q1, hg⟩ := bd_e hg hne
  refine w_callv (va_runV (As := []) (rest := []) CX (ctX7_refresh l D sw cs ad X H.size M  q1) (cwV 0 hts (gwV m2_72 m2_74 mp1_3 m1_1 m2_75) rfl rfl rfl (by decide +kernel) ⟨Nat.le_trans (Nat.le_of_ble_eq_true rfl) hR.1, Nat.le_trans (Nat.le_of_ble_eq_true rfl) hR.2⟩) (wPreV hSW hS hA hK hP hD (by decide) rfl rfl _) rfl rfl hl.1 rfl (lv_room (Nat.le_of_ble_eq_true rfl)) dX7_variants_1 ⟨Nat.zero_le _, Nat.zero_le _⟩) hD hS hA (fun H locs hP hD hS => ?_)
  refine lv_iconst (v := 0) hx hb dX7_variants_4 (by decide) ?_
  refine lv_istore_n (lv' := [(1, .int (0 : Int32)), (0, .ref (ad 0))]) hx hb dX7_variants_5 rfl hl (by decide) rfl (fun ls hl => ?_)
  refine lv_iconst (v := 0) hx hb dX7_variants_6 (by decide) ?_
  refine lv_istore_n (lv' := [(2, .int (0 : Int32)), (1, .int (0 : Int32)), (0, .ref (ad 0))]) hx hb dX7_variants_7 rfl hl (by decide) rfl (fun ls hl => ?_)
  have kL8_14 : ∀ (n6 : Nat) (M3 : Mm) (x4 : Int32) (x5 : Int32) (H : Heap) (locs : List Loc) (ls : Array Slot), va_P D vwCl (wl cs LC NC ad M3 ++ X) H → va_D A (wl cs LC NC ad M3 ++ X) → va_S A s.heap H locs → lv_has ls 3 [(0, .ref (ad 0)), (1, .int x4), (2, .int x5)] → gX7_variants_L8 n6 M3 x4 x5 = res → W p l e R s m args below meth c H locs 0 0 Q (F0 m 8 ls []) := by
    intro n6
    induction n6 with
    | zero =>
      intro M3 x4 x5 H locs ls hP hD hS hl hg
      rw [gX7_variants_L8] at hg
      exact absurd hg.symm hne
    | succ n6 ih =>
      intro M3 x4 x5 H locs ls hP hD hS hl hg
      rw [gX7_variants_L8] at hg
      refine lv_iload_n hx hb dX7_variants_8 rfl (lv_at hl 2 rfl) ?_
      refine lv_bipush (v := 16) hx hb dX7_variants_9 (by decide) ?_
      refine lv_icmp_ge (tgt := 31) hx hb dX7_variants_11 (by decide) (fun c7 => ?_) (fun c7 => ?_)
      · have hg := if_t hg c7
        refine lv_iload_n hx hb dX7_variants_31 rfl (lv_at hl 1 rfl) ?_
        exact hret _ _ _ _ _ _ hg dX7_variants_32 hP hD hS
      · have hg := if_f hg c7
        refine lv_aload_n hx hb dX7_variants_14 rfl (lv_at hl 0 rfl) ?_
        refine lv_iload_n hx hb dX7_variants_15 rfl (lv_at hl 2 rfl) ?_
        obtain ⟨r8, q9, hg⟩ := bd_e hg hne
        refine r_calli (W.runV (As := [.int x5]) (rest := []) CX (ctX7_isFirstOfItsText l D sw cs ad X M3 x5 q9) (cwV 1 hts (gwV m3_80 m3_82 mp2_12 m1_1 m3_83) rfl rfl rfl (by decide +kernel) ⟨Nat.le_trans (Nat.le_of_ble_eq_true rfl) hR.1, Nat.le_trans (Nat.le_of_ble_eq_true rfl) hR.2⟩) (rPreV (hSW.wr hS) hK hP (by decide) rfl rfl _) rfl rfl hl.1 rfl (lv_room (Nat.le_of_ble_eq_true rfl)) dX7_variants_16 ⟨Nat.zero_le _, Nat.zero_le _⟩) ?_
        refine lv_if_eq (tgt := 25) hx hb dX7_variants_19 (by decide) (fun c10 => ?_) (fun c10 => ?_)
        · have hg := if_t hg c10
          obtain ⟨x11, hx11, hg⟩ := lt_e hg
          refine lv_iinc (v := x11) (lv' := [(2, .int x11), (0, .ref (ad 0)), (1, .int x4)]) hx hb dX7_variants_25 hl (k := 2) rfl (hx11.symm) (by decide) rfl (fun ls hl => ?_)
          refine lv_goto (tgt := 8) hx hb dX7_variants_28 (by decide) ?_
          exact ih _ _ _ _ _ _ hP hD hS (lv_sub hl [1, 2, 0] rfl) hg
        · have hg := if_f hg c10
          obtain ⟨x12, hx12, hg⟩ := lt_e hg
          refine lv_iinc (v := x12) (lv' := [(1, .int x12), (0, .ref (ad 0)), (2, .int x5)]) hx hb dX7_variants_22 hl (k := 1) rfl (hx12.symm) (by decide) rfl (fun ls hl => ?_)
          obtain ⟨x13, hx13, hg⟩ := lt_e hg
          refine lv_iinc (v := x13) (lv' := [(2, .int x13), (1, .int x12), (0, .ref (ad 0))]) hx hb dX7_variants_25 hl (k := 2) rfl (hx13.symm) (by decide) rfl (fun ls hl => ?_)
          refine lv_goto (tgt := 8) hx hb dX7_variants_28 (by decide) ?_
          exact ih _ _ _ _ _ _ hP hD hS (lv_sub hl [2, 1, 0] rfl) hg
  exact kL8_14 FU _ _ _ _ _ _ hP hD hS (lv_sub hl [2, 1, 0] rfl) hg
theorem ctX7_variants (l : Launch) (D : va_G) (sw : Sw) (cs : Cs) (ad : Nat → Nat) (X : va_W) (sz : Nat) (M : Mm) {r : Int32} {M1 : Mm} (hq : gX7_variants M = some (r, M1)) : Met l yX7_variants wsX7_variants ({ frames := 406, cells := 0, slots := 0, locals := 9729 }) (va_Pc [.ref (ad 0)] (wPre D sw cs LC NC ad M X sz)) (wQi D cs LC NC ad M1 X sz r) 0 0 (wA NC ad X sz) :=
  met_w rfl rfl (Nat.le_of_ble_eq_true rfl) (fun p e s m args below meth c ls CX hr hlk hK hSW hP hD hS hA hl => bX7_variants M hq (by simp) CX ⟨Nat.le_refl _, Nat.le_refl _⟩ hK hSW hP hD hS hA hl (fun pc ls H locs v M9 hv dg hP hD hS => W.iret CX.1 CX.2.1 hr (fun t ht hW => ⟨⟨_, (), rfl, (Prod.mk.inj (Option.some.inj hv)).1, wpost hP ht (Prod.mk.inj (Option.some.inj hv)).2⟩, hS.F ht⟩) hS.2.2 dg))
