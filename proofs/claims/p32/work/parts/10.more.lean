abbrev wsX6_goThrough : List Cond := Cond.code yX6_goThrough cX6_goThrough 4 none :: WG
def gX6_goThrough_L47 (E11 : Mm → Int32 → Option Mm) : Nat → Mm → Int32 → Int32 → Option Mm
  | 0, _, _, _ => none
  | n21 + 1, M18, x19, x20 => if (4 : Int32) ≤ x20 then (E11 M18 x19) else if (x20 < 0 ∨ 4 ≤ (x20).toNatClampNeg) then none else lt ((x20).toNatClampNeg) fun v24 => if (x20 < 0 ∨ 4 ≤ (x20).toNatClampNeg) then none else if (x19 < 0 ∨ 80 ≤ (x19).toNatClampNeg) then none else lt (um M18 (ob v24) (x19).toNatClampNeg (M18 10 (x20).toNatClampNeg)) fun M28 => lt (x20 + (1 : Int32)) fun x29 => gX6_goThrough_L47 E11 n21 M28 x19 x29
def gX6_goThrough_L37 : Nat → Mm → Int32 → Option Mm
  | 0, _, _ => none
  | n7 + 1, M5, x6 => if (M5 1 1) ≤ x6 then (some M5) else lt (fun (M9 : Mm) (x10 : Int32) => if (x10 < 0 ∨ 80 ≤ (x10).toNatClampNeg) then none else lt (um M9 4 (x10).toNatClampNeg (M9 3 5)) fun M13 => if (x10 < 0 ∨ 80 ≤ (x10).toNatClampNeg) then none else bd (gX6_step M13 (M13 2 (x10).toNatClampNeg) x10) fun M16 => lt (x10 + (1 : Int32)) fun x17 => gX6_goThrough_L37 n7 M16 x17) fun E11 => gX6_goThrough_L47 E11 FU M5 x6 (0 : Int32)
def gX6_goThrough_L13 (E4 : Mm → Option Mm) : Nat → Mm → Int32 → Option Mm
  | 0, _, _ => none
  | n34 + 1, M32, x33 => if (4 : Int32) ≤ x33 then (E4 M32) else if (x33 < 0 ∨ 4 ≤ (x33).toNatClampNeg) then none else if (x33 < 0 ∨ 4 ≤ (x33).toNatClampNeg) then none else lt (um M32 10 (x33).toNatClampNeg (onF (x33).toNatClampNeg)) fun M38 => lt (x33 + (1 : Int32)) fun x39 => gX6_goThrough_L13 E4 n34 M38 x39
def gX6_goThrough (M : Mm) : Option Mm := lt (um M 3 5 (65535 : Int32)) fun M1 => lt (um M1 3 6 (0 : Int32)) fun M2 => lt (fun (M3 : Mm) => gX6_goThrough_L37 FU M3 (0 : Int32)) fun E4 => gX6_goThrough_L13 E4 FU M2 (0 : Int32)
set_option maxHeartbeats 4000000 in
set_option maxRecDepth 100000 in
theorem bX6_goThrough {p : Program} {l : Launch} {e : Env} {R : Room} {s : State} {m : MethodId} {args : Array Value} {below : List Frame} {meth : Method} {c : Code} {H : Heap} {locs : List Loc} {Q : State → Prop} {D : va_G} {sw : Sw} {cs : Cs} {ad : Nat → Nat} {X : va_W} {A : Nat → Prop} (M : Mm) {res : Option Mm} (hg : gX6_goThrough M = res) (hne : res ≠ none) (CX : CallFix p m c cX6_goThrough 4 s args wsX6_goThrough RX6) (hR : 3 ≤ R.frames ∧ 64 ≤ R.locals) (hK : va_K D vwCl (tysC cs) s) (hSW : SW sw A s s.heap) (hP : va_P D vwCl (wl cs LC NC ad M ++ X) H) (hD : va_D A (wl cs LC NC ad M ++ X)) (hS : va_S A s.heap H locs) (hA : ∀ q, s.heap.size ≤ q → A q) {ls : Array Slot} (hl : lv_has ls 4 [(0, .ref (ad 3)), (1, .ref (ad 1))]) (hret : ∀ (pc : Nat) (ls : Array Slot) (H : Heap) (locs : List Loc) (M9 : Mm), some M9 = res → decode cX6_goThrough pc = .ok (.return_, 1) → va_P D vwCl (wl cs LC NC ad M9 ++ X) H → va_D A (wl cs LC NC ad M9 ++ X) → va_S A s.heap H locs → W p l e R s m args below meth c H locs 0 0 Q (F0 m pc ls [])) : W p l e R s m args below meth c H locs 0 0 Q (F0 m 0 ls []) := by
  obtain ⟨hx, hb, hml, hown, hts⟩ := id CX
  have hw : ∀ w ∈ WG, w.before args s = true := fun w h => hts w (List.mem_cons_of_mem _ h)
  have lk_29 := hw _ m2_80
  have lk_30 := hw _ m1_62
  have lk_34 := hw _ m1_63
  have lk_40 := hw _ m1_40
  have lk_9 := hw _ m1_56
  have lk_45 := hw _ m1_37
  have lk_17 := hw _ m1_58
  have lk_20 := hw _ m1_59
  have lk_37 := hw _ m2_81
  unfold gX6_goThrough at hg
  refine lv_aload_n hx hb dX6_goThrough_0 rfl (lv_at hl 0 rfl) ?_
  refine lv_ldc (v := 65535) hx hb hown lk_29 dX6_goThrough_1 ?_
  obtain ⟨M1, hM1, hg⟩ := lt_e hg
  refine m_pi (C := RX6) (T := TX6) (n := 7) (ci := 4) hx hb hts in_RX6 tyX6 tyX6_ok nmX6 hown hK hP hD hS (by decide) rfl rfl 5 (by decide) rfl lk_30 (fun _ h9 => h9) rfl rfl rfl dX6_goThrough_3 hM1 (fun H locs hP hD hS => ?_)
  refine lv_aload_n hx hb dX6_goThrough_6 rfl (lv_at hl 0 rfl) ?_
  refine lv_iconst (v := 0) hx hb dX6_goThrough_7 (by decide) ?_
  obtain ⟨M2, hM2, hg⟩ := lt_e hg
  refine m_pi (C := RX6) (T := TX6) (n := 7) (ci := 4) hx hb hts in_RX6 tyX6 tyX6_ok nmX6 hown hK hP hD hS (by decide) rfl rfl 6 (by decide) rfl lk_34 (fun _ h9 => h9) rfl rfl rfl dX6_goThrough_8 hM2 (fun H locs hP hD hS => ?_)
  refine lv_iconst (v := 0) hx hb dX6_goThrough_11 (by decide) ?_
  refine lv_istore_n (lv' := [(2, .int (0 : Int32)), (0, .ref (ad 3)), (1, .ref (ad 1))]) hx hb dX6_goThrough_12 rfl hl (by decide) rfl (fun ls hl => ?_)
  obtain ⟨E4, hE4, hg⟩ := lf1 hg
  have kE4 : ∀ (M3 : Mm) (H : Heap) (locs : List Loc) (ls : Array Slot), va_P D vwCl (wl cs LC NC ad M3 ++ X) H → va_D A (wl cs LC NC ad M3 ++ X) → va_S A s.heap H locs → lv_has ls 4 [(0, .ref (ad 3)), (1, .ref (ad 1))] → E4 M3 = res → W p l e R s m args below meth c H locs 0 0 Q (F0 m 35 ls []) := by
    intro M3 H locs ls hP hD hS hl hg
    rw [hE4] at hg
    refine lv_iconst (v := 0) hx hb dX6_goThrough_35 (by decide) ?_
    refine lv_istore_n (lv' := [(2, .int (0 : Int32)), (0, .ref (ad 3)), (1, .ref (ad 1))]) hx hb dX6_goThrough_36 rfl hl (by decide) rfl (fun ls hl => ?_)
    have kL37_31 : ∀ (n7 : Nat) (M5 : Mm) (x6 : Int32) (H : Heap) (locs : List Loc) (ls : Array Slot), va_P D vwCl (wl cs LC NC ad M5 ++ X) H → va_D A (wl cs LC NC ad M5 ++ X) → va_S A s.heap H locs → lv_has ls 4 [(0, .ref (ad 3)), (1, .ref (ad 1)), (2, .int x6)] → gX6_goThrough_L37 n7 M5 x6 = res → W p l e R s m args below meth c H locs 0 0 Q (F0 m 37 ls []) := by
      intro n7
      induction n7 with
      | zero =>
        intro M5 x6 H locs ls hP hD hS hl hg
        rw [gX6_goThrough_L37] at hg
        exact absurd hg.symm hne
      | succ n7 ih =>
        intro M5 x6 H locs ls hP hD hS hl hg
        rw [gX6_goThrough_L37] at hg
        refine lv_iload_n hx hb dX6_goThrough_37 rfl (lv_at hl 2 rfl) ?_
        refine lv_aload_n hx hb dX6_goThrough_38 rfl (lv_at hl 1 rfl) ?_
        refine m_gi (C := RX4) (T := TX4) (n := 2) (ci := 2) hx hb hts in_RX4 hown hK hP (by decide) rfl rfl 1 (by decide) rfl lk_40 (fun _ h9 => h9) dX6_goThrough_39 ?_
        refine lv_icmp_ge (tgt := 99) hx hb dX6_goThrough_42 (by decide) (fun c8 => ?_) (fun c8 => ?_)
        · have hg := if_t hg c8
          exact hret _ _ _ _ _ hg dX6_goThrough_99 hP hD hS
        · have hg := if_f hg c8
          refine lv_iconst (v := 0) hx hb dX6_goThrough_45 (by decide) ?_
          refine lv_istore_n (lv' := [(3, .int (0 : Int32)), (0, .ref (ad 3)), (1, .ref (ad 1)), (2, .int x6)]) hx hb dX6_goThrough_46 rfl hl (by decide) rfl (fun ls hl => ?_)
          obtain ⟨E11, hE11, hg⟩ := lf2 hg
          have kE11 : ∀ (M9 : Mm) (x10 : Int32) (H : Heap) (locs : List Loc) (ls : Array Slot), va_P D vwCl (wl cs LC NC ad M9 ++ X) H → va_D A (wl cs LC NC ad M9 ++ X) → va_S A s.heap H locs → lv_has ls 4 [(0, .ref (ad 3)), (1, .ref (ad 1)), (2, .int x10)] → E11 M9 x10 = res → W p l e R s m args below meth c H locs 0 0 Q (F0 m 72 ls []) := by
            intro M9 x10 H locs ls hP hD hS hl hg
            rw [hE11] at hg
            refine lv_aload_n hx hb dX6_goThrough_72 rfl (lv_at hl 0 rfl) ?_
            refine m_gr (C := RX6) (T := TX6) (n := 7) (ci := 4) hx hb hts in_RX6 hown hK hP (by decide) rfl rfl 0 (by decide) rfl lk_9 (fun _ h9 => h9) dX6_goThrough_73 ?_
            refine lv_iload_n hx hb dX6_goThrough_76 rfl (lv_at hl 2 rfl) ?_
            refine lv_aload_n hx hb dX6_goThrough_77 rfl (lv_at hl 0 rfl) ?_
            refine m_gi (C := RX6) (T := TX6) (n := 7) (ci := 4) hx hb hts in_RX6 hown hK hP (by decide) rfl rfl 5 (by decide) rfl lk_30 (fun _ h9 => h9) dX6_goThrough_78 ?_
            obtain ⟨b12, hg⟩ := ck_e hg hne
            obtain ⟨M13, hM13, hg⟩ := lt_e hg
            refine m_st hx hb hK hP hD hS (by decide) rfl b12 dX6_goThrough_81 hM13 (fun H locs hP hD hS => ?_)
            refine lv_aload_n hx hb dX6_goThrough_82 rfl (lv_at hl 0 rfl) ?_
            refine lv_aload_n hx hb dX6_goThrough_83 rfl (lv_at hl 1 rfl) ?_
            refine m_gr (C := RX4) (T := TX4) (n := 2) (ci := 2) hx hb hts in_RX4 hown hK hP (by decide) rfl rfl 0 (by decide) rfl lk_45 (fun _ h9 => h9) dX6_goThrough_84 ?_
            refine lv_iload_n hx hb dX6_goThrough_87 rfl (lv_at hl 2 rfl) ?_
            obtain ⟨b14, hg⟩ := ck_e hg hne
            refine m_ld hx hb hK hP (by decide) rfl b14 dX6_goThrough_88 ?_
            refine lv_iload_n hx hb dX6_goThrough_89 rfl (lv_at hl 2 rfl) ?_
            obtain ⟨M16, q15, hg⟩ := bd_e hg hne
            refine w_callv (va_runV (As := [.int (M13 2 (x10).toNatClampNeg), .int x10]) (rest := []) CX (ctX6_step l D sw cs ad X H.size M13 (M13 2 (x10).toNatClampNeg) x10 q15) (cwV 2 hts (gwV m2_83 m2_85 mp1_4 m1_3 m2_86) rfl rfl rfl (by decide +kernel) ⟨Nat.le_trans (Nat.le_of_ble_eq_true rfl) hR.1, Nat.le_trans (Nat.le_of_ble_eq_true rfl) hR.2⟩) (wPreV hSW hS hA hK hP hD (by decide) rfl rfl _) rfl rfl hl.1 rfl (lv_room (Nat.le_of_ble_eq_true rfl)) dX6_goThrough_90 ⟨Nat.zero_le _, Nat.zero_le _⟩) hD hS hA (fun H locs hP hD hS => ?_)
            obtain ⟨x17, hx17, hg⟩ := lt_e hg
            refine lv_iinc (v := x17) (lv' := [(2, .int x17), (0, .ref (ad 3)), (1, .ref (ad 1))]) hx hb dX6_goThrough_93 hl (k := 2) rfl (hx17.symm) (by decide) rfl (fun ls hl => ?_)
            refine lv_goto (tgt := 37) hx hb dX6_goThrough_96 (by decide) ?_
            exact ih _ _ _ _ _ hP hD hS (lv_sub hl [1, 2, 0] rfl) hg
          have kL47_30 : ∀ (n21 : Nat) (M18 : Mm) (x19 : Int32) (x20 : Int32) (H : Heap) (locs : List Loc) (ls : Array Slot), va_P D vwCl (wl cs LC NC ad M18 ++ X) H → va_D A (wl cs LC NC ad M18 ++ X) → va_S A s.heap H locs → lv_has ls 4 [(0, .ref (ad 3)), (1, .ref (ad 1)), (2, .int x19), (3, .int x20)] → gX6_goThrough_L47 E11 n21 M18 x19 x20 = res → W p l e R s m args below meth c H locs 0 0 Q (F0 m 47 ls []) := by
            intro n21
            induction n21 with
            | zero =>
              intro M18 x19 x20 H locs ls hP hD hS hl hg
              rw [gX6_goThrough_L47] at hg
              exact absurd hg.symm hne
            | succ n21 ih =>
              intro M18 x19 x20 H locs ls hP hD hS hl hg
              rw [gX6_goThrough_L47] at hg
              refine lv_iload_n hx hb dX6_goThrough_47 rfl (lv_at hl 3 rfl) ?_
              refine lv_iconst (v := 4) hx hb dX6_goThrough_48 (by decide) ?_
              refine lv_icmp_ge (tgt := 72) hx hb dX6_goThrough_49 (by decide) (fun c22 => ?_) (fun c22 => ?_)
              · have hg := if_t hg c22
                exact kE11 _ _ _ _ _ hP hD hS (lv_sub hl [0, 1, 2] rfl) hg
              · have hg := if_f hg c22
                refine lv_aload_n hx hb dX6_goThrough_52 rfl (lv_at hl 0 rfl) ?_
                refine m_gr (C := RX6) (T := TX6) (n := 7) (ci := 4) hx hb hts in_RX6 hown hK hP (by decide) rfl rfl 1 (by decide) rfl lk_17 (fun _ h9 => h9) dX6_goThrough_53 ?_
                refine lv_iload_n hx hb dX6_goThrough_56 rfl (lv_at hl 3 rfl) ?_
                obtain ⟨b23, hg⟩ := ck_e hg hne
                obtain ⟨v24, hv24, hg⟩ := lt_e hg
                have h25 := ix_lt b23 hv24
                refine m_lr (k := 5) hx hb hK hP (by decide) rfl b23 dX6_goThrough_57 ?_
                rw [← hv24]
                refine lv_iload_n hx hb dX6_goThrough_58 rfl (lv_at hl 2 rfl) ?_
                refine lv_aload_n hx hb dX6_goThrough_59 rfl (lv_at hl 0 rfl) ?_
                refine m_gr (C := RX6) (T := TX6) (n := 7) (ci := 4) hx hb hts in_RX6 hown hK hP (by decide) rfl rfl 2 (by decide) rfl lk_20 (fun _ h9 => h9) dX6_goThrough_60 ?_
                refine lv_iload_n hx hb dX6_goThrough_63 rfl (lv_at hl 3 rfl) ?_
                obtain ⟨b26, hg⟩ := ck_e hg hne
                refine m_ld hx hb hK hP (by decide) rfl b26 dX6_goThrough_64 ?_
                obtain ⟨b27, hg⟩ := ck_e hg hne
                obtain ⟨M28, hM28, hg⟩ := lt_e hg
                refine m_st hx hb hK hP hD hS (kC_ob h25) (LC_ob h25) b27 dX6_goThrough_65 hM28 (fun H locs hP hD hS => ?_)
                obtain ⟨x29, hx29, hg⟩ := lt_e hg
                refine lv_iinc (v := x29) (lv' := [(3, .int x29), (0, .ref (ad 3)), (1, .ref (ad 1)), (2, .int x19)]) hx hb dX6_goThrough_66 hl (k := 3) rfl (hx29.symm) (by decide) rfl (fun ls hl => ?_)
                refine lv_goto (tgt := 47) hx hb dX6_goThrough_69 (by decide) ?_
                exact ih _ _ _ _ _ _ hP hD hS (lv_sub hl [1, 2, 3, 0] rfl) hg
          exact kL47_30 FU _ _ _ _ _ _ hP hD hS (lv_sub hl [1, 2, 3, 0] rfl) hg
    exact kL37_31 FU _ _ _ _ _ hP hD hS (lv_sub hl [1, 2, 0] rfl) hg
  have kL13_40 : ∀ (n34 : Nat) (M32 : Mm) (x33 : Int32) (H : Heap) (locs : List Loc) (ls : Array Slot), va_P D vwCl (wl cs LC NC ad M32 ++ X) H → va_D A (wl cs LC NC ad M32 ++ X) → va_S A s.heap H locs → lv_has ls 4 [(0, .ref (ad 3)), (1, .ref (ad 1)), (2, .int x33)] → gX6_goThrough_L13 E4 n34 M32 x33 = res → W p l e R s m args below meth c H locs 0 0 Q (F0 m 13 ls []) := by
    intro n34
    induction n34 with
    | zero =>
      intro M32 x33 H locs ls hP hD hS hl hg
      rw [gX6_goThrough_L13] at hg
      exact absurd hg.symm hne
    | succ n34 ih =>
      intro M32 x33 H locs ls hP hD hS hl hg
      rw [gX6_goThrough_L13] at hg
      refine lv_iload_n hx hb dX6_goThrough_13 rfl (lv_at hl 2 rfl) ?_
      refine lv_iconst (v := 4) hx hb dX6_goThrough_14 (by decide) ?_
      refine lv_icmp_ge (tgt := 35) hx hb dX6_goThrough_15 (by decide) (fun c35 => ?_) (fun c35 => ?_)
      · have hg := if_t hg c35
        exact kE4 _ _ _ _ hP hD hS (lv_sub hl [0, 1] rfl) hg
      · have hg := if_f hg c35
        refine lv_aload_n hx hb dX6_goThrough_18 rfl (lv_at hl 0 rfl) ?_
        refine m_gr (C := RX6) (T := TX6) (n := 7) (ci := 4) hx hb hts in_RX6 hown hK hP (by decide) rfl rfl 2 (by decide) rfl lk_20 (fun _ h9 => h9) dX6_goThrough_19 ?_
        refine lv_iload_n hx hb dX6_goThrough_22 rfl (lv_at hl 2 rfl) ?_
        refine va_gets hx hb hSW.on hS hown lk_37 (fun _ h9 => h9) dX6_goThrough_23 ?_
        refine lv_iload_n hx hb dX6_goThrough_26 rfl (lv_at hl 2 rfl) ?_
        obtain ⟨b36, hg⟩ := ck_e hg hne
        refine va_ti hx hb hSW.ot hS b36 rfl dX6_goThrough_27 ?_
        obtain ⟨b37, hg⟩ := ck_e hg hne
        obtain ⟨M38, hM38, hg⟩ := lt_e hg
        refine m_st hx hb hK hP hD hS (by decide) rfl b37 dX6_goThrough_28 hM38 (fun H locs hP hD hS => ?_)
        obtain ⟨x39, hx39, hg⟩ := lt_e hg
        refine lv_iinc (v := x39) (lv' := [(2, .int x39), (0, .ref (ad 3)), (1, .ref (ad 1))]) hx hb dX6_goThrough_29 hl (k := 2) rfl (hx39.symm) (by decide) rfl (fun ls hl => ?_)
        refine lv_goto (tgt := 13) hx hb dX6_goThrough_32 (by decide) ?_
        exact ih _ _ _ _ _ hP hD hS (lv_sub hl [1, 2, 0] rfl) hg
  exact kL13_40 FU _ _ _ _ _ hP hD hS (lv_sub hl [1, 2, 0] rfl) hg
theorem ctX6_goThrough (l : Launch) (D : va_G) (sw : Sw) (cs : Cs) (ad : Nat → Nat) (X : va_W) (sz : Nat) (M : Mm) {M1 : Mm} (hq : gX6_goThrough M = some M1) : Met l yX6_goThrough wsX6_goThrough ({ frames := 3, cells := 0, slots := 0, locals := 64 }) (va_Pc [.ref (ad 3), .ref (ad 1)] (wPre D sw cs LC NC ad M X sz)) (wQv D cs LC NC ad M1 X sz) 0 0 (wA NC ad X sz) :=
  met_w rfl rfl (Nat.le_of_ble_eq_true rfl) (fun p e s m args below meth c ls CX hr hlk hK hSW hP hD hS hA hl => bX6_goThrough M hq (by simp) CX ⟨Nat.le_refl _, Nat.le_refl _⟩ hK hSW hP hD hS hA hl (fun pc ls H locs M9 hv dg hP hD hS => W.vret CX.1 CX.2.1 hr (fun t ht hW => ⟨⟨(), rfl, trivial, wpost hP ht (Option.some.inj hv)⟩, hS.F ht⟩) hS.2.2 dg))

abbrev wsX3_execute : List Cond := Cond.code yX3_execute cX3_execute 4 none :: WG
def gX3_execute_L52 (v0 : Nat) (k1 : Nat) (n1 : Nat) (a2 : Int32) (E7 : Mm → Option Mm) : Nat → Mm → Int32 → Option Mm
  | 0, _, _ => none
  | n13 + 1, M11, x12 => if (4 : Int32) ≤ x12 then (E7 M11) else if (x12 < 0 ∨ 4 ≤ (x12).toNatClampNeg) then none else lt (um M11 (vb v0 + 8) (x12).toNatClampNeg (0 : Int32)) fun M16 => lt (x12 + (1 : Int32)) fun x17 => gX3_execute_L52 v0 k1 n1 a2 E7 n13 M16 x17
def gX3_execute_L17 (v0 : Nat) (k1 : Nat) (n1 : Nat) (a2 : Int32) (E3 : Mm → Option Mm) : Nat → Mm → Int32 → Option Mm
  | 0, _, _ => none
  | n21 + 1, M19, x20 => if (M19 (vb v0 + 6) 1) ≤ x20 then (E3 M19) else if (x20 < 0 ∨ n1 ≤ (x20).toNatClampNeg) then none else if (x20 < 0 ∨ 80 ≤ (x20).toNatClampNeg) then none else lt (um M19 (vb v0 + 7) (x20).toNatClampNeg (M19 k1 (x20).toNatClampNeg)) fun M25 => lt (x20 + (1 : Int32)) fun x26 => gX3_execute_L17 v0 k1 n1 a2 E3 n21 M25 x26
def gX3_execute (M : Mm) (v0 : Nat) (k1 : Nat) (n1 : Nat) (a2 : Int32) : Option Mm := lt (um M (vb v0 + 6) 1 (if (if (80 : Int32) < (nI n1) then (80 : Int32) else (nI n1)) < a2 then (if (80 : Int32) < (nI n1) then (80 : Int32) else (nI n1)) else a2)) fun M1 => lt (fun (M2 : Mm) => lt (um M2 (vb v0 + 6) 2 (0 : Int32)) fun M4 => lt (um M4 (vb v0 + 6) 5 (0 : Int32)) fun M5 => lt (fun (M6 : Mm) => bd2 (gCR v0 400 0 M6 (1 : Int32) (0 : Int32)) fun r10 M9 => some M9) fun E7 => gX3_execute_L52 v0 k1 n1 a2 E7 FU M5 (0 : Int32)) fun E3 => gX3_execute_L17 v0 k1 n1 a2 E3 FU M1 (0 : Int32)
set_option maxHeartbeats 4000000 in
set_option maxRecDepth 100000 in
theorem bX3_execute {p : Program} {l : Launch} {e : Env} {R : Room} {s : State} {m : MethodId} {args : Array Value} {below : List Frame} {meth : Method} {c : Code} {H : Heap} {locs : List Loc} {Q : State → Prop} {D : va_G} {sw : Sw} {cs : Cs} {ad : Nat → Nat} {X : va_W} {A : Nat → Prop} (M : Mm) (v0 : Nat) (hv0 : v0 < 16) (k1 n1 : Nat) (hk1 : k1 < NC) (hn1 : LC k1 = shI n1) (a2 : Int32) {res : Option Mm} (hg : gX3_execute M v0 k1 n1 a2 = res) (hne : res ≠ none) (CX : CallFix p m c cX3_execute 4 s args wsX3_execute RX3) (hR : 403 ≤ R.frames ∧ 9665 ≤ R.locals) (hK : va_K D vwCl (tysC cs) s) (hSW : SW sw A s s.heap) (hP : va_P D vwCl (wl cs LC NC ad M ++ X) H) (hD : va_D A (wl cs LC NC ad M ++ X)) (hS : va_S A s.heap H locs) (hA : ∀ q, s.heap.size ≤ q → A q) {ls : Array Slot} (hl : lv_has ls 4 [(0, .ref (ad (vb v0 + 6))), (1, .ref (ad k1)), (2, .int a2)]) (hret : ∀ (pc : Nat) (ls : Array Slot) (H : Heap) (locs : List Loc) (M9 : Mm), some M9 = res → decode cX3_execute pc = .ok (.return_, 1) → va_P D vwCl (wl cs LC NC ad M9 ++ X) H → va_D A (wl cs LC NC ad M9 ++ X) → va_S A s.heap H locs → W p l e R s m args below meth c H locs 0 0 Q (F0 m pc ls [])) : W p l e R s m args below meth c H locs 0 0 Q (F0 m 0 ls []) := by
  obtain ⟨hx, hb, hml, hown, hts⟩ := id CX
  have hw : ∀ w ∈ WG, w.before args s = true := fun w h => hts w (List.mem_cons_of_mem _ h)
  have lk_21 := hw _ m3_10
  have lm_smin : (Cond.static Lib.Math.min.name).before args s = true := hw _ m2_156
  have lm_i : (Cond.initialized "java/lang/Math").before args s = true := hw _ m1_17
  have lm_cmin : (Cond.code Lib.Math.min.name Lib.Math.min.code 2 (some .int)).before args s = true := hw _ m2_157
  have lk_27 := hw _ m1_117
  have lk_31 := hw _ m1_118
  have lk_34 := hw _ m1_123
  have lk_15 := hw _ m1_119
  have lk_9 := hw _ m1_116
  unfold gX3_execute at hg
  refine lv_aload_n hx hb dX3_execute_0 rfl (lv_at hl 0 rfl) ?_
  refine lv_iload_n hx hb dX3_execute_1 rfl (lv_at hl 2 rfl) ?_
  refine lv_aload_n hx hb dX3_execute_2 rfl (lv_at hl 1 rfl) ?_
  refine m_ln hx hb hK hP hk1 hn1 dX3_execute_3 ?_
  refine lv_bipush (v := 80) hx hb dX3_execute_4 (by decide) ?_
  refine va_mmin hx hb (hml.trans hl.1.symm) hown lk_21 lm_smin lm_i lm_cmin (Nat.le_trans (Nat.le_of_ble_eq_true rfl) hR.1) (Nat.le_trans (Nat.le_of_ble_eq_true rfl) hR.2) (Nat.zero_le _) (Nat.zero_le _) dX3_execute_6 ?_
  refine va_mmin hx hb (hml.trans hl.1.symm) hown lk_21 lm_smin lm_i lm_cmin (Nat.le_trans (Nat.le_of_ble_eq_true rfl) hR.1) (Nat.le_trans (Nat.le_of_ble_eq_true rfl) hR.2) (Nat.zero_le _) (Nat.zero_le _) dX3_execute_9 ?_
  obtain ⟨M1, hM1, hg⟩ := lt_e hg
  refine m_pi (C := RX3) (T := TX3) (n := 6) (ci := 1) hx hb hts in_RX3 tyX3 tyX3_ok nmX3 hown hK hP hD hS (kC_v (j := 6) hv0 (by decide)) (LC_RUN v0) rfl 1 (by decide) rfl lk_27 (fun _ h9 => h9) rfl rfl rfl dX3_execute_12 hM1 (fun H locs hP hD hS => ?_)
  refine lv_iconst (v := 0) hx hb dX3_execute_15 (by decide) ?_
  refine lv_istore_n (lv' := [(3, .int (0 : Int32)), (0, .ref (ad (vb v0 + 6))), (1, .ref (ad k1)), (2, .int a2)]) hx hb dX3_execute_16 rfl hl (by decide) rfl (fun ls hl => ?_)
  obtain ⟨E3, hE3, hg⟩ := lf1 hg
  have kE3 : ∀ (M2 : Mm) (H : Heap) (locs : List Loc) (ls : Array Slot), va_P D vwCl (wl cs LC NC ad M2 ++ X) H → va_D A (wl cs LC NC ad M2 ++ X) → va_S A s.heap H locs → lv_has ls 4 [(0, .ref (ad (vb v0 + 6)))] → E3 M2 = res → W p l e R s m args below meth c H locs 0 0 Q (F0 m 40 ls []) := by
    intro M2 H locs ls hP hD hS hl hg
    rw [hE3] at hg
    refine lv_aload_n hx hb dX3_execute_40 rfl (lv_at hl 0 rfl) ?_
    refine lv_iconst (v := 0) hx hb dX3_execute_41 (by decide) ?_
    obtain ⟨M4, hM4, hg⟩ := lt_e hg
    refine m_pi (C := RX3) (T := TX3) (n := 6) (ci := 1) hx hb hts in_RX3 tyX3 tyX3_ok nmX3 hown hK hP hD hS (kC_v (j := 6) hv0 (by decide)) (LC_RUN v0) rfl 2 (by decide) rfl lk_31 (fun _ h9 => h9) rfl rfl rfl dX3_execute_42 hM4 (fun H locs hP hD hS => ?_)
    refine lv_aload_n hx hb dX3_execute_45 rfl (lv_at hl 0 rfl) ?_
    refine lv_iconst (v := 0) hx hb dX3_execute_46 (by decide) ?_
    obtain ⟨M5, hM5, hg⟩ := lt_e hg
    refine m_pi (C := RX3) (T := TX3) (n := 6) (ci := 1) hx hb hts in_RX3 tyX3 tyX3_ok nmX3 hown hK hP hD hS (kC_v (j := 6) hv0 (by decide)) (LC_RUN v0) rfl 5 (by decide) rfl lk_34 (fun _ h9 => h9) rfl rfl rfl dX3_execute_47 hM5 (fun H locs hP hD hS => ?_)
    refine lv_iconst (v := 0) hx hb dX3_execute_50 (by decide) ?_
    refine lv_istore_n (lv' := [(3, .int (0 : Int32)), (0, .ref (ad (vb v0 + 6)))]) hx hb dX3_execute_51 rfl hl (by decide) rfl (fun ls hl => ?_)
    obtain ⟨E7, hE7, hg⟩ := lf1 hg
    have kE7 : ∀ (M6 : Mm) (H : Heap) (locs : List Loc) (ls : Array Slot), va_P D vwCl (wl cs LC NC ad M6 ++ X) H → va_D A (wl cs LC NC ad M6 ++ X) → va_S A s.heap H locs → lv_has ls 4 [(0, .ref (ad (vb v0 + 6)))] → E7 M6 = res → W p l e R s m args below meth c H locs 0 0 Q (F0 m 70 ls []) := by
      intro M6 H locs ls hP hD hS hl hg
      rw [hE7] at hg
      refine lv_aload_n hx hb dX3_execute_70 rfl (lv_at hl 0 rfl) ?_
      refine lv_iconst (v := 1) hx hb dX3_execute_71 (by decide) ?_
      refine lv_iconst (v := 0) hx hb dX3_execute_72 (by decide) ?_
      obtain ⟨r10, M9, q8, hg⟩ := bd2_e hg hne
      refine w_callv (va_runV (As := [.int (1 : Int32), .int (0 : Int32)]) (rest := []) CX ((ctCR l D sw cs ad v0 hv0 400).1 X H.size M6 _ _ r10 M9 q8) (cwV 2 hts (gwV m3_11 m3_13 mp1_15 m1_6 m3_14) rfl rfl rfl (by decide +kernel) ⟨Nat.le_trans (Nat.le_of_ble_eq_true rfl) hR.1, Nat.le_trans (Nat.le_of_ble_eq_true rfl) hR.2⟩) (wPreV hSW hS hA hK hP hD (kC_v (j := 6) hv0 (by decide)) (LC_RUN v0) rfl _) rfl rfl hl.1 rfl (lv_room (Nat.le_of_ble_eq_true rfl)) dX3_execute_73 ⟨Nat.zero_le _, Nat.zero_le _⟩) hD hS hA (fun H locs hP hD hS => ?_)
      exact hret _ _ _ _ _ hg dX3_execute_76 hP hD hS
    have kL52_18 : ∀ (n13 : Nat) (M11 : Mm) (x12 : Int32) (H : Heap) (locs : List Loc) (ls : Array Slot), va_P D vwCl (wl cs LC NC ad M11 ++ X) H → va_D A (wl cs LC NC ad M11 ++ X) → va_S A s.heap H locs → lv_has ls 4 [(0, .ref (ad (vb v0 + 6))), (3, .int x12)] → gX3_execute_L52 v0 k1 n1 a2 E7 n13 M11 x12 = res → W p l e R s m args below meth c H locs 0 0 Q (F0 m 52 ls []) := by
      intro n13
      induction n13 with
      | zero =>
        intro M11 x12 H locs ls hP hD hS hl hg
        rw [gX3_execute_L52] at hg
        exact absurd hg.symm hne
      | succ n13 ih =>
        intro M11 x12 H locs ls hP hD hS hl hg
        rw [gX3_execute_L52] at hg
        refine lv_iload_n hx hb dX3_execute_52 rfl (lv_at hl 1 rfl) ?_
        refine lv_iconst (v := 4) hx hb dX3_execute_53 (by decide) ?_
        refine lv_icmp_ge (tgt := 70) hx hb dX3_execute_54 (by decide) (fun c14 => ?_) (fun c14 => ?_)
        · have hg := if_t hg c14
          exact kE7 _ _ _ _ hP hD hS (lv_sub hl [0] rfl) hg
        · have hg := if_f hg c14
          refine lv_aload_n hx hb dX3_execute_57 rfl (lv_at hl 0 rfl) ?_
          refine m_gr (C := RX3) (T := TX3) (n := 6) (ci := 1) hx hb hts in_RX3 hown hK hP (kC_v (j := 6) hv0 (by decide)) (LC_RUN v0) rfl 3 (by decide) rfl lk_15 (fun _ h9 => h9) dX3_execute_58 ?_
          refine lv_iload_n hx hb dX3_execute_61 rfl (lv_at hl 1 rfl) ?_
          refine lv_iconst (v := 0) hx hb dX3_execute_62 (by decide) ?_
          obtain ⟨b15, hg⟩ := ck_e hg hne
          obtain ⟨M16, hM16, hg⟩ := lt_e hg
          refine m_st hx hb hK hP hD hS (kC_v (j := 8) hv0 (by decide)) (LC_RVARS v0) b15 dX3_execute_63 hM16 (fun H locs hP hD hS => ?_)
          obtain ⟨x17, hx17, hg⟩ := lt_e hg
          refine lv_iinc (v := x17) (lv' := [(3, .int x17), (0, .ref (ad (vb v0 + 6)))]) hx hb dX3_execute_64 hl (k := 1) rfl (hx17.symm) (by decide) rfl (fun ls hl => ?_)
          refine lv_goto (tgt := 52) hx hb dX3_execute_67 (by decide) ?_
          exact ih _ _ _ _ _ hP hD hS (lv_sub hl [1, 0] rfl) hg
    exact kL52_18 FU _ _ _ _ _ hP hD hS (lv_sub hl [1, 0] rfl) hg
  have kL17_27 : ∀ (n21 : Nat) (M19 : Mm) (x20 : Int32) (H : Heap) (locs : List Loc) (ls : Array Slot), va_P D vwCl (wl cs LC NC ad M19 ++ X) H → va_D A (wl cs LC NC ad M19 ++ X) → va_S A s.heap H locs → lv_has ls 4 [(0, .ref (ad (vb v0 + 6))), (1, .ref (ad k1)), (3, .int x20)] → gX3_execute_L17 v0 k1 n1 a2 E3 n21 M19 x20 = res → W p l e R s m args below meth c H locs 0 0 Q (F0 m 17 ls []) := by
    intro n21
    induction n21 with
    | zero =>
      intro M19 x20 H locs ls hP hD hS hl hg
      rw [gX3_execute_L17] at hg
      exact absurd hg.symm hne
    | succ n21 ih =>
      intro M19 x20 H locs ls hP hD hS hl hg
      rw [gX3_execute_L17] at hg
      refine lv_iload_n hx hb dX3_execute_17 rfl (lv_at hl 2 rfl) ?_
      refine lv_aload_n hx hb dX3_execute_18 rfl (lv_at hl 0 rfl) ?_
      refine m_gi (C := RX3) (T := TX3) (n := 6) (ci := 1) hx hb hts in_RX3 hown hK hP (kC_v (j := 6) hv0 (by decide)) (LC_RUN v0) rfl 1 (by decide) rfl lk_27 (fun _ h9 => h9) dX3_execute_19 ?_
      refine lv_icmp_ge (tgt := 40) hx hb dX3_execute_22 (by decide) (fun c22 => ?_) (fun c22 => ?_)
      · have hg := if_t hg c22
        exact kE3 _ _ _ _ hP hD hS (lv_sub hl [0] rfl) hg
      · have hg := if_f hg c22
        refine lv_aload_n hx hb dX3_execute_25 rfl (lv_at hl 0 rfl) ?_
        refine m_gr (C := RX3) (T := TX3) (n := 6) (ci := 1) hx hb hts in_RX3 hown hK hP (kC_v (j := 6) hv0 (by decide)) (LC_RUN v0) rfl 0 (by decide) rfl lk_9 (fun _ h9 => h9) dX3_execute_26 ?_
        refine lv_iload_n hx hb dX3_execute_29 rfl (lv_at hl 2 rfl) ?_
        refine lv_aload_n hx hb dX3_execute_30 rfl (lv_at hl 1 rfl) ?_
        refine lv_iload_n hx hb dX3_execute_31 rfl (lv_at hl 2 rfl) ?_
        obtain ⟨b23, hg⟩ := ck_e hg hne
        refine m_ld hx hb hK hP hk1 hn1 b23 dX3_execute_32 ?_
        obtain ⟨b24, hg⟩ := ck_e hg hne
        obtain ⟨M25, hM25, hg⟩ := lt_e hg
        refine m_st hx hb hK hP hD hS (kC_v (j := 7) hv0 (by decide)) (LC_RTOK v0) b24 dX3_execute_33 hM25 (fun H locs hP hD hS => ?_)
        obtain ⟨x26, hx26, hg⟩ := lt_e hg
        refine lv_iinc (v := x26) (lv' := [(3, .int x26), (0, .ref (ad (vb v0 + 6))), (1, .ref (ad k1))]) hx hb dX3_execute_34 hl (k := 2) rfl (hx26.symm) (by decide) rfl (fun ls hl => ?_)
        refine lv_goto (tgt := 17) hx hb dX3_execute_37 (by decide) ?_
        exact ih _ _ _ _ _ hP hD hS (lv_sub hl [1, 2, 0] rfl) hg
  exact kL17_27 FU _ _ _ _ _ hP hD hS (lv_sub hl [1, 2, 0] rfl) hg
theorem ctX3_execute (l : Launch) (D : va_G) (sw : Sw) (cs : Cs) (ad : Nat → Nat) (X : va_W) (sz : Nat) (M : Mm) (v0 : Nat) (hv0 : v0 < 16) (k1 n1 : Nat) (hk1 : k1 < NC) (hn1 : LC k1 = shI n1) (a2 : Int32) {M1 : Mm} (hq : gX3_execute M v0 k1 n1 a2 = some M1) : Met l yX3_execute wsX3_execute ({ frames := 403, cells := 0, slots := 0, locals := 9665 }) (va_Pc [.ref (ad (vb v0 + 6)), .ref (ad k1), .int a2] (wPre D sw cs LC NC ad M X sz)) (wQv D cs LC NC ad M1 X sz) 0 0 (wA NC ad X sz) :=
  met_w rfl rfl (Nat.le_of_ble_eq_true rfl) (fun p e s m args below meth c ls CX hr hlk hK hSW hP hD hS hA hl => bX3_execute M v0 hv0 k1 n1 hk1 hn1 a2 hq (by simp) CX ⟨Nat.le_refl _, Nat.le_refl _⟩ hK hSW hP hD hS hA hl (fun pc ls H locs M9 hv dg hP hD hS => W.vret CX.1 CX.2.1 hr (fun t ht hW => ⟨⟨(), rfl, trivial, wpost hP ht (Option.some.inj hv)⟩, hS.F ht⟩) hS.2.2 dg))
