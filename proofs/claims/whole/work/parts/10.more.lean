abbrev wsX6_goThrough : List Cond := Cond.code yX6_goThrough cX6_goThrough 4 none :: WG
def gX6_goThrough_L47 (E11 : Mm → Int32 → Option Mm) : Nat → Mm → Int32 → Int32 → Option Mm
  | 0, _, _, _ => none
  | n21 + 1, M18, x19, x20 => if (4 : Int32) ≤ x20 then (E11 M18 x19) else if (x20 < 0 ∨ 4 ≤ (x20).toNatClampNeg) then none else lt ((x20).toNatClampNeg) fun v24 => if (x20 < 0 ∨ 4 ≤ (x20).toNatClampNeg) then none else if (x19 < 0 ∨ 80 ≤ (x19).toNatClampNeg) then none else lt (um M18 (ob v24) (x19).toNatClampNeg (M18 10 (x20).toNatClampNeg)) fun M28 => lt (x20 + (1 : Int32)) fun x29 => gX6_goThrough_L47 E11 n21 M28 x19 x29
def gX6_goThrough_L37 : Nat → Mm → Int32 → Option Mm
  | 0, _, _ => none
  | n7 + 1, M5, x6 => if (M5 1 1) ≤ x6 then (some M5) else lt (fun (M9 : Mm) (x10 : Int32) => if (x10 < 0 ∨ 80 ≤ (x10).toNatClampNeg) then none else lt (um M9 4 (x10).toNatClampNeg (M9 3 5)) fun M13 => if (x10 < 0 ∨ 80 ≤ (x10).toNatClampNeg) then none else bd (gX6_step M13 (M13 2 (x10).toNatClampNeg) x10) fun M16 => lt (x10 + (1 : Int32)) fun x17 => gX6_goThrough_L37 n7 M16 x17) fun E11 => gX6_goThrough_L47 E11 FU M5 x6 (0 : Int32)
def gX6_goThrough_L13 (E4 : Mm → Option Mm) : Nat → Mm → Int32 → Option Mm
  | 0, _, _ => none
  | n34 + 1, M32, x33 => if (4 : Int32) ≤ x33 then (E4 M32) else if (x33 < 0 ∨ 4 ≤ (x33).toNatClampNeg) then none else if (x33 < 0 ∨ 4 ≤ (x33).toNatClampNeg) then none else lt (um M32 10 (x33).toNatClampNeg (onF (x33).toNatClampNeg)) fun M38 => lt (x33 + (1 : Int32)) fun x39 => gX6_goThrough_L13 E4 n34 M38 x39
def gX6_goThrough (M : Mm) : Option Mm := lt (um M 3 5 (65535 : Int32)) fun M1 => lt (um M1 3 6 (0 : Int32)) fun M2 => lt (fun (M3 : Mm) => gX6_goThrough_L37 FU M3 (0 : Int32)) fun E4 => gX6_goThrough_L13 E4 FU M2 (0 : Int32)
set_option maxHeartbeats 4000000 in
set_option maxRecDepth 100000 in
theorem bX6_goThrough {p : Program} {l : Launch} {e : Env} {R : Room} {s : State} {m : MethodId} {args : Array Value} {below : List Frame} {meth : Method} {c : Code} {H : Heap} {locs : List Loc} {Q : State → Prop} {D : va_G} {sw : Sw} {cs : Cs} {ad : Nat → Nat} {X : va_W} {A : Nat → Prop} (M : Mm) {res : Option Mm} (hg : gX6_goThrough M = res) (hne : res ≠ none) (CX : CallFix p m c cX6_goThrough 4 s args wsX6_goThrough RX6) (hR : 3 ≤ R.frames ∧ 64 ≤ R.locals) (hK : va_K D vwCl (tysC cs) s) (hSW : SW sw A s s.heap) (hP : va_P D vwCl (wl cs LC NC ad M ++ X) H) (hD : va_D A (wl cs LC NC ad M ++ X)) (hS : va_S A s.heap H locs) (hA : ∀ q, s.heap.size ≤ q → A q) {ls : Array Slot} (hl : lv_has ls 4 [(0, .ref (ad 3)), (1, .ref (ad 1))]) (hret : ∀ (pc : Nat) (ls : Array Slot) (H : Heap) (locs : List Loc) (M9 : Mm), some M9 = res → decode cX6_goThrough pc = .ok (.return_, 1) → va_P D vwCl (wl cs LC NC ad M9 ++ X) H → va_D A (wl cs LC NC ad M9 ++ X) → va_S A s.heap H locs → W p l e R s m args below meth c H locs 0 0 Q (F0 m pc ls [])) : W p l e R s m args below meth c H locs 0 0 Q (F0 m 0 ls []) := by
  obtain ⟨hx, hb, hml, hown, hts⟩ := id CX
  have hw : ∀ w ∈ WG, w.before args s = true := fun w h => hts w (List.mem_cons_of_mem _ h)
  have lk_29 := hw _ m1_204
  have lk_30 := hw _ m1_64
  have lk_34 := hw _ m1_65
  have lk_40 := hw _ m1_41
  have lk_9 := hw _ m1_57
  have lk_45 := hw _ m1_38
  have lk_17 := hw _ m1_59
  have lk_20 := hw _ m1_61
  have lk_37 := hw _ m1_205
  unfold gX6_goThrough at hg
  refine lv_aload_n hx hb dX6_goThrough_0 rfl (lv_at hl 0 rfl) ?_
  refine lv_ldc (v := 65535) hx hb hown lk_29 dX6_goThrough_1 ?_
  obtain ⟨M1, hM1, hg⟩ := lt_e hg
  refine m_pi (C := RX6) (T := TX6) (n := 7) (ci := 4) hx hb hts in_RX6 tyX6 tyX6_ok nmX6 hown hK hP hD hS (by decide) rfl rfl 5 (by decide) rfl lk_30 (fun _ h9 => h9) rfl rfl rfl dX6_goThrough_3 hM1 (fun H locs hP hD hS => ?_)
  refine lv_aload_n hx hb dX6_goThrough_6 rfl (lv_at hl 0 rfl) ?_
  refine lv_iconst (v := 0) hx hb dX6_goThrough_7 (by decide) ?_
  obtain ⟨M2, hM2, hg⟩ := lt_e hg
  refine m_pi (C := RX6) (T := TX6) (n := 7) (ci := 4) hx hb hts in_RX6 tyX6 tyX6_ok nmX6 hown hK hP hD hS (by decide) rfl rfl 6 (by decide) rfl lk_34 (fun _ h9 => h9) rfl rfl rfl dX6_goThrough_8 hM2 (fun H locs hP hD hS => ?_)
  refine lv_iconst (v := 0) hx hb dX6_goThrough_11 (by decide) ?_
  refine lv_istore_n (lv' := [(2, .int (0 : Int32)), (0, .ref (ad 3)), (1, .ref (ad 1))]) hx hb dX6_goThrough_12 rfl hl (by decide) rfl (fun ls hl => ?_)
  obtain ⟨E4, hE4, hg⟩ := lf1 hg
  have kE4 : ∀ (M3 : Mm) (H : Heap) (locs : List Loc) (ls : Array Slot), va_P D vwCl (wl cs LC NC ad M3 ++ X) H → va_D A (wl cs LC NC ad M3 ++ X) → va_S A s.heap H locs → lv_has ls 4 [(0, .ref (ad 3)), (1, .ref (ad 1))] → E4 M3 = res → W p l e R s m args below meth c H locs 0 0 Q (F0 m 35 ls []) := by
    intro M3 H locs ls hP hD hS hl hg
    rw [hE4] at hg
    refine lv_iconst (v := 0) hx hb dX6_goThrough_35 (by decide) ?_
    refine lv_istore_n (lv' := [(2, .int (0 : Int32)), (0, .ref (ad 3)), (1, .ref (ad 1))]) hx hb dX6_goThrough_36 rfl hl (by decide) rfl (fun ls hl => ?_)
    have kL37_31 : ∀ (n7 : Nat) (M5 : Mm) (x6 : Int32) (H : Heap) (locs : List Loc) (ls : Array Slot), va_P D vwCl (wl cs LC NC ad M5 ++ X) H → va_D A (wl cs LC NC ad M5 ++ X) → va_S A s.heap H locs → lv_has ls 4 [(0, .ref (ad 3)), (1, .ref (ad 1)), (2, .int x6)] → gX6_goThrough_L37 n7 M5 x6 = res → W p l e R s m args below meth c H locs 0 0 Q (F0 m 37 ls []) := by
      intro n7
      induction n7 with
      | zero =>
        intro M5 x6 H locs ls hP hD hS hl hg
        rw [gX6_goThrough_L37] at hg
        exact absurd hg.symm hne
      | succ n7 ih =>
        intro M5 x6 H locs ls hP hD hS hl hg
        rw [gX6_goThrough_L37] at hg
        refine lv_iload_n hx hb dX6_goThrough_37 rfl (lv_at hl 2 rfl) ?_
        refine lv_aload_n hx hb dX6_goThrough_38 rfl (lv_at hl 1 rfl) ?_
        refine m_gi (C := RX4) (T := TX4) (n := 2) (ci := 2) hx hb hts in_RX4 hown hK hP (by decide) rfl rfl 1 (by decide) rfl lk_40 (fun _ h9 => h9) dX6_goThrough_39 ?_
        refine lv_icmp_ge (tgt := 99) hx hb dX6_goThrough_42 (by decide) (fun c8 => ?_) (fun c8 => ?_)
        · have hg := if_t hg c8
          exact hret _ _ _ _ _ hg dX6_goThrough_99 hP hD hS
        · have hg := if_f hg c8
          refine lv_iconst (v := 0) hx hb dX6_goThrough_45 (by decide) ?_
          refine lv_istore_n (lv' := [(3, .int (0 : Int32)), (0, .ref (ad 3)), (1, .ref (ad 1)), (2, .int x6)]) hx hb dX6_goThrough_46 rfl hl (by decide) rfl (fun ls hl => ?_)
          obtain ⟨E11, hE11, hg⟩ := lf2 hg
          have kE11 : ∀ (M9 : Mm) (x10 : Int32) (H : Heap) (locs : List Loc) (ls : Array Slot), va_P D vwCl (wl cs LC NC ad M9 ++ X) H → va_D A (wl cs LC NC ad M9 ++ X) → va_S A s.heap H locs → lv_has ls 4 [(0, .ref (ad 3)), (1, .ref (ad 1)), (2, .int x10)] → E11 M9 x10 = res → W p l e R s m args below meth c H locs 0 0 Q (F0 m 72 ls []) := by
            intro M9 x10 H locs ls hP hD hS hl hg
            rw [hE11] at hg
            refine lv_aload_n hx hb dX6_goThrough_72 rfl (lv_at hl 0 rfl) ?_
            refine m_gr (C := RX6) (T := TX6) (n := 7) (ci := 4) hx hb hts in_RX6 hown hK hP (by decide) rfl rfl 0 (by decide) rfl lk_9 (fun _ h9 => h9) dX6_goThrough_73 ?_
            refine lv_iload_n hx hb dX6_goThrough_76 rfl (lv_at hl 2 rfl) ?_
            refine lv_aload_n hx hb dX6_goThrough_77 rfl (lv_at hl 0 rfl) ?_
            refine m_gi (C := RX6) (T := TX6) (n := 7) (ci := 4) hx hb hts in_RX6 hown hK hP (by decide) rfl rfl 5 (by decide) rfl lk_30 (fun _ h9 => h9) dX6_goThrough_78 ?_
            obtain ⟨b12, hg⟩ := ck_e hg hne
            obtain ⟨M13, hM13, hg⟩ := lt_e hg
            refine m_st hx hb hK hP hD hS (by decide) rfl b12 dX6_goThrough_81 hM13 (fun H locs hP hD hS => ?_)
            refine lv_aload_n hx hb dX6_goThrough_82 rfl (lv_at hl 0 rfl) ?_
            refine lv_aload_n hx hb dX6_goThrough_83 rfl (lv_at hl 1 rfl) ?_
            refine m_gr (C := RX4) (T := TX4) (n := 2) (ci := 2) hx hb hts in_RX4 hown hK hP (by decide) rfl rfl 0 (by decide) rfl lk_45 (fun _ h9 => h9) dX6_goThrough_84 ?_
            refine lv_iload_n hx hb dX6_goThrough_87 rfl (lv_at hl 2 rfl) ?_
            obtain ⟨b14, hg⟩ := ck_e hg hne
            refine m_ld hx hb hK hP (by decide) rfl b14 dX6_goThrough_88 ?_
            refine lv_iload_n hx hb dX6_goThrough_89 rfl (lv_at hl 2 rfl) ?_
            obtain ⟨M16, q15, hg⟩ := bd_e hg hne
            refine w_callv (va_runV (As := [.int (M13 2 (x10).toNatClampNeg), .int x10]) (rest := []) CX (ctX6_step l D sw cs ad X H.size M13 (M13 2 (x10).toNatClampNeg) x10 q15) (cwV 2 hts (gwV m1_207 m1_209 mp1_1 m1_3 m1_210) rfl rfl rfl (by decide +kernel) ⟨Nat.le_trans (Nat.le_of_ble_eq_true rfl) hR.1, Nat.le_trans (Nat.le_of_ble_eq_true rfl) hR.2⟩) (wPreV hSW hS hA hK hP hD (by decide) rfl rfl _) rfl rfl hl.1 rfl (lv_room (Nat.le_of_ble_eq_true rfl)) dX6_goThrough_90 ⟨Nat.zero_le _, Nat.zero_le _⟩) hD hS hA (fun H locs hP hD hS => ?_)
            obtain ⟨x17, hx17, hg⟩ := lt_e hg
            refine lv_iinc (v := x17) (lv' := [(2, .int x17), (0, .ref (ad 3)), (1, .ref (ad 1))]) hx hb dX6_goThrough_93 hl (k := 2) rfl (hx17.symm) (by decide) rfl (fun ls hl => ?_)
            refine lv_goto (tgt := 37) hx hb dX6_goThrough_96 (by decide) ?_
            exact ih _ _ _ _ _ hP hD hS (lv_sub hl [1, 2, 0] rfl) hg
          have kL47_30 : ∀ (n21 : Nat) (M18 : Mm) (x19 : Int32) (x20 : Int32) (H : Heap) (locs : List Loc) (ls : Array Slot), va_P D vwCl (wl cs LC NC ad M18 ++ X) H → va_D A (wl cs LC NC ad M18 ++ X) → va_S A s.heap H locs → lv_has ls 4 [(0, .ref (ad 3)), (1, .ref (ad 1)), (2, .int x19), (3, .int x20)] → gX6_goThrough_L47 E11 n21 M18 x19 x20 = res → W p l e R s m args below meth c H locs 0 0 Q (F0 m 47 ls []) := by
            intro n21
            induction n21 with
            | zero =>
              intro M18 x19 x20 H locs ls hP hD hS hl hg
              rw [gX6_goThrough_L47] at hg
              exact absurd hg.symm hne
            | succ n21 ih =>
              intro M18 x19 x20 H locs ls hP hD hS hl hg
              rw [gX6_goThrough_L47] at hg
              refine lv_iload_n hx hb dX6_goThrough_47 rfl (lv_at hl 3 rfl) ?_
              refine lv_iconst (v := 4) hx hb dX6_goThrough_48 (by decide) ?_
              refine lv_icmp_ge (tgt := 72) hx hb dX6_goThrough_49 (by decide) (fun c22 => ?_) (fun c22 => ?_)
              · have hg := if_t hg c22
                exact kE11 _ _ _ _ _ hP hD hS (lv_sub hl [0, 1, 2] rfl) hg
              · have hg := if_f hg c22
                refine lv_aload_n hx hb dX6_goThrough_52 rfl (lv_at hl 0 rfl) ?_
                refine m_gr (C := RX6) (T := TX6) (n := 7) (ci := 4) hx hb hts in_RX6 hown hK hP (by decide) rfl rfl 1 (by decide) rfl lk_17 (fun _ h9 => h9) dX6_goThrough_53 ?_
                refine lv_iload_n hx hb dX6_goThrough_56 rfl (lv_at hl 3 rfl) ?_
                obtain ⟨b23, hg⟩ := ck_e hg hne
                obtain ⟨v24, hv24, hg⟩ := lt_e hg
                have h25 := ix_lt b23 hv24
                refine m_lr (k := 5) hx hb hK hP (by decide) rfl b23 dX6_goThrough_57 ?_
                rw [← hv24]
                refine lv_iload_n hx hb dX6_goThrough_58 rfl (lv_at hl 2 rfl) ?_
                refine lv_aload_n hx hb dX6_goThrough_59 rfl (lv_at hl 0 rfl) ?_
                refine m_gr (C := RX6) (T := TX6) (n := 7) (ci := 4) hx hb hts in_RX6 hown hK hP (by decide) rfl rfl 2 (by decide) rfl lk_20 (fun _ h9 => h9) dX6_goThrough_60 ?_
                refine lv_iload_n hx hb dX6_goThrough_63 rfl (lv_at hl 3 rfl) ?_
                obtain ⟨b26, hg⟩ := ck_e hg hne
                refine m_ld hx hb hK hP (by decide) rfl b26 dX6_goThrough_64 ?_
                obtain ⟨b27, hg⟩ := ck_e hg hne
                obtain ⟨M28, hM28, hg⟩ := lt_e hg
                refine m_st hx hb hK hP hD hS (kC_ob h25) (LC_ob h25) b27 dX6_goThrough_65 hM28 (fun H locs hP hD hS => ?_)
                obtain ⟨x29, hx29, hg⟩ := lt_e hg
                refine lv_iinc (v := x29) (lv' := [(3, .int x29), (0, .ref (ad 3)), (1, .ref (ad 1)), (2, .int x19)]) hx hb dX6_goThrough_66 hl (k := 3) rfl (hx29.symm) (by decide) rfl (fun ls hl => ?_)
                refine lv_goto (tgt := 47) hx hb dX6_goThrough_69 (by decide) ?_
                exact ih _ _ _ _ _ _ hP hD hS (lv_sub hl [1, 2, 3, 0] rfl) hg
          exact kL47_30 FU _ _ _ _ _ _ hP hD hS (lv_sub hl [1, 2, 3, 0] rfl) hg
    exact kL37_31 FU _ _ _ _ _ hP hD hS (lv_sub hl [1, 2, 0] rfl) hg
  have kL13_40 : ∀ (n34 : Nat) (M32 : Mm) (x33 : Int32) (H : Heap) (locs : List Loc) (ls : Array Slot), va_P D vwCl (wl cs LC NC ad M32 ++ X) H → va_D A (wl cs LC NC ad M32 ++ X) → va_S A s.heap H locs → lv_has ls 4 [(0, .ref (ad 3)), (1, .ref (ad 1)), (2, .int x33)] → gX6_goThrough_L13 E4 n34 M32 x33 = res → W p l e R s m args below meth c H locs 0 0 Q (F0 m 13 ls []) := by
    intro n34
    induction n34 with
    | zero =>
      intro M32 x33 H locs ls hP hD hS hl hg
      rw [gX6_goThrough_L13] at hg
      exact absurd hg.symm hne
    | succ n34 ih =>
      intro M32 x33 H locs ls hP hD hS hl hg
      rw [gX6_goThrough_L13] at hg
      refine lv_iload_n hx hb dX6_goThrough_13 rfl (lv_at hl 2 rfl) ?_
      refine lv_iconst (v := 4) hx hb dX6_goThrough_14 (by decide) ?_
      refine lv_icmp_ge (tgt := 35) hx hb dX6_goThrough_15 (by decide) (fun c35 => ?_) (fun c35 => ?_)
      · have hg := if_t hg c35
        exact kE4 _ _ _ _ hP hD hS (lv_sub hl [0, 1] rfl) hg
      · have hg := if_f hg c35
        refine lv_aload_n hx hb dX6_goThrough_18 rfl (lv_at hl 0 rfl) ?_
        refine m_gr (C := RX6) (T := TX6) (n := 7) (ci := 4) hx hb hts in_RX6 hown hK hP (by decide) rfl rfl 2 (by decide) rfl lk_20 (fun _ h9 => h9) dX6_goThrough_19 ?_
        refine lv_iload_n hx hb dX6_goThrough_22 rfl (lv_at hl 2 rfl) ?_
        refine va_gets hx hb hSW.on hS hown lk_37 (fun _ h9 => h9) dX6_goThrough_23 ?_
        refine lv_iload_n hx hb dX6_goThrough_26 rfl (lv_at hl 2 rfl) ?_
        obtain ⟨b36, hg⟩ := ck_e hg hne
        refine va_ti hx hb hSW.ot hS b36 rfl dX6_goThrough_27 ?_
        obtain ⟨b37, hg⟩ := ck_e hg hne
        obtain ⟨M38, hM38, hg⟩ := lt_e hg
        refine m_st hx hb hK hP hD hS (by decide) rfl b37 dX6_goThrough_28 hM38 (fun H locs hP hD hS => ?_)
        obtain ⟨x39, hx39, hg⟩ := lt_e hg
        refine lv_iinc (v := x39) (lv' := [(2, .int x39), (0, .ref (ad 3)), (1, .ref (ad 1))]) hx hb dX6_goThrough_29 hl (k := 2) rfl (hx39.symm) (by decide) rfl (fun ls hl => ?_)
        refine lv_goto (tgt := 13) hx hb dX6_goThrough_32 (by decide) ?_
        exact ih _ _ _ _ _ hP hD hS (lv_sub hl [1, 2, 0] rfl) hg
  exact kL13_40 FU _ _ _ _ _ hP hD hS (lv_sub hl [1, 2, 0] rfl) hg
theorem ctX6_goThrough (l : Launch) (D : va_G) (sw : Sw) (cs : Cs) (ad : Nat → Nat) (X : va_W) (sz : Nat) (M : Mm) {M1 : Mm} (hq : gX6_goThrough M = some M1) : Met l yX6_goThrough wsX6_goThrough ({ frames := 3, cells := 0, slots := 0, locals := 64 }) (va_Pc [.ref (ad 3), .ref (ad 1)] (wPre D sw cs LC NC ad M X sz)) (wQv D cs LC NC ad M1 X sz) 0 0 (wA NC ad X sz) :=
  met_w rfl rfl (Nat.le_of_ble_eq_true rfl) (fun p e s m args below meth c ls CX hr hlk hK hSW hP hD hS hA hl => bX6_goThrough M hq (by simp) CX ⟨Nat.le_refl _, Nat.le_refl _⟩ hK hSW hP hD hS hA hl (fun pc ls H locs M9 hv dg hP hD hS => W.vret CX.1 CX.2.1 hr (fun t ht hW => ⟨⟨(), rfl, trivial, wpost hP ht (Option.some.inj hv)⟩, hS.F ht⟩) hS.2.2 dg))

abbrev wsX3_execute : List Cond := Cond.code yX3_execute cX3_execute 4 none :: WG
def gX3_execute_L52 (v0 : Nat) (k1 : Nat) (n1 : Nat) (a2 : Int32) (E7 : Mm → Option Mm) : Nat → Mm → Int32 → Option Mm
  | 0, _, _ => none
  | n13 + 1, M11, x12 => if (4 : Int32) ≤ x12 then (E7 M11) else if (x12 < 0 ∨ 4 ≤ (x12).toNatClampNeg) then none else lt (um M11 (vb v0 + 8) (x12).toNatClampNeg (0 : Int32)) fun M16 => lt (x12 + (1 : Int32)) fun x17 => gX3_execute_L52 v0 k1 n1 a2 E7 n13 M16 x17
def gX3_execute_L17 (v0 : Nat) (k1 : Nat) (n1 : Nat) (a2 : Int32) (E3 : Mm → Option Mm) : Nat → Mm → Int32 → Option Mm
  | 0, _, _ => none
  | n21 + 1, M19, x20 => if (M19 (vb v0 + 6) 1) ≤ x20 then (E3 M19) else if (x20 < 0 ∨ n1 ≤ (x20).toNatClampNeg) then none else if (x20 < 0 ∨ 80 ≤ (x20).toNatClampNeg) then none else lt (um M19 (vb v0 + 7) (x20).toNatClampNeg (M19 k1 (x20).toNatClampNeg)) fun M25 => lt (x20 + (1 : Int32)) fun x26 => gX3_execute_L17 v0 k1 n1 a2 E3 n21 M25 x26
def gX3_execute (M : Mm) (v0 : Nat) (k1 : Nat) (n1 : Nat) (a2 : Int32) : Option Mm := lt (um M (vb v0 + 6) 1 (if (if (80 : Int32) < (nI n1) then (80 : Int32) else (nI n1)) < a2 then (if (80 : Int32) < (nI n1) then (80 : Int32) else (nI n1)) else a2)) fun M1 => lt (fun (M2 : Mm) => lt (um M2 (vb v0 + 6) 2 (0 : Int32)) fun M4 => lt (um M4 (vb v0 + 6) 5 (0 : Int32)) fun M5 => lt (fun (M6 : Mm) => bd2 (gCR v0 400 0 M6 (1 : Int32) (0 : Int32)) fun r10 M9 => some M9) fun E7 => gX3_execute_L52 v0 k1 n1 a2 E7 FU M5 (0 : Int32)) fun E3 => gX3_execute_L17 v0 k1 n1 a2 E3 FU M1 (0 : Int32)
set_option maxHeartbeats 4000000 in
set_option maxRecDepth 100000 in
theorem bX3_execute {p : Program} {l : Launch} {e : Env} {R : Room} {s : State} {m : MethodId} {args : Array Value} {below : List Frame} {meth : Method} {c : Code} {H : Heap} {locs : List Loc} {Q : State → Prop} {D : va_G} {sw : Sw} {cs : Cs} {ad : Nat → Nat} {X : va_W} {A : Nat → Prop} (M : Mm) (v0 : Nat) (hv0 : v0 < 16) (k1 n1 : Nat) (hk1 : k1 < NC) (hn1 : LC k1 = shI n1) (a2 : Int32) {res : Option Mm} (hg : gX3_execute M v0 k1 n1 a2 = res) (hne : res ≠ none) (CX : CallFix p m c cX3_execute 4 s args wsX3_execute RX3) (hR : 403 ≤ R.frames ∧ 9665 ≤ R.locals) (hK : va_K D vwCl (tysC cs) s) (hSW : SW sw A s s.heap) (hP : va_P D vwCl (wl cs LC NC ad M ++ X) H) (hD : va_D A (wl cs LC NC ad M ++ X)) (hS : va_S A s.heap H locs) (hA : ∀ q, s.heap.size ≤ q → A q) {ls : Array Slot} (hl : lv_has ls 4 [(0, .ref (ad (vb v0 + 6))), (1, .ref (ad k1)), (2, .int a2)]) (hret : ∀ (pc : Nat) (ls : Array Slot) (H : Heap) (locs : List Loc) (M9 : Mm), some M9 = res → decode cX3_execute pc = .ok (.return_, 1) → va_P D vwCl (wl cs LC NC ad M9 ++ X) H → va_D A (wl cs LC NC ad M9 ++ X) → va_S A s.heap H locs → W p l e R s m args below meth c H locs 0 0 Q (F0 m pc ls [])) : W p l e R s m args below meth c H locs 0 0 Q (F0 m 0 ls []) := by
  obtain ⟨hx, hb, hml, hown, hts⟩ := id CX
  have hw : ∀ w ∈ WG, w.before args s = true := fun w h => hts w (List.mem_cons_of_mem _ h)
  have lk_21 := hw _ m2_136
  have lm_smin : (Cond.static Lib.Math.min.name).before args s = true := hw _ m2_42
  have lm_i : (Cond.initialized "java/lang/Math").before args s = true := hw _ m1_16
  have lm_cmin : (Cond.code Lib.Math.min.name Lib.Math.min.code 2 (some .int)).before args s = true := hw _ m2_43
  have lk_27 := hw _ m1_119
  have lk_31 := hw _ m1_120
  have lk_34 := hw _ m1_125
  have lk_15 := hw _ m1_121
  have lk_9 := hw _ m1_118
  unfold gX3_execute at hg
  refine lv_aload_n hx hb dX3_execute_0 rfl (lv_at hl 0 rfl) ?_
  refine lv_iload_n hx hb dX3_execute_1 rfl (lv_at hl 2 rfl) ?_
  refine lv_aload_n hx hb dX3_execute_2 rfl (lv_at hl 1 rfl) ?_
  refine m_ln hx hb hK hP hk1 hn1 dX3_execute_3 ?_
  refine lv_bipush (v := 80) hx hb dX3_execute_4 (by decide) ?_
  refine va_mmin hx hb (hml.trans hl.1.symm) hown lk_21 lm_smin lm_i lm_cmin (Nat.le_trans (Nat.le_of_ble_eq_true rfl) hR.1) (Nat.le_trans (Nat.le_of_ble_eq_true rfl) hR.2) (Nat.zero_le _) (Nat.zero_le _) dX3_execute_6 ?_
  refine va_mmin hx hb (hml.trans hl.1.symm) hown lk_21 lm_smin lm_i lm_cmin (Nat.le_trans (Nat.le_of_ble_eq_true rfl) hR.1) (Nat.le_trans (Nat.le_of_ble_eq_true rfl) hR.2) (Nat.zero_le _) (Nat.zero_le _) dX3_execute_9 ?_
  obtain ⟨M1, hM1, hg⟩ := lt_e hg
  refine m_pi (C := RX3) (T := TX3) (n := 6) (ci := 1) hx hb hts in_RX3 tyX3 tyX3_ok nmX3 hown hK hP hD hS (kC_v (j := 6) hv0 (by decide)) (LC_RUN v0) rfl 1 (by decide) rfl lk_27 (fun _ h9 => h9) rfl rfl rfl dX3_execute_12 hM1 (fun H locs hP hD hS => ?_)
  refine lv_iconst (v := 0) hx hb dX3_execute_15 (by decide) ?_
  refine lv_istore_n (lv' := [(3, .int (0 : Int32)), (0, .ref (ad (vb v0 + 6))), (1, .ref (ad k1)), (2, .int a2)]) hx hb dX3_execute_16 rfl hl (by decide) rfl (fun ls hl => ?_)
  obtain ⟨E3, hE3, hg⟩ := lf1 hg
  have kE3 : ∀ (M2 : Mm) (H : Heap) (locs : List Loc) (ls : Array Slot), va_P D vwCl (wl cs LC NC ad M2 ++ X) H → va_D A (wl cs LC NC ad M2 ++ X) → va_S A s.heap H locs → lv_has ls 4 [(0, .ref (ad (vb v0 + 6)))] → E3 M2 = res → W p l e R s m args below meth c H locs 0 0 Q (F0 m 40 ls []) := by
    intro M2 H locs ls hP hD hS hl hg
    rw [hE3] at hg
    refine lv_aload_n hx hb dX3_execute_40 rfl (lv_at hl 0 rfl) ?_
    refine lv_iconst (v := 0) hx hb dX3_execute_41 (by decide) ?_
    obtain ⟨M4, hM4, hg⟩ := lt_e hg
    refine m_pi (C := RX3) (T := TX3) (n := 6) (ci := 1) hx hb hts in_RX3 tyX3 tyX3_ok nmX3 hown hK hP hD hS (kC_v (j := 6) hv0 (by decide)) (LC_RUN v0) rfl 2 (by decide) rfl lk_31 (fun _ h9 => h9) rfl rfl rfl dX3_execute_42 hM4 (fun H locs hP hD hS => ?_)
    refine lv_aload_n hx hb dX3_execute_45 rfl (lv_at hl 0 rfl) ?_
    refine lv_iconst (v := 0) hx hb dX3_execute_46 (by decide) ?_
    obtain ⟨M5, hM5, hg⟩ := lt_e hg
    refine m_pi (C := RX3) (T := TX3) (n := 6) (ci := 1) hx hb hts in_RX3 tyX3 tyX3_ok nmX3 hown hK hP hD hS (kC_v (j := 6) hv0 (by decide)) (LC_RUN v0) rfl 5 (by decide) rfl lk_34 (fun _ h9 => h9) rfl rfl rfl dX3_execute_47 hM5 (fun H locs hP hD hS => ?_)
    refine lv_iconst (v := 0) hx hb dX3_execute_50 (by decide) ?_
    refine lv_istore_n (lv' := [(3, .int (0 : Int32)), (0, .ref (ad (vb v0 + 6)))]) hx hb dX3_execute_51 rfl hl (by decide) rfl (fun ls hl => ?_)
    obtain ⟨E7, hE7, hg⟩ := lf1 hg
    have kE7 : ∀ (M6 : Mm) (H : Heap) (locs : List Loc) (ls : Array Slot), va_P D vwCl (wl cs LC NC ad M6 ++ X) H → va_D A (wl cs LC NC ad M6 ++ X) → va_S A s.heap H locs → lv_has ls 4 [(0, .ref (ad (vb v0 + 6)))] → E7 M6 = res → W p l e R s m args below meth c H locs 0 0 Q (F0 m 70 ls []) := by
      intro M6 H locs ls hP hD hS hl hg
      rw [hE7] at hg
      refine lv_aload_n hx hb dX3_execute_70 rfl (lv_at hl 0 rfl) ?_
      refine lv_iconst (v := 1) hx hb dX3_execute_71 (by decide) ?_
      refine lv_iconst (v := 0) hx hb dX3_execute_72 (by decide) ?_
      obtain ⟨r10, M9, q8, hg⟩ := bd2_e hg hne
      refine w_callv (va_runV (As := [.int (1 : Int32), .int (0 : Int32)]) (rest := []) CX ((ctCR l D sw cs ad v0 hv0 400).1 X H.size M6 _ _ r10 M9 q8) (cwV 2 hts (gwV m2_137 m2_139 mp1_12 m1_6 m2_140) rfl rfl rfl (by decide +kernel) ⟨Nat.le_trans (Nat.le_of_ble_eq_true rfl) hR.1, Nat.le_trans (Nat.le_of_ble_eq_true rfl) hR.2⟩) (wPreV hSW hS hA hK hP hD (kC_v (j := 6) hv0 (by decide)) (LC_RUN v0) rfl _) rfl rfl hl.1 rfl (lv_room (Nat.le_of_ble_eq_true rfl)) dX3_execute_73 ⟨Nat.zero_le _, Nat.zero_le _⟩) hD hS hA (fun H locs hP hD hS => ?_)
      exact hret _ _ _ _ _ hg dX3_execute_76 hP hD hS
    have kL52_18 : ∀ (n13 : Nat) (M11 : Mm) (x12 : Int32) (H : Heap) (locs : List Loc) (ls : Array Slot), va_P D vwCl (wl cs LC NC ad M11 ++ X) H → va_D A (wl cs LC NC ad M11 ++ X) → va_S A s.heap H locs → lv_has ls 4 [(0, .ref (ad (vb v0 + 6))), (3, .int x12)] → gX3_execute_L52 v0 k1 n1 a2 E7 n13 M11 x12 = res → W p l e R s m args below meth c H locs 0 0 Q (F0 m 52 ls []) := by
      intro n13
      induction n13 with
      | zero =>
        intro M11 x12 H locs ls hP hD hS hl hg
        rw [gX3_execute_L52] at hg
        exact absurd hg.symm hne
      | succ n13 ih =>
        intro M11 x12 H locs ls hP hD hS hl hg
        rw [gX3_execute_L52] at hg
        refine lv_iload_n hx hb dX3_execute_52 rfl (lv_at hl 1 rfl) ?_
        refine lv_iconst (v := 4) hx hb dX3_execute_53 (by decide) ?_
        refine lv_icmp_ge (tgt := 70) hx hb dX3_execute_54 (by decide) (fun c14 => ?_) (fun c14 => ?_)
        · have hg := if_t hg c14
          exact kE7 _ _ _ _ hP hD hS (lv_sub hl [0] rfl) hg
        · have hg := if_f hg c14
          refine lv_aload_n hx hb dX3_execute_57 rfl (lv_at hl 0 rfl) ?_
          refine m_gr (C := RX3) (T := TX3) (n := 6) (ci := 1) hx hb hts in_RX3 hown hK hP (kC_v (j := 6) hv0 (by decide)) (LC_RUN v0) rfl 3 (by decide) rfl lk_15 (fun _ h9 => h9) dX3_execute_58 ?_
          refine lv_iload_n hx hb dX3_execute_61 rfl (lv_at hl 1 rfl) ?_
          refine lv_iconst (v := 0) hx hb dX3_execute_62 (by decide) ?_
          obtain ⟨b15, hg⟩ := ck_e hg hne
          obtain ⟨M16, hM16, hg⟩ := lt_e hg
          refine m_st hx hb hK hP hD hS (kC_v (j := 8) hv0 (by decide)) (LC_RVARS v0) b15 dX3_execute_63 hM16 (fun H locs hP hD hS => ?_)
          obtain ⟨x17, hx17, hg⟩ := lt_e hg
          refine lv_iinc (v := x17) (lv' := [(3, .int x17), (0, .ref (ad (vb v0 + 6)))]) hx hb dX3_execute_64 hl (k := 1) rfl (hx17.symm) (by decide) rfl (fun ls hl => ?_)
          refine lv_goto (tgt := 52) hx hb dX3_execute_67 (by decide) ?_
          exact ih _ _ _ _ _ hP hD hS (lv_sub hl [1, 0] rfl) hg
    exact kL52_18 FU _ _ _ _ _ hP hD hS (lv_sub hl [1, 0] rfl) hg
  have kL17_27 : ∀ (n21 : Nat) (M19 : Mm) (x20 : Int32) (H : Heap) (locs : List Loc) (ls : Array Slot), va_P D vwCl (wl cs LC NC ad M19 ++ X) H → va_D A (wl cs LC NC ad M19 ++ X) → va_S A s.heap H locs → lv_has ls 4 [(0, .ref (ad (vb v0 + 6))), (1, .ref (ad k1)), (3, .int x20)] → gX3_execute_L17 v0 k1 n1 a2 E3 n21 M19 x20 = res → W p l e R s m args below meth c H locs 0 0 Q (F0 m 17 ls []) := by
    intro n21
    induction n21 with
    | zero =>
      intro M19 x20 H locs ls hP hD hS hl hg
      rw [gX3_execute_L17] at hg
      exact absurd hg.symm hne
    | succ n21 ih =>
      intro M19 x20 H locs ls hP hD hS hl hg
      rw [gX3_execute_L17] at hg
      refine lv_iload_n hx hb dX3_execute_17 rfl (lv_at hl 2 rfl) ?_
      refine lv_aload_n hx hb dX3_execute_18 rfl (lv_at hl 0 rfl) ?_
      refine m_gi (C := RX3) (T := TX3) (n := 6) (ci := 1) hx hb hts in_RX3 hown hK hP (kC_v (j := 6) hv0 (by decide)) (LC_RUN v0) rfl 1 (by decide) rfl lk_27 (fun _ h9 => h9) dX3_execute_19 ?_
      refine lv_icmp_ge (tgt := 40) hx hb dX3_execute_22 (by decide) (fun c22 => ?_) (fun c22 => ?_)
      · have hg := if_t hg c22
        exact kE3 _ _ _ _ hP hD hS (lv_sub hl [0] rfl) hg
      · have hg := if_f hg c22
        refine lv_aload_n hx hb dX3_execute_25 rfl (lv_at hl 0 rfl) ?_
        refine m_gr (C := RX3) (T := TX3) (n := 6) (ci := 1) hx hb hts in_RX3 hown hK hP (kC_v (j := 6) hv0 (by decide)) (LC_RUN v0) rfl 0 (by decide) rfl lk_9 (fun _ h9 => h9) dX3_execute_26 ?_
        refine lv_iload_n hx hb dX3_execute_29 rfl (lv_at hl 2 rfl) ?_
        refine lv_aload_n hx hb dX3_execute_30 rfl (lv_at hl 1 rfl) ?_
        refine lv_iload_n hx hb dX3_execute_31 rfl (lv_at hl 2 rfl) ?_
        obtain ⟨b23, hg⟩ := ck_e hg hne
        refine m_ld hx hb hK hP hk1 hn1 b23 dX3_execute_32 ?_
        obtain ⟨b24, hg⟩ := ck_e hg hne
        obtain ⟨M25, hM25, hg⟩ := lt_e hg
        refine m_st hx hb hK hP hD hS (kC_v (j := 7) hv0 (by decide)) (LC_RTOK v0) b24 dX3_execute_33 hM25 (fun H locs hP hD hS => ?_)
        obtain ⟨x26, hx26, hg⟩ := lt_e hg
        refine lv_iinc (v := x26) (lv' := [(3, .int x26), (0, .ref (ad (vb v0 + 6))), (1, .ref (ad k1))]) hx hb dX3_execute_34 hl (k := 2) rfl (hx26.symm) (by decide) rfl (fun ls hl => ?_)
        refine lv_goto (tgt := 17) hx hb dX3_execute_37 (by decide) ?_
        exact ih _ _ _ _ _ hP hD hS (lv_sub hl [1, 2, 0] rfl) hg
  exact kL17_27 FU _ _ _ _ _ hP hD hS (lv_sub hl [1, 2, 0] rfl) hg
theorem ctX3_execute (l : Launch) (D : va_G) (sw : Sw) (cs : Cs) (ad : Nat → Nat) (X : va_W) (sz : Nat) (M : Mm) (v0 : Nat) (hv0 : v0 < 16) (k1 n1 : Nat) (hk1 : k1 < NC) (hn1 : LC k1 = shI n1) (a2 : Int32) {M1 : Mm} (hq : gX3_execute M v0 k1 n1 a2 = some M1) : Met l yX3_execute wsX3_execute ({ frames := 403, cells := 0, slots := 0, locals := 9665 }) (va_Pc [.ref (ad (vb v0 + 6)), .ref (ad k1), .int a2] (wPre D sw cs LC NC ad M X sz)) (wQv D cs LC NC ad M1 X sz) 0 0 (wA NC ad X sz) :=
  met_w rfl rfl (Nat.le_of_ble_eq_true rfl) (fun p e s m args below meth c ls CX hr hlk hK hSW hP hD hS hA hl => bX3_execute M v0 hv0 k1 n1 hk1 hn1 a2 hq (by simp) CX ⟨Nat.le_refl _, Nat.le_refl _⟩ hK hSW hP hD hS hA hl (fun pc ls H locs M9 hv dg hP hD hS => W.vret CX.1 CX.2.1 hr (fun t ht hW => ⟨⟨(), rfl, trivial, wpost hP ht (Option.some.inj hv)⟩, hS.F ht⟩) hS.2.2 dg))

abbrev wsX8_write : List Cond := Cond.code yX8_write cX8_write 6 (some .int) :: WG
def gX8_write_L86 (a1 : Int64) : Nat → Mm → Int32 → Option (Int32 × Mm)
  | 0, _, _ => none
  | n13 + 1, M11, x12 => if x12 < 0 then (some ((M11 0 1), M11)) else lt ((((a1 >>> ((x12).toInt64 &&& 63)) &&& (255 : Int64))).toInt32) fun x15 => if x15 = 0 then (lt (x12 + (-8 : Int32)) fun x17 => gX8_write_L86 a1 n13 M11 x17) else bd2 (gX8_append M11 x15) fun r20 M19 => lt (x12 + (-8 : Int32)) fun x21 => gX8_write_L86 a1 n13 M19 x21
def gX8_write_L11 (a1 : Int64) (E3 : Mm → Option (Int32 × Mm)) (E9 : Mm → Int32 → Option (Int32 × Mm)) : Nat → Mm → Int32 → Int32 → Option (Int32 × Mm)
  | 0, _, _, _ => none
  | n29 + 1, M26, x27, x28 => if x28 < 0 then (E9 M26 x27) else lt ((((a1 >>> ((x28).toInt64 &&& 63)) &&& (255 : Int64))).toInt32) fun x31 => if x31 = 0 then (if x31 = 0 then (lt (x28 + (-8 : Int32)) fun x35 => gX8_write_L11 a1 E3 E9 n29 M26 (x27 + (0 : Int32)) x35) else lt (x28 + (-8 : Int32)) fun x34 => gX8_write_L11 a1 E3 E9 n29 M26 (x27 + (1 : Int32)) x34) else bd (gX8_isCharacter x31) fun r36 => if r36 = 0 then (E3 M26) else if x31 = 0 then (lt (x28 + (-8 : Int32)) fun x41 => gX8_write_L11 a1 E3 E9 n29 M26 (x27 + (0 : Int32)) x41) else lt (x28 + (-8 : Int32)) fun x40 => gX8_write_L11 a1 E3 E9 n29 M26 (x27 + (1 : Int32)) x40
def gX8_write (M : Mm) (a1 : Int64) : Option (Int32 × Mm) := lt (um M 0 0 (0 : Int32)) fun M1 => lt (fun (M2 : Mm) => bd2 (gX8_no M2 (1 : Int32)) fun r6 M5 => some (r6, M5)) fun E3 => lt (fun (M7 : Mm) (x8 : Int32) => if ((M7 0 1) + x8) ≤ (80 : Int32) then (gX8_write_L86 a1 FU M7 (56 : Int32)) else bd2 (gX8_no M7 (2 : Int32)) fun r25 M24 => some (r25, M24)) fun E9 => gX8_write_L11 a1 E3 E9 FU M1 (0 : Int32) (56 : Int32)
set_option maxHeartbeats 4000000 in
set_option maxRecDepth 100000 in
theorem bX8_write {p : Program} {l : Launch} {e : Env} {R : Room} {s : State} {m : MethodId} {args : Array Value} {below : List Frame} {meth : Method} {c : Code} {H : Heap} {locs : List Loc} {Q : State → Prop} {D : va_G} {sw : Sw} {cs : Cs} {ad : Nat → Nat} {X : va_W} {A : Nat → Prop} (M : Mm) (a1 : Int64) {res : Option (Int32 × Mm)} (hg : gX8_write M a1 = res) (hne : res ≠ none) (CX : CallFix p m c cX8_write 6 s args wsX8_write RX8) (hR : 5 ≤ R.frames ∧ 111 ≤ R.locals) (hK : va_K D vwCl (tysC cs) s) (hSW : SW sw A s s.heap) (hP : va_P D vwCl (wl cs LM NM ad M ++ X) H) (hD : va_D A (wl cs LM NM ad M ++ X)) (hS : va_S A s.heap H locs) (hA : ∀ q, s.heap.size ≤ q → A q) {ls : Array Slot} (hl : lv_has ls 6 [(0, .ref (ad 0)), (1, .long a1)]) (hret : ∀ (pc : Nat) (ls : Array Slot) (H : Heap) (locs : List Loc) (v : Int32) (M9 : Mm), some (v, M9) = res → decode cX8_write pc = .ok (.ireturn, 1) → va_P D vwCl (wl cs LM NM ad M9 ++ X) H → va_D A (wl cs LM NM ad M9 ++ X) → va_S A s.heap H locs → W p l e R s m args below meth c H locs 0 0 Q (F0 m pc ls [.int v])) : W p l e R s m args below meth c H locs 0 0 Q (F0 m 0 ls []) := by
  obtain ⟨hx, hb, hml, hown, hts⟩ := id CX
  have hw : ∀ w ∈ WG, w.before args s = true := fun w h => hts w (List.mem_cons_of_mem _ h)
  have lk_43 := hw _ m4_116
  have lk_47 := hw _ m4_117
  have lk_62 := hw _ m4_170
  unfold gX8_write at hg
  refine lv_aload_n hx hb dX8_write_0 rfl (lv_at hl 0 rfl) ?_
  refine lv_iconst (v := 0) hx hb dX8_write_1 (by decide) ?_
  obtain ⟨M1, hM1, hg⟩ := lt_e hg
  refine m_pi (C := RX8) (T := TX8) (n := 15) (ci := 6) hx hb hts in_RX8 tyX8 tyX8_ok nmX8 hown hK hP hD hS (by decide) rfl rfl 0 (by decide) rfl lk_43 (fun _ h9 => h9) rfl rfl rfl dX8_write_2 hM1 (fun H locs hP hD hS => ?_)
  refine lv_iconst (v := 0) hx hb dX8_write_5 (by decide) ?_
  refine lv_istore_n (lv' := [(3, .int (0 : Int32)), (0, .ref (ad 0)), (1, .long a1)]) hx hb dX8_write_6 rfl hl (by decide) rfl (fun ls hl => ?_)
  refine lv_bipush (v := 56) hx hb dX8_write_7 (by decide) ?_
  refine lv_istore (lv' := [(4, .int (56 : Int32)), (3, .int (0 : Int32)), (0, .ref (ad 0)), (1, .long a1)]) hx hb dX8_write_9 hl (by decide) rfl (fun ls hl => ?_)
  obtain ⟨E3, hE3, hg⟩ := lf1 hg
  have kE3 : ∀ (M2 : Mm) (H : Heap) (locs : List Loc) (ls : Array Slot), va_P D vwCl (wl cs LM NM ad M2 ++ X) H → va_D A (wl cs LM NM ad M2 ++ X) → va_S A s.heap H locs → lv_has ls 6 [(0, .ref (ad 0))] → E3 M2 = res → W p l e R s m args below meth c H locs 0 0 Q (F0 m 40 ls []) := by
    intro M2 H locs ls hP hD hS hl hg
    rw [hE3] at hg
    refine lv_aload_n hx hb dX8_write_40 rfl (lv_at hl 0 rfl) ?_
    refine lv_iconst (v := 1) hx hb dX8_write_41 (by decide) ?_
    obtain ⟨r6, M5, q4, hg⟩ := bd2_e hg hne
    refine w_calli (va_runV (As := [.int (1 : Int32)]) (rest := []) CX (ctX8_no l D sw cs ad X H.size M2 (1 : Int32) q4) (cwV 1 hts (gwV m4_232 m4_234 mp3_4 m1_7 m4_235) rfl rfl rfl (by decide +kernel) ⟨Nat.le_trans (Nat.le_of_ble_eq_true rfl) hR.1, Nat.le_trans (Nat.le_of_ble_eq_true rfl) hR.2⟩) (wPreV hSW hS hA hK hP hD (by decide) rfl rfl _) rfl rfl hl.1 rfl (lv_room (Nat.le_of_ble_eq_true rfl)) dX8_write_42 ⟨Nat.zero_le _, Nat.zero_le _⟩) hD hS hA (fun H locs hP hD hS => ?_)
    exact hret _ _ _ _ _ _ hg dX8_write_45 hP hD hS
  obtain ⟨E9, hE9, hg⟩ := lf2 hg
  have kE9 : ∀ (M7 : Mm) (x8 : Int32) (H : Heap) (locs : List Loc) (ls : Array Slot), va_P D vwCl (wl cs LM NM ad M7 ++ X) H → va_D A (wl cs LM NM ad M7 ++ X) → va_S A s.heap H locs → lv_has ls 6 [(0, .ref (ad 0)), (1, .long a1), (3, .int x8)] → E9 M7 x8 = res → W p l e R s m args below meth c H locs 0 0 Q (F0 m 65 ls []) := by
    intro M7 x8 H locs ls hP hD hS hl hg
    rw [hE9] at hg
    refine lv_aload_n hx hb dX8_write_65 rfl (lv_at hl 0 rfl) ?_
    refine m_gi (C := RX8) (T := TX8) (n := 15) (ci := 6) hx hb hts in_RX8 hown hK hP (by decide) rfl rfl 1 (by decide) rfl lk_47 (fun _ h9 => h9) dX8_write_66 ?_
    refine lv_iload_n hx hb dX8_write_69 rfl (lv_at hl 2 rfl) ?_
    refine lv_iadd hx hb dX8_write_70 ?_
    refine lv_bipush (v := 80) hx hb dX8_write_71 (by decide) ?_
    refine lv_icmp_le (tgt := 82) hx hb dX8_write_73 (by decide) (fun c10 => ?_) (fun c10 => ?_)
    · have hg := if_t hg c10
      refine lv_bipush (v := 56) hx hb dX8_write_82 (by decide) ?_
      refine lv_istore (lv' := [(4, .int (56 : Int32)), (0, .ref (ad 0)), (1, .long a1), (3, .int x8)]) hx hb dX8_write_84 hl (by decide) rfl (fun ls hl => ?_)
      have kL86_22 : ∀ (n13 : Nat) (M11 : Mm) (x12 : Int32) (H : Heap) (locs : List Loc) (ls : Array Slot), va_P D vwCl (wl cs LM NM ad M11 ++ X) H → va_D A (wl cs LM NM ad M11 ++ X) → va_S A s.heap H locs → lv_has ls 6 [(0, .ref (ad 0)), (1, .long a1), (4, .int x12)] → gX8_write_L86 a1 n13 M11 x12 = res → W p l e R s m args below meth c H locs 0 0 Q (F0 m 86 ls []) := by
        intro n13
        induction n13 with
        | zero =>
          intro M11 x12 H locs ls hP hD hS hl hg
          rw [gX8_write_L86] at hg
          exact absurd hg.symm hne
        | succ n13 ih =>
          intro M11 x12 H locs ls hP hD hS hl hg
          rw [gX8_write_L86] at hg
          refine lv_iload hx hb dX8_write_86 (lv_at hl 2 rfl) ?_
          refine lv_if_lt (tgt := 120) hx hb dX8_write_88 (by decide) (fun c14 => ?_) (fun c14 => ?_)
          · have hg := if_t hg c14
            refine lv_aload_n hx hb dX8_write_120 rfl (lv_at hl 0 rfl) ?_
            refine m_gi (C := RX8) (T := TX8) (n := 15) (ci := 6) hx hb hts in_RX8 hown hK hP (by decide) rfl rfl 1 (by decide) rfl lk_47 (fun _ h9 => h9) dX8_write_121 ?_
            exact hret _ _ _ _ _ _ hg dX8_write_124 hP hD hS
          · have hg := if_f hg c14
            refine lv_lload_n hx hb dX8_write_91 rfl (lv_at hl 1 rfl) ?_
            refine lv_iload hx hb dX8_write_92 (lv_at hl 2 rfl) ?_
            refine lv_lshr hx hb dX8_write_94 rfl ?_
            refine lv_ldc2 (v := 255) hx hb hown lk_62 dX8_write_95 ?_
            refine lv_land hx hb dX8_write_98 ?_
            refine lv_l2i hx hb dX8_write_99 rfl ?_
            obtain ⟨x15, hx15, hg⟩ := lt_e hg
            refine top_i hx15 ?_
            refine lv_istore (lv' := [(5, .int x15), (0, .ref (ad 0)), (1, .long a1), (4, .int x12)]) hx hb dX8_write_100 hl (by decide) rfl (fun ls hl => ?_)
            refine lv_iload hx hb dX8_write_102 (lv_at hl 0 rfl) ?_
            refine lv_if_eq (tgt := 114) hx hb dX8_write_104 (by decide) (fun c16 => ?_) (fun c16 => ?_)
            · have hg := if_t hg c16
              obtain ⟨x17, hx17, hg⟩ := lt_e hg
              refine lv_iinc (v := x17) (lv' := [(4, .int x17), (5, .int x15), (0, .ref (ad 0)), (1, .long a1)]) hx hb dX8_write_114 hl (k := 3) rfl (hx17.symm) (by decide) rfl (fun ls hl => ?_)
              refine lv_goto (tgt := 86) hx hb dX8_write_117 (by decide) ?_
              exact ih _ _ _ _ _ hP hD hS (lv_sub hl [2, 3, 0] rfl) hg
            · have hg := if_f hg c16
              refine lv_aload_n hx hb dX8_write_107 rfl (lv_at hl 1 rfl) ?_
              refine lv_iload hx hb dX8_write_108 (lv_at hl 0 rfl) ?_
              obtain ⟨r20, M19, q18, hg⟩ := bd2_e hg hne
              refine w_calli (va_runV (As := [.int x15]) (rest := []) CX (ctX8_append l D sw cs ad X H.size M11 x15 q18) (cwV 1 hts (gwV m4_236 m4_238 mp3_5 m1_7 m4_239) rfl rfl rfl (by decide +kernel) ⟨Nat.le_trans (Nat.le_of_ble_eq_true rfl) hR.1, Nat.le_trans (Nat.le_of_ble_eq_true rfl) hR.2⟩) (wPreV hSW hS hA hK hP hD (by decide) rfl rfl _) rfl rfl hl.1 rfl (lv_room (Nat.le_of_ble_eq_true rfl)) dX8_write_110 ⟨Nat.zero_le _, Nat.zero_le _⟩) hD hS hA (fun H locs hP hD hS => ?_)
              refine lv_pop hx hb dX8_write_113 rfl ?_
              obtain ⟨x21, hx21, hg⟩ := lt_e hg
              refine lv_iinc (v := x21) (lv' := [(4, .int x21), (5, .int x15), (0, .ref (ad 0)), (1, .long a1)]) hx hb dX8_write_114 hl (k := 3) rfl (hx21.symm) (by decide) rfl (fun ls hl => ?_)
              refine lv_goto (tgt := 86) hx hb dX8_write_117 (by decide) ?_
              exact ih _ _ _ _ _ hP hD hS (lv_sub hl [2, 3, 0] rfl) hg
      exact kL86_22 FU _ _ _ _ _ hP hD hS (lv_sub hl [1, 2, 0] rfl) hg
    · have hg := if_f hg c10
      refine lv_aload_n hx hb dX8_write_76 rfl (lv_at hl 0 rfl) ?_
      refine lv_iconst (v := 2) hx hb dX8_write_77 (by decide) ?_
      obtain ⟨r25, M24, q23, hg⟩ := bd2_e hg hne
      refine w_calli (va_runV (As := [.int (2 : Int32)]) (rest := []) CX (ctX8_no l D sw cs ad X H.size M7 (2 : Int32) q23) (cwV 1 hts (gwV m4_232 m4_234 mp3_4 m1_7 m4_235) rfl rfl rfl (by decide +kernel) ⟨Nat.le_trans (Nat.le_of_ble_eq_true rfl) hR.1, Nat.le_trans (Nat.le_of_ble_eq_true rfl) hR.2⟩) (wPreV hSW hS hA hK hP hD (by decide) rfl rfl _) rfl rfl hl.1 rfl (lv_room (Nat.le_of_ble_eq_true rfl)) dX8_write_78 ⟨Nat.zero_le _, Nat.zero_le _⟩) hD hS hA (fun H locs hP hD hS => ?_)
      exact hret _ _ _ _ _ _ hg dX8_write_81 hP hD hS
  have kL11_42 : ∀ (n29 : Nat) (M26 : Mm) (x27 : Int32) (x28 : Int32) (H : Heap) (locs : List Loc) (ls : Array Slot), va_P D vwCl (wl cs LM NM ad M26 ++ X) H → va_D A (wl cs LM NM ad M26 ++ X) → va_S A s.heap H locs → lv_has ls 6 [(0, .ref (ad 0)), (1, .long a1), (3, .int x27), (4, .int x28)] → gX8_write_L11 a1 E3 E9 n29 M26 x27 x28 = res → W p l e R s m args below meth c H locs 0 0 Q (F0 m 11 ls []) := by
    intro n29
    induction n29 with
    | zero =>
      intro M26 x27 x28 H locs ls hP hD hS hl hg
      rw [gX8_write_L11] at hg
      exact absurd hg.symm hne
    | succ n29 ih =>
      intro M26 x27 x28 H locs ls hP hD hS hl hg
      rw [gX8_write_L11] at hg
      refine lv_iload hx hb dX8_write_11 (lv_at hl 3 rfl) ?_
      refine lv_if_lt (tgt := 65) hx hb dX8_write_13 (by decide) (fun c30 => ?_) (fun c30 => ?_)
      · have hg := if_t hg c30
        exact kE9 _ _ _ _ _ hP hD hS (lv_sub hl [0, 1, 2] rfl) hg
      · have hg := if_f hg c30
        refine lv_lload_n hx hb dX8_write_16 rfl (lv_at hl 1 rfl) ?_
        refine lv_iload hx hb dX8_write_17 (lv_at hl 3 rfl) ?_
        refine lv_lshr hx hb dX8_write_19 rfl ?_
        refine lv_ldc2 (v := 255) hx hb hown lk_62 dX8_write_20 ?_
        refine lv_land hx hb dX8_write_23 ?_
        refine lv_l2i hx hb dX8_write_24 rfl ?_
        obtain ⟨x31, hx31, hg⟩ := lt_e hg
        refine top_i hx31 ?_
        refine lv_istore (lv' := [(5, .int x31), (0, .ref (ad 0)), (1, .long a1), (3, .int x27), (4, .int x28)]) hx hb dX8_write_25 hl (by decide) rfl (fun ls hl => ?_)
        refine lv_iload hx hb dX8_write_27 (lv_at hl 0 rfl) ?_
        refine lv_if_eq (tgt := 46) hx hb dX8_write_29 (by decide) (fun c32 => ?_) (fun c32 => ?_)
        · have hg := if_t hg c32
          refine lv_iload_n hx hb dX8_write_46 rfl (lv_at hl 3 rfl) ?_
          refine lv_iload hx hb dX8_write_47 (lv_at hl 0 rfl) ?_
          refine lv_if_ne (tgt := 56) hx hb dX8_write_49 (by decide) (fun c33 => ?_) (fun c33 => ?_)
          · have hg := if_f hg c33
            refine lv_iconst (v := 1) hx hb dX8_write_56 (by decide) ?_
            refine lv_iadd hx hb dX8_write_57 ?_
            refine lv_istore_n (lv' := [(3, .int (x27 + (1 : Int32))), (5, .int x31), (0, .ref (ad 0)), (1, .long a1), (4, .int x28)]) hx hb dX8_write_58 rfl hl (by decide) rfl (fun ls hl => ?_)
            obtain ⟨x34, hx34, hg⟩ := lt_e hg
            refine lv_iinc (v := x34) (lv' := [(4, .int x34), (3, .int (x27 + (1 : Int32))), (5, .int x31), (0, .ref (ad 0)), (1, .long a1)]) hx hb dX8_write_59 hl (k := 4) rfl (hx34.symm) (by decide) rfl (fun ls hl => ?_)
            refine lv_goto (tgt := 11) hx hb dX8_write_62 (by decide) ?_
            exact ih _ _ _ _ _ _ hP hD hS (lv_sub hl [3, 4, 1, 0] rfl) hg
          · have hg := if_t hg c33
            refine lv_iconst (v := 0) hx hb dX8_write_52 (by decide) ?_
            refine lv_goto (tgt := 57) hx hb dX8_write_53 (by decide) ?_
            refine lv_iadd hx hb dX8_write_57 ?_
            refine lv_istore_n (lv' := [(3, .int (x27 + (0 : Int32))), (5, .int x31), (0, .ref (ad 0)), (1, .long a1), (4, .int x28)]) hx hb dX8_write_58 rfl hl (by decide) rfl (fun ls hl => ?_)
            obtain ⟨x35, hx35, hg⟩ := lt_e hg
            refine lv_iinc (v := x35) (lv' := [(4, .int x35), (3, .int (x27 + (0 : Int32))), (5, .int x31), (0, .ref (ad 0)), (1, .long a1)]) hx hb dX8_write_59 hl (k := 4) rfl (hx35.symm) (by decide) rfl (fun ls hl => ?_)
            refine lv_goto (tgt := 11) hx hb dX8_write_62 (by decide) ?_
            exact ih _ _ _ _ _ _ hP hD hS (lv_sub hl [3, 4, 1, 0] rfl) hg
        · have hg := if_f hg c32
          refine lv_iload hx hb dX8_write_32 (lv_at hl 0 rfl) ?_
          obtain ⟨r36, q37, hg⟩ := bd_e hg hne
          refine r_calli (W.runS (As := [.int x31]) (rest := []) CX (ctX8_isCharacter l sw x31 q37) (va_cwS 1 hts (gwS m4_171 m4_172 m1_7 m4_173) rfl rfl rfl (by decide +kernel) ⟨Nat.le_trans (Nat.le_of_ble_eq_true rfl) hR.1, Nat.le_trans (Nat.le_of_ble_eq_true rfl) hR.2⟩) (sPreS (hSW.wr hS) _) rfl rfl hl.1 rfl (lv_room (Nat.le_of_ble_eq_true rfl)) dX8_write_34 ⟨Nat.zero_le _, Nat.zero_le _⟩) ?_
          refine lv_if_ne (tgt := 46) hx hb dX8_write_37 (by decide) (fun c38 => ?_) (fun c38 => ?_)
          · have hg := if_f hg c38
            refine lv_iload_n hx hb dX8_write_46 rfl (lv_at hl 3 rfl) ?_
            refine lv_iload hx hb dX8_write_47 (lv_at hl 0 rfl) ?_
            refine lv_if_ne (tgt := 56) hx hb dX8_write_49 (by decide) (fun c39 => ?_) (fun c39 => ?_)
            · have hg := if_f hg c39
              refine lv_iconst (v := 1) hx hb dX8_write_56 (by decide) ?_
              refine lv_iadd hx hb dX8_write_57 ?_
              refine lv_istore_n (lv' := [(3, .int (x27 + (1 : Int32))), (5, .int x31), (0, .ref (ad 0)), (1, .long a1), (4, .int x28)]) hx hb dX8_write_58 rfl hl (by decide) rfl (fun ls hl => ?_)
              obtain ⟨x40, hx40, hg⟩ := lt_e hg
              refine lv_iinc (v := x40) (lv' := [(4, .int x40), (3, .int (x27 + (1 : Int32))), (5, .int x31), (0, .ref (ad 0)), (1, .long a1)]) hx hb dX8_write_59 hl (k := 4) rfl (hx40.symm) (by decide) rfl (fun ls hl => ?_)
              refine lv_goto (tgt := 11) hx hb dX8_write_62 (by decide) ?_
              exact ih _ _ _ _ _ _ hP hD hS (lv_sub hl [3, 4, 1, 0] rfl) hg
            · have hg := if_t hg c39
              refine lv_iconst (v := 0) hx hb dX8_write_52 (by decide) ?_
              refine lv_goto (tgt := 57) hx hb dX8_write_53 (by decide) ?_
              refine lv_iadd hx hb dX8_write_57 ?_
              refine lv_istore_n (lv' := [(3, .int (x27 + (0 : Int32))), (5, .int x31), (0, .ref (ad 0)), (1, .long a1), (4, .int x28)]) hx hb dX8_write_58 rfl hl (by decide) rfl (fun ls hl => ?_)
              obtain ⟨x41, hx41, hg⟩ := lt_e hg
              refine lv_iinc (v := x41) (lv' := [(4, .int x41), (3, .int (x27 + (0 : Int32))), (5, .int x31), (0, .ref (ad 0)), (1, .long a1)]) hx hb dX8_write_59 hl (k := 4) rfl (hx41.symm) (by decide) rfl (fun ls hl => ?_)
              refine lv_goto (tgt := 11) hx hb dX8_write_62 (by decide) ?_
              exact ih _ _ _ _ _ _ hP hD hS (lv_sub hl [3, 4, 1, 0] rfl) hg
          · have hg := if_t hg c38
            exact kE3 _ _ _ _ hP hD hS (lv_sub hl [1] rfl) hg
  exact kL11_42 FU _ _ _ _ _ _ hP hD hS (lv_sub hl [2, 3, 1, 0] rfl) hg
theorem ctX8_write (l : Launch) (D : va_G) (sw : Sw) (cs : Cs) (ad : Nat → Nat) (X : va_W) (sz : Nat) (M : Mm) (a1 : Int64) {r : Int32} {M1 : Mm} (hq : gX8_write M a1 = some (r, M1)) : Met l yX8_write wsX8_write ({ frames := 5, cells := 0, slots := 0, locals := 111 }) (va_Pc [.ref (ad 0), .long a1] (wPre D sw cs LM NM ad M X sz)) (wQi D cs LM NM ad M1 X sz r) 0 0 (wA NM ad X sz) :=
  met_w rfl rfl (Nat.le_of_ble_eq_true rfl) (fun p e s m args below meth c ls CX hr hlk hK hSW hP hD hS hA hl => bX8_write M a1 hq (by simp) CX ⟨Nat.le_refl _, Nat.le_refl _⟩ hK hSW hP hD hS hA hl (fun pc ls H locs v M9 hv dg hP hD hS => W.iret CX.1 CX.2.1 hr (fun t ht hW => ⟨⟨_, (), rfl, (Prod.mk.inj (Option.some.inj hv)).1, wpost hP ht (Prod.mk.inj (Option.some.inj hv)).2⟩, hS.F ht⟩) hS.2.2 dg))

abbrev wsX8_replace : List Cond := Cond.code yX8_replace cX8_replace 4 (some .int) :: WG
def gX8_replace (M : Mm) (a1 : Int32) (a2 : Int32) : Option (Int32 × Mm) := lt (um M 0 0 (0 : Int32)) fun M1 => bd (gX8_isItem M1 a1) fun r2 => if r2 = 0 then (bd2 (gX8_no M1 (1 : Int32)) fun r23 M22 => some (r23, M22)) else bd (gX8_isToken M1 a1) fun r5 => if r5 = 0 then (bd2 (gX8_no M1 (2 : Int32)) fun r20 M19 => some (r20, M19)) else bd (gX8_isCharacter a2) fun r8 => if r8 = 0 then (bd2 (gX8_no M1 (3 : Int32)) fun r17 M16 => some (r17, M16)) else if (a1 < 0 ∨ 80 ≤ (a1).toNatClampNeg) then none else lt (M1 1 (a1).toNatClampNeg) fun x12 => if (a1 < 0 ∨ 80 ≤ (a1).toNatClampNeg) then none else lt (um M1 1 (a1).toNatClampNeg a2) fun M14 => some (x12, M14)
set_option maxHeartbeats 4000000 in
set_option maxRecDepth 100000 in
theorem bX8_replace {p : Program} {l : Launch} {e : Env} {R : Room} {s : State} {m : MethodId} {args : Array Value} {below : List Frame} {meth : Method} {c : Code} {H : Heap} {locs : List Loc} {Q : State → Prop} {D : va_G} {sw : Sw} {cs : Cs} {ad : Nat → Nat} {X : va_W} {A : Nat → Prop} (M : Mm) (a1 : Int32) (a2 : Int32) {res : Option (Int32 × Mm)} (hg : gX8_replace M a1 a2 = res) (hne : res ≠ none) (CX : CallFix p m c cX8_replace 4 s args wsX8_replace RX8) (hR : 5 ≤ R.frames ∧ 111 ≤ R.locals) (hK : va_K D vwCl (tysC cs) s) (hSW : SW sw A s s.heap) (hP : va_P D vwCl (wl cs LM NM ad M ++ X) H) (hD : va_D A (wl cs LM NM ad M ++ X)) (hS : va_S A s.heap H locs) (hA : ∀ q, s.heap.size ≤ q → A q) {ls : Array Slot} (hl : lv_has ls 4 [(0, .ref (ad 0)), (1, .int a1), (2, .int a2)]) (hret : ∀ (pc : Nat) (ls : Array Slot) (H : Heap) (locs : List Loc) (v : Int32) (M9 : Mm), some (v, M9) = res → decode cX8_replace pc = .ok (.ireturn, 1) → va_P D vwCl (wl cs LM NM ad M9 ++ X) H → va_D A (wl cs LM NM ad M9 ++ X) → va_S A s.heap H locs → W p l e R s m args below meth c H locs 0 0 Q (F0 m pc ls [.int v])) : W p l e R s m args below meth c H locs 0 0 Q (F0 m 0 ls []) := by
  obtain ⟨hx, hb, hml, hown, hts⟩ := id CX
  have hw : ∀ w ∈ WG, w.before args s = true := fun w h => hts w (List.mem_cons_of_mem _ h)
  have lk_43 := hw _ m4_116
  have lk_9 := hw _ m4_118
  unfold gX8_replace at hg
  refine lv_aload_n hx hb dX8_replace_0 rfl (lv_at hl 0 rfl) ?_
  refine lv_iconst (v := 0) hx hb dX8_replace_1 (by decide) ?_
  obtain ⟨M1, hM1, hg⟩ := lt_e hg
  refine m_pi (C := RX8) (T := TX8) (n := 15) (ci := 6) hx hb hts in_RX8 tyX8 tyX8_ok nmX8 hown hK hP hD hS (by decide) rfl rfl 0 (by decide) rfl lk_43 (fun _ h9 => h9) rfl rfl rfl dX8_replace_2 hM1 (fun H locs hP hD hS => ?_)
  refine lv_aload_n hx hb dX8_replace_5 rfl (lv_at hl 0 rfl) ?_
  refine lv_iload_n hx hb dX8_replace_6 rfl (lv_at hl 1 rfl) ?_
  obtain ⟨r2, q3, hg⟩ := bd_e hg hne
  refine r_calli (W.runV (As := [.int a1]) (rest := []) CX (ctX8_isItem l D sw cs ad X M1 a1 q3) (cwV 1 hts (gwV m5_42 m5_44 mp3_9 m1_7 m5_45) rfl rfl rfl (by decide +kernel) ⟨Nat.le_trans (Nat.le_of_ble_eq_true rfl) hR.1, Nat.le_trans (Nat.le_of_ble_eq_true rfl) hR.2⟩) (rPreV (hSW.wr hS) hK hP (by decide) rfl rfl _) rfl rfl hl.1 rfl (lv_room (Nat.le_of_ble_eq_true rfl)) dX8_replace_7 ⟨Nat.zero_le _, Nat.zero_le _⟩) ?_
  refine lv_if_ne (tgt := 19) hx hb dX8_replace_10 (by decide) (fun c4 => ?_) (fun c4 => ?_)
  · have hg := if_f hg c4
    refine lv_aload_n hx hb dX8_replace_19 rfl (lv_at hl 0 rfl) ?_
    refine lv_iload_n hx hb dX8_replace_20 rfl (lv_at hl 1 rfl) ?_
    obtain ⟨r5, q6, hg⟩ := bd_e hg hne
    refine r_calli (W.runV (As := [.int a1]) (rest := []) CX (ctX8_isToken l D sw cs ad X M1 a1 q6) (cwV 1 hts (gwV m5_46 m5_48 mp3_10 m1_7 m5_49) rfl rfl rfl (by decide +kernel) ⟨Nat.le_trans (Nat.le_of_ble_eq_true rfl) hR.1, Nat.le_trans (Nat.le_of_ble_eq_true rfl) hR.2⟩) (rPreV (hSW.wr hS) hK hP (by decide) rfl rfl _) rfl rfl hl.1 rfl (lv_room (Nat.le_of_ble_eq_true rfl)) dX8_replace_21 ⟨Nat.zero_le _, Nat.zero_le _⟩) ?_
    refine lv_if_ne (tgt := 33) hx hb dX8_replace_24 (by decide) (fun c7 => ?_) (fun c7 => ?_)
    · have hg := if_f hg c7
      refine lv_iload_n hx hb dX8_replace_33 rfl (lv_at hl 2 rfl) ?_
      obtain ⟨r8, q9, hg⟩ := bd_e hg hne
      refine r_calli (W.runS (As := [.int a2]) (rest := []) CX (ctX8_isCharacter l sw a2 q9) (va_cwS 1 hts (gwS m4_171 m4_172 m1_7 m4_173) rfl rfl rfl (by decide +kernel) ⟨Nat.le_trans (Nat.le_of_ble_eq_true rfl) hR.1, Nat.le_trans (Nat.le_of_ble_eq_true rfl) hR.2⟩) (sPreS (hSW.wr hS) _) rfl rfl hl.1 rfl (lv_room (Nat.le_of_ble_eq_true rfl)) dX8_replace_34 ⟨Nat.zero_le _, Nat.zero_le _⟩) ?_
      refine lv_if_ne (tgt := 46) hx hb dX8_replace_37 (by decide) (fun c10 => ?_) (fun c10 => ?_)
      · have hg := if_f hg c10
        refine lv_aload_n hx hb dX8_replace_46 rfl (lv_at hl 0 rfl) ?_
        refine m_gr (C := RX8) (T := TX8) (n := 15) (ci := 6) hx hb hts in_RX8 hown hK hP (by decide) rfl rfl 2 (by decide) rfl lk_9 (fun _ h9 => h9) dX8_replace_47 ?_
        refine lv_iload_n hx hb dX8_replace_50 rfl (lv_at hl 1 rfl) ?_
        obtain ⟨b11, hg⟩ := ck_e hg hne
        refine m_ld hx hb hK hP (by decide) rfl b11 dX8_replace_51 ?_
        obtain ⟨x12, hx12, hg⟩ := lt_e hg
        refine top_i hx12 ?_
        refine lv_istore_n (lv' := [(3, .int x12), (0, .ref (ad 0)), (1, .int a1), (2, .int a2)]) hx hb dX8_replace_52 rfl hl (by decide) rfl (fun ls hl => ?_)
        refine lv_aload_n hx hb dX8_replace_53 rfl (lv_at hl 1 rfl) ?_
        refine m_gr (C := RX8) (T := TX8) (n := 15) (ci := 6) hx hb hts in_RX8 hown hK hP (by decide) rfl rfl 2 (by decide) rfl lk_9 (fun _ h9 => h9) dX8_replace_54 ?_
        refine lv_iload_n hx hb dX8_replace_57 rfl (lv_at hl 2 rfl) ?_
        refine lv_iload_n hx hb dX8_replace_58 rfl (lv_at hl 3 rfl) ?_
        obtain ⟨b13, hg⟩ := ck_e hg hne
        obtain ⟨M14, hM14, hg⟩ := lt_e hg
        refine m_st hx hb hK hP hD hS (by decide) rfl b13 dX8_replace_59 hM14 (fun H locs hP hD hS => ?_)
        refine lv_iload_n hx hb dX8_replace_60 rfl (lv_at hl 0 rfl) ?_
        exact hret _ _ _ _ _ _ hg dX8_replace_61 hP hD hS
      · have hg := if_t hg c10
        refine lv_aload_n hx hb dX8_replace_40 rfl (lv_at hl 0 rfl) ?_
        refine lv_iconst (v := 3) hx hb dX8_replace_41 (by decide) ?_
        obtain ⟨r17, M16, q15, hg⟩ := bd2_e hg hne
        refine w_calli (va_runV (As := [.int (3 : Int32)]) (rest := []) CX (ctX8_no l D sw cs ad X H.size M1 (3 : Int32) q15) (cwV 1 hts (gwV m4_232 m4_234 mp3_4 m1_7 m4_235) rfl rfl rfl (by decide +kernel) ⟨Nat.le_trans (Nat.le_of_ble_eq_true rfl) hR.1, Nat.le_trans (Nat.le_of_ble_eq_true rfl) hR.2⟩) (wPreV hSW hS hA hK hP hD (by decide) rfl rfl _) rfl rfl hl.1 rfl (lv_room (Nat.le_of_ble_eq_true rfl)) dX8_replace_42 ⟨Nat.zero_le _, Nat.zero_le _⟩) hD hS hA (fun H locs hP hD hS => ?_)
        exact hret _ _ _ _ _ _ hg dX8_replace_45 hP hD hS
    · have hg := if_t hg c7
      refine lv_aload_n hx hb dX8_replace_27 rfl (lv_at hl 0 rfl) ?_
      refine lv_iconst (v := 2) hx hb dX8_replace_28 (by decide) ?_
      obtain ⟨r20, M19, q18, hg⟩ := bd2_e hg hne
      refine w_calli (va_runV (As := [.int (2 : Int32)]) (rest := []) CX (ctX8_no l D sw cs ad X H.size M1 (2 : Int32) q18) (cwV 1 hts (gwV m4_232 m4_234 mp3_4 m1_7 m4_235) rfl rfl rfl (by decide +kernel) ⟨Nat.le_trans (Nat.le_of_ble_eq_true rfl) hR.1, Nat.le_trans (Nat.le_of_ble_eq_true rfl) hR.2⟩) (wPreV hSW hS hA hK hP hD (by decide) rfl rfl _) rfl rfl hl.1 rfl (lv_room (Nat.le_of_ble_eq_true rfl)) dX8_replace_29 ⟨Nat.zero_le _, Nat.zero_le _⟩) hD hS hA (fun H locs hP hD hS => ?_)
      exact hret _ _ _ _ _ _ hg dX8_replace_32 hP hD hS
  · have hg := if_t hg c4
    refine lv_aload_n hx hb dX8_replace_13 rfl (lv_at hl 0 rfl) ?_
    refine lv_iconst (v := 1) hx hb dX8_replace_14 (by decide) ?_
    obtain ⟨r23, M22, q21, hg⟩ := bd2_e hg hne
    refine w_calli (va_runV (As := [.int (1 : Int32)]) (rest := []) CX (ctX8_no l D sw cs ad X H.size M1 (1 : Int32) q21) (cwV 1 hts (gwV m4_232 m4_234 mp3_4 m1_7 m4_235) rfl rfl rfl (by decide +kernel) ⟨Nat.le_trans (Nat.le_of_ble_eq_true rfl) hR.1, Nat.le_trans (Nat.le_of_ble_eq_true rfl) hR.2⟩) (wPreV hSW hS hA hK hP hD (by decide) rfl rfl _) rfl rfl hl.1 rfl (lv_room (Nat.le_of_ble_eq_true rfl)) dX8_replace_15 ⟨Nat.zero_le _, Nat.zero_le _⟩) hD hS hA (fun H locs hP hD hS => ?_)
    exact hret _ _ _ _ _ _ hg dX8_replace_18 hP hD hS
theorem ctX8_replace (l : Launch) (D : va_G) (sw : Sw) (cs : Cs) (ad : Nat → Nat) (X : va_W) (sz : Nat) (M : Mm) (a1 : Int32) (a2 : Int32) {r : Int32} {M1 : Mm} (hq : gX8_replace M a1 a2 = some (r, M1)) : Met l yX8_replace wsX8_replace ({ frames := 5, cells := 0, slots := 0, locals := 111 }) (va_Pc [.ref (ad 0), .int a1, .int a2] (wPre D sw cs LM NM ad M X sz)) (wQi D cs LM NM ad M1 X sz r) 0 0 (wA NM ad X sz) :=
  met_w rfl rfl (Nat.le_of_ble_eq_true rfl) (fun p e s m args below meth c ls CX hr hlk hK hSW hP hD hS hA hl => bX8_replace M a1 a2 hq (by simp) CX ⟨Nat.le_refl _, Nat.le_refl _⟩ hK hSW hP hD hS hA hl (fun pc ls H locs v M9 hv dg hP hD hS => W.iret CX.1 CX.2.1 hr (fun t ht hW => ⟨⟨_, (), rfl, (Prod.mk.inj (Option.some.inj hv)).1, wpost hP ht (Prod.mk.inj (Option.some.inj hv)).2⟩, hS.F ht⟩) hS.2.2 dg))

abbrev wsX8_look : List Cond := Cond.code yX8_look cX8_look 8 none :: WG
def gX8_look_L78 (E23 : Mm → (Nat → Int32) → (Nat → Int32) → (Nat → Int32) → Int32 → Int32 → Int32 → Option Mm) : Nat → Mm → (Nat → Int32) → (Nat → Int32) → (Nat → Int32) → Int32 → Int32 → Int32 → Int32 → Option Mm
  | 0, _, _, _, _, _, _, _, _ => none
  | n96 + 1, M88, f89, f90, f91, x92, x93, x94, x95 => if (4 : Int32) ≤ x95 then (E23 M88 f89 f90 f91 x92 x93 x94) else if (x95 < 0 ∨ 4 ≤ (x95).toNatClampNeg) then none else if ((((4 : Int32) * x94) + x95) < 0 ∨ 320 ≤ ((((4 : Int32) * x94) + x95)).toNatClampNeg) then none else lt (um M88 3 ((((4 : Int32) * x94) + x95)).toNatClampNeg (f89 (x95).toNatClampNeg)) fun M100 => lt (x95 + (1 : Int32)) fun x101 => gX8_look_L78 E23 n96 M100 f89 f90 f91 x92 x93 x94 x101
def gX8_look_L66 : Nat → Mm → (Nat → Int32) → (Nat → Int32) → (Nat → Int32) → Int32 → Int32 → Int32 → Option Mm
  | 0, _, _, _, _, _, _, _ => none
  | n14 + 1, M7, f8, f9, f10, x11, x12, x13 => if (M7 0 1) ≤ x13 then (some M7) else lt (fun (M16 : Mm) (f17 : Nat → Int32) (f18 : Nat → Int32) (f19 : Nat → Int32) (x20 : Int32) (x21 : Int32) (x22 : Int32) => if (x22 < 0 ∨ 80 ≤ (x22).toNatClampNeg) then none else lt (fun (M26 : Mm) (f27 : Nat → Int32) (f28 : Nat → Int32) (f29 : Nat → Int32) (x30 : Int32) (x31 : Int32) (x32 : Int32) (s33 : Int32) => if (x22 < 0 ∨ 80 ≤ (x22).toNatClampNeg) then none else lt (um M26 2 (x22).toNatClampNeg s33) fun M36 => if (x32 < 0 ∨ 80 ≤ (x32).toNatClampNeg) then none else if (M36 1 (x32).toNatClampNeg) = (17 : Int32) then (lt (x31 + (-1 : Int32)) fun x80 => if (x80 < 0 ∨ 5 ≤ (x80).toNatClampNeg) then none else lt (f28 (x80).toNatClampNeg) fun x82 => lt (x32 + (1 : Int32)) fun x83 => gX8_look_L66 n14 M36 f27 f28 f29 x82 x80 x83) else if (x32 < 0 ∨ 80 ≤ (x32).toNatClampNeg) then none else if (M36 1 (x32).toNatClampNeg) = (16 : Int32) then (if ((x31 - (1 : Int32)) < 0 ∨ 5 ≤ ((x31 - (1 : Int32))).toNatClampNeg) then none else if ((x31 - (1 : Int32)) < 0 ∨ 5 ≤ ((x31 - (1 : Int32))).toNatClampNeg) then none else lt ((f28 ((x31 - (1 : Int32))).toNatClampNeg) &&& ((f29 ((x31 - (1 : Int32))).toNatClampNeg) ^^^ (-1 : Int32))) fun x78 => lt (x32 + (1 : Int32)) fun x79 => gX8_look_L66 n14 M36 f27 f28 f29 x78 x31 x79) else if (x32 < 0 ∨ 80 ≤ (x32).toNatClampNeg) then none else if (8 : Int32) ≤ (M36 1 (x32).toNatClampNeg) then (if (x32 < 0 ∨ 80 ≤ (x32).toNatClampNeg) then none else if (16 : Int32) ≤ (M36 1 (x32).toNatClampNeg) then (lt (x32 + (1 : Int32)) fun x45 => gX8_look_L66 n14 M36 f27 f28 f29 x30 x31 x45) else if (x32 < 0 ∨ 80 ≤ (x32).toNatClampNeg) then none else lt (((M36 1 (x32).toNatClampNeg) - (8 : Int32)) / (2 : Int32)) fun x47 => if (x32 < 0 ∨ 80 ≤ (x32).toNatClampNeg) then none else if ((M36 1 (x32).toNatClampNeg) - (M36 1 (x32).toNatClampNeg) / (2 : Int32) * (2 : Int32)) = (1 : Int32) then (if (x47 < 0 ∨ 4 ≤ (x47).toNatClampNeg) then none else if (x47 < 0 ∨ 4 ≤ (x47).toNatClampNeg) then none else lt (upd f27 (x47).toNatClampNeg ((f27 (x47).toNatClampNeg) ||| x30)) fun f56 => lt (x32 + (1 : Int32)) fun x57 => gX8_look_L66 n14 M36 f56 f28 f29 x30 x31 x57) else if (x47 < 0 ∨ 4 ≤ (x47).toNatClampNeg) then none else if (x47 < 0 ∨ 4 ≤ (x47).toNatClampNeg) then none else lt (upd f27 (x47).toNatClampNeg ((f27 (x47).toNatClampNeg) &&& (x30 ^^^ (-1 : Int32)))) fun f52 => lt (x32 + (1 : Int32)) fun x53 => gX8_look_L66 n14 M36 f52 f28 f29 x30 x31 x53) else if (x32 < 0 ∨ 80 ≤ (x32).toNatClampNeg) then none else lt ((M36 1 (x32).toNatClampNeg) / (2 : Int32)) fun x59 => if (x31 < 0 ∨ 5 ≤ (x31).toNatClampNeg) then none else lt (upd f28 (x31).toNatClampNeg x30) fun f61 => if (x32 < 0 ∨ 80 ≤ (x32).toNatClampNeg) then none else if ((M36 1 (x32).toNatClampNeg) - (M36 1 (x32).toNatClampNeg) / (2 : Int32) * (2 : Int32)) = (1 : Int32) then (if (x59 < 0 ∨ 4 ≤ (x59).toNatClampNeg) then none else lt (x30 &&& (f27 (x59).toNatClampNeg)) fun x71 => if (x31 < 0 ∨ 5 ≤ (x31).toNatClampNeg) then none else lt (upd f29 (x31).toNatClampNeg x71) fun f73 => lt (x31 + (1 : Int32)) fun x74 => lt (x32 + (1 : Int32)) fun x75 => gX8_look_L66 n14 M36 f27 f61 f73 x71 x74 x75) else if (x59 < 0 ∨ 4 ≤ (x59).toNatClampNeg) then none else lt (x30 &&& ((f27 (x59).toNatClampNeg) ^^^ (-1 : Int32))) fun x65 => if (x31 < 0 ∨ 5 ≤ (x31).toNatClampNeg) then none else lt (upd f29 (x31).toNatClampNeg x65) fun f67 => lt (x31 + (1 : Int32)) fun x68 => lt (x32 + (1 : Int32)) fun x69 => gX8_look_L66 n14 M36 f27 f61 f67 x65 x68 x69) fun J34 => if (M16 1 (x22).toNatClampNeg) = (16 : Int32) then (if ((x21 - (1 : Int32)) < 0 ∨ 5 ≤ ((x21 - (1 : Int32))).toNatClampNeg) then none else J34 M16 f17 f18 f19 x20 x21 x22 (f18 ((x21 - (1 : Int32))).toNatClampNeg)) else if (x22 < 0 ∨ 80 ≤ (x22).toNatClampNeg) then none else if (M16 1 (x22).toNatClampNeg) = (17 : Int32) then (if ((x21 - (1 : Int32)) < 0 ∨ 5 ≤ ((x21 - (1 : Int32))).toNatClampNeg) then none else J34 M16 f17 f18 f19 x20 x21 x22 (f18 ((x21 - (1 : Int32))).toNatClampNeg)) else J34 M16 f17 f18 f19 x20 x21 x22 x20) fun E23 => gX8_look_L78 E23 FU M7 f8 f9 f10 x11 x12 x13 (0 : Int32)
def gX8_look_L14 (E112 : Mm → (Nat → Int32) → Int32 → Option Mm) : Nat → Mm → (Nat → Int32) → Int32 → Int32 → Option Mm
  | 0, _, _, _, _ => none
  | n118 + 1, M114, f115, x116, x117 => if (4 : Int32) ≤ x117 then (E112 M114 f115 x116) else if (gX8_has x116 x117) = 0 then (lt (x117 + (1 : Int32)) fun x121 => gX8_look_L14 E112 n118 M114 f115 x116 x121) else if (x117 < 0 ∨ 4 ≤ (x117).toNatClampNeg) then none else if (x117 < 0 ∨ 4 ≤ (x117).toNatClampNeg) then none else lt (upd f115 (x117).toNatClampNeg ((f115 (x117).toNatClampNeg) ||| ((1 : Int32) <<< (x116 &&& 31)))) fun f124 => lt (x117 + (1 : Int32)) fun x125 => gX8_look_L14 E112 n118 M114 f124 x116 x125
def gX8_look_L6 (E4 : Mm → (Nat → Int32) → Option Mm) : Nat → Mm → (Nat → Int32) → Int32 → Option Mm
  | 0, _, _, _ => none
  | n107 + 1, M104, f105, x106 => if (16 : Int32) ≤ x106 then (E4 M104 f105) else lt (fun (M109 : Mm) (f110 : Nat → Int32) (x111 : Int32) => lt (x111 + (1 : Int32)) fun x113 => gX8_look_L6 E4 n107 M109 f110 x113) fun E112 => gX8_look_L14 E112 FU M104 f105 x106 (0 : Int32)
def gX8_look (M : Mm) : Option Mm := lt (fun (M2 : Mm) (f3 : Nat → Int32) => gX8_look_L66 FU M2 f3 (fun _ => 0) (fun _ => 0) (65535 : Int32) (0 : Int32) (0 : Int32)) fun E4 => gX8_look_L6 E4 FU M (fun _ => 0) (0 : Int32)
set_option maxHeartbeats 4000000 in
set_option maxRecDepth 100000 in
theorem bX8_look {p : Program} {l : Launch} {e : Env} {R : Room} {s : State} {m : MethodId} {args : Array Value} {below : List Frame} {meth : Method} {c : Code} {H : Heap} {locs : List Loc} {Q : State → Prop} {D : va_G} {sw : Sw} {cs : Cs} {ad : Nat → Nat} {X : va_W} {A : Nat → Prop} (M : Mm) {res : Option Mm} (hg : gX8_look M = res) (hne : res ≠ none) (CX : CallFix p m c cX8_look 8 s args wsX8_look RX8) (hR : 1 ≤ R.frames ∧ 21 ≤ R.locals) (hK : va_K D vwCl (tysC cs) s) (hSW : SW sw A s s.heap) (hP : va_P D vwCl (wl cs LM NM ad M ++ X) H) (hD : va_D A (wl cs LM NM ad M ++ X)) (hS : va_S A s.heap H locs) (hA : ∀ q, s.heap.size ≤ q → A q) (hRc : 3 ≤ R.cells ∧ 14 ≤ R.slots) {ls : Array Slot} (hl : lv_has ls 8 [(0, .ref (ad 0))]) (hret : ∀ (pc : Nat) (ls : Array Slot) (H : Heap) (locs : List Loc) (M9 : Mm), some M9 = res → decode cX8_look pc = .ok (.return_, 1) → va_P D vwCl (wl cs LM NM ad M9 ++ X) H → va_D A (wl cs LM NM ad M9 ++ X) → va_S A s.heap H locs → W p l e R s m args below meth c H locs 3 14 Q (F0 m pc ls [])) : W p l e R s m args below meth c H locs 0 0 Q (F0 m 0 ls []) := by
  obtain ⟨hx, hb, hml, hown, hts⟩ := id CX
  have hw : ∀ w ∈ WG, w.before args s = true := fun w h => hts w (List.mem_cons_of_mem _ h)
  have km := hw _ m1_48
  have lk_97 := hw _ m5_73
  have lk_47 := hw _ m4_117
  have lk_13 := hw _ m4_119
  have lk_9 := hw _ m4_118
  have lk_16 := hw _ m4_120
  unfold gX8_look at hg
  refine lv_iconst (v := 4) hx hb dX8_look_0 (by decide) ?_
  rw [show wl cs LM NM ad M ++ X = wl cs LM NM ad M ++ (X ++ []) by rw [List.append_nil]] at hP hD
  refine m_new (n := 4) hx hb km hK hP hD hS hA rfl (by decide) (Nat.le_trans (Nat.le_of_ble_eq_true rfl) hRc.1) (Nat.le_trans (Nat.le_of_ble_eq_true rfl) hRc.2) dX8_look_1 (fun q1 H hP hD hS => ?_)
  have hP : va_P D vwCl (wl cs LM NM ad M ++ (X ++ [(q1, .inl (cs.1, 4, .inl (fun _ => 0)))])) H := hP
  have hD : va_D A (wl cs LM NM ad M ++ (X ++ [(q1, .inl (cs.1, 4, .inl (fun _ => 0)))])) := hD
  refine lv_astore_n (lv' := [(1, .ref q1), (0, .ref (ad 0))]) hx hb dX8_look_3 rfl hl (by decide) rfl (fun ls hl => ?_)
  refine lv_iconst (v := 0) hx hb dX8_look_4 (by decide) ?_
  refine lv_istore_n (lv' := [(2, .int (0 : Int32)), (1, .ref q1), (0, .ref (ad 0))]) hx hb dX8_look_5 rfl hl (by decide) rfl (fun ls hl => ?_)
  obtain ⟨E4, hE4, hg⟩ := lf2 hg
  have kE4 : ∀ (M2 : Mm) (f3 : Nat → Int32) (H : Heap) (locs : List Loc) (ls : Array Slot), va_P D vwCl (wl cs LM NM ad M2 ++ (X ++ [(q1, .inl (cs.1, 4, .inl f3))])) H → va_D A (wl cs LM NM ad M2 ++ (X ++ [(q1, .inl (cs.1, 4, .inl f3))])) → va_S A s.heap H locs → lv_has ls 8 [(0, .ref (ad 0)), (1, .ref q1)] → E4 M2 f3 = res → W p l e R s m args below meth c H locs (0 + 1) (0 + 4) Q (F0 m 48 ls []) := by
    intro M2 f3 H locs ls hP hD hS hl hg
    rw [hE4] at hg
    refine lv_ldc (v := 65535) hx hb hown lk_97 dX8_look_48 ?_
    refine lv_istore_n (lv' := [(2, .int (65535 : Int32)), (0, .ref (ad 0)), (1, .ref q1)]) hx hb dX8_look_50 rfl hl (by decide) rfl (fun ls hl => ?_)
    refine lv_iconst (v := 5) hx hb dX8_look_51 (by decide) ?_
    refine m_new (n := 5) hx hb km hK hP hD hS hA rfl (by decide) (Nat.le_trans (Nat.le_of_ble_eq_true rfl) hRc.1) (Nat.le_trans (Nat.le_of_ble_eq_true rfl) hRc.2) dX8_look_52 (fun q5 H hP hD hS => ?_)
    have hP : va_P D vwCl (wl cs LM NM ad M2 ++ (X ++ [(q1, .inl (cs.1, 4, .inl f3)), (q5, .inl (cs.1, 5, .inl (fun _ => 0)))])) H := hP
    have hD : va_D A (wl cs LM NM ad M2 ++ (X ++ [(q1, .inl (cs.1, 4, .inl f3)), (q5, .inl (cs.1, 5, .inl (fun _ => 0)))])) := hD
    refine lv_astore_n (lv' := [(3, .ref q5), (2, .int (65535 : Int32)), (0, .ref (ad 0)), (1, .ref q1)]) hx hb dX8_look_54 rfl hl (by decide) rfl (fun ls hl => ?_)
    refine lv_iconst (v := 5) hx hb dX8_look_55 (by decide) ?_
    refine m_new (n := 5) hx hb km hK hP hD hS hA rfl (by decide) (Nat.le_trans (Nat.le_of_ble_eq_true rfl) hRc.1) (Nat.le_trans (Nat.le_of_ble_eq_true rfl) hRc.2) dX8_look_56 (fun q6 H hP hD hS => ?_)
    have hP : va_P D vwCl (wl cs LM NM ad M2 ++ (X ++ [(q1, .inl (cs.1, 4, .inl f3)), (q5, .inl (cs.1, 5, .inl (fun _ => 0))), (q6, .inl (cs.1, 5, .inl (fun _ => 0)))])) H := hP
    have hD : va_D A (wl cs LM NM ad M2 ++ (X ++ [(q1, .inl (cs.1, 4, .inl f3)), (q5, .inl (cs.1, 5, .inl (fun _ => 0))), (q6, .inl (cs.1, 5, .inl (fun _ => 0)))])) := hD
    refine lv_astore (lv' := [(4, .ref q6), (3, .ref q5), (2, .int (65535 : Int32)), (0, .ref (ad 0)), (1, .ref q1)]) hx hb dX8_look_58 hl (by decide) rfl (fun ls hl => ?_)
    refine lv_iconst (v := 0) hx hb dX8_look_60 (by decide) ?_
    refine lv_istore (lv' := [(5, .int (0 : Int32)), (4, .ref q6), (3, .ref q5), (2, .int (65535 : Int32)), (0, .ref (ad 0)), (1, .ref q1)]) hx hb dX8_look_61 hl (by decide) rfl (fun ls hl => ?_)
    refine lv_iconst (v := 0) hx hb dX8_look_63 (by decide) ?_
    refine lv_istore (lv' := [(6, .int (0 : Int32)), (5, .int (0 : Int32)), (4, .ref q6), (3, .ref q5), (2, .int (65535 : Int32)), (0, .ref (ad 0)), (1, .ref q1)]) hx hb dX8_look_64 hl (by decide) rfl (fun ls hl => ?_)
    have kL66_103 : ∀ (n14 : Nat) (M7 : Mm) (f8 : Nat → Int32) (f9 : Nat → Int32) (f10 : Nat → Int32) (x11 : Int32) (x12 : Int32) (x13 : Int32) (H : Heap) (locs : List Loc) (ls : Array Slot), va_P D vwCl (wl cs LM NM ad M7 ++ (X ++ [(q1, .inl (cs.1, 4, .inl f8)), (q5, .inl (cs.1, 5, .inl f9)), (q6, .inl (cs.1, 5, .inl f10))])) H → va_D A (wl cs LM NM ad M7 ++ (X ++ [(q1, .inl (cs.1, 4, .inl f8)), (q5, .inl (cs.1, 5, .inl f9)), (q6, .inl (cs.1, 5, .inl f10))])) → va_S A s.heap H locs → lv_has ls 8 [(0, .ref (ad 0)), (1, .ref q1), (2, .int x11), (3, .ref q5), (4, .ref q6), (5, .int x12), (6, .int x13)] → gX8_look_L66 n14 M7 f8 f9 f10 x11 x12 x13 = res → W p l e R s m args below meth c H locs (((0 + 1) + 1) + 1) (((0 + 4) + 5) + 5) Q (F0 m 66 ls []) := by
      intro n14
      induction n14 with
      | zero =>
        intro M7 f8 f9 f10 x11 x12 x13 H locs ls hP hD hS hl hg
        rw [gX8_look_L66] at hg
        exact absurd hg.symm hne
      | succ n14 ih =>
        intro M7 f8 f9 f10 x11 x12 x13 H locs ls hP hD hS hl hg
        rw [gX8_look_L66] at hg
        refine lv_iload hx hb dX8_look_66 (lv_at hl 6 rfl) ?_
        refine lv_aload_n hx hb dX8_look_68 rfl (lv_at hl 0 rfl) ?_
        refine m_gi (C := RX8) (T := TX8) (n := 15) (ci := 6) hx hb hts in_RX8 hown hK hP (by decide) rfl rfl 1 (by decide) rfl lk_47 (fun _ h9 => h9) dX8_look_69 ?_
        refine lv_icmp_ge (tgt := 337) hx hb dX8_look_72 (by decide) (fun c15 => ?_) (fun c15 => ?_)
        · have hg := if_t hg c15
          have hP := w_drop hP
          have hD := w_dropD hD
          refine W.widen (k := 3) (n := 14) (by decide) (by decide) ?_
          exact hret _ _ _ _ _ hg dX8_look_337 hP hD hS
        · have hg := if_f hg c15
          refine lv_iconst (v := 0) hx hb dX8_look_75 (by decide) ?_
          refine lv_istore (lv' := [(7, .int (0 : Int32)), (0, .ref (ad 0)), (1, .ref q1), (2, .int x11), (3, .ref q5), (4, .ref q6), (5, .int x12), (6, .int x13)]) hx hb dX8_look_76 hl (by decide) rfl (fun ls hl => ?_)
          obtain ⟨E23, hE23, hg⟩ := lf7 hg
          have kE23 : ∀ (M16 : Mm) (f17 : Nat → Int32) (f18 : Nat → Int32) (f19 : Nat → Int32) (x20 : Int32) (x21 : Int32) (x22 : Int32) (H : Heap) (locs : List Loc) (ls : Array Slot), va_P D vwCl (wl cs LM NM ad M16 ++ (X ++ [(q1, .inl (cs.1, 4, .inl f17)), (q5, .inl (cs.1, 5, .inl f18)), (q6, .inl (cs.1, 5, .inl f19))])) H → va_D A (wl cs LM NM ad M16 ++ (X ++ [(q1, .inl (cs.1, 4, .inl f17)), (q5, .inl (cs.1, 5, .inl f18)), (q6, .inl (cs.1, 5, .inl f19))])) → va_S A s.heap H locs → lv_has ls 8 [(0, .ref (ad 0)), (1, .ref q1), (2, .int x20), (3, .ref q5), (4, .ref q6), (5, .int x21), (6, .int x22)] → E23 M16 f17 f18 f19 x20 x21 x22 = res → W p l e R s m args below meth c H locs (((0 + 1) + 1) + 1) (((0 + 4) + 5) + 5) Q (F0 m 106 ls []) := by
            intro M16 f17 f18 f19 x20 x21 x22 H locs ls hP hD hS hl hg
            rw [hE23] at hg
            refine lv_aload_n hx hb dX8_look_106 rfl (lv_at hl 0 rfl) ?_
            refine m_gr (C := RX8) (T := TX8) (n := 15) (ci := 6) hx hb hts in_RX8 hown hK hP (by decide) rfl rfl 3 (by decide) rfl lk_13 (fun _ h9 => h9) dX8_look_107 ?_
            refine lv_iload hx hb dX8_look_110 (lv_at hl 6 rfl) ?_
            refine lv_aload_n hx hb dX8_look_112 rfl (lv_at hl 0 rfl) ?_
            refine m_gr (C := RX8) (T := TX8) (n := 15) (ci := 6) hx hb hts in_RX8 hown hK hP (by decide) rfl rfl 2 (by decide) rfl lk_9 (fun _ h9 => h9) dX8_look_113 ?_
            refine lv_iload hx hb dX8_look_116 (lv_at hl 6 rfl) ?_
            obtain ⟨b24, hg⟩ := ck_e hg hne
            refine m_ld hx hb hK hP (by decide) rfl b24 dX8_look_118 ?_
            refine lv_bipush (v := 16) hx hb dX8_look_119 (by decide) ?_
            obtain ⟨J34, hJ34, hg⟩ := lf8 hg
            have kJ34 : ∀ (M26 : Mm) (f27 : Nat → Int32) (f28 : Nat → Int32) (f29 : Nat → Int32) (x30 : Int32) (x31 : Int32) (x32 : Int32) (s33 : Int32) (H : Heap) (locs : List Loc) (ls : Array Slot), va_P D vwCl (wl cs LM NM ad M26 ++ (X ++ [(q1, .inl (cs.1, 4, .inl f27)), (q5, .inl (cs.1, 5, .inl f28)), (q6, .inl (cs.1, 5, .inl f29))])) H → va_D A (wl cs LM NM ad M26 ++ (X ++ [(q1, .inl (cs.1, 4, .inl f27)), (q5, .inl (cs.1, 5, .inl f28)), (q6, .inl (cs.1, 5, .inl f29))])) → va_S A s.heap H locs → lv_has ls 8 [(0, .ref (ad 0)), (1, .ref q1), (2, .int x30), (3, .ref q5), (4, .ref q6), (5, .int x31), (6, .int x32)] → J34 M26 f27 f28 f29 x30 x31 x32 s33 = res → W p l e R s m args below meth c H locs (((0 + 1) + 1) + 1) (((0 + 4) + 5) + 5) Q (F0 m 146 ls [.int s33, .int x22, .ref (ad 2)]) := by
              intro M26 f27 f28 f29 x30 x31 x32 s33 H locs ls hP hD hS hl hg
              rw [hJ34] at hg
              obtain ⟨b35, hg⟩ := ck_e hg hne
              obtain ⟨M36, hM36, hg⟩ := lt_e hg
              refine m_st hx hb hK hP hD hS (by decide) rfl b35 dX8_look_146 hM36 (fun H locs hP hD hS => ?_)
              refine lv_aload_n hx hb dX8_look_147 rfl (lv_at hl 0 rfl) ?_
              refine m_gr (C := RX8) (T := TX8) (n := 15) (ci := 6) hx hb hts in_RX8 hown hK hP (by decide) rfl rfl 2 (by decide) rfl lk_9 (fun _ h9 => h9) dX8_look_148 ?_
              refine lv_iload hx hb dX8_look_151 (lv_at hl 6 rfl) ?_
              obtain ⟨b37, hg⟩ := ck_e hg hne
              refine m_ld hx hb hK hP (by decide) rfl b37 dX8_look_153 ?_
              refine lv_bipush (v := 17) hx hb dX8_look_154 (by decide) ?_
              refine lv_icmp_ne (tgt := 170) hx hb dX8_look_156 (by decide) (fun c38 => ?_) (fun c38 => ?_)
              · have hg := if_f hg c38
                refine lv_aload_n hx hb dX8_look_170 rfl (lv_at hl 0 rfl) ?_
                refine m_gr (C := RX8) (T := TX8) (n := 15) (ci := 6) hx hb hts in_RX8 hown hK hP (by decide) rfl rfl 2 (by decide) rfl lk_9 (fun _ h9 => h9) dX8_look_171 ?_
                refine lv_iload hx hb dX8_look_174 (lv_at hl 6 rfl) ?_
                obtain ⟨b39, hg⟩ := ck_e hg hne
                refine m_ld hx hb hK hP (by decide) rfl b39 dX8_look_176 ?_
                refine lv_bipush (v := 16) hx hb dX8_look_177 (by decide) ?_
                refine lv_icmp_ne (tgt := 202) hx hb dX8_look_179 (by decide) (fun c40 => ?_) (fun c40 => ?_)
                · have hg := if_f hg c40
                  refine lv_aload_n hx hb dX8_look_202 rfl (lv_at hl 0 rfl) ?_
                  refine m_gr (C := RX8) (T := TX8) (n := 15) (ci := 6) hx hb hts in_RX8 hown hK hP (by decide) rfl rfl 2 (by decide) rfl lk_9 (fun _ h9 => h9) dX8_look_203 ?_
                  refine lv_iload hx hb dX8_look_206 (lv_at hl 6 rfl) ?_
                  obtain ⟨b41, hg⟩ := ck_e hg hne
                  refine m_ld hx hb hK hP (by decide) rfl b41 dX8_look_208 ?_
                  refine lv_bipush (v := 8) hx hb dX8_look_209 (by decide) ?_
                  refine lv_icmp_ge (tgt := 271) hx hb dX8_look_211 (by decide) (fun c42 => ?_) (fun c42 => ?_)
                  · have hg := if_t hg c42
                    refine lv_aload_n hx hb dX8_look_271 rfl (lv_at hl 0 rfl) ?_
                    refine m_gr (C := RX8) (T := TX8) (n := 15) (ci := 6) hx hb hts in_RX8 hown hK hP (by decide) rfl rfl 2 (by decide) rfl lk_9 (fun _ h9 => h9) dX8_look_272 ?_
                    refine lv_iload hx hb dX8_look_275 (lv_at hl 6 rfl) ?_
                    obtain ⟨b43, hg⟩ := ck_e hg hne
                    refine m_ld hx hb hK hP (by decide) rfl b43 dX8_look_277 ?_
                    refine lv_bipush (v := 16) hx hb dX8_look_278 (by decide) ?_
                    refine lv_icmp_ge (tgt := 331) hx hb dX8_look_280 (by decide) (fun c44 => ?_) (fun c44 => ?_)
                    · have hg := if_t hg c44
                      obtain ⟨x45, hx45, hg⟩ := lt_e hg
                      refine lv_iinc (v := x45) (lv' := [(6, .int x45), (0, .ref (ad 0)), (1, .ref q1), (2, .int x30), (3, .ref q5), (4, .ref q6), (5, .int x31)]) hx hb dX8_look_331 hl (k := 6) rfl (hx45.symm) (by decide) rfl (fun ls hl => ?_)
                      refine lv_goto (tgt := 66) hx hb dX8_look_334 (by decide) ?_
                      exact ih _ _ _ _ _ _ _ _ _ _ hP hD hS (lv_sub hl [1, 2, 3, 4, 5, 6, 0] rfl) hg
                    · have hg := if_f hg c44
                      refine lv_aload_n hx hb dX8_look_283 rfl (lv_at hl 0 rfl) ?_
                      refine m_gr (C := RX8) (T := TX8) (n := 15) (ci := 6) hx hb hts in_RX8 hown hK hP (by decide) rfl rfl 2 (by decide) rfl lk_9 (fun _ h9 => h9) dX8_look_284 ?_
                      refine lv_iload hx hb dX8_look_287 (lv_at hl 6 rfl) ?_
                      obtain ⟨b46, hg⟩ := ck_e hg hne
                      refine m_ld hx hb hK hP (by decide) rfl b46 dX8_look_289 ?_
                      refine lv_bipush (v := 8) hx hb dX8_look_290 (by decide) ?_
                      refine lv_isub hx hb dX8_look_292 ?_
                      refine lv_iconst (v := 2) hx hb dX8_look_293 (by decide) ?_
                      refine lv_idiv hx hb dX8_look_294 (by decide) ?_
                      obtain ⟨x47, hx47, hg⟩ := lt_e hg
                      refine top_i hx47 ?_
                      refine lv_istore (lv' := [(7, .int x47), (0, .ref (ad 0)), (1, .ref q1), (2, .int x30), (3, .ref q5), (4, .ref q6), (5, .int x31), (6, .int x32)]) hx hb dX8_look_295 hl (by decide) rfl (fun ls hl => ?_)
                      refine lv_aload_n hx hb dX8_look_297 rfl (lv_at hl 2 rfl) ?_
                      refine lv_iload hx hb dX8_look_298 (lv_at hl 0 rfl) ?_
                      refine lv_aload_n hx hb dX8_look_300 rfl (lv_at hl 1 rfl) ?_
                      refine m_gr (C := RX8) (T := TX8) (n := 15) (ci := 6) hx hb hts in_RX8 hown hK hP (by decide) rfl rfl 2 (by decide) rfl lk_9 (fun _ h9 => h9) dX8_look_301 ?_
                      refine lv_iload hx hb dX8_look_304 (lv_at hl 7 rfl) ?_
                      obtain ⟨b48, hg⟩ := ck_e hg hne
                      refine m_ld hx hb hK hP (by decide) rfl b48 dX8_look_306 ?_
                      refine lv_iconst (v := 2) hx hb dX8_look_307 (by decide) ?_
                      refine lv_irem hx hb dX8_look_308 (by decide) ?_
                      refine lv_iconst (v := 1) hx hb dX8_look_309 (by decide) ?_
                      refine lv_icmp_ne (tgt := 322) hx hb dX8_look_310 (by decide) (fun c49 => ?_) (fun c49 => ?_)
                      · have hg := if_f hg c49
                        refine lv_aload_n hx hb dX8_look_322 rfl (lv_at hl 2 rfl) ?_
                        refine lv_iload hx hb dX8_look_323 (lv_at hl 0 rfl) ?_
                        obtain ⟨b50, hg⟩ := ck_e hg hne
                        refine m_ldX hx hb hK hP 0 rfl b50 dX8_look_325 ?_
                        refine lv_iload_n hx hb dX8_look_326 rfl (lv_at hl 3 rfl) ?_
                        refine lv_iconst (v := -1) hx hb dX8_look_327 (by decide) ?_
                        refine lv_ixor hx hb dX8_look_328 ?_
                        refine lv_iand hx hb dX8_look_329 ?_
                        obtain ⟨b51, hg⟩ := ck_e hg hne
                        obtain ⟨f52, hf52, hg⟩ := lt_e hg
                        refine m_stX hx hb hK hP hD hS 0 rfl b51 dX8_look_330 hf52 (fun H locs hP hD hS => ?_)
                        have hP : va_P D vwCl (wl cs LM NM ad M36 ++ (X ++ [(q1, .inl (cs.1, 4, .inl f52)), (q5, .inl (cs.1, 5, .inl f28)), (q6, .inl (cs.1, 5, .inl f29))])) H := hP
                        have hD : va_D A (wl cs LM NM ad M36 ++ (X ++ [(q1, .inl (cs.1, 4, .inl f52)), (q5, .inl (cs.1, 5, .inl f28)), (q6, .inl (cs.1, 5, .inl f29))])) := hD
                        obtain ⟨x53, hx53, hg⟩ := lt_e hg
                        refine lv_iinc (v := x53) (lv' := [(6, .int x53), (7, .int x47), (0, .ref (ad 0)), (1, .ref q1), (2, .int x30), (3, .ref q5), (4, .ref q6), (5, .int x31)]) hx hb dX8_look_331 hl (k := 7) rfl (hx53.symm) (by decide) rfl (fun ls hl => ?_)
                        refine lv_goto (tgt := 66) hx hb dX8_look_334 (by decide) ?_
                        exact ih _ _ _ _ _ _ _ _ _ _ hP hD hS (lv_sub hl [2, 3, 4, 5, 6, 7, 0] rfl) hg
                      · have hg := if_t hg c49
                        refine lv_aload_n hx hb dX8_look_313 rfl (lv_at hl 2 rfl) ?_
                        refine lv_iload hx hb dX8_look_314 (lv_at hl 0 rfl) ?_
                        obtain ⟨b54, hg⟩ := ck_e hg hne
                        refine m_ldX hx hb hK hP 0 rfl b54 dX8_look_316 ?_
                        refine lv_iload_n hx hb dX8_look_317 rfl (lv_at hl 3 rfl) ?_
                        refine lv_ior hx hb dX8_look_318 ?_
                        refine lv_goto (tgt := 330) hx hb dX8_look_319 (by decide) ?_
                        obtain ⟨b55, hg⟩ := ck_e hg hne
                        obtain ⟨f56, hf56, hg⟩ := lt_e hg
                        refine m_stX hx hb hK hP hD hS 0 rfl b55 dX8_look_330 hf56 (fun H locs hP hD hS => ?_)
                        have hP : va_P D vwCl (wl cs LM NM ad M36 ++ (X ++ [(q1, .inl (cs.1, 4, .inl f56)), (q5, .inl (cs.1, 5, .inl f28)), (q6, .inl (cs.1, 5, .inl f29))])) H := hP
                        have hD : va_D A (wl cs LM NM ad M36 ++ (X ++ [(q1, .inl (cs.1, 4, .inl f56)), (q5, .inl (cs.1, 5, .inl f28)), (q6, .inl (cs.1, 5, .inl f29))])) := hD
                        obtain ⟨x57, hx57, hg⟩ := lt_e hg
                        refine lv_iinc (v := x57) (lv' := [(6, .int x57), (7, .int x47), (0, .ref (ad 0)), (1, .ref q1), (2, .int x30), (3, .ref q5), (4, .ref q6), (5, .int x31)]) hx hb dX8_look_331 hl (k := 7) rfl (hx57.symm) (by decide) rfl (fun ls hl => ?_)
                        refine lv_goto (tgt := 66) hx hb dX8_look_334 (by decide) ?_
                        exact ih _ _ _ _ _ _ _ _ _ _ hP hD hS (lv_sub hl [2, 3, 4, 5, 6, 7, 0] rfl) hg
                  · have hg := if_f hg c42
                    refine lv_aload_n hx hb dX8_look_214 rfl (lv_at hl 0 rfl) ?_
                    refine m_gr (C := RX8) (T := TX8) (n := 15) (ci := 6) hx hb hts in_RX8 hown hK hP (by decide) rfl rfl 2 (by decide) rfl lk_9 (fun _ h9 => h9) dX8_look_215 ?_
                    refine lv_iload hx hb dX8_look_218 (lv_at hl 6 rfl) ?_
                    obtain ⟨b58, hg⟩ := ck_e hg hne
                    refine m_ld hx hb hK hP (by decide) rfl b58 dX8_look_220 ?_
                    refine lv_iconst (v := 2) hx hb dX8_look_221 (by decide) ?_
                    refine lv_idiv hx hb dX8_look_222 (by decide) ?_
                    obtain ⟨x59, hx59, hg⟩ := lt_e hg
                    refine top_i hx59 ?_
                    refine lv_istore (lv' := [(7, .int x59), (0, .ref (ad 0)), (1, .ref q1), (2, .int x30), (3, .ref q5), (4, .ref q6), (5, .int x31), (6, .int x32)]) hx hb dX8_look_223 hl (by decide) rfl (fun ls hl => ?_)
                    refine lv_aload_n hx hb dX8_look_225 rfl (lv_at hl 4 rfl) ?_
                    refine lv_iload hx hb dX8_look_226 (lv_at hl 6 rfl) ?_
                    refine lv_iload_n hx hb dX8_look_228 rfl (lv_at hl 3 rfl) ?_
                    obtain ⟨b60, hg⟩ := ck_e hg hne
                    obtain ⟨f61, hf61, hg⟩ := lt_e hg
                    refine m_stX hx hb hK hP hD hS 1 rfl b60 dX8_look_229 hf61 (fun H locs hP hD hS => ?_)
                    have hP : va_P D vwCl (wl cs LM NM ad M36 ++ (X ++ [(q1, .inl (cs.1, 4, .inl f27)), (q5, .inl (cs.1, 5, .inl f61)), (q6, .inl (cs.1, 5, .inl f29))])) H := hP
                    have hD : va_D A (wl cs LM NM ad M36 ++ (X ++ [(q1, .inl (cs.1, 4, .inl f27)), (q5, .inl (cs.1, 5, .inl f61)), (q6, .inl (cs.1, 5, .inl f29))])) := hD
                    refine lv_iload_n hx hb dX8_look_230 rfl (lv_at hl 3 rfl) ?_
                    refine lv_aload_n hx hb dX8_look_231 rfl (lv_at hl 1 rfl) ?_
                    refine m_gr (C := RX8) (T := TX8) (n := 15) (ci := 6) hx hb hts in_RX8 hown hK hP (by decide) rfl rfl 2 (by decide) rfl lk_9 (fun _ h9 => h9) dX8_look_232 ?_
                    refine lv_iload hx hb dX8_look_235 (lv_at hl 7 rfl) ?_
                    obtain ⟨b62, hg⟩ := ck_e hg hne
                    refine m_ld hx hb hK hP (by decide) rfl b62 dX8_look_237 ?_
                    refine lv_iconst (v := 2) hx hb dX8_look_238 (by decide) ?_
                    refine lv_irem hx hb dX8_look_239 (by decide) ?_
                    refine lv_iconst (v := 1) hx hb dX8_look_240 (by decide) ?_
                    refine lv_icmp_ne (tgt := 251) hx hb dX8_look_241 (by decide) (fun c63 => ?_) (fun c63 => ?_)
                    · have hg := if_f hg c63
                      refine lv_aload_n hx hb dX8_look_251 rfl (lv_at hl 2 rfl) ?_
                      refine lv_iload hx hb dX8_look_252 (lv_at hl 0 rfl) ?_
                      obtain ⟨b64, hg⟩ := ck_e hg hne
                      refine m_ldX hx hb hK hP 0 rfl b64 dX8_look_254 ?_
                      refine lv_iconst (v := -1) hx hb dX8_look_255 (by decide) ?_
                      refine lv_ixor hx hb dX8_look_256 ?_
                      refine lv_iand hx hb dX8_look_257 ?_
                      obtain ⟨x65, hx65, hg⟩ := lt_e hg
                      refine top_i hx65 ?_
                      refine lv_istore_n (lv' := [(2, .int x65), (7, .int x59), (0, .ref (ad 0)), (1, .ref q1), (3, .ref q5), (4, .ref q6), (5, .int x31), (6, .int x32)]) hx hb dX8_look_258 rfl hl (by decide) rfl (fun ls hl => ?_)
                      refine lv_aload hx hb dX8_look_259 (lv_at hl 5 rfl) ?_
                      refine lv_iload hx hb dX8_look_261 (lv_at hl 6 rfl) ?_
                      refine lv_iload_n hx hb dX8_look_263 rfl (lv_at hl 0 rfl) ?_
                      obtain ⟨b66, hg⟩ := ck_e hg hne
                      obtain ⟨f67, hf67, hg⟩ := lt_e hg
                      refine m_stX hx hb hK hP hD hS 2 rfl b66 dX8_look_264 hf67 (fun H locs hP hD hS => ?_)
                      have hP : va_P D vwCl (wl cs LM NM ad M36 ++ (X ++ [(q1, .inl (cs.1, 4, .inl f27)), (q5, .inl (cs.1, 5, .inl f61)), (q6, .inl (cs.1, 5, .inl f67))])) H := hP
                      have hD : va_D A (wl cs LM NM ad M36 ++ (X ++ [(q1, .inl (cs.1, 4, .inl f27)), (q5, .inl (cs.1, 5, .inl f61)), (q6, .inl (cs.1, 5, .inl f67))])) := hD
                      obtain ⟨x68, hx68, hg⟩ := lt_e hg
                      refine lv_iinc (v := x68) (lv' := [(5, .int x68), (2, .int x65), (7, .int x59), (0, .ref (ad 0)), (1, .ref q1), (3, .ref q5), (4, .ref q6), (6, .int x32)]) hx hb dX8_look_265 hl (k := 6) rfl (hx68.symm) (by decide) rfl (fun ls hl => ?_)
                      refine lv_goto (tgt := 331) hx hb dX8_look_268 (by decide) ?_
                      obtain ⟨x69, hx69, hg⟩ := lt_e hg
                      refine lv_iinc (v := x69) (lv' := [(6, .int x69), (5, .int x68), (2, .int x65), (7, .int x59), (0, .ref (ad 0)), (1, .ref q1), (3, .ref q5), (4, .ref q6)]) hx hb dX8_look_331 hl (k := 7) rfl (hx69.symm) (by decide) rfl (fun ls hl => ?_)
                      refine lv_goto (tgt := 66) hx hb dX8_look_334 (by decide) ?_
                      exact ih _ _ _ _ _ _ _ _ _ _ hP hD hS (lv_sub hl [4, 5, 2, 6, 7, 1, 0] rfl) hg
                    · have hg := if_t hg c63
                      refine lv_aload_n hx hb dX8_look_244 rfl (lv_at hl 2 rfl) ?_
                      refine lv_iload hx hb dX8_look_245 (lv_at hl 0 rfl) ?_
                      obtain ⟨b70, hg⟩ := ck_e hg hne
                      refine m_ldX hx hb hK hP 0 rfl b70 dX8_look_247 ?_
                      refine lv_goto (tgt := 257) hx hb dX8_look_248 (by decide) ?_
                      refine lv_iand hx hb dX8_look_257 ?_
                      obtain ⟨x71, hx71, hg⟩ := lt_e hg
                      refine top_i hx71 ?_
                      refine lv_istore_n (lv' := [(2, .int x71), (7, .int x59), (0, .ref (ad 0)), (1, .ref q1), (3, .ref q5), (4, .ref q6), (5, .int x31), (6, .int x32)]) hx hb dX8_look_258 rfl hl (by decide) rfl (fun ls hl => ?_)
                      refine lv_aload hx hb dX8_look_259 (lv_at hl 5 rfl) ?_
                      refine lv_iload hx hb dX8_look_261 (lv_at hl 6 rfl) ?_
                      refine lv_iload_n hx hb dX8_look_263 rfl (lv_at hl 0 rfl) ?_
                      obtain ⟨b72, hg⟩ := ck_e hg hne
                      obtain ⟨f73, hf73, hg⟩ := lt_e hg
                      refine m_stX hx hb hK hP hD hS 2 rfl b72 dX8_look_264 hf73 (fun H locs hP hD hS => ?_)
                      have hP : va_P D vwCl (wl cs LM NM ad M36 ++ (X ++ [(q1, .inl (cs.1, 4, .inl f27)), (q5, .inl (cs.1, 5, .inl f61)), (q6, .inl (cs.1, 5, .inl f73))])) H := hP
                      have hD : va_D A (wl cs LM NM ad M36 ++ (X ++ [(q1, .inl (cs.1, 4, .inl f27)), (q5, .inl (cs.1, 5, .inl f61)), (q6, .inl (cs.1, 5, .inl f73))])) := hD
                      obtain ⟨x74, hx74, hg⟩ := lt_e hg
                      refine lv_iinc (v := x74) (lv' := [(5, .int x74), (2, .int x71), (7, .int x59), (0, .ref (ad 0)), (1, .ref q1), (3, .ref q5), (4, .ref q6), (6, .int x32)]) hx hb dX8_look_265 hl (k := 6) rfl (hx74.symm) (by decide) rfl (fun ls hl => ?_)
                      refine lv_goto (tgt := 331) hx hb dX8_look_268 (by decide) ?_
                      obtain ⟨x75, hx75, hg⟩ := lt_e hg
                      refine lv_iinc (v := x75) (lv' := [(6, .int x75), (5, .int x74), (2, .int x71), (7, .int x59), (0, .ref (ad 0)), (1, .ref q1), (3, .ref q5), (4, .ref q6)]) hx hb dX8_look_331 hl (k := 7) rfl (hx75.symm) (by decide) rfl (fun ls hl => ?_)
                      refine lv_goto (tgt := 66) hx hb dX8_look_334 (by decide) ?_
                      exact ih _ _ _ _ _ _ _ _ _ _ hP hD hS (lv_sub hl [4, 5, 2, 6, 7, 1, 0] rfl) hg
                · have hg := if_t hg c40
                  refine lv_aload_n hx hb dX8_look_182 rfl (lv_at hl 3 rfl) ?_
                  refine lv_iload hx hb dX8_look_183 (lv_at hl 5 rfl) ?_
                  refine lv_iconst (v := 1) hx hb dX8_look_185 (by decide) ?_
                  refine lv_isub hx hb dX8_look_186 ?_
                  obtain ⟨b76, hg⟩ := ck_e hg hne
                  refine m_ldX hx hb hK hP 1 rfl b76 dX8_look_187 ?_
                  refine lv_aload hx hb dX8_look_188 (lv_at hl 4 rfl) ?_
                  refine lv_iload hx hb dX8_look_190 (lv_at hl 5 rfl) ?_
                  refine lv_iconst (v := 1) hx hb dX8_look_192 (by decide) ?_
                  refine lv_isub hx hb dX8_look_193 ?_
                  obtain ⟨b77, hg⟩ := ck_e hg hne
                  refine m_ldX hx hb hK hP 2 rfl b77 dX8_look_194 ?_
                  refine lv_iconst (v := -1) hx hb dX8_look_195 (by decide) ?_
                  refine lv_ixor hx hb dX8_look_196 ?_
                  refine lv_iand hx hb dX8_look_197 ?_
                  obtain ⟨x78, hx78, hg⟩ := lt_e hg
                  refine top_i hx78 ?_
                  refine lv_istore_n (lv' := [(2, .int x78), (0, .ref (ad 0)), (1, .ref q1), (3, .ref q5), (4, .ref q6), (5, .int x31), (6, .int x32)]) hx hb dX8_look_198 rfl hl (by decide) rfl (fun ls hl => ?_)
                  refine lv_goto (tgt := 331) hx hb dX8_look_199 (by decide) ?_
                  obtain ⟨x79, hx79, hg⟩ := lt_e hg
                  refine lv_iinc (v := x79) (lv' := [(6, .int x79), (2, .int x78), (0, .ref (ad 0)), (1, .ref q1), (3, .ref q5), (4, .ref q6), (5, .int x31)]) hx hb dX8_look_331 hl (k := 6) rfl (hx79.symm) (by decide) rfl (fun ls hl => ?_)
                  refine lv_goto (tgt := 66) hx hb dX8_look_334 (by decide) ?_
                  exact ih _ _ _ _ _ _ _ _ _ _ hP hD hS (lv_sub hl [2, 3, 1, 4, 5, 6, 0] rfl) hg
              · have hg := if_t hg c38
                obtain ⟨x80, hx80, hg⟩ := lt_e hg
                refine lv_iinc (v := x80) (lv' := [(5, .int x80), (0, .ref (ad 0)), (1, .ref q1), (2, .int x30), (3, .ref q5), (4, .ref q6), (6, .int x32)]) hx hb dX8_look_159 hl (k := 5) rfl (hx80.symm) (by decide) rfl (fun ls hl => ?_)
                refine lv_aload_n hx hb dX8_look_162 rfl (lv_at hl 4 rfl) ?_
                refine lv_iload hx hb dX8_look_163 (lv_at hl 0 rfl) ?_
                obtain ⟨b81, hg⟩ := ck_e hg hne
                refine m_ldX hx hb hK hP 1 rfl b81 dX8_look_165 ?_
                obtain ⟨x82, hx82, hg⟩ := lt_e hg
                refine top_i hx82 ?_
                refine lv_istore_n (lv' := [(2, .int x82), (5, .int x80), (0, .ref (ad 0)), (1, .ref q1), (3, .ref q5), (4, .ref q6), (6, .int x32)]) hx hb dX8_look_166 rfl hl (by decide) rfl (fun ls hl => ?_)
                refine lv_goto (tgt := 331) hx hb dX8_look_167 (by decide) ?_
                obtain ⟨x83, hx83, hg⟩ := lt_e hg
                refine lv_iinc (v := x83) (lv' := [(6, .int x83), (2, .int x82), (5, .int x80), (0, .ref (ad 0)), (1, .ref q1), (3, .ref q5), (4, .ref q6)]) hx hb dX8_look_331 hl (k := 6) rfl (hx83.symm) (by decide) rfl (fun ls hl => ?_)
                refine lv_goto (tgt := 66) hx hb dX8_look_334 (by decide) ?_
                exact ih _ _ _ _ _ _ _ _ _ _ hP hD hS (lv_sub hl [3, 4, 1, 5, 6, 2, 0] rfl) hg
            refine lv_icmp_eq (tgt := 136) hx hb dX8_look_121 (by decide) (fun c25 => ?_) (fun c25 => ?_)
            · have hg := if_t hg c25
              refine lv_aload_n hx hb dX8_look_136 rfl (lv_at hl 3 rfl) ?_
              refine lv_iload hx hb dX8_look_137 (lv_at hl 5 rfl) ?_
              refine lv_iconst (v := 1) hx hb dX8_look_139 (by decide) ?_
              refine lv_isub hx hb dX8_look_140 ?_
              obtain ⟨b84, hg⟩ := ck_e hg hne
              refine m_ldX hx hb hK hP 1 rfl b84 dX8_look_141 ?_
              refine lv_goto (tgt := 146) hx hb dX8_look_142 (by decide) ?_
              exact kJ34 _ _ _ _ _ _ _ _ _ _ _ hP hD hS (lv_sub hl [0, 1, 2, 3, 4, 5, 6] rfl) hg
            · have hg := if_f hg c25
              refine lv_aload_n hx hb dX8_look_124 rfl (lv_at hl 0 rfl) ?_
              refine m_gr (C := RX8) (T := TX8) (n := 15) (ci := 6) hx hb hts in_RX8 hown hK hP (by decide) rfl rfl 2 (by decide) rfl lk_9 (fun _ h9 => h9) dX8_look_125 ?_
              refine lv_iload hx hb dX8_look_128 (lv_at hl 6 rfl) ?_
              obtain ⟨b85, hg⟩ := ck_e hg hne
              refine m_ld hx hb hK hP (by decide) rfl b85 dX8_look_130 ?_
              refine lv_bipush (v := 17) hx hb dX8_look_131 (by decide) ?_
              refine lv_icmp_ne (tgt := 145) hx hb dX8_look_133 (by decide) (fun c86 => ?_) (fun c86 => ?_)
              · have hg := if_f hg c86
                refine lv_iload_n hx hb dX8_look_145 rfl (lv_at hl 2 rfl) ?_
                exact kJ34 _ _ _ _ _ _ _ _ _ _ _ hP hD hS (lv_sub hl [0, 1, 2, 3, 4, 5, 6] rfl) hg
              · have hg := if_t hg c86
                refine lv_aload_n hx hb dX8_look_136 rfl (lv_at hl 3 rfl) ?_
                refine lv_iload hx hb dX8_look_137 (lv_at hl 5 rfl) ?_
                refine lv_iconst (v := 1) hx hb dX8_look_139 (by decide) ?_
                refine lv_isub hx hb dX8_look_140 ?_
                obtain ⟨b87, hg⟩ := ck_e hg hne
                refine m_ldX hx hb hK hP 1 rfl b87 dX8_look_141 ?_
                refine lv_goto (tgt := 146) hx hb dX8_look_142 (by decide) ?_
                exact kJ34 _ _ _ _ _ _ _ _ _ _ _ hP hD hS (lv_sub hl [0, 1, 2, 3, 4, 5, 6] rfl) hg
          have kL78_102 : ∀ (n96 : Nat) (M88 : Mm) (f89 : Nat → Int32) (f90 : Nat → Int32) (f91 : Nat → Int32) (x92 : Int32) (x93 : Int32) (x94 : Int32) (x95 : Int32) (H : Heap) (locs : List Loc) (ls : Array Slot), va_P D vwCl (wl cs LM NM ad M88 ++ (X ++ [(q1, .inl (cs.1, 4, .inl f89)), (q5, .inl (cs.1, 5, .inl f90)), (q6, .inl (cs.1, 5, .inl f91))])) H → va_D A (wl cs LM NM ad M88 ++ (X ++ [(q1, .inl (cs.1, 4, .inl f89)), (q5, .inl (cs.1, 5, .inl f90)), (q6, .inl (cs.1, 5, .inl f91))])) → va_S A s.heap H locs → lv_has ls 8 [(0, .ref (ad 0)), (1, .ref q1), (2, .int x92), (3, .ref q5), (4, .ref q6), (5, .int x93), (6, .int x94), (7, .int x95)] → gX8_look_L78 E23 n96 M88 f89 f90 f91 x92 x93 x94 x95 = res → W p l e R s m args below meth c H locs (((0 + 1) + 1) + 1) (((0 + 4) + 5) + 5) Q (F0 m 78 ls []) := by
            intro n96
            induction n96 with
            | zero =>
              intro M88 f89 f90 f91 x92 x93 x94 x95 H locs ls hP hD hS hl hg
              rw [gX8_look_L78] at hg
              exact absurd hg.symm hne
            | succ n96 ih =>
              intro M88 f89 f90 f91 x92 x93 x94 x95 H locs ls hP hD hS hl hg
              rw [gX8_look_L78] at hg
              refine lv_iload hx hb dX8_look_78 (lv_at hl 7 rfl) ?_
              refine lv_iconst (v := 4) hx hb dX8_look_80 (by decide) ?_
              refine lv_icmp_ge (tgt := 106) hx hb dX8_look_81 (by decide) (fun c97 => ?_) (fun c97 => ?_)
              · have hg := if_t hg c97
                exact kE23 _ _ _ _ _ _ _ _ _ _ hP hD hS (lv_sub hl [0, 1, 2, 3, 4, 5, 6] rfl) hg
              · have hg := if_f hg c97
                refine lv_aload_n hx hb dX8_look_84 rfl (lv_at hl 0 rfl) ?_
                refine m_gr (C := RX8) (T := TX8) (n := 15) (ci := 6) hx hb hts in_RX8 hown hK hP (by decide) rfl rfl 4 (by decide) rfl lk_16 (fun _ h9 => h9) dX8_look_85 ?_
                refine lv_iconst (v := 4) hx hb dX8_look_88 (by decide) ?_
                refine lv_iload hx hb dX8_look_89 (lv_at hl 6 rfl) ?_
                refine lv_imul hx hb dX8_look_91 ?_
                refine lv_iload hx hb dX8_look_92 (lv_at hl 7 rfl) ?_
                refine lv_iadd hx hb dX8_look_94 ?_
                refine lv_aload_n hx hb dX8_look_95 rfl (lv_at hl 1 rfl) ?_
                refine lv_iload hx hb dX8_look_96 (lv_at hl 7 rfl) ?_
                obtain ⟨b98, hg⟩ := ck_e hg hne
                refine m_ldX hx hb hK hP 0 rfl b98 dX8_look_98 ?_
                obtain ⟨b99, hg⟩ := ck_e hg hne
                obtain ⟨M100, hM100, hg⟩ := lt_e hg
                refine m_st hx hb hK hP hD hS (by decide) rfl b99 dX8_look_99 hM100 (fun H locs hP hD hS => ?_)
                obtain ⟨x101, hx101, hg⟩ := lt_e hg
                refine lv_iinc (v := x101) (lv' := [(7, .int x101), (0, .ref (ad 0)), (1, .ref q1), (2, .int x92), (3, .ref q5), (4, .ref q6), (5, .int x93), (6, .int x94)]) hx hb dX8_look_100 hl (k := 7) rfl (hx101.symm) (by decide) rfl (fun ls hl => ?_)
                refine lv_goto (tgt := 78) hx hb dX8_look_103 (by decide) ?_
                exact ih _ _ _ _ _ _ _ _ _ _ _ hP hD hS (lv_sub hl [1, 2, 3, 4, 5, 6, 7, 0] rfl) hg
          exact kL78_102 FU _ _ _ _ _ _ _ _ _ _ _ hP hD hS (lv_sub hl [1, 2, 3, 4, 5, 6, 7, 0] rfl) hg
    exact kL66_103 FU _ _ _ _ _ _ _ _ _ _ hP hD hS (lv_sub hl [5, 6, 4, 3, 2, 1, 0] rfl) hg
  have kL6_127 : ∀ (n107 : Nat) (M104 : Mm) (f105 : Nat → Int32) (x106 : Int32) (H : Heap) (locs : List Loc) (ls : Array Slot), va_P D vwCl (wl cs LM NM ad M104 ++ (X ++ [(q1, .inl (cs.1, 4, .inl f105))])) H → va_D A (wl cs LM NM ad M104 ++ (X ++ [(q1, .inl (cs.1, 4, .inl f105))])) → va_S A s.heap H locs → lv_has ls 8 [(0, .ref (ad 0)), (1, .ref q1), (2, .int x106)] → gX8_look_L6 E4 n107 M104 f105 x106 = res → W p l e R s m args below meth c H locs (0 + 1) (0 + 4) Q (F0 m 6 ls []) := by
    intro n107
    induction n107 with
    | zero =>
      intro M104 f105 x106 H locs ls hP hD hS hl hg
      rw [gX8_look_L6] at hg
      exact absurd hg.symm hne
    | succ n107 ih =>
      intro M104 f105 x106 H locs ls hP hD hS hl hg
      rw [gX8_look_L6] at hg
      refine lv_iload_n hx hb dX8_look_6 rfl (lv_at hl 2 rfl) ?_
      refine lv_bipush (v := 16) hx hb dX8_look_7 (by decide) ?_
      refine lv_icmp_ge (tgt := 48) hx hb dX8_look_9 (by decide) (fun c108 => ?_) (fun c108 => ?_)
      · have hg := if_t hg c108
        exact kE4 _ _ _ _ _ hP hD hS (lv_sub hl [0, 1] rfl) hg
      · have hg := if_f hg c108
        refine lv_iconst (v := 0) hx hb dX8_look_12 (by decide) ?_
        refine lv_istore_n (lv' := [(3, .int (0 : Int32)), (0, .ref (ad 0)), (1, .ref q1), (2, .int x106)]) hx hb dX8_look_13 rfl hl (by decide) rfl (fun ls hl => ?_)
        obtain ⟨E112, hE112, hg⟩ := lf3 hg
        have kE112 : ∀ (M109 : Mm) (f110 : Nat → Int32) (x111 : Int32) (H : Heap) (locs : List Loc) (ls : Array Slot), va_P D vwCl (wl cs LM NM ad M109 ++ (X ++ [(q1, .inl (cs.1, 4, .inl f110))])) H → va_D A (wl cs LM NM ad M109 ++ (X ++ [(q1, .inl (cs.1, 4, .inl f110))])) → va_S A s.heap H locs → lv_has ls 8 [(0, .ref (ad 0)), (1, .ref q1), (2, .int x111)] → E112 M109 f110 x111 = res → W p l e R s m args below meth c H locs (0 + 1) (0 + 4) Q (F0 m 42 ls []) := by
          intro M109 f110 x111 H locs ls hP hD hS hl hg
          rw [hE112] at hg
          obtain ⟨x113, hx113, hg⟩ := lt_e hg
          refine lv_iinc (v := x113) (lv' := [(2, .int x113), (0, .ref (ad 0)), (1, .ref q1)]) hx hb dX8_look_42 hl (k := 2) rfl (hx113.symm) (by decide) rfl (fun ls hl => ?_)
          refine lv_goto (tgt := 6) hx hb dX8_look_45 (by decide) ?_
          exact ih _ _ _ _ _ _ hP hD hS (lv_sub hl [1, 2, 0] rfl) hg
        have kL14_126 : ∀ (n118 : Nat) (M114 : Mm) (f115 : Nat → Int32) (x116 : Int32) (x117 : Int32) (H : Heap) (locs : List Loc) (ls : Array Slot), va_P D vwCl (wl cs LM NM ad M114 ++ (X ++ [(q1, .inl (cs.1, 4, .inl f115))])) H → va_D A (wl cs LM NM ad M114 ++ (X ++ [(q1, .inl (cs.1, 4, .inl f115))])) → va_S A s.heap H locs → lv_has ls 8 [(0, .ref (ad 0)), (1, .ref q1), (2, .int x116), (3, .int x117)] → gX8_look_L14 E112 n118 M114 f115 x116 x117 = res → W p l e R s m args below meth c H locs (0 + 1) (0 + 4) Q (F0 m 14 ls []) := by
          intro n118
          induction n118 with
          | zero =>
            intro M114 f115 x116 x117 H locs ls hP hD hS hl hg
            rw [gX8_look_L14] at hg
            exact absurd hg.symm hne
          | succ n118 ih =>
            intro M114 f115 x116 x117 H locs ls hP hD hS hl hg
            rw [gX8_look_L14] at hg
            refine lv_iload_n hx hb dX8_look_14 rfl (lv_at hl 3 rfl) ?_
            refine lv_iconst (v := 4) hx hb dX8_look_15 (by decide) ?_
            refine lv_icmp_ge (tgt := 42) hx hb dX8_look_16 (by decide) (fun c119 => ?_) (fun c119 => ?_)
            · have hg := if_t hg c119
              exact kE112 _ _ _ _ _ _ hP hD hS (lv_sub hl [0, 1, 2] rfl) hg
            · have hg := if_f hg c119
              refine lv_iload_n hx hb dX8_look_19 rfl (lv_at hl 2 rfl) ?_
              refine lv_iload_n hx hb dX8_look_20 rfl (lv_at hl 3 rfl) ?_
              refine r_calli (W.runS (As := [.int x116, .int x117]) (rest := []) CX (ctX8_has l x116 x117) (va_cwS 2 hts (gwS m5_70 m5_71 m1_7 m5_72) rfl rfl rfl (by decide +kernel) ⟨Nat.le_trans (Nat.le_of_ble_eq_true rfl) hR.1, Nat.le_trans (Nat.le_of_ble_eq_true rfl) hR.2⟩) (pPreS _) rfl rfl hl.1 rfl (lv_room (Nat.le_of_ble_eq_true rfl)) dX8_look_21 ⟨Nat.le_trans (Nat.le_of_ble_eq_true rfl) hRc.1, Nat.le_trans (Nat.le_of_ble_eq_true rfl) hRc.2⟩) ?_
              refine lv_if_eq (tgt := 36) hx hb dX8_look_24 (by decide) (fun c120 => ?_) (fun c120 => ?_)
              · have hg := if_t hg c120
                obtain ⟨x121, hx121, hg⟩ := lt_e hg
                refine lv_iinc (v := x121) (lv' := [(3, .int x121), (0, .ref (ad 0)), (1, .ref q1), (2, .int x116)]) hx hb dX8_look_36 hl (k := 3) rfl (hx121.symm) (by decide) rfl (fun ls hl => ?_)
                refine lv_goto (tgt := 14) hx hb dX8_look_39 (by decide) ?_
                exact ih _ _ _ _ _ _ _ hP hD hS (lv_sub hl [1, 2, 3, 0] rfl) hg
              · have hg := if_f hg c120
                refine lv_aload_n hx hb dX8_look_27 rfl (lv_at hl 1 rfl) ?_
                refine lv_iload_n hx hb dX8_look_28 rfl (lv_at hl 3 rfl) ?_
                refine lv_dup2_11 hx hb dX8_look_29 rfl rfl ?_
                obtain ⟨b122, hg⟩ := ck_e hg hne
                refine m_ldX hx hb hK hP 0 rfl b122 dX8_look_30 ?_
                refine lv_iconst (v := 1) hx hb dX8_look_31 (by decide) ?_
                refine lv_iload_n hx hb dX8_look_32 rfl (lv_at hl 2 rfl) ?_
                refine lv_ishl hx hb dX8_look_33 ?_
                refine lv_ior hx hb dX8_look_34 ?_
                obtain ⟨b123, hg⟩ := ck_e hg hne
                obtain ⟨f124, hf124, hg⟩ := lt_e hg
                refine m_stX hx hb hK hP hD hS 0 rfl b123 dX8_look_35 hf124 (fun H locs hP hD hS => ?_)
                have hP : va_P D vwCl (wl cs LM NM ad M114 ++ (X ++ [(q1, .inl (cs.1, 4, .inl f124))])) H := hP
                have hD : va_D A (wl cs LM NM ad M114 ++ (X ++ [(q1, .inl (cs.1, 4, .inl f124))])) := hD
                obtain ⟨x125, hx125, hg⟩ := lt_e hg
                refine lv_iinc (v := x125) (lv' := [(3, .int x125), (0, .ref (ad 0)), (1, .ref q1), (2, .int x116)]) hx hb dX8_look_36 hl (k := 3) rfl (hx125.symm) (by decide) rfl (fun ls hl => ?_)
                refine lv_goto (tgt := 14) hx hb dX8_look_39 (by decide) ?_
                exact ih _ _ _ _ _ _ _ hP hD hS (lv_sub hl [1, 2, 3, 0] rfl) hg
        exact kL14_126 FU _ _ _ _ _ _ _ hP hD hS (lv_sub hl [1, 2, 3, 0] rfl) hg
  exact kL6_127 FU _ _ _ _ _ _ hP hD hS (lv_sub hl [2, 1, 0] rfl) hg
theorem ctX8_look (l : Launch) (D : va_G) (sw : Sw) (cs : Cs) (ad : Nat → Nat) (X : va_W) (sz : Nat) (M : Mm) {M1 : Mm} (hq : gX8_look M = some M1) : Met l yX8_look wsX8_look ({ frames := 1, cells := 3, slots := 14, locals := 21 }) (va_Pc [.ref (ad 0)] (wPre D sw cs LM NM ad M X sz)) (wQv D cs LM NM ad M1 X sz) 3 14 (wA NM ad X sz) :=
  met_w rfl rfl (Nat.le_of_ble_eq_true rfl) (fun p e s m args below meth c ls CX hr hlk hK hSW hP hD hS hA hl => bX8_look M hq (by simp) CX ⟨Nat.le_refl _, Nat.le_refl _⟩ hK hSW hP hD hS hA ⟨Nat.le_refl _, Nat.le_refl _⟩ hl (fun pc ls H locs M9 hv dg hP hD hS => W.vret CX.1 CX.2.1 hr (fun t ht hW => ⟨⟨(), rfl, trivial, wpost hP ht (Option.some.inj hv)⟩, hS.F ht⟩) hS.2.2 dg))

abbrev wsX8_statement : List Cond := Cond.code yX8_statement cX8_statement 4 none :: WG
def gX8_statement_L26 (rec : Nat → Mm → Int32 → Int32 → Option (Int32 × Mm)) (a1 : Int32) (E60 : Mm → Option Mm) : Nat → Mm → Option Mm
  | 0, _ => none
  | n63 + 1, M62 => if ((M62 0 11) < 0 ∨ 81 ≤ ((M62 0 11)).toNatClampNeg) then none else if (M62 9 ((M62 0 11)).toNatClampNeg) = (125 : Int32) then (E60 M62) else bd2 (rec 0 M62 a1 0) fun r68 M67 => gX8_statement_L26 rec a1 E60 n63 M67
def gX8_statement (rec : Nat → Mm → Int32 → Int32 → Option (Int32 × Mm)) (M : Mm) (a1 : Int32) : Option Mm := if ((M 0 11) < 0 ∨ 81 ≤ ((M 0 11)).toNatClampNeg) then none else lt (M 9 ((M 0 11)).toNatClampNeg) fun x2 => lt (um M 0 11 ((M 0 11) + (1 : Int32))) fun M3 => if x2 = (123 : Int32) then (lt (fun (M59 : Mm) => lt (um M59 0 11 ((M59 0 11) + (1 : Int32))) fun M61 => some M61) fun E60 => gX8_statement_L26 rec a1 E60 FU M3) else if x2 = (63 : Int32) then (bd2 (gME 400 0 M3 0 0) fun r30 M29 => lt (fun (M32 : Mm) (s33 : Int32) => lt (fun (M36 : Mm) (x37 : Int32) (s38 : Int32) => bd2 (rec 0 M36 s38 0) fun r42 M41 => bd2 (gX8_passes M41 (58 : Int32)) fun r45 M44 => if r45 = 0 then (some M44) else if a1 = 0 then (bd2 (rec 0 M44 (0 : Int32) 0) fun r50 M49 => some M49) else if x37 = 0 then (bd2 (rec 0 M44 (1 : Int32) 0) fun r57 M56 => some M56) else bd2 (rec 0 M44 (0 : Int32) 0) fun r54 M53 => some M53) fun J39 => if a1 = 0 then (J39 M32 s33 (0 : Int32)) else if s33 = 0 then (J39 M32 s33 (0 : Int32)) else J39 M32 s33 (1 : Int32)) fun J34 => if r30 = 0 then (J34 M29 (0 : Int32)) else J34 M29 (1 : Int32)) else lt (fun (M7 : Mm) (x8 : Int32) => bd2 (gME 400 0 M7 0 0) fun r12 M11 => lt (um M11 0 11 ((M11 0 11) + (1 : Int32))) fun M13 => lt (fun (M15 : Mm) (x16 : Int32) (x17 : Int32) => if a1 = 0 then (some M15) else if x16 = (33 : Int32) then (if ((M15 0 13) < 0 ∨ 80 ≤ ((M15 0 13)).toNatClampNeg) then none else lt (um M15 11 ((M15 0 13)).toNatClampNeg x17) fun M22 => lt (um M22 0 13 ((M22 0 13) + (1 : Int32))) fun M23 => some M23) else some M15) fun J18 => if a1 = 0 then (J18 M13 x8 r12) else if (gX8_isName x8) = 0 then (J18 M13 x8 r12) else if ((x8 - (97 : Int32)) < 0 ∨ 4 ≤ ((x8 - (97 : Int32))).toNatClampNeg) then none else lt (um M13 10 ((x8 - (97 : Int32))).toNatClampNeg r12) fun M26 => J18 M26 x8 r12) fun J9 => if (gX8_isName x2) = 0 then (J9 M3 x2) else lt (um M3 0 11 ((M3 0 11) + (1 : Int32))) fun M27 => J9 M27 x2
set_option maxHeartbeats 4000000 in
set_option maxRecDepth 100000 in
theorem bX8_statement {p : Program} {l : Launch} {e : Env} {R : Room} {s : State} {m : MethodId} {args : Array Value} {below : List Frame} {meth : Method} {c : Code} {H : Heap} {locs : List Loc} {Q : State → Prop} {D : va_G} {sw : Sw} {cs : Cs} {ad : Nat → Nat} {X : va_W} {A : Nat → Prop} (rec : Nat → Mm → Int32 → Int32 → Option (Int32 × Mm)) (M : Mm) (a1 : Int32) {d : Nat} (h0 : ∀ (X : va_W) (sz : Nat) (M : Mm) (a1 a2 : Int32) (r : Int32) (M1 : Mm), rec 0 M a1 a2 = some (r, M1) → Met l yX8_statement wsX8_statement ({ frames := 402 + d, cells := 0, slots := 0, locals := 9644 + 24 * d }) (va_Pc [.ref (ad 0), .int a1] (wPre D sw cs LM NM ad M X sz)) (wQv D cs LM NM ad M1 X sz) 0 0 (wA NM ad X sz)) {res : Option Mm} (hg : gX8_statement rec M a1 = res) (hne : res ≠ none) (CX : CallFix p m c cX8_statement 4 s args wsX8_statement RX8) (hR : 402 ≤ R.frames ∧ 9644 ≤ R.locals) (hR2 : 402 + d + 1 ≤ R.frames ∧ 24 + (9644 + 24 * d) ≤ R.locals) (hK : va_K D vwCl (tysC cs) s) (hSW : SW sw A s s.heap) (hP : va_P D vwCl (wl cs LM NM ad M ++ X) H) (hD : va_D A (wl cs LM NM ad M ++ X)) (hS : va_S A s.heap H locs) (hA : ∀ q, s.heap.size ≤ q → A q) {ls : Array Slot} (hl : lv_has ls 4 [(0, .ref (ad 0)), (1, .int a1)]) (hret : ∀ (pc : Nat) (ls : Array Slot) (H : Heap) (locs : List Loc) (M9 : Mm), some M9 = res → decode cX8_statement pc = .ok (.return_, 1) → va_P D vwCl (wl cs LM NM ad M9 ++ X) H → va_D A (wl cs LM NM ad M9 ++ X) → va_S A s.heap H locs → W p l e R s m args below meth c H locs 0 0 Q (F0 m pc ls [])) : W p l e R s m args below meth c H locs 0 0 Q (F0 m 0 ls []) := by
  obtain ⟨hx, hb, hml, hown, hts⟩ := id CX
  have hw : ∀ w ∈ WG, w.before args s = true := fun w h => hts w (List.mem_cons_of_mem _ h)
  have lk_34 := hw _ m4_126
  have lk_152 := hw _ m4_127
  have lk_40 := hw _ m4_130
  have lk_171 := hw _ m4_129
  have lk_37 := hw _ m4_128
  unfold gX8_statement at hg
  refine lv_aload_n hx hb dX8_statement_0 rfl (lv_at hl 0 rfl) ?_
  refine m_gr (C := RX8) (T := TX8) (n := 15) (ci := 6) hx hb hts in_RX8 hown hK hP (by decide) rfl rfl 10 (by decide) rfl lk_34 (fun _ h9 => h9) dX8_statement_1 ?_
  refine lv_aload_n hx hb dX8_statement_4 rfl (lv_at hl 0 rfl) ?_
  refine m_gi (C := RX8) (T := TX8) (n := 15) (ci := 6) hx hb hts in_RX8 hown hK hP (by decide) rfl rfl 11 (by decide) rfl lk_152 (fun _ h9 => h9) dX8_statement_5 ?_
  obtain ⟨b1, hg⟩ := ck_e hg hne
  refine m_ld hx hb hK hP (by decide) rfl b1 dX8_statement_8 ?_
  obtain ⟨x2, hx2, hg⟩ := lt_e hg
  refine top_i hx2 ?_
  refine lv_istore_n (lv' := [(2, .int x2), (0, .ref (ad 0)), (1, .int a1)]) hx hb dX8_statement_9 rfl hl (by decide) rfl (fun ls hl => ?_)
  refine lv_aload_n hx hb dX8_statement_10 rfl (lv_at hl 1 rfl) ?_
  refine lv_dup hx hb dX8_statement_11 rfl ?_
  refine m_gi (C := RX8) (T := TX8) (n := 15) (ci := 6) hx hb hts in_RX8 hown hK hP (by decide) rfl rfl 11 (by decide) rfl lk_152 (fun _ h9 => h9) dX8_statement_12 ?_
  refine lv_iconst (v := 1) hx hb dX8_statement_15 (by decide) ?_
  refine lv_iadd hx hb dX8_statement_16 ?_
  obtain ⟨M3, hM3, hg⟩ := lt_e hg
  refine m_pi (C := RX8) (T := TX8) (n := 15) (ci := 6) hx hb hts in_RX8 tyX8 tyX8_ok nmX8 hown hK hP hD hS (by decide) rfl rfl 11 (by decide) rfl lk_152 (fun _ h9 => h9) rfl rfl rfl dX8_statement_17 hM3 (fun H locs hP hD hS => ?_)
  refine lv_iload_n hx hb dX8_statement_20 rfl (lv_at hl 0 rfl) ?_
  refine lv_bipush (v := 123) hx hb dX8_statement_21 (by decide) ?_
  refine lv_icmp_ne (tgt := 61) hx hb dX8_statement_23 (by decide) (fun c4 => ?_) (fun c4 => ?_)
  · have hg := if_f hg c4
    refine lv_iload_n hx hb dX8_statement_61 rfl (lv_at hl 0 rfl) ?_
    refine lv_bipush (v := 63) hx hb dX8_statement_62 (by decide) ?_
    refine lv_icmp_ne (tgt := 126) hx hb dX8_statement_64 (by decide) (fun c5 => ?_) (fun c5 => ?_)
    · have hg := if_f hg c5
      refine lv_iload_n hx hb dX8_statement_126 rfl (lv_at hl 0 rfl) ?_
      refine r_calli (W.runS (As := [.int x2]) (rest := []) CX (ctX8_isName l x2) (va_cwS 1 hts (gwS m5_148 m5_149 m1_7 m5_150) rfl rfl rfl (by decide +kernel) ⟨Nat.le_trans (Nat.le_of_ble_eq_true rfl) hR.1, Nat.le_trans (Nat.le_of_ble_eq_true rfl) hR.2⟩) (pPreS _) rfl rfl hl.1 rfl (lv_room (Nat.le_of_ble_eq_true rfl)) dX8_statement_127 ⟨Nat.zero_le _, Nat.zero_le _⟩) ?_
      obtain ⟨J9, hJ9, hg⟩ := lf2 hg
      have kJ9 : ∀ (M7 : Mm) (x8 : Int32) (H : Heap) (locs : List Loc) (ls : Array Slot), va_P D vwCl (wl cs LM NM ad M7 ++ X) H → va_D A (wl cs LM NM ad M7 ++ X) → va_S A s.heap H locs → lv_has ls 4 [(0, .ref (ad 0)), (1, .int a1), (2, .int x8)] → J9 M7 x8 = res → W p l e R s m args below meth c H locs 0 0 Q (F0 m 143 ls []) := by
        intro M7 x8 H locs ls hP hD hS hl hg
        rw [hJ9] at hg
        refine lv_aload_n hx hb dX8_statement_143 rfl (lv_at hl 0 rfl) ?_
        obtain ⟨r12, M11, q10, hg⟩ := bd2_e hg hne
        refine w_calli (va_runV (As := []) (rest := []) CX ((ctME l D sw cs ad 400).1 X H.size M7 _ _ r12 M11 q10) (cwV 0 hts (gwV m5_203 m5_205 mp4_12 m1_7 m5_206) rfl rfl rfl (by decide +kernel) ⟨Nat.le_trans (Nat.le_of_ble_eq_true rfl) hR.1, Nat.le_trans (Nat.le_of_ble_eq_true rfl) hR.2⟩) (wPreV hSW hS hA hK hP hD (by decide) rfl rfl _) rfl rfl hl.1 rfl (lv_room (Nat.le_of_ble_eq_true rfl)) dX8_statement_144 ⟨Nat.zero_le _, Nat.zero_le _⟩) hD hS hA (fun H locs hP hD hS => ?_)
        refine lv_istore_n (lv' := [(3, .int r12), (0, .ref (ad 0)), (1, .int a1), (2, .int x8)]) hx hb dX8_statement_147 rfl hl (by decide) rfl (fun ls hl => ?_)
        refine lv_aload_n hx hb dX8_statement_148 rfl (lv_at hl 1 rfl) ?_
        refine lv_dup hx hb dX8_statement_149 rfl ?_
        refine m_gi (C := RX8) (T := TX8) (n := 15) (ci := 6) hx hb hts in_RX8 hown hK hP (by decide) rfl rfl 11 (by decide) rfl lk_152 (fun _ h9 => h9) dX8_statement_150 ?_
        refine lv_iconst (v := 1) hx hb dX8_statement_153 (by decide) ?_
        refine lv_iadd hx hb dX8_statement_154 ?_
        obtain ⟨M13, hM13, hg⟩ := lt_e hg
        refine m_pi (C := RX8) (T := TX8) (n := 15) (ci := 6) hx hb hts in_RX8 tyX8 tyX8_ok nmX8 hown hK hP hD hS (by decide) rfl rfl 11 (by decide) rfl lk_152 (fun _ h9 => h9) rfl rfl rfl dX8_statement_155 hM13 (fun H locs hP hD hS => ?_)
        refine lv_iload_n hx hb dX8_statement_158 rfl (lv_at hl 2 rfl) ?_
        obtain ⟨J18, hJ18, hg⟩ := lf3 hg
        have kJ18 : ∀ (M15 : Mm) (x16 : Int32) (x17 : Int32) (H : Heap) (locs : List Loc) (ls : Array Slot), va_P D vwCl (wl cs LM NM ad M15 ++ X) H → va_D A (wl cs LM NM ad M15 ++ X) → va_S A s.heap H locs → lv_has ls 4 [(0, .ref (ad 0)), (1, .int a1), (2, .int x16), (3, .int x17)] → J18 M15 x16 x17 = res → W p l e R s m args below meth c H locs 0 0 Q (F0 m 179 ls []) := by
          intro M15 x16 x17 H locs ls hP hD hS hl hg
          rw [hJ18] at hg
          refine lv_iload_n hx hb dX8_statement_179 rfl (lv_at hl 1 rfl) ?_
          refine lv_if_eq (tgt := 209) hx hb dX8_statement_180 (by decide) (fun c19 => ?_) (fun c19 => ?_)
          · have hg := if_t hg c19
            exact hret _ _ _ _ _ hg dX8_statement_209 hP hD hS
          · have hg := if_f hg c19
            refine lv_iload_n hx hb dX8_statement_183 rfl (lv_at hl 2 rfl) ?_
            refine lv_bipush (v := 33) hx hb dX8_statement_184 (by decide) ?_
            refine lv_icmp_ne (tgt := 209) hx hb dX8_statement_186 (by decide) (fun c20 => ?_) (fun c20 => ?_)
            · have hg := if_f hg c20
              exact hret _ _ _ _ _ hg dX8_statement_209 hP hD hS
            · have hg := if_t hg c20
              refine lv_aload_n hx hb dX8_statement_189 rfl (lv_at hl 0 rfl) ?_
              refine m_gr (C := RX8) (T := TX8) (n := 15) (ci := 6) hx hb hts in_RX8 hown hK hP (by decide) rfl rfl 14 (by decide) rfl lk_40 (fun _ h9 => h9) dX8_statement_190 ?_
              refine lv_aload_n hx hb dX8_statement_193 rfl (lv_at hl 0 rfl) ?_
              refine m_gi (C := RX8) (T := TX8) (n := 15) (ci := 6) hx hb hts in_RX8 hown hK hP (by decide) rfl rfl 13 (by decide) rfl lk_171 (fun _ h9 => h9) dX8_statement_194 ?_
              refine lv_iload_n hx hb dX8_statement_197 rfl (lv_at hl 3 rfl) ?_
              obtain ⟨b21, hg⟩ := ck_e hg hne
              obtain ⟨M22, hM22, hg⟩ := lt_e hg
              refine m_st hx hb hK hP hD hS (by decide) rfl b21 dX8_statement_198 hM22 (fun H locs hP hD hS => ?_)
              refine lv_aload_n hx hb dX8_statement_199 rfl (lv_at hl 0 rfl) ?_
              refine lv_dup hx hb dX8_statement_200 rfl ?_
              refine m_gi (C := RX8) (T := TX8) (n := 15) (ci := 6) hx hb hts in_RX8 hown hK hP (by decide) rfl rfl 13 (by decide) rfl lk_171 (fun _ h9 => h9) dX8_statement_201 ?_
              refine lv_iconst (v := 1) hx hb dX8_statement_204 (by decide) ?_
              refine lv_iadd hx hb dX8_statement_205 ?_
              obtain ⟨M23, hM23, hg⟩ := lt_e hg
              refine m_pi (C := RX8) (T := TX8) (n := 15) (ci := 6) hx hb hts in_RX8 tyX8 tyX8_ok nmX8 hown hK hP hD hS (by decide) rfl rfl 13 (by decide) rfl lk_171 (fun _ h9 => h9) rfl rfl rfl dX8_statement_206 hM23 (fun H locs hP hD hS => ?_)
              exact hret _ _ _ _ _ hg dX8_statement_209 hP hD hS
        refine lv_if_eq (tgt := 179) hx hb dX8_statement_159 (by decide) (fun c14 => ?_) (fun c14 => ?_)
        · have hg := if_t hg c14
          exact kJ18 _ _ _ _ _ _ hP hD hS (lv_sub hl [1, 2, 3, 0] rfl) hg
        · have hg := if_f hg c14
          refine lv_iload_n hx hb dX8_statement_162 rfl (lv_at hl 3 rfl) ?_
          refine r_calli (W.runS (As := [.int x8]) (rest := []) CX (ctX8_isName l x8) (va_cwS 1 hts (gwS m5_148 m5_149 m1_7 m5_150) rfl rfl rfl (by decide +kernel) ⟨Nat.le_trans (Nat.le_of_ble_eq_true rfl) hR.1, Nat.le_trans (Nat.le_of_ble_eq_true rfl) hR.2⟩) (pPreS _) rfl rfl hl.1 rfl (lv_room (Nat.le_of_ble_eq_true rfl)) dX8_statement_163 ⟨Nat.zero_le _, Nat.zero_le _⟩) ?_
          refine lv_if_eq (tgt := 179) hx hb dX8_statement_166 (by decide) (fun c24 => ?_) (fun c24 => ?_)
          · have hg := if_t hg c24
            exact kJ18 _ _ _ _ _ _ hP hD hS (lv_sub hl [1, 2, 3, 0] rfl) hg
          · have hg := if_f hg c24
            refine lv_aload_n hx hb dX8_statement_169 rfl (lv_at hl 1 rfl) ?_
            refine m_gr (C := RX8) (T := TX8) (n := 15) (ci := 6) hx hb hts in_RX8 hown hK hP (by decide) rfl rfl 12 (by decide) rfl lk_37 (fun _ h9 => h9) dX8_statement_170 ?_
            refine lv_iload_n hx hb dX8_statement_173 rfl (lv_at hl 3 rfl) ?_
            refine lv_bipush (v := 97) hx hb dX8_statement_174 (by decide) ?_
            refine lv_isub hx hb dX8_statement_176 ?_
            refine lv_iload_n hx hb dX8_statement_177 rfl (lv_at hl 0 rfl) ?_
            obtain ⟨b25, hg⟩ := ck_e hg hne
            obtain ⟨M26, hM26, hg⟩ := lt_e hg
            refine m_st hx hb hK hP hD hS (by decide) rfl b25 dX8_statement_178 hM26 (fun H locs hP hD hS => ?_)
            exact kJ18 _ _ _ _ _ _ hP hD hS (lv_sub hl [1, 2, 3, 0] rfl) hg
      refine lv_if_eq (tgt := 143) hx hb dX8_statement_130 (by decide) (fun c6 => ?_) (fun c6 => ?_)
      · have hg := if_t hg c6
        exact kJ9 _ _ _ _ _ hP hD hS (lv_sub hl [1, 2, 0] rfl) hg
      · have hg := if_f hg c6
        refine lv_aload_n hx hb dX8_statement_133 rfl (lv_at hl 1 rfl) ?_
        refine lv_dup hx hb dX8_statement_134 rfl ?_
        refine m_gi (C := RX8) (T := TX8) (n := 15) (ci := 6) hx hb hts in_RX8 hown hK hP (by decide) rfl rfl 11 (by decide) rfl lk_152 (fun _ h9 => h9) dX8_statement_135 ?_
        refine lv_iconst (v := 1) hx hb dX8_statement_138 (by decide) ?_
        refine lv_iadd hx hb dX8_statement_139 ?_
        obtain ⟨M27, hM27, hg⟩ := lt_e hg
        refine m_pi (C := RX8) (T := TX8) (n := 15) (ci := 6) hx hb hts in_RX8 tyX8 tyX8_ok nmX8 hown hK hP hD hS (by decide) rfl rfl 11 (by decide) rfl lk_152 (fun _ h9 => h9) rfl rfl rfl dX8_statement_140 hM27 (fun H locs hP hD hS => ?_)
        exact kJ9 _ _ _ _ _ hP hD hS (lv_sub hl [1, 2, 0] rfl) hg
    · have hg := if_t hg c5
      refine lv_aload_n hx hb dX8_statement_67 rfl (lv_at hl 1 rfl) ?_
      obtain ⟨r30, M29, q28, hg⟩ := bd2_e hg hne
      refine w_calli (va_runV (As := []) (rest := []) CX ((ctME l D sw cs ad 400).1 X H.size M3 _ _ r30 M29 q28) (cwV 0 hts (gwV m5_203 m5_205 mp4_12 m1_7 m5_206) rfl rfl rfl (by decide +kernel) ⟨Nat.le_trans (Nat.le_of_ble_eq_true rfl) hR.1, Nat.le_trans (Nat.le_of_ble_eq_true rfl) hR.2⟩) (wPreV hSW hS hA hK hP hD (by decide) rfl rfl _) rfl rfl hl.1 rfl (lv_room (Nat.le_of_ble_eq_true rfl)) dX8_statement_68 ⟨Nat.zero_le _, Nat.zero_le _⟩) hD hS hA (fun H locs hP hD hS => ?_)
      obtain ⟨J34, hJ34, hg⟩ := lf2 hg
      have kJ34 : ∀ (M32 : Mm) (s33 : Int32) (H : Heap) (locs : List Loc) (ls : Array Slot), va_P D vwCl (wl cs LM NM ad M32 ++ X) H → va_D A (wl cs LM NM ad M32 ++ X) → va_S A s.heap H locs → lv_has ls 4 [(0, .ref (ad 0)), (1, .int a1)] → J34 M32 s33 = res → W p l e R s m args below meth c H locs 0 0 Q (F0 m 79 ls [.int s33]) := by
        intro M32 s33 H locs ls hP hD hS hl hg
        rw [hJ34] at hg
        refine lv_istore_n (lv' := [(3, .int s33), (0, .ref (ad 0)), (1, .int a1)]) hx hb dX8_statement_79 rfl hl (by decide) rfl (fun ls hl => ?_)
        refine lv_aload_n hx hb dX8_statement_80 rfl (lv_at hl 1 rfl) ?_
        refine lv_iload_n hx hb dX8_statement_81 rfl (lv_at hl 2 rfl) ?_
        obtain ⟨J39, hJ39, hg⟩ := lf3 hg
        have kJ39 : ∀ (M36 : Mm) (x37 : Int32) (s38 : Int32) (H : Heap) (locs : List Loc) (ls : Array Slot), va_P D vwCl (wl cs LM NM ad M36 ++ X) H → va_D A (wl cs LM NM ad M36 ++ X) → va_S A s.heap H locs → lv_has ls 4 [(0, .ref (ad 0)), (1, .int a1), (3, .int x37)] → J39 M36 x37 s38 = res → W p l e R s m args below meth c H locs 0 0 Q (F0 m 94 ls [.int s38, .ref (ad 0)]) := by
          intro M36 x37 s38 H locs ls hP hD hS hl hg
          rw [hJ39] at hg
          obtain ⟨r42, M41, q40, hg⟩ := bd2_e hg hne
          refine w_callv (va_runV (As := [.int s38]) (rest := []) CX (h0 X H.size M36 _ _ r42 M41 q40) (cwV 1 hts (gwV m5_199 m5_201 mp4_11 m1_7 m5_202) rfl rfl rfl (by decide +kernel) ⟨hR2.1, Nat.le_trans (Nat.add_le_add_right (Nat.le_of_ble_eq_true rfl) _) hR2.2⟩) (wPreV hSW hS hA hK hP hD (by decide) rfl rfl _) rfl rfl hl.1 rfl (lv_room (Nat.le_of_ble_eq_true rfl)) dX8_statement_94 ⟨Nat.zero_le _, Nat.zero_le _⟩) hD hS hA (fun H locs hP hD hS => ?_)
          refine lv_aload_n hx hb dX8_statement_97 rfl (lv_at hl 0 rfl) ?_
          refine lv_bipush (v := 58) hx hb dX8_statement_98 (by decide) ?_
          obtain ⟨r45, M44, q43, hg⟩ := bd2_e hg hne
          refine w_calli (va_runV (As := [.int (58 : Int32)]) (rest := []) CX (ctX8_passes l D sw cs ad X H.size M41 (58 : Int32) q43) (cwV 1 hts (gwV m5_215 m5_217 mp4_15 m1_7 m5_218) rfl rfl rfl (by decide +kernel) ⟨Nat.le_trans (Nat.le_of_ble_eq_true rfl) hR.1, Nat.le_trans (Nat.le_of_ble_eq_true rfl) hR.2⟩) (wPreV hSW hS hA hK hP hD (by decide) rfl rfl _) rfl rfl hl.1 rfl (lv_room (Nat.le_of_ble_eq_true rfl)) dX8_statement_100 ⟨Nat.zero_le _, Nat.zero_le _⟩) hD hS hA (fun H locs hP hD hS => ?_)
          refine lv_if_eq (tgt := 123) hx hb dX8_statement_103 (by decide) (fun c46 => ?_) (fun c46 => ?_)
          · have hg := if_t hg c46
            refine lv_goto (tgt := 209) hx hb dX8_statement_123 (by decide) ?_
            exact hret _ _ _ _ _ hg dX8_statement_209 hP hD hS
          · have hg := if_f hg c46
            refine lv_aload_n hx hb dX8_statement_106 rfl (lv_at hl 0 rfl) ?_
            refine lv_iload_n hx hb dX8_statement_107 rfl (lv_at hl 1 rfl) ?_
            refine lv_if_eq (tgt := 119) hx hb dX8_statement_108 (by decide) (fun c47 => ?_) (fun c47 => ?_)
            · have hg := if_t hg c47
              refine lv_iconst (v := 0) hx hb dX8_statement_119 (by decide) ?_
              obtain ⟨r50, M49, q48, hg⟩ := bd2_e hg hne
              refine w_callv (va_runV (As := [.int (0 : Int32)]) (rest := []) CX (h0 X H.size M44 _ _ r50 M49 q48) (cwV 1 hts (gwV m5_199 m5_201 mp4_11 m1_7 m5_202) rfl rfl rfl (by decide +kernel) ⟨hR2.1, Nat.le_trans (Nat.add_le_add_right (Nat.le_of_ble_eq_true rfl) _) hR2.2⟩) (wPreV hSW hS hA hK hP hD (by decide) rfl rfl _) rfl rfl hl.1 rfl (lv_room (Nat.le_of_ble_eq_true rfl)) dX8_statement_120 ⟨Nat.zero_le _, Nat.zero_le _⟩) hD hS hA (fun H locs hP hD hS => ?_)
              refine lv_goto (tgt := 209) hx hb dX8_statement_123 (by decide) ?_
              exact hret _ _ _ _ _ hg dX8_statement_209 hP hD hS
            · have hg := if_f hg c47
              refine lv_iload_n hx hb dX8_statement_111 rfl (lv_at hl 2 rfl) ?_
              refine lv_if_ne (tgt := 119) hx hb dX8_statement_112 (by decide) (fun c51 => ?_) (fun c51 => ?_)
              · have hg := if_f hg c51
                refine lv_iconst (v := 0) hx hb dX8_statement_119 (by decide) ?_
                obtain ⟨r54, M53, q52, hg⟩ := bd2_e hg hne
                refine w_callv (va_runV (As := [.int (0 : Int32)]) (rest := []) CX (h0 X H.size M44 _ _ r54 M53 q52) (cwV 1 hts (gwV m5_199 m5_201 mp4_11 m1_7 m5_202) rfl rfl rfl (by decide +kernel) ⟨hR2.1, Nat.le_trans (Nat.add_le_add_right (Nat.le_of_ble_eq_true rfl) _) hR2.2⟩) (wPreV hSW hS hA hK hP hD (by decide) rfl rfl _) rfl rfl hl.1 rfl (lv_room (Nat.le_of_ble_eq_true rfl)) dX8_statement_120 ⟨Nat.zero_le _, Nat.zero_le _⟩) hD hS hA (fun H locs hP hD hS => ?_)
                refine lv_goto (tgt := 209) hx hb dX8_statement_123 (by decide) ?_
                exact hret _ _ _ _ _ hg dX8_statement_209 hP hD hS
              · have hg := if_t hg c51
                refine lv_iconst (v := 1) hx hb dX8_statement_115 (by decide) ?_
                refine lv_goto (tgt := 120) hx hb dX8_statement_116 (by decide) ?_
                obtain ⟨r57, M56, q55, hg⟩ := bd2_e hg hne
                refine w_callv (va_runV (As := [.int (1 : Int32)]) (rest := []) CX (h0 X H.size M44 _ _ r57 M56 q55) (cwV 1 hts (gwV m5_199 m5_201 mp4_11 m1_7 m5_202) rfl rfl rfl (by decide +kernel) ⟨hR2.1, Nat.le_trans (Nat.add_le_add_right (Nat.le_of_ble_eq_true rfl) _) hR2.2⟩) (wPreV hSW hS hA hK hP hD (by decide) rfl rfl _) rfl rfl hl.1 rfl (lv_room (Nat.le_of_ble_eq_true rfl)) dX8_statement_120 ⟨Nat.zero_le _, Nat.zero_le _⟩) hD hS hA (fun H locs hP hD hS => ?_)
                refine lv_goto (tgt := 209) hx hb dX8_statement_123 (by decide) ?_
                exact hret _ _ _ _ _ hg dX8_statement_209 hP hD hS
        refine lv_if_eq (tgt := 93) hx hb dX8_statement_82 (by decide) (fun c35 => ?_) (fun c35 => ?_)
        · have hg := if_t hg c35
          refine lv_iconst (v := 0) hx hb dX8_statement_93 (by decide) ?_
          exact kJ39 _ _ _ _ _ _ hP hD hS (lv_sub hl [1, 2, 0] rfl) hg
        · have hg := if_f hg c35
          refine lv_iload_n hx hb dX8_statement_85 rfl (lv_at hl 0 rfl) ?_
          refine lv_if_eq (tgt := 93) hx hb dX8_statement_86 (by decide) (fun c58 => ?_) (fun c58 => ?_)
          · have hg := if_t hg c58
            refine lv_iconst (v := 0) hx hb dX8_statement_93 (by decide) ?_
            exact kJ39 _ _ _ _ _ _ hP hD hS (lv_sub hl [1, 2, 0] rfl) hg
          · have hg := if_f hg c58
            refine lv_iconst (v := 1) hx hb dX8_statement_89 (by decide) ?_
            refine lv_goto (tgt := 94) hx hb dX8_statement_90 (by decide) ?_
            exact kJ39 _ _ _ _ _ _ hP hD hS (lv_sub hl [1, 2, 0] rfl) hg
      refine lv_if_eq (tgt := 78) hx hb dX8_statement_71 (by decide) (fun c31 => ?_) (fun c31 => ?_)
      · have hg := if_t hg c31
        refine lv_iconst (v := 0) hx hb dX8_statement_78 (by decide) ?_
        exact kJ34 _ _ _ _ _ hP hD hS (lv_sub hl [1, 2] rfl) hg
      · have hg := if_f hg c31
        refine lv_iconst (v := 1) hx hb dX8_statement_74 (by decide) ?_
        refine lv_goto (tgt := 79) hx hb dX8_statement_75 (by decide) ?_
        exact kJ34 _ _ _ _ _ hP hD hS (lv_sub hl [1, 2] rfl) hg
  · have hg := if_t hg c4
    obtain ⟨E60, hE60, hg⟩ := lf1 hg
    have kE60 : ∀ (M59 : Mm) (H : Heap) (locs : List Loc) (ls : Array Slot), va_P D vwCl (wl cs LM NM ad M59 ++ X) H → va_D A (wl cs LM NM ad M59 ++ X) → va_S A s.heap H locs → lv_has ls 4 [(0, .ref (ad 0))] → E60 M59 = res → W p l e R s m args below meth c H locs 0 0 Q (F0 m 48 ls []) := by
      intro M59 H locs ls hP hD hS hl hg
      rw [hE60] at hg
      refine lv_aload_n hx hb dX8_statement_48 rfl (lv_at hl 0 rfl) ?_
      refine lv_dup hx hb dX8_statement_49 rfl ?_
      refine m_gi (C := RX8) (T := TX8) (n := 15) (ci := 6) hx hb hts in_RX8 hown hK hP (by decide) rfl rfl 11 (by decide) rfl lk_152 (fun _ h9 => h9) dX8_statement_50 ?_
      refine lv_iconst (v := 1) hx hb dX8_statement_53 (by decide) ?_
      refine lv_iadd hx hb dX8_statement_54 ?_
      obtain ⟨M61, hM61, hg⟩ := lt_e hg
      refine m_pi (C := RX8) (T := TX8) (n := 15) (ci := 6) hx hb hts in_RX8 tyX8 tyX8_ok nmX8 hown hK hP hD hS (by decide) rfl rfl 11 (by decide) rfl lk_152 (fun _ h9 => h9) rfl rfl rfl dX8_statement_55 hM61 (fun H locs hP hD hS => ?_)
      refine lv_goto (tgt := 209) hx hb dX8_statement_58 (by decide) ?_
      exact hret _ _ _ _ _ hg dX8_statement_209 hP hD hS
    have kL26_69 : ∀ (n63 : Nat) (M62 : Mm) (H : Heap) (locs : List Loc) (ls : Array Slot), va_P D vwCl (wl cs LM NM ad M62 ++ X) H → va_D A (wl cs LM NM ad M62 ++ X) → va_S A s.heap H locs → lv_has ls 4 [(0, .ref (ad 0)), (1, .int a1)] → gX8_statement_L26 rec a1 E60 n63 M62 = res → W p l e R s m args below meth c H locs 0 0 Q (F0 m 26 ls []) := by
      intro n63
      induction n63 with
      | zero =>
        intro M62 H locs ls hP hD hS hl hg
        rw [gX8_statement_L26] at hg
        exact absurd hg.symm hne
      | succ n63 ih =>
        intro M62 H locs ls hP hD hS hl hg
        rw [gX8_statement_L26] at hg
        refine lv_aload_n hx hb dX8_statement_26 rfl (lv_at hl 0 rfl) ?_
        refine m_gr (C := RX8) (T := TX8) (n := 15) (ci := 6) hx hb hts in_RX8 hown hK hP (by decide) rfl rfl 10 (by decide) rfl lk_34 (fun _ h9 => h9) dX8_statement_27 ?_
        refine lv_aload_n hx hb dX8_statement_30 rfl (lv_at hl 0 rfl) ?_
        refine m_gi (C := RX8) (T := TX8) (n := 15) (ci := 6) hx hb hts in_RX8 hown hK hP (by decide) rfl rfl 11 (by decide) rfl lk_152 (fun _ h9 => h9) dX8_statement_31 ?_
        obtain ⟨b64, hg⟩ := ck_e hg hne
        refine m_ld hx hb hK hP (by decide) rfl b64 dX8_statement_34 ?_
        refine lv_bipush (v := 125) hx hb dX8_statement_35 (by decide) ?_
        refine lv_icmp_eq (tgt := 48) hx hb dX8_statement_37 (by decide) (fun c65 => ?_) (fun c65 => ?_)
        · have hg := if_t hg c65
          exact kE60 _ _ _ _ hP hD hS (lv_sub hl [0] rfl) hg
        · have hg := if_f hg c65
          refine lv_aload_n hx hb dX8_statement_40 rfl (lv_at hl 0 rfl) ?_
          refine lv_iload_n hx hb dX8_statement_41 rfl (lv_at hl 1 rfl) ?_
          obtain ⟨r68, M67, q66, hg⟩ := bd2_e hg hne
          refine w_callv (va_runV (As := [.int a1]) (rest := []) CX (h0 X H.size M62 _ _ r68 M67 q66) (cwV 1 hts (gwV m5_199 m5_201 mp4_11 m1_7 m5_202) rfl rfl rfl (by decide +kernel) ⟨hR2.1, Nat.le_trans (Nat.add_le_add_right (Nat.le_of_ble_eq_true rfl) _) hR2.2⟩) (wPreV hSW hS hA hK hP hD (by decide) rfl rfl _) rfl rfl hl.1 rfl (lv_room (Nat.le_of_ble_eq_true rfl)) dX8_statement_42 ⟨Nat.zero_le _, Nat.zero_le _⟩) hD hS hA (fun H locs hP hD hS => ?_)
          refine lv_goto (tgt := 26) hx hb dX8_statement_45 (by decide) ?_
          exact ih _ _ _ _ hP hD hS (lv_sub hl [0, 1] rfl) hg
    exact kL26_69 FU _ _ _ _ hP hD hS (lv_sub hl [1, 2] rfl) hg

def gMS : Nat → Nat → Mm → Int32 → Int32 → Option (Int32 × Mm)
  | 0, _, _, _, _ => none
  | d + 1, w, M, a, b => if w = 0 then (bd (gX8_statement (gMS d) M a) fun M1 => some (0, M1)) else none
set_option maxHeartbeats 4000000 in
set_option maxRecDepth 100000 in
theorem ctMS (l : Launch) (D : va_G) (sw : Sw) (cs : Cs) (ad : Nat → Nat) : ∀ d : Nat, (∀ (X : va_W) (sz : Nat) (M : Mm) (a1 a2 : Int32) (r : Int32) (M1 : Mm), gMS d 0 M a1 a2 = some (r, M1) → Met l yX8_statement wsX8_statement ({ frames := 402 + d, cells := 0, slots := 0, locals := 9644 + 24 * d }) (va_Pc [.ref (ad 0), .int a1] (wPre D sw cs LM NM ad M X sz)) (wQv D cs LM NM ad M1 X sz) 0 0 (wA NM ad X sz)) := by
  intro d
  induction d with
  | zero => exact fun _ _ _ _ _ _ _ h => (by rw [gMS] at h; cases h)
  | succ d ih =>
    have h0 := ih
    refine ?_
    · intro X sz M a1 a2 r M1 hq
      rw [gMS] at hq
      have hq := if_t hq rfl
      obtain ⟨M8, hq, he⟩ := bd_e hq (by simp)
      exact met_w rfl rfl (Nat.le_of_ble_eq_true rfl) (fun p e s m args below meth c ls CX hr hlk hK hSW hP hD hS hA hl => bX8_statement _ M a1 h0 hq (by simp) CX ⟨Nat.le_trans (Nat.le_of_ble_eq_true rfl) (Nat.le_add_right 402 _), Nat.le_trans (Nat.le_of_ble_eq_true rfl) (Nat.le_add_right 9644 _)⟩ ⟨Nat.le_refl _, by show 24 + (9644 + 24 * d) ≤ 9644 + 24 * (d + 1); omega⟩ hK hSW hP hD hS hA hl (fun pc ls H locs M9 hv dg hP hD hS => W.vret CX.1 CX.2.1 hr (fun t ht hW => ⟨⟨(), rfl, trivial, wpost hP ht ((Option.some.inj hv).trans (Prod.mk.inj (Option.some.inj he)).2)⟩, hS.F ht⟩) hS.2.2 dg))

abbrev wsX8_run : List Cond := Cond.code yX8_run cX8_run 4 none :: WG
def gX8_run_L94 (a1 : Int32) : Nat → Mm → Int32 → Option Mm
  | 0, _, _ => none
  | n13 + 1, M11, x12 => if x12 ≤ (M11 0 11) then (some M11) else bd2 (gMS 400 0 M11 (1 : Int32) 0) fun r17 M16 => gX8_run_L94 a1 n13 M16 x12
def gX8_run_L76 (a1 : Int32) (E10 : Mm → Int32 → Option Mm) : Nat → Mm → Int32 → Int32 → Option Mm
  | 0, _, _, _ => none
  | n22 + 1, M19, x20, x21 => if (4 : Int32) ≤ x21 then (E10 M19 x20) else if (x21 < 0 ∨ 4 ≤ (x21).toNatClampNeg) then none else lt (um M19 10 (x21).toNatClampNeg (0 : Int32)) fun M25 => lt (x21 + (1 : Int32)) fun x26 => gX8_run_L76 a1 E10 n22 M25 x20 x26
def gX8_run_L4 (a1 : Int32) (E3 : Mm → Int32 → Option Mm) : Nat → Mm → Int32 → Int32 → Option Mm
  | 0, _, _, _ => none
  | n31 + 1, M28, x29, x30 => if (M28 0 1) ≤ x30 then (E3 M28 x29) else bd (gX8_isToken M28 x30) fun r33 => if r33 = 0 then (lt (x30 + (1 : Int32)) fun x36 => gX8_run_L4 a1 E3 n31 M28 x29 x36) else if (x30 < 0 ∨ 80 ≤ (x30).toNatClampNeg) then none else if (gX8_has (M28 2 (x30).toNatClampNeg) a1) = 0 then (lt (x30 + (1 : Int32)) fun x44 => gX8_run_L4 a1 E3 n31 M28 x29 x44) else if (x30 < 0 ∨ 80 ≤ (x30).toNatClampNeg) then none else if (x29 < 0 ∨ 81 ≤ (x29).toNatClampNeg) then none else lt (um M28 9 (x29).toNatClampNeg (M28 1 (x30).toNatClampNeg)) fun M41 => lt (x29 + (1 : Int32)) fun x42 => lt (x30 + (1 : Int32)) fun x43 => gX8_run_L4 a1 E3 n31 M41 x42 x43
def gX8_run (M : Mm) (a1 : Int32) : Option Mm := lt (fun (M1 : Mm) (x2 : Int32) => if (x2 < 0 ∨ 81 ≤ (x2).toNatClampNeg) then none else lt (um M1 9 (x2).toNatClampNeg (0 : Int32)) fun M5 => lt (um M5 0 11 (0 : Int32)) fun M6 => lt (um M6 0 13 (0 : Int32)) fun M7 => lt (fun (M8 : Mm) (x9 : Int32) => gX8_run_L94 a1 FU M8 x9) fun E10 => gX8_run_L76 a1 E10 FU M7 x2 (0 : Int32)) fun E3 => gX8_run_L4 a1 E3 FU M (0 : Int32) (0 : Int32)
set_option maxHeartbeats 4000000 in
set_option maxRecDepth 100000 in
theorem bX8_run {p : Program} {l : Launch} {e : Env} {R : Room} {s : State} {m : MethodId} {args : Array Value} {below : List Frame} {meth : Method} {c : Code} {H : Heap} {locs : List Loc} {Q : State → Prop} {D : va_G} {sw : Sw} {cs : Cs} {ad : Nat → Nat} {X : va_W} {A : Nat → Prop} (M : Mm) (a1 : Int32) {res : Option Mm} (hg : gX8_run M a1 = res) (hne : res ≠ none) (CX : CallFix p m c cX8_run 4 s args wsX8_run RX8) (hR : 803 ≤ R.frames ∧ 19267 ≤ R.locals) (hK : va_K D vwCl (tysC cs) s) (hSW : SW sw A s s.heap) (hP : va_P D vwCl (wl cs LM NM ad M ++ X) H) (hD : va_D A (wl cs LM NM ad M ++ X)) (hS : va_S A s.heap H locs) (hA : ∀ q, s.heap.size ≤ q → A q) {ls : Array Slot} (hl : lv_has ls 4 [(0, .ref (ad 0)), (1, .int a1)]) (hret : ∀ (pc : Nat) (ls : Array Slot) (H : Heap) (locs : List Loc) (M9 : Mm), some M9 = res → decode cX8_run pc = .ok (.return_, 1) → va_P D vwCl (wl cs LM NM ad M9 ++ X) H → va_D A (wl cs LM NM ad M9 ++ X) → va_S A s.heap H locs → W p l e R s m args below meth c H locs 0 0 Q (F0 m pc ls [])) : W p l e R s m args below meth c H locs 0 0 Q (F0 m 0 ls []) := by
  obtain ⟨hx, hb, hml, hown, hts⟩ := id CX
  have hw : ∀ w ∈ WG, w.before args s = true := fun w h => hts w (List.mem_cons_of_mem _ h)
  have lk_34 := hw _ m4_126
  have lk_152 := hw _ m4_127
  have lk_171 := hw _ m4_129
  have lk_37 := hw _ m4_128
  have lk_47 := hw _ m4_117
  have lk_13 := hw _ m4_119
  have lk_9 := hw _ m4_118
  unfold gX8_run at hg
  refine lv_iconst (v := 0) hx hb dX8_run_0 (by decide) ?_
  refine lv_istore_n (lv' := [(2, .int (0 : Int32)), (0, .ref (ad 0)), (1, .int a1)]) hx hb dX8_run_1 rfl hl (by decide) rfl (fun ls hl => ?_)
  refine lv_iconst (v := 0) hx hb dX8_run_2 (by decide) ?_
  refine lv_istore_n (lv' := [(3, .int (0 : Int32)), (2, .int (0 : Int32)), (0, .ref (ad 0)), (1, .int a1)]) hx hb dX8_run_3 rfl hl (by decide) rfl (fun ls hl => ?_)
  obtain ⟨E3, hE3, hg⟩ := lf2 hg
  have kE3 : ∀ (M1 : Mm) (x2 : Int32) (H : Heap) (locs : List Loc) (ls : Array Slot), va_P D vwCl (wl cs LM NM ad M1 ++ X) H → va_D A (wl cs LM NM ad M1 ++ X) → va_S A s.heap H locs → lv_has ls 4 [(0, .ref (ad 0)), (2, .int x2)] → E3 M1 x2 = res → W p l e R s m args below meth c H locs 0 0 Q (F0 m 57 ls []) := by
    intro M1 x2 H locs ls hP hD hS hl hg
    rw [hE3] at hg
    refine lv_aload_n hx hb dX8_run_57 rfl (lv_at hl 0 rfl) ?_
    refine m_gr (C := RX8) (T := TX8) (n := 15) (ci := 6) hx hb hts in_RX8 hown hK hP (by decide) rfl rfl 10 (by decide) rfl lk_34 (fun _ h9 => h9) dX8_run_58 ?_
    refine lv_iload_n hx hb dX8_run_61 rfl (lv_at hl 1 rfl) ?_
    refine lv_iconst (v := 0) hx hb dX8_run_62 (by decide) ?_
    obtain ⟨b4, hg⟩ := ck_e hg hne
    obtain ⟨M5, hM5, hg⟩ := lt_e hg
    refine m_st hx hb hK hP hD hS (by decide) rfl b4 dX8_run_63 hM5 (fun H locs hP hD hS => ?_)
    refine lv_aload_n hx hb dX8_run_64 rfl (lv_at hl 0 rfl) ?_
    refine lv_iconst (v := 0) hx hb dX8_run_65 (by decide) ?_
    obtain ⟨M6, hM6, hg⟩ := lt_e hg
    refine m_pi (C := RX8) (T := TX8) (n := 15) (ci := 6) hx hb hts in_RX8 tyX8 tyX8_ok nmX8 hown hK hP hD hS (by decide) rfl rfl 11 (by decide) rfl lk_152 (fun _ h9 => h9) rfl rfl rfl dX8_run_66 hM6 (fun H locs hP hD hS => ?_)
    refine lv_aload_n hx hb dX8_run_69 rfl (lv_at hl 0 rfl) ?_
    refine lv_iconst (v := 0) hx hb dX8_run_70 (by decide) ?_
    obtain ⟨M7, hM7, hg⟩ := lt_e hg
    refine m_pi (C := RX8) (T := TX8) (n := 15) (ci := 6) hx hb hts in_RX8 tyX8 tyX8_ok nmX8 hown hK hP hD hS (by decide) rfl rfl 13 (by decide) rfl lk_171 (fun _ h9 => h9) rfl rfl rfl dX8_run_71 hM7 (fun H locs hP hD hS => ?_)
    refine lv_iconst (v := 0) hx hb dX8_run_74 (by decide) ?_
    refine lv_istore_n (lv' := [(3, .int (0 : Int32)), (0, .ref (ad 0)), (2, .int x2)]) hx hb dX8_run_75 rfl hl (by decide) rfl (fun ls hl => ?_)
    obtain ⟨E10, hE10, hg⟩ := lf2 hg
    have kE10 : ∀ (M8 : Mm) (x9 : Int32) (H : Heap) (locs : List Loc) (ls : Array Slot), va_P D vwCl (wl cs LM NM ad M8 ++ X) H → va_D A (wl cs LM NM ad M8 ++ X) → va_S A s.heap H locs → lv_has ls 4 [(0, .ref (ad 0)), (2, .int x9)] → E10 M8 x9 = res → W p l e R s m args below meth c H locs 0 0 Q (F0 m 94 ls []) := by
      intro M8 x9 H locs ls hP hD hS hl hg
      rw [hE10] at hg
      have kL94_18 : ∀ (n13 : Nat) (M11 : Mm) (x12 : Int32) (H : Heap) (locs : List Loc) (ls : Array Slot), va_P D vwCl (wl cs LM NM ad M11 ++ X) H → va_D A (wl cs LM NM ad M11 ++ X) → va_S A s.heap H locs → lv_has ls 4 [(0, .ref (ad 0)), (2, .int x12)] → gX8_run_L94 a1 n13 M11 x12 = res → W p l e R s m args below meth c H locs 0 0 Q (F0 m 94 ls []) := by
        intro n13
        induction n13 with
        | zero =>
          intro M11 x12 H locs ls hP hD hS hl hg
          rw [gX8_run_L94] at hg
          exact absurd hg.symm hne
        | succ n13 ih =>
          intro M11 x12 H locs ls hP hD hS hl hg
          rw [gX8_run_L94] at hg
          refine lv_aload_n hx hb dX8_run_94 rfl (lv_at hl 0 rfl) ?_
          refine m_gi (C := RX8) (T := TX8) (n := 15) (ci := 6) hx hb hts in_RX8 hown hK hP (by decide) rfl rfl 11 (by decide) rfl lk_152 (fun _ h9 => h9) dX8_run_95 ?_
          refine lv_iload_n hx hb dX8_run_98 rfl (lv_at hl 1 rfl) ?_
          refine lv_icmp_ge (tgt := 110) hx hb dX8_run_99 (by decide) (fun c14 => ?_) (fun c14 => ?_)
          · have hg := if_t hg c14
            exact hret _ _ _ _ _ hg dX8_run_110 hP hD hS
          · have hg := if_f hg c14
            refine lv_aload_n hx hb dX8_run_102 rfl (lv_at hl 0 rfl) ?_
            refine lv_iconst (v := 1) hx hb dX8_run_103 (by decide) ?_
            obtain ⟨r17, M16, q15, hg⟩ := bd2_e hg hne
            refine w_callv (va_runV (As := [.int (1 : Int32)]) (rest := []) CX ((ctMS l D sw cs ad 400) X H.size M11 _ _ r17 M16 q15) (cwV 1 hts (gwV m5_199 m5_201 mp4_11 m1_7 m5_202) rfl rfl rfl (by decide +kernel) ⟨Nat.le_trans (Nat.le_of_ble_eq_true rfl) hR.1, Nat.le_trans (Nat.le_of_ble_eq_true rfl) hR.2⟩) (wPreV hSW hS hA hK hP hD (by decide) rfl rfl _) rfl rfl hl.1 rfl (lv_room (Nat.le_of_ble_eq_true rfl)) dX8_run_104 ⟨Nat.zero_le _, Nat.zero_le _⟩) hD hS hA (fun H locs hP hD hS => ?_)
            refine lv_goto (tgt := 94) hx hb dX8_run_107 (by decide) ?_
            exact ih _ _ _ _ _ hP hD hS (lv_sub hl [0, 1] rfl) hg
      exact kL94_18 FU _ _ _ _ _ hP hD hS (lv_sub hl [0, 1] rfl) hg
    have kL76_27 : ∀ (n22 : Nat) (M19 : Mm) (x20 : Int32) (x21 : Int32) (H : Heap) (locs : List Loc) (ls : Array Slot), va_P D vwCl (wl cs LM NM ad M19 ++ X) H → va_D A (wl cs LM NM ad M19 ++ X) → va_S A s.heap H locs → lv_has ls 4 [(0, .ref (ad 0)), (2, .int x20), (3, .int x21)] → gX8_run_L76 a1 E10 n22 M19 x20 x21 = res → W p l e R s m args below meth c H locs 0 0 Q (F0 m 76 ls []) := by
      intro n22
      induction n22 with
      | zero =>
        intro M19 x20 x21 H locs ls hP hD hS hl hg
        rw [gX8_run_L76] at hg
        exact absurd hg.symm hne
      | succ n22 ih =>
        intro M19 x20 x21 H locs ls hP hD hS hl hg
        rw [gX8_run_L76] at hg
        refine lv_iload_n hx hb dX8_run_76 rfl (lv_at hl 2 rfl) ?_
        refine lv_iconst (v := 4) hx hb dX8_run_77 (by decide) ?_
        refine lv_icmp_ge (tgt := 94) hx hb dX8_run_78 (by decide) (fun c23 => ?_) (fun c23 => ?_)
        · have hg := if_t hg c23
          exact kE10 _ _ _ _ _ hP hD hS (lv_sub hl [0, 1] rfl) hg
        · have hg := if_f hg c23
          refine lv_aload_n hx hb dX8_run_81 rfl (lv_at hl 0 rfl) ?_
          refine m_gr (C := RX8) (T := TX8) (n := 15) (ci := 6) hx hb hts in_RX8 hown hK hP (by decide) rfl rfl 12 (by decide) rfl lk_37 (fun _ h9 => h9) dX8_run_82 ?_
          refine lv_iload_n hx hb dX8_run_85 rfl (lv_at hl 2 rfl) ?_
          refine lv_iconst (v := 0) hx hb dX8_run_86 (by decide) ?_
          obtain ⟨b24, hg⟩ := ck_e hg hne
          obtain ⟨M25, hM25, hg⟩ := lt_e hg
          refine m_st hx hb hK hP hD hS (by decide) rfl b24 dX8_run_87 hM25 (fun H locs hP hD hS => ?_)
          obtain ⟨x26, hx26, hg⟩ := lt_e hg
          refine lv_iinc (v := x26) (lv' := [(3, .int x26), (0, .ref (ad 0)), (2, .int x20)]) hx hb dX8_run_88 hl (k := 2) rfl (hx26.symm) (by decide) rfl (fun ls hl => ?_)
          refine lv_goto (tgt := 76) hx hb dX8_run_91 (by decide) ?_
          exact ih _ _ _ _ _ _ hP hD hS (lv_sub hl [1, 2, 0] rfl) hg
    exact kL76_27 FU _ _ _ _ _ _ hP hD hS (lv_sub hl [1, 2, 0] rfl) hg
  have kL4_45 : ∀ (n31 : Nat) (M28 : Mm) (x29 : Int32) (x30 : Int32) (H : Heap) (locs : List Loc) (ls : Array Slot), va_P D vwCl (wl cs LM NM ad M28 ++ X) H → va_D A (wl cs LM NM ad M28 ++ X) → va_S A s.heap H locs → lv_has ls 4 [(0, .ref (ad 0)), (1, .int a1), (2, .int x29), (3, .int x30)] → gX8_run_L4 a1 E3 n31 M28 x29 x30 = res → W p l e R s m args below meth c H locs 0 0 Q (F0 m 4 ls []) := by
    intro n31
    induction n31 with
    | zero =>
      intro M28 x29 x30 H locs ls hP hD hS hl hg
      rw [gX8_run_L4] at hg
      exact absurd hg.symm hne
    | succ n31 ih =>
      intro M28 x29 x30 H locs ls hP hD hS hl hg
      rw [gX8_run_L4] at hg
      refine lv_iload_n hx hb dX8_run_4 rfl (lv_at hl 3 rfl) ?_
      refine lv_aload_n hx hb dX8_run_5 rfl (lv_at hl 0 rfl) ?_
      refine m_gi (C := RX8) (T := TX8) (n := 15) (ci := 6) hx hb hts in_RX8 hown hK hP (by decide) rfl rfl 1 (by decide) rfl lk_47 (fun _ h9 => h9) dX8_run_6 ?_
      refine lv_icmp_ge (tgt := 57) hx hb dX8_run_9 (by decide) (fun c32 => ?_) (fun c32 => ?_)
      · have hg := if_t hg c32
        exact kE3 _ _ _ _ _ hP hD hS (lv_sub hl [0, 2] rfl) hg
      · have hg := if_f hg c32
        refine lv_aload_n hx hb dX8_run_12 rfl (lv_at hl 0 rfl) ?_
        refine lv_iload_n hx hb dX8_run_13 rfl (lv_at hl 3 rfl) ?_
        obtain ⟨r33, q34, hg⟩ := bd_e hg hne
        refine r_calli (W.runV (As := [.int x30]) (rest := []) CX (ctX8_isToken l D sw cs ad X M28 x30 q34) (cwV 1 hts (gwV m5_46 m5_48 mp3_10 m1_7 m5_49) rfl rfl rfl (by decide +kernel) ⟨Nat.le_trans (Nat.le_of_ble_eq_true rfl) hR.1, Nat.le_trans (Nat.le_of_ble_eq_true rfl) hR.2⟩) (rPreV (hSW.wr hS) hK hP (by decide) rfl rfl _) rfl rfl hl.1 rfl (lv_room (Nat.le_of_ble_eq_true rfl)) dX8_run_14 ⟨Nat.zero_le _, Nat.zero_le _⟩) ?_
        refine lv_if_eq (tgt := 51) hx hb dX8_run_17 (by decide) (fun c35 => ?_) (fun c35 => ?_)
        · have hg := if_t hg c35
          obtain ⟨x36, hx36, hg⟩ := lt_e hg
          refine lv_iinc (v := x36) (lv' := [(3, .int x36), (0, .ref (ad 0)), (1, .int a1), (2, .int x29)]) hx hb dX8_run_51 hl (k := 3) rfl (hx36.symm) (by decide) rfl (fun ls hl => ?_)
          refine lv_goto (tgt := 4) hx hb dX8_run_54 (by decide) ?_
          exact ih _ _ _ _ _ _ hP hD hS (lv_sub hl [1, 2, 3, 0] rfl) hg
        · have hg := if_f hg c35
          refine lv_aload_n hx hb dX8_run_20 rfl (lv_at hl 0 rfl) ?_
          refine m_gr (C := RX8) (T := TX8) (n := 15) (ci := 6) hx hb hts in_RX8 hown hK hP (by decide) rfl rfl 3 (by decide) rfl lk_13 (fun _ h9 => h9) dX8_run_21 ?_
          refine lv_iload_n hx hb dX8_run_24 rfl (lv_at hl 3 rfl) ?_
          obtain ⟨b37, hg⟩ := ck_e hg hne
          refine m_ld hx hb hK hP (by decide) rfl b37 dX8_run_25 ?_
          refine lv_iload_n hx hb dX8_run_26 rfl (lv_at hl 1 rfl) ?_
          refine r_calli (W.runS (As := [.int (M28 2 (x30).toNatClampNeg), .int a1]) (rest := []) CX (ctX8_has l (M28 2 (x30).toNatClampNeg) a1) (va_cwS 2 hts (gwS m5_70 m5_71 m1_7 m5_72) rfl rfl rfl (by decide +kernel) ⟨Nat.le_trans (Nat.le_of_ble_eq_true rfl) hR.1, Nat.le_trans (Nat.le_of_ble_eq_true rfl) hR.2⟩) (pPreS _) rfl rfl hl.1 rfl (lv_room (Nat.le_of_ble_eq_true rfl)) dX8_run_27 ⟨Nat.zero_le _, Nat.zero_le _⟩) ?_
          refine lv_if_ne (tgt := 36) hx hb dX8_run_30 (by decide) (fun c38 => ?_) (fun c38 => ?_)
          · have hg := if_f hg c38
            refine lv_aload_n hx hb dX8_run_36 rfl (lv_at hl 0 rfl) ?_
            refine m_gr (C := RX8) (T := TX8) (n := 15) (ci := 6) hx hb hts in_RX8 hown hK hP (by decide) rfl rfl 10 (by decide) rfl lk_34 (fun _ h9 => h9) dX8_run_37 ?_
            refine lv_iload_n hx hb dX8_run_40 rfl (lv_at hl 2 rfl) ?_
            refine lv_aload_n hx hb dX8_run_41 rfl (lv_at hl 0 rfl) ?_
            refine m_gr (C := RX8) (T := TX8) (n := 15) (ci := 6) hx hb hts in_RX8 hown hK hP (by decide) rfl rfl 2 (by decide) rfl lk_9 (fun _ h9 => h9) dX8_run_42 ?_
            refine lv_iload_n hx hb dX8_run_45 rfl (lv_at hl 3 rfl) ?_
            obtain ⟨b39, hg⟩ := ck_e hg hne
            refine m_ld hx hb hK hP (by decide) rfl b39 dX8_run_46 ?_
            obtain ⟨b40, hg⟩ := ck_e hg hne
            obtain ⟨M41, hM41, hg⟩ := lt_e hg
            refine m_st hx hb hK hP hD hS (by decide) rfl b40 dX8_run_47 hM41 (fun H locs hP hD hS => ?_)
            obtain ⟨x42, hx42, hg⟩ := lt_e hg
            refine lv_iinc (v := x42) (lv' := [(2, .int x42), (0, .ref (ad 0)), (1, .int a1), (3, .int x30)]) hx hb dX8_run_48 hl (k := 2) rfl (hx42.symm) (by decide) rfl (fun ls hl => ?_)
            obtain ⟨x43, hx43, hg⟩ := lt_e hg
            refine lv_iinc (v := x43) (lv' := [(3, .int x43), (2, .int x42), (0, .ref (ad 0)), (1, .int a1)]) hx hb dX8_run_51 hl (k := 3) rfl (hx43.symm) (by decide) rfl (fun ls hl => ?_)
            refine lv_goto (tgt := 4) hx hb dX8_run_54 (by decide) ?_
            exact ih _ _ _ _ _ _ hP hD hS (lv_sub hl [2, 3, 1, 0] rfl) hg
          · have hg := if_t hg c38
            refine lv_goto (tgt := 51) hx hb dX8_run_33 (by decide) ?_
            obtain ⟨x44, hx44, hg⟩ := lt_e hg
            refine lv_iinc (v := x44) (lv' := [(3, .int x44), (0, .ref (ad 0)), (1, .int a1), (2, .int x29)]) hx hb dX8_run_51 hl (k := 3) rfl (hx44.symm) (by decide) rfl (fun ls hl => ?_)
            refine lv_goto (tgt := 4) hx hb dX8_run_54 (by decide) ?_
            exact ih _ _ _ _ _ _ hP hD hS (lv_sub hl [1, 2, 3, 0] rfl) hg
  exact kL4_45 FU _ _ _ _ _ _ hP hD hS (lv_sub hl [2, 3, 1, 0] rfl) hg
theorem ctX8_run (l : Launch) (D : va_G) (sw : Sw) (cs : Cs) (ad : Nat → Nat) (X : va_W) (sz : Nat) (M : Mm) (a1 : Int32) {M1 : Mm} (hq : gX8_run M a1 = some M1) : Met l yX8_run wsX8_run ({ frames := 803, cells := 0, slots := 0, locals := 19267 }) (va_Pc [.ref (ad 0), .int a1] (wPre D sw cs LM NM ad M X sz)) (wQv D cs LM NM ad M1 X sz) 0 0 (wA NM ad X sz) :=
  met_w rfl rfl (Nat.le_of_ble_eq_true rfl) (fun p e s m args below meth c ls CX hr hlk hK hSW hP hD hS hA hl => bX8_run M a1 hq (by simp) CX ⟨Nat.le_refl _, Nat.le_refl _⟩ hK hSW hP hD hS hA hl (fun pc ls H locs M9 hv dg hP hD hS => W.vret CX.1 CX.2.1 hr (fun t ht hW => ⟨⟨(), rfl, trivial, wpost hP ht (Option.some.inj hv)⟩, hS.F ht⟩) hS.2.2 dg))

abbrev wsX8_read : List Cond := Cond.code yX8_read cX8_read 5 none :: WG
def gX8_read_L183 : Nat → Mm → Int32 → Int32 → Option Mm
  | 0, _, _, _ => none
  | n11 + 1, M8, x9, x10 => if (16 : Int32) ≤ x10 then (some M8) else if (gX8_has x9 x10) = 0 then (lt (x10 + (1 : Int32)) fun x14 => gX8_read_L183 n11 M8 x9 x14) else bd2 (gX8_readOne M8 x10 (0 : Int32)) fun r17 M16 => if r17 = 0 then (if (x10 < 0 ∨ 16 ≤ (x10).toNatClampNeg) then none else lt (um M16 6 (x10).toNatClampNeg (M16 0 1)) fun M21 => lt (x10 + (1 : Int32)) fun x22 => gX8_read_L183 n11 M21 x9 x22) else lt (x10 + (1 : Int32)) fun x19 => gX8_read_L183 n11 M16 x9 x19
def gX8_read_L86 (E44 : Mm → Int32 → Int32 → Option Mm) : Nat → Mm → Int32 → Int32 → Int32 → Int32 → Option Mm
  | 0, _, _, _, _, _ => none
  | n51 + 1, M46, x47, x48, x49, x50 => if (16 : Int32) ≤ x50 then (E44 M46 x47 x48) else lt (fun (M54 : Mm) (x55 : Int32) (x56 : Int32) (x57 : Int32) (x58 : Int32) (s59 : Int32) => if ((((80 : Int32) * x50) + x48) < 0 ∨ 1280 ≤ ((((80 : Int32) * x50) + x48)).toNatClampNeg) then none else lt (um M54 8 ((((80 : Int32) * x50) + x48)).toNatClampNeg s59) fun M62 => if (gX8_has x57 x58) = 0 then (lt (x58 + (1 : Int32)) fun x64 => gX8_read_L86 E44 n51 M62 x55 x56 x57 x64) else if (x56 < 0 ∨ 80 ≤ (x56).toNatClampNeg) then none else bd2 (gX8_readOne M62 x58 (M62 1 (x56).toNatClampNeg)) fun r68 M67 => if r68 = 0 then (if (x58 < 0 ∨ 16 ≤ (x58).toNatClampNeg) then none else lt (um M67 6 (x58).toNatClampNeg x56) fun M71 => lt (x55 &&& (((1 : Int32) <<< (x58 &&& 31)) ^^^ (-1 : Int32))) fun x72 => lt (x58 + (1 : Int32)) fun x73 => gX8_read_L86 E44 n51 M71 x72 x56 x57 x73) else lt (x58 + (1 : Int32)) fun x74 => gX8_read_L86 E44 n51 M67 x55 x56 x57 x74) fun J60 => if (gX8_has x47 x50) = 0 then (J60 M46 x47 x48 x49 x50 (-1 : Int32)) else if (x50 < 0 ∨ 16 ≤ (x50).toNatClampNeg) then none else J60 M46 x47 x48 x49 x50 (M46 5 (x50).toNatClampNeg)
def gX8_read_L43 (E7 : Mm → Int32 → Option Mm) : Nat → Mm → Int32 → Int32 → Option Mm
  | 0, _, _, _ => none
  | n27 + 1, M24, x25, x26 => if (M24 0 1) ≤ x26 then (E7 M24 x25) else bd (gX8_isToken M24 x26) fun r29 => lt (fun (M32 : Mm) (x33 : Int32) (x34 : Int32) (s35 : Int32) => bd (gX8_countGroups M32 s35) fun r37 => if (x34 < 0 ∨ 80 ≤ (x34).toNatClampNeg) then none else lt (um M32 7 (x34).toNatClampNeg r37) fun M40 => lt (fun (M41 : Mm) (x42 : Int32) (x43 : Int32) => lt (x43 + (1 : Int32)) fun x45 => gX8_read_L43 E7 n27 M41 x42 x45) fun E44 => gX8_read_L86 E44 FU M40 x33 x34 s35 (0 : Int32)) fun J36 => if r29 = 0 then (J36 M24 x25 x26 (0 : Int32)) else if (x26 < 0 ∨ 80 ≤ (x26).toNatClampNeg) then none else J36 M24 x25 x26 ((M24 2 (x26).toNatClampNeg) &&& x25)
def gX8_read_L6 (E4 : Mm → Option Mm) : Nat → Mm → Int32 → Option Mm
  | 0, _, _ => none
  | n81 + 1, M79, x80 => if (16 : Int32) ≤ x80 then (E4 M79) else if (x80 < 0 ∨ 16 ≤ (x80).toNatClampNeg) then none else lt (um M79 6 (x80).toNatClampNeg (-1 : Int32)) fun M84 => if (x80 < 0 ∨ 16 ≤ (x80).toNatClampNeg) then none else lt (um M84 5 (x80).toNatClampNeg (0 : Int32)) fun M86 => bd (gX8_push M86 x80 (1 : Int32)) fun M88 => lt (x80 + (1 : Int32)) fun x89 => gX8_read_L6 E4 n81 M88 x89
def gX8_read (M : Mm) : Option Mm := bd (gX8_look M ) fun M2 => lt (fun (M3 : Mm) => lt (fun (M5 : Mm) (x6 : Int32) => gX8_read_L183 FU M5 x6 (0 : Int32)) fun E7 => gX8_read_L43 E7 FU M3 (65535 : Int32) (0 : Int32)) fun E4 => gX8_read_L6 E4 FU M2 (0 : Int32)
set_option maxHeartbeats 4000000 in
set_option maxRecDepth 100000 in
theorem bX8_read {p : Program} {l : Launch} {e : Env} {R : Room} {s : State} {m : MethodId} {args : Array Value} {below : List Frame} {meth : Method} {c : Code} {H : Heap} {locs : List Loc} {Q : State → Prop} {D : va_G} {sw : Sw} {cs : Cs} {ad : Nat → Nat} {X : va_W} {A : Nat → Prop} (M : Mm) {res : Option Mm} (hg : gX8_read M = res) (hne : res ≠ none) (CX : CallFix p m c cX8_read 5 s args wsX8_read RX8) (hR : 5 ≤ R.frames ∧ 107 ≤ R.locals) (hK : va_K D vwCl (tysC cs) s) (hSW : SW sw A s s.heap) (hP : va_P D vwCl (wl cs LM NM ad M ++ X) H) (hD : va_D A (wl cs LM NM ad M ++ X)) (hS : va_S A s.heap H locs) (hA : ∀ q, s.heap.size ≤ q → A q) (hRc : 3 ≤ R.cells ∧ 14 ≤ R.slots) {ls : Array Slot} (hl : lv_has ls 5 [(0, .ref (ad 0))]) (hret : ∀ (pc : Nat) (ls : Array Slot) (H : Heap) (locs : List Loc) (M9 : Mm), some M9 = res → decode cX8_read pc = .ok (.return_, 1) → va_P D vwCl (wl cs LM NM ad M9 ++ X) H → va_D A (wl cs LM NM ad M9 ++ X) → va_S A s.heap H locs → W p l e R s m args below meth c H locs 3 14 Q (F0 m pc ls [])) : W p l e R s m args below meth c H locs 0 0 Q (F0 m 0 ls []) := by
  obtain ⟨hx, hb, hml, hown, hts⟩ := id CX
  have hw : ∀ w ∈ WG, w.before args s = true := fun w h => hts w (List.mem_cons_of_mem _ h)
  have lk_97 := hw _ m5_73
  have lk_25 := hw _ m4_123
  have lk_47 := hw _ m4_117
  have lk_28 := hw _ m4_124
  have lk_31 := hw _ m4_125
  have lk_9 := hw _ m4_118
  have lk_22 := hw _ m4_122
  have lk_13 := hw _ m4_119
  unfold gX8_read at hg
  refine lv_aload_n hx hb dX8_read_0 rfl (lv_at hl 0 rfl) ?_
  obtain ⟨M2, q1, hg⟩ := bd_e hg hne
  refine w_callv (va_runV (As := []) (rest := []) CX (ctX8_look l D sw cs ad X H.size M  q1) (cwV 0 hts (gwV m5_66 m5_68 mp3_11 m1_7 m5_69) rfl rfl rfl (by decide +kernel) ⟨Nat.le_trans (Nat.le_of_ble_eq_true rfl) hR.1, Nat.le_trans (Nat.le_of_ble_eq_true rfl) hR.2⟩) (wPreV hSW hS hA hK hP hD (by decide) rfl rfl _) rfl rfl hl.1 rfl (lv_room (Nat.le_of_ble_eq_true rfl)) dX8_read_1 ⟨Nat.le_trans (Nat.le_of_ble_eq_true rfl) hRc.1, Nat.le_trans (Nat.le_of_ble_eq_true rfl) hRc.2⟩) hD hS hA (fun H locs hP hD hS => ?_)
  refine lv_iconst (v := 0) hx hb dX8_read_4 (by decide) ?_
  refine lv_istore_n (lv' := [(1, .int (0 : Int32)), (0, .ref (ad 0))]) hx hb dX8_read_5 rfl hl (by decide) rfl (fun ls hl => ?_)
  obtain ⟨E4, hE4, hg⟩ := lf1 hg
  have kE4 : ∀ (M3 : Mm) (H : Heap) (locs : List Loc) (ls : Array Slot), va_P D vwCl (wl cs LM NM ad M3 ++ X) H → va_D A (wl cs LM NM ad M3 ++ X) → va_S A s.heap H locs → lv_has ls 5 [(0, .ref (ad 0))] → E4 M3 = res → W p l e R s m args below meth c H locs (0 + 3) (0 + 14) Q (F0 m 38 ls []) := by
    intro M3 H locs ls hP hD hS hl hg
    rw [hE4] at hg
    refine lv_ldc (v := 65535) hx hb hown lk_97 dX8_read_38 ?_
    refine lv_istore_n (lv' := [(1, .int (65535 : Int32)), (0, .ref (ad 0))]) hx hb dX8_read_40 rfl hl (by decide) rfl (fun ls hl => ?_)
    refine lv_iconst (v := 0) hx hb dX8_read_41 (by decide) ?_
    refine lv_istore_n (lv' := [(2, .int (0 : Int32)), (1, .int (65535 : Int32)), (0, .ref (ad 0))]) hx hb dX8_read_42 rfl hl (by decide) rfl (fun ls hl => ?_)
    obtain ⟨E7, hE7, hg⟩ := lf2 hg
    have kE7 : ∀ (M5 : Mm) (x6 : Int32) (H : Heap) (locs : List Loc) (ls : Array Slot), va_P D vwCl (wl cs LM NM ad M5 ++ X) H → va_D A (wl cs LM NM ad M5 ++ X) → va_S A s.heap H locs → lv_has ls 5 [(0, .ref (ad 0)), (1, .int x6)] → E7 M5 x6 = res → W p l e R s m args below meth c H locs (0 + 3) (0 + 14) Q (F0 m 181 ls []) := by
      intro M5 x6 H locs ls hP hD hS hl hg
      rw [hE7] at hg
      refine lv_iconst (v := 0) hx hb dX8_read_181 (by decide) ?_
      refine lv_istore_n (lv' := [(2, .int (0 : Int32)), (0, .ref (ad 0)), (1, .int x6)]) hx hb dX8_read_182 rfl hl (by decide) rfl (fun ls hl => ?_)
      have kL183_23 : ∀ (n11 : Nat) (M8 : Mm) (x9 : Int32) (x10 : Int32) (H : Heap) (locs : List Loc) (ls : Array Slot), va_P D vwCl (wl cs LM NM ad M8 ++ X) H → va_D A (wl cs LM NM ad M8 ++ X) → va_S A s.heap H locs → lv_has ls 5 [(0, .ref (ad 0)), (1, .int x9), (2, .int x10)] → gX8_read_L183 n11 M8 x9 x10 = res → W p l e R s m args below meth c H locs (0 + 3) (0 + 14) Q (F0 m 183 ls []) := by
        intro n11
        induction n11 with
        | zero =>
          intro M8 x9 x10 H locs ls hP hD hS hl hg
          rw [gX8_read_L183] at hg
          exact absurd hg.symm hne
        | succ n11 ih =>
          intro M8 x9 x10 H locs ls hP hD hS hl hg
          rw [gX8_read_L183] at hg
          refine lv_iload_n hx hb dX8_read_183 rfl (lv_at hl 2 rfl) ?_
          refine lv_bipush (v := 16) hx hb dX8_read_184 (by decide) ?_
          refine lv_icmp_ge (tgt := 222) hx hb dX8_read_186 (by decide) (fun c12 => ?_) (fun c12 => ?_)
          · have hg := if_t hg c12
            refine W.widen (k := 3) (n := 14) (by decide) (by decide) ?_
            exact hret _ _ _ _ _ hg dX8_read_222 hP hD hS
          · have hg := if_f hg c12
            refine lv_iload_n hx hb dX8_read_189 rfl (lv_at hl 1 rfl) ?_
            refine lv_iload_n hx hb dX8_read_190 rfl (lv_at hl 2 rfl) ?_
            refine r_calli (W.runS (As := [.int x9, .int x10]) (rest := []) CX (ctX8_has l x9 x10) (va_cwS 2 hts (gwS m5_70 m5_71 m1_7 m5_72) rfl rfl rfl (by decide +kernel) ⟨Nat.le_trans (Nat.le_of_ble_eq_true rfl) hR.1, Nat.le_trans (Nat.le_of_ble_eq_true rfl) hR.2⟩) (pPreS _) rfl rfl hl.1 rfl (lv_room (Nat.le_of_ble_eq_true rfl)) dX8_read_191 ⟨Nat.le_trans (Nat.le_of_ble_eq_true rfl) hRc.1, Nat.le_trans (Nat.le_of_ble_eq_true rfl) hRc.2⟩) ?_
            refine lv_if_eq (tgt := 216) hx hb dX8_read_194 (by decide) (fun c13 => ?_) (fun c13 => ?_)
            · have hg := if_t hg c13
              obtain ⟨x14, hx14, hg⟩ := lt_e hg
              refine lv_iinc (v := x14) (lv' := [(2, .int x14), (0, .ref (ad 0)), (1, .int x9)]) hx hb dX8_read_216 hl (k := 2) rfl (hx14.symm) (by decide) rfl (fun ls hl => ?_)
              refine lv_goto (tgt := 183) hx hb dX8_read_219 (by decide) ?_
              exact ih _ _ _ _ _ _ hP hD hS (lv_sub hl [1, 2, 0] rfl) hg
            · have hg := if_f hg c13
              refine lv_aload_n hx hb dX8_read_197 rfl (lv_at hl 0 rfl) ?_
              refine lv_iload_n hx hb dX8_read_198 rfl (lv_at hl 2 rfl) ?_
              refine lv_iconst (v := 0) hx hb dX8_read_199 (by decide) ?_
              obtain ⟨r17, M16, q15, hg⟩ := bd2_e hg hne
              refine w_calli (va_runV (As := [.int x10, .int (0 : Int32)]) (rest := []) CX (ctX8_readOne l D sw cs ad X H.size M8 x10 (0 : Int32) q15) (cwV 2 hts (gwV m5_137 m5_139 mp4_4 m1_7 m5_140) rfl rfl rfl (by decide +kernel) ⟨Nat.le_trans (Nat.le_of_ble_eq_true rfl) hR.1, Nat.le_trans (Nat.le_of_ble_eq_true rfl) hR.2⟩) (wPreV hSW hS hA hK hP hD (by decide) rfl rfl _) rfl rfl hl.1 rfl (lv_room (Nat.le_of_ble_eq_true rfl)) dX8_read_200 ⟨Nat.le_trans (Nat.le_of_ble_eq_true rfl) hRc.1, Nat.le_trans (Nat.le_of_ble_eq_true rfl) hRc.2⟩) hD hS hA (fun H locs hP hD hS => ?_)
              refine lv_if_ne (tgt := 216) hx hb dX8_read_203 (by decide) (fun c18 => ?_) (fun c18 => ?_)
              · have hg := if_f hg c18
                obtain ⟨x19, hx19, hg⟩ := lt_e hg
                refine lv_iinc (v := x19) (lv' := [(2, .int x19), (0, .ref (ad 0)), (1, .int x9)]) hx hb dX8_read_216 hl (k := 2) rfl (hx19.symm) (by decide) rfl (fun ls hl => ?_)
                refine lv_goto (tgt := 183) hx hb dX8_read_219 (by decide) ?_
                exact ih _ _ _ _ _ _ hP hD hS (lv_sub hl [1, 2, 0] rfl) hg
              · have hg := if_t hg c18
                refine lv_aload_n hx hb dX8_read_206 rfl (lv_at hl 0 rfl) ?_
                refine m_gr (C := RX8) (T := TX8) (n := 15) (ci := 6) hx hb hts in_RX8 hown hK hP (by decide) rfl rfl 7 (by decide) rfl lk_25 (fun _ h9 => h9) dX8_read_207 ?_
                refine lv_iload_n hx hb dX8_read_210 rfl (lv_at hl 2 rfl) ?_
                refine lv_aload_n hx hb dX8_read_211 rfl (lv_at hl 0 rfl) ?_
                refine m_gi (C := RX8) (T := TX8) (n := 15) (ci := 6) hx hb hts in_RX8 hown hK hP (by decide) rfl rfl 1 (by decide) rfl lk_47 (fun _ h9 => h9) dX8_read_212 ?_
                obtain ⟨b20, hg⟩ := ck_e hg hne
                obtain ⟨M21, hM21, hg⟩ := lt_e hg
                refine m_st hx hb hK hP hD hS (by decide) rfl b20 dX8_read_215 hM21 (fun H locs hP hD hS => ?_)
                obtain ⟨x22, hx22, hg⟩ := lt_e hg
                refine lv_iinc (v := x22) (lv' := [(2, .int x22), (0, .ref (ad 0)), (1, .int x9)]) hx hb dX8_read_216 hl (k := 2) rfl (hx22.symm) (by decide) rfl (fun ls hl => ?_)
                refine lv_goto (tgt := 183) hx hb dX8_read_219 (by decide) ?_
                exact ih _ _ _ _ _ _ hP hD hS (lv_sub hl [1, 2, 0] rfl) hg
      exact kL183_23 FU _ _ _ _ _ _ hP hD hS (lv_sub hl [1, 2, 0] rfl) hg
    have kL43_78 : ∀ (n27 : Nat) (M24 : Mm) (x25 : Int32) (x26 : Int32) (H : Heap) (locs : List Loc) (ls : Array Slot), va_P D vwCl (wl cs LM NM ad M24 ++ X) H → va_D A (wl cs LM NM ad M24 ++ X) → va_S A s.heap H locs → lv_has ls 5 [(0, .ref (ad 0)), (1, .int x25), (2, .int x26)] → gX8_read_L43 E7 n27 M24 x25 x26 = res → W p l e R s m args below meth c H locs (0 + 3) (0 + 14) Q (F0 m 43 ls []) := by
      intro n27
      induction n27 with
      | zero =>
        intro M24 x25 x26 H locs ls hP hD hS hl hg
        rw [gX8_read_L43] at hg
        exact absurd hg.symm hne
      | succ n27 ih =>
        intro M24 x25 x26 H locs ls hP hD hS hl hg
        rw [gX8_read_L43] at hg
        refine lv_iload_n hx hb dX8_read_43 rfl (lv_at hl 2 rfl) ?_
        refine lv_aload_n hx hb dX8_read_44 rfl (lv_at hl 0 rfl) ?_
        refine m_gi (C := RX8) (T := TX8) (n := 15) (ci := 6) hx hb hts in_RX8 hown hK hP (by decide) rfl rfl 1 (by decide) rfl lk_47 (fun _ h9 => h9) dX8_read_45 ?_
        refine lv_icmp_ge (tgt := 181) hx hb dX8_read_48 (by decide) (fun c28 => ?_) (fun c28 => ?_)
        · have hg := if_t hg c28
          exact kE7 _ _ _ _ _ hP hD hS (lv_sub hl [0, 1] rfl) hg
        · have hg := if_f hg c28
          refine lv_aload_n hx hb dX8_read_51 rfl (lv_at hl 0 rfl) ?_
          refine lv_iload_n hx hb dX8_read_52 rfl (lv_at hl 2 rfl) ?_
          obtain ⟨r29, q30, hg⟩ := bd_e hg hne
          refine r_calli (W.runV (As := [.int x26]) (rest := []) CX (ctX8_isToken l D sw cs ad X M24 x26 q30) (cwV 1 hts (gwV m5_46 m5_48 mp3_10 m1_7 m5_49) rfl rfl rfl (by decide +kernel) ⟨Nat.le_trans (Nat.le_of_ble_eq_true rfl) hR.1, Nat.le_trans (Nat.le_of_ble_eq_true rfl) hR.2⟩) (rPreV (hSW.wr hS) hK hP (by decide) rfl rfl _) rfl rfl hl.1 rfl (lv_room (Nat.le_of_ble_eq_true rfl)) dX8_read_53 ⟨Nat.le_trans (Nat.le_of_ble_eq_true rfl) hRc.1, Nat.le_trans (Nat.le_of_ble_eq_true rfl) hRc.2⟩) ?_
          obtain ⟨J36, hJ36, hg⟩ := lf4 hg
          have kJ36 : ∀ (M32 : Mm) (x33 : Int32) (x34 : Int32) (s35 : Int32) (H : Heap) (locs : List Loc) (ls : Array Slot), va_P D vwCl (wl cs LM NM ad M32 ++ X) H → va_D A (wl cs LM NM ad M32 ++ X) → va_S A s.heap H locs → lv_has ls 5 [(0, .ref (ad 0)), (1, .int x33), (2, .int x34)] → J36 M32 x33 x34 s35 = res → W p l e R s m args below meth c H locs (0 + 3) (0 + 14) Q (F0 m 71 ls [.int s35]) := by
            intro M32 x33 x34 s35 H locs ls hP hD hS hl hg
            rw [hJ36] at hg
            refine lv_istore_n (lv' := [(3, .int s35), (0, .ref (ad 0)), (1, .int x33), (2, .int x34)]) hx hb dX8_read_71 rfl hl (by decide) rfl (fun ls hl => ?_)
            refine lv_aload_n hx hb dX8_read_72 rfl (lv_at hl 1 rfl) ?_
            refine m_gr (C := RX8) (T := TX8) (n := 15) (ci := 6) hx hb hts in_RX8 hown hK hP (by decide) rfl rfl 8 (by decide) rfl lk_28 (fun _ h9 => h9) dX8_read_73 ?_
            refine lv_iload_n hx hb dX8_read_76 rfl (lv_at hl 3 rfl) ?_
            refine lv_aload_n hx hb dX8_read_77 rfl (lv_at hl 1 rfl) ?_
            refine lv_iload_n hx hb dX8_read_78 rfl (lv_at hl 0 rfl) ?_
            obtain ⟨r37, q38, hg⟩ := bd_e hg hne
            refine r_calli (W.runV (As := [.int s35]) (rest := [.int x34, .ref (ad 7)]) CX (ctX8_countGroups l D sw cs ad X M32 s35 q38) (cwV 1 hts (gwV m5_129 m5_131 mp4_2 m1_7 m5_132) rfl rfl rfl (by decide +kernel) ⟨Nat.le_trans (Nat.le_of_ble_eq_true rfl) hR.1, Nat.le_trans (Nat.le_of_ble_eq_true rfl) hR.2⟩) (rPreV (hSW.wr hS) hK hP (by decide) rfl rfl _) rfl rfl hl.1 rfl (lv_room (Nat.le_of_ble_eq_true rfl)) dX8_read_79 ⟨Nat.le_trans (Nat.le_of_ble_eq_true rfl) hRc.1, Nat.le_trans (Nat.le_of_ble_eq_true rfl) hRc.2⟩) ?_
            obtain ⟨b39, hg⟩ := ck_e hg hne
            obtain ⟨M40, hM40, hg⟩ := lt_e hg
            refine m_st hx hb hK hP hD hS (by decide) rfl b39 dX8_read_82 hM40 (fun H locs hP hD hS => ?_)
            refine lv_iconst (v := 0) hx hb dX8_read_83 (by decide) ?_
            refine lv_istore (lv' := [(4, .int (0 : Int32)), (3, .int s35), (0, .ref (ad 0)), (1, .int x33), (2, .int x34)]) hx hb dX8_read_84 hl (by decide) rfl (fun ls hl => ?_)
            obtain ⟨E44, hE44, hg⟩ := lf3 hg
            have kE44 : ∀ (M41 : Mm) (x42 : Int32) (x43 : Int32) (H : Heap) (locs : List Loc) (ls : Array Slot), va_P D vwCl (wl cs LM NM ad M41 ++ X) H → va_D A (wl cs LM NM ad M41 ++ X) → va_S A s.heap H locs → lv_has ls 5 [(0, .ref (ad 0)), (1, .int x42), (2, .int x43)] → E44 M41 x42 x43 = res → W p l e R s m args below meth c H locs (0 + 3) (0 + 14) Q (F0 m 175 ls []) := by
              intro M41 x42 x43 H locs ls hP hD hS hl hg
              rw [hE44] at hg
              obtain ⟨x45, hx45, hg⟩ := lt_e hg
              refine lv_iinc (v := x45) (lv' := [(2, .int x45), (0, .ref (ad 0)), (1, .int x42)]) hx hb dX8_read_175 hl (k := 2) rfl (hx45.symm) (by decide) rfl (fun ls hl => ?_)
              refine lv_goto (tgt := 43) hx hb dX8_read_178 (by decide) ?_
              exact ih _ _ _ _ _ _ hP hD hS (lv_sub hl [1, 2, 0] rfl) hg
            have kL86_76 : ∀ (n51 : Nat) (M46 : Mm) (x47 : Int32) (x48 : Int32) (x49 : Int32) (x50 : Int32) (H : Heap) (locs : List Loc) (ls : Array Slot), va_P D vwCl (wl cs LM NM ad M46 ++ X) H → va_D A (wl cs LM NM ad M46 ++ X) → va_S A s.heap H locs → lv_has ls 5 [(0, .ref (ad 0)), (1, .int x47), (2, .int x48), (3, .int x49), (4, .int x50)] → gX8_read_L86 E44 n51 M46 x47 x48 x49 x50 = res → W p l e R s m args below meth c H locs (0 + 3) (0 + 14) Q (F0 m 86 ls []) := by
              intro n51
              induction n51 with
              | zero =>
                intro M46 x47 x48 x49 x50 H locs ls hP hD hS hl hg
                rw [gX8_read_L86] at hg
                exact absurd hg.symm hne
              | succ n51 ih =>
                intro M46 x47 x48 x49 x50 H locs ls hP hD hS hl hg
                rw [gX8_read_L86] at hg
                refine lv_iload hx hb dX8_read_86 (lv_at hl 4 rfl) ?_
                refine lv_bipush (v := 16) hx hb dX8_read_88 (by decide) ?_
                refine lv_icmp_ge (tgt := 175) hx hb dX8_read_90 (by decide) (fun c52 => ?_) (fun c52 => ?_)
                · have hg := if_t hg c52
                  exact kE44 _ _ _ _ _ _ hP hD hS (lv_sub hl [0, 1, 2] rfl) hg
                · have hg := if_f hg c52
                  refine lv_aload_n hx hb dX8_read_93 rfl (lv_at hl 0 rfl) ?_
                  refine m_gr (C := RX8) (T := TX8) (n := 15) (ci := 6) hx hb hts in_RX8 hown hK hP (by decide) rfl rfl 9 (by decide) rfl lk_31 (fun _ h9 => h9) dX8_read_94 ?_
                  refine lv_bipush (v := 80) hx hb dX8_read_97 (by decide) ?_
                  refine lv_iload hx hb dX8_read_99 (lv_at hl 4 rfl) ?_
                  refine lv_imul hx hb dX8_read_101 ?_
                  refine lv_iload_n hx hb dX8_read_102 rfl (lv_at hl 2 rfl) ?_
                  refine lv_iadd hx hb dX8_read_103 ?_
                  refine lv_iload_n hx hb dX8_read_104 rfl (lv_at hl 1 rfl) ?_
                  refine lv_iload hx hb dX8_read_105 (lv_at hl 4 rfl) ?_
                  refine r_calli (W.runS (As := [.int x47, .int x50]) (rest := [.int (((80 : Int32) * x50) + x48), .ref (ad 8)]) CX (ctX8_has l x47 x50) (va_cwS 2 hts (gwS m5_70 m5_71 m1_7 m5_72) rfl rfl rfl (by decide +kernel) ⟨Nat.le_trans (Nat.le_of_ble_eq_true rfl) hR.1, Nat.le_trans (Nat.le_of_ble_eq_true rfl) hR.2⟩) (pPreS _) rfl rfl hl.1 rfl (lv_room (Nat.le_of_ble_eq_true rfl)) dX8_read_107 ⟨Nat.le_trans (Nat.le_of_ble_eq_true rfl) hRc.1, Nat.le_trans (Nat.le_of_ble_eq_true rfl) hRc.2⟩) ?_
                  obtain ⟨J60, hJ60, hg⟩ := lf6 hg
                  have kJ60 : ∀ (M54 : Mm) (x55 : Int32) (x56 : Int32) (x57 : Int32) (x58 : Int32) (s59 : Int32) (H : Heap) (locs : List Loc) (ls : Array Slot), va_P D vwCl (wl cs LM NM ad M54 ++ X) H → va_D A (wl cs LM NM ad M54 ++ X) → va_S A s.heap H locs → lv_has ls 5 [(0, .ref (ad 0)), (1, .int x55), (2, .int x56), (3, .int x57), (4, .int x58)] → J60 M54 x55 x56 x57 x58 s59 = res → W p l e R s m args below meth c H locs (0 + 3) (0 + 14) Q (F0 m 124 ls [.int s59, .int (((80 : Int32) * x50) + x48), .ref (ad 8)]) := by
                    intro M54 x55 x56 x57 x58 s59 H locs ls hP hD hS hl hg
                    rw [hJ60] at hg
                    obtain ⟨b61, hg⟩ := ck_e hg hne
                    obtain ⟨M62, hM62, hg⟩ := lt_e hg
                    refine m_st hx hb hK hP hD hS (by decide) rfl b61 dX8_read_124 hM62 (fun H locs hP hD hS => ?_)
                    refine lv_iload_n hx hb dX8_read_125 rfl (lv_at hl 3 rfl) ?_
                    refine lv_iload hx hb dX8_read_126 (lv_at hl 4 rfl) ?_
                    refine r_calli (W.runS (As := [.int x57, .int x58]) (rest := []) CX (ctX8_has l x57 x58) (va_cwS 2 hts (gwS m5_70 m5_71 m1_7 m5_72) rfl rfl rfl (by decide +kernel) ⟨Nat.le_trans (Nat.le_of_ble_eq_true rfl) hR.1, Nat.le_trans (Nat.le_of_ble_eq_true rfl) hR.2⟩) (pPreS _) rfl rfl hl.1 rfl (lv_room (Nat.le_of_ble_eq_true rfl)) dX8_read_128 ⟨Nat.le_trans (Nat.le_of_ble_eq_true rfl) hRc.1, Nat.le_trans (Nat.le_of_ble_eq_true rfl) hRc.2⟩) ?_
                    refine lv_if_eq (tgt := 169) hx hb dX8_read_131 (by decide) (fun c63 => ?_) (fun c63 => ?_)
                    · have hg := if_t hg c63
                      obtain ⟨x64, hx64, hg⟩ := lt_e hg
                      refine lv_iinc (v := x64) (lv' := [(4, .int x64), (0, .ref (ad 0)), (1, .int x55), (2, .int x56), (3, .int x57)]) hx hb dX8_read_169 hl (k := 4) rfl (hx64.symm) (by decide) rfl (fun ls hl => ?_)
                      refine lv_goto (tgt := 86) hx hb dX8_read_172 (by decide) ?_
                      exact ih _ _ _ _ _ _ _ _ hP hD hS (lv_sub hl [1, 2, 3, 4, 0] rfl) hg
                    · have hg := if_f hg c63
                      refine lv_aload_n hx hb dX8_read_134 rfl (lv_at hl 0 rfl) ?_
                      refine lv_iload hx hb dX8_read_135 (lv_at hl 4 rfl) ?_
                      refine lv_aload_n hx hb dX8_read_137 rfl (lv_at hl 0 rfl) ?_
                      refine m_gr (C := RX8) (T := TX8) (n := 15) (ci := 6) hx hb hts in_RX8 hown hK hP (by decide) rfl rfl 2 (by decide) rfl lk_9 (fun _ h9 => h9) dX8_read_138 ?_
                      refine lv_iload_n hx hb dX8_read_141 rfl (lv_at hl 2 rfl) ?_
                      obtain ⟨b65, hg⟩ := ck_e hg hne
                      refine m_ld hx hb hK hP (by decide) rfl b65 dX8_read_142 ?_
                      obtain ⟨r68, M67, q66, hg⟩ := bd2_e hg hne
                      refine w_calli (va_runV (As := [.int x58, .int (M62 1 (x56).toNatClampNeg)]) (rest := []) CX (ctX8_readOne l D sw cs ad X H.size M62 x58 (M62 1 (x56).toNatClampNeg) q66) (cwV 2 hts (gwV m5_137 m5_139 mp4_4 m1_7 m5_140) rfl rfl rfl (by decide +kernel) ⟨Nat.le_trans (Nat.le_of_ble_eq_true rfl) hR.1, Nat.le_trans (Nat.le_of_ble_eq_true rfl) hR.2⟩) (wPreV hSW hS hA hK hP hD (by decide) rfl rfl _) rfl rfl hl.1 rfl (lv_room (Nat.le_of_ble_eq_true rfl)) dX8_read_143 ⟨Nat.le_trans (Nat.le_of_ble_eq_true rfl) hRc.1, Nat.le_trans (Nat.le_of_ble_eq_true rfl) hRc.2⟩) hD hS hA (fun H locs hP hD hS => ?_)
                      refine lv_if_eq (tgt := 152) hx hb dX8_read_146 (by decide) (fun c69 => ?_) (fun c69 => ?_)
                      · have hg := if_t hg c69
                        refine lv_aload_n hx hb dX8_read_152 rfl (lv_at hl 0 rfl) ?_
                        refine m_gr (C := RX8) (T := TX8) (n := 15) (ci := 6) hx hb hts in_RX8 hown hK hP (by decide) rfl rfl 7 (by decide) rfl lk_25 (fun _ h9 => h9) dX8_read_153 ?_
                        refine lv_iload hx hb dX8_read_156 (lv_at hl 4 rfl) ?_
                        refine lv_iload_n hx hb dX8_read_158 rfl (lv_at hl 2 rfl) ?_
                        obtain ⟨b70, hg⟩ := ck_e hg hne
                        obtain ⟨M71, hM71, hg⟩ := lt_e hg
                        refine m_st hx hb hK hP hD hS (by decide) rfl b70 dX8_read_159 hM71 (fun H locs hP hD hS => ?_)
                        refine lv_iload_n hx hb dX8_read_160 rfl (lv_at hl 1 rfl) ?_
                        refine lv_iconst (v := 1) hx hb dX8_read_161 (by decide) ?_
                        refine lv_iload hx hb dX8_read_162 (lv_at hl 4 rfl) ?_
                        refine lv_ishl hx hb dX8_read_164 ?_
                        refine lv_iconst (v := -1) hx hb dX8_read_165 (by decide) ?_
                        refine lv_ixor hx hb dX8_read_166 ?_
                        refine lv_iand hx hb dX8_read_167 ?_
                        obtain ⟨x72, hx72, hg⟩ := lt_e hg
                        refine top_i hx72 ?_
                        refine lv_istore_n (lv' := [(1, .int x72), (0, .ref (ad 0)), (2, .int x56), (3, .int x57), (4, .int x58)]) hx hb dX8_read_168 rfl hl (by decide) rfl (fun ls hl => ?_)
                        obtain ⟨x73, hx73, hg⟩ := lt_e hg
                        refine lv_iinc (v := x73) (lv' := [(4, .int x73), (1, .int x72), (0, .ref (ad 0)), (2, .int x56), (3, .int x57)]) hx hb dX8_read_169 hl (k := 4) rfl (hx73.symm) (by decide) rfl (fun ls hl => ?_)
                        refine lv_goto (tgt := 86) hx hb dX8_read_172 (by decide) ?_
                        exact ih _ _ _ _ _ _ _ _ hP hD hS (lv_sub hl [2, 1, 3, 4, 0] rfl) hg
                      · have hg := if_f hg c69
                        refine lv_goto (tgt := 169) hx hb dX8_read_149 (by decide) ?_
                        obtain ⟨x74, hx74, hg⟩ := lt_e hg
                        refine lv_iinc (v := x74) (lv' := [(4, .int x74), (0, .ref (ad 0)), (1, .int x55), (2, .int x56), (3, .int x57)]) hx hb dX8_read_169 hl (k := 4) rfl (hx74.symm) (by decide) rfl (fun ls hl => ?_)
                        refine lv_goto (tgt := 86) hx hb dX8_read_172 (by decide) ?_
                        exact ih _ _ _ _ _ _ _ _ hP hD hS (lv_sub hl [1, 2, 3, 4, 0] rfl) hg
                  refine lv_if_eq (tgt := 123) hx hb dX8_read_110 (by decide) (fun c53 => ?_) (fun c53 => ?_)
                  · have hg := if_t hg c53
                    refine lv_iconst (v := -1) hx hb dX8_read_123 (by decide) ?_
                    exact kJ60 _ _ _ _ _ _ _ _ _ hP hD hS (lv_sub hl [0, 1, 2, 3, 4] rfl) hg
                  · have hg := if_f hg c53
                    refine lv_aload_n hx hb dX8_read_113 rfl (lv_at hl 0 rfl) ?_
                    refine m_gr (C := RX8) (T := TX8) (n := 15) (ci := 6) hx hb hts in_RX8 hown hK hP (by decide) rfl rfl 6 (by decide) rfl lk_22 (fun _ h9 => h9) dX8_read_114 ?_
                    refine lv_iload hx hb dX8_read_117 (lv_at hl 4 rfl) ?_
                    obtain ⟨b75, hg⟩ := ck_e hg hne
                    refine m_ld hx hb hK hP (by decide) rfl b75 dX8_read_119 ?_
                    refine lv_goto (tgt := 124) hx hb dX8_read_120 (by decide) ?_
                    exact kJ60 _ _ _ _ _ _ _ _ _ hP hD hS (lv_sub hl [0, 1, 2, 3, 4] rfl) hg
            exact kL86_76 FU _ _ _ _ _ _ _ _ hP hD hS (lv_sub hl [2, 3, 4, 1, 0] rfl) hg
          refine lv_if_eq (tgt := 70) hx hb dX8_read_56 (by decide) (fun c31 => ?_) (fun c31 => ?_)
          · have hg := if_t hg c31
            refine lv_iconst (v := 0) hx hb dX8_read_70 (by decide) ?_
            exact kJ36 _ _ _ _ _ _ _ hP hD hS (lv_sub hl [0, 1, 2] rfl) hg
          · have hg := if_f hg c31
            refine lv_aload_n hx hb dX8_read_59 rfl (lv_at hl 0 rfl) ?_
            refine m_gr (C := RX8) (T := TX8) (n := 15) (ci := 6) hx hb hts in_RX8 hown hK hP (by decide) rfl rfl 3 (by decide) rfl lk_13 (fun _ h9 => h9) dX8_read_60 ?_
            refine lv_iload_n hx hb dX8_read_63 rfl (lv_at hl 2 rfl) ?_
            obtain ⟨b77, hg⟩ := ck_e hg hne
            refine m_ld hx hb hK hP (by decide) rfl b77 dX8_read_64 ?_
            refine lv_iload_n hx hb dX8_read_65 rfl (lv_at hl 1 rfl) ?_
            refine lv_iand hx hb dX8_read_66 ?_
            refine lv_goto (tgt := 71) hx hb dX8_read_67 (by decide) ?_
            exact kJ36 _ _ _ _ _ _ _ hP hD hS (lv_sub hl [0, 1, 2] rfl) hg
    exact kL43_78 FU _ _ _ _ _ _ hP hD hS (lv_sub hl [2, 1, 0] rfl) hg
  have kL6_90 : ∀ (n81 : Nat) (M79 : Mm) (x80 : Int32) (H : Heap) (locs : List Loc) (ls : Array Slot), va_P D vwCl (wl cs LM NM ad M79 ++ X) H → va_D A (wl cs LM NM ad M79 ++ X) → va_S A s.heap H locs → lv_has ls 5 [(0, .ref (ad 0)), (1, .int x80)] → gX8_read_L6 E4 n81 M79 x80 = res → W p l e R s m args below meth c H locs (0 + 3) (0 + 14) Q (F0 m 6 ls []) := by
    intro n81
    induction n81 with
    | zero =>
      intro M79 x80 H locs ls hP hD hS hl hg
      rw [gX8_read_L6] at hg
      exact absurd hg.symm hne
    | succ n81 ih =>
      intro M79 x80 H locs ls hP hD hS hl hg
      rw [gX8_read_L6] at hg
      refine lv_iload_n hx hb dX8_read_6 rfl (lv_at hl 1 rfl) ?_
      refine lv_bipush (v := 16) hx hb dX8_read_7 (by decide) ?_
      refine lv_icmp_ge (tgt := 38) hx hb dX8_read_9 (by decide) (fun c82 => ?_) (fun c82 => ?_)
      · have hg := if_t hg c82
        exact kE4 _ _ _ _ hP hD hS (lv_sub hl [0] rfl) hg
      · have hg := if_f hg c82
        refine lv_aload_n hx hb dX8_read_12 rfl (lv_at hl 0 rfl) ?_
        refine m_gr (C := RX8) (T := TX8) (n := 15) (ci := 6) hx hb hts in_RX8 hown hK hP (by decide) rfl rfl 7 (by decide) rfl lk_25 (fun _ h9 => h9) dX8_read_13 ?_
        refine lv_iload_n hx hb dX8_read_16 rfl (lv_at hl 1 rfl) ?_
        refine lv_iconst (v := -1) hx hb dX8_read_17 (by decide) ?_
        obtain ⟨b83, hg⟩ := ck_e hg hne
        obtain ⟨M84, hM84, hg⟩ := lt_e hg
        refine m_st hx hb hK hP hD hS (by decide) rfl b83 dX8_read_18 hM84 (fun H locs hP hD hS => ?_)
        refine lv_aload_n hx hb dX8_read_19 rfl (lv_at hl 0 rfl) ?_
        refine m_gr (C := RX8) (T := TX8) (n := 15) (ci := 6) hx hb hts in_RX8 hown hK hP (by decide) rfl rfl 6 (by decide) rfl lk_22 (fun _ h9 => h9) dX8_read_20 ?_
        refine lv_iload_n hx hb dX8_read_23 rfl (lv_at hl 1 rfl) ?_
        refine lv_iconst (v := 0) hx hb dX8_read_24 (by decide) ?_
        obtain ⟨b85, hg⟩ := ck_e hg hne
        obtain ⟨M86, hM86, hg⟩ := lt_e hg
        refine m_st hx hb hK hP hD hS (by decide) rfl b85 dX8_read_25 hM86 (fun H locs hP hD hS => ?_)
        refine lv_aload_n hx hb dX8_read_26 rfl (lv_at hl 0 rfl) ?_
        refine lv_iload_n hx hb dX8_read_27 rfl (lv_at hl 1 rfl) ?_
        refine lv_iconst (v := 1) hx hb dX8_read_28 (by decide) ?_
        obtain ⟨M88, q87, hg⟩ := bd_e hg hne
        refine w_callv (va_runV (As := [.int x80, .int (1 : Int32)]) (rest := []) CX (ctX8_push l D sw cs ad X H.size M86 x80 (1 : Int32) q87) (cwV 2 hts (gwV m5_125 m5_127 mp4_1 m1_7 m5_128) rfl rfl rfl (by decide +kernel) ⟨Nat.le_trans (Nat.le_of_ble_eq_true rfl) hR.1, Nat.le_trans (Nat.le_of_ble_eq_true rfl) hR.2⟩) (wPreV hSW hS hA hK hP hD (by decide) rfl rfl _) rfl rfl hl.1 rfl (lv_room (Nat.le_of_ble_eq_true rfl)) dX8_read_29 ⟨Nat.le_trans (Nat.le_of_ble_eq_true rfl) hRc.1, Nat.le_trans (Nat.le_of_ble_eq_true rfl) hRc.2⟩) hD hS hA (fun H locs hP hD hS => ?_)
        obtain ⟨x89, hx89, hg⟩ := lt_e hg
        refine lv_iinc (v := x89) (lv' := [(1, .int x89), (0, .ref (ad 0))]) hx hb dX8_read_32 hl (k := 1) rfl (hx89.symm) (by decide) rfl (fun ls hl => ?_)
        refine lv_goto (tgt := 6) hx hb dX8_read_35 (by decide) ?_
        exact ih _ _ _ _ _ hP hD hS (lv_sub hl [1, 0] rfl) hg
  exact kL6_90 FU _ _ _ _ _ hP hD hS (lv_sub hl [1, 0] rfl) hg
theorem ctX8_read (l : Launch) (D : va_G) (sw : Sw) (cs : Cs) (ad : Nat → Nat) (X : va_W) (sz : Nat) (M : Mm) {M1 : Mm} (hq : gX8_read M = some M1) : Met l yX8_read wsX8_read ({ frames := 5, cells := 3, slots := 14, locals := 107 }) (va_Pc [.ref (ad 0)] (wPre D sw cs LM NM ad M X sz)) (wQv D cs LM NM ad M1 X sz) 3 14 (wA NM ad X sz) :=
  met_w rfl rfl (Nat.le_of_ble_eq_true rfl) (fun p e s m args below meth c ls CX hr hlk hK hSW hP hD hS hA hl => bX8_read M hq (by simp) CX ⟨Nat.le_refl _, Nat.le_refl _⟩ hK hSW hP hD hS hA ⟨Nat.le_refl _, Nat.le_refl _⟩ hl (fun pc ls H locs M9 hv dg hP hD hS => W.vret CX.1 CX.2.1 hr (fun t ht hW => ⟨⟨(), rfl, trivial, wpost hP ht (Option.some.inj hv)⟩, hS.F ht⟩) hS.2.2 dg))

abbrev wsX8_presence : List Cond := Cond.code yX8_presence cX8_presence 2 (some .int) :: WG
def gX8_presence (M : Mm) (a1 : Int32) : Option (Int32 × Mm) := lt (um M 0 0 (0 : Int32)) fun M1 => bd (gX8_isItem M1 a1) fun r2 => if r2 = 0 then (bd2 (gX8_no M1 (1 : Int32)) fun r10 M9 => some (r10, M9)) else bd (gX8_look M1 ) fun M6 => if (a1 < 0 ∨ 80 ≤ (a1).toNatClampNeg) then none else some ((M6 2 (a1).toNatClampNeg), M6)
set_option maxHeartbeats 4000000 in
set_option maxRecDepth 100000 in
theorem bX8_presence {p : Program} {l : Launch} {e : Env} {R : Room} {s : State} {m : MethodId} {args : Array Value} {below : List Frame} {meth : Method} {c : Code} {H : Heap} {locs : List Loc} {Q : State → Prop} {D : va_G} {sw : Sw} {cs : Cs} {ad : Nat → Nat} {X : va_W} {A : Nat → Prop} (M : Mm) (a1 : Int32) {res : Option (Int32 × Mm)} (hg : gX8_presence M a1 = res) (hne : res ≠ none) (CX : CallFix p m c cX8_presence 2 s args wsX8_presence RX8) (hR : 2 ≤ R.frames ∧ 48 ≤ R.locals) (hK : va_K D vwCl (tysC cs) s) (hSW : SW sw A s s.heap) (hP : va_P D vwCl (wl cs LM NM ad M ++ X) H) (hD : va_D A (wl cs LM NM ad M ++ X)) (hS : va_S A s.heap H locs) (hA : ∀ q, s.heap.size ≤ q → A q) (hRc : 3 ≤ R.cells ∧ 14 ≤ R.slots) {ls : Array Slot} (hl : lv_has ls 2 [(0, .ref (ad 0)), (1, .int a1)]) (hret : ∀ (pc : Nat) (ls : Array Slot) (H : Heap) (locs : List Loc) (v : Int32) (M9 : Mm), some (v, M9) = res → decode cX8_presence pc = .ok (.ireturn, 1) → va_P D vwCl (wl cs LM NM ad M9 ++ X) H → va_D A (wl cs LM NM ad M9 ++ X) → va_S A s.heap H locs → W p l e R s m args below meth c H locs 3 14 Q (F0 m pc ls [.int v])) : W p l e R s m args below meth c H locs 0 0 Q (F0 m 0 ls []) := by
  obtain ⟨hx, hb, hml, hown, hts⟩ := id CX
  have hw : ∀ w ∈ WG, w.before args s = true := fun w h => hts w (List.mem_cons_of_mem _ h)
  have lk_43 := hw _ m4_116
  have lk_13 := hw _ m4_119
  unfold gX8_presence at hg
  refine lv_aload_n hx hb dX8_presence_0 rfl (lv_at hl 0 rfl) ?_
  refine lv_iconst (v := 0) hx hb dX8_presence_1 (by decide) ?_
  obtain ⟨M1, hM1, hg⟩ := lt_e hg
  refine m_pi (C := RX8) (T := TX8) (n := 15) (ci := 6) hx hb hts in_RX8 tyX8 tyX8_ok nmX8 hown hK hP hD hS (by decide) rfl rfl 0 (by decide) rfl lk_43 (fun _ h9 => h9) rfl rfl rfl dX8_presence_2 hM1 (fun H locs hP hD hS => ?_)
  refine lv_aload_n hx hb dX8_presence_5 rfl (lv_at hl 0 rfl) ?_
  refine lv_iload_n hx hb dX8_presence_6 rfl (lv_at hl 1 rfl) ?_
  obtain ⟨r2, q3, hg⟩ := bd_e hg hne
  refine r_calli (W.runV (As := [.int a1]) (rest := []) CX (ctX8_isItem l D sw cs ad X M1 a1 q3) (cwV 1 hts (gwV m5_42 m5_44 mp3_9 m1_7 m5_45) rfl rfl rfl (by decide +kernel) ⟨Nat.le_trans (Nat.le_of_ble_eq_true rfl) hR.1, Nat.le_trans (Nat.le_of_ble_eq_true rfl) hR.2⟩) (rPreV (hSW.wr hS) hK hP (by decide) rfl rfl _) rfl rfl hl.1 rfl (lv_room (Nat.le_of_ble_eq_true rfl)) dX8_presence_7 ⟨Nat.zero_le _, Nat.zero_le _⟩) ?_
  refine lv_if_ne (tgt := 19) hx hb dX8_presence_10 (by decide) (fun c4 => ?_) (fun c4 => ?_)
  · have hg := if_f hg c4
    refine lv_aload_n hx hb dX8_presence_19 rfl (lv_at hl 0 rfl) ?_
    obtain ⟨M6, q5, hg⟩ := bd_e hg hne
    refine w_callv (va_runV (As := []) (rest := []) CX (ctX8_look l D sw cs ad X H.size M1  q5) (cwV 0 hts (gwV m5_66 m5_68 mp3_11 m1_7 m5_69) rfl rfl rfl (by decide +kernel) ⟨Nat.le_trans (Nat.le_of_ble_eq_true rfl) hR.1, Nat.le_trans (Nat.le_of_ble_eq_true rfl) hR.2⟩) (wPreV hSW hS hA hK hP hD (by decide) rfl rfl _) rfl rfl hl.1 rfl (lv_room (Nat.le_of_ble_eq_true rfl)) dX8_presence_20 ⟨Nat.le_trans (Nat.le_of_ble_eq_true rfl) hRc.1, Nat.le_trans (Nat.le_of_ble_eq_true rfl) hRc.2⟩) hD hS hA (fun H locs hP hD hS => ?_)
    refine lv_aload_n hx hb dX8_presence_23 rfl (lv_at hl 0 rfl) ?_
    refine m_gr (C := RX8) (T := TX8) (n := 15) (ci := 6) hx hb hts in_RX8 hown hK hP (by decide) rfl rfl 3 (by decide) rfl lk_13 (fun _ h9 => h9) dX8_presence_24 ?_
    refine lv_iload_n hx hb dX8_presence_27 rfl (lv_at hl 1 rfl) ?_
    obtain ⟨b7, hg⟩ := ck_e hg hne
    refine m_ld hx hb hK hP (by decide) rfl b7 dX8_presence_28 ?_
    refine W.widen (k := 3) (n := 14) (by decide) (by decide) ?_
    exact hret _ _ _ _ _ _ hg dX8_presence_29 hP hD hS
  · have hg := if_t hg c4
    refine lv_aload_n hx hb dX8_presence_13 rfl (lv_at hl 0 rfl) ?_
    refine lv_iconst (v := 1) hx hb dX8_presence_14 (by decide) ?_
    obtain ⟨r10, M9, q8, hg⟩ := bd2_e hg hne
    refine w_calli (va_runV (As := [.int (1 : Int32)]) (rest := []) CX (ctX8_no l D sw cs ad X H.size M1 (1 : Int32) q8) (cwV 1 hts (gwV m4_232 m4_234 mp3_4 m1_7 m4_235) rfl rfl rfl (by decide +kernel) ⟨Nat.le_trans (Nat.le_of_ble_eq_true rfl) hR.1, Nat.le_trans (Nat.le_of_ble_eq_true rfl) hR.2⟩) (wPreV hSW hS hA hK hP hD (by decide) rfl rfl _) rfl rfl hl.1 rfl (lv_room (Nat.le_of_ble_eq_true rfl)) dX8_presence_15 ⟨Nat.zero_le _, Nat.zero_le _⟩) hD hS hA (fun H locs hP hD hS => ?_)
    refine W.widen (k := 3) (n := 14) (by decide) (by decide) ?_
    exact hret _ _ _ _ _ _ hg dX8_presence_18 hP hD hS
theorem ctX8_presence (l : Launch) (D : va_G) (sw : Sw) (cs : Cs) (ad : Nat → Nat) (X : va_W) (sz : Nat) (M : Mm) (a1 : Int32) {r : Int32} {M1 : Mm} (hq : gX8_presence M a1 = some (r, M1)) : Met l yX8_presence wsX8_presence ({ frames := 2, cells := 3, slots := 14, locals := 48 }) (va_Pc [.ref (ad 0), .int a1] (wPre D sw cs LM NM ad M X sz)) (wQi D cs LM NM ad M1 X sz r) 3 14 (wA NM ad X sz) :=
  met_w rfl rfl (Nat.le_of_ble_eq_true rfl) (fun p e s m args below meth c ls CX hr hlk hK hSW hP hD hS hA hl => bX8_presence M a1 hq (by simp) CX ⟨Nat.le_refl _, Nat.le_refl _⟩ hK hSW hP hD hS hA ⟨Nat.le_refl _, Nat.le_refl _⟩ hl (fun pc ls H locs v M9 hv dg hP hD hS => W.iret CX.1 CX.2.1 hr (fun t ht hW => ⟨⟨_, (), rfl, (Prod.mk.inj (Option.some.inj hv)).1, wpost hP ht (Prod.mk.inj (Option.some.inj hv)).2⟩, hS.F ht⟩) hS.2.2 dg))

abbrev wsX8_on : List Cond := Cond.code yX8_on cX8_on 3 (some .int) :: WG
def gX8_on (M : Mm) (a1 : Int32) (a2 : Int32) : Option (Int32 × Mm) := lt (um M 0 0 (0 : Int32)) fun M1 => if (gX8_isFeature a1) = 0 then (bd2 (gX8_no M1 (1 : Int32)) fun r5 M4 => some (r5, M4)) else bd (gX8_isItem M1 a2) fun r6 => if r6 = 0 then (bd2 (gX8_no M1 (1 : Int32)) fun r14 M13 => some (r14, M13)) else bd (gX8_look M1 ) fun M10 => if ((((4 : Int32) * a2) + a1) < 0 ∨ 320 ≤ ((((4 : Int32) * a2) + a1)).toNatClampNeg) then none else some ((M10 3 ((((4 : Int32) * a2) + a1)).toNatClampNeg), M10)
set_option maxHeartbeats 4000000 in
set_option maxRecDepth 100000 in
theorem bX8_on {p : Program} {l : Launch} {e : Env} {R : Room} {s : State} {m : MethodId} {args : Array Value} {below : List Frame} {meth : Method} {c : Code} {H : Heap} {locs : List Loc} {Q : State → Prop} {D : va_G} {sw : Sw} {cs : Cs} {ad : Nat → Nat} {X : va_W} {A : Nat → Prop} (M : Mm) (a1 : Int32) (a2 : Int32) {res : Option (Int32 × Mm)} (hg : gX8_on M a1 a2 = res) (hne : res ≠ none) (CX : CallFix p m c cX8_on 3 s args wsX8_on RX8) (hR : 2 ≤ R.frames ∧ 48 ≤ R.locals) (hK : va_K D vwCl (tysC cs) s) (hSW : SW sw A s s.heap) (hP : va_P D vwCl (wl cs LM NM ad M ++ X) H) (hD : va_D A (wl cs LM NM ad M ++ X)) (hS : va_S A s.heap H locs) (hA : ∀ q, s.heap.size ≤ q → A q) (hRc : 3 ≤ R.cells ∧ 14 ≤ R.slots) {ls : Array Slot} (hl : lv_has ls 3 [(0, .ref (ad 0)), (1, .int a1), (2, .int a2)]) (hret : ∀ (pc : Nat) (ls : Array Slot) (H : Heap) (locs : List Loc) (v : Int32) (M9 : Mm), some (v, M9) = res → decode cX8_on pc = .ok (.ireturn, 1) → va_P D vwCl (wl cs LM NM ad M9 ++ X) H → va_D A (wl cs LM NM ad M9 ++ X) → va_S A s.heap H locs → W p l e R s m args below meth c H locs 3 14 Q (F0 m pc ls [.int v])) : W p l e R s m args below meth c H locs 0 0 Q (F0 m 0 ls []) := by
  obtain ⟨hx, hb, hml, hown, hts⟩ := id CX
  have hw : ∀ w ∈ WG, w.before args s = true := fun w h => hts w (List.mem_cons_of_mem _ h)
  have lk_43 := hw _ m4_116
  have lk_16 := hw _ m4_120
  unfold gX8_on at hg
  refine lv_aload_n hx hb dX8_on_0 rfl (lv_at hl 0 rfl) ?_
  refine lv_iconst (v := 0) hx hb dX8_on_1 (by decide) ?_
  obtain ⟨M1, hM1, hg⟩ := lt_e hg
  refine m_pi (C := RX8) (T := TX8) (n := 15) (ci := 6) hx hb hts in_RX8 tyX8 tyX8_ok nmX8 hown hK hP hD hS (by decide) rfl rfl 0 (by decide) rfl lk_43 (fun _ h9 => h9) rfl rfl rfl dX8_on_2 hM1 (fun H locs hP hD hS => ?_)
  refine lv_iload_n hx hb dX8_on_5 rfl (lv_at hl 1 rfl) ?_
  refine r_calli (W.runS (As := [.int a1]) (rest := []) CX (ctX8_isFeature l a1) (va_cwS 1 hts (gwS m5_4 m5_5 m1_7 m5_6) rfl rfl rfl (by decide +kernel) ⟨Nat.le_trans (Nat.le_of_ble_eq_true rfl) hR.1, Nat.le_trans (Nat.le_of_ble_eq_true rfl) hR.2⟩) (pPreS _) rfl rfl hl.1 rfl (lv_room (Nat.le_of_ble_eq_true rfl)) dX8_on_6 ⟨Nat.zero_le _, Nat.zero_le _⟩) ?_
  refine lv_if_eq (tgt := 20) hx hb dX8_on_9 (by decide) (fun c2 => ?_) (fun c2 => ?_)
  · have hg := if_t hg c2
    refine lv_aload_n hx hb dX8_on_20 rfl (lv_at hl 0 rfl) ?_
    refine lv_iconst (v := 1) hx hb dX8_on_21 (by decide) ?_
    obtain ⟨r5, M4, q3, hg⟩ := bd2_e hg hne
    refine w_calli (va_runV (As := [.int (1 : Int32)]) (rest := []) CX (ctX8_no l D sw cs ad X H.size M1 (1 : Int32) q3) (cwV 1 hts (gwV m4_232 m4_234 mp3_4 m1_7 m4_235) rfl rfl rfl (by decide +kernel) ⟨Nat.le_trans (Nat.le_of_ble_eq_true rfl) hR.1, Nat.le_trans (Nat.le_of_ble_eq_true rfl) hR.2⟩) (wPreV hSW hS hA hK hP hD (by decide) rfl rfl _) rfl rfl hl.1 rfl (lv_room (Nat.le_of_ble_eq_true rfl)) dX8_on_22 ⟨Nat.zero_le _, Nat.zero_le _⟩) hD hS hA (fun H locs hP hD hS => ?_)
    refine W.widen (k := 3) (n := 14) (by decide) (by decide) ?_
    exact hret _ _ _ _ _ _ hg dX8_on_25 hP hD hS
  · have hg := if_f hg c2
    refine lv_aload_n hx hb dX8_on_12 rfl (lv_at hl 0 rfl) ?_
    refine lv_iload_n hx hb dX8_on_13 rfl (lv_at hl 2 rfl) ?_
    obtain ⟨r6, q7, hg⟩ := bd_e hg hne
    refine r_calli (W.runV (As := [.int a2]) (rest := []) CX (ctX8_isItem l D sw cs ad X M1 a2 q7) (cwV 1 hts (gwV m5_42 m5_44 mp3_9 m1_7 m5_45) rfl rfl rfl (by decide +kernel) ⟨Nat.le_trans (Nat.le_of_ble_eq_true rfl) hR.1, Nat.le_trans (Nat.le_of_ble_eq_true rfl) hR.2⟩) (rPreV (hSW.wr hS) hK hP (by decide) rfl rfl _) rfl rfl hl.1 rfl (lv_room (Nat.le_of_ble_eq_true rfl)) dX8_on_14 ⟨Nat.zero_le _, Nat.zero_le _⟩) ?_
    refine lv_if_ne (tgt := 26) hx hb dX8_on_17 (by decide) (fun c8 => ?_) (fun c8 => ?_)
    · have hg := if_f hg c8
      refine lv_aload_n hx hb dX8_on_26 rfl (lv_at hl 0 rfl) ?_
      obtain ⟨M10, q9, hg⟩ := bd_e hg hne
      refine w_callv (va_runV (As := []) (rest := []) CX (ctX8_look l D sw cs ad X H.size M1  q9) (cwV 0 hts (gwV m5_66 m5_68 mp3_11 m1_7 m5_69) rfl rfl rfl (by decide +kernel) ⟨Nat.le_trans (Nat.le_of_ble_eq_true rfl) hR.1, Nat.le_trans (Nat.le_of_ble_eq_true rfl) hR.2⟩) (wPreV hSW hS hA hK hP hD (by decide) rfl rfl _) rfl rfl hl.1 rfl (lv_room (Nat.le_of_ble_eq_true rfl)) dX8_on_27 ⟨Nat.le_trans (Nat.le_of_ble_eq_true rfl) hRc.1, Nat.le_trans (Nat.le_of_ble_eq_true rfl) hRc.2⟩) hD hS hA (fun H locs hP hD hS => ?_)
      refine lv_aload_n hx hb dX8_on_30 rfl (lv_at hl 0 rfl) ?_
      refine m_gr (C := RX8) (T := TX8) (n := 15) (ci := 6) hx hb hts in_RX8 hown hK hP (by decide) rfl rfl 4 (by decide) rfl lk_16 (fun _ h9 => h9) dX8_on_31 ?_
      refine lv_iconst (v := 4) hx hb dX8_on_34 (by decide) ?_
      refine lv_iload_n hx hb dX8_on_35 rfl (lv_at hl 2 rfl) ?_
      refine lv_imul hx hb dX8_on_36 ?_
      refine lv_iload_n hx hb dX8_on_37 rfl (lv_at hl 1 rfl) ?_
      refine lv_iadd hx hb dX8_on_38 ?_
      obtain ⟨b11, hg⟩ := ck_e hg hne
      refine m_ld hx hb hK hP (by decide) rfl b11 dX8_on_39 ?_
      refine W.widen (k := 3) (n := 14) (by decide) (by decide) ?_
      exact hret _ _ _ _ _ _ hg dX8_on_40 hP hD hS
    · have hg := if_t hg c8
      refine lv_aload_n hx hb dX8_on_20 rfl (lv_at hl 0 rfl) ?_
      refine lv_iconst (v := 1) hx hb dX8_on_21 (by decide) ?_
      obtain ⟨r14, M13, q12, hg⟩ := bd2_e hg hne
      refine w_calli (va_runV (As := [.int (1 : Int32)]) (rest := []) CX (ctX8_no l D sw cs ad X H.size M1 (1 : Int32) q12) (cwV 1 hts (gwV m4_232 m4_234 mp3_4 m1_7 m4_235) rfl rfl rfl (by decide +kernel) ⟨Nat.le_trans (Nat.le_of_ble_eq_true rfl) hR.1, Nat.le_trans (Nat.le_of_ble_eq_true rfl) hR.2⟩) (wPreV hSW hS hA hK hP hD (by decide) rfl rfl _) rfl rfl hl.1 rfl (lv_room (Nat.le_of_ble_eq_true rfl)) dX8_on_22 ⟨Nat.zero_le _, Nat.zero_le _⟩) hD hS hA (fun H locs hP hD hS => ?_)
      refine W.widen (k := 3) (n := 14) (by decide) (by decide) ?_
      exact hret _ _ _ _ _ _ hg dX8_on_25 hP hD hS
theorem ctX8_on (l : Launch) (D : va_G) (sw : Sw) (cs : Cs) (ad : Nat → Nat) (X : va_W) (sz : Nat) (M : Mm) (a1 : Int32) (a2 : Int32) {r : Int32} {M1 : Mm} (hq : gX8_on M a1 a2 = some (r, M1)) : Met l yX8_on wsX8_on ({ frames := 2, cells := 3, slots := 14, locals := 48 }) (va_Pc [.ref (ad 0), .int a1, .int a2] (wPre D sw cs LM NM ad M X sz)) (wQi D cs LM NM ad M1 X sz r) 3 14 (wA NM ad X sz) :=
  met_w rfl rfl (Nat.le_of_ble_eq_true rfl) (fun p e s m args below meth c ls CX hr hlk hK hSW hP hD hS hA hl => bX8_on M a1 a2 hq (by simp) CX ⟨Nat.le_refl _, Nat.le_refl _⟩ hK hSW hP hD hS hA ⟨Nat.le_refl _, Nat.le_refl _⟩ hl (fun pc ls H locs v M9 hv dg hP hD hS => W.iret CX.1 CX.2.1 hr (fun t ht hW => ⟨⟨_, (), rfl, (Prod.mk.inj (Option.some.inj hv)).1, wpost hP ht (Prod.mk.inj (Option.some.inj hv)).2⟩, hS.F ht⟩) hS.2.2 dg))

abbrev wsX8_dead : List Cond := Cond.code yX8_dead cX8_dead 3 (some .int) :: WG
def gX8_dead_L13 : Nat → Mm → Int32 → Int32 → Option (Int32 × Mm)
  | 0, _, _, _ => none
  | n7 + 1, M4, x5, x6 => if (M4 0 1) ≤ x6 then (some (x5, M4)) else bd (gX8_isToken M4 x6) fun r9 => if r9 = 0 then (lt (x6 + (1 : Int32)) fun x12 => gX8_dead_L13 n7 M4 (x5 + (0 : Int32)) x12) else if (x6 < 0 ∨ 80 ≤ (x6).toNatClampNeg) then none else if (M4 2 (x6).toNatClampNeg) = 0 then (lt (x6 + (1 : Int32)) fun x16 => gX8_dead_L13 n7 M4 (x5 + (1 : Int32)) x16) else lt (x6 + (1 : Int32)) fun x15 => gX8_dead_L13 n7 M4 (x5 + (0 : Int32)) x15
def gX8_dead (M : Mm) : Option (Int32 × Mm) := lt (um M 0 0 (0 : Int32)) fun M1 => bd (gX8_look M1 ) fun M3 => gX8_dead_L13 FU M3 (0 : Int32) (0 : Int32)
set_option maxHeartbeats 4000000 in
set_option maxRecDepth 100000 in
theorem bX8_dead {p : Program} {l : Launch} {e : Env} {R : Room} {s : State} {m : MethodId} {args : Array Value} {below : List Frame} {meth : Method} {c : Code} {H : Heap} {locs : List Loc} {Q : State → Prop} {D : va_G} {sw : Sw} {cs : Cs} {ad : Nat → Nat} {X : va_W} {A : Nat → Prop} (M : Mm) {res : Option (Int32 × Mm)} (hg : gX8_dead M = res) (hne : res ≠ none) (CX : CallFix p m c cX8_dead 3 s args wsX8_dead RX8) (hR : 2 ≤ R.frames ∧ 48 ≤ R.locals) (hK : va_K D vwCl (tysC cs) s) (hSW : SW sw A s s.heap) (hP : va_P D vwCl (wl cs LM NM ad M ++ X) H) (hD : va_D A (wl cs LM NM ad M ++ X)) (hS : va_S A s.heap H locs) (hA : ∀ q, s.heap.size ≤ q → A q) (hRc : 3 ≤ R.cells ∧ 14 ≤ R.slots) {ls : Array Slot} (hl : lv_has ls 3 [(0, .ref (ad 0))]) (hret : ∀ (pc : Nat) (ls : Array Slot) (H : Heap) (locs : List Loc) (v : Int32) (M9 : Mm), some (v, M9) = res → decode cX8_dead pc = .ok (.ireturn, 1) → va_P D vwCl (wl cs LM NM ad M9 ++ X) H → va_D A (wl cs LM NM ad M9 ++ X) → va_S A s.heap H locs → W p l e R s m args below meth c H locs 3 14 Q (F0 m pc ls [.int v])) : W p l e R s m args below meth c H locs 0 0 Q (F0 m 0 ls []) := by
  obtain ⟨hx, hb, hml, hown, hts⟩ := id CX
  have hw : ∀ w ∈ WG, w.before args s = true := fun w h => hts w (List.mem_cons_of_mem _ h)
  have lk_43 := hw _ m4_116
  have lk_47 := hw _ m4_117
  have lk_13 := hw _ m4_119
  unfold gX8_dead at hg
  refine lv_aload_n hx hb dX8_dead_0 rfl (lv_at hl 0 rfl) ?_
  refine lv_iconst (v := 0) hx hb dX8_dead_1 (by decide) ?_
  obtain ⟨M1, hM1, hg⟩ := lt_e hg
  refine m_pi (C := RX8) (T := TX8) (n := 15) (ci := 6) hx hb hts in_RX8 tyX8 tyX8_ok nmX8 hown hK hP hD hS (by decide) rfl rfl 0 (by decide) rfl lk_43 (fun _ h9 => h9) rfl rfl rfl dX8_dead_2 hM1 (fun H locs hP hD hS => ?_)
  refine lv_aload_n hx hb dX8_dead_5 rfl (lv_at hl 0 rfl) ?_
  obtain ⟨M3, q2, hg⟩ := bd_e hg hne
  refine w_callv (va_runV (As := []) (rest := []) CX (ctX8_look l D sw cs ad X H.size M1  q2) (cwV 0 hts (gwV m5_66 m5_68 mp3_11 m1_7 m5_69) rfl rfl rfl (by decide +kernel) ⟨Nat.le_trans (Nat.le_of_ble_eq_true rfl) hR.1, Nat.le_trans (Nat.le_of_ble_eq_true rfl) hR.2⟩) (wPreV hSW hS hA hK hP hD (by decide) rfl rfl _) rfl rfl hl.1 rfl (lv_room (Nat.le_of_ble_eq_true rfl)) dX8_dead_6 ⟨Nat.le_trans (Nat.le_of_ble_eq_true rfl) hRc.1, Nat.le_trans (Nat.le_of_ble_eq_true rfl) hRc.2⟩) hD hS hA (fun H locs hP hD hS => ?_)
  refine lv_iconst (v := 0) hx hb dX8_dead_9 (by decide) ?_
  refine lv_istore_n (lv' := [(1, .int (0 : Int32)), (0, .ref (ad 0))]) hx hb dX8_dead_10 rfl hl (by decide) rfl (fun ls hl => ?_)
  refine lv_iconst (v := 0) hx hb dX8_dead_11 (by decide) ?_
  refine lv_istore_n (lv' := [(2, .int (0 : Int32)), (1, .int (0 : Int32)), (0, .ref (ad 0))]) hx hb dX8_dead_12 rfl hl (by decide) rfl (fun ls hl => ?_)
  have kL13_17 : ∀ (n7 : Nat) (M4 : Mm) (x5 : Int32) (x6 : Int32) (H : Heap) (locs : List Loc) (ls : Array Slot), va_P D vwCl (wl cs LM NM ad M4 ++ X) H → va_D A (wl cs LM NM ad M4 ++ X) → va_S A s.heap H locs → lv_has ls 3 [(0, .ref (ad 0)), (1, .int x5), (2, .int x6)] → gX8_dead_L13 n7 M4 x5 x6 = res → W p l e R s m args below meth c H locs (0 + 3) (0 + 14) Q (F0 m 13 ls []) := by
    intro n7
    induction n7 with
    | zero =>
      intro M4 x5 x6 H locs ls hP hD hS hl hg
      rw [gX8_dead_L13] at hg
      exact absurd hg.symm hne
    | succ n7 ih =>
      intro M4 x5 x6 H locs ls hP hD hS hl hg
      rw [gX8_dead_L13] at hg
      refine lv_iload_n hx hb dX8_dead_13 rfl (lv_at hl 2 rfl) ?_
      refine lv_aload_n hx hb dX8_dead_14 rfl (lv_at hl 0 rfl) ?_
      refine m_gi (C := RX8) (T := TX8) (n := 15) (ci := 6) hx hb hts in_RX8 hown hK hP (by decide) rfl rfl 1 (by decide) rfl lk_47 (fun _ h9 => h9) dX8_dead_15 ?_
      refine lv_icmp_ge (tgt := 52) hx hb dX8_dead_18 (by decide) (fun c8 => ?_) (fun c8 => ?_)
      · have hg := if_t hg c8
        refine lv_iload_n hx hb dX8_dead_52 rfl (lv_at hl 1 rfl) ?_
        refine W.widen (k := 3) (n := 14) (by decide) (by decide) ?_
        exact hret _ _ _ _ _ _ hg dX8_dead_53 hP hD hS
      · have hg := if_f hg c8
        refine lv_iload_n hx hb dX8_dead_21 rfl (lv_at hl 1 rfl) ?_
        refine lv_aload_n hx hb dX8_dead_22 rfl (lv_at hl 0 rfl) ?_
        refine lv_iload_n hx hb dX8_dead_23 rfl (lv_at hl 2 rfl) ?_
        obtain ⟨r9, q10, hg⟩ := bd_e hg hne
        refine r_calli (W.runV (As := [.int x6]) (rest := [.int x5]) CX (ctX8_isToken l D sw cs ad X M4 x6 q10) (cwV 1 hts (gwV m5_46 m5_48 mp3_10 m1_7 m5_49) rfl rfl rfl (by decide +kernel) ⟨Nat.le_trans (Nat.le_of_ble_eq_true rfl) hR.1, Nat.le_trans (Nat.le_of_ble_eq_true rfl) hR.2⟩) (rPreV (hSW.wr hS) hK hP (by decide) rfl rfl _) rfl rfl hl.1 rfl (lv_room (Nat.le_of_ble_eq_true rfl)) dX8_dead_24 ⟨Nat.le_trans (Nat.le_of_ble_eq_true rfl) hRc.1, Nat.le_trans (Nat.le_of_ble_eq_true rfl) hRc.2⟩) ?_
        refine lv_if_eq (tgt := 43) hx hb dX8_dead_27 (by decide) (fun c11 => ?_) (fun c11 => ?_)
        · have hg := if_t hg c11
          refine lv_iconst (v := 0) hx hb dX8_dead_43 (by decide) ?_
          refine lv_iadd hx hb dX8_dead_44 ?_
          refine lv_istore_n (lv' := [(1, .int (x5 + (0 : Int32))), (0, .ref (ad 0)), (2, .int x6)]) hx hb dX8_dead_45 rfl hl (by decide) rfl (fun ls hl => ?_)
          obtain ⟨x12, hx12, hg⟩ := lt_e hg
          refine lv_iinc (v := x12) (lv' := [(2, .int x12), (1, .int (x5 + (0 : Int32))), (0, .ref (ad 0))]) hx hb dX8_dead_46 hl (k := 2) rfl (hx12.symm) (by decide) rfl (fun ls hl => ?_)
          refine lv_goto (tgt := 13) hx hb dX8_dead_49 (by decide) ?_
          exact ih _ _ _ _ _ _ hP hD hS (lv_sub hl [2, 1, 0] rfl) hg
        · have hg := if_f hg c11
          refine lv_aload_n hx hb dX8_dead_30 rfl (lv_at hl 0 rfl) ?_
          refine m_gr (C := RX8) (T := TX8) (n := 15) (ci := 6) hx hb hts in_RX8 hown hK hP (by decide) rfl rfl 3 (by decide) rfl lk_13 (fun _ h9 => h9) dX8_dead_31 ?_
          refine lv_iload_n hx hb dX8_dead_34 rfl (lv_at hl 2 rfl) ?_
          obtain ⟨b13, hg⟩ := ck_e hg hne
          refine m_ld hx hb hK hP (by decide) rfl b13 dX8_dead_35 ?_
          refine lv_if_ne (tgt := 43) hx hb dX8_dead_36 (by decide) (fun c14 => ?_) (fun c14 => ?_)
          · have hg := if_f hg c14
            refine lv_iconst (v := 0) hx hb dX8_dead_43 (by decide) ?_
            refine lv_iadd hx hb dX8_dead_44 ?_
            refine lv_istore_n (lv' := [(1, .int (x5 + (0 : Int32))), (0, .ref (ad 0)), (2, .int x6)]) hx hb dX8_dead_45 rfl hl (by decide) rfl (fun ls hl => ?_)
            obtain ⟨x15, hx15, hg⟩ := lt_e hg
            refine lv_iinc (v := x15) (lv' := [(2, .int x15), (1, .int (x5 + (0 : Int32))), (0, .ref (ad 0))]) hx hb dX8_dead_46 hl (k := 2) rfl (hx15.symm) (by decide) rfl (fun ls hl => ?_)
            refine lv_goto (tgt := 13) hx hb dX8_dead_49 (by decide) ?_
            exact ih _ _ _ _ _ _ hP hD hS (lv_sub hl [2, 1, 0] rfl) hg
          · have hg := if_t hg c14
            refine lv_iconst (v := 1) hx hb dX8_dead_39 (by decide) ?_
            refine lv_goto (tgt := 44) hx hb dX8_dead_40 (by decide) ?_
            refine lv_iadd hx hb dX8_dead_44 ?_
            refine lv_istore_n (lv' := [(1, .int (x5 + (1 : Int32))), (0, .ref (ad 0)), (2, .int x6)]) hx hb dX8_dead_45 rfl hl (by decide) rfl (fun ls hl => ?_)
            obtain ⟨x16, hx16, hg⟩ := lt_e hg
            refine lv_iinc (v := x16) (lv' := [(2, .int x16), (1, .int (x5 + (1 : Int32))), (0, .ref (ad 0))]) hx hb dX8_dead_46 hl (k := 2) rfl (hx16.symm) (by decide) rfl (fun ls hl => ?_)
            refine lv_goto (tgt := 13) hx hb dX8_dead_49 (by decide) ?_
            exact ih _ _ _ _ _ _ hP hD hS (lv_sub hl [2, 1, 0] rfl) hg
  exact kL13_17 FU _ _ _ _ _ _ hP hD hS (lv_sub hl [2, 1, 0] rfl) hg
theorem ctX8_dead (l : Launch) (D : va_G) (sw : Sw) (cs : Cs) (ad : Nat → Nat) (X : va_W) (sz : Nat) (M : Mm) {r : Int32} {M1 : Mm} (hq : gX8_dead M = some (r, M1)) : Met l yX8_dead wsX8_dead ({ frames := 2, cells := 3, slots := 14, locals := 48 }) (va_Pc [.ref (ad 0)] (wPre D sw cs LM NM ad M X sz)) (wQi D cs LM NM ad M1 X sz r) 3 14 (wA NM ad X sz) :=
  met_w rfl rfl (Nat.le_of_ble_eq_true rfl) (fun p e s m args below meth c ls CX hr hlk hK hSW hP hD hS hA hl => bX8_dead M hq (by simp) CX ⟨Nat.le_refl _, Nat.le_refl _⟩ hK hSW hP hD hS hA ⟨Nat.le_refl _, Nat.le_refl _⟩ hl (fun pc ls H locs v M9 hv dg hP hD hS => W.iret CX.1 CX.2.1 hr (fun t ht hW => ⟨⟨_, (), rfl, (Prod.mk.inj (Option.some.inj hv)).1, wpost hP ht (Prod.mk.inj (Option.some.inj hv)).2⟩, hS.F ht⟩) hS.2.2 dg))

abbrev wsX8_length : List Cond := Cond.code yX8_length cX8_length 2 (some .int) :: WG
def gX8_length (M : Mm) (a1 : Int32) : Option (Int32 × Mm) := lt (um M 0 0 (0 : Int32)) fun M1 => if (gX8_isConfiguration a1) = 0 then (bd2 (gX8_no M1 (1 : Int32)) fun r9 M8 => some (r9, M8)) else bd (gX8_look M1 ) fun M4 => bd (gX8_lengthOf M4 a1) fun r5 => some (r5, M4)
set_option maxHeartbeats 4000000 in
set_option maxRecDepth 100000 in
theorem bX8_length {p : Program} {l : Launch} {e : Env} {R : Room} {s : State} {m : MethodId} {args : Array Value} {below : List Frame} {meth : Method} {c : Code} {H : Heap} {locs : List Loc} {Q : State → Prop} {D : va_G} {sw : Sw} {cs : Cs} {ad : Nat → Nat} {X : va_W} {A : Nat → Prop} (M : Mm) (a1 : Int32) {res : Option (Int32 × Mm)} (hg : gX8_length M a1 = res) (hne : res ≠ none) (CX : CallFix p m c cX8_length 2 s args wsX8_length RX8) (hR : 2 ≤ R.frames ∧ 48 ≤ R.locals) (hK : va_K D vwCl (tysC cs) s) (hSW : SW sw A s s.heap) (hP : va_P D vwCl (wl cs LM NM ad M ++ X) H) (hD : va_D A (wl cs LM NM ad M ++ X)) (hS : va_S A s.heap H locs) (hA : ∀ q, s.heap.size ≤ q → A q) (hRc : 3 ≤ R.cells ∧ 14 ≤ R.slots) {ls : Array Slot} (hl : lv_has ls 2 [(0, .ref (ad 0)), (1, .int a1)]) (hret : ∀ (pc : Nat) (ls : Array Slot) (H : Heap) (locs : List Loc) (v : Int32) (M9 : Mm), some (v, M9) = res → decode cX8_length pc = .ok (.ireturn, 1) → va_P D vwCl (wl cs LM NM ad M9 ++ X) H → va_D A (wl cs LM NM ad M9 ++ X) → va_S A s.heap H locs → W p l e R s m args below meth c H locs 3 14 Q (F0 m pc ls [.int v])) : W p l e R s m args below meth c H locs 0 0 Q (F0 m 0 ls []) := by
  obtain ⟨hx, hb, hml, hown, hts⟩ := id CX
  have hw : ∀ w ∈ WG, w.before args s = true := fun w h => hts w (List.mem_cons_of_mem _ h)
  have lk_43 := hw _ m4_116
  unfold gX8_length at hg
  refine lv_aload_n hx hb dX8_length_0 rfl (lv_at hl 0 rfl) ?_
  refine lv_iconst (v := 0) hx hb dX8_length_1 (by decide) ?_
  obtain ⟨M1, hM1, hg⟩ := lt_e hg
  refine m_pi (C := RX8) (T := TX8) (n := 15) (ci := 6) hx hb hts in_RX8 tyX8 tyX8_ok nmX8 hown hK hP hD hS (by decide) rfl rfl 0 (by decide) rfl lk_43 (fun _ h9 => h9) rfl rfl rfl dX8_length_2 hM1 (fun H locs hP hD hS => ?_)
  refine lv_iload_n hx hb dX8_length_5 rfl (lv_at hl 1 rfl) ?_
  refine r_calli (W.runS (As := [.int a1]) (rest := []) CX (ctX8_isConfiguration l a1) (va_cwS 1 hts (gwS m5_90 m5_91 m1_7 m5_92) rfl rfl rfl (by decide +kernel) ⟨Nat.le_trans (Nat.le_of_ble_eq_true rfl) hR.1, Nat.le_trans (Nat.le_of_ble_eq_true rfl) hR.2⟩) (pPreS _) rfl rfl hl.1 rfl (lv_room (Nat.le_of_ble_eq_true rfl)) dX8_length_6 ⟨Nat.zero_le _, Nat.zero_le _⟩) ?_
  refine lv_if_ne (tgt := 18) hx hb dX8_length_9 (by decide) (fun c2 => ?_) (fun c2 => ?_)
  · have hg := if_f hg c2
    refine lv_aload_n hx hb dX8_length_18 rfl (lv_at hl 0 rfl) ?_
    obtain ⟨M4, q3, hg⟩ := bd_e hg hne
    refine w_callv (va_runV (As := []) (rest := []) CX (ctX8_look l D sw cs ad X H.size M1  q3) (cwV 0 hts (gwV m5_66 m5_68 mp3_11 m1_7 m5_69) rfl rfl rfl (by decide +kernel) ⟨Nat.le_trans (Nat.le_of_ble_eq_true rfl) hR.1, Nat.le_trans (Nat.le_of_ble_eq_true rfl) hR.2⟩) (wPreV hSW hS hA hK hP hD (by decide) rfl rfl _) rfl rfl hl.1 rfl (lv_room (Nat.le_of_ble_eq_true rfl)) dX8_length_19 ⟨Nat.le_trans (Nat.le_of_ble_eq_true rfl) hRc.1, Nat.le_trans (Nat.le_of_ble_eq_true rfl) hRc.2⟩) hD hS hA (fun H locs hP hD hS => ?_)
    refine lv_aload_n hx hb dX8_length_22 rfl (lv_at hl 0 rfl) ?_
    refine lv_iload_n hx hb dX8_length_23 rfl (lv_at hl 1 rfl) ?_
    obtain ⟨r5, q6, hg⟩ := bd_e hg hne
    refine r_calli (W.runV (As := [.int a1]) (rest := []) CX (ctX8_lengthOf l D sw cs ad X M4 a1 q6) (cwV 1 hts (gwV m5_93 m5_95 mp3_12 m1_7 m5_96) rfl rfl rfl (by decide +kernel) ⟨Nat.le_trans (Nat.le_of_ble_eq_true rfl) hR.1, Nat.le_trans (Nat.le_of_ble_eq_true rfl) hR.2⟩) (rPreV (hSW.wr hS) hK hP (by decide) rfl rfl _) rfl rfl hl.1 rfl (lv_room (Nat.le_of_ble_eq_true rfl)) dX8_length_24 ⟨Nat.le_trans (Nat.le_of_ble_eq_true rfl) hRc.1, Nat.le_trans (Nat.le_of_ble_eq_true rfl) hRc.2⟩) ?_
    refine W.widen (k := 3) (n := 14) (by decide) (by decide) ?_
    exact hret _ _ _ _ _ _ hg dX8_length_27 hP hD hS
  · have hg := if_t hg c2
    refine lv_aload_n hx hb dX8_length_12 rfl (lv_at hl 0 rfl) ?_
    refine lv_iconst (v := 1) hx hb dX8_length_13 (by decide) ?_
    obtain ⟨r9, M8, q7, hg⟩ := bd2_e hg hne
    refine w_calli (va_runV (As := [.int (1 : Int32)]) (rest := []) CX (ctX8_no l D sw cs ad X H.size M1 (1 : Int32) q7) (cwV 1 hts (gwV m4_232 m4_234 mp3_4 m1_7 m4_235) rfl rfl rfl (by decide +kernel) ⟨Nat.le_trans (Nat.le_of_ble_eq_true rfl) hR.1, Nat.le_trans (Nat.le_of_ble_eq_true rfl) hR.2⟩) (wPreV hSW hS hA hK hP hD (by decide) rfl rfl _) rfl rfl hl.1 rfl (lv_room (Nat.le_of_ble_eq_true rfl)) dX8_length_14 ⟨Nat.zero_le _, Nat.zero_le _⟩) hD hS hA (fun H locs hP hD hS => ?_)
    refine W.widen (k := 3) (n := 14) (by decide) (by decide) ?_
    exact hret _ _ _ _ _ _ hg dX8_length_17 hP hD hS
theorem ctX8_length (l : Launch) (D : va_G) (sw : Sw) (cs : Cs) (ad : Nat → Nat) (X : va_W) (sz : Nat) (M : Mm) (a1 : Int32) {r : Int32} {M1 : Mm} (hq : gX8_length M a1 = some (r, M1)) : Met l yX8_length wsX8_length ({ frames := 2, cells := 3, slots := 14, locals := 48 }) (va_Pc [.ref (ad 0), .int a1] (wPre D sw cs LM NM ad M X sz)) (wQi D cs LM NM ad M1 X sz r) 3 14 (wA NM ad X sz) :=
  met_w rfl rfl (Nat.le_of_ble_eq_true rfl) (fun p e s m args below meth c ls CX hr hlk hK hSW hP hD hS hA hl => bX8_length M a1 hq (by simp) CX ⟨Nat.le_refl _, Nat.le_refl _⟩ hK hSW hP hD hS hA ⟨Nat.le_refl _, Nat.le_refl _⟩ hl (fun pc ls H locs v M9 hv dg hP hD hS => W.iret CX.1 CX.2.1 hr (fun t ht hW => ⟨⟨_, (), rfl, (Prod.mk.inj (Option.some.inj hv)).1, wpost hP ht (Prod.mk.inj (Option.some.inj hv)).2⟩, hS.F ht⟩) hS.2.2 dg))

abbrev wsX8_place : List Cond := Cond.code yX8_place cX8_place 4 (some .int) :: WG
def gX8_place (M : Mm) (a1 : Int32) (a2 : Int32) : Option (Int32 × Mm) := lt (um M 0 0 (0 : Int32)) fun M1 => if (gX8_isConfiguration a1) = 0 then (bd2 (gX8_no M1 (1 : Int32)) fun r13 M12 => some (r13, M12)) else bd (gX8_look M1 ) fun M4 => bd (gX8_find M4 a1 a2) fun r5 => if r5 = (-1 : Int32) then (bd2 (gX8_no M4 (1 : Int32)) fun r10 M9 => some (r10, M9)) else some (r5, M4)
set_option maxHeartbeats 4000000 in
set_option maxRecDepth 100000 in
theorem bX8_place {p : Program} {l : Launch} {e : Env} {R : Room} {s : State} {m : MethodId} {args : Array Value} {below : List Frame} {meth : Method} {c : Code} {H : Heap} {locs : List Loc} {Q : State → Prop} {D : va_G} {sw : Sw} {cs : Cs} {ad : Nat → Nat} {X : va_W} {A : Nat → Prop} (M : Mm) (a1 : Int32) (a2 : Int32) {res : Option (Int32 × Mm)} (hg : gX8_place M a1 a2 = res) (hne : res ≠ none) (CX : CallFix p m c cX8_place 4 s args wsX8_place RX8) (hR : 2 ≤ R.frames ∧ 48 ≤ R.locals) (hK : va_K D vwCl (tysC cs) s) (hSW : SW sw A s s.heap) (hP : va_P D vwCl (wl cs LM NM ad M ++ X) H) (hD : va_D A (wl cs LM NM ad M ++ X)) (hS : va_S A s.heap H locs) (hA : ∀ q, s.heap.size ≤ q → A q) (hRc : 3 ≤ R.cells ∧ 14 ≤ R.slots) {ls : Array Slot} (hl : lv_has ls 4 [(0, .ref (ad 0)), (1, .int a1), (2, .int a2)]) (hret : ∀ (pc : Nat) (ls : Array Slot) (H : Heap) (locs : List Loc) (v : Int32) (M9 : Mm), some (v, M9) = res → decode cX8_place pc = .ok (.ireturn, 1) → va_P D vwCl (wl cs LM NM ad M9 ++ X) H → va_D A (wl cs LM NM ad M9 ++ X) → va_S A s.heap H locs → W p l e R s m args below meth c H locs 3 14 Q (F0 m pc ls [.int v])) : W p l e R s m args below meth c H locs 0 0 Q (F0 m 0 ls []) := by
  obtain ⟨hx, hb, hml, hown, hts⟩ := id CX
  have hw : ∀ w ∈ WG, w.before args s = true := fun w h => hts w (List.mem_cons_of_mem _ h)
  have lk_43 := hw _ m4_116
  unfold gX8_place at hg
  refine lv_aload_n hx hb dX8_place_0 rfl (lv_at hl 0 rfl) ?_
  refine lv_iconst (v := 0) hx hb dX8_place_1 (by decide) ?_
  obtain ⟨M1, hM1, hg⟩ := lt_e hg
  refine m_pi (C := RX8) (T := TX8) (n := 15) (ci := 6) hx hb hts in_RX8 tyX8 tyX8_ok nmX8 hown hK hP hD hS (by decide) rfl rfl 0 (by decide) rfl lk_43 (fun _ h9 => h9) rfl rfl rfl dX8_place_2 hM1 (fun H locs hP hD hS => ?_)
  refine lv_iload_n hx hb dX8_place_5 rfl (lv_at hl 1 rfl) ?_
  refine r_calli (W.runS (As := [.int a1]) (rest := []) CX (ctX8_isConfiguration l a1) (va_cwS 1 hts (gwS m5_90 m5_91 m1_7 m5_92) rfl rfl rfl (by decide +kernel) ⟨Nat.le_trans (Nat.le_of_ble_eq_true rfl) hR.1, Nat.le_trans (Nat.le_of_ble_eq_true rfl) hR.2⟩) (pPreS _) rfl rfl hl.1 rfl (lv_room (Nat.le_of_ble_eq_true rfl)) dX8_place_6 ⟨Nat.zero_le _, Nat.zero_le _⟩) ?_
  refine lv_if_ne (tgt := 18) hx hb dX8_place_9 (by decide) (fun c2 => ?_) (fun c2 => ?_)
  · have hg := if_f hg c2
    refine lv_aload_n hx hb dX8_place_18 rfl (lv_at hl 0 rfl) ?_
    obtain ⟨M4, q3, hg⟩ := bd_e hg hne
    refine w_callv (va_runV (As := []) (rest := []) CX (ctX8_look l D sw cs ad X H.size M1  q3) (cwV 0 hts (gwV m5_66 m5_68 mp3_11 m1_7 m5_69) rfl rfl rfl (by decide +kernel) ⟨Nat.le_trans (Nat.le_of_ble_eq_true rfl) hR.1, Nat.le_trans (Nat.le_of_ble_eq_true rfl) hR.2⟩) (wPreV hSW hS hA hK hP hD (by decide) rfl rfl _) rfl rfl hl.1 rfl (lv_room (Nat.le_of_ble_eq_true rfl)) dX8_place_19 ⟨Nat.le_trans (Nat.le_of_ble_eq_true rfl) hRc.1, Nat.le_trans (Nat.le_of_ble_eq_true rfl) hRc.2⟩) hD hS hA (fun H locs hP hD hS => ?_)
    refine lv_aload_n hx hb dX8_place_22 rfl (lv_at hl 0 rfl) ?_
    refine lv_iload_n hx hb dX8_place_23 rfl (lv_at hl 1 rfl) ?_
    refine lv_iload_n hx hb dX8_place_24 rfl (lv_at hl 2 rfl) ?_
    obtain ⟨r5, q6, hg⟩ := bd_e hg hne
    refine r_calli (W.runV (As := [.int a1, .int a2]) (rest := []) CX (ctX8_find l D sw cs ad X M4 a1 a2 q6) (cwV 2 hts (gwV m5_101 m5_103 mp3_13 m1_7 m5_104) rfl rfl rfl (by decide +kernel) ⟨Nat.le_trans (Nat.le_of_ble_eq_true rfl) hR.1, Nat.le_trans (Nat.le_of_ble_eq_true rfl) hR.2⟩) (rPreV (hSW.wr hS) hK hP (by decide) rfl rfl _) rfl rfl hl.1 rfl (lv_room (Nat.le_of_ble_eq_true rfl)) dX8_place_25 ⟨Nat.le_trans (Nat.le_of_ble_eq_true rfl) hRc.1, Nat.le_trans (Nat.le_of_ble_eq_true rfl) hRc.2⟩) ?_
    refine lv_istore_n (lv' := [(3, .int r5), (0, .ref (ad 0)), (1, .int a1), (2, .int a2)]) hx hb dX8_place_28 rfl hl (by decide) rfl (fun ls hl => ?_)
    refine lv_iload_n hx hb dX8_place_29 rfl (lv_at hl 0 rfl) ?_
    refine lv_iconst (v := -1) hx hb dX8_place_30 (by decide) ?_
    refine lv_icmp_ne (tgt := 42) hx hb dX8_place_31 (by decide) (fun c7 => ?_) (fun c7 => ?_)
    · have hg := if_f hg c7
      refine lv_iload_n hx hb dX8_place_42 rfl (lv_at hl 0 rfl) ?_
      refine W.widen (k := 3) (n := 14) (by decide) (by decide) ?_
      exact hret _ _ _ _ _ _ hg dX8_place_43 hP hD hS
    · have hg := if_t hg c7
      refine lv_aload_n hx hb dX8_place_34 rfl (lv_at hl 1 rfl) ?_
      refine lv_iconst (v := 1) hx hb dX8_place_35 (by decide) ?_
      obtain ⟨r10, M9, q8, hg⟩ := bd2_e hg hne
      refine w_calli (va_runV (As := [.int (1 : Int32)]) (rest := []) CX (ctX8_no l D sw cs ad X H.size M4 (1 : Int32) q8) (cwV 1 hts (gwV m4_232 m4_234 mp3_4 m1_7 m4_235) rfl rfl rfl (by decide +kernel) ⟨Nat.le_trans (Nat.le_of_ble_eq_true rfl) hR.1, Nat.le_trans (Nat.le_of_ble_eq_true rfl) hR.2⟩) (wPreV hSW hS hA hK hP hD (by decide) rfl rfl _) rfl rfl hl.1 rfl (lv_room (Nat.le_of_ble_eq_true rfl)) dX8_place_36 ⟨Nat.le_trans (Nat.le_of_ble_eq_true rfl) hRc.1, Nat.le_trans (Nat.le_of_ble_eq_true rfl) hRc.2⟩) hD hS hA (fun H locs hP hD hS => ?_)
      refine lv_goto (tgt := 43) hx hb dX8_place_39 (by decide) ?_
      refine W.widen (k := 3) (n := 14) (by decide) (by decide) ?_
      exact hret _ _ _ _ _ _ hg dX8_place_43 hP hD hS
  · have hg := if_t hg c2
    refine lv_aload_n hx hb dX8_place_12 rfl (lv_at hl 0 rfl) ?_
    refine lv_iconst (v := 1) hx hb dX8_place_13 (by decide) ?_
    obtain ⟨r13, M12, q11, hg⟩ := bd2_e hg hne
    refine w_calli (va_runV (As := [.int (1 : Int32)]) (rest := []) CX (ctX8_no l D sw cs ad X H.size M1 (1 : Int32) q11) (cwV 1 hts (gwV m4_232 m4_234 mp3_4 m1_7 m4_235) rfl rfl rfl (by decide +kernel) ⟨Nat.le_trans (Nat.le_of_ble_eq_true rfl) hR.1, Nat.le_trans (Nat.le_of_ble_eq_true rfl) hR.2⟩) (wPreV hSW hS hA hK hP hD (by decide) rfl rfl _) rfl rfl hl.1 rfl (lv_room (Nat.le_of_ble_eq_true rfl)) dX8_place_14 ⟨Nat.zero_le _, Nat.zero_le _⟩) hD hS hA (fun H locs hP hD hS => ?_)
    refine W.widen (k := 3) (n := 14) (by decide) (by decide) ?_
    exact hret _ _ _ _ _ _ hg dX8_place_17 hP hD hS
theorem ctX8_place (l : Launch) (D : va_G) (sw : Sw) (cs : Cs) (ad : Nat → Nat) (X : va_W) (sz : Nat) (M : Mm) (a1 : Int32) (a2 : Int32) {r : Int32} {M1 : Mm} (hq : gX8_place M a1 a2 = some (r, M1)) : Met l yX8_place wsX8_place ({ frames := 2, cells := 3, slots := 14, locals := 48 }) (va_Pc [.ref (ad 0), .int a1, .int a2] (wPre D sw cs LM NM ad M X sz)) (wQi D cs LM NM ad M1 X sz r) 3 14 (wA NM ad X sz) :=
  met_w rfl rfl (Nat.le_of_ble_eq_true rfl) (fun p e s m args below meth c ls CX hr hlk hK hSW hP hD hS hA hl => bX8_place M a1 a2 hq (by simp) CX ⟨Nat.le_refl _, Nat.le_refl _⟩ hK hSW hP hD hS hA ⟨Nat.le_refl _, Nat.le_refl _⟩ hl (fun pc ls H locs v M9 hv dg hP hD hS => W.iret CX.1 CX.2.1 hr (fun t ht hW => ⟨⟨_, (), rfl, (Prod.mk.inj (Option.some.inj hv)).1, wpost hP ht (Prod.mk.inj (Option.some.inj hv)).2⟩, hS.F ht⟩) hS.2.2 dg))

abbrev wsX8_variants : List Cond := Cond.code yX8_variants cX8_variants 5 (some .int) :: WG
def gX8_variants_L24 (E13 : Mm → Int32 → Int32 → Int32 → Option (Int32 × Mm)) : Nat → Mm → Int32 → Int32 → Int32 → Int32 → Option (Int32 × Mm)
  | 0, _, _, _, _, _ => none
  | n22 + 1, M17, x18, x19, x20, x21 => if x19 ≤ x21 then (E13 M17 x18 x19 x20) else if x20 = 0 then (E13 M17 x18 x19 x20) else bd (gX8_areSame M17 x21 x19) fun r25 => if r25 = 0 then (lt (x21 + (1 : Int32)) fun x29 => gX8_variants_L24 E13 n22 M17 x18 x19 (1 : Int32) x29) else lt (x21 + (1 : Int32)) fun x28 => gX8_variants_L24 E13 n22 M17 x18 x19 (0 : Int32) x28
def gX8_variants_L13 : Nat → Mm → Int32 → Int32 → Option (Int32 × Mm)
  | 0, _, _, _ => none
  | n7 + 1, M4, x5, x6 => if (16 : Int32) ≤ x6 then (some (x5, M4)) else lt (fun (M9 : Mm) (x10 : Int32) (x11 : Int32) (x12 : Int32) => if x12 = 0 then (lt (x11 + (1 : Int32)) fun x15 => gX8_variants_L13 n7 M9 (x10 + (0 : Int32)) x15) else lt (x11 + (1 : Int32)) fun x16 => gX8_variants_L13 n7 M9 (x10 + (1 : Int32)) x16) fun E13 => gX8_variants_L24 E13 FU M4 x5 x6 (1 : Int32) (0 : Int32)
def gX8_variants (M : Mm) : Option (Int32 × Mm) := lt (um M 0 0 (0 : Int32)) fun M1 => bd (gX8_look M1 ) fun M3 => gX8_variants_L13 FU M3 (0 : Int32) (0 : Int32)
set_option maxHeartbeats 4000000 in
set_option maxRecDepth 100000 in
theorem bX8_variants {p : Program} {l : Launch} {e : Env} {R : Room} {s : State} {m : MethodId} {args : Array Value} {below : List Frame} {meth : Method} {c : Code} {H : Heap} {locs : List Loc} {Q : State → Prop} {D : va_G} {sw : Sw} {cs : Cs} {ad : Nat → Nat} {X : va_W} {A : Nat → Prop} (M : Mm) {res : Option (Int32 × Mm)} (hg : gX8_variants M = res) (hne : res ≠ none) (CX : CallFix p m c cX8_variants 5 s args wsX8_variants RX8) (hR : 3 ≤ R.frames ∧ 70 ≤ R.locals) (hK : va_K D vwCl (tysC cs) s) (hSW : SW sw A s s.heap) (hP : va_P D vwCl (wl cs LM NM ad M ++ X) H) (hD : va_D A (wl cs LM NM ad M ++ X)) (hS : va_S A s.heap H locs) (hA : ∀ q, s.heap.size ≤ q → A q) (hRc : 3 ≤ R.cells ∧ 14 ≤ R.slots) {ls : Array Slot} (hl : lv_has ls 5 [(0, .ref (ad 0))]) (hret : ∀ (pc : Nat) (ls : Array Slot) (H : Heap) (locs : List Loc) (v : Int32) (M9 : Mm), some (v, M9) = res → decode cX8_variants pc = .ok (.ireturn, 1) → va_P D vwCl (wl cs LM NM ad M9 ++ X) H → va_D A (wl cs LM NM ad M9 ++ X) → va_S A s.heap H locs → W p l e R s m args below meth c H locs 3 14 Q (F0 m pc ls [.int v])) : W p l e R s m args below meth c H locs 0 0 Q (F0 m 0 ls []) := by
  obtain ⟨hx, hb, hml, hown, hts⟩ := id CX
  have hw : ∀ w ∈ WG, w.before args s = true := fun w h => hts w (List.mem_cons_of_mem _ h)
  have lk_43 := hw _ m4_116
  unfold gX8_variants at hg
  refine lv_aload_n hx hb dX8_variants_0 rfl (lv_at hl 0 rfl) ?_
  refine lv_iconst (v := 0) hx hb dX8_variants_1 (by decide) ?_
  obtain ⟨M1, hM1, hg⟩ := lt_e hg
  refine m_pi (C := RX8) (T := TX8) (n := 15) (ci := 6) hx hb hts in_RX8 tyX8 tyX8_ok nmX8 hown hK hP hD hS (by decide) rfl rfl 0 (by decide) rfl lk_43 (fun _ h9 => h9) rfl rfl rfl dX8_variants_2 hM1 (fun H locs hP hD hS => ?_)
  refine lv_aload_n hx hb dX8_variants_5 rfl (lv_at hl 0 rfl) ?_
  obtain ⟨M3, q2, hg⟩ := bd_e hg hne
  refine w_callv (va_runV (As := []) (rest := []) CX (ctX8_look l D sw cs ad X H.size M1  q2) (cwV 0 hts (gwV m5_66 m5_68 mp3_11 m1_7 m5_69) rfl rfl rfl (by decide +kernel) ⟨Nat.le_trans (Nat.le_of_ble_eq_true rfl) hR.1, Nat.le_trans (Nat.le_of_ble_eq_true rfl) hR.2⟩) (wPreV hSW hS hA hK hP hD (by decide) rfl rfl _) rfl rfl hl.1 rfl (lv_room (Nat.le_of_ble_eq_true rfl)) dX8_variants_6 ⟨Nat.le_trans (Nat.le_of_ble_eq_true rfl) hRc.1, Nat.le_trans (Nat.le_of_ble_eq_true rfl) hRc.2⟩) hD hS hA (fun H locs hP hD hS => ?_)
  refine lv_iconst (v := 0) hx hb dX8_variants_9 (by decide) ?_
  refine lv_istore_n (lv' := [(1, .int (0 : Int32)), (0, .ref (ad 0))]) hx hb dX8_variants_10 rfl hl (by decide) rfl (fun ls hl => ?_)
  refine lv_iconst (v := 0) hx hb dX8_variants_11 (by decide) ?_
  refine lv_istore_n (lv' := [(2, .int (0 : Int32)), (1, .int (0 : Int32)), (0, .ref (ad 0))]) hx hb dX8_variants_12 rfl hl (by decide) rfl (fun ls hl => ?_)
  have kL13_31 : ∀ (n7 : Nat) (M4 : Mm) (x5 : Int32) (x6 : Int32) (H : Heap) (locs : List Loc) (ls : Array Slot), va_P D vwCl (wl cs LM NM ad M4 ++ X) H → va_D A (wl cs LM NM ad M4 ++ X) → va_S A s.heap H locs → lv_has ls 5 [(0, .ref (ad 0)), (1, .int x5), (2, .int x6)] → gX8_variants_L13 n7 M4 x5 x6 = res → W p l e R s m args below meth c H locs (0 + 3) (0 + 14) Q (F0 m 13 ls []) := by
    intro n7
    induction n7 with
    | zero =>
      intro M4 x5 x6 H locs ls hP hD hS hl hg
      rw [gX8_variants_L13] at hg
      exact absurd hg.symm hne
    | succ n7 ih =>
      intro M4 x5 x6 H locs ls hP hD hS hl hg
      rw [gX8_variants_L13] at hg
      refine lv_iload_n hx hb dX8_variants_13 rfl (lv_at hl 2 rfl) ?_
      refine lv_bipush (v := 16) hx hb dX8_variants_14 (by decide) ?_
      refine lv_icmp_ge (tgt := 74) hx hb dX8_variants_16 (by decide) (fun c8 => ?_) (fun c8 => ?_)
      · have hg := if_t hg c8
        refine lv_iload_n hx hb dX8_variants_74 rfl (lv_at hl 1 rfl) ?_
        refine W.widen (k := 3) (n := 14) (by decide) (by decide) ?_
        exact hret _ _ _ _ _ _ hg dX8_variants_75 hP hD hS
      · have hg := if_f hg c8
        refine lv_iconst (v := 1) hx hb dX8_variants_19 (by decide) ?_
        refine lv_istore_n (lv' := [(3, .int (1 : Int32)), (0, .ref (ad 0)), (1, .int x5), (2, .int x6)]) hx hb dX8_variants_20 rfl hl (by decide) rfl (fun ls hl => ?_)
        refine lv_iconst (v := 0) hx hb dX8_variants_21 (by decide) ?_
        refine lv_istore (lv' := [(4, .int (0 : Int32)), (3, .int (1 : Int32)), (0, .ref (ad 0)), (1, .int x5), (2, .int x6)]) hx hb dX8_variants_22 hl (by decide) rfl (fun ls hl => ?_)
        obtain ⟨E13, hE13, hg⟩ := lf4 hg
        have kE13 : ∀ (M9 : Mm) (x10 : Int32) (x11 : Int32) (x12 : Int32) (H : Heap) (locs : List Loc) (ls : Array Slot), va_P D vwCl (wl cs LM NM ad M9 ++ X) H → va_D A (wl cs LM NM ad M9 ++ X) → va_S A s.heap H locs → lv_has ls 5 [(0, .ref (ad 0)), (1, .int x10), (2, .int x11), (3, .int x12)] → E13 M9 x10 x11 x12 = res → W p l e R s m args below meth c H locs (0 + 3) (0 + 14) Q (F0 m 56 ls []) := by
          intro M9 x10 x11 x12 H locs ls hP hD hS hl hg
          rw [hE13] at hg
          refine lv_iload_n hx hb dX8_variants_56 rfl (lv_at hl 1 rfl) ?_
          refine lv_iload_n hx hb dX8_variants_57 rfl (lv_at hl 3 rfl) ?_
          refine lv_if_eq (tgt := 65) hx hb dX8_variants_58 (by decide) (fun c14 => ?_) (fun c14 => ?_)
          · have hg := if_t hg c14
            refine lv_iconst (v := 0) hx hb dX8_variants_65 (by decide) ?_
            refine lv_iadd hx hb dX8_variants_66 ?_
            refine lv_istore_n (lv' := [(1, .int (x10 + (0 : Int32))), (0, .ref (ad 0)), (2, .int x11), (3, .int x12)]) hx hb dX8_variants_67 rfl hl (by decide) rfl (fun ls hl => ?_)
            obtain ⟨x15, hx15, hg⟩ := lt_e hg
            refine lv_iinc (v := x15) (lv' := [(2, .int x15), (1, .int (x10 + (0 : Int32))), (0, .ref (ad 0)), (3, .int x12)]) hx hb dX8_variants_68 hl (k := 2) rfl (hx15.symm) (by decide) rfl (fun ls hl => ?_)
            refine lv_goto (tgt := 13) hx hb dX8_variants_71 (by decide) ?_
            exact ih _ _ _ _ _ _ hP hD hS (lv_sub hl [2, 1, 0] rfl) hg
          · have hg := if_f hg c14
            refine lv_iconst (v := 1) hx hb dX8_variants_61 (by decide) ?_
            refine lv_goto (tgt := 66) hx hb dX8_variants_62 (by decide) ?_
            refine lv_iadd hx hb dX8_variants_66 ?_
            refine lv_istore_n (lv' := [(1, .int (x10 + (1 : Int32))), (0, .ref (ad 0)), (2, .int x11), (3, .int x12)]) hx hb dX8_variants_67 rfl hl (by decide) rfl (fun ls hl => ?_)
            obtain ⟨x16, hx16, hg⟩ := lt_e hg
            refine lv_iinc (v := x16) (lv' := [(2, .int x16), (1, .int (x10 + (1 : Int32))), (0, .ref (ad 0)), (3, .int x12)]) hx hb dX8_variants_68 hl (k := 2) rfl (hx16.symm) (by decide) rfl (fun ls hl => ?_)
            refine lv_goto (tgt := 13) hx hb dX8_variants_71 (by decide) ?_
            exact ih _ _ _ _ _ _ hP hD hS (lv_sub hl [2, 1, 0] rfl) hg
        have kL24_30 : ∀ (n22 : Nat) (M17 : Mm) (x18 : Int32) (x19 : Int32) (x20 : Int32) (x21 : Int32) (H : Heap) (locs : List Loc) (ls : Array Slot), va_P D vwCl (wl cs LM NM ad M17 ++ X) H → va_D A (wl cs LM NM ad M17 ++ X) → va_S A s.heap H locs → lv_has ls 5 [(0, .ref (ad 0)), (1, .int x18), (2, .int x19), (3, .int x20), (4, .int x21)] → gX8_variants_L24 E13 n22 M17 x18 x19 x20 x21 = res → W p l e R s m args below meth c H locs (0 + 3) (0 + 14) Q (F0 m 24 ls []) := by
          intro n22
          induction n22 with
          | zero =>
            intro M17 x18 x19 x20 x21 H locs ls hP hD hS hl hg
            rw [gX8_variants_L24] at hg
            exact absurd hg.symm hne
          | succ n22 ih =>
            intro M17 x18 x19 x20 x21 H locs ls hP hD hS hl hg
            rw [gX8_variants_L24] at hg
            refine lv_iload hx hb dX8_variants_24 (lv_at hl 4 rfl) ?_
            refine lv_iload_n hx hb dX8_variants_26 rfl (lv_at hl 2 rfl) ?_
            refine lv_icmp_ge (tgt := 56) hx hb dX8_variants_27 (by decide) (fun c23 => ?_) (fun c23 => ?_)
            · have hg := if_t hg c23
              exact kE13 _ _ _ _ _ _ _ hP hD hS (lv_sub hl [0, 1, 2, 3] rfl) hg
            · have hg := if_f hg c23
              refine lv_iload_n hx hb dX8_variants_30 rfl (lv_at hl 3 rfl) ?_
              refine lv_if_eq (tgt := 56) hx hb dX8_variants_31 (by decide) (fun c24 => ?_) (fun c24 => ?_)
              · have hg := if_t hg c24
                exact kE13 _ _ _ _ _ _ _ hP hD hS (lv_sub hl [0, 1, 2, 3] rfl) hg
              · have hg := if_f hg c24
                refine lv_aload_n hx hb dX8_variants_34 rfl (lv_at hl 0 rfl) ?_
                refine lv_iload hx hb dX8_variants_35 (lv_at hl 4 rfl) ?_
                refine lv_iload_n hx hb dX8_variants_37 rfl (lv_at hl 2 rfl) ?_
                obtain ⟨r25, q26, hg⟩ := bd_e hg hne
                refine r_calli (W.runV (As := [.int x21, .int x19]) (rest := []) CX (ctX8_areSame l D sw cs ad X M17 x21 x19 q26) (cwV 2 hts (gwV m5_109 m5_111 mp3_14 m1_7 m5_112) rfl rfl rfl (by decide +kernel) ⟨Nat.le_trans (Nat.le_of_ble_eq_true rfl) hR.1, Nat.le_trans (Nat.le_of_ble_eq_true rfl) hR.2⟩) (rPreV (hSW.wr hS) hK hP (by decide) rfl rfl _) rfl rfl hl.1 rfl (lv_room (Nat.le_of_ble_eq_true rfl)) dX8_variants_38 ⟨Nat.le_trans (Nat.le_of_ble_eq_true rfl) hRc.1, Nat.le_trans (Nat.le_of_ble_eq_true rfl) hRc.2⟩) ?_
                refine lv_if_ne (tgt := 48) hx hb dX8_variants_41 (by decide) (fun c27 => ?_) (fun c27 => ?_)
                · have hg := if_f hg c27
                  refine lv_iconst (v := 0) hx hb dX8_variants_48 (by decide) ?_
                  refine lv_istore_n (lv' := [(3, .int (0 : Int32)), (0, .ref (ad 0)), (1, .int x18), (2, .int x19), (4, .int x21)]) hx hb dX8_variants_49 rfl hl (by decide) rfl (fun ls hl => ?_)
                  obtain ⟨x28, hx28, hg⟩ := lt_e hg
                  refine lv_iinc (v := x28) (lv' := [(4, .int x28), (3, .int (0 : Int32)), (0, .ref (ad 0)), (1, .int x18), (2, .int x19)]) hx hb dX8_variants_50 hl (k := 4) rfl (hx28.symm) (by decide) rfl (fun ls hl => ?_)
                  refine lv_goto (tgt := 24) hx hb dX8_variants_53 (by decide) ?_
                  exact ih _ _ _ _ _ _ _ _ hP hD hS (lv_sub hl [2, 3, 4, 1, 0] rfl) hg
                · have hg := if_t hg c27
                  refine lv_iconst (v := 1) hx hb dX8_variants_44 (by decide) ?_
                  refine lv_goto (tgt := 49) hx hb dX8_variants_45 (by decide) ?_
                  refine lv_istore_n (lv' := [(3, .int (1 : Int32)), (0, .ref (ad 0)), (1, .int x18), (2, .int x19), (4, .int x21)]) hx hb dX8_variants_49 rfl hl (by decide) rfl (fun ls hl => ?_)
                  obtain ⟨x29, hx29, hg⟩ := lt_e hg
                  refine lv_iinc (v := x29) (lv' := [(4, .int x29), (3, .int (1 : Int32)), (0, .ref (ad 0)), (1, .int x18), (2, .int x19)]) hx hb dX8_variants_50 hl (k := 4) rfl (hx29.symm) (by decide) rfl (fun ls hl => ?_)
                  refine lv_goto (tgt := 24) hx hb dX8_variants_53 (by decide) ?_
                  exact ih _ _ _ _ _ _ _ _ hP hD hS (lv_sub hl [2, 3, 4, 1, 0] rfl) hg
        exact kL24_30 FU _ _ _ _ _ _ _ _ hP hD hS (lv_sub hl [2, 3, 4, 1, 0] rfl) hg
  exact kL13_31 FU _ _ _ _ _ _ hP hD hS (lv_sub hl [2, 1, 0] rfl) hg
theorem ctX8_variants (l : Launch) (D : va_G) (sw : Sw) (cs : Cs) (ad : Nat → Nat) (X : va_W) (sz : Nat) (M : Mm) {r : Int32} {M1 : Mm} (hq : gX8_variants M = some (r, M1)) : Met l yX8_variants wsX8_variants ({ frames := 3, cells := 3, slots := 14, locals := 70 }) (va_Pc [.ref (ad 0)] (wPre D sw cs LM NM ad M X sz)) (wQi D cs LM NM ad M1 X sz r) 3 14 (wA NM ad X sz) :=
  met_w rfl rfl (Nat.le_of_ble_eq_true rfl) (fun p e s m args below meth c ls CX hr hlk hK hSW hP hD hS hA hl => bX8_variants M hq (by simp) CX ⟨Nat.le_refl _, Nat.le_refl _⟩ hK hSW hP hD hS hA ⟨Nat.le_refl _, Nat.le_refl _⟩ hl (fun pc ls H locs v M9 hv dg hP hD hS => W.iret CX.1 CX.2.1 hr (fun t ht hW => ⟨⟨_, (), rfl, (Prod.mk.inj (Option.some.inj hv)).1, wpost hP ht (Prod.mk.inj (Option.some.inj hv)).2⟩, hS.F ht⟩) hS.2.2 dg))

abbrev wsX8_error : List Cond := Cond.code yX8_error cX8_error 2 (some .int) :: WG
def gX8_error (M : Mm) (a1 : Int32) : Option (Int32 × Mm) := lt (um M 0 0 (0 : Int32)) fun M1 => if (gX8_isConfiguration a1) = 0 then (bd2 (gX8_no M1 (1 : Int32)) fun r14 M13 => some (r14, M13)) else bd (gX8_isWhole M1 ) fun r3 => if r3 = 0 then (bd2 (gX8_no M1 (2 : Int32)) fun r11 M10 => some (r11, M10)) else bd (gX8_read M1 ) fun M7 => if (a1 < 0 ∨ 16 ≤ (a1).toNatClampNeg) then none else some ((M7 6 (a1).toNatClampNeg), M7)
set_option maxHeartbeats 4000000 in
set_option maxRecDepth 100000 in
theorem bX8_error {p : Program} {l : Launch} {e : Env} {R : Room} {s : State} {m : MethodId} {args : Array Value} {below : List Frame} {meth : Method} {c : Code} {H : Heap} {locs : List Loc} {Q : State → Prop} {D : va_G} {sw : Sw} {cs : Cs} {ad : Nat → Nat} {X : va_W} {A : Nat → Prop} (M : Mm) (a1 : Int32) {res : Option (Int32 × Mm)} (hg : gX8_error M a1 = res) (hne : res ≠ none) (CX : CallFix p m c cX8_error 2 s args wsX8_error RX8) (hR : 6 ≤ R.frames ∧ 131 ≤ R.locals) (hK : va_K D vwCl (tysC cs) s) (hSW : SW sw A s s.heap) (hP : va_P D vwCl (wl cs LM NM ad M ++ X) H) (hD : va_D A (wl cs LM NM ad M ++ X)) (hS : va_S A s.heap H locs) (hA : ∀ q, s.heap.size ≤ q → A q) (hRc : 3 ≤ R.cells ∧ 14 ≤ R.slots) {ls : Array Slot} (hl : lv_has ls 2 [(0, .ref (ad 0)), (1, .int a1)]) (hret : ∀ (pc : Nat) (ls : Array Slot) (H : Heap) (locs : List Loc) (v : Int32) (M9 : Mm), some (v, M9) = res → decode cX8_error pc = .ok (.ireturn, 1) → va_P D vwCl (wl cs LM NM ad M9 ++ X) H → va_D A (wl cs LM NM ad M9 ++ X) → va_S A s.heap H locs → W p l e R s m args below meth c H locs 3 14 Q (F0 m pc ls [.int v])) : W p l e R s m args below meth c H locs 0 0 Q (F0 m 0 ls []) := by
  obtain ⟨hx, hb, hml, hown, hts⟩ := id CX
  have hw : ∀ w ∈ WG, w.before args s = true := fun w h => hts w (List.mem_cons_of_mem _ h)
  have lk_43 := hw _ m4_116
  have lk_25 := hw _ m4_123
  unfold gX8_error at hg
  refine lv_aload_n hx hb dX8_error_0 rfl (lv_at hl 0 rfl) ?_
  refine lv_iconst (v := 0) hx hb dX8_error_1 (by decide) ?_
  obtain ⟨M1, hM1, hg⟩ := lt_e hg
  refine m_pi (C := RX8) (T := TX8) (n := 15) (ci := 6) hx hb hts in_RX8 tyX8 tyX8_ok nmX8 hown hK hP hD hS (by decide) rfl rfl 0 (by decide) rfl lk_43 (fun _ h9 => h9) rfl rfl rfl dX8_error_2 hM1 (fun H locs hP hD hS => ?_)
  refine lv_iload_n hx hb dX8_error_5 rfl (lv_at hl 1 rfl) ?_
  refine r_calli (W.runS (As := [.int a1]) (rest := []) CX (ctX8_isConfiguration l a1) (va_cwS 1 hts (gwS m5_90 m5_91 m1_7 m5_92) rfl rfl rfl (by decide +kernel) ⟨Nat.le_trans (Nat.le_of_ble_eq_true rfl) hR.1, Nat.le_trans (Nat.le_of_ble_eq_true rfl) hR.2⟩) (pPreS _) rfl rfl hl.1 rfl (lv_room (Nat.le_of_ble_eq_true rfl)) dX8_error_6 ⟨Nat.zero_le _, Nat.zero_le _⟩) ?_
  refine lv_if_ne (tgt := 18) hx hb dX8_error_9 (by decide) (fun c2 => ?_) (fun c2 => ?_)
  · have hg := if_f hg c2
    refine lv_aload_n hx hb dX8_error_18 rfl (lv_at hl 0 rfl) ?_
    obtain ⟨r3, q4, hg⟩ := bd_e hg hne
    refine r_calli (W.runV (As := []) (rest := []) CX (ctX8_isWhole l D sw cs ad X M1  q4) (cwV 0 hts (gwV m5_117 m5_119 mp3_15 m1_7 m5_120) rfl rfl rfl (by decide +kernel) ⟨Nat.le_trans (Nat.le_of_ble_eq_true rfl) hR.1, Nat.le_trans (Nat.le_of_ble_eq_true rfl) hR.2⟩) (rPreV (hSW.wr hS) hK hP (by decide) rfl rfl _) rfl rfl hl.1 rfl (lv_room (Nat.le_of_ble_eq_true rfl)) dX8_error_19 ⟨Nat.zero_le _, Nat.zero_le _⟩) ?_
    refine lv_if_ne (tgt := 31) hx hb dX8_error_22 (by decide) (fun c5 => ?_) (fun c5 => ?_)
    · have hg := if_f hg c5
      refine lv_aload_n hx hb dX8_error_31 rfl (lv_at hl 0 rfl) ?_
      obtain ⟨M7, q6, hg⟩ := bd_e hg hne
      refine w_callv (va_runV (As := []) (rest := []) CX (ctX8_read l D sw cs ad X H.size M1  q6) (cwV 0 hts (gwV m5_121 m5_123 mp4_0 m1_7 m5_124) rfl rfl rfl (by decide +kernel) ⟨Nat.le_trans (Nat.le_of_ble_eq_true rfl) hR.1, Nat.le_trans (Nat.le_of_ble_eq_true rfl) hR.2⟩) (wPreV hSW hS hA hK hP hD (by decide) rfl rfl _) rfl rfl hl.1 rfl (lv_room (Nat.le_of_ble_eq_true rfl)) dX8_error_32 ⟨Nat.le_trans (Nat.le_of_ble_eq_true rfl) hRc.1, Nat.le_trans (Nat.le_of_ble_eq_true rfl) hRc.2⟩) hD hS hA (fun H locs hP hD hS => ?_)
      refine lv_aload_n hx hb dX8_error_35 rfl (lv_at hl 0 rfl) ?_
      refine m_gr (C := RX8) (T := TX8) (n := 15) (ci := 6) hx hb hts in_RX8 hown hK hP (by decide) rfl rfl 7 (by decide) rfl lk_25 (fun _ h9 => h9) dX8_error_36 ?_
      refine lv_iload_n hx hb dX8_error_39 rfl (lv_at hl 1 rfl) ?_
      obtain ⟨b8, hg⟩ := ck_e hg hne
      refine m_ld hx hb hK hP (by decide) rfl b8 dX8_error_40 ?_
      refine W.widen (k := 3) (n := 14) (by decide) (by decide) ?_
      exact hret _ _ _ _ _ _ hg dX8_error_41 hP hD hS
    · have hg := if_t hg c5
      refine lv_aload_n hx hb dX8_error_25 rfl (lv_at hl 0 rfl) ?_
      refine lv_iconst (v := 2) hx hb dX8_error_26 (by decide) ?_
      obtain ⟨r11, M10, q9, hg⟩ := bd2_e hg hne
      refine w_calli (va_runV (As := [.int (2 : Int32)]) (rest := []) CX (ctX8_no l D sw cs ad X H.size M1 (2 : Int32) q9) (cwV 1 hts (gwV m4_232 m4_234 mp3_4 m1_7 m4_235) rfl rfl rfl (by decide +kernel) ⟨Nat.le_trans (Nat.le_of_ble_eq_true rfl) hR.1, Nat.le_trans (Nat.le_of_ble_eq_true rfl) hR.2⟩) (wPreV hSW hS hA hK hP hD (by decide) rfl rfl _) rfl rfl hl.1 rfl (lv_room (Nat.le_of_ble_eq_true rfl)) dX8_error_27 ⟨Nat.zero_le _, Nat.zero_le _⟩) hD hS hA (fun H locs hP hD hS => ?_)
      refine W.widen (k := 3) (n := 14) (by decide) (by decide) ?_
      exact hret _ _ _ _ _ _ hg dX8_error_30 hP hD hS
  · have hg := if_t hg c2
    refine lv_aload_n hx hb dX8_error_12 rfl (lv_at hl 0 rfl) ?_
    refine lv_iconst (v := 1) hx hb dX8_error_13 (by decide) ?_
    obtain ⟨r14, M13, q12, hg⟩ := bd2_e hg hne
    refine w_calli (va_runV (As := [.int (1 : Int32)]) (rest := []) CX (ctX8_no l D sw cs ad X H.size M1 (1 : Int32) q12) (cwV 1 hts (gwV m4_232 m4_234 mp3_4 m1_7 m4_235) rfl rfl rfl (by decide +kernel) ⟨Nat.le_trans (Nat.le_of_ble_eq_true rfl) hR.1, Nat.le_trans (Nat.le_of_ble_eq_true rfl) hR.2⟩) (wPreV hSW hS hA hK hP hD (by decide) rfl rfl _) rfl rfl hl.1 rfl (lv_room (Nat.le_of_ble_eq_true rfl)) dX8_error_14 ⟨Nat.zero_le _, Nat.zero_le _⟩) hD hS hA (fun H locs hP hD hS => ?_)
    refine W.widen (k := 3) (n := 14) (by decide) (by decide) ?_
    exact hret _ _ _ _ _ _ hg dX8_error_17 hP hD hS
theorem ctX8_error (l : Launch) (D : va_G) (sw : Sw) (cs : Cs) (ad : Nat → Nat) (X : va_W) (sz : Nat) (M : Mm) (a1 : Int32) {r : Int32} {M1 : Mm} (hq : gX8_error M a1 = some (r, M1)) : Met l yX8_error wsX8_error ({ frames := 6, cells := 3, slots := 14, locals := 131 }) (va_Pc [.ref (ad 0), .int a1] (wPre D sw cs LM NM ad M X sz)) (wQi D cs LM NM ad M1 X sz r) 3 14 (wA NM ad X sz) :=
  met_w rfl rfl (Nat.le_of_ble_eq_true rfl) (fun p e s m args below meth c ls CX hr hlk hK hSW hP hD hS hA hl => bX8_error M a1 hq (by simp) CX ⟨Nat.le_refl _, Nat.le_refl _⟩ hK hSW hP hD hS hA ⟨Nat.le_refl _, Nat.le_refl _⟩ hl (fun pc ls H locs v M9 hv dg hP hD hS => W.iret CX.1 CX.2.1 hr (fun t ht hW => ⟨⟨_, (), rfl, (Prod.mk.inj (Option.some.inj hv)).1, wpost hP ht (Prod.mk.inj (Option.some.inj hv)).2⟩, hS.F ht⟩) hS.2.2 dg))

abbrev wsX8_wrong : List Cond := Cond.code yX8_wrong cX8_wrong 3 (some .int) :: WG
def gX8_wrong_L26 : Nat → Mm → Int32 → Int32 → Option (Int32 × Mm)
  | 0, _, _, _ => none
  | n10 + 1, M7, x8, x9 => if (16 : Int32) ≤ x9 then (some (x8, M7)) else if (x9 < 0 ∨ 16 ≤ (x9).toNatClampNeg) then none else if (M7 6 (x9).toNatClampNeg) = (-1 : Int32) then (lt (x9 + (1 : Int32)) fun x14 => gX8_wrong_L26 n10 M7 x8 x14) else lt (x8 ||| ((1 : Int32) <<< (x9 &&& 31))) fun x15 => lt (x9 + (1 : Int32)) fun x16 => gX8_wrong_L26 n10 M7 x15 x16
def gX8_wrong (M : Mm) : Option (Int32 × Mm) := lt (um M 0 0 (0 : Int32)) fun M1 => bd (gX8_isWhole M1 ) fun r2 => if r2 = 0 then (bd2 (gX8_no M1 (1 : Int32)) fun r20 M19 => some (r20, M19)) else bd (gX8_read M1 ) fun M6 => gX8_wrong_L26 FU M6 (0 : Int32) (0 : Int32)
set_option maxHeartbeats 4000000 in
set_option maxRecDepth 100000 in
theorem bX8_wrong {p : Program} {l : Launch} {e : Env} {R : Room} {s : State} {m : MethodId} {args : Array Value} {below : List Frame} {meth : Method} {c : Code} {H : Heap} {locs : List Loc} {Q : State → Prop} {D : va_G} {sw : Sw} {cs : Cs} {ad : Nat → Nat} {X : va_W} {A : Nat → Prop} (M : Mm) {res : Option (Int32 × Mm)} (hg : gX8_wrong M = res) (hne : res ≠ none) (CX : CallFix p m c cX8_wrong 3 s args wsX8_wrong RX8) (hR : 6 ≤ R.frames ∧ 131 ≤ R.locals) (hK : va_K D vwCl (tysC cs) s) (hSW : SW sw A s s.heap) (hP : va_P D vwCl (wl cs LM NM ad M ++ X) H) (hD : va_D A (wl cs LM NM ad M ++ X)) (hS : va_S A s.heap H locs) (hA : ∀ q, s.heap.size ≤ q → A q) (hRc : 3 ≤ R.cells ∧ 14 ≤ R.slots) {ls : Array Slot} (hl : lv_has ls 3 [(0, .ref (ad 0))]) (hret : ∀ (pc : Nat) (ls : Array Slot) (H : Heap) (locs : List Loc) (v : Int32) (M9 : Mm), some (v, M9) = res → decode cX8_wrong pc = .ok (.ireturn, 1) → va_P D vwCl (wl cs LM NM ad M9 ++ X) H → va_D A (wl cs LM NM ad M9 ++ X) → va_S A s.heap H locs → W p l e R s m args below meth c H locs 3 14 Q (F0 m pc ls [.int v])) : W p l e R s m args below meth c H locs 0 0 Q (F0 m 0 ls []) := by
  obtain ⟨hx, hb, hml, hown, hts⟩ := id CX
  have hw : ∀ w ∈ WG, w.before args s = true := fun w h => hts w (List.mem_cons_of_mem _ h)
  have lk_43 := hw _ m4_116
  have lk_25 := hw _ m4_123
  unfold gX8_wrong at hg
  refine lv_aload_n hx hb dX8_wrong_0 rfl (lv_at hl 0 rfl) ?_
  refine lv_iconst (v := 0) hx hb dX8_wrong_1 (by decide) ?_
  obtain ⟨M1, hM1, hg⟩ := lt_e hg
  refine m_pi (C := RX8) (T := TX8) (n := 15) (ci := 6) hx hb hts in_RX8 tyX8 tyX8_ok nmX8 hown hK hP hD hS (by decide) rfl rfl 0 (by decide) rfl lk_43 (fun _ h9 => h9) rfl rfl rfl dX8_wrong_2 hM1 (fun H locs hP hD hS => ?_)
  refine lv_aload_n hx hb dX8_wrong_5 rfl (lv_at hl 0 rfl) ?_
  obtain ⟨r2, q3, hg⟩ := bd_e hg hne
  refine r_calli (W.runV (As := []) (rest := []) CX (ctX8_isWhole l D sw cs ad X M1  q3) (cwV 0 hts (gwV m5_117 m5_119 mp3_15 m1_7 m5_120) rfl rfl rfl (by decide +kernel) ⟨Nat.le_trans (Nat.le_of_ble_eq_true rfl) hR.1, Nat.le_trans (Nat.le_of_ble_eq_true rfl) hR.2⟩) (rPreV (hSW.wr hS) hK hP (by decide) rfl rfl _) rfl rfl hl.1 rfl (lv_room (Nat.le_of_ble_eq_true rfl)) dX8_wrong_6 ⟨Nat.zero_le _, Nat.zero_le _⟩) ?_
  refine lv_if_ne (tgt := 18) hx hb dX8_wrong_9 (by decide) (fun c4 => ?_) (fun c4 => ?_)
  · have hg := if_f hg c4
    refine lv_aload_n hx hb dX8_wrong_18 rfl (lv_at hl 0 rfl) ?_
    obtain ⟨M6, q5, hg⟩ := bd_e hg hne
    refine w_callv (va_runV (As := []) (rest := []) CX (ctX8_read l D sw cs ad X H.size M1  q5) (cwV 0 hts (gwV m5_121 m5_123 mp4_0 m1_7 m5_124) rfl rfl rfl (by decide +kernel) ⟨Nat.le_trans (Nat.le_of_ble_eq_true rfl) hR.1, Nat.le_trans (Nat.le_of_ble_eq_true rfl) hR.2⟩) (wPreV hSW hS hA hK hP hD (by decide) rfl rfl _) rfl rfl hl.1 rfl (lv_room (Nat.le_of_ble_eq_true rfl)) dX8_wrong_19 ⟨Nat.le_trans (Nat.le_of_ble_eq_true rfl) hRc.1, Nat.le_trans (Nat.le_of_ble_eq_true rfl) hRc.2⟩) hD hS hA (fun H locs hP hD hS => ?_)
    refine lv_iconst (v := 0) hx hb dX8_wrong_22 (by decide) ?_
    refine lv_istore_n (lv' := [(1, .int (0 : Int32)), (0, .ref (ad 0))]) hx hb dX8_wrong_23 rfl hl (by decide) rfl (fun ls hl => ?_)
    refine lv_iconst (v := 0) hx hb dX8_wrong_24 (by decide) ?_
    refine lv_istore_n (lv' := [(2, .int (0 : Int32)), (1, .int (0 : Int32)), (0, .ref (ad 0))]) hx hb dX8_wrong_25 rfl hl (by decide) rfl (fun ls hl => ?_)
    have kL26_17 : ∀ (n10 : Nat) (M7 : Mm) (x8 : Int32) (x9 : Int32) (H : Heap) (locs : List Loc) (ls : Array Slot), va_P D vwCl (wl cs LM NM ad M7 ++ X) H → va_D A (wl cs LM NM ad M7 ++ X) → va_S A s.heap H locs → lv_has ls 3 [(0, .ref (ad 0)), (1, .int x8), (2, .int x9)] → gX8_wrong_L26 n10 M7 x8 x9 = res → W p l e R s m args below meth c H locs (0 + 3) (0 + 14) Q (F0 m 26 ls []) := by
      intro n10
      induction n10 with
      | zero =>
        intro M7 x8 x9 H locs ls hP hD hS hl hg
        rw [gX8_wrong_L26] at hg
        exact absurd hg.symm hne
      | succ n10 ih =>
        intro M7 x8 x9 H locs ls hP hD hS hl hg
        rw [gX8_wrong_L26] at hg
        refine lv_iload_n hx hb dX8_wrong_26 rfl (lv_at hl 2 rfl) ?_
        refine lv_bipush (v := 16) hx hb dX8_wrong_27 (by decide) ?_
        refine lv_icmp_ge (tgt := 54) hx hb dX8_wrong_29 (by decide) (fun c11 => ?_) (fun c11 => ?_)
        · have hg := if_t hg c11
          refine lv_iload_n hx hb dX8_wrong_54 rfl (lv_at hl 1 rfl) ?_
          refine W.widen (k := 3) (n := 14) (by decide) (by decide) ?_
          exact hret _ _ _ _ _ _ hg dX8_wrong_55 hP hD hS
        · have hg := if_f hg c11
          refine lv_aload_n hx hb dX8_wrong_32 rfl (lv_at hl 0 rfl) ?_
          refine m_gr (C := RX8) (T := TX8) (n := 15) (ci := 6) hx hb hts in_RX8 hown hK hP (by decide) rfl rfl 7 (by decide) rfl lk_25 (fun _ h9 => h9) dX8_wrong_33 ?_
          refine lv_iload_n hx hb dX8_wrong_36 rfl (lv_at hl 2 rfl) ?_
          obtain ⟨b12, hg⟩ := ck_e hg hne
          refine m_ld hx hb hK hP (by decide) rfl b12 dX8_wrong_37 ?_
          refine lv_iconst (v := -1) hx hb dX8_wrong_38 (by decide) ?_
          refine lv_icmp_eq (tgt := 48) hx hb dX8_wrong_39 (by decide) (fun c13 => ?_) (fun c13 => ?_)
          · have hg := if_t hg c13
            obtain ⟨x14, hx14, hg⟩ := lt_e hg
            refine lv_iinc (v := x14) (lv' := [(2, .int x14), (0, .ref (ad 0)), (1, .int x8)]) hx hb dX8_wrong_48 hl (k := 2) rfl (hx14.symm) (by decide) rfl (fun ls hl => ?_)
            refine lv_goto (tgt := 26) hx hb dX8_wrong_51 (by decide) ?_
            exact ih _ _ _ _ _ _ hP hD hS (lv_sub hl [1, 2, 0] rfl) hg
          · have hg := if_f hg c13
            refine lv_iload_n hx hb dX8_wrong_42 rfl (lv_at hl 1 rfl) ?_
            refine lv_iconst (v := 1) hx hb dX8_wrong_43 (by decide) ?_
            refine lv_iload_n hx hb dX8_wrong_44 rfl (lv_at hl 2 rfl) ?_
            refine lv_ishl hx hb dX8_wrong_45 ?_
            refine lv_ior hx hb dX8_wrong_46 ?_
            obtain ⟨x15, hx15, hg⟩ := lt_e hg
            refine top_i hx15 ?_
            refine lv_istore_n (lv' := [(1, .int x15), (0, .ref (ad 0)), (2, .int x9)]) hx hb dX8_wrong_47 rfl hl (by decide) rfl (fun ls hl => ?_)
            obtain ⟨x16, hx16, hg⟩ := lt_e hg
            refine lv_iinc (v := x16) (lv' := [(2, .int x16), (1, .int x15), (0, .ref (ad 0))]) hx hb dX8_wrong_48 hl (k := 2) rfl (hx16.symm) (by decide) rfl (fun ls hl => ?_)
            refine lv_goto (tgt := 26) hx hb dX8_wrong_51 (by decide) ?_
            exact ih _ _ _ _ _ _ hP hD hS (lv_sub hl [2, 1, 0] rfl) hg
    exact kL26_17 FU _ _ _ _ _ _ hP hD hS (lv_sub hl [2, 1, 0] rfl) hg
  · have hg := if_t hg c4
    refine lv_aload_n hx hb dX8_wrong_12 rfl (lv_at hl 0 rfl) ?_
    refine lv_iconst (v := 1) hx hb dX8_wrong_13 (by decide) ?_
    obtain ⟨r20, M19, q18, hg⟩ := bd2_e hg hne
    refine w_calli (va_runV (As := [.int (1 : Int32)]) (rest := []) CX (ctX8_no l D sw cs ad X H.size M1 (1 : Int32) q18) (cwV 1 hts (gwV m4_232 m4_234 mp3_4 m1_7 m4_235) rfl rfl rfl (by decide +kernel) ⟨Nat.le_trans (Nat.le_of_ble_eq_true rfl) hR.1, Nat.le_trans (Nat.le_of_ble_eq_true rfl) hR.2⟩) (wPreV hSW hS hA hK hP hD (by decide) rfl rfl _) rfl rfl hl.1 rfl (lv_room (Nat.le_of_ble_eq_true rfl)) dX8_wrong_14 ⟨Nat.zero_le _, Nat.zero_le _⟩) hD hS hA (fun H locs hP hD hS => ?_)
    refine W.widen (k := 3) (n := 14) (by decide) (by decide) ?_
    exact hret _ _ _ _ _ _ hg dX8_wrong_17 hP hD hS
theorem ctX8_wrong (l : Launch) (D : va_G) (sw : Sw) (cs : Cs) (ad : Nat → Nat) (X : va_W) (sz : Nat) (M : Mm) {r : Int32} {M1 : Mm} (hq : gX8_wrong M = some (r, M1)) : Met l yX8_wrong wsX8_wrong ({ frames := 6, cells := 3, slots := 14, locals := 131 }) (va_Pc [.ref (ad 0)] (wPre D sw cs LM NM ad M X sz)) (wQi D cs LM NM ad M1 X sz r) 3 14 (wA NM ad X sz) :=
  met_w rfl rfl (Nat.le_of_ble_eq_true rfl) (fun p e s m args below meth c ls CX hr hlk hK hSW hP hD hS hA hl => bX8_wrong M hq (by simp) CX ⟨Nat.le_refl _, Nat.le_refl _⟩ hK hSW hP hD hS hA ⟨Nat.le_refl _, Nat.le_refl _⟩ hl (fun pc ls H locs v M9 hv dg hP hD hS => W.iret CX.1 CX.2.1 hr (fun t ht hW => ⟨⟨_, (), rfl, (Prod.mk.inj (Option.some.inj hv)).1, wpost hP ht (Prod.mk.inj (Option.some.inj hv)).2⟩, hS.F ht⟩) hS.2.2 dg))

abbrev wsX8_firstError : List Cond := Cond.code yX8_firstError cX8_firstError 3 (some .int) :: WG
def gX8_firstError_L26 : Nat → Mm → Int32 → Int32 → Option (Int32 × Mm)
  | 0, _, _, _ => none
  | n10 + 1, M7, x8, x9 => if (16 : Int32) ≤ x9 then (some (x8, M7)) else if (x9 < 0 ∨ 16 ≤ (x9).toNatClampNeg) then none else if (M7 6 (x9).toNatClampNeg) = (-1 : Int32) then (lt (x9 + (1 : Int32)) fun x14 => gX8_firstError_L26 n10 M7 x8 x14) else if x8 = (-1 : Int32) then (if (x9 < 0 ∨ 16 ≤ (x9).toNatClampNeg) then none else lt (M7 6 (x9).toNatClampNeg) fun x17 => lt (x9 + (1 : Int32)) fun x18 => gX8_firstError_L26 n10 M7 x17 x18) else if (x9 < 0 ∨ 16 ≤ (x9).toNatClampNeg) then none else if x8 ≤ (M7 6 (x9).toNatClampNeg) then (lt (x9 + (1 : Int32)) fun x21 => gX8_firstError_L26 n10 M7 x8 x21) else if (x9 < 0 ∨ 16 ≤ (x9).toNatClampNeg) then none else lt (M7 6 (x9).toNatClampNeg) fun x23 => lt (x9 + (1 : Int32)) fun x24 => gX8_firstError_L26 n10 M7 x23 x24
def gX8_firstError (M : Mm) : Option (Int32 × Mm) := lt (um M 0 0 (0 : Int32)) fun M1 => bd (gX8_isWhole M1 ) fun r2 => if r2 = 0 then (bd2 (gX8_no M1 (1 : Int32)) fun r28 M27 => some (r28, M27)) else bd (gX8_read M1 ) fun M6 => gX8_firstError_L26 FU M6 (-1 : Int32) (0 : Int32)
set_option maxHeartbeats 4000000 in
set_option maxRecDepth 100000 in
theorem bX8_firstError {p : Program} {l : Launch} {e : Env} {R : Room} {s : State} {m : MethodId} {args : Array Value} {below : List Frame} {meth : Method} {c : Code} {H : Heap} {locs : List Loc} {Q : State → Prop} {D : va_G} {sw : Sw} {cs : Cs} {ad : Nat → Nat} {X : va_W} {A : Nat → Prop} (M : Mm) {res : Option (Int32 × Mm)} (hg : gX8_firstError M = res) (hne : res ≠ none) (CX : CallFix p m c cX8_firstError 3 s args wsX8_firstError RX8) (hR : 6 ≤ R.frames ∧ 131 ≤ R.locals) (hK : va_K D vwCl (tysC cs) s) (hSW : SW sw A s s.heap) (hP : va_P D vwCl (wl cs LM NM ad M ++ X) H) (hD : va_D A (wl cs LM NM ad M ++ X)) (hS : va_S A s.heap H locs) (hA : ∀ q, s.heap.size ≤ q → A q) (hRc : 3 ≤ R.cells ∧ 14 ≤ R.slots) {ls : Array Slot} (hl : lv_has ls 3 [(0, .ref (ad 0))]) (hret : ∀ (pc : Nat) (ls : Array Slot) (H : Heap) (locs : List Loc) (v : Int32) (M9 : Mm), some (v, M9) = res → decode cX8_firstError pc = .ok (.ireturn, 1) → va_P D vwCl (wl cs LM NM ad M9 ++ X) H → va_D A (wl cs LM NM ad M9 ++ X) → va_S A s.heap H locs → W p l e R s m args below meth c H locs 3 14 Q (F0 m pc ls [.int v])) : W p l e R s m args below meth c H locs 0 0 Q (F0 m 0 ls []) := by
  obtain ⟨hx, hb, hml, hown, hts⟩ := id CX
  have hw : ∀ w ∈ WG, w.before args s = true := fun w h => hts w (List.mem_cons_of_mem _ h)
  have lk_43 := hw _ m4_116
  have lk_25 := hw _ m4_123
  unfold gX8_firstError at hg
  refine lv_aload_n hx hb dX8_firstError_0 rfl (lv_at hl 0 rfl) ?_
  refine lv_iconst (v := 0) hx hb dX8_firstError_1 (by decide) ?_
  obtain ⟨M1, hM1, hg⟩ := lt_e hg
  refine m_pi (C := RX8) (T := TX8) (n := 15) (ci := 6) hx hb hts in_RX8 tyX8 tyX8_ok nmX8 hown hK hP hD hS (by decide) rfl rfl 0 (by decide) rfl lk_43 (fun _ h9 => h9) rfl rfl rfl dX8_firstError_2 hM1 (fun H locs hP hD hS => ?_)
  refine lv_aload_n hx hb dX8_firstError_5 rfl (lv_at hl 0 rfl) ?_
  obtain ⟨r2, q3, hg⟩ := bd_e hg hne
  refine r_calli (W.runV (As := []) (rest := []) CX (ctX8_isWhole l D sw cs ad X M1  q3) (cwV 0 hts (gwV m5_117 m5_119 mp3_15 m1_7 m5_120) rfl rfl rfl (by decide +kernel) ⟨Nat.le_trans (Nat.le_of_ble_eq_true rfl) hR.1, Nat.le_trans (Nat.le_of_ble_eq_true rfl) hR.2⟩) (rPreV (hSW.wr hS) hK hP (by decide) rfl rfl _) rfl rfl hl.1 rfl (lv_room (Nat.le_of_ble_eq_true rfl)) dX8_firstError_6 ⟨Nat.zero_le _, Nat.zero_le _⟩) ?_
  refine lv_if_ne (tgt := 18) hx hb dX8_firstError_9 (by decide) (fun c4 => ?_) (fun c4 => ?_)
  · have hg := if_f hg c4
    refine lv_aload_n hx hb dX8_firstError_18 rfl (lv_at hl 0 rfl) ?_
    obtain ⟨M6, q5, hg⟩ := bd_e hg hne
    refine w_callv (va_runV (As := []) (rest := []) CX (ctX8_read l D sw cs ad X H.size M1  q5) (cwV 0 hts (gwV m5_121 m5_123 mp4_0 m1_7 m5_124) rfl rfl rfl (by decide +kernel) ⟨Nat.le_trans (Nat.le_of_ble_eq_true rfl) hR.1, Nat.le_trans (Nat.le_of_ble_eq_true rfl) hR.2⟩) (wPreV hSW hS hA hK hP hD (by decide) rfl rfl _) rfl rfl hl.1 rfl (lv_room (Nat.le_of_ble_eq_true rfl)) dX8_firstError_19 ⟨Nat.le_trans (Nat.le_of_ble_eq_true rfl) hRc.1, Nat.le_trans (Nat.le_of_ble_eq_true rfl) hRc.2⟩) hD hS hA (fun H locs hP hD hS => ?_)
    refine lv_iconst (v := -1) hx hb dX8_firstError_22 (by decide) ?_
    refine lv_istore_n (lv' := [(1, .int (-1 : Int32)), (0, .ref (ad 0))]) hx hb dX8_firstError_23 rfl hl (by decide) rfl (fun ls hl => ?_)
    refine lv_iconst (v := 0) hx hb dX8_firstError_24 (by decide) ?_
    refine lv_istore_n (lv' := [(2, .int (0 : Int32)), (1, .int (-1 : Int32)), (0, .ref (ad 0))]) hx hb dX8_firstError_25 rfl hl (by decide) rfl (fun ls hl => ?_)
    have kL26_25 : ∀ (n10 : Nat) (M7 : Mm) (x8 : Int32) (x9 : Int32) (H : Heap) (locs : List Loc) (ls : Array Slot), va_P D vwCl (wl cs LM NM ad M7 ++ X) H → va_D A (wl cs LM NM ad M7 ++ X) → va_S A s.heap H locs → lv_has ls 3 [(0, .ref (ad 0)), (1, .int x8), (2, .int x9)] → gX8_firstError_L26 n10 M7 x8 x9 = res → W p l e R s m args below meth c H locs (0 + 3) (0 + 14) Q (F0 m 26 ls []) := by
      intro n10
      induction n10 with
      | zero =>
        intro M7 x8 x9 H locs ls hP hD hS hl hg
        rw [gX8_firstError_L26] at hg
        exact absurd hg.symm hne
      | succ n10 ih =>
        intro M7 x8 x9 H locs ls hP hD hS hl hg
        rw [gX8_firstError_L26] at hg
        refine lv_iload_n hx hb dX8_firstError_26 rfl (lv_at hl 2 rfl) ?_
        refine lv_bipush (v := 16) hx hb dX8_firstError_27 (by decide) ?_
        refine lv_icmp_ge (tgt := 70) hx hb dX8_firstError_29 (by decide) (fun c11 => ?_) (fun c11 => ?_)
        · have hg := if_t hg c11
          refine lv_iload_n hx hb dX8_firstError_70 rfl (lv_at hl 1 rfl) ?_
          refine W.widen (k := 3) (n := 14) (by decide) (by decide) ?_
          exact hret _ _ _ _ _ _ hg dX8_firstError_71 hP hD hS
        · have hg := if_f hg c11
          refine lv_aload_n hx hb dX8_firstError_32 rfl (lv_at hl 0 rfl) ?_
          refine m_gr (C := RX8) (T := TX8) (n := 15) (ci := 6) hx hb hts in_RX8 hown hK hP (by decide) rfl rfl 7 (by decide) rfl lk_25 (fun _ h9 => h9) dX8_firstError_33 ?_
          refine lv_iload_n hx hb dX8_firstError_36 rfl (lv_at hl 2 rfl) ?_
          obtain ⟨b12, hg⟩ := ck_e hg hne
          refine m_ld hx hb hK hP (by decide) rfl b12 dX8_firstError_37 ?_
          refine lv_iconst (v := -1) hx hb dX8_firstError_38 (by decide) ?_
          refine lv_icmp_eq (tgt := 64) hx hb dX8_firstError_39 (by decide) (fun c13 => ?_) (fun c13 => ?_)
          · have hg := if_t hg c13
            obtain ⟨x14, hx14, hg⟩ := lt_e hg
            refine lv_iinc (v := x14) (lv' := [(2, .int x14), (0, .ref (ad 0)), (1, .int x8)]) hx hb dX8_firstError_64 hl (k := 2) rfl (hx14.symm) (by decide) rfl (fun ls hl => ?_)
            refine lv_goto (tgt := 26) hx hb dX8_firstError_67 (by decide) ?_
            exact ih _ _ _ _ _ _ hP hD hS (lv_sub hl [1, 2, 0] rfl) hg
          · have hg := if_f hg c13
            refine lv_iload_n hx hb dX8_firstError_42 rfl (lv_at hl 1 rfl) ?_
            refine lv_iconst (v := -1) hx hb dX8_firstError_43 (by decide) ?_
            refine lv_icmp_eq (tgt := 57) hx hb dX8_firstError_44 (by decide) (fun c15 => ?_) (fun c15 => ?_)
            · have hg := if_t hg c15
              refine lv_aload_n hx hb dX8_firstError_57 rfl (lv_at hl 0 rfl) ?_
              refine m_gr (C := RX8) (T := TX8) (n := 15) (ci := 6) hx hb hts in_RX8 hown hK hP (by decide) rfl rfl 7 (by decide) rfl lk_25 (fun _ h9 => h9) dX8_firstError_58 ?_
              refine lv_iload_n hx hb dX8_firstError_61 rfl (lv_at hl 2 rfl) ?_
              obtain ⟨b16, hg⟩ := ck_e hg hne
              refine m_ld hx hb hK hP (by decide) rfl b16 dX8_firstError_62 ?_
              obtain ⟨x17, hx17, hg⟩ := lt_e hg
              refine top_i hx17 ?_
              refine lv_istore_n (lv' := [(1, .int x17), (0, .ref (ad 0)), (2, .int x9)]) hx hb dX8_firstError_63 rfl hl (by decide) rfl (fun ls hl => ?_)
              obtain ⟨x18, hx18, hg⟩ := lt_e hg
              refine lv_iinc (v := x18) (lv' := [(2, .int x18), (1, .int x17), (0, .ref (ad 0))]) hx hb dX8_firstError_64 hl (k := 2) rfl (hx18.symm) (by decide) rfl (fun ls hl => ?_)
              refine lv_goto (tgt := 26) hx hb dX8_firstError_67 (by decide) ?_
              exact ih _ _ _ _ _ _ hP hD hS (lv_sub hl [2, 1, 0] rfl) hg
            · have hg := if_f hg c15
              refine lv_aload_n hx hb dX8_firstError_47 rfl (lv_at hl 0 rfl) ?_
              refine m_gr (C := RX8) (T := TX8) (n := 15) (ci := 6) hx hb hts in_RX8 hown hK hP (by decide) rfl rfl 7 (by decide) rfl lk_25 (fun _ h9 => h9) dX8_firstError_48 ?_
              refine lv_iload_n hx hb dX8_firstError_51 rfl (lv_at hl 2 rfl) ?_
              obtain ⟨b19, hg⟩ := ck_e hg hne
              refine m_ld hx hb hK hP (by decide) rfl b19 dX8_firstError_52 ?_
              refine lv_iload_n hx hb dX8_firstError_53 rfl (lv_at hl 1 rfl) ?_
              refine lv_icmp_ge (tgt := 64) hx hb dX8_firstError_54 (by decide) (fun c20 => ?_) (fun c20 => ?_)
              · have hg := if_t hg c20
                obtain ⟨x21, hx21, hg⟩ := lt_e hg
                refine lv_iinc (v := x21) (lv' := [(2, .int x21), (0, .ref (ad 0)), (1, .int x8)]) hx hb dX8_firstError_64 hl (k := 2) rfl (hx21.symm) (by decide) rfl (fun ls hl => ?_)
                refine lv_goto (tgt := 26) hx hb dX8_firstError_67 (by decide) ?_
                exact ih _ _ _ _ _ _ hP hD hS (lv_sub hl [1, 2, 0] rfl) hg
              · have hg := if_f hg c20
                refine lv_aload_n hx hb dX8_firstError_57 rfl (lv_at hl 0 rfl) ?_
                refine m_gr (C := RX8) (T := TX8) (n := 15) (ci := 6) hx hb hts in_RX8 hown hK hP (by decide) rfl rfl 7 (by decide) rfl lk_25 (fun _ h9 => h9) dX8_firstError_58 ?_
                refine lv_iload_n hx hb dX8_firstError_61 rfl (lv_at hl 2 rfl) ?_
                obtain ⟨b22, hg⟩ := ck_e hg hne
                refine m_ld hx hb hK hP (by decide) rfl b22 dX8_firstError_62 ?_
                obtain ⟨x23, hx23, hg⟩ := lt_e hg
                refine top_i hx23 ?_
                refine lv_istore_n (lv' := [(1, .int x23), (0, .ref (ad 0)), (2, .int x9)]) hx hb dX8_firstError_63 rfl hl (by decide) rfl (fun ls hl => ?_)
                obtain ⟨x24, hx24, hg⟩ := lt_e hg
                refine lv_iinc (v := x24) (lv' := [(2, .int x24), (1, .int x23), (0, .ref (ad 0))]) hx hb dX8_firstError_64 hl (k := 2) rfl (hx24.symm) (by decide) rfl (fun ls hl => ?_)
                refine lv_goto (tgt := 26) hx hb dX8_firstError_67 (by decide) ?_
                exact ih _ _ _ _ _ _ hP hD hS (lv_sub hl [2, 1, 0] rfl) hg
    exact kL26_25 FU _ _ _ _ _ _ hP hD hS (lv_sub hl [2, 1, 0] rfl) hg
  · have hg := if_t hg c4
    refine lv_aload_n hx hb dX8_firstError_12 rfl (lv_at hl 0 rfl) ?_
    refine lv_iconst (v := 1) hx hb dX8_firstError_13 (by decide) ?_
    obtain ⟨r28, M27, q26, hg⟩ := bd2_e hg hne
    refine w_calli (va_runV (As := [.int (1 : Int32)]) (rest := []) CX (ctX8_no l D sw cs ad X H.size M1 (1 : Int32) q26) (cwV 1 hts (gwV m4_232 m4_234 mp3_4 m1_7 m4_235) rfl rfl rfl (by decide +kernel) ⟨Nat.le_trans (Nat.le_of_ble_eq_true rfl) hR.1, Nat.le_trans (Nat.le_of_ble_eq_true rfl) hR.2⟩) (wPreV hSW hS hA hK hP hD (by decide) rfl rfl _) rfl rfl hl.1 rfl (lv_room (Nat.le_of_ble_eq_true rfl)) dX8_firstError_14 ⟨Nat.zero_le _, Nat.zero_le _⟩) hD hS hA (fun H locs hP hD hS => ?_)
    refine W.widen (k := 3) (n := 14) (by decide) (by decide) ?_
    exact hret _ _ _ _ _ _ hg dX8_firstError_17 hP hD hS
theorem ctX8_firstError (l : Launch) (D : va_G) (sw : Sw) (cs : Cs) (ad : Nat → Nat) (X : va_W) (sz : Nat) (M : Mm) {r : Int32} {M1 : Mm} (hq : gX8_firstError M = some (r, M1)) : Met l yX8_firstError wsX8_firstError ({ frames := 6, cells := 3, slots := 14, locals := 131 }) (va_Pc [.ref (ad 0)] (wPre D sw cs LM NM ad M X sz)) (wQi D cs LM NM ad M1 X sz r) 3 14 (wA NM ad X sz) :=
  met_w rfl rfl (Nat.le_of_ble_eq_true rfl) (fun p e s m args below meth c ls CX hr hlk hK hSW hP hD hS hA hl => bX8_firstError M hq (by simp) CX ⟨Nat.le_refl _, Nat.le_refl _⟩ hK hSW hP hD hS hA ⟨Nat.le_refl _, Nat.le_refl _⟩ hl (fun pc ls H locs v M9 hv dg hP hD hS => W.iret CX.1 CX.2.1 hr (fun t ht hW => ⟨⟨_, (), rfl, (Prod.mk.inj (Option.some.inj hv)).1, wpost hP ht (Prod.mk.inj (Option.some.inj hv)).2⟩, hS.F ht⟩) hS.2.2 dg))

abbrev wsX8_groups : List Cond := Cond.code yX8_groups cX8_groups 2 (some .int) :: WG
def gX8_groups (M : Mm) (a1 : Int32) : Option (Int32 × Mm) := lt (um M 0 0 (0 : Int32)) fun M1 => bd (gX8_isItem M1 a1) fun r2 => if r2 = 0 then (bd2 (gX8_no M1 (1 : Int32)) fun r16 M15 => some (r16, M15)) else bd (gX8_isWhole M1 ) fun r5 => if r5 = 0 then (bd2 (gX8_no M1 (2 : Int32)) fun r13 M12 => some (r13, M12)) else bd (gX8_read M1 ) fun M9 => if (a1 < 0 ∨ 80 ≤ (a1).toNatClampNeg) then none else some ((M9 7 (a1).toNatClampNeg), M9)
set_option maxHeartbeats 4000000 in
set_option maxRecDepth 100000 in
theorem bX8_groups {p : Program} {l : Launch} {e : Env} {R : Room} {s : State} {m : MethodId} {args : Array Value} {below : List Frame} {meth : Method} {c : Code} {H : Heap} {locs : List Loc} {Q : State → Prop} {D : va_G} {sw : Sw} {cs : Cs} {ad : Nat → Nat} {X : va_W} {A : Nat → Prop} (M : Mm) (a1 : Int32) {res : Option (Int32 × Mm)} (hg : gX8_groups M a1 = res) (hne : res ≠ none) (CX : CallFix p m c cX8_groups 2 s args wsX8_groups RX8) (hR : 6 ≤ R.frames ∧ 131 ≤ R.locals) (hK : va_K D vwCl (tysC cs) s) (hSW : SW sw A s s.heap) (hP : va_P D vwCl (wl cs LM NM ad M ++ X) H) (hD : va_D A (wl cs LM NM ad M ++ X)) (hS : va_S A s.heap H locs) (hA : ∀ q, s.heap.size ≤ q → A q) (hRc : 3 ≤ R.cells ∧ 14 ≤ R.slots) {ls : Array Slot} (hl : lv_has ls 2 [(0, .ref (ad 0)), (1, .int a1)]) (hret : ∀ (pc : Nat) (ls : Array Slot) (H : Heap) (locs : List Loc) (v : Int32) (M9 : Mm), some (v, M9) = res → decode cX8_groups pc = .ok (.ireturn, 1) → va_P D vwCl (wl cs LM NM ad M9 ++ X) H → va_D A (wl cs LM NM ad M9 ++ X) → va_S A s.heap H locs → W p l e R s m args below meth c H locs 3 14 Q (F0 m pc ls [.int v])) : W p l e R s m args below meth c H locs 0 0 Q (F0 m 0 ls []) := by
  obtain ⟨hx, hb, hml, hown, hts⟩ := id CX
  have hw : ∀ w ∈ WG, w.before args s = true := fun w h => hts w (List.mem_cons_of_mem _ h)
  have lk_43 := hw _ m4_116
  have lk_28 := hw _ m4_124
  unfold gX8_groups at hg
  refine lv_aload_n hx hb dX8_groups_0 rfl (lv_at hl 0 rfl) ?_
  refine lv_iconst (v := 0) hx hb dX8_groups_1 (by decide) ?_
  obtain ⟨M1, hM1, hg⟩ := lt_e hg
  refine m_pi (C := RX8) (T := TX8) (n := 15) (ci := 6) hx hb hts in_RX8 tyX8 tyX8_ok nmX8 hown hK hP hD hS (by decide) rfl rfl 0 (by decide) rfl lk_43 (fun _ h9 => h9) rfl rfl rfl dX8_groups_2 hM1 (fun H locs hP hD hS => ?_)
  refine lv_aload_n hx hb dX8_groups_5 rfl (lv_at hl 0 rfl) ?_
  refine lv_iload_n hx hb dX8_groups_6 rfl (lv_at hl 1 rfl) ?_
  obtain ⟨r2, q3, hg⟩ := bd_e hg hne
  refine r_calli (W.runV (As := [.int a1]) (rest := []) CX (ctX8_isItem l D sw cs ad X M1 a1 q3) (cwV 1 hts (gwV m5_42 m5_44 mp3_9 m1_7 m5_45) rfl rfl rfl (by decide +kernel) ⟨Nat.le_trans (Nat.le_of_ble_eq_true rfl) hR.1, Nat.le_trans (Nat.le_of_ble_eq_true rfl) hR.2⟩) (rPreV (hSW.wr hS) hK hP (by decide) rfl rfl _) rfl rfl hl.1 rfl (lv_room (Nat.le_of_ble_eq_true rfl)) dX8_groups_7 ⟨Nat.zero_le _, Nat.zero_le _⟩) ?_
  refine lv_if_ne (tgt := 19) hx hb dX8_groups_10 (by decide) (fun c4 => ?_) (fun c4 => ?_)
  · have hg := if_f hg c4
    refine lv_aload_n hx hb dX8_groups_19 rfl (lv_at hl 0 rfl) ?_
    obtain ⟨r5, q6, hg⟩ := bd_e hg hne
    refine r_calli (W.runV (As := []) (rest := []) CX (ctX8_isWhole l D sw cs ad X M1  q6) (cwV 0 hts (gwV m5_117 m5_119 mp3_15 m1_7 m5_120) rfl rfl rfl (by decide +kernel) ⟨Nat.le_trans (Nat.le_of_ble_eq_true rfl) hR.1, Nat.le_trans (Nat.le_of_ble_eq_true rfl) hR.2⟩) (rPreV (hSW.wr hS) hK hP (by decide) rfl rfl _) rfl rfl hl.1 rfl (lv_room (Nat.le_of_ble_eq_true rfl)) dX8_groups_20 ⟨Nat.zero_le _, Nat.zero_le _⟩) ?_
    refine lv_if_ne (tgt := 32) hx hb dX8_groups_23 (by decide) (fun c7 => ?_) (fun c7 => ?_)
    · have hg := if_f hg c7
      refine lv_aload_n hx hb dX8_groups_32 rfl (lv_at hl 0 rfl) ?_
      obtain ⟨M9, q8, hg⟩ := bd_e hg hne
      refine w_callv (va_runV (As := []) (rest := []) CX (ctX8_read l D sw cs ad X H.size M1  q8) (cwV 0 hts (gwV m5_121 m5_123 mp4_0 m1_7 m5_124) rfl rfl rfl (by decide +kernel) ⟨Nat.le_trans (Nat.le_of_ble_eq_true rfl) hR.1, Nat.le_trans (Nat.le_of_ble_eq_true rfl) hR.2⟩) (wPreV hSW hS hA hK hP hD (by decide) rfl rfl _) rfl rfl hl.1 rfl (lv_room (Nat.le_of_ble_eq_true rfl)) dX8_groups_33 ⟨Nat.le_trans (Nat.le_of_ble_eq_true rfl) hRc.1, Nat.le_trans (Nat.le_of_ble_eq_true rfl) hRc.2⟩) hD hS hA (fun H locs hP hD hS => ?_)
      refine lv_aload_n hx hb dX8_groups_36 rfl (lv_at hl 0 rfl) ?_
      refine m_gr (C := RX8) (T := TX8) (n := 15) (ci := 6) hx hb hts in_RX8 hown hK hP (by decide) rfl rfl 8 (by decide) rfl lk_28 (fun _ h9 => h9) dX8_groups_37 ?_
      refine lv_iload_n hx hb dX8_groups_40 rfl (lv_at hl 1 rfl) ?_
      obtain ⟨b10, hg⟩ := ck_e hg hne
      refine m_ld hx hb hK hP (by decide) rfl b10 dX8_groups_41 ?_
      refine W.widen (k := 3) (n := 14) (by decide) (by decide) ?_
      exact hret _ _ _ _ _ _ hg dX8_groups_42 hP hD hS
    · have hg := if_t hg c7
      refine lv_aload_n hx hb dX8_groups_26 rfl (lv_at hl 0 rfl) ?_
      refine lv_iconst (v := 2) hx hb dX8_groups_27 (by decide) ?_
      obtain ⟨r13, M12, q11, hg⟩ := bd2_e hg hne
      refine w_calli (va_runV (As := [.int (2 : Int32)]) (rest := []) CX (ctX8_no l D sw cs ad X H.size M1 (2 : Int32) q11) (cwV 1 hts (gwV m4_232 m4_234 mp3_4 m1_7 m4_235) rfl rfl rfl (by decide +kernel) ⟨Nat.le_trans (Nat.le_of_ble_eq_true rfl) hR.1, Nat.le_trans (Nat.le_of_ble_eq_true rfl) hR.2⟩) (wPreV hSW hS hA hK hP hD (by decide) rfl rfl _) rfl rfl hl.1 rfl (lv_room (Nat.le_of_ble_eq_true rfl)) dX8_groups_28 ⟨Nat.zero_le _, Nat.zero_le _⟩) hD hS hA (fun H locs hP hD hS => ?_)
      refine W.widen (k := 3) (n := 14) (by decide) (by decide) ?_
      exact hret _ _ _ _ _ _ hg dX8_groups_31 hP hD hS
  · have hg := if_t hg c4
    refine lv_aload_n hx hb dX8_groups_13 rfl (lv_at hl 0 rfl) ?_
    refine lv_iconst (v := 1) hx hb dX8_groups_14 (by decide) ?_
    obtain ⟨r16, M15, q14, hg⟩ := bd2_e hg hne
    refine w_calli (va_runV (As := [.int (1 : Int32)]) (rest := []) CX (ctX8_no l D sw cs ad X H.size M1 (1 : Int32) q14) (cwV 1 hts (gwV m4_232 m4_234 mp3_4 m1_7 m4_235) rfl rfl rfl (by decide +kernel) ⟨Nat.le_trans (Nat.le_of_ble_eq_true rfl) hR.1, Nat.le_trans (Nat.le_of_ble_eq_true rfl) hR.2⟩) (wPreV hSW hS hA hK hP hD (by decide) rfl rfl _) rfl rfl hl.1 rfl (lv_room (Nat.le_of_ble_eq_true rfl)) dX8_groups_15 ⟨Nat.zero_le _, Nat.zero_le _⟩) hD hS hA (fun H locs hP hD hS => ?_)
    refine W.widen (k := 3) (n := 14) (by decide) (by decide) ?_
    exact hret _ _ _ _ _ _ hg dX8_groups_18 hP hD hS
theorem ctX8_groups (l : Launch) (D : va_G) (sw : Sw) (cs : Cs) (ad : Nat → Nat) (X : va_W) (sz : Nat) (M : Mm) (a1 : Int32) {r : Int32} {M1 : Mm} (hq : gX8_groups M a1 = some (r, M1)) : Met l yX8_groups wsX8_groups ({ frames := 6, cells := 3, slots := 14, locals := 131 }) (va_Pc [.ref (ad 0), .int a1] (wPre D sw cs LM NM ad M X sz)) (wQi D cs LM NM ad M1 X sz r) 3 14 (wA NM ad X sz) :=
  met_w rfl rfl (Nat.le_of_ble_eq_true rfl) (fun p e s m args below meth c ls CX hr hlk hK hSW hP hD hS hA hl => bX8_groups M a1 hq (by simp) CX ⟨Nat.le_refl _, Nat.le_refl _⟩ hK hSW hP hD hS hA ⟨Nat.le_refl _, Nat.le_refl _⟩ hl (fun pc ls H locs v M9 hv dg hP hD hS => W.iret CX.1 CX.2.1 hr (fun t ht hW => ⟨⟨_, (), rfl, (Prod.mk.inj (Option.some.inj hv)).1, wpost hP ht (Prod.mk.inj (Option.some.inj hv)).2⟩, hS.F ht⟩) hS.2.2 dg))

abbrev wsX8_work : List Cond := Cond.code yX8_work cX8_work 1 (some .int) :: WG
def gX8_work (M : Mm) : Option (Int32 × Mm) := lt (um M 0 0 (0 : Int32)) fun M1 => bd (gX8_isWhole M1 ) fun r2 => if r2 = 0 then (bd2 (gX8_no M1 (1 : Int32)) fun r11 M10 => some (r11, M10)) else bd (gX8_read M1 ) fun M6 => bd (gX8_sumOfGroups M6 ) fun r7 => some (r7, M6)
set_option maxHeartbeats 4000000 in
set_option maxRecDepth 100000 in
theorem bX8_work {p : Program} {l : Launch} {e : Env} {R : Room} {s : State} {m : MethodId} {args : Array Value} {below : List Frame} {meth : Method} {c : Code} {H : Heap} {locs : List Loc} {Q : State → Prop} {D : va_G} {sw : Sw} {cs : Cs} {ad : Nat → Nat} {X : va_W} {A : Nat → Prop} (M : Mm) {res : Option (Int32 × Mm)} (hg : gX8_work M = res) (hne : res ≠ none) (CX : CallFix p m c cX8_work 1 s args wsX8_work RX8) (hR : 6 ≤ R.frames ∧ 131 ≤ R.locals) (hK : va_K D vwCl (tysC cs) s) (hSW : SW sw A s s.heap) (hP : va_P D vwCl (wl cs LM NM ad M ++ X) H) (hD : va_D A (wl cs LM NM ad M ++ X)) (hS : va_S A s.heap H locs) (hA : ∀ q, s.heap.size ≤ q → A q) (hRc : 3 ≤ R.cells ∧ 14 ≤ R.slots) {ls : Array Slot} (hl : lv_has ls 1 [(0, .ref (ad 0))]) (hret : ∀ (pc : Nat) (ls : Array Slot) (H : Heap) (locs : List Loc) (v : Int32) (M9 : Mm), some (v, M9) = res → decode cX8_work pc = .ok (.ireturn, 1) → va_P D vwCl (wl cs LM NM ad M9 ++ X) H → va_D A (wl cs LM NM ad M9 ++ X) → va_S A s.heap H locs → W p l e R s m args below meth c H locs 3 14 Q (F0 m pc ls [.int v])) : W p l e R s m args below meth c H locs 0 0 Q (F0 m 0 ls []) := by
  obtain ⟨hx, hb, hml, hown, hts⟩ := id CX
  have hw : ∀ w ∈ WG, w.before args s = true := fun w h => hts w (List.mem_cons_of_mem _ h)
  have lk_43 := hw _ m4_116
  unfold gX8_work at hg
  refine lv_aload_n hx hb dX8_work_0 rfl (lv_at hl 0 rfl) ?_
  refine lv_iconst (v := 0) hx hb dX8_work_1 (by decide) ?_
  obtain ⟨M1, hM1, hg⟩ := lt_e hg
  refine m_pi (C := RX8) (T := TX8) (n := 15) (ci := 6) hx hb hts in_RX8 tyX8 tyX8_ok nmX8 hown hK hP hD hS (by decide) rfl rfl 0 (by decide) rfl lk_43 (fun _ h9 => h9) rfl rfl rfl dX8_work_2 hM1 (fun H locs hP hD hS => ?_)
  refine lv_aload_n hx hb dX8_work_5 rfl (lv_at hl 0 rfl) ?_
  obtain ⟨r2, q3, hg⟩ := bd_e hg hne
  refine r_calli (W.runV (As := []) (rest := []) CX (ctX8_isWhole l D sw cs ad X M1  q3) (cwV 0 hts (gwV m5_117 m5_119 mp3_15 m1_7 m5_120) rfl rfl rfl (by decide +kernel) ⟨Nat.le_trans (Nat.le_of_ble_eq_true rfl) hR.1, Nat.le_trans (Nat.le_of_ble_eq_true rfl) hR.2⟩) (rPreV (hSW.wr hS) hK hP (by decide) rfl rfl _) rfl rfl hl.1 rfl (lv_room (Nat.le_of_ble_eq_true rfl)) dX8_work_6 ⟨Nat.zero_le _, Nat.zero_le _⟩) ?_
  refine lv_if_ne (tgt := 18) hx hb dX8_work_9 (by decide) (fun c4 => ?_) (fun c4 => ?_)
  · have hg := if_f hg c4
    refine lv_aload_n hx hb dX8_work_18 rfl (lv_at hl 0 rfl) ?_
    obtain ⟨M6, q5, hg⟩ := bd_e hg hne
    refine w_callv (va_runV (As := []) (rest := []) CX (ctX8_read l D sw cs ad X H.size M1  q5) (cwV 0 hts (gwV m5_121 m5_123 mp4_0 m1_7 m5_124) rfl rfl rfl (by decide +kernel) ⟨Nat.le_trans (Nat.le_of_ble_eq_true rfl) hR.1, Nat.le_trans (Nat.le_of_ble_eq_true rfl) hR.2⟩) (wPreV hSW hS hA hK hP hD (by decide) rfl rfl _) rfl rfl hl.1 rfl (lv_room (Nat.le_of_ble_eq_true rfl)) dX8_work_19 ⟨Nat.le_trans (Nat.le_of_ble_eq_true rfl) hRc.1, Nat.le_trans (Nat.le_of_ble_eq_true rfl) hRc.2⟩) hD hS hA (fun H locs hP hD hS => ?_)
    refine lv_aload_n hx hb dX8_work_22 rfl (lv_at hl 0 rfl) ?_
    obtain ⟨r7, q8, hg⟩ := bd_e hg hne
    refine r_calli (W.runV (As := []) (rest := []) CX (ctX8_sumOfGroups l D sw cs ad X M6  q8) (cwV 0 hts (gwV m5_175 m5_177 mp4_8 m1_7 m5_178) rfl rfl rfl (by decide +kernel) ⟨Nat.le_trans (Nat.le_of_ble_eq_true rfl) hR.1, Nat.le_trans (Nat.le_of_ble_eq_true rfl) hR.2⟩) (rPreV (hSW.wr hS) hK hP (by decide) rfl rfl _) rfl rfl hl.1 rfl (lv_room (Nat.le_of_ble_eq_true rfl)) dX8_work_23 ⟨Nat.le_trans (Nat.le_of_ble_eq_true rfl) hRc.1, Nat.le_trans (Nat.le_of_ble_eq_true rfl) hRc.2⟩) ?_
    refine W.widen (k := 3) (n := 14) (by decide) (by decide) ?_
    exact hret _ _ _ _ _ _ hg dX8_work_26 hP hD hS
  · have hg := if_t hg c4
    refine lv_aload_n hx hb dX8_work_12 rfl (lv_at hl 0 rfl) ?_
    refine lv_iconst (v := 1) hx hb dX8_work_13 (by decide) ?_
    obtain ⟨r11, M10, q9, hg⟩ := bd2_e hg hne
    refine w_calli (va_runV (As := [.int (1 : Int32)]) (rest := []) CX (ctX8_no l D sw cs ad X H.size M1 (1 : Int32) q9) (cwV 1 hts (gwV m4_232 m4_234 mp3_4 m1_7 m4_235) rfl rfl rfl (by decide +kernel) ⟨Nat.le_trans (Nat.le_of_ble_eq_true rfl) hR.1, Nat.le_trans (Nat.le_of_ble_eq_true rfl) hR.2⟩) (wPreV hSW hS hA hK hP hD (by decide) rfl rfl _) rfl rfl hl.1 rfl (lv_room (Nat.le_of_ble_eq_true rfl)) dX8_work_14 ⟨Nat.zero_le _, Nat.zero_le _⟩) hD hS hA (fun H locs hP hD hS => ?_)
    refine W.widen (k := 3) (n := 14) (by decide) (by decide) ?_
    exact hret _ _ _ _ _ _ hg dX8_work_17 hP hD hS
theorem ctX8_work (l : Launch) (D : va_G) (sw : Sw) (cs : Cs) (ad : Nat → Nat) (X : va_W) (sz : Nat) (M : Mm) {r : Int32} {M1 : Mm} (hq : gX8_work M = some (r, M1)) : Met l yX8_work wsX8_work ({ frames := 6, cells := 3, slots := 14, locals := 131 }) (va_Pc [.ref (ad 0)] (wPre D sw cs LM NM ad M X sz)) (wQi D cs LM NM ad M1 X sz r) 3 14 (wA NM ad X sz) :=
  met_w rfl rfl (Nat.le_of_ble_eq_true rfl) (fun p e s m args below meth c ls CX hr hlk hK hSW hP hD hS hA hl => bX8_work M hq (by simp) CX ⟨Nat.le_refl _, Nat.le_refl _⟩ hK hSW hP hD hS hA ⟨Nat.le_refl _, Nat.le_refl _⟩ hl (fun pc ls H locs v M9 hv dg hP hD hS => W.iret CX.1 CX.2.1 hr (fun t ht hW => ⟨⟨_, (), rfl, (Prod.mk.inj (Option.some.inj hv)).1, wpost hP ht (Prod.mk.inj (Option.some.inj hv)).2⟩, hS.F ht⟩) hS.2.2 dg))

abbrev wsX8_stack : List Cond := Cond.code yX8_stack cX8_stack 4 (some .int) :: WG
def gX8_stack (M : Mm) (a1 : Int32) (a2 : Int32) : Option (Int32 × Mm) := lt (um M 0 0 (0 : Int32)) fun M1 => if (gX8_isConfiguration a1) = 0 then (bd2 (gX8_no M1 (1 : Int32)) fun r22 M21 => some (r22, M21)) else bd (gX8_look M1 ) fun M4 => bd (gX8_find M4 a1 a2) fun r5 => if r5 = (-1 : Int32) then (bd2 (gX8_no M4 (1 : Int32)) fun r19 M18 => some (r19, M18)) else bd (gX8_isWhole M4 ) fun r8 => if r8 = 0 then (bd2 (gX8_no M4 (2 : Int32)) fun r16 M15 => some (r16, M15)) else bd (gX8_read M4 ) fun M12 => if ((((80 : Int32) * a1) + r5) < 0 ∨ 1280 ≤ ((((80 : Int32) * a1) + r5)).toNatClampNeg) then none else some ((M12 8 ((((80 : Int32) * a1) + r5)).toNatClampNeg), M12)
set_option maxHeartbeats 4000000 in
set_option maxRecDepth 100000 in
theorem bX8_stack {p : Program} {l : Launch} {e : Env} {R : Room} {s : State} {m : MethodId} {args : Array Value} {below : List Frame} {meth : Method} {c : Code} {H : Heap} {locs : List Loc} {Q : State → Prop} {D : va_G} {sw : Sw} {cs : Cs} {ad : Nat → Nat} {X : va_W} {A : Nat → Prop} (M : Mm) (a1 : Int32) (a2 : Int32) {res : Option (Int32 × Mm)} (hg : gX8_stack M a1 a2 = res) (hne : res ≠ none) (CX : CallFix p m c cX8_stack 4 s args wsX8_stack RX8) (hR : 6 ≤ R.frames ∧ 131 ≤ R.locals) (hK : va_K D vwCl (tysC cs) s) (hSW : SW sw A s s.heap) (hP : va_P D vwCl (wl cs LM NM ad M ++ X) H) (hD : va_D A (wl cs LM NM ad M ++ X)) (hS : va_S A s.heap H locs) (hA : ∀ q, s.heap.size ≤ q → A q) (hRc : 6 ≤ R.cells ∧ 28 ≤ R.slots) {ls : Array Slot} (hl : lv_has ls 4 [(0, .ref (ad 0)), (1, .int a1), (2, .int a2)]) (hret : ∀ (pc : Nat) (ls : Array Slot) (H : Heap) (locs : List Loc) (v : Int32) (M9 : Mm), some (v, M9) = res → decode cX8_stack pc = .ok (.ireturn, 1) → va_P D vwCl (wl cs LM NM ad M9 ++ X) H → va_D A (wl cs LM NM ad M9 ++ X) → va_S A s.heap H locs → W p l e R s m args below meth c H locs 6 28 Q (F0 m pc ls [.int v])) : W p l e R s m args below meth c H locs 0 0 Q (F0 m 0 ls []) := by
  obtain ⟨hx, hb, hml, hown, hts⟩ := id CX
  have hw : ∀ w ∈ WG, w.before args s = true := fun w h => hts w (List.mem_cons_of_mem _ h)
  have lk_43 := hw _ m4_116
  have lk_31 := hw _ m4_125
  unfold gX8_stack at hg
  refine lv_aload_n hx hb dX8_stack_0 rfl (lv_at hl 0 rfl) ?_
  refine lv_iconst (v := 0) hx hb dX8_stack_1 (by decide) ?_
  obtain ⟨M1, hM1, hg⟩ := lt_e hg
  refine m_pi (C := RX8) (T := TX8) (n := 15) (ci := 6) hx hb hts in_RX8 tyX8 tyX8_ok nmX8 hown hK hP hD hS (by decide) rfl rfl 0 (by decide) rfl lk_43 (fun _ h9 => h9) rfl rfl rfl dX8_stack_2 hM1 (fun H locs hP hD hS => ?_)
  refine lv_iload_n hx hb dX8_stack_5 rfl (lv_at hl 1 rfl) ?_
  refine r_calli (W.runS (As := [.int a1]) (rest := []) CX (ctX8_isConfiguration l a1) (va_cwS 1 hts (gwS m5_90 m5_91 m1_7 m5_92) rfl rfl rfl (by decide +kernel) ⟨Nat.le_trans (Nat.le_of_ble_eq_true rfl) hR.1, Nat.le_trans (Nat.le_of_ble_eq_true rfl) hR.2⟩) (pPreS _) rfl rfl hl.1 rfl (lv_room (Nat.le_of_ble_eq_true rfl)) dX8_stack_6 ⟨Nat.zero_le _, Nat.zero_le _⟩) ?_
  refine lv_if_ne (tgt := 18) hx hb dX8_stack_9 (by decide) (fun c2 => ?_) (fun c2 => ?_)
  · have hg := if_f hg c2
    refine lv_aload_n hx hb dX8_stack_18 rfl (lv_at hl 0 rfl) ?_
    obtain ⟨M4, q3, hg⟩ := bd_e hg hne
    refine w_callv (va_runV (As := []) (rest := []) CX (ctX8_look l D sw cs ad X H.size M1  q3) (cwV 0 hts (gwV m5_66 m5_68 mp3_11 m1_7 m5_69) rfl rfl rfl (by decide +kernel) ⟨Nat.le_trans (Nat.le_of_ble_eq_true rfl) hR.1, Nat.le_trans (Nat.le_of_ble_eq_true rfl) hR.2⟩) (wPreV hSW hS hA hK hP hD (by decide) rfl rfl _) rfl rfl hl.1 rfl (lv_room (Nat.le_of_ble_eq_true rfl)) dX8_stack_19 ⟨Nat.le_trans (Nat.le_of_ble_eq_true rfl) hRc.1, Nat.le_trans (Nat.le_of_ble_eq_true rfl) hRc.2⟩) hD hS hA (fun H locs hP hD hS => ?_)
    refine lv_aload_n hx hb dX8_stack_22 rfl (lv_at hl 0 rfl) ?_
    refine lv_iload_n hx hb dX8_stack_23 rfl (lv_at hl 1 rfl) ?_
    refine lv_iload_n hx hb dX8_stack_24 rfl (lv_at hl 2 rfl) ?_
    obtain ⟨r5, q6, hg⟩ := bd_e hg hne
    refine r_calli (W.runV (As := [.int a1, .int a2]) (rest := []) CX (ctX8_find l D sw cs ad X M4 a1 a2 q6) (cwV 2 hts (gwV m5_101 m5_103 mp3_13 m1_7 m5_104) rfl rfl rfl (by decide +kernel) ⟨Nat.le_trans (Nat.le_of_ble_eq_true rfl) hR.1, Nat.le_trans (Nat.le_of_ble_eq_true rfl) hR.2⟩) (rPreV (hSW.wr hS) hK hP (by decide) rfl rfl _) rfl rfl hl.1 rfl (lv_room (Nat.le_of_ble_eq_true rfl)) dX8_stack_25 ⟨Nat.le_trans (Nat.le_of_ble_eq_true rfl) hRc.1, Nat.le_trans (Nat.le_of_ble_eq_true rfl) hRc.2⟩) ?_
    refine lv_istore_n (lv' := [(3, .int r5), (0, .ref (ad 0)), (1, .int a1), (2, .int a2)]) hx hb dX8_stack_28 rfl hl (by decide) rfl (fun ls hl => ?_)
    refine lv_iload_n hx hb dX8_stack_29 rfl (lv_at hl 0 rfl) ?_
    refine lv_iconst (v := -1) hx hb dX8_stack_30 (by decide) ?_
    refine lv_icmp_ne (tgt := 40) hx hb dX8_stack_31 (by decide) (fun c7 => ?_) (fun c7 => ?_)
    · have hg := if_f hg c7
      refine lv_aload_n hx hb dX8_stack_40 rfl (lv_at hl 1 rfl) ?_
      obtain ⟨r8, q9, hg⟩ := bd_e hg hne
      refine r_calli (W.runV (As := []) (rest := []) CX (ctX8_isWhole l D sw cs ad X M4  q9) (cwV 0 hts (gwV m5_117 m5_119 mp3_15 m1_7 m5_120) rfl rfl rfl (by decide +kernel) ⟨Nat.le_trans (Nat.le_of_ble_eq_true rfl) hR.1, Nat.le_trans (Nat.le_of_ble_eq_true rfl) hR.2⟩) (rPreV (hSW.wr hS) hK hP (by decide) rfl rfl _) rfl rfl hl.1 rfl (lv_room (Nat.le_of_ble_eq_true rfl)) dX8_stack_41 ⟨Nat.le_trans (Nat.le_of_ble_eq_true rfl) hRc.1, Nat.le_trans (Nat.le_of_ble_eq_true rfl) hRc.2⟩) ?_
      refine lv_if_ne (tgt := 53) hx hb dX8_stack_44 (by decide) (fun c10 => ?_) (fun c10 => ?_)
      · have hg := if_f hg c10
        refine lv_aload_n hx hb dX8_stack_53 rfl (lv_at hl 1 rfl) ?_
        obtain ⟨M12, q11, hg⟩ := bd_e hg hne
        refine w_callv (va_runV (As := []) (rest := []) CX (ctX8_read l D sw cs ad X H.size M4  q11) (cwV 0 hts (gwV m5_121 m5_123 mp4_0 m1_7 m5_124) rfl rfl rfl (by decide +kernel) ⟨Nat.le_trans (Nat.le_of_ble_eq_true rfl) hR.1, Nat.le_trans (Nat.le_of_ble_eq_true rfl) hR.2⟩) (wPreV hSW hS hA hK hP hD (by decide) rfl rfl _) rfl rfl hl.1 rfl (lv_room (Nat.le_of_ble_eq_true rfl)) dX8_stack_54 ⟨Nat.le_trans (Nat.le_of_ble_eq_true rfl) hRc.1, Nat.le_trans (Nat.le_of_ble_eq_true rfl) hRc.2⟩) hD hS hA (fun H locs hP hD hS => ?_)
        refine lv_aload_n hx hb dX8_stack_57 rfl (lv_at hl 1 rfl) ?_
        refine m_gr (C := RX8) (T := TX8) (n := 15) (ci := 6) hx hb hts in_RX8 hown hK hP (by decide) rfl rfl 9 (by decide) rfl lk_31 (fun _ h9 => h9) dX8_stack_58 ?_
        refine lv_bipush (v := 80) hx hb dX8_stack_61 (by decide) ?_
        refine lv_iload_n hx hb dX8_stack_63 rfl (lv_at hl 2 rfl) ?_
        refine lv_imul hx hb dX8_stack_64 ?_
        refine lv_iload_n hx hb dX8_stack_65 rfl (lv_at hl 0 rfl) ?_
        refine lv_iadd hx hb dX8_stack_66 ?_
        obtain ⟨b13, hg⟩ := ck_e hg hne
        refine m_ld hx hb hK hP (by decide) rfl b13 dX8_stack_67 ?_
        refine W.widen (k := 6) (n := 28) (by decide) (by decide) ?_
        exact hret _ _ _ _ _ _ hg dX8_stack_68 hP hD hS
      · have hg := if_t hg c10
        refine lv_aload_n hx hb dX8_stack_47 rfl (lv_at hl 1 rfl) ?_
        refine lv_iconst (v := 2) hx hb dX8_stack_48 (by decide) ?_
        obtain ⟨r16, M15, q14, hg⟩ := bd2_e hg hne
        refine w_calli (va_runV (As := [.int (2 : Int32)]) (rest := []) CX (ctX8_no l D sw cs ad X H.size M4 (2 : Int32) q14) (cwV 1 hts (gwV m4_232 m4_234 mp3_4 m1_7 m4_235) rfl rfl rfl (by decide +kernel) ⟨Nat.le_trans (Nat.le_of_ble_eq_true rfl) hR.1, Nat.le_trans (Nat.le_of_ble_eq_true rfl) hR.2⟩) (wPreV hSW hS hA hK hP hD (by decide) rfl rfl _) rfl rfl hl.1 rfl (lv_room (Nat.le_of_ble_eq_true rfl)) dX8_stack_49 ⟨Nat.le_trans (Nat.le_of_ble_eq_true rfl) hRc.1, Nat.le_trans (Nat.le_of_ble_eq_true rfl) hRc.2⟩) hD hS hA (fun H locs hP hD hS => ?_)
        refine W.widen (k := 6) (n := 28) (by decide) (by decide) ?_
        exact hret _ _ _ _ _ _ hg dX8_stack_52 hP hD hS
    · have hg := if_t hg c7
      refine lv_aload_n hx hb dX8_stack_34 rfl (lv_at hl 1 rfl) ?_
      refine lv_iconst (v := 1) hx hb dX8_stack_35 (by decide) ?_
      obtain ⟨r19, M18, q17, hg⟩ := bd2_e hg hne
      refine w_calli (va_runV (As := [.int (1 : Int32)]) (rest := []) CX (ctX8_no l D sw cs ad X H.size M4 (1 : Int32) q17) (cwV 1 hts (gwV m4_232 m4_234 mp3_4 m1_7 m4_235) rfl rfl rfl (by decide +kernel) ⟨Nat.le_trans (Nat.le_of_ble_eq_true rfl) hR.1, Nat.le_trans (Nat.le_of_ble_eq_true rfl) hR.2⟩) (wPreV hSW hS hA hK hP hD (by decide) rfl rfl _) rfl rfl hl.1 rfl (lv_room (Nat.le_of_ble_eq_true rfl)) dX8_stack_36 ⟨Nat.le_trans (Nat.le_of_ble_eq_true rfl) hRc.1, Nat.le_trans (Nat.le_of_ble_eq_true rfl) hRc.2⟩) hD hS hA (fun H locs hP hD hS => ?_)
      refine W.widen (k := 6) (n := 28) (by decide) (by decide) ?_
      exact hret _ _ _ _ _ _ hg dX8_stack_39 hP hD hS
  · have hg := if_t hg c2
    refine lv_aload_n hx hb dX8_stack_12 rfl (lv_at hl 0 rfl) ?_
    refine lv_iconst (v := 1) hx hb dX8_stack_13 (by decide) ?_
    obtain ⟨r22, M21, q20, hg⟩ := bd2_e hg hne
    refine w_calli (va_runV (As := [.int (1 : Int32)]) (rest := []) CX (ctX8_no l D sw cs ad X H.size M1 (1 : Int32) q20) (cwV 1 hts (gwV m4_232 m4_234 mp3_4 m1_7 m4_235) rfl rfl rfl (by decide +kernel) ⟨Nat.le_trans (Nat.le_of_ble_eq_true rfl) hR.1, Nat.le_trans (Nat.le_of_ble_eq_true rfl) hR.2⟩) (wPreV hSW hS hA hK hP hD (by decide) rfl rfl _) rfl rfl hl.1 rfl (lv_room (Nat.le_of_ble_eq_true rfl)) dX8_stack_14 ⟨Nat.zero_le _, Nat.zero_le _⟩) hD hS hA (fun H locs hP hD hS => ?_)
    refine W.widen (k := 6) (n := 28) (by decide) (by decide) ?_
    exact hret _ _ _ _ _ _ hg dX8_stack_17 hP hD hS
theorem ctX8_stack (l : Launch) (D : va_G) (sw : Sw) (cs : Cs) (ad : Nat → Nat) (X : va_W) (sz : Nat) (M : Mm) (a1 : Int32) (a2 : Int32) {r : Int32} {M1 : Mm} (hq : gX8_stack M a1 a2 = some (r, M1)) : Met l yX8_stack wsX8_stack ({ frames := 6, cells := 6, slots := 28, locals := 131 }) (va_Pc [.ref (ad 0), .int a1, .int a2] (wPre D sw cs LM NM ad M X sz)) (wQi D cs LM NM ad M1 X sz r) 6 28 (wA NM ad X sz) :=
  met_w rfl rfl (Nat.le_of_ble_eq_true rfl) (fun p e s m args below meth c ls CX hr hlk hK hSW hP hD hS hA hl => bX8_stack M a1 a2 hq (by simp) CX ⟨Nat.le_refl _, Nat.le_refl _⟩ hK hSW hP hD hS hA ⟨Nat.le_refl _, Nat.le_refl _⟩ hl (fun pc ls H locs v M9 hv dg hP hD hS => W.iret CX.1 CX.2.1 hr (fun t ht hW => ⟨⟨_, (), rfl, (Prod.mk.inj (Option.some.inj hv)).1, wpost hP ht (Prod.mk.inj (Option.some.inj hv)).2⟩, hS.F ht⟩) hS.2.2 dg))

abbrev wsX8_asks : List Cond := Cond.code yX8_asks cX8_asks 2 (some .boolean) :: WG
def gX8_asks (M : Mm) (a1 : Int32) : Option (Int32 × Mm) := lt (fun (M2 : Mm) (s3 : Int32) => lt (um M2 0 0 s3) fun M5 => if (M5 0 0) = 0 then (bd (gX8_read M5 ) fun M8 => if (a1 < 0 ∨ 16 ≤ (a1).toNatClampNeg) then none else if (M8 6 (a1).toNatClampNeg) = (-1 : Int32) then (bd (gX8_run M8 a1) fun M12 => if (M12 0 0) = 0 then (some ((1 : Int32), M12)) else some ((0 : Int32), M12)) else lt (um M8 0 0 (3 : Int32)) fun M14 => if (M14 0 0) = 0 then (some ((1 : Int32), M14)) else some ((0 : Int32), M14)) else some ((0 : Int32), M5)) fun J4 => if (gX8_isConfiguration a1) = 0 then (J4 M (1 : Int32)) else bd (gX8_isWhole M ) fun r16 => if r16 = 0 then (J4 M (2 : Int32)) else J4 M (0 : Int32)
set_option maxHeartbeats 4000000 in
set_option maxRecDepth 100000 in
theorem bX8_asks {p : Program} {l : Launch} {e : Env} {R : Room} {s : State} {m : MethodId} {args : Array Value} {below : List Frame} {meth : Method} {c : Code} {H : Heap} {locs : List Loc} {Q : State → Prop} {D : va_G} {sw : Sw} {cs : Cs} {ad : Nat → Nat} {X : va_W} {A : Nat → Prop} (M : Mm) (a1 : Int32) {res : Option (Int32 × Mm)} (hg : gX8_asks M a1 = res) (hne : res ≠ none) (CX : CallFix p m c cX8_asks 2 s args wsX8_asks RX8) (hR : 804 ≤ R.frames ∧ 19290 ≤ R.locals) (hK : va_K D vwCl (tysC cs) s) (hSW : SW sw A s s.heap) (hP : va_P D vwCl (wl cs LM NM ad M ++ X) H) (hD : va_D A (wl cs LM NM ad M ++ X)) (hS : va_S A s.heap H locs) (hA : ∀ q, s.heap.size ≤ q → A q) (hRc : 3 ≤ R.cells ∧ 14 ≤ R.slots) {ls : Array Slot} (hl : lv_has ls 2 [(0, .ref (ad 0)), (1, .int a1)]) (hret : ∀ (pc : Nat) (ls : Array Slot) (H : Heap) (locs : List Loc) (v : Int32) (M9 : Mm), some (v, M9) = res → decode cX8_asks pc = .ok (.ireturn, 1) → narrow .boolean (.int v) = .int v → va_P D vwCl (wl cs LM NM ad M9 ++ X) H → va_D A (wl cs LM NM ad M9 ++ X) → va_S A s.heap H locs → W p l e R s m args below meth c H locs 3 14 Q (F0 m pc ls [.int v])) : W p l e R s m args below meth c H locs 0 0 Q (F0 m 0 ls []) := by
  obtain ⟨hx, hb, hml, hown, hts⟩ := id CX
  have hw : ∀ w ∈ WG, w.before args s = true := fun w h => hts w (List.mem_cons_of_mem _ h)
  have lk_43 := hw _ m4_116
  have lk_25 := hw _ m4_123
  unfold gX8_asks at hg
  refine lv_aload_n hx hb dX8_asks_0 rfl (lv_at hl 0 rfl) ?_
  refine lv_iload_n hx hb dX8_asks_1 rfl (lv_at hl 1 rfl) ?_
  refine r_calli (W.runS (As := [.int a1]) (rest := [.ref (ad 0)]) CX (ctX8_isConfiguration l a1) (va_cwS 1 hts (gwS m5_90 m5_91 m1_7 m5_92) rfl rfl rfl (by decide +kernel) ⟨Nat.le_trans (Nat.le_of_ble_eq_true rfl) hR.1, Nat.le_trans (Nat.le_of_ble_eq_true rfl) hR.2⟩) (pPreS _) rfl rfl hl.1 rfl (lv_room (Nat.le_of_ble_eq_true rfl)) dX8_asks_2 ⟨Nat.zero_le _, Nat.zero_le _⟩) ?_
  obtain ⟨J4, hJ4, hg⟩ := lf2 hg
  have kJ4 : ∀ (M2 : Mm) (s3 : Int32) (H : Heap) (locs : List Loc) (ls : Array Slot), va_P D vwCl (wl cs LM NM ad M2 ++ X) H → va_D A (wl cs LM NM ad M2 ++ X) → va_S A s.heap H locs → lv_has ls 2 [(0, .ref (ad 0)), (1, .int a1)] → J4 M2 s3 = res → W p l e R s m args below meth c H locs 0 0 Q (F0 m 24 ls [.int s3, .ref (ad 0)]) := by
    intro M2 s3 H locs ls hP hD hS hl hg
    rw [hJ4] at hg
    obtain ⟨M5, hM5, hg⟩ := lt_e hg
    refine m_pi (C := RX8) (T := TX8) (n := 15) (ci := 6) hx hb hts in_RX8 tyX8 tyX8_ok nmX8 hown hK hP hD hS (by decide) rfl rfl 0 (by decide) rfl lk_43 (fun _ h9 => h9) rfl rfl rfl dX8_asks_24 hM5 (fun H locs hP hD hS => ?_)
    refine lv_aload_n hx hb dX8_asks_27 rfl (lv_at hl 0 rfl) ?_
    refine m_gi (C := RX8) (T := TX8) (n := 15) (ci := 6) hx hb hts in_RX8 hown hK hP (by decide) rfl rfl 0 (by decide) rfl lk_43 (fun _ h9 => h9) dX8_asks_28 ?_
    refine lv_if_eq (tgt := 36) hx hb dX8_asks_31 (by decide) (fun c6 => ?_) (fun c6 => ?_)
    · have hg := if_t hg c6
      refine lv_aload_n hx hb dX8_asks_36 rfl (lv_at hl 0 rfl) ?_
      obtain ⟨M8, q7, hg⟩ := bd_e hg hne
      refine w_callv (va_runV (As := []) (rest := []) CX (ctX8_read l D sw cs ad X H.size M5  q7) (cwV 0 hts (gwV m5_121 m5_123 mp4_0 m1_7 m5_124) rfl rfl rfl (by decide +kernel) ⟨Nat.le_trans (Nat.le_of_ble_eq_true rfl) hR.1, Nat.le_trans (Nat.le_of_ble_eq_true rfl) hR.2⟩) (wPreV hSW hS hA hK hP hD (by decide) rfl rfl _) rfl rfl hl.1 rfl (lv_room (Nat.le_of_ble_eq_true rfl)) dX8_asks_37 ⟨Nat.le_trans (Nat.le_of_ble_eq_true rfl) hRc.1, Nat.le_trans (Nat.le_of_ble_eq_true rfl) hRc.2⟩) hD hS hA (fun H locs hP hD hS => ?_)
      refine lv_aload_n hx hb dX8_asks_40 rfl (lv_at hl 0 rfl) ?_
      refine m_gr (C := RX8) (T := TX8) (n := 15) (ci := 6) hx hb hts in_RX8 hown hK hP (by decide) rfl rfl 7 (by decide) rfl lk_25 (fun _ h9 => h9) dX8_asks_41 ?_
      refine lv_iload_n hx hb dX8_asks_44 rfl (lv_at hl 1 rfl) ?_
      obtain ⟨b9, hg⟩ := ck_e hg hne
      refine m_ld hx hb hK hP (by decide) rfl b9 dX8_asks_45 ?_
      refine lv_iconst (v := -1) hx hb dX8_asks_46 (by decide) ?_
      refine lv_icmp_eq (tgt := 58) hx hb dX8_asks_47 (by decide) (fun c10 => ?_) (fun c10 => ?_)
      · have hg := if_t hg c10
        refine lv_aload_n hx hb dX8_asks_58 rfl (lv_at hl 0 rfl) ?_
        refine lv_iload_n hx hb dX8_asks_59 rfl (lv_at hl 1 rfl) ?_
        obtain ⟨M12, q11, hg⟩ := bd_e hg hne
        refine w_callv (va_runV (As := [.int a1]) (rest := []) CX (ctX8_run l D sw cs ad X H.size M8 a1 q11) (cwV 1 hts (gwV m5_195 m5_197 mp4_10 m1_7 m5_198) rfl rfl rfl (by decide +kernel) ⟨Nat.le_trans (Nat.le_of_ble_eq_true rfl) hR.1, Nat.le_trans (Nat.le_of_ble_eq_true rfl) hR.2⟩) (wPreV hSW hS hA hK hP hD (by decide) rfl rfl _) rfl rfl hl.1 rfl (lv_room (Nat.le_of_ble_eq_true rfl)) dX8_asks_60 ⟨Nat.le_trans (Nat.le_of_ble_eq_true rfl) hRc.1, Nat.le_trans (Nat.le_of_ble_eq_true rfl) hRc.2⟩) hD hS hA (fun H locs hP hD hS => ?_)
        refine lv_aload_n hx hb dX8_asks_63 rfl (lv_at hl 0 rfl) ?_
        refine m_gi (C := RX8) (T := TX8) (n := 15) (ci := 6) hx hb hts in_RX8 hown hK hP (by decide) rfl rfl 0 (by decide) rfl lk_43 (fun _ h9 => h9) dX8_asks_64 ?_
        refine lv_if_ne (tgt := 74) hx hb dX8_asks_67 (by decide) (fun c13 => ?_) (fun c13 => ?_)
        · have hg := if_f hg c13
          refine lv_iconst (v := 0) hx hb dX8_asks_74 (by decide) ?_
          refine W.widen (k := 3) (n := 14) (by decide) (by decide) ?_
          exact hret _ _ _ _ _ _ hg dX8_asks_75 rfl hP hD hS
        · have hg := if_t hg c13
          refine lv_iconst (v := 1) hx hb dX8_asks_70 (by decide) ?_
          refine lv_goto (tgt := 75) hx hb dX8_asks_71 (by decide) ?_
          refine W.widen (k := 3) (n := 14) (by decide) (by decide) ?_
          exact hret _ _ _ _ _ _ hg dX8_asks_75 rfl hP hD hS
      · have hg := if_f hg c10
        refine lv_aload_n hx hb dX8_asks_50 rfl (lv_at hl 0 rfl) ?_
        refine lv_iconst (v := 3) hx hb dX8_asks_51 (by decide) ?_
        obtain ⟨M14, hM14, hg⟩ := lt_e hg
        refine m_pi (C := RX8) (T := TX8) (n := 15) (ci := 6) hx hb hts in_RX8 tyX8 tyX8_ok nmX8 hown hK hP hD hS (by decide) rfl rfl 0 (by decide) rfl lk_43 (fun _ h9 => h9) rfl rfl rfl dX8_asks_52 hM14 (fun H locs hP hD hS => ?_)
        refine lv_goto (tgt := 63) hx hb dX8_asks_55 (by decide) ?_
        refine lv_aload_n hx hb dX8_asks_63 rfl (lv_at hl 0 rfl) ?_
        refine m_gi (C := RX8) (T := TX8) (n := 15) (ci := 6) hx hb hts in_RX8 hown hK hP (by decide) rfl rfl 0 (by decide) rfl lk_43 (fun _ h9 => h9) dX8_asks_64 ?_
        refine lv_if_ne (tgt := 74) hx hb dX8_asks_67 (by decide) (fun c15 => ?_) (fun c15 => ?_)
        · have hg := if_f hg c15
          refine lv_iconst (v := 0) hx hb dX8_asks_74 (by decide) ?_
          refine W.widen (k := 3) (n := 14) (by decide) (by decide) ?_
          exact hret _ _ _ _ _ _ hg dX8_asks_75 rfl hP hD hS
        · have hg := if_t hg c15
          refine lv_iconst (v := 1) hx hb dX8_asks_70 (by decide) ?_
          refine lv_goto (tgt := 75) hx hb dX8_asks_71 (by decide) ?_
          refine W.widen (k := 3) (n := 14) (by decide) (by decide) ?_
          exact hret _ _ _ _ _ _ hg dX8_asks_75 rfl hP hD hS
    · have hg := if_f hg c6
      refine lv_iconst (v := 0) hx hb dX8_asks_34 (by decide) ?_
      refine W.widen (k := 3) (n := 14) (by decide) (by decide) ?_
      exact hret _ _ _ _ _ _ hg dX8_asks_35 rfl hP hD hS
  refine lv_if_ne (tgt := 12) hx hb dX8_asks_5 (by decide) (fun c1 => ?_) (fun c1 => ?_)
  · have hg := if_f hg c1
    refine lv_aload_n hx hb dX8_asks_12 rfl (lv_at hl 0 rfl) ?_
    obtain ⟨r16, q17, hg⟩ := bd_e hg hne
    refine r_calli (W.runV (As := []) (rest := [.ref (ad 0)]) CX (ctX8_isWhole l D sw cs ad X M  q17) (cwV 0 hts (gwV m5_117 m5_119 mp3_15 m1_7 m5_120) rfl rfl rfl (by decide +kernel) ⟨Nat.le_trans (Nat.le_of_ble_eq_true rfl) hR.1, Nat.le_trans (Nat.le_of_ble_eq_true rfl) hR.2⟩) (rPreV (hSW.wr hS) hK hP (by decide) rfl rfl _) rfl rfl hl.1 rfl (lv_room (Nat.le_of_ble_eq_true rfl)) dX8_asks_13 ⟨Nat.zero_le _, Nat.zero_le _⟩) ?_
    refine lv_if_ne (tgt := 23) hx hb dX8_asks_16 (by decide) (fun c18 => ?_) (fun c18 => ?_)
    · have hg := if_f hg c18
      refine lv_iconst (v := 0) hx hb dX8_asks_23 (by decide) ?_
      exact kJ4 _ _ _ _ _ hP hD hS (lv_sub hl [0, 1] rfl) hg
    · have hg := if_t hg c18
      refine lv_iconst (v := 2) hx hb dX8_asks_19 (by decide) ?_
      refine lv_goto (tgt := 24) hx hb dX8_asks_20 (by decide) ?_
      exact kJ4 _ _ _ _ _ hP hD hS (lv_sub hl [0, 1] rfl) hg
  · have hg := if_t hg c1
    refine lv_iconst (v := 1) hx hb dX8_asks_8 (by decide) ?_
    refine lv_goto (tgt := 24) hx hb dX8_asks_9 (by decide) ?_
    exact kJ4 _ _ _ _ _ hP hD hS (lv_sub hl [0, 1] rfl) hg
theorem ctX8_asks (l : Launch) (D : va_G) (sw : Sw) (cs : Cs) (ad : Nat → Nat) (X : va_W) (sz : Nat) (M : Mm) (a1 : Int32) {r : Int32} {M1 : Mm} (hq : gX8_asks M a1 = some (r, M1)) : Met l yX8_asks wsX8_asks ({ frames := 804, cells := 3, slots := 14, locals := 19290 }) (va_Pc [.ref (ad 0), .int a1] (wPre D sw cs LM NM ad M X sz)) (wQi D cs LM NM ad M1 X sz r) 3 14 (wA NM ad X sz) :=
  met_w rfl rfl (Nat.le_of_ble_eq_true rfl) (fun p e s m args below meth c ls CX hr hlk hK hSW hP hD hS hA hl => bX8_asks M a1 hq (by simp) CX ⟨Nat.le_refl _, Nat.le_refl _⟩ hK hSW hP hD hS hA ⟨Nat.le_refl _, Nat.le_refl _⟩ hl (fun pc ls H locs v M9 hv dg hz hP hD hS => W.zret (ty := .boolean) CX.1 CX.2.1 hr hz (fun t ht hW => ⟨⟨_, (), rfl, (Prod.mk.inj (Option.some.inj hv)).1, wpost hP ht (Prod.mk.inj (Option.some.inj hv)).2⟩, hS.F ht⟩) hS.2.2 dg))

abbrev wsX8_outputs : List Cond := Cond.code yX8_outputs cX8_outputs 2 (some .int) :: WG
def gX8_outputs (M : Mm) (a1 : Int32) : Option (Int32 × Mm) := bd2 (gX8_asks M a1) fun r3 M2 => if r3 = 0 then (some ((0 : Int32), M2)) else some ((M2 0 13), M2)
set_option maxHeartbeats 4000000 in
set_option maxRecDepth 100000 in
theorem bX8_outputs {p : Program} {l : Launch} {e : Env} {R : Room} {s : State} {m : MethodId} {args : Array Value} {below : List Frame} {meth : Method} {c : Code} {H : Heap} {locs : List Loc} {Q : State → Prop} {D : va_G} {sw : Sw} {cs : Cs} {ad : Nat → Nat} {X : va_W} {A : Nat → Prop} (M : Mm) (a1 : Int32) {res : Option (Int32 × Mm)} (hg : gX8_outputs M a1 = res) (hne : res ≠ none) (CX : CallFix p m c cX8_outputs 2 s args wsX8_outputs RX8) (hR : 805 ≤ R.frames ∧ 19311 ≤ R.locals) (hK : va_K D vwCl (tysC cs) s) (hSW : SW sw A s s.heap) (hP : va_P D vwCl (wl cs LM NM ad M ++ X) H) (hD : va_D A (wl cs LM NM ad M ++ X)) (hS : va_S A s.heap H locs) (hA : ∀ q, s.heap.size ≤ q → A q) (hRc : 3 ≤ R.cells ∧ 14 ≤ R.slots) {ls : Array Slot} (hl : lv_has ls 2 [(0, .ref (ad 0)), (1, .int a1)]) (hret : ∀ (pc : Nat) (ls : Array Slot) (H : Heap) (locs : List Loc) (v : Int32) (M9 : Mm), some (v, M9) = res → decode cX8_outputs pc = .ok (.ireturn, 1) → va_P D vwCl (wl cs LM NM ad M9 ++ X) H → va_D A (wl cs LM NM ad M9 ++ X) → va_S A s.heap H locs → W p l e R s m args below meth c H locs 3 14 Q (F0 m pc ls [.int v])) : W p l e R s m args below meth c H locs 0 0 Q (F0 m 0 ls []) := by
  obtain ⟨hx, hb, hml, hown, hts⟩ := id CX
  have hw : ∀ w ∈ WG, w.before args s = true := fun w h => hts w (List.mem_cons_of_mem _ h)
  have lk_171 := hw _ m4_129
  unfold gX8_outputs at hg
  refine lv_aload_n hx hb dX8_outputs_0 rfl (lv_at hl 0 rfl) ?_
  refine lv_iload_n hx hb dX8_outputs_1 rfl (lv_at hl 1 rfl) ?_
  obtain ⟨r3, M2, q1, hg⟩ := bd2_e hg hne
  refine w_calli (va_runV (As := [.int a1]) (rest := []) CX (ctX8_asks l D sw cs ad X H.size M a1 q1) (cwV 1 hts (gwV m5_191 m5_193 mp4_9 m1_7 m5_194) rfl rfl rfl (by decide +kernel) ⟨Nat.le_trans (Nat.le_of_ble_eq_true rfl) hR.1, Nat.le_trans (Nat.le_of_ble_eq_true rfl) hR.2⟩) (wPreV hSW hS hA hK hP hD (by decide) rfl rfl _) rfl rfl hl.1 rfl (lv_room (Nat.le_of_ble_eq_true rfl)) dX8_outputs_2 ⟨Nat.le_trans (Nat.le_of_ble_eq_true rfl) hRc.1, Nat.le_trans (Nat.le_of_ble_eq_true rfl) hRc.2⟩) hD hS hA (fun H locs hP hD hS => ?_)
  refine lv_if_eq (tgt := 15) hx hb dX8_outputs_5 (by decide) (fun c4 => ?_) (fun c4 => ?_)
  · have hg := if_t hg c4
    refine lv_iconst (v := 0) hx hb dX8_outputs_15 (by decide) ?_
    refine W.widen (k := 3) (n := 14) (by decide) (by decide) ?_
    exact hret _ _ _ _ _ _ hg dX8_outputs_16 hP hD hS
  · have hg := if_f hg c4
    refine lv_aload_n hx hb dX8_outputs_8 rfl (lv_at hl 0 rfl) ?_
    refine m_gi (C := RX8) (T := TX8) (n := 15) (ci := 6) hx hb hts in_RX8 hown hK hP (by decide) rfl rfl 13 (by decide) rfl lk_171 (fun _ h9 => h9) dX8_outputs_9 ?_
    refine lv_goto (tgt := 16) hx hb dX8_outputs_12 (by decide) ?_
    refine W.widen (k := 3) (n := 14) (by decide) (by decide) ?_
    exact hret _ _ _ _ _ _ hg dX8_outputs_16 hP hD hS
theorem ctX8_outputs (l : Launch) (D : va_G) (sw : Sw) (cs : Cs) (ad : Nat → Nat) (X : va_W) (sz : Nat) (M : Mm) (a1 : Int32) {r : Int32} {M1 : Mm} (hq : gX8_outputs M a1 = some (r, M1)) : Met l yX8_outputs wsX8_outputs ({ frames := 805, cells := 3, slots := 14, locals := 19311 }) (va_Pc [.ref (ad 0), .int a1] (wPre D sw cs LM NM ad M X sz)) (wQi D cs LM NM ad M1 X sz r) 3 14 (wA NM ad X sz) :=
  met_w rfl rfl (Nat.le_of_ble_eq_true rfl) (fun p e s m args below meth c ls CX hr hlk hK hSW hP hD hS hA hl => bX8_outputs M a1 hq (by simp) CX ⟨Nat.le_refl _, Nat.le_refl _⟩ hK hSW hP hD hS hA ⟨Nat.le_refl _, Nat.le_refl _⟩ hl (fun pc ls H locs v M9 hv dg hP hD hS => W.iret CX.1 CX.2.1 hr (fun t ht hW => ⟨⟨_, (), rfl, (Prod.mk.inj (Option.some.inj hv)).1, wpost hP ht (Prod.mk.inj (Option.some.inj hv)).2⟩, hS.F ht⟩) hS.2.2 dg))

abbrev wsX8_output : List Cond := Cond.code yX8_output cX8_output 3 (some .int) :: WG
def gX8_output (M : Mm) (a1 : Int32) (a2 : Int32) : Option (Int32 × Mm) := bd2 (gX8_asks M a1) fun r3 M2 => if r3 = 0 then (some ((0 : Int32), M2)) else if (gX8_isIn a2 (0 : Int32) ((M2 0 13) - (1 : Int32))) = 0 then (bd2 (gX8_no M2 (4 : Int32)) fun r8 M7 => some (r8, M7)) else if (a2 < 0 ∨ 80 ≤ (a2).toNatClampNeg) then none else some ((M2 11 (a2).toNatClampNeg), M2)
set_option maxHeartbeats 4000000 in
set_option maxRecDepth 100000 in
theorem bX8_output {p : Program} {l : Launch} {e : Env} {R : Room} {s : State} {m : MethodId} {args : Array Value} {below : List Frame} {meth : Method} {c : Code} {H : Heap} {locs : List Loc} {Q : State → Prop} {D : va_G} {sw : Sw} {cs : Cs} {ad : Nat → Nat} {X : va_W} {A : Nat → Prop} (M : Mm) (a1 : Int32) (a2 : Int32) {res : Option (Int32 × Mm)} (hg : gX8_output M a1 a2 = res) (hne : res ≠ none) (CX : CallFix p m c cX8_output 3 s args wsX8_output RX8) (hR : 805 ≤ R.frames ∧ 19311 ≤ R.locals) (hK : va_K D vwCl (tysC cs) s) (hSW : SW sw A s s.heap) (hP : va_P D vwCl (wl cs LM NM ad M ++ X) H) (hD : va_D A (wl cs LM NM ad M ++ X)) (hS : va_S A s.heap H locs) (hA : ∀ q, s.heap.size ≤ q → A q) (hRc : 3 ≤ R.cells ∧ 14 ≤ R.slots) {ls : Array Slot} (hl : lv_has ls 3 [(0, .ref (ad 0)), (1, .int a1), (2, .int a2)]) (hret : ∀ (pc : Nat) (ls : Array Slot) (H : Heap) (locs : List Loc) (v : Int32) (M9 : Mm), some (v, M9) = res → decode cX8_output pc = .ok (.ireturn, 1) → va_P D vwCl (wl cs LM NM ad M9 ++ X) H → va_D A (wl cs LM NM ad M9 ++ X) → va_S A s.heap H locs → W p l e R s m args below meth c H locs 3 14 Q (F0 m pc ls [.int v])) : W p l e R s m args below meth c H locs 0 0 Q (F0 m 0 ls []) := by
  obtain ⟨hx, hb, hml, hown, hts⟩ := id CX
  have hw : ∀ w ∈ WG, w.before args s = true := fun w h => hts w (List.mem_cons_of_mem _ h)
  have lk_171 := hw _ m4_129
  have lk_40 := hw _ m4_130
  unfold gX8_output at hg
  refine lv_aload_n hx hb dX8_output_0 rfl (lv_at hl 0 rfl) ?_
  refine lv_iload_n hx hb dX8_output_1 rfl (lv_at hl 1 rfl) ?_
  obtain ⟨r3, M2, q1, hg⟩ := bd2_e hg hne
  refine w_calli (va_runV (As := [.int a1]) (rest := []) CX (ctX8_asks l D sw cs ad X H.size M a1 q1) (cwV 1 hts (gwV m5_191 m5_193 mp4_9 m1_7 m5_194) rfl rfl rfl (by decide +kernel) ⟨Nat.le_trans (Nat.le_of_ble_eq_true rfl) hR.1, Nat.le_trans (Nat.le_of_ble_eq_true rfl) hR.2⟩) (wPreV hSW hS hA hK hP hD (by decide) rfl rfl _) rfl rfl hl.1 rfl (lv_room (Nat.le_of_ble_eq_true rfl)) dX8_output_2 ⟨Nat.le_trans (Nat.le_of_ble_eq_true rfl) hRc.1, Nat.le_trans (Nat.le_of_ble_eq_true rfl) hRc.2⟩) hD hS hA (fun H locs hP hD hS => ?_)
  refine lv_if_ne (tgt := 10) hx hb dX8_output_5 (by decide) (fun c4 => ?_) (fun c4 => ?_)
  · have hg := if_f hg c4
    refine lv_iload_n hx hb dX8_output_10 rfl (lv_at hl 2 rfl) ?_
    refine lv_iconst (v := 0) hx hb dX8_output_11 (by decide) ?_
    refine lv_aload_n hx hb dX8_output_12 rfl (lv_at hl 0 rfl) ?_
    refine m_gi (C := RX8) (T := TX8) (n := 15) (ci := 6) hx hb hts in_RX8 hown hK hP (by decide) rfl rfl 13 (by decide) rfl lk_171 (fun _ h9 => h9) dX8_output_13 ?_
    refine lv_iconst (v := 1) hx hb dX8_output_16 (by decide) ?_
    refine lv_isub hx hb dX8_output_17 ?_
    refine r_calli (W.runS (As := [.int a2, .int (0 : Int32), .int ((M2 0 13) - (1 : Int32))]) (rest := []) CX (ctX8_isIn l a2 (0 : Int32) ((M2 0 13) - (1 : Int32))) (va_cwS 3 hts (gwS m5_7 m5_8 m1_7 m5_9) rfl rfl rfl (by decide +kernel) ⟨Nat.le_trans (Nat.le_of_ble_eq_true rfl) hR.1, Nat.le_trans (Nat.le_of_ble_eq_true rfl) hR.2⟩) (pPreS _) rfl rfl hl.1 rfl (lv_room (Nat.le_of_ble_eq_true rfl)) dX8_output_18 ⟨Nat.le_trans (Nat.le_of_ble_eq_true rfl) hRc.1, Nat.le_trans (Nat.le_of_ble_eq_true rfl) hRc.2⟩) ?_
    refine lv_if_eq (tgt := 33) hx hb dX8_output_21 (by decide) (fun c5 => ?_) (fun c5 => ?_)
    · have hg := if_t hg c5
      refine lv_aload_n hx hb dX8_output_33 rfl (lv_at hl 0 rfl) ?_
      refine lv_iconst (v := 4) hx hb dX8_output_34 (by decide) ?_
      obtain ⟨r8, M7, q6, hg⟩ := bd2_e hg hne
      refine w_calli (va_runV (As := [.int (4 : Int32)]) (rest := []) CX (ctX8_no l D sw cs ad X H.size M2 (4 : Int32) q6) (cwV 1 hts (gwV m4_232 m4_234 mp3_4 m1_7 m4_235) rfl rfl rfl (by decide +kernel) ⟨Nat.le_trans (Nat.le_of_ble_eq_true rfl) hR.1, Nat.le_trans (Nat.le_of_ble_eq_true rfl) hR.2⟩) (wPreV hSW hS hA hK hP hD (by decide) rfl rfl _) rfl rfl hl.1 rfl (lv_room (Nat.le_of_ble_eq_true rfl)) dX8_output_35 ⟨Nat.le_trans (Nat.le_of_ble_eq_true rfl) hRc.1, Nat.le_trans (Nat.le_of_ble_eq_true rfl) hRc.2⟩) hD hS hA (fun H locs hP hD hS => ?_)
      refine W.widen (k := 3) (n := 14) (by decide) (by decide) ?_
      exact hret _ _ _ _ _ _ hg dX8_output_38 hP hD hS
    · have hg := if_f hg c5
      refine lv_aload_n hx hb dX8_output_24 rfl (lv_at hl 0 rfl) ?_
      refine m_gr (C := RX8) (T := TX8) (n := 15) (ci := 6) hx hb hts in_RX8 hown hK hP (by decide) rfl rfl 14 (by decide) rfl lk_40 (fun _ h9 => h9) dX8_output_25 ?_
      refine lv_iload_n hx hb dX8_output_28 rfl (lv_at hl 2 rfl) ?_
      obtain ⟨b9, hg⟩ := ck_e hg hne
      refine m_ld hx hb hK hP (by decide) rfl b9 dX8_output_29 ?_
      refine lv_goto (tgt := 38) hx hb dX8_output_30 (by decide) ?_
      refine W.widen (k := 3) (n := 14) (by decide) (by decide) ?_
      exact hret _ _ _ _ _ _ hg dX8_output_38 hP hD hS
  · have hg := if_t hg c4
    refine lv_iconst (v := 0) hx hb dX8_output_8 (by decide) ?_
    refine W.widen (k := 3) (n := 14) (by decide) (by decide) ?_
    exact hret _ _ _ _ _ _ hg dX8_output_9 hP hD hS
theorem ctX8_output (l : Launch) (D : va_G) (sw : Sw) (cs : Cs) (ad : Nat → Nat) (X : va_W) (sz : Nat) (M : Mm) (a1 : Int32) (a2 : Int32) {r : Int32} {M1 : Mm} (hq : gX8_output M a1 a2 = some (r, M1)) : Met l yX8_output wsX8_output ({ frames := 805, cells := 3, slots := 14, locals := 19311 }) (va_Pc [.ref (ad 0), .int a1, .int a2] (wPre D sw cs LM NM ad M X sz)) (wQi D cs LM NM ad M1 X sz r) 3 14 (wA NM ad X sz) :=
  met_w rfl rfl (Nat.le_of_ble_eq_true rfl) (fun p e s m args below meth c ls CX hr hlk hK hSW hP hD hS hA hl => bX8_output M a1 a2 hq (by simp) CX ⟨Nat.le_refl _, Nat.le_refl _⟩ hK hSW hP hD hS hA ⟨Nat.le_refl _, Nat.le_refl _⟩ hl (fun pc ls H locs v M9 hv dg hP hD hS => W.iret CX.1 CX.2.1 hr (fun t ht hW => ⟨⟨_, (), rfl, (Prod.mk.inj (Option.some.inj hv)).1, wpost hP ht (Prod.mk.inj (Option.some.inj hv)).2⟩, hS.F ht⟩) hS.2.2 dg))

abbrev wsX8_variable : List Cond := Cond.code yX8_variable cX8_variable 3 (some .int) :: WG
def gX8_variable (M : Mm) (a1 : Int32) (a2 : Int32) : Option (Int32 × Mm) := bd2 (gX8_asks M a1) fun r3 M2 => if r3 = 0 then (some ((0 : Int32), M2)) else if (gX8_isIn a2 (0 : Int32) (3 : Int32)) = 0 then (bd2 (gX8_no M2 (4 : Int32)) fun r8 M7 => some (r8, M7)) else if (a2 < 0 ∨ 4 ≤ (a2).toNatClampNeg) then none else some ((M2 10 (a2).toNatClampNeg), M2)
set_option maxHeartbeats 4000000 in
set_option maxRecDepth 100000 in
theorem bX8_variable {p : Program} {l : Launch} {e : Env} {R : Room} {s : State} {m : MethodId} {args : Array Value} {below : List Frame} {meth : Method} {c : Code} {H : Heap} {locs : List Loc} {Q : State → Prop} {D : va_G} {sw : Sw} {cs : Cs} {ad : Nat → Nat} {X : va_W} {A : Nat → Prop} (M : Mm) (a1 : Int32) (a2 : Int32) {res : Option (Int32 × Mm)} (hg : gX8_variable M a1 a2 = res) (hne : res ≠ none) (CX : CallFix p m c cX8_variable 3 s args wsX8_variable RX8) (hR : 805 ≤ R.frames ∧ 19311 ≤ R.locals) (hK : va_K D vwCl (tysC cs) s) (hSW : SW sw A s s.heap) (hP : va_P D vwCl (wl cs LM NM ad M ++ X) H) (hD : va_D A (wl cs LM NM ad M ++ X)) (hS : va_S A s.heap H locs) (hA : ∀ q, s.heap.size ≤ q → A q) (hRc : 3 ≤ R.cells ∧ 14 ≤ R.slots) {ls : Array Slot} (hl : lv_has ls 3 [(0, .ref (ad 0)), (1, .int a1), (2, .int a2)]) (hret : ∀ (pc : Nat) (ls : Array Slot) (H : Heap) (locs : List Loc) (v : Int32) (M9 : Mm), some (v, M9) = res → decode cX8_variable pc = .ok (.ireturn, 1) → va_P D vwCl (wl cs LM NM ad M9 ++ X) H → va_D A (wl cs LM NM ad M9 ++ X) → va_S A s.heap H locs → W p l e R s m args below meth c H locs 3 14 Q (F0 m pc ls [.int v])) : W p l e R s m args below meth c H locs 0 0 Q (F0 m 0 ls []) := by
  obtain ⟨hx, hb, hml, hown, hts⟩ := id CX
  have hw : ∀ w ∈ WG, w.before args s = true := fun w h => hts w (List.mem_cons_of_mem _ h)
  have lk_37 := hw _ m4_128
  unfold gX8_variable at hg
  refine lv_aload_n hx hb dX8_variable_0 rfl (lv_at hl 0 rfl) ?_
  refine lv_iload_n hx hb dX8_variable_1 rfl (lv_at hl 1 rfl) ?_
  obtain ⟨r3, M2, q1, hg⟩ := bd2_e hg hne
  refine w_calli (va_runV (As := [.int a1]) (rest := []) CX (ctX8_asks l D sw cs ad X H.size M a1 q1) (cwV 1 hts (gwV m5_191 m5_193 mp4_9 m1_7 m5_194) rfl rfl rfl (by decide +kernel) ⟨Nat.le_trans (Nat.le_of_ble_eq_true rfl) hR.1, Nat.le_trans (Nat.le_of_ble_eq_true rfl) hR.2⟩) (wPreV hSW hS hA hK hP hD (by decide) rfl rfl _) rfl rfl hl.1 rfl (lv_room (Nat.le_of_ble_eq_true rfl)) dX8_variable_2 ⟨Nat.le_trans (Nat.le_of_ble_eq_true rfl) hRc.1, Nat.le_trans (Nat.le_of_ble_eq_true rfl) hRc.2⟩) hD hS hA (fun H locs hP hD hS => ?_)
  refine lv_if_ne (tgt := 10) hx hb dX8_variable_5 (by decide) (fun c4 => ?_) (fun c4 => ?_)
  · have hg := if_f hg c4
    refine lv_iload_n hx hb dX8_variable_10 rfl (lv_at hl 2 rfl) ?_
    refine lv_iconst (v := 0) hx hb dX8_variable_11 (by decide) ?_
    refine lv_iconst (v := 3) hx hb dX8_variable_12 (by decide) ?_
    refine r_calli (W.runS (As := [.int a2, .int (0 : Int32), .int (3 : Int32)]) (rest := []) CX (ctX8_isIn l a2 (0 : Int32) (3 : Int32)) (va_cwS 3 hts (gwS m5_7 m5_8 m1_7 m5_9) rfl rfl rfl (by decide +kernel) ⟨Nat.le_trans (Nat.le_of_ble_eq_true rfl) hR.1, Nat.le_trans (Nat.le_of_ble_eq_true rfl) hR.2⟩) (pPreS _) rfl rfl hl.1 rfl (lv_room (Nat.le_of_ble_eq_true rfl)) dX8_variable_13 ⟨Nat.le_trans (Nat.le_of_ble_eq_true rfl) hRc.1, Nat.le_trans (Nat.le_of_ble_eq_true rfl) hRc.2⟩) ?_
    refine lv_if_eq (tgt := 28) hx hb dX8_variable_16 (by decide) (fun c5 => ?_) (fun c5 => ?_)
    · have hg := if_t hg c5
      refine lv_aload_n hx hb dX8_variable_28 rfl (lv_at hl 0 rfl) ?_
      refine lv_iconst (v := 4) hx hb dX8_variable_29 (by decide) ?_
      obtain ⟨r8, M7, q6, hg⟩ := bd2_e hg hne
      refine w_calli (va_runV (As := [.int (4 : Int32)]) (rest := []) CX (ctX8_no l D sw cs ad X H.size M2 (4 : Int32) q6) (cwV 1 hts (gwV m4_232 m4_234 mp3_4 m1_7 m4_235) rfl rfl rfl (by decide +kernel) ⟨Nat.le_trans (Nat.le_of_ble_eq_true rfl) hR.1, Nat.le_trans (Nat.le_of_ble_eq_true rfl) hR.2⟩) (wPreV hSW hS hA hK hP hD (by decide) rfl rfl _) rfl rfl hl.1 rfl (lv_room (Nat.le_of_ble_eq_true rfl)) dX8_variable_30 ⟨Nat.le_trans (Nat.le_of_ble_eq_true rfl) hRc.1, Nat.le_trans (Nat.le_of_ble_eq_true rfl) hRc.2⟩) hD hS hA (fun H locs hP hD hS => ?_)
      refine W.widen (k := 3) (n := 14) (by decide) (by decide) ?_
      exact hret _ _ _ _ _ _ hg dX8_variable_33 hP hD hS
    · have hg := if_f hg c5
      refine lv_aload_n hx hb dX8_variable_19 rfl (lv_at hl 0 rfl) ?_
      refine m_gr (C := RX8) (T := TX8) (n := 15) (ci := 6) hx hb hts in_RX8 hown hK hP (by decide) rfl rfl 12 (by decide) rfl lk_37 (fun _ h9 => h9) dX8_variable_20 ?_
      refine lv_iload_n hx hb dX8_variable_23 rfl (lv_at hl 2 rfl) ?_
      obtain ⟨b9, hg⟩ := ck_e hg hne
      refine m_ld hx hb hK hP (by decide) rfl b9 dX8_variable_24 ?_
      refine lv_goto (tgt := 33) hx hb dX8_variable_25 (by decide) ?_
      refine W.widen (k := 3) (n := 14) (by decide) (by decide) ?_
      exact hret _ _ _ _ _ _ hg dX8_variable_33 hP hD hS
  · have hg := if_t hg c4
    refine lv_iconst (v := 0) hx hb dX8_variable_8 (by decide) ?_
    refine W.widen (k := 3) (n := 14) (by decide) (by decide) ?_
    exact hret _ _ _ _ _ _ hg dX8_variable_9 hP hD hS
theorem ctX8_variable (l : Launch) (D : va_G) (sw : Sw) (cs : Cs) (ad : Nat → Nat) (X : va_W) (sz : Nat) (M : Mm) (a1 : Int32) (a2 : Int32) {r : Int32} {M1 : Mm} (hq : gX8_variable M a1 a2 = some (r, M1)) : Met l yX8_variable wsX8_variable ({ frames := 805, cells := 3, slots := 14, locals := 19311 }) (va_Pc [.ref (ad 0), .int a1, .int a2] (wPre D sw cs LM NM ad M X sz)) (wQi D cs LM NM ad M1 X sz r) 3 14 (wA NM ad X sz) :=
  met_w rfl rfl (Nat.le_of_ble_eq_true rfl) (fun p e s m args below meth c ls CX hr hlk hK hSW hP hD hS hA hl => bX8_variable M a1 a2 hq (by simp) CX ⟨Nat.le_refl _, Nat.le_refl _⟩ hK hSW hP hD hS hA ⟨Nat.le_refl _, Nat.le_refl _⟩ hl (fun pc ls H locs v M9 hv dg hP hD hS => W.iret CX.1 CX.2.1 hr (fun t ht hW => ⟨⟨_, (), rfl, (Prod.mk.inj (Option.some.inj hv)).1, wpost hP ht (Prod.mk.inj (Option.some.inj hv)).2⟩, hS.F ht⟩) hS.2.2 dg))
