set_option maxHeartbeats 4000000 in
set_option maxRecDepth 100000 in
theorem lA_step {p : Program} {l : Launch} {e : Env} {R : Room} {s : State} {m : MethodId} {below : List Frame} {meth : Method} {c : Code} {Q : State → Prop} {b L : Nat} {xs : Nat → Int32} {D : va_G} {sw : Sw} {cs : Cs} (K : LK l p R s m c b L xs D sw cs) {ad : Nat → Nat} {o n : Nat} {cd : Nat → Nat} (hw : st cd n = some []) (hn : n ≤ 65) {f : Nat → Int32} (hf : ∀ i, i < n → f i = nI (cd i)) {V : Int32} {c0 : Nat} (hc0 : c0 < 16) {k0 j0 : Nat} (hcs : k0 + 20 ≤ R.cells) (hss : j0 + 200 ≤ R.slots) {ad2 : Nat → Nat} {d t : Nat} (hd : d < 16) (ht : t < 4) {k : Nat} (hk : k < (vl cd d n).length) {M M2 : Mm} {cd2 : Nat → Nat} (hO : Ok M n cd) (hO2 : Ok M2 k cd2) (hw2 : st cd2 k = some []) (hal : (∀ i, i < k → cd2 i = cd ((vl cd d n).getD i 0))) {H : Heap} {locs : List Loc} {ls : Array Slot} (hP : va_P D vwCl (wl cs LC NC ad M ++ X2 cs ad2 M2 o f) H) (hD : va_D (AL s) (wl cs LC NC ad M ++ X2 cs ad2 M2 o f)) (hS : va_S (AL s) s.heap H locs) (hl : lv_has ls 14 [(10, .int (nI k)), (9, .int (nI (vl cd d n).length)), (8, .ref (ad2 0)), (7, .int (nI d)), (6, .int (nI t)), (0, .ref b), (1, .ref (ad 0)), (2, .ref o), (3, .int (nI n)), (4, .int V), (5, .int (nI c0))]) (kk : ∀ (M M2 : Mm) (cd2 : Nat → Nat) (H : Heap) (locs : List Loc) (ls : Array Slot), Ok M n cd → Ok M2 (k + 1) cd2 → st cd2 (k + 1) = some [] → (∀ i, i < (k + 1) → cd2 i = cd ((vl cd d n).getD i 0)) → va_P D vwCl (wl cs LC NC ad M ++ X2 cs ad2 M2 o f) H → va_D (AL s) (wl cs LC NC ad M ++ X2 cs ad2 M2 o f) → va_S (AL s) s.heap H locs → lv_has ls 14 [(10, .int (nI (k + 1))), (9, .int (nI (vl cd d n).length)), (8, .ref (ad2 0)), (7, .int (nI d)), (6, .int (nI t)), (0, .ref b), (1, .ref (ad 0)), (2, .ref o), (3, .int (nI n)), (4, .int V), (5, .int (nI c0))] → W p l e R s m #[Value.ref b] below meth c H locs (k0 + 20) (j0 + 200) Q (F0 m 86 ls [])) : W p l e R s m #[Value.ref b] below meth c H locs (k0) (j0) Q (F0 m 86 ls []) := by
  obtain ⟨CX, hX, hbl, hK, hSW, hC, hAO, hfl, hR⟩ := id K
  obtain ⟨hx, hb, hml, hown, hts⟩ := id CX
  have hwd : ∀ w ∈ WG, w.before _ s = true := fun w h => hts w (List.mem_cons_of_mem _ h)
  have hA : ∀ q, s.heap.size ≤ q → AL s q := fun _ h => h
  have hbA : ¬ AL s b := Nat.not_le.mpr hbl
  have hvl := vl_len (cd := cd) (c := d) n
  have hg := vl_get hk
  have h18 := vl_18 hk
  have htok := tok_of hO.2.1 hg.1 h18
  refine lv_iload hx hb dL_law_86 (lv_at hl 0 rfl) ?_
  refine lv_iload hx hb dL_law_88 (lv_at hl 1 rfl) ?_
  refine lv_icmp_ge (tgt := 177) hx hb dL_law_90 (by decide) (fun h9 => absurd h9 (nI_ge hk (by omega))) (fun _ => ?_)
  refine lv_aload_n hx hb dL_law_93 rfl (lv_at hl 6 rfl) ?_
  refine lv_iload hx hb dL_law_94 (lv_at hl 3 rfl) ?_
  refine lv_iload hx hb dL_law_96 (lv_at hl 0 rfl) ?_
  obtain ⟨M4, e1, hO1⟩ := k_place hO hd hk
  refine t_calli (vx_runV (As := [.int (nI d), .int (nI k)]) (rest := []) CX (ctX7_place l hfl D sw cs ad (X2 cs ad2 M2 o f) H.size M (nI d) (nI k) e1) (cwV 2 hts (gwV m3_67 m3_68 m3_69 m1_1 m3_70) rfl rfl rfl (by decide +kernel) ⟨Nat.le_trans (Nat.le_of_ble_eq_true rfl) hR.1, Nat.le_trans (Nat.le_of_ble_eq_true rfl) hR.2⟩) (wPreV hSW hS hA hK hP hD (by decide) rfl rfl _) rfl rfl hl.1 rfl (lv_room (Nat.le_of_ble_eq_true rfl)) dL_law_98 ⟨Nat.le_trans (show _ ≤ k0 + 20 by omega) hcs, Nat.le_trans (show _ ≤ j0 + 200 by omega) hss⟩) hD hS hA (fun k9 ho9 => by cases ho9) (fun r9 ho9 H locs hP hD hS => ?_)
  cases ho9
  replace hO := hO1
  refine lv_istore (lv' := [(11, .int (nI ((vl cd d n).getD k 0))), (10, .int (nI k)), (9, .int (nI (vl cd d n).length)), (8, .ref (ad2 0)), (7, .int (nI d)), (6, .int (nI t)), (0, .ref b), (1, .ref (ad 0)), (2, .ref o), (3, .int (nI n)), (4, .int V), (5, .int (nI c0))]) hx hb dL_law_101 hl (by decide) rfl (fun ls hl => ?_)
  refine lv_aload_n hx hb dL_law_103 rfl (lv_at hl 7 rfl) ?_
  refine lv_iload hx hb dL_law_104 (lv_at hl 0 rfl) ?_
  refine t_calli (vx_runV (As := [.int (nI ((vl cd d n).getD k 0))]) (rest := []) CX (ctX7_item l hfl D sw cs ad (X2 cs ad2 M2 o f) H.size M4 (nI ((vl cd d n).getD k 0)) (k_item hO hg.1)) (cwV 1 hts (gwV m2_44 m2_45 m2_46 m1_1 m2_47) rfl rfl rfl (by decide +kernel) ⟨Nat.le_trans (Nat.le_of_ble_eq_true rfl) hR.1, Nat.le_trans (Nat.le_of_ble_eq_true rfl) hR.2⟩) (wPreV hSW hS hA hK hP hD (by decide) rfl rfl _) rfl rfl hl.1 rfl (lv_room (Nat.le_of_ble_eq_true rfl)) dL_law_106 ⟨Nat.le_trans (show _ ≤ k0 + 20 by omega) hcs, Nat.le_trans (show _ ≤ j0 + 200 by omega) hss⟩) hD hS hA (fun k9 ho9 => by cases ho9) (fun r9 ho9 H locs hP hD hS => ?_)
  cases ho9
  refine lv_aload_n hx hb dL_law_109 rfl (lv_at hl 8 rfl) ?_
  refine lv_iload hx hb dL_law_110 (lv_at hl 0 rfl) ?_
  refine va_iald hx hb hK hP (NC + (NC + 0)) 0 X2_get rfl (nI_in (by omega) (by decide)) dL_law_112 ?_
  rw [cI (show ((vl cd d n).getD k 0) < 2 ^ 31 by omega), hf _ hg.1]
  refine lv_icmp_ne (tgt := 150) hx hb dL_law_113 (by decide) (fun h9 => absurd h9 (fun q => q rfl)) (fun _ => ?_)
  refine lv_aload_n hx hb dL_law_116 rfl (lv_at hl 7 rfl) ?_
  refine lv_iload hx hb dL_law_117 (lv_at hl 0 rfl) ?_
  obtain ⟨M5, e1, hO1⟩ := k_presence hO hg.1
  refine t_calli (vx_runV (As := [.int (nI ((vl cd d n).getD k 0))]) (rest := []) CX (ctX7_presence l hfl D sw cs ad (X2 cs ad2 M2 o f) H.size M4 (nI ((vl cd d n).getD k 0)) e1) (cwV 1 hts (gwV m2_68 m2_69 m2_70 m1_1 m2_71) rfl rfl rfl (by decide +kernel) ⟨Nat.le_trans (Nat.le_of_ble_eq_true rfl) hR.1, Nat.le_trans (Nat.le_of_ble_eq_true rfl) hR.2⟩) (wPreV hSW hS hA hK hP hD (by decide) rfl rfl _) rfl rfl hl.1 rfl (lv_room (Nat.le_of_ble_eq_true rfl)) dL_law_119 ⟨Nat.le_trans (show _ ≤ k0 + 20 by omega) hcs, Nat.le_trans (show _ ≤ j0 + 200 by omega) hss⟩) hD hS hA (fun k9 ho9 => by cases ho9) (fun r9 ho9 H locs hP hD hS => ?_)
  cases ho9
  replace hO := hO1
  refine lv_iload hx hb dL_law_122 (lv_at hl 4 rfl) ?_
  refine lv_ishr hx hb dL_law_124 ?_
  refine lv_iconst (v := 1) hx hb dL_law_125 (by decide) ?_
  refine lv_iand hx hb dL_law_126 ?_
  refine top_i (y := (1 : Int32)) ((pres_bit hg.2).symm) ?_
  refine lv_if_eq (tgt := 150) hx hb dL_law_127 (by decide) (fun h9 => absurd h9 (by decide)) (fun _ => ?_)
  refine lv_iload hx hb dL_law_130 (lv_at hl 1 rfl) ?_
  refine lv_if_le (tgt := 152) hx hb dL_law_132 (by decide) (fun h9 => ?_) (fun h9 => ?_)
  · refine lv_aload hx hb dL_law_152 (lv_at hl 3 rfl) ?_
    refine lv_aload_n hx hb dL_law_154 rfl (lv_at hl 8 rfl) ?_
    refine lv_iload hx hb dL_law_155 (lv_at hl 0 rfl) ?_
    refine va_iald hx hb hK hP (NC + (NC + 0)) 0 X2_get rfl (nI_in (by omega) (by decide)) dL_law_157 ?_
    rw [cI (show ((vl cd d n).getD k 0) < 2 ^ 31 by omega), hf _ hg.1]
    refine lv_i2l hx hb dL_law_158 rfl ?_
    obtain ⟨cd3, M6, e6, hO6, hw6, h61, h62⟩ := k_one hO2 hw2 (show k < 80 by omega) htok.1 htok.2
    have hP := sw2P hP
    have hD := sw2D hD
    refine t_calli (vx_runV (As := [.long (((nI (cd ((vl cd d n).getD k 0)))).toInt64)]) (rest := []) CX (ctX7_write l hfl D sw cs ad2 (X2 cs ad M5 o f) H.size M2 _ e6) (cwV 1 hts (gwV m1_175 m1_176 m1_177 m1_1 m1_178) rfl rfl rfl (by decide +kernel) ⟨Nat.le_trans (Nat.le_of_ble_eq_true rfl) hR.1, Nat.le_trans (Nat.le_of_ble_eq_true rfl) hR.2⟩) (wPreV hSW hS hA hK hP hD (by decide) rfl rfl _) rfl rfl hl.1 rfl (lv_room (Nat.le_of_ble_eq_true rfl)) dL_law_159 ⟨Nat.le_trans (show _ ≤ k0 + 20 by omega) hcs, Nat.le_trans (show _ ≤ j0 + 200 by omega) hss⟩) hD hS hA (fun k9 ho9 => by cases ho9) (fun r9 ho9 H locs hP hD hS => ?_)
    cases ho9
    have hP := sw2P hP
    have hD := sw2D hD
    refine lv_iload hx hb dL_law_162 (lv_at hl 1 rfl) ?_
    refine lv_iconst (v := 1) hx hb dL_law_164 (by decide) ?_
    refine lv_iadd hx hb dL_law_165 ?_
    refine top_i (y := (nI (k + 1))) ((up1 k).symm) ?_
    refine lv_icmp_eq (tgt := 171) hx hb dL_law_166 (by decide) (fun _ => ?_) (fun h9 => absurd (rfl) h9)
    refine lv_iinc (v := (nI (k + 1))) (lv' := [(10, .int (nI (k + 1))), (11, .int (nI ((vl cd d n).getD k 0))), (9, .int (nI (vl cd d n).length)), (8, .ref (ad2 0)), (7, .int (nI d)), (6, .int (nI t)), (0, .ref b), (1, .ref (ad 0)), (2, .ref o), (3, .int (nI n)), (4, .int V), (5, .int (nI c0))]) hx hb dL_law_171 hl (k := 1) rfl (up1 k) (by decide) rfl (fun ls hl => ?_)
    refine lv_goto (tgt := 86) hx hb dL_law_174 (by decide) ?_
    refine W.widen (k := k0 + 20) (n := j0 + 200) (by omega) (by omega) ?_
    exact kk M5 M6 cd3 H locs ls hO hO6 hw6 (Al_step hal h61 h62) hP hD hS (lv_sub hl [0, 2, 3, 4, 5, 6, 7, 8, 9, 10, 11] rfl)
  · obtain ⟨k9, rfl⟩ : ∃ k9, k = k9 + 1 := ⟨k - 1, by
      rcases Nat.eq_zero_or_pos k with q | q
      · exact absurd (show nI k ≤ 0 by rw [q]; decide) h9
      · omega⟩
    refine lv_iload hx hb dL_law_135 (lv_at hl 0 rfl) ?_
    refine lv_aload_n hx hb dL_law_137 rfl (lv_at hl 7 rfl) ?_
    refine lv_iload hx hb dL_law_138 (lv_at hl 4 rfl) ?_
    refine lv_iload hx hb dL_law_140 (lv_at hl 1 rfl) ?_
    refine lv_iconst (v := 1) hx hb dL_law_142 (by decide) ?_
    refine lv_isub hx hb dL_law_143 ?_
    refine top_i (y := (nI k9)) ((nI_pred k9).symm) ?_
    obtain ⟨M7, e1, hO1⟩ := k_place hO hd (show k9 < (vl cd d n).length by omega)
    refine t_calli (vx_runV (As := [.int (nI d), .int (nI k9)]) (rest := [.int (nI ((vl cd d n).getD (k9 + 1) 0))]) CX (ctX7_place l hfl D sw cs ad (X2 cs ad2 M2 o f) H.size M5 (nI d) (nI k9) e1) (cwV 2 hts (gwV m3_67 m3_68 m3_69 m1_1 m3_70) rfl rfl rfl (by decide +kernel) ⟨Nat.le_trans (Nat.le_of_ble_eq_true rfl) hR.1, Nat.le_trans (Nat.le_of_ble_eq_true rfl) hR.2⟩) (wPreV hSW hS hA hK hP hD (by decide) rfl rfl _) rfl rfl hl.1 rfl (lv_room (Nat.le_of_ble_eq_true rfl)) dL_law_144 ⟨Nat.le_trans (show _ ≤ k0 + 20 by omega) hcs, Nat.le_trans (show _ ≤ j0 + 200 by omega) hss⟩) hD hS hA (fun k9 ho9 => by cases ho9) (fun r9 ho9 H locs hP hD hS => ?_)
    cases ho9
    replace hO := hO1
    refine lv_icmp_gt (tgt := 152) hx hb dL_law_147 (by decide) (fun _ => ?_) (fun h9 => absurd (nI_lt (vl_inc hk) (by omega)) h9)
    refine lv_aload hx hb dL_law_152 (lv_at hl 3 rfl) ?_
    refine lv_aload_n hx hb dL_law_154 rfl (lv_at hl 8 rfl) ?_
    refine lv_iload hx hb dL_law_155 (lv_at hl 0 rfl) ?_
    refine va_iald hx hb hK hP (NC + (NC + 0)) 0 X2_get rfl (nI_in (by omega) (by decide)) dL_law_157 ?_
    rw [cI (show ((vl cd d n).getD (k9 + 1) 0) < 2 ^ 31 by omega), hf _ hg.1]
    refine lv_i2l hx hb dL_law_158 rfl ?_
    obtain ⟨cd3, M6, e6, hO6, hw6, h61, h62⟩ := k_one hO2 hw2 (show k9 + 1 < 80 by omega) htok.1 htok.2
    have hP := sw2P hP
    have hD := sw2D hD
    refine t_calli (vx_runV (As := [.long (((nI (cd ((vl cd d n).getD (k9 + 1) 0)))).toInt64)]) (rest := []) CX (ctX7_write l hfl D sw cs ad2 (X2 cs ad M7 o f) H.size M2 _ e6) (cwV 1 hts (gwV m1_175 m1_176 m1_177 m1_1 m1_178) rfl rfl rfl (by decide +kernel) ⟨Nat.le_trans (Nat.le_of_ble_eq_true rfl) hR.1, Nat.le_trans (Nat.le_of_ble_eq_true rfl) hR.2⟩) (wPreV hSW hS hA hK hP hD (by decide) rfl rfl _) rfl rfl hl.1 rfl (lv_room (Nat.le_of_ble_eq_true rfl)) dL_law_159 ⟨Nat.le_trans (show _ ≤ k0 + 20 by omega) hcs, Nat.le_trans (show _ ≤ j0 + 200 by omega) hss⟩) hD hS hA (fun k9 ho9 => by cases ho9) (fun r9 ho9 H locs hP hD hS => ?_)
    cases ho9
    have hP := sw2P hP
    have hD := sw2D hD
    refine lv_iload hx hb dL_law_162 (lv_at hl 1 rfl) ?_
    refine lv_iconst (v := 1) hx hb dL_law_164 (by decide) ?_
    refine lv_iadd hx hb dL_law_165 ?_
    refine top_i (y := (nI (k9 + 1 + 1))) ((up1 (k9 + 1)).symm) ?_
    refine lv_icmp_eq (tgt := 171) hx hb dL_law_166 (by decide) (fun _ => ?_) (fun h9 => absurd (rfl) h9)
    refine lv_iinc (v := (nI (k9 + 1 + 1))) (lv' := [(10, .int (nI (k9 + 1 + 1))), (11, .int (nI ((vl cd d n).getD (k9 + 1) 0))), (9, .int (nI (vl cd d n).length)), (8, .ref (ad2 0)), (7, .int (nI d)), (6, .int (nI t)), (0, .ref b), (1, .ref (ad 0)), (2, .ref o), (3, .int (nI n)), (4, .int V), (5, .int (nI c0))]) hx hb dL_law_171 hl (k := 1) rfl (up1 (k9 + 1)) (by decide) rfl (fun ls hl => ?_)
    refine lv_goto (tgt := 86) hx hb dL_law_174 (by decide) ?_
    refine W.widen (k := k0 + 20) (n := j0 + 200) (by omega) (by omega) ?_
    exact kk M7 M6 cd3 H locs ls hO hO6 hw6 (Al_step hal h61 h62) hP hD hS (lv_sub hl [0, 2, 3, 4, 5, 6, 7, 8, 9, 10, 11] rfl)
set_option maxHeartbeats 4000000 in
set_option maxRecDepth 100000 in
theorem lA {p : Program} {l : Launch} {e : Env} {R : Room} {s : State} {m : MethodId} {below : List Frame} {meth : Method} {c : Code} {Q : State → Prop} {b L : Nat} {xs : Nat → Int32} {D : va_G} {sw : Sw} {cs : Cs} (K : LK l p R s m c b L xs D sw cs) {ad : Nat → Nat} {o n : Nat} {cd : Nat → Nat} (hw : st cd n = some []) (hn : n ≤ 65) {f : Nat → Int32} (hf : ∀ i, i < n → f i = nI (cd i)) {V : Int32} {c0 : Nat} (hc0 : c0 < 16) {k0 j0 : Nat} (hcs : k0 + 1600 ≤ R.cells) (hss : j0 + 16000 ≤ R.slots) {ad2 : Nat → Nat} {d t : Nat} (hd : d < 16) (ht : t < 4) (kk : ∀ (M M2 : Mm) (cd2 : Nat → Nat) (H : Heap) (locs : List Loc) (ls : Array Slot), Ok M n cd → Ok M2 (vl cd d n).length cd2 → st cd2 (vl cd d n).length = some [] → (∀ i, i < (vl cd d n).length → cd2 i = cd ((vl cd d n).getD i 0)) → va_P D vwCl (wl cs LC NC ad M ++ X2 cs ad2 M2 o f) H → va_D (AL s) (wl cs LC NC ad M ++ X2 cs ad2 M2 o f) → va_S (AL s) s.heap H locs → lv_has ls 14 [(10, .int (nI (vl cd d n).length)), (9, .int (nI (vl cd d n).length)), (8, .ref (ad2 0)), (7, .int (nI d)), (6, .int (nI t)), (0, .ref b), (1, .ref (ad 0)), (2, .ref o), (3, .int (nI n)), (4, .int V), (5, .int (nI c0))] → W p l e R s m #[Value.ref b] below meth c H locs (k0 + 20 * (vl cd d n).length) (j0 + 200 * (vl cd d n).length) Q (F0 m 177 ls [])) : ∀ (g k : Nat), k + g = (vl cd d n).length → ∀ (M M2 : Mm) (cd2 : Nat → Nat) (H : Heap) (locs : List Loc) (ls : Array Slot), Ok M n cd → Ok M2 k cd2 → st cd2 k = some [] → (∀ i, i < k → cd2 i = cd ((vl cd d n).getD i 0)) → va_P D vwCl (wl cs LC NC ad M ++ X2 cs ad2 M2 o f) H → va_D (AL s) (wl cs LC NC ad M ++ X2 cs ad2 M2 o f) → va_S (AL s) s.heap H locs → lv_has ls 14 [(10, .int (nI k)), (9, .int (nI (vl cd d n).length)), (8, .ref (ad2 0)), (7, .int (nI d)), (6, .int (nI t)), (0, .ref b), (1, .ref (ad 0)), (2, .ref o), (3, .int (nI n)), (4, .int V), (5, .int (nI c0))] → W p l e R s m #[Value.ref b] below meth c H locs (k0 + 20 * k) (j0 + 200 * k) Q (F0 m 86 ls []) := by
  obtain ⟨CX, hX, hbl, hK, hSW, hC, hAO, hfl, hR⟩ := id K
  obtain ⟨hx, hb, hml, hown, hts⟩ := id CX
  have hwd : ∀ w ∈ WG, w.before _ s = true := fun w h => hts w (List.mem_cons_of_mem _ h)
  have hA : ∀ q, s.heap.size ≤ q → AL s q := fun _ h => h
  have hbA : ¬ AL s b := Nat.not_le.mpr hbl
  have hvl := vl_len (cd := cd) (c := d) n
  intro g
  induction g with
  | zero =>
    intro k hk M M2 cd2 H locs ls hO hO2 hw2 hal hP hD hS hl
    refine lv_iload hx hb dL_law_86 (lv_at hl 0 rfl) ?_
    refine lv_iload hx hb dL_law_88 (lv_at hl 1 rfl) ?_
    obtain rfl : k = (vl cd d n).length := by omega
    have hvl := vl_len (cd := cd) (c := d) n
    refine lv_icmp_ge (tgt := 177) hx hb dL_law_90 (by decide) (fun _ => ?_) (fun h9 => absurd (nI_le (Nat.le_refl _) (by omega)) h9)
    exact kk M M2 cd2 H locs ls hO hO2 hw2 hal hP hD hS hl
  | succ g ih =>
    intro k hk M M2 cd2 H locs ls hO hO2 hw2 hal hP hD hS hl
    refine lA_step K hw hn hf hc0 (k0 := k0 + 20 * k) (j0 := j0 + 200 * k) (by omega) (by omega) hd ht (show k < (vl cd d n).length by omega) hO hO2 hw2 hal hP hD hS hl (fun M M2 cd2 H locs ls hO hO2 hw2 hal hP hD hS hl => ?_)
    refine W.widen (k := k0 + 20 * (k + 1)) (n := j0 + 200 * (k + 1)) (by omega) (by omega) ?_
    exact ih (k + 1) (by omega) M M2 cd2 H locs ls hO hO2 hw2 hal hP hD hS hl
