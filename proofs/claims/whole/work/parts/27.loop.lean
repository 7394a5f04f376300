/-! THE LAW'S LOOP, out of what both systems answer: Rel, a relation of the two memories, holds at the start, and each call keeps it and is answered alike -/
def agT {α : Type} (Rel : Mm → Mm → Prop) (g7 : Mm → Option ((α ⊕ Nat) × Mm)) (g8 : Mm → Option (α × Mm)) (l : List Nat) (ok : α → Prop) : Prop := ∀ M N : Mm, Rel M N → ∃ (oc : α ⊕ Nat) (M1 : Mm) (bv : α) (N1 : Mm), g7 M = some (oc, M1) ∧ (∀ k, oc = .inr k → k ∈ l) ∧ g8 N = some (bv, N1) ∧ N1 0 0 = hN l oc ∧ (∀ v, oc = .inl v → v = bv ∧ ok v) ∧ Rel M1 N1
def agR {α : Type} (Rel : Mm → Mm → Prop) (g7 : Mm → Option α) (g8 : Mm → Option (α × Mm)) : Prop := ∀ M N : Mm, Rel M N → ∃ (v : α) (N1 : Mm), g7 M = some v ∧ g8 N = some (v, N1) ∧ Rel M N1
def agW {α : Type} (Rel : Mm → Mm → Prop) (g7 : Mm → Option (α × Mm)) (g8 : Mm → Option (α × Mm)) : Prop := ∀ M N : Mm, Rel M N → ∃ (v : α) (M1 N1 : Mm), g7 M = some (v, M1) ∧ g8 N = some (v, N1) ∧ Rel M1 N1
def Agree (Rel : Mm → Mm → Prop) : Prop := Rel M0 M0 ∧ (∀ x1 x2 : Int32, agT Rel (fun M => gX7_write M (wArg x1 x2)) (fun N => gX8_write N (wArg x1 x2)) [0, 1] (fun _ => True)) ∧ (∀ x1 x2 : Int32, agT Rel (fun M => gX7_when M x1 (if x2 = 0 then 0 else 1)) (fun N => gX8_when N x1 (if x2 = 0 then 0 else 1)) [2, 1] (fun _ => True)) ∧ (∀ x1 x2 : Int32, agT Rel (fun M => gX7_otherwise M) (fun N => gX8_otherwise N) [1] (fun _ => True)) ∧ (∀ x1 x2 : Int32, agT Rel (fun M => gX7_done M) (fun N => gX8_done N) [1] (fun _ => True)) ∧ (∀ x1 x2 : Int32, agT Rel (fun M => gX7_set M x1 (if x2 = 0 then 0 else 1)) (fun N => gX8_set N x1 (if x2 = 0 then 0 else 1)) [2, 1] (fun _ => True)) ∧ (∀ x1 x2 : Int32, agT Rel (fun M => gX7_drop M) (fun N => gX8_drop N) [1] (fun _ => True)) ∧ (∀ x1 x2 : Int32, agT Rel (fun M => gX7_replace M x1 x2) (fun N => gX8_replace N x1 x2) [2, 1, 0] (fun _ => True)) ∧ agR Rel (fun M => gX7_size M) (fun N => gX8_size N) ∧ (∀ x1 x2 : Int32, agT Rel (fun M => gX7_item M x1) (fun N => gX8_item N x1) [2] (fun _ => True)) ∧ agR Rel (fun M => gX7_unfinished M) (fun N => gX8_unfinished N) ∧ (∀ x1 x2 : Int32, agT Rel (fun M => gX7_presence M x1) (fun N => gX8_presence N x1) [2] (fun _ => True)) ∧ (∀ x1 x2 : Int32, agT Rel (fun M => gX7_on M x1 x2) (fun N => gX8_on N x1 x2) [2] (fun _ => True)) ∧ (∀ x1 x2 : Int32, agT Rel (fun M => gX7_features M x1) (fun N => gX8_features N x1) [0] (fun _ => True)) ∧ agW Rel (fun M => gX7_dead M) (fun N => gX8_dead N) ∧ (∀ x1 x2 : Int32, agT Rel (fun M => gX7_length M x1) (fun N => gX8_length N x1) [2] (fun _ => True)) ∧ (∀ x1 x2 : Int32, agT Rel (fun M => gX7_place M x1 x2) (fun N => gX8_place N x1 x2) [2] (fun _ => True)) ∧ agW Rel (fun M => gX7_variants M) (fun N => gX8_variants N) ∧ (∀ x1 x2 : Int32, agT Rel (fun M => gX7_error M x1) (fun N => gX8_error N x1) [2, 1] (fun _ => True)) ∧ (∀ x1 x2 : Int32, agT Rel (fun M => gX7_wrong M) (fun N => gX8_wrong N) [1] (fun _ => True)) ∧ (∀ x1 x2 : Int32, agT Rel (fun M => gX7_firstError M) (fun N => gX8_firstError N) [1] (fun _ => True)) ∧ (∀ x1 x2 : Int32, agT Rel (fun M => gX7_groups M x1) (fun N => gX8_groups N x1) [2, 1] (fun _ => True)) ∧ (∀ x1 x2 : Int32, agT Rel (fun M => gX7_work M) (fun N => gX8_work N) [1] (fun _ => True)) ∧ (∀ x1 x2 : Int32, agT Rel (fun M => gX7_gain M) (fun N => gX8_gain N) [1] vf_n64) ∧ (∀ x1 x2 : Int32, agT Rel (fun M => gX7_stack M x1 x2) (fun N => gX8_stack N x1 x2) [2, 1] (fun _ => True)) ∧ (∀ x1 x2 : Int32, agT Rel (fun M => gX7_outputs M x1) (fun N => gX8_outputs N x1) [2, 1, 3] (fun _ => True)) ∧ (∀ x1 x2 : Int32, agT Rel (fun M => gX7_output M x1 x2) (fun N => gX8_output N x1 x2) [2, 1, 3, 0] (fun _ => True)) ∧ (∀ x1 x2 : Int32, agT Rel (fun M => gX7_variable M x1 x2) (fun N => gX8_variable N x1 x2) [2, 1, 3, 0] (fun _ => True)) ∧ (∀ x1 x2 : Int32, agT Rel (fun M => gX7_behaviours M) (fun N => gX8_behaviours N) [1] (fun _ => True)) ∧ agW Rel (fun M => gX7_digest M) (fun N => gX8_digest N)
theorem lp_gt {L k : Nat} (hL : L ≤ 1536) (hk : k < 10000) (h : ¬ k + 3 ≤ L) : Int32.ofNat L - 3 < nI k := by
  rw [Int32.lt_iff_toInt_lt, Int32.toInt_sub, nI_toInt (by omega), show (Int32.ofNat L).toInt = (L : Int) from nI_toInt (by omega), show (3 : Int32).toInt = 3 from rfl, Int.bmod_eq_of_le (by omega) (by omega)]
  omega
set_option maxHeartbeats 8000000 in
set_option maxRecDepth 100000 in
theorem law_loop {l : Launch} {p : Program} {e : Env} {s : State} {m : MethodId} {below : List Frame} {meth : Method} {c : Code} {Q : State → Prop} {b L : Nat} {xs : Nat → Int32} {D : va_G} {sw : Sw} {cs : Cs} {cq : ClassId × ClassId} (K : LK l p s m c b L xs D sw cs cq) (hL : L ≤ 1536) {Rel : Mm → Mm → Prop} (AG : Agree Rel) {ad am : Nat → Nat} {o od : Nat} {c0 s0 : Nat} (hc0 : c0 ≤ 1000) (hs0 : s0 ≤ 100000) (fin : ∀ (H : Heap) (ls : Array Slot), W p l e room_1 s m #[Value.ref b] below meth c H [] 601024 7293034 Q (F0 m 1677 ls [])) : ∀ n t : Nat, t ≤ 1000 → 1000 < t + n → ∀ M N : Mm, Rel M N → ∀ (f : Nat → Int64) (g : Nat → UInt64) (H : Heap) (locs : List Loc) (ls : Array Slot), va_P D vwCl (wC cs ad am M N (outs cq o od f g)) H → va_D (AL s) (wC cs ad am M N (outs cq o od f g)) → va_S (AL s) s.heap H locs → lv_has ls 9 (lLv b ad am o od (nI (3 * t))) → W p l e room_1 s m #[Value.ref b] below meth c H locs (c0 + 16 * t) (s0 + 1400 * t) Q (F0 m 28 ls []) := by
  obtain ⟨CX, hX, hbl, hK, hKL, hSW, hfl⟩ := id K
  obtain ⟨hx, hb, hml, hown, hts⟩ := id CX
  have hbA : ¬ AL s b := Nat.not_le.mpr hbl
  obtain ⟨-, a0, a1, a2, a3, a4, a5, a6, a7, a8, a9, a10, a11, a12, a13, a14, a15, a16, a17, a18, a19, a20, a21, a22, a23, a24, a25, a26, a27, a28⟩ := AG
  intro n
  induction n with
  | zero =>
    intro t h1 h2
    exact absurd h2 (by omega)
  | succ n ih =>
    intro t ht1 ht2 M N hR f g H locs ls hP hD hS hl
    have hi : (nI (3 * t)).toNatClampNeg = 3 * t := nI_clamp (by omega)
    refine lv_iload hx hb dL_law_28 (lv_at hl 0 rfl) ?_
    refine lv_aload_n hx hb dL_law_30 rfl (lv_at hl 1 rfl) ?_
    refine va_slen hx hb hX hbl hbA hS dL_law_31 ?_
    refine lv_iconst (v := 3) hx hb dL_law_32 (by decide) ?_
    refine lv_isub hx hb dL_law_33 ?_
    refine lv_icmp_gt (tgt := 1677) hx hb dL_law_34 (by decide) (fun h9 => ?_) (fun h9 => ?_)
    · refine va_forget (fun q hq => hS.2.2 q hq) ?_
      refine W.widen (k := 601024) (n := 7293034) (by omega) (by omega) ?_
      exact fin _ _
    · have h3 : 3 * t + 3 ≤ L := by
        by_cases q : 3 * t + 3 ≤ L
        · exact q
        · exact absurd (lp_gt (L := L) (k := 3 * t) (by omega) (by omega) q) h9
      have hv0 : vp_in (nI (3 * t)) L := vp_in_nI (by omega) (by omega)
      have hv1 : vp_in (nI (3 * t) + 1) L := by rw [nI_1]; exact vp_in_nI (by omega) (by omega)
      have hv2 : vp_in (nI (3 * t) + 2) L := by rw [show nI (3 * t) + 2 = nI (3 * t + 2) from nI_add (3 * t) 2]; exact vp_in_nI (by omega) (by omega)
      have kk : ∀ (M N : Mm), Rel M N → ∀ (f : Nat → Int64) (g : Nat → UInt64) (H : Heap) (locs : List Loc) (ls : Array Slot), va_P D vwCl (wC cs ad am M N (outs cq o od f g)) H → va_D (AL s) (wC cs ad am M N (outs cq o od f g)) → va_S (AL s) s.heap H locs → lv_has ls 9 (lLv b ad am o od (nI (3 * t))) → W p l e room_1 s m #[Value.ref b] below meth c H locs (c0 + 16 * t + 16) (s0 + 1400 * t + 1400) Q (F0 m 1671 ls []) := by
        intro M N hR f g H locs ls hP hD hS hl
        refine lv_iinc (v := nI (3 * (t + 1))) (lv' := lLv b ad am o od (nI (3 * (t + 1)))) hx hb dL_law_1671 hl (k := 0) rfl (nI_add (3 * t) 3) (by decide) rfl (fun ls hl => ?_)
        refine lv_goto (tgt := 28) hx hb dL_law_1674 (by decide) ?_
        refine W.widen (k := c0 + 16 * (t + 1)) (n := s0 + 1400 * (t + 1)) (by omega) (by omega) ?_
        exact ih (t + 1) (by omega) (by omega) M N hR f g H locs ls hP hD hS hl
      have hcs : c0 + 16 * t + 16 ≤ room_1.cells := by show _ ≤ 601024; omega
      have hss : s0 + 1400 * t + 1400 ≤ room_1.slots := by show _ ≤ 7293034; omega
      refine lv_aload_n hx hb dL_law_37 rfl (lv_at hl 1 rfl) ?_
      refine lv_iload hx hb dL_law_38 (lv_at hl 0 rfl) ?_
      refine va_sld hx hb hX hbl hbA hS hv0 dL_law_40 ?_
      refine lv_bipush (v := 31) hx hb dL_law_41 (by decide) ?_
      refine lv_iand hx hb dL_law_43 ?_
      obtain ⟨x0, hx0⟩ : ∃ z, z = xs (nI (3 * t)).toNatClampNeg &&& 31 := ⟨_, rfl⟩
      rw [← hx0]
      obtain ⟨x1, hx1⟩ : ∃ z, xs (nI (3 * t) + 1).toNatClampNeg = z := ⟨_, rfl⟩
      obtain ⟨x2, hx2⟩ : ∃ z, xs (nI (3 * t) + 2).toNatClampNeg = z := ⟨_, rfl⟩
      by_cases z0 : x0 = 0
      · obtain ⟨oc, M1, bv, N1, e1, e2, e3, e4, e5, e6⟩ := a0 x1 x2 M N hR
        refine lv_tableIn (off := 132) (tgt := 176) hx hb dL_law_44 (by rw [z0]; decide) (by rw [z0]; decide) (by rw [z0]; decide) (by decide) ?_
        exact lc_0 K hv1 hv2 hx1 hx2 e1 e2 e3 e4 (fun v h => (e5 v h).1) hcs hss hP hD hS hl (kk M1 N1 e6)
      by_cases z1 : x0 = 1
      · obtain ⟨oc, M1, bv, N1, e1, e2, e3, e4, e5, e6⟩ := a1 x1 x2 M N hR
        refine lv_tableIn (off := 220) (tgt := 264) hx hb dL_law_44 (by rw [z1]; decide) (by rw [z1]; decide) (by rw [z1]; decide) (by decide) ?_
        exact lc_1 K hv1 hv2 hx1 hx2 e1 e2 e3 e4 (fun v h => (e5 v h).1) hcs hss hP hD hS hl (kk M1 N1 e6)
      by_cases z2 : x0 = 2
      · obtain ⟨oc, M1, bv, N1, e1, e2, e3, e4, e5, e6⟩ := a2 x1 x2 M N hR
        refine lv_tableIn (off := 304) (tgt := 348) hx hb dL_law_44 (by rw [z2]; decide) (by rw [z2]; decide) (by rw [z2]; decide) (by decide) ?_
        exact lc_2 K hv1 hv2 hx1 hx2 e1 e2 e3 e4 (fun v h => (e5 v h).1) hcs hss hP hD hS hl (kk M1 N1 e6)
      by_cases z3 : x0 = 3
      · obtain ⟨oc, M1, bv, N1, e1, e2, e3, e4, e5, e6⟩ := a3 x1 x2 M N hR
        refine lv_tableIn (off := 348) (tgt := 392) hx hb dL_law_44 (by rw [z3]; decide) (by rw [z3]; decide) (by rw [z3]; decide) (by decide) ?_
        exact lc_3 K hv1 hv2 hx1 hx2 e1 e2 e3 e4 (fun v h => (e5 v h).1) hcs hss hP hD hS hl (kk M1 N1 e6)
      by_cases z4 : x0 = 4
      · obtain ⟨oc, M1, bv, N1, e1, e2, e3, e4, e5, e6⟩ := a4 x1 x2 M N hR
        refine lv_tableIn (off := 392) (tgt := 436) hx hb dL_law_44 (by rw [z4]; decide) (by rw [z4]; decide) (by rw [z4]; decide) (by decide) ?_
        exact lc_4 K hv1 hv2 hx1 hx2 e1 e2 e3 e4 (fun v h => (e5 v h).1) hcs hss hP hD hS hl (kk M1 N1 e6)
      by_cases z5 : x0 = 5
      · obtain ⟨oc, M1, bv, N1, e1, e2, e3, e4, e5, e6⟩ := a5 x1 x2 M N hR
        refine lv_tableIn (off := 476) (tgt := 520) hx hb dL_law_44 (by rw [z5]; decide) (by rw [z5]; decide) (by rw [z5]; decide) (by decide) ?_
        exact lc_5 K hv1 hv2 hx1 hx2 e1 e2 e3 e4 (fun v h => (e5 v h).1) hcs hss hP hD hS hl (kk M1 N1 e6)
      by_cases z6 : x0 = 6
      · obtain ⟨oc, M1, bv, N1, e1, e2, e3, e4, e5, e6⟩ := a6 x1 x2 M N hR
        refine lv_tableIn (off := 520) (tgt := 564) hx hb dL_law_44 (by rw [z6]; decide) (by rw [z6]; decide) (by rw [z6]; decide) (by decide) ?_
        exact lc_6 K hv1 hv2 hx1 hx2 e1 e2 e3 e4 (fun v h => (e5 v h).1) hcs hss hP hD hS hl (kk M1 N1 e6)
      by_cases z7 : x0 = 7
      · obtain ⟨v, N1, e1, e3, e6⟩ := a7 M N hR
        refine lv_tableIn (off := 588) (tgt := 632) hx hb dL_law_44 (by rw [z7]; decide) (by rw [z7]; decide) (by rw [z7]; decide) (by decide) ?_
        exact lc_7 K hv1 hv2 hx1 hx2 e1 e3 rfl hcs hss hP hD hS hl (kk M N1 e6)
      by_cases z8 : x0 = 8
      · obtain ⟨oc, M1, bv, N1, e1, e2, e3, e4, e5, e6⟩ := a8 x1 x2 M N hR
        refine lv_tableIn (off := 601) (tgt := 645) hx hb dL_law_44 (by rw [z8]; decide) (by rw [z8]; decide) (by rw [z8]; decide) (by decide) ?_
        exact lc_8 K hv1 hv2 hx1 hx2 e1 e2 e3 e4 (fun v h => (e5 v h).1) hcs hss hP hD hS hl (kk M1 N1 e6)
      by_cases z9 : x0 = 9
      · obtain ⟨v, N1, e1, e3, e6⟩ := a9 M N hR
        refine lv_tableIn (off := 657) (tgt := 701) hx hb dL_law_44 (by rw [z9]; decide) (by rw [z9]; decide) (by rw [z9]; decide) (by decide) ?_
        exact lc_9 K hv1 hv2 hx1 hx2 e1 e3 rfl hcs hss hP hD hS hl (kk M N1 e6)
      by_cases z10 : x0 = 10
      · obtain ⟨oc, M1, bv, N1, e1, e2, e3, e4, e5, e6⟩ := a10 x1 x2 M N hR
        refine lv_tableIn (off := 670) (tgt := 714) hx hb dL_law_44 (by rw [z10]; decide) (by rw [z10]; decide) (by rw [z10]; decide) (by decide) ?_
        exact lc_10 K hv1 hv2 hx1 hx2 e1 e2 e3 e4 (fun v h => (e5 v h).1) hcs hss hP hD hS hl (kk M1 N1 e6)
      by_cases z11 : x0 = 11
      · obtain ⟨oc, M1, bv, N1, e1, e2, e3, e4, e5, e6⟩ := a11 x1 x2 M N hR
        refine lv_tableIn (off := 726) (tgt := 770) hx hb dL_law_44 (by rw [z11]; decide) (by rw [z11]; decide) (by rw [z11]; decide) (by decide) ?_
        exact lc_11 K hv1 hv2 hx1 hx2 e1 e2 e3 e4 (fun v h => (e5 v h).1) hcs hss hP hD hS hl (kk M1 N1 e6)
      by_cases z12 : x0 = 12
      · obtain ⟨oc, M1, bv, N1, e1, e2, e3, e4, e5, e6⟩ := a12 x1 x2 M N hR
        refine lv_tableIn (off := 794) (tgt := 838) hx hb dL_law_44 (by rw [z12]; decide) (by rw [z12]; decide) (by rw [z12]; decide) (by decide) ?_
        exact lc_12 K hv1 hv2 hx1 hx2 e1 e2 e3 e4 (fun v h => (e5 v h).1) hcs hss hP hD hS hl (kk M1 N1 e6)
      by_cases z13 : x0 = 13
      · obtain ⟨v, M1, N1, e1, e3, e6⟩ := a13 M N hR
        refine lv_tableIn (off := 850) (tgt := 894) hx hb dL_law_44 (by rw [z13]; decide) (by rw [z13]; decide) (by rw [z13]; decide) (by decide) ?_
        exact lc_13 K hv1 hv2 hx1 hx2 e1 e3 rfl hcs hss hP hD hS hl (kk M1 N1 e6)
      by_cases z14 : x0 = 14
      · obtain ⟨oc, M1, bv, N1, e1, e2, e3, e4, e5, e6⟩ := a14 x1 x2 M N hR
        refine lv_tableIn (off := 863) (tgt := 907) hx hb dL_law_44 (by rw [z14]; decide) (by rw [z14]; decide) (by rw [z14]; decide) (by decide) ?_
        exact lc_14 K hv1 hv2 hx1 hx2 e1 e2 e3 e4 (fun v h => (e5 v h).1) hcs hss hP hD hS hl (kk M1 N1 e6)
      by_cases z15 : x0 = 15
      · obtain ⟨oc, M1, bv, N1, e1, e2, e3, e4, e5, e6⟩ := a15 x1 x2 M N hR
        refine lv_tableIn (off := 919) (tgt := 963) hx hb dL_law_44 (by rw [z15]; decide) (by rw [z15]; decide) (by rw [z15]; decide) (by decide) ?_
        exact lc_15 K hv1 hv2 hx1 hx2 e1 e2 e3 e4 (fun v h => (e5 v h).1) hcs hss hP hD hS hl (kk M1 N1 e6)
      by_cases z16 : x0 = 16
      · obtain ⟨v, M1, N1, e1, e3, e6⟩ := a16 M N hR
        refine lv_tableIn (off := 987) (tgt := 1031) hx hb dL_law_44 (by rw [z16]; decide) (by rw [z16]; decide) (by rw [z16]; decide) (by decide) ?_
        exact lc_16 K hv1 hv2 hx1 hx2 e1 e3 rfl hcs hss hP hD hS hl (kk M1 N1 e6)
      by_cases z17 : x0 = 17
      · obtain ⟨oc, M1, bv, N1, e1, e2, e3, e4, e5, e6⟩ := a17 x1 x2 M N hR
        refine lv_tableIn (off := 1000) (tgt := 1044) hx hb dL_law_44 (by rw [z17]; decide) (by rw [z17]; decide) (by rw [z17]; decide) (by decide) ?_
        exact lc_17 K hv1 hv2 hx1 hx2 e1 e2 e3 e4 (fun v h => (e5 v h).1) hcs hss hP hD hS hl (kk M1 N1 e6)
      by_cases z18 : x0 = 18
      · obtain ⟨oc, M1, bv, N1, e1, e2, e3, e4, e5, e6⟩ := a18 x1 x2 M N hR
        refine lv_tableIn (off := 1056) (tgt := 1100) hx hb dL_law_44 (by rw [z18]; decide) (by rw [z18]; decide) (by rw [z18]; decide) (by decide) ?_
        exact lc_18 K hv1 hv2 hx1 hx2 e1 e2 e3 e4 (fun v h => (e5 v h).1) hcs hss hP hD hS hl (kk M1 N1 e6)
      by_cases z19 : x0 = 19
      · obtain ⟨oc, M1, bv, N1, e1, e2, e3, e4, e5, e6⟩ := a19 x1 x2 M N hR
        refine lv_tableIn (off := 1100) (tgt := 1144) hx hb dL_law_44 (by rw [z19]; decide) (by rw [z19]; decide) (by rw [z19]; decide) (by decide) ?_
        exact lc_19 K hv1 hv2 hx1 hx2 e1 e2 e3 e4 (fun v h => (e5 v h).1) hcs hss hP hD hS hl (kk M1 N1 e6)
      by_cases z20 : x0 = 20
      · obtain ⟨oc, M1, bv, N1, e1, e2, e3, e4, e5, e6⟩ := a20 x1 x2 M N hR
        refine lv_tableIn (off := 1144) (tgt := 1188) hx hb dL_law_44 (by rw [z20]; decide) (by rw [z20]; decide) (by rw [z20]; decide) (by decide) ?_
        exact lc_20 K hv1 hv2 hx1 hx2 e1 e2 e3 e4 (fun v h => (e5 v h).1) hcs hss hP hD hS hl (kk M1 N1 e6)
      by_cases z21 : x0 = 21
      · obtain ⟨oc, M1, bv, N1, e1, e2, e3, e4, e5, e6⟩ := a21 x1 x2 M N hR
        refine lv_tableIn (off := 1200) (tgt := 1244) hx hb dL_law_44 (by rw [z21]; decide) (by rw [z21]; decide) (by rw [z21]; decide) (by decide) ?_
        exact lc_21 K hv1 hv2 hx1 hx2 e1 e2 e3 e4 (fun v h => (e5 v h).1) hcs hss hP hD hS hl (kk M1 N1 e6)
      by_cases z22 : x0 = 22
      · obtain ⟨oc, M1, bv, N1, e1, e2, e3, e4, e5, e6⟩ := a22 x1 x2 M N hR
        refine lv_tableIn (off := 1244) (tgt := 1288) hx hb dL_law_44 (by rw [z22]; decide) (by rw [z22]; decide) (by rw [z22]; decide) (by decide) ?_
        exact lc_22 K hv1 hv2 hx1 hx2 e1 e2 e3 e4 e5 hcs hss hP hD hS hl (kk M1 N1 e6)
      by_cases z23 : x0 = 23
      · obtain ⟨oc, M1, bv, N1, e1, e2, e3, e4, e5, e6⟩ := a23 x1 x2 M N hR
        refine lv_tableIn (off := 1309) (tgt := 1353) hx hb dL_law_44 (by rw [z23]; decide) (by rw [z23]; decide) (by rw [z23]; decide) (by decide) ?_
        exact lc_23 K hv1 hv2 hx1 hx2 e1 e2 e3 e4 (fun v h => (e5 v h).1) hcs hss hP hD hS hl (kk M1 N1 e6)
      by_cases z24 : x0 = 24
      · obtain ⟨oc, M1, bv, N1, e1, e2, e3, e4, e5, e6⟩ := a24 x1 x2 M N hR
        refine lv_tableIn (off := 1377) (tgt := 1421) hx hb dL_law_44 (by rw [z24]; decide) (by rw [z24]; decide) (by rw [z24]; decide) (by decide) ?_
        exact lc_24 K hv1 hv2 hx1 hx2 e1 e2 e3 e4 (fun v h => (e5 v h).1) hcs hss hP hD hS hl (kk M1 N1 e6)
      by_cases z25 : x0 = 25
      · obtain ⟨oc, M1, bv, N1, e1, e2, e3, e4, e5, e6⟩ := a25 x1 x2 M N hR
        refine lv_tableIn (off := 1433) (tgt := 1477) hx hb dL_law_44 (by rw [z25]; decide) (by rw [z25]; decide) (by rw [z25]; decide) (by decide) ?_
        exact lc_25 K hv1 hv2 hx1 hx2 e1 e2 e3 e4 (fun v h => (e5 v h).1) hcs hss hP hD hS hl (kk M1 N1 e6)
      by_cases z26 : x0 = 26
      · obtain ⟨oc, M1, bv, N1, e1, e2, e3, e4, e5, e6⟩ := a26 x1 x2 M N hR
        refine lv_tableIn (off := 1501) (tgt := 1545) hx hb dL_law_44 (by rw [z26]; decide) (by rw [z26]; decide) (by rw [z26]; decide) (by decide) ?_
        exact lc_26 K hv1 hv2 hx1 hx2 e1 e2 e3 e4 (fun v h => (e5 v h).1) hcs hss hP hD hS hl (kk M1 N1 e6)
      by_cases z27 : x0 = 27
      · obtain ⟨oc, M1, bv, N1, e1, e2, e3, e4, e5, e6⟩ := a27 x1 x2 M N hR
        refine lv_tableIn (off := 1569) (tgt := 1613) hx hb dL_law_44 (by rw [z27]; decide) (by rw [z27]; decide) (by rw [z27]; decide) (by decide) ?_
        exact lc_27 K hv1 hv2 hx1 hx2 e1 e2 e3 e4 (fun v h => (e5 v h).1) hcs hss hP hD hS hl (kk M1 N1 e6)
      by_cases z28 : x0 = 28
      · obtain ⟨v, M1, N1, e1, e3, e6⟩ := a28 M N hR
        refine lv_tableIn (off := 1613) (tgt := 1657) hx hb dL_law_44 (by rw [z28]; decide) (by rw [z28]; decide) (by rw [z28]; decide) (by decide) ?_
        exact lc_28 K hv1 hv2 hx1 hx2 e1 e3 rfl hcs hss hP hD hS hl (kk M1 N1 e6)
      refine lv_tableOut (tgt := 1671) hx hb dL_law_44 (by have := lv_neT (a := 0) z0 (by decide); have := lv_neT (a := 1) z1 (by decide); have := lv_neT (a := 2) z2 (by decide); have := lv_neT (a := 3) z3 (by decide); have := lv_neT (a := 4) z4 (by decide); have := lv_neT (a := 5) z5 (by decide); have := lv_neT (a := 6) z6 (by decide); have := lv_neT (a := 7) z7 (by decide); have := lv_neT (a := 8) z8 (by decide); have := lv_neT (a := 9) z9 (by decide); have := lv_neT (a := 10) z10 (by decide); have := lv_neT (a := 11) z11 (by decide); have := lv_neT (a := 12) z12 (by decide); have := lv_neT (a := 13) z13 (by decide); have := lv_neT (a := 14) z14 (by decide); have := lv_neT (a := 15) z15 (by decide); have := lv_neT (a := 16) z16 (by decide); have := lv_neT (a := 17) z17 (by decide); have := lv_neT (a := 18) z18 (by decide); have := lv_neT (a := 19) z19 (by decide); have := lv_neT (a := 20) z20 (by decide); have := lv_neT (a := 21) z21 (by decide); have := lv_neT (a := 22) z22 (by decide); have := lv_neT (a := 23) z23 (by decide); have := lv_neT (a := 24) z24 (by decide); have := lv_neT (a := 25) z25 (by decide); have := lv_neT (a := 26) z26 (by decide); have := lv_neT (a := 27) z27 (by decide); have := lv_neT (a := 28) z28 (by decide); omega) (by decide) ?_
      refine W.widen (k := c0 + 16 * t + 16) (n := s0 + 1400 * t + 1400) (by omega) (by omega) ?_
      exact kk M N hR f g H locs ls hP hD hS hl
