/-! THE CLASS'S CALLS, each said by the source alone -/
def Ok (M : Mm) (n : Nat) (cd : Nat → Nat) : Prop := SrcC M n cd ∧ Val n cd ∧ (M 0 4 = 0 ∨ Fs n cd M)
theorem Ok_0 (cd : Nat → Nat) : Ok M0 0 cd := ⟨⟨rfl, fun i hi => absurd hi (Nat.not_lt_zero _)⟩, ⟨by decide, fun i hi => absurd hi (Nat.not_lt_zero _), [], rfl⟩, Or.inl rfl⟩
theorem confC {M : Mm} {c : Nat} (hc : c < 16) : gX7_checkConfiguration M (nI c) = some (.inl 0, M) := by
  unfold gX7_checkConfiguration
  rw [if_neg (nI_pos (by omega)), if_pos (show nI c < (16 : Int32) from nI_lt (b := 16) hc (by decide))]
theorem itemC {M : Mm} {n i : Nat} {cd : Nat → Nat} (hC : SrcC M n cd) (hn : n ≤ 80) (hi : i < n) : gX7_checkItem M (nI i) = some (.inl 0, M) := by
  unfold gX7_checkItem
  rw [hC.1, if_neg (nI_pos (by omega)), if_pos (nI_lt hi (by omega))]
theorem featC {M : Mm} {f : Nat} (hf : f < 4) : gX7_checkFeature M (nI f) = some (.inl 0, M) := by
  unfold gX7_checkFeature
  rw [if_neg (nI_pos (by omega)), if_pos (show nI f < (4 : Int32) from nI_lt (b := 4) hf (by decide))]
theorem idxC {M : Mm} {n c k : Nat} {cd : Nat → Nat} (hn : n ≤ 80) (hc : c < 16) (hA : VarC cd M c (vl cd c n)) (hk : k < (vl cd c n).length) : gX7_checkIndex M (nI c) (nI k) = some (.inl 0, M) := by
  have hl := vl_len (cd := cd) (c := c) n
  unfold gX7_checkIndex
  rw [if_neg (nI_pos (by omega)), ckI hc (by decide), cI (show c < 2 ^ 31 by omega), lt_n, hA.1, if_pos (nI_lt hk (by omega))]
section CALLS
variable {M : Mm} {n : Nat} {cd : Nat → Nat}
theorem k_item (h : Ok M n cd) {i : Nat} (hi : i < n) : gX7_item M (nI i) = some (.inl (nI (cd i)), M) := by
  obtain ⟨hC, hV, hF⟩ := h
  have hn := hV.1
  unfold gX7_item
  rw [itemC hC hn hi, te_v rfl, ckI (by omega) (by decide), cI (by omega), hC.2 i hi]
theorem k_size (h : Ok M n cd) : gX7_size M = some (nI n) := by
  unfold gX7_size
  rw [h.1.1]
theorem k_unfinished (h : Ok M n cd) {l : List (Nat × Bool)} (hl : st cd n = some l) : gX7_unfinished M = some (nI l.length) := by
  unfold gX7_unfinished
  rw [cntC h.1 h.2.1 hl, bd_s9 rfl]
theorem k_app (h : Ok M n cd) (hn : n < 80) {c : Nat} (hc : c ≤ 17) {l l' : List (Nat × Bool)} (hl : st cd n = some l) (hs : stp c n l = some l') : ∃ M1, gX7_append M (nI c) = some (nI (n + 1), M1) ∧ Ok M1 (n + 1) (ext cd n c) ∧ st (ext cd n c) (n + 1) = some l' := by
  obtain ⟨hC, hV, hF⟩ := h
  obtain ⟨M1, m1, m2, m3⟩ := appC (c := c) hC hn
  refine ⟨M1, m1, ⟨m2, Val_app hV hn (ok_s hc) hl hs, Or.inl m3⟩, ?_⟩
  have h1 : st (ext cd n c) n = some l := by rw [st_congr n (cd' := cd) (fun i hi => ext_o (by omega))]; exact hl
  rw [st_s h1, ext_n]
  exact hs
theorem k_when (h : Ok M n cd) (hn : n < 80) {f b : Nat} (hf : f < 4) (hb : b ≤ 1) {l : List (Nat × Bool)} (hl : st cd n = some l) (h5 : l.length < 5) : ∃ M1, gX7_when M (nI f) (nI b) = some (.inl (nI (n + 1)), M1) ∧ Ok M1 (n + 1) (ext cd n (2 * f + b)) ∧ st (ext cd n (2 * f + b)) (n + 1) = some ((n, false) :: l) := by
  obtain ⟨M1, m1, m2, m3⟩ := k_app h hn (c := 2 * f + b) (by omega) hl (l' := (n, false) :: l) (by unfold stp; rw [if_pos (by omega), if_pos h5])
  refine ⟨M1, ?_, m2, m3⟩
  unfold gX7_when
  rw [featC hf, te_v rfl, room_ok h.1 hn, te_v rfl, cntC h.1 h.2.1 hl, bd_s9 rfl, if_pos (show nI l.length < (5 : Int32) from nI_lt (b := 5) h5 (by decide)), (codeW hf hb).1, bd2_s9 m1]
theorem k_set (h : Ok M n cd) (hn : n < 80) {f b : Nat} (hf : f < 4) (hb : b ≤ 1) {l : List (Nat × Bool)} (hl : st cd n = some l) : ∃ M1, gX7_set M (nI f) (nI b) = some (.inl (nI (n + 1)), M1) ∧ Ok M1 (n + 1) (ext cd n (8 + 2 * f + b)) ∧ st (ext cd n (8 + 2 * f + b)) (n + 1) = some l := by
  obtain ⟨M1, m1, m2, m3⟩ := k_app h hn (c := 8 + 2 * f + b) (by omega) hl (l' := l) (by unfold stp; rw [if_neg (by omega), if_neg (by omega), if_neg (by omega)])
  refine ⟨M1, ?_, m2, m3⟩
  unfold gX7_set
  rw [featC hf, te_v rfl, room_ok h.1 hn, te_v rfl, (codeW hf hb).2.1, bd2_s9 m1]
theorem k_done (h : Ok M n cd) (hn : n < 80) {q : Nat × Bool} {l : List (Nat × Bool)} (hl : st cd n = some (q :: l)) : ∃ M1, gX7_done M = some (.inl (nI (n + 1)), M1) ∧ Ok M1 (n + 1) (ext cd n 17) ∧ st (ext cd n 17) (n + 1) = some l := by
  obtain ⟨M1, m1, m2, m3⟩ := k_app h hn (c := 17) (by omega) hl (l' := l) (by unfold stp; rw [if_neg (by decide), if_neg (by decide), if_pos rfl])
  refine ⟨M1, ?_, m2, m3⟩
  unfold gX7_done
  rw [room_ok h.1 hn, te_v rfl, unf_s h.1 h.2.1 hl, if_neg (fun e => by cases e), te_v rfl]
  exact bd2_s9 m1
theorem k_otherwise (h : Ok M n cd) (hn : n < 80) {p : Nat} {l : List (Nat × Bool)} (hl : st cd n = some ((p, false) :: l)) : ∃ M1, gX7_otherwise M = some (.inl (nI (n + 1)), M1) ∧ Ok M1 (n + 1) (ext cd n 16) ∧ st (ext cd n 16) (n + 1) = some ((p, true) :: l) := by
  obtain ⟨M1, m1, m2, m3⟩ := k_app h hn (c := 16) (by omega) hl (l' := (p, true) :: l) (by unfold stp; rw [if_neg (by decide), if_pos rfl])
  refine ⟨M1, ?_, m2, m3⟩
  unfold gX7_otherwise
  rw [room_ok h.1 hn, te_v rfl, unf_s h.1 h.2.1 hl, if_neg (fun e => by cases e), te_v rfl, hasC h.1 h.2.1 hl, bd_s9 rfl, if_pos (show hb ((p, false) :: l)[0]? = 0 from rfl)]
  exact bd2_s9 m1
/-! write: the tokens that a number holds -/
def tk (a : Int64) : Nat → List Nat
  | 0 => []
  | j + 1 => if bt a j = 0 then tk a j else (bt a j).toNatClampNeg :: tk a j
def app (cd : Nat → Nat) (n : Nat) (l : List Nat) : Nat → Nat := fun i => if i < n then cd i else l.getD (i - n) 0
theorem app_nil (cd : Nat → Nat) (n : Nat) {i : Nat} (hi : i < n) : app cd n [] i = cd i := if_pos hi
theorem app_cons (cd : Nat → Nat) (n c : Nat) (l : List Nat) {i : Nat} (hi : i < n + 1 + l.length) : app (ext cd n c) (n + 1) l i = app cd n (c :: l) i := by
  unfold app
  by_cases h : i < n
  · rw [if_pos (by omega), if_pos h, ext_o (by omega)]
  · by_cases e : i = n
    · subst e
      rw [if_pos (by omega), ext_n, if_neg h, Nat.sub_self]
      rfl
    · rw [if_neg (by omega), if_neg h, show i - n = (i - (n + 1)) + 1 by omega]
      rfl
theorem Val_congr {n : Nat} {cd cd' : Nat → Nat} (h : ∀ i, i < n → cd' i = cd i) (hV : Val n cd) : Val n cd' := by
  refine ⟨hV.1, fun i hi => by rw [h i hi]; exact hV.2.1 i hi, ?_⟩
  rw [st_congr n h]
  exact hV.2.2
theorem wr2C {a : Int64} : ∀ (j f1 n : Nat) (cd : Nat → Nat) (M : Mm) (l : List (Nat × Bool)), j ≤ 8 → j < f1 → allT a j → SrcC M n cd → Val n cd → st cd n = some l → n + (tk a j).length ≤ 80 → ∃ (cd' : Nat → Nat) (M1 : Mm), gX7_write_L79 a f1 M (ixs j) = some (.inl (nI (n + (tk a j).length)), M1) ∧ SrcC M1 (n + (tk a j).length) cd' ∧ Val (n + (tk a j).length) cd' ∧ (M1 0 4 = 0 ∨ (tk a j = [] ∧ M1 = M ∧ cd' = cd)) ∧ (∀ i, i < n + (tk a j).length → cd' i = app cd n (tk a j) i) ∧ st cd' (n + (tk a j).length) = some l
  | 0, f1, n, cd, M, l, _, h1, _, hC, hV, hl, _ => by
    obtain ⟨g1, rfl⟩ : ∃ f, f1 = f + 1 := ⟨f1 - 1, by omega⟩
    refine ⟨cd, M, ?_, hC, hV, Or.inr ⟨rfl, rfl, rfl⟩, fun i hi => (app_nil cd n hi).symm, hl⟩
    rw [gX7_write_L79, if_pos (by decide), hC.1]
    rfl
  | j + 1, f1, n, cd, M, l, hj, h1, hT, hC, hV, hl, hn => by
    obtain ⟨g1, rfl⟩ : ∃ f, f1 = f + 1 := ⟨f1 - 1, by omega⟩
    have e7 : gX7_byteOf a (ixs (j + 1)) = bt a j := rfl
    have hTj : allT a j := fun i hi => hT i (by omega)
    rw [gX7_write_L79, e7, show ixs (j + 1) = nI (8 * j) from rfl, if_neg (nI_pos (by omega)), lt_s9, ixs_dn (by omega)]
    by_cases z : bt a j = 0
    · have hc : tk a (j + 1) = tk a j := if_pos z
      rw [hc] at hn ⊢
      rw [if_pos z]
      exact wr2C j g1 n cd M l (by omega) (by omega) hTj hC hV hl hn
    · have hc : tk a (j + 1) = (bt a j).toNatClampNeg :: tk a j := if_neg z
      rw [hc] at hn ⊢
      rw [if_neg z]
      have t : gX0_isToken (bt a j) ≠ 0 := (hT j (by omega)).resolve_left z
      obtain ⟨c, c1, c2, ec⟩ := tok_range t
      rw [ec, cI (by omega)] at hn ⊢
      rw [ec] at t
      simp only [List.length_cons] at hn ⊢
      obtain ⟨M1, m1, m2, m3⟩ := appC (c := c) hC (by omega)
      rw [bd2_s9 m1, lt_s9]
      have hs : stp c n l = some l := by unfold stp; rw [if_neg (by omega), if_neg (by omega), if_neg (by omega)]
      have hv : Val (n + 1) (ext cd n c) := Val_app hV (by omega) ⟨Or.inr t, by omega⟩ hl hs
      have hl1 : st (ext cd n c) (n + 1) = some l := by
        have h1 : st (ext cd n c) n = some l := by rw [st_congr n (cd' := cd) (fun i hi => ext_o (by omega))]; exact hl
        rw [st_s h1, ext_n]
        exact hs
      obtain ⟨cd', M2, r1, r3, r5, r6, r7, r8⟩ := wr2C j g1 (n + 1) (ext cd n c) M1 l (by omega) (by omega) hTj m2 hv hl1 (by omega)
      have e : n + 1 + (tk a j).length = n + ((tk a j).length + 1) := by omega
      rw [e] at r1 r3 r5 r7 r8
      refine ⟨cd', M2, r1, r3, r5, ?_, fun i hi => ?_, r8⟩
      · rcases r6 with r6 | ⟨-, r6, -⟩
        · exact Or.inl r6
        · exact Or.inl (by rw [r6]; exact m3)
      · rw [r7 i hi, app_cons cd n c (tk a j) (by omega)]
theorem cnt_tk (a : Int64) : ∀ j, cnt a j = (tk a j).length
  | 0 => rfl
  | j + 1 => by
    show (if bt a j = 0 then 0 else 1) + cnt a j = (if bt a j = 0 then tk a j else (bt a j).toNatClampNeg :: tk a j).length
    rw [cnt_tk a j]
    by_cases z : bt a j = 0
    · rw [if_pos z, if_pos z]; omega
    · rw [if_neg z, if_neg z, List.length_cons]; omega
theorem k_write (h : Ok M n cd) {a : Int64} (hT : allT a 8) (hn : n + (tk a 8).length ≤ 80) {l : List (Nat × Bool)} (hl : st cd n = some l) : ∃ (cd' : Nat → Nat) (M1 : Mm), gX7_write M a = some (.inl (nI (n + (tk a 8).length)), M1) ∧ Ok M1 (n + (tk a 8).length) cd' ∧ (∀ i, i < n + (tk a 8).length → cd' i = app cd n (tk a 8) i) ∧ st cd' (n + (tk a 8).length) = some l := by
  obtain ⟨hC, hV, hF⟩ := h
  have h56 : (56 : Int32) = ixs 8 := by decide +kernel
  have h0 : (0 : Int32) = nI 0 := rfl
  have k7 : gX7_write M a = if ((M 1 1) + nI (cnt a 8)) ≤ (80 : Int32) then (gX7_write_L79 a FU M (ixs 8)) else some (.inr 1, M) := by
    unfold gX7_write
    rw [lt_s9, lt_s9, h56, h0, (wrC1 8 FU 0 (by decide) (by decide)).1 hT, Nat.zero_add]
  rw [hC.1, nI_add, cnt_tk] at k7
  rw [if_pos (show nI (n + (tk a 8).length) ≤ (80 : Int32) from (nI_leI (b := 80) (by omega) (by decide)).mpr hn)] at k7
  obtain ⟨cd', M1, r1, r2, r3, r4, r5, r6⟩ := wr2C 8 FU n cd M l (by decide) (by decide) hT hC hV hl hn
  refine ⟨cd', M1, k7.trans r1, ⟨r2, r3, ?_⟩, r5, r6⟩
  rcases r4 with r4 | ⟨e, rfl, rfl⟩
  · exact Or.inl r4
  · rw [e]
    exact hF
/-! presence and variants -/
theorem k_presence (h : Ok M n cd) {i : Nat} (hi : i < n) : ∃ M1, gX7_presence M (nI i) = some (.inl (pres cd i), M1) ∧ Ok M1 n cd := by
  obtain ⟨hC, hV, hF⟩ := h
  have hn := hV.1
  obtain ⟨M1, m1, m2, m3⟩ := freshC hC hV hF
  refine ⟨M1, ?_, m2, hV, Or.inr m3⟩
  unfold gX7_presence
  rw [itemC hC hn hi, te_inl, m1, bd_some, ckI (show i < 80 by omega) (by decide), cI (show i < 2 ^ 31 by omega), (m3.1 i hi).1]
theorem k_length (h : Ok M n cd) {c : Nat} (hc : c < 16) : ∃ M1, gX7_length M (nI c) = some (.inl (nI (vl cd c n).length), M1) ∧ Ok M1 n cd := by
  obtain ⟨hC, hV, hF⟩ := h
  obtain ⟨M1, m1, m2, m3⟩ := freshC hC hV hF
  refine ⟨M1, ?_, m2, hV, Or.inr m3⟩
  unfold gX7_length
  rw [confC hc, te_inl, m1, bd_some, ckI (show c < 16 by omega) (by decide), cI (show c < 2 ^ 31 by omega), lt_n, (m3.2.1 c hc).1]
theorem k_place (h : Ok M n cd) {c k : Nat} (hc : c < 16) (hk : k < (vl cd c n).length) : ∃ M1, gX7_place M (nI c) (nI k) = some (.inl (nI ((vl cd c n).getD k 0)), M1) ∧ Ok M1 n cd := by
  obtain ⟨hC, hV, hF⟩ := h
  have hn := hV.1
  have hl := vl_len (cd := cd) (c := c) n
  obtain ⟨M1, m1, m2, m3⟩ := freshC hC hV hF
  refine ⟨M1, ?_, m2, hV, Or.inr m3⟩
  unfold gX7_place
  rw [confC hc, te_inl, m1, bd_some, idxC hn hc (m3.2.1 c hc) hk, te_inl, ckI (show c < 16 by omega) (by decide), cI (show c < 2 ^ 31 by omega), lt_n, ckI (show k < 80 by omega) (by decide), cI (show k < 2 ^ 31 by omega), (m3.2.1 c hc).2.2 k (by simpa using hk), map_get hk]
def nVar (cd : Nat → Nat) (n : Nat) : Int32 := itr (fun c x => x + bI (fi (fun b => decide (txt cd (vl cd b n) = txt cd (vl cd c n))) c)) 16 (0 : Int32)
theorem k_variants (h : Ok M n cd) : ∃ M1, gX7_variants M = some (nVar cd n, M1) ∧ Ok M1 n cd := by
  obtain ⟨hC, hV, hF⟩ := h
  have hn := hV.1
  obtain ⟨M1, m1, m2, m3⟩ := freshC hC hV hF
  refine ⟨M1, ?_, m2, hV, Or.inr m3⟩
  unfold gX7_variants
  rw [m1, bd_some]
  exact g_for (f := fun k x i => gX7_variants_L8 k M1 x i) (E := fun x => some (x, M1)) (m := 16) (fun k x c hc => by
    rw [gX7_variants_L8]
    by_cases h : c = 16
    · rw [h, if_pos (by decide), if_pos rfl]
    · rw [if_neg (show ¬ (16 : Int32) ≤ nI c from nI_ge (b := 16) (by omega) (by decide)), if_neg h, fstText hV m3.2.1 (by omega), bd_some, lt_n, lt_n, lt_n, up1]
      cases fi (fun b => decide (txt cd (vl cd b n) = txt cd (vl cd c n))) c with
      | false => rw [if_pos (show bI false = 0 from rfl), show bI false = (0 : Int32) from rfl, Int32.add_zero]
      | true => rw [if_neg (show ¬ bI true = 0 by decide)]; rfl) (fuel := FU) (x := 0) (by unfold FU; omega)
/-! reading -/
theorem fin7 (h : SrcC M n cd) (hV : Val n cd) (hw : st cd n = some []) : gX7_checkFinished M = some (.inl 0, M) := by rw [finC h hV hw, if_pos rfl]
theorem k_error (h : Ok M n cd) (hw : st cd n = some []) {c : Nat} (hc : c < 16) : ∃ M1, gX7_error M (nI c) = some (.inl (eI cd c n), M1) ∧ Ok M1 n cd := by
  obtain ⟨hC, hV, hF⟩ := h
  obtain ⟨M1, m1, m2, m3⟩ := freshC hC hV hF
  have m4 := m3.2.2 hw
  refine ⟨M1, ?_, m2, hV, Or.inr m3⟩
  unfold gX7_error
  rw [confC hc, te_inl, fin7 hC hV hw, te_inl, m1, bd_some, ckI (show c < 16 by omega) (by decide), cI (show c < 2 ^ 31 by omega), lt_n, (m4.1 c hc).1]
def wrg (cd : Nat → Nat) (n : Nat) : Int32 := itr (fun c x => if eI cd c n = -1 then x else x ||| ((1 : Int32) <<< (nI c &&& 31))) 16 (0 : Int32)
theorem k_wrong (h : Ok M n cd) (hw : st cd n = some []) : ∃ M1, gX7_wrong M = some (.inl (wrg cd n), M1) ∧ Ok M1 n cd := by
  obtain ⟨hC, hV, hF⟩ := h
  obtain ⟨M1, m1, m2, m3⟩ := freshC hC hV hF
  have m4 := m3.2.2 hw
  refine ⟨M1, ?_, m2, hV, Or.inr m3⟩
  unfold gX7_wrong
  rw [fin7 hC hV hw, te_inl, m1, bd_some]
  exact g_for (f := fun k x i => gX7_wrong_L12 k M1 x i) (E := fun x => some (Sum.inl x, M1)) (m := 16) (fun k x c hc => by
    rw [gX7_wrong_L12]
    by_cases h : c = 16
    · rw [h, if_pos (by decide), if_pos rfl]
    · rw [if_neg (show ¬ (16 : Int32) ≤ nI c from nI_ge (b := 16) (by omega) (by decide)), if_neg h, ckI (show c < 16 by omega) (by decide), cI (show c < 2 ^ 31 by omega), lt_n, (m4.1 c (by omega)).1, lt_n, lt_n, lt_n, up1]
      by_cases z : eI cd c n = -1
      · rw [if_pos z, if_pos z]
      · rw [if_neg z, if_neg z]) (fuel := FU) (x := 0) (by unfold FU; omega)
theorem k_groups (h : Ok M n cd) (hw : st cd n = some []) {i : Nat} (hi : i < n) : ∃ M1, gX7_groups M (nI i) = some (.inl (gr cd i), M1) ∧ Ok M1 n cd := by
  obtain ⟨hC, hV, hF⟩ := h
  have hn := hV.1
  obtain ⟨M1, m1, m2, m3⟩ := freshC hC hV hF
  have m4 := m3.2.2 hw
  refine ⟨M1, ?_, m2, hV, Or.inr m3⟩
  unfold gX7_groups
  rw [itemC hC hn hi, te_inl, fin7 hC hV hw, te_inl, m1, bd_some, ckI (show i < 80 by omega) (by decide), cI (show i < 2 ^ 31 by omega), m4.2.1 i hi]
def stk (cd : Nat → Nat) (c n k : Nat) : Int32 := if k < (hgt cd c n).length then nI ((hgt cd c n).getD k 0) else -1
theorem k_stack (h : Ok M n cd) (hw : st cd n = some []) {c k : Nat} (hc : c < 16) (hk : k < (vl cd c n).length) : ∃ M1, gX7_stack M (nI c) (nI k) = some (.inl (stk cd c n k), M1) ∧ Ok M1 n cd := by
  obtain ⟨hC, hV, hF⟩ := h
  have hn := hV.1
  have hl := vl_len (cd := cd) (c := c) n
  obtain ⟨M1, m1, m2, m3⟩ := freshC hC hV hF
  have m4 := m3.2.2 hw
  have hh := hgt_len (cd := cd) (c := c) n
  refine ⟨M1, ?_, m2, hV, Or.inr m3⟩
  unfold gX7_stack gX1_heightAhead stk
  rw [confC hc, te_inl, m1, bd_some, idxC hn hc (m3.2.1 c hc) hk, te_inl, fin7 m2 hV hw, te_inl, ckI (show c < 16 by omega) (by decide), cI (show c < 2 ^ 31 by omega), lt_n, (m4.1 c hc).2.1, if_neg (nI_pos (by omega))]
  by_cases z : k < (hgt cd c n).length
  · rw [if_neg (nI_ge z (by omega)), ckI (show k < 80 by omega) (by decide), cI (show k < 2 ^ 31 by omega), (m4.1 c hc).2.2 k (by simpa using z), map_get z, if_pos z, bd_some]
  · rw [if_pos (nI_le (by omega) (by omega)), if_neg z, bd_some]
def gnV (cd : Nat → Nat) (n : Nat) : UInt64 := if wk cd n = 0 then FP.dconst0 else FP.ddiv (FP.i2d (aln cd n)) (FP.i2d (wk cd n))
theorem k_gain (h : Ok M n cd) (hw : st cd n = some []) : ∃ M1, gX7_gain M = some (.inl (gnV cd n), M1) ∧ Ok M1 n cd := by
  obtain ⟨hC, hV, hF⟩ := h
  have hn := hV.1
  obtain ⟨M1, m1, m2, m3⟩ := freshC hC hV hF
  have m4 := m3.2.2 hw
  have sC := sumC hn m2 m4.2.1
  have alC : ∀ E, gX7_gain_L23 E FU M1 (wk cd n) (nI 0) (nI 0) = E M1 (wk cd n) (aln cd n) := fun E => g_for (f := fun k x i => gX7_gain_L23 E k M1 (wk cd n) x i) (E := fun x => E M1 (wk cd n) x) (m := 16) (fun k x c hc => by
    rw [gX7_gain_L23]
    by_cases h : c = 16
    · rw [h, if_pos (by decide), if_pos rfl]
    · rw [if_neg (show ¬ (16 : Int32) ≤ nI c from nI_ge (b := 16) (by omega) (by decide)), if_neg h, ckI (show c < 16 by omega) (by decide), cI (show c < 2 ^ 31 by omega), lt_n, (m4.1 c (by omega)).2.1, lt_n, lt_n, up1]) (fuel := FU) (x := nI 0) (by unfold FU; omega)
  refine ⟨M1, ?_, m2, hV, Or.inr m3⟩
  unfold gX7_gain gnV
  rw [fin7 hC hV hw, te_inl, m1, bd_some, sC, bd_some, lt_n]
  have a2 := alC (fun (M12 : Mm) (x13 : Int32) (x14 : Int32) => if ¬ ((FP.ddiv (FP.i2d x14) (FP.i2d x13)) &&& 0x7fffffffffffffff ≤ (0x7ff0000000000000 : UInt64)) then none else some (Sum.inl (FP.ddiv (FP.i2d x14) (FP.i2d x13)), M12))
  by_cases z : wk cd n = 0
  · rw [if_pos z, if_pos z]
  · rw [if_neg z, if_neg z]
    have nn := div_n64 (aln cd n) (wk cd n) z
    have nn2 : ¬ ¬ ((FP.ddiv (FP.i2d (aln cd n)) (FP.i2d (wk cd n))) &&& 0x7fffffffffffffff ≤ (0x7ff0000000000000 : UInt64)) := fun h => h nn
    refine a2.trans ?_
    rw [if_neg nn2]
/-! running -/
theorem noErr {M1 : Mm} (m3 : Fs n cd M1) (hn : n ≤ 80) (hw : st cd n = some []) {c : Nat} (hc : c < 16) (hf : fin cd c n = true) : gX7_checkNoError M1 (nI c) = some (.inl 0, M1) := by
  have m4 := m3.2.2 hw
  unfold gX7_checkNoError
  rw [ckI (show c < 16 by omega) (by decide), cI (show c < 2 ^ 31 by omega), lt_n, (m4.1 c hc).1, if_pos ((eI_m (cd := cd) (c := c) hn).mpr hf)]
theorem k_outputs (h : Ok M n cd) (hw : st cd n = some []) {c : Nat} (hc : c < 16) (hf : fin cd c n = true) : ∃ M1, gX7_outputs M (nI c) = some (.inl (nI (res cd c n).2.length), M1) ∧ Ok M1 n cd := by
  obtain ⟨hC, hV, hF⟩ := h
  have hn := hV.1
  obtain ⟨M1, m1, m2, m3⟩ := freshC hC hV hF
  have m4 := m3.2.2 hw
  refine ⟨M1, ?_, m2, hV, Or.inr m3⟩
  unfold gX7_outputs
  rw [confC hc, te_inl, fin7 hC hV hw, te_inl, m1, bd_some, noErr m3 hn hw hc hf, te_inl, ckI (show c < 16 by omega) (by decide), cI (show c < 2 ^ 31 by omega), lt_n, (m4.2.2 c hc hf).1]
theorem k_output (h : Ok M n cd) (hw : st cd n = some []) {c k : Nat} (hc : c < 16) (hf : fin cd c n = true) (hk : k < (res cd c n).2.length) : ∃ M1, gX7_output M (nI c) (nI k) = some (.inl ((res cd c n).2.getD k 0), M1) ∧ Ok M1 n cd := by
  obtain ⟨hC, hV, hF⟩ := h
  have hn := hV.1
  obtain ⟨M1, m1, m2, m3⟩ := freshC hC hV hF
  have m4 := m3.2.2 hw
  have hlen := (res_ok hn hf).2
  have hr := m4.2.2 c hc hf
  refine ⟨M1, ?_, m2, hV, Or.inr m3⟩
  unfold gX7_output
  rw [confC hc, te_inl, fin7 hC hV hw, te_inl, m1, bd_some, noErr m3 hn hw hc hf, te_inl, ckI (show c < 16 by omega) (by decide), cI (show c < 2 ^ 31 by omega), lt_n, hr.1, if_neg (nI_pos (by omega)), if_pos (nI_lt hk (by omega)), ckI (show k < 80 by omega) (by decide), cI (show k < 2 ^ 31 by omega), hr.2.1 k hk]
theorem k_variable (h : Ok M n cd) (hw : st cd n = some []) {c k : Nat} (hc : c < 16) (hf : fin cd c n = true) (hk : k < 4) : ∃ M1, gX7_variable M (nI c) (nI k) = some (.inl ((res cd c n).1 k), M1) ∧ Ok M1 n cd := by
  obtain ⟨hC, hV, hF⟩ := h
  have hn := hV.1
  obtain ⟨M1, m1, m2, m3⟩ := freshC hC hV hF
  have m4 := m3.2.2 hw
  have hr := m4.2.2 c hc hf
  refine ⟨M1, ?_, m2, hV, Or.inr m3⟩
  unfold gX7_variable
  rw [confC hc, te_inl, fin7 hC hV hw, te_inl, m1, bd_some, noErr m3 hn hw hc hf, te_inl, ckI (show c < 16 by omega) (by decide), cI (show c < 2 ^ 31 by omega), lt_n, if_neg (nI_pos (by omega)), if_pos (show nI k < (4 : Int32) from nI_lt (b := 4) hk (by decide)), ckI (show k < 4 by omega) (by decide), cI (show k < 2 ^ 31 by omega), hr.2.2 k hk]
def nBeh (cd : Nat → Nat) (n : Nat) : Int32 := itr (fun c x => x + bI (fin cd c n && fi (qb cd n c) c)) 16 (0 : Int32)
theorem k_behaviours (h : Ok M n cd) (hw : st cd n = some []) : ∃ M1, gX7_behaviours M = some (.inl (nBeh cd n), M1) ∧ Ok M1 n cd := by
  obtain ⟨hC, hV, hF⟩ := h
  have hn := hV.1
  obtain ⟨M1, m1, m2, m3⟩ := freshC hC hV hF
  have m4 := m3.2.2 hw
  refine ⟨M1, ?_, m2, hV, Or.inr m3⟩
  unfold gX7_behaviours
  rw [fin7 hC hV hw, te_inl, m1, bd_some]
  exact g_for (f := fun k x i => gX7_behaviours_L12 k M1 x i) (E := fun x => some (Sum.inl x, M1)) (m := 16) (fun k x c hc => by
    rw [gX7_behaviours_L12]
    by_cases h : c = 16
    · rw [h, if_pos (by decide), if_pos rfl]
    · have hem := eI_m (cd := cd) (c := c) hn
      rw [if_neg (show ¬ (16 : Int32) ≤ nI c from nI_ge (b := 16) (by omega) (by decide)), if_neg h, ckI (show c < 16 by omega) (by decide), cI (show c < 2 ^ 31 by omega), lt_n, (m4.1 c (by omega)).1]
      by_cases hf : fin cd c n = true
      · rw [if_pos (hem.mpr hf), fstBeh hn m4.1 m4.2.2 (by omega) hf, bd_some, hf, Bool.true_and, lt_n, lt_n, lt_n, up1]
        cases fi (qb cd n c) c with
        | false => rw [if_pos (show bI false = 0 from rfl), show bI false = (0 : Int32) from rfl, Int32.add_zero]
        | true => rw [if_neg (show ¬ bI true = 0 by decide)]; rfl
      · rw [if_neg (fun w => hf (hem.mp w)), lt_n, up1, show fin cd c n = false from by cases h : fin cd c n with
          | true => exact absurd h hf
          | false => rfl, Bool.false_and, show bI false = (0 : Int32) from rfl, Int32.add_zero]) (fuel := FU) (x := 0) (by unfold FU; omega)
end CALLS
