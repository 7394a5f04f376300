/-! bits of a set of configurations -/
theorem shr_t : ∀ c ∈ List.range 16, ((nI c &&& 31).toBitVec.smod 32).toNat = c := by decide +kernel
theorem bit0 (y : Int32) : (y &&& (1 : Int32) = 1) ↔ y.toBitVec.getLsbD 0 = true := by
  rw [← Int32.toBitVec_inj]
  have h : (y &&& (1 : Int32)).toBitVec = y.toBitVec &&& 1#32 := rfl
  have h1 : (1 : Int32).toBitVec = 1#32 := rfl
  rw [h, h1, ← BitVec.toNat_inj, BitVec.toNat_and]
  have h2 : y.toBitVec.toNat &&& (1#32).toNat = y.toBitVec.toNat % 2 := Nat.and_one_is_mod _
  rw [h2]
  show y.toBitVec.toNat % 2 = 1 ↔ y.toBitVec.toNat.testBit 0 = true
  rw [Nat.testBit_zero, decide_eq_true_iff]
theorem bth_bit {a : Int32} {c : Nat} (hc : c < 16) : bth a c = a.toBitVec.getLsbD c := by
  have e : (gX8_has a (nI c) = 1) ↔ a.toBitVec.getLsbD c = true := by
    rw [has_b]
    have h2 : bitI a (nI c) = 1 ↔ a.toBitVec.getLsbD c = true := by
      unfold bitI
      rw [bit0]
      have h3 : (a >>> (nI c &&& 31)).toBitVec = a.toBitVec.sshiftRight c := by
        show a.toBitVec.sshiftRight (((nI c &&& 31).toBitVec.smod 32).toNat) = _
        rw [shr_t c (List.mem_range.mpr hc)]
      rw [h3, BitVec.getLsbD_sshiftRight]
      rw [if_pos (by omega)]
      simp
    rw [← h2]
    by_cases z : bitI a (nI c) = 1
    · rw [if_pos z]; exact ⟨fun _ => z, fun _ => rfl⟩
    · rw [if_neg z]; exact ⟨fun w => absurd w (by decide), fun w => absurd w z⟩
  unfold bth
  cases h : a.toBitVec.getLsbD c with
  | true => exact decide_eq_true (e.mpr h)
  | false => exact decide_eq_false (fun w => by have := e.mp w; rw [h] at this; cases this)
theorem bth_and {a b : Int32} {c : Nat} (hc : c < 16) : bth (a &&& b) c = (bth a c && bth b c) := by
  rw [bth_bit hc, bth_bit hc, bth_bit hc]
  show (a.toBitVec &&& b.toBitVec).getLsbD c = _
  exact BitVec.getLsbD_and ..
theorem bth_msk : ∀ c ∈ List.range 16, ∀ b ∈ List.range 16, bth (((1 : Int32) <<< (nI c &&& 31)) ^^^ (-1 : Int32)) b = decide (b ≠ c) := by decide +kernel
theorem bth_all : ∀ c ∈ List.range 16, bth 65535 c = true ∧ bth 0 c = false := by decide +kernel
theorem bth_clr {a : Int32} {b c : Nat} (hb : b < 16) (hc : c < 16) : bth (a &&& (((1 : Int32) <<< (nI c &&& 31)) ^^^ (-1 : Int32))) b = (bth a b && decide (b ≠ c)) := by
  rw [bth_and hb, bth_msk c (List.mem_range.mpr hc) b (List.mem_range.mpr hb)]
/-! THE MODEL'S READING of all configurations -/
theorem SkM_row {row : Nat → Int32} {o : Nat} : ∀ {s : List Nat}, SkM row o s → RowL (fun j => row (o + j)) (s.map nI).reverse
  | [], _ => fun k hk => absurd hk (Nat.not_lt_zero _)
  | x :: r, h => by
    rw [List.map_cons, List.reverse_cons]
    exact RowL_snoc (SkM_row h.2) (by rw [List.length_reverse, List.length_map]; exact h.1)
theorem likeM {N : Mm} {b c : Nat} {s s' : List Nat} (hb : b < 16) (hc : c < 16) (h : RdM N b s) (h' : RdM N c s') (hv : svv s) (hv' : svv s') (hl : s.length ≤ 320) (hl' : s'.length ≤ 320) : gX8_areLike N (nI b) (nI c) = some (bI (decide (s = s'))) := by
  unfold gX8_areLike
  rw [ckI hb (by decide), ckI hc (by decide), lt_n, cI (by omega), cI (by omega), h.1, h'.1]
  by_cases e : s.length = s'.length
  · rw [if_pos (by rw [e])]
    have e2 : ∀ {s : List Nat}, (s.map nI).reverse.length = s.length := by intro s; rw [List.length_reverse, List.length_map]
    have r1 := SkM_row h.2
    have r2 := SkM_row h'.2
    have g := g_new (f := fun k st i => gX8_areLike_L24 N (nI b) (nI c) k st i) (E := fun x => some x) (q := fun k => !decide ((s.map nI).reverse.getD k 0 = (s'.map nI).reverse.getD k 0)) (c := s.length) (fun k st i hi => by
      rw [gX8_areLike_L24, ckI hb (by decide), cI (by omega), h.1]
      by_cases z : i = s.length
      · rw [z, if_pos (nI_le (Nat.le_refl _) (by omega)), if_pos rfl, if_neg (fun w => w (bI_01 st))]
      · rw [if_neg (nI_ge (by omega) (by omega)), if_neg z]
        cases st with
        | false => rw [if_pos (show bI false = 0 from rfl), if_pos rfl, if_neg (fun w => w (bI_01 _))]
        | true =>
          have g1 : N 4 (400 * b + i) = (s.map nI).reverse.getD i 0 := r1 i (by rw [e2]; omega)
          have g2 : N 4 (400 * c + i) = (s'.map nI).reverse.getD i 0 := r2 i (by rw [e2]; omega)
          rw [if_neg (show ¬ bI true = 0 by decide), if_neg (show ¬ true = false by decide), show (400 : Int32) * nI b + nI i = nI (400 * b + i) from by rw [q400, s_mul, s_add], show (400 : Int32) * nI c + nI i = nI (400 * c + i) from by rw [q400, s_mul, s_add], ckI (show 400 * b + i < 6400 by omega) (by decide), ckI (show 400 * c + i < 6400 by omega) (by decide), cI (show 400 * b + i < 2 ^ 31 by omega), cI (show 400 * c + i < 2 ^ 31 by omega), g1, g2, lt_n, lt_n, up1, Bool.not_not]
          by_cases y : (s.map nI).reverse.getD i 0 = (s'.map nI).reverse.getD i 0
          · rw [if_pos y, decide_eq_true y]; rfl
          · rw [if_neg y, decide_eq_false y]; rfl) (fuel := FU) (s := true) (by unfold FU; omega)
    rw [show bI true = (1 : Int32) from rfl, show nI 0 = (0 : Int32) from rfl] at g
    refine g.trans ?_
    congr 2
    rw [Bool.true_and]
    have k : ∀ m, fi (fun k => !decide ((s.map nI).reverse.getD k 0 = (s'.map nI).reverse.getD k 0)) m = true ↔ ∀ k, k < m → (s.map nI).reverse.getD k 0 = (s'.map nI).reverse.getD k 0 := by
      intro m
      induction m with
      | zero => exact ⟨fun _ k hk => absurd hk (Nat.not_lt_zero _), fun _ => rfl⟩
      | succ m ih =>
        show (fi _ m && !!decide _) = true ↔ _
        rw [Bool.and_eq_true, ih, Bool.not_not, decide_eq_true_iff]
        exact ⟨fun h k hk => by
          by_cases e : k = m
          · rw [e]; exact h.2
          · exact h.1 k (by omega), fun h => ⟨fun k hk => h k (by omega), h m (by omega)⟩⟩
    have hiff := map_inj (f := nI) (s := s) (s' := s') (fun x hx y hy hxy => by
      have h1 := hv x hx
      have h2 := hv' y hy
      exact (nI_eq (by omega) (by omega)).mp hxy)
    rw [Bool.eq_iff_iff, k, decide_eq_true_iff, ← hiff, row_ext (by rw [e2, e2, e]), e2]
  · rw [if_neg (fun w => e ((nI_eq (by omega) (by omega)).mp w)), decide_eq_false (fun w => e (by rw [w]))]
    dsimp only
    rw [show FU = 1999 + 1 from rfl, gX8_areLike_L24, ckI hb (by decide)]
    by_cases z : N 5 (nI b).toNatClampNeg ≤ (0 : Int32)
    · rw [if_pos z, if_neg (fun w => w (Or.inl rfl))]; rfl
    · rw [if_neg z, if_pos rfl, if_neg (fun w => w (Or.inl rfl))]; rfl
/-- a configuration's reading in the model, ahead of item i -/
def MI (cd : Nat → Nat) (N : Mm) (c i : Nat) : Prop := match rd cd c i with
  | some s => RdM N c s ∧ N 6 c = -1
  | none => N 6 c = nI (er cd c i)
def dA (cd : Nat → Nat) (c i : Nat) : Int32 := match rd cd c i with
  | some s => nI s.length
  | none => -1
theorem MI_stay {cd : Nat → Nat} {N : Mm} {c i : Nat} (h : MI cd N c i) (ha : ¬ (inV cd c i = true ∧ (rd cd c i).isSome = true)) : MI cd N c (i + 1) ∧ rd cd c (i + 1) = rd cd c i := by
  have e1 : rd cd c (i + 1) = rd cd c i := by
    show (if inV cd c i = true then (rd cd c i).bind (feed (cd i)) else rd cd c i) = _
    by_cases a : inV cd c i = true
    · rw [if_pos a]
      cases hr : rd cd c i with
      | none => rfl
      | some s => exact absurd ⟨a, by rw [hr]; rfl⟩ ha
    · rw [if_neg a]
  have e3 : er cd c (i + 1) = er cd c i := by
    show (if rd cd c i ≠ none ∧ rd cd c (i + 1) = none then i else er cd c i) = _
    rw [e1, if_neg (fun w => w.1 w.2)]
  refine ⟨?_, e1⟩
  unfold MI at h ⊢
  rw [e1, e3]
  exact h
theorem MI_oth {cd : Nat → Nat} {n : Nat} {N N' : Mm} {b c i : Nat} (hV : Val n cd) (hi : i ≤ n) (h : MI cd N b i) (hne : b ≠ c) (F : FrM c N N') : MI cd N' b i := by
  have hn := hV.1
  unfold MI at h ⊢
  cases hr : rd cd b i with
  | some s =>
    rw [hr] at h
    obtain ⟨v1, l1, -⟩ := rd_some hV hi hr
    exact ⟨F.oth hne (by omega) h.1, by rw [F.1 6 (by decide) (by decide)]; exact h.2⟩
  | none =>
    rw [hr] at h
    show N' 6 b = _
    rw [F.1 6 (by decide) (by decide)]; exact h
theorem MI_um {cd : Nat → Nat} {N : Mm} {b i k j : Nat} {v : Int32} (h : MI cd N b i) (h4 : k ≠ 4) (h5 : k ≠ 5) (h6 : k ≠ 6 ∨ b ≠ j) : MI cd (um N k j v) b i := by
  have e6 : um N k j v 6 b = N 6 b := by
    rcases h6 with h6 | h6
    · rw [um_fn h6.symm]
    · rw [um_place h6]
  unfold MI at h ⊢
  cases hr : rd cd b i with
  | some s =>
    rw [hr] at h
    exact ⟨⟨by rw [um_fn h5.symm]; exact h.1.1, by rw [um_fn h4.symm]; exact h.1.2⟩, by rw [e6]; exact h.2⟩
  | none =>
    rw [hr] at h
    show um N k j v 6 b = _
    rw [e6]; exact h
theorem grpM {cd : Nat → Nat} {n i : Nat} {N : Mm} {set : Int32} (hV : Val n cd) (hi : i < n) (hb : ∀ c, c < 16 → bth set c = al cd c i) (hI : ∀ b, b < 16 → MI cd N b i) : gX8_countGroups N set = some (gr cd i) := by
  have hn := hV.1
  unfold gX8_countGroups
  have e := g_for (f := fun k x c => gX8_countGroups_L4 N set k x c) (g := fun c x => x + bI (al cd c i && fi (fun b => al cd b i && decide (rd cd b i = rd cd c i)) c)) (E := fun x => some x) (m := 16) (fun k x c hc => by
    rw [gX8_countGroups_L4]
    by_cases h : c = 16
    · rw [h, if_pos (by decide), if_pos rfl]
    · have hc16 : c < 16 := by omega
      rw [if_neg (show ¬ (16 : Int32) ≤ nI c from nI_ge (b := 16) (by omega) (by decide)), if_neg h, lt_n, has_bt, hb c hc16]
      have fin : ∀ b : Bool, (if bI b = (0 : Int32) then (lt (nI c + (1 : Int32)) fun x10 => gX8_countGroups_L4 N set k (x + (0 : Int32)) x10) else lt (nI c + (1 : Int32)) fun x11 => gX8_countGroups_L4 N set k (x + (1 : Int32)) x11) = gX8_countGroups_L4 N set k (x + bI b) (nI (c + 1)) := by
        intro b
        rw [lt_n, lt_n, up1]
        cases b
        · rw [if_pos (show bI false = 0 from rfl)]; rfl
        · rw [if_neg (show ¬ bI true = 0 by decide)]; rfl
      cases ha : al cd c i with
      | false =>
        rw [show FU = 1999 + 1 from rfl, gX8_countGroups_L20]
        rw [Bool.false_and]
        have f0 := fin false
        by_cases z : nI c ≤ (0 : Int32)
        · rw [if_pos z]; exact f0
        · rw [if_neg z, if_pos (show bI false = 0 from rfl)]; exact f0
      | true =>
        have ha2 := ha
        unfold al at ha2
        rw [Bool.and_eq_true] at ha2
        obtain ⟨s, hs⟩ := Option.isSome_iff_exists.mp ha2.2
        obtain ⟨v1, l1, -⟩ := rd_some hV (by omega) hs
        have R1 := hI c hc16
        unfold MI at R1
        rw [hs] at R1
        have g := g_new (f := fun k' s b => gX8_countGroups_L20 N set (fun (x5 : Int32) (x6 : Int32) (x7 : Int32) => if x7 = 0 then (lt (x6 + (1 : Int32)) fun x10 => gX8_countGroups_L4 N set k (x5 + (0 : Int32)) x10) else lt (x6 + (1 : Int32)) fun x11 => gX8_countGroups_L4 N set k (x5 + (1 : Int32)) x11) k' x (nI c) s b) (E := fun y => if y = (0 : Int32) then (lt (nI c + (1 : Int32)) fun x10 => gX8_countGroups_L4 N set k (x + (0 : Int32)) x10) else lt (nI c + (1 : Int32)) fun x11 => gX8_countGroups_L4 N set k (x + (1 : Int32)) x11) (q := fun b => al cd b i && decide (rd cd b i = rd cd c i)) (c := c) (fun k' st b hbc => by
          rw [gX8_countGroups_L20]
          by_cases h : b = c
          · rw [h, if_pos (nI_le (Nat.le_refl _) (by omega)), if_pos rfl]
          · rw [if_neg (nI_ge (by omega) (by omega)), if_neg h]
            cases st with
            | false => rw [if_pos (show bI false = 0 from rfl), if_pos rfl]
            | true =>
              rw [if_neg (show ¬ bI true = 0 by decide), if_neg (show ¬ true = false by decide), has_bt, hb b (by omega), lt_n, up1]
              cases hb2 : al cd b i with
              | false => rw [if_pos (show bI false = 0 from rfl)]; rfl
              | true =>
                have hb3 := hb2
                unfold al at hb3
                rw [Bool.and_eq_true] at hb3
                obtain ⟨s', hs'⟩ := Option.isSome_iff_exists.mp hb3.2
                obtain ⟨v2, l2, -⟩ := rd_some hV (by omega) hs'
                have R2 := hI b (by omega)
                unfold MI at R2
                rw [hs'] at R2
                rw [if_neg (show ¬ bI true = 0 by decide), likeM (by omega) hc16 R2.1 R1.1 v2 v1 (by omega) (by omega), bd_some, hs, hs']
                by_cases z : s' = s
                · rw [decide_eq_true z, if_neg (show ¬ bI true = 0 by decide)]; simp [z, bI, lt_n]
                · rw [decide_eq_false z, if_pos (show bI false = 0 from rfl)]; simp [z, bI, lt_n]) (fuel := FU) (s := true) (by unfold FU; omega)
        rw [show nI 0 = (0 : Int32) from rfl] at g
        rw [g, fin]) (fuel := FU) (x := 0) (by unfold FU; omega)
  exact e
def Dq (cd : Nat → Nat) (N : Mm) (c i : Nat) : Prop := ∀ j, j < i → N 8 (80 * c + j) = dA cd c j
/-- all configurations, at an item, in the model -/
theorem itemM {cd : Nat → Nat} {n i : Nat} {N : Mm} {right set : Int32} (hV : Val n cd) (hi : i < n) (h1 : N 1 i = nI (cd i)) (hb : ∀ c, c < 16 → bth set c = al cd c i) (hr : ∀ c, c < 16 → bth right c = (rd cd c i).isSome) (hI : ∀ b, b < 16 → MI cd N b i) (hD : ∀ b, b < 16 → Dq cd N b i) : ∃ s' : Mm × Int32, (∀ E, gX8_read_L86 E FU N right (nI i) set (nI 0) = E s'.1 s'.2 (nI i)) ∧ (∀ a, a ≠ 4 → a ≠ 5 → a ≠ 6 → a ≠ 8 → s'.1 a = N a) ∧ ∀ b, b < 16 → (MI cd s'.1 b (i + 1) ∧ bth s'.2 b = (rd cd b (i + 1)).isSome) ∧ Dq cd s'.1 b (i + 1) := by
  have hn := hV.1
  refine cfg_loop (ε := Mm → Int32 → Int32 → Option Mm) (σ := Mm × Int32) (s := (N, right)) (L := fun E k s x => gX8_read_L86 E k s.1 s.2 (nI i) set x) (F := fun E s => E s.1 s.2 (nI i)) (m := 16) (fun s b => (MI cd s.1 b i ∧ bth s.2 b = (rd cd b i).isSome) ∧ Dq cd s.1 b i) (fun s b => (MI cd s.1 b (i + 1) ∧ bth s.2 b = (rd cd b (i + 1)).isSome) ∧ Dq cd s.1 b (i + 1)) (fun s => ∀ a, a ≠ 4 → a ≠ 5 → a ≠ 6 → a ≠ 8 → s.1 a = N a) (fun c s hc hF hQ _ => ?_) (fun E k s _ => ?_) (by unfold FU; omega) (fun _ _ _ _ _ => rfl) (fun b hb => ⟨⟨hI b hb, hr b hb⟩, hD b hb⟩)
  · obtain ⟨S, rt⟩ := s
    obtain ⟨⟨q1, q2⟩, q3⟩ := hQ
    dsimp only at q1 q2 q3 hF ⊢
    have s1 : S 1 = N 1 := hF 1 (by decide) (by decide) (by decide) (by decide)
    -- the height ahead of the item
    have e0 : ∀ E k, gX8_read_L86 E (k + 1) S rt (nI i) set (nI c) = if al cd c i = false then gX8_read_L86 E k (um S 8 (80 * c + i) (dA cd c i)) rt (nI i) set (nI (c + 1)) else bd2 (gX8_readOne (um S 8 (80 * c + i) (dA cd c i)) (nI c) (nI (cd i))) fun r68 M67 => if r68 = 0 then (lt (um M67 6 c (nI i)) fun M71 => lt (rt &&& (((1 : Int32) <<< (nI c &&& 31)) ^^^ (-1 : Int32))) fun x72 => gX8_read_L86 E k M71 x72 (nI i) set (nI (c + 1))) else gX8_read_L86 E k M67 rt (nI i) set (nI (c + 1)) := by
      intro E k
      have hm : um S 8 (80 * c + i) (dA cd c i) 1 i = nI (cd i) := by rw [um_fn (by decide), s1]; exact h1
      have body : ∀ v : Int32, v = dA cd c i → (if ((((80 : Int32) * nI c) + nI i) < 0 ∨ 1280 ≤ ((((80 : Int32) * nI c) + nI i)).toNatClampNeg) then none else lt (um S 8 ((((80 : Int32) * nI c) + nI i)).toNatClampNeg v) fun M62 => if (gX8_has set (nI c)) = 0 then (lt (nI c + (1 : Int32)) fun x64 => gX8_read_L86 E k M62 rt (nI i) set x64) else if (nI i < 0 ∨ 80 ≤ (nI i).toNatClampNeg) then none else bd2 (gX8_readOne M62 (nI c) (M62 1 (nI i).toNatClampNeg)) fun r68 M67 => if r68 = 0 then (if (nI c < 0 ∨ 16 ≤ (nI c).toNatClampNeg) then none else lt (um M67 6 (nI c).toNatClampNeg (nI i)) fun M71 => lt (rt &&& (((1 : Int32) <<< (nI c &&& 31)) ^^^ (-1 : Int32))) fun x72 => lt (nI c + (1 : Int32)) fun x73 => gX8_read_L86 E k M71 x72 (nI i) set x73) else lt (nI c + (1 : Int32)) fun x74 => gX8_read_L86 E k M67 rt (nI i) set x74) = if al cd c i = false then gX8_read_L86 E k (um S 8 (80 * c + i) (dA cd c i)) rt (nI i) set (nI (c + 1)) else bd2 (gX8_readOne (um S 8 (80 * c + i) (dA cd c i)) (nI c) (nI (cd i))) fun r68 M67 => if r68 = 0 then (lt (um M67 6 c (nI i)) fun M71 => lt (rt &&& (((1 : Int32) <<< (nI c &&& 31)) ^^^ (-1 : Int32))) fun x72 => gX8_read_L86 E k M71 x72 (nI i) set (nI (c + 1))) else gX8_read_L86 E k M67 rt (nI i) set (nI (c + 1)) := by
        intro v hv
        rw [show (80 : Int32) * nI c + nI i = nI (80 * c + i) from by rw [q80, s_mul, s_add], ckI (show 80 * c + i < 1280 by omega) (by decide), cI (show 80 * c + i < 2 ^ 31 by omega), lt_n, hv, has_bt, hb c hc]
        cases al cd c i with
        | false => rw [if_pos (show bI false = 0 from rfl), if_pos rfl, lt_n, up1]
        | true =>
          rw [if_neg (show ¬ bI true = 0 by decide), if_neg (show ¬ true = false by decide), ckI (show i < 80 by omega) (by decide), cI (show i < 2 ^ 31 by omega), hm]
          congr 1
          funext r68 M67
          rw [ckI hc (by decide), cI (show c < 2 ^ 31 by omega), up1]
          rfl
      rw [gX8_read_L86, if_neg (show ¬ (16 : Int32) ≤ nI c from nI_ge (b := 16) hc (by decide)), lt_n, has_bt, q2]
      unfold MI at q1
      cases hrd : rd cd c i with
      | none =>
        rw [show (none : Option (List Nat)).isSome = false from rfl, if_pos (show bI false = 0 from rfl)]
        exact body (-1) (by unfold dA; rw [hrd])
      | some st =>
        rw [hrd] at q1
        rw [show (some st).isSome = true from rfl, if_neg (show ¬ bI true = 0 by decide), ckI hc (by decide), cI (show c < 2 ^ 31 by omega)]
        exact body _ (by unfold dA; rw [hrd]; exact q1.1.1)
    have q1' : MI cd (um S 8 (80 * c + i) (dA cd c i)) c i := MI_um q1 (by decide) (by decide) (Or.inl (by decide))
    have D1 : Dq cd (um S 8 (80 * c + i) (dA cd c i)) c (i + 1) := by
      intro j hj
      by_cases e : j = i
      · rw [e, um_hit]
      · rw [um_place (by omega)]; exact q3 j (by omega)
    have Dn : ∀ b k, b ≠ c → b < 16 → k ≤ 80 → Dq cd S b k → Dq cd (um S 8 (80 * c + i) (dA cd c i)) b k := by
      intro b k hne hb hk h j hj
      rw [um_place (by omega)]; exact h j hj
    cases ha : al cd c i with
    | false =>
      have hst := MI_stay q1' (fun w => by unfold al at ha; rw [w.1, w.2] at ha; cases ha)
      refine ⟨(um S 8 (80 * c + i) (dA cd c i), rt), fun E k => ?_, ⟨⟨hst.1, ?_⟩, D1⟩, fun a b1 b2 b3 b4 => (um_fn b4).trans (hF a b1 b2 b3 b4), fun b hb hne => ⟨fun h => ⟨⟨MI_um h.1.1 (by decide) (by decide) (Or.inl (by decide)), h.1.2⟩, Dn b i hne hb (by omega) h.2⟩, fun h => ⟨⟨MI_um h.1.1 (by decide) (by decide) (Or.inl (by decide)), h.1.2⟩, Dn b (i + 1) hne hb (by omega) h.2⟩⟩⟩
      · rw [e0, if_pos ha]
      · rw [hst.2]; exact q2
    | true =>
      have ha2 := ha
      unfold al at ha2
      rw [Bool.and_eq_true] at ha2
      obtain ⟨st, hs⟩ := Option.isSome_iff_exists.mp ha2.2
      obtain ⟨v1, l1, -⟩ := rd_some hV (by omega) hs
      obtain ⟨t1, t2, t3⟩ := inV_tok hV hi ha2.1
      have q1s := q1'
      unfold MI at q1s
      rw [hs] at q1s
      obtain ⟨N1, F1, r1⟩ := readT q1s.1 hc t1 t3 t2 (by omega) v1
      have rd1 : rd cd c (i + 1) = feed (cd i) st := by
        show (if inV cd c i = true then (rd cd c i).bind (feed (cd i)) else rd cd c i) = _
        rw [if_pos ha2.1, hs]; rfl
      have f8 : N1 8 = um S 8 (80 * c + i) (dA cd c i) 8 := F1.1 8 (by decide) (by decide)
      have Do : ∀ b k, b ≠ c → b < 16 → k ≤ 80 → Dq cd S b k → Dq cd N1 b k := fun b k hne hb hk h j hj => by rw [f8]; exact Dn b k hne hb hk h j hj
      have Dc : Dq cd N1 c (i + 1) := fun j hj => by rw [f8]; exact D1 j hj
      have Mo : ∀ b k, b ≠ c → k ≤ n → MI cd S b k → MI cd N1 b k := fun b k hne hk h => MI_oth hV hk (MI_um h (by decide) (by decide) (Or.inl (by decide))) hne F1
      cases hf : feed (cd i) st with
      | some st' =>
        rw [hf] at r1
        refine ⟨(N1, rt), fun E k => ?_, ⟨⟨?_, ?_⟩, Dc⟩, fun a b1 b2 b3 b4 => (F1.1 a b1 b2).trans ((um_fn b4).trans (hF a b1 b2 b3 b4)), fun b hb hne => ⟨fun h => ⟨⟨Mo b i hne (by omega) h.1.1, h.1.2⟩, Do b i hne hb (by omega) h.2⟩, fun h => ⟨⟨Mo b (i + 1) hne (by omega) h.1.1, h.1.2⟩, Do b (i + 1) hne hb (by omega) h.2⟩⟩⟩
        · rw [e0, if_neg (by rw [ha]; decide), r1.1, bd2_some, if_neg (by decide)]
        · unfold MI
          rw [rd1, hf]
          exact ⟨r1.2, by show N1 6 c = -1; rw [F1.1 6 (by decide) (by decide)]; exact q1s.2⟩
        · show bth rt c = _
          rw [rd1, hf, q2, hs]
          rfl
      | none =>
        rw [hf] at r1
        have e3 : er cd c (i + 1) = i := by
          show (if rd cd c i ≠ none ∧ rd cd c (i + 1) = none then i else er cd c i) = _
          rw [if_pos ⟨by rw [hs]; simp, by rw [rd1, hf]⟩]
        refine ⟨(um N1 6 c (nI i), rt &&& (((1 : Int32) <<< (nI c &&& 31)) ^^^ (-1 : Int32))), fun E k => ?_, ⟨⟨?_, ?_⟩, ?_⟩, fun a b1 b2 b3 b4 => (um_fn b3).trans ((F1.1 a b1 b2).trans ((um_fn b4).trans (hF a b1 b2 b3 b4))), fun b hb hne => ⟨fun h => ⟨⟨MI_um (Mo b i hne (by omega) h.1.1) (by decide) (by decide) (Or.inr hne), ?_⟩, ?_⟩, fun h => ⟨⟨MI_um (Mo b (i + 1) hne (by omega) h.1.1) (by decide) (by decide) (Or.inr hne), ?_⟩, ?_⟩⟩⟩
        · rw [e0, if_neg (by rw [ha]; decide), r1, bd2_some, if_pos rfl, lt_n, lt_n]
        · unfold MI
          rw [rd1, hf, e3]
          show um N1 6 c (nI i) 6 c = nI i
          exact um_hit
        · show bth _ c = _
          rw [bth_clr hc hc, rd1, hf]
          simp
        · intro j hj
          show um N1 6 c (nI i) 8 _ = _
          rw [um_fn (by decide)]; exact Dc j hj
        · show bth _ b = _
          rw [bth_clr hb hc, decide_eq_true hne, Bool.and_true]; exact h.1.2
        · intro j hj
          show um N1 6 c (nI i) 8 _ = _
          rw [um_fn (by decide)]; exact Do b i hne hb (by omega) h.2 j hj
        · show bth _ b = _
          rw [bth_clr hb hc, decide_eq_true hne, Bool.and_true]; exact h.1.2
        · intro j hj
          show um N1 6 c (nI i) 8 _ = _
          rw [um_fn (by decide)]; exact Do b (i + 1) hne hb (by omega) h.2 j hj
  · show gX8_read_L86 E (k + 1) s.1 s.2 (nI i) set (nI 16) = _
    rw [gX8_read_L86, if_pos (by decide)]
