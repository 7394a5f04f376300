/-- the model runs a text -/
theorem runM {N : Mm} {n c : Nat} {cd : Nat → Nat} (hM : SrcM N n cd) (hV : Val n cd) (hP : ∀ j, j < n → N 2 j = pres cd j) (hf : fin cd c n = true) : ∃ N', gX8_run N (nI c) = some N' ∧ N' 0 13 = nI (res cd c n).2.length ∧ RowL (N' 11) (res cd c n).2 ∧ (∀ v, v < 4 → N' 10 v = (res cd c n).1 v) ∧ (∀ a, a ≠ 0 → a ≠ 9 → a ≠ 10 → a ≠ 11 → N' a = N a) ∧ ∀ i, i ≠ 11 → i ≠ 13 → N' 0 i = N 0 i := by
  have hn := hV.1
  have hl := vl_len (cd := cd) (c := c) n
  obtain ⟨L, hL⟩ : ∃ L, (vl cd c n).length = L := ⟨_, rfl⟩
  rw [hL] at hl
  unfold gX8_run
  rw [lt_n]
  -- the tokens
  have cp : ∀ m i fuel M0, i + m = n → m < fuel → (∀ a, a ≠ 9 → M0 a = N a) → (∀ k, k < (vl cd c i).length → M0 9 k = nI (cd ((vl cd c i).getD k 0))) → ∃ M1, (∀ E, gX8_run_L4 (nI c) E fuel M0 (nI (vl cd c i).length) (nI i) = E M1 (nI L)) ∧ (∀ k, k < L → M1 9 k = nI (cd ((vl cd c n).getD k 0))) ∧ ∀ a, a ≠ 9 → M1 a = N a := by
    intro m
    induction m with
    | zero =>
      intro i fuel M0 h1 h2 h3 h4
      obtain ⟨k, rfl⟩ : ∃ k, fuel = k + 1 := ⟨fuel - 1, by omega⟩
      obtain rfl : i = n := by omega
      exact ⟨M0, fun E => by rw [gX8_run_L4, h3 0 (by decide), hM.1, if_pos (nI_le (Nat.le_refl _) (by omega)), hL], fun k hk => h4 k (by omega), h3⟩
    | succ m ih =>
      intro i fuel M0 h1 h2 h3 h4
      obtain ⟨k, rfl⟩ : ∃ k, fuel = k + 1 := ⟨fuel - 1, by omega⟩
      have hi : i < n := by omega
      have M0s : SrcM M0 n cd := ⟨by rw [h3 0 (by decide)]; exact hM.1, fun j hj => by rw [h3 1 (by decide)]; exact hM.2 j hj⟩
      have hli := vl_len (cd := cd) (c := c) i
      have e0 : ∀ E, gX8_run_L4 (nI c) E (k + 1) M0 (nI (vl cd c i).length) (nI i) = if inV cd c i = true then gX8_run_L4 (nI c) E k (um M0 9 (vl cd c i).length (nI (cd i))) (nI ((vl cd c i).length + 1)) (nI (i + 1)) else gX8_run_L4 (nI c) E k M0 (nI (vl cd c i).length) (nI (i + 1)) := by
        intro E
        rw [gX8_run_L4, M0s.1, if_neg (nI_ge hi (by omega)), tokM M0s hV hi, bd_some, ckI (show i < 80 by omega) (by decide), cI (show i < 2 ^ 31 by omega), h3 2 (by decide), hP i hi, has_bt, ckJ (show i < 80 by omega) (by decide), ckI (show (vl cd c i).length < 81 by omega) (by decide), cI (show (vl cd c i).length < 2 ^ 31 by omega), M0s.2 i hi]
        unfold inV
        simp only [bI_0, ↓lt_n, up1]
        cases decide (18 ≤ cd i) <;> cases bth (pres cd i) c <;> rfl
      have vs : vl cd c (i + 1) = if inV cd c i then vl cd c i ++ [i] else vl cd c i := rfl
      by_cases a : inV cd c i = true
      · rw [if_pos a] at vs
        obtain ⟨M1, e1, e2, e3⟩ := ih (i + 1) k (um M0 9 (vl cd c i).length (nI (cd i))) (by omega) (by omega) (fun a ha => (um_fn ha).trans (h3 a ha)) (fun k hk => by
          rw [vs] at hk ⊢
          simp only [List.length_append, List.length_singleton] at hk
          by_cases e : k = (vl cd c i).length
          · rw [e, um_hit]; simp [List.getD]
          · rw [um_place e, h4 k (by omega)]
            simp [List.getD, List.getElem?_append_left (show k < (vl cd c i).length by omega)])
        refine ⟨M1, fun E => ?_, e2, e3⟩
        rw [e0, if_pos a]
        rw [vs, List.length_append, List.length_singleton] at e1
        exact e1 E
      · rw [if_neg a] at vs
        obtain ⟨M1, e1, e2, e3⟩ := ih (i + 1) k M0 (by omega) (by omega) h3 (by rw [vs]; exact h4)
        refine ⟨M1, fun E => ?_, e2, e3⟩
        rw [e0, if_neg a]
        rw [vs] at e1
        exact e1 E
  obtain ⟨M1, a1, a2, a3⟩ := cp n 0 FU N (by omega) (by unfold FU; omega) (fun _ _ => rfl) (fun k hk => absurd hk (Nat.not_lt_zero _))
  have a1 : ∀ E, gX8_run_L4 (nI c) E FU N (0 : Int32) (0 : Int32) = E M1 (nI L) := a1
  rw [a1, ckI (show L < 81 by omega) (by decide), cI (show L < 2 ^ 31 by omega), lt_n, lt_n, lt_n, lt_n]
  -- the variables
  have vr : ∀ m i fuel M0, i + m = 4 → m < fuel → (∀ v, v < i → M0 10 v = 0) → ∃ M2, (∀ E, gX8_run_L76 (nI c) E fuel M0 (nI L) (nI i) = E M2 (nI L)) ∧ (∀ v, v < 4 → M2 10 v = 0) ∧ ∀ a, a ≠ 10 → M2 a = M0 a := by
    intro m
    induction m with
    | zero =>
      intro i fuel M0 h1 h2 h3
      obtain ⟨k, rfl⟩ : ∃ k, fuel = k + 1 := ⟨fuel - 1, by omega⟩
      obtain rfl : i = 4 := by omega
      exact ⟨M0, fun E => by rw [gX8_run_L76, if_pos (by decide)], h3, fun a _ => rfl⟩
    | succ m ih =>
      intro i fuel M0 h1 h2 h3
      obtain ⟨k, rfl⟩ : ∃ k, fuel = k + 1 := ⟨fuel - 1, by omega⟩
      obtain ⟨M2, e1, e2, e3⟩ := ih (i + 1) k (um M0 10 i 0) (by omega) (by omega) (fun v hv => by
        by_cases e : v = i
        · rw [e, um_hit]
        · rw [um_place e]; exact h3 v (by omega))
      refine ⟨M2, fun E => ?_, e2, fun a ha => (e3 a ha).trans (um_fn ha)⟩
      rw [gX8_run_L76, if_neg (show ¬ (4 : Int32) ≤ nI i from nI_ge (b := 4) (by omega) (by decide)), ckI (show i < 4 by omega) (by decide), cI (show i < 2 ^ 31 by omega), lt_n, lt_n, up1, e1]
  obtain ⟨M2, b1, b2, b3⟩ := vr 4 0 FU (um (um (um M1 9 L 0) 0 11 0) 0 13 0) (by omega) (by unfold FU; omega) (fun v hv => absurd hv (Nat.not_lt_zero _))
  rw [show nI 0 = (0 : Int32) from rfl] at b1
  rw [b1]
  obtain ⟨r1, r2⟩ := res_ok hn hf
  have g9 : M2 9 = um M1 9 L 0 9 := by rw [b3 9 (by decide), um_fn (by decide), um_fn (by decide)]
  have S : StM (M2 9) M2 M2 0 (fun _ => 0) [] := by
    refine ⟨?_, ?_, fun k hk => absurd hk (Nat.not_lt_zero _), b2, rfl, fun _ _ _ _ => rfl, fun _ _ _ => rfl⟩
    · rw [b3 0 (by decide), um_place (by decide), um_hit]; rfl
    · rw [b3 0 (by decide), um_hit]; rfl
  have h0 : M2 9 L = nI 0 := by rw [g9, um_hit]; rfl
  have hAt : At (M2 9) L 0 (tks cd c n) := by
    refine At_of (fun k hk => ?_) (tks_126 hV) (by rw [tks_len, hL, Nat.zero_add])
    rw [tks_len, hL] at hk
    rw [Nat.zero_add, g9, um_place (by omega), a2 k hk, tks_get (by omega), txt_get (by omega)]
  obtain ⟨M3, p3, A3, S3, -, i2, -, -⟩ := mX (cnt := L) (row := M2 9) (B := M2) (by omega) h0 402 1 0 true (fun _ => 0) (res cd c n).1 [] (res cd c n).2 (tks cd c n) [] M2 0 r1 hAt S (by rw [tks_len, hL]; simp; omega)
  have e5 := i2 rfl rfl rfl (nI c) FU (by rw [tks_len, hL]; unfold FU; omega)
  refine ⟨M3, e5, S3.2.1, S3.2.2.1, S3.2.2.2.1, fun a h0 h9 h10 h11 => ?_, fun i h11 h13 => ?_⟩
  · rw [S3.2.2.2.2.2.1 a h0 h10 h11, b3 a h10, um_fn h0, um_fn h0, um_fn h9, a3 a h9]
  · rw [S3.2.2.2.2.2.2 i h11 h13, b3 0 (by decide), um_place h13, um_place h11, um_fn (by decide), a3 0 (by decide)]
