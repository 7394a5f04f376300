section SRC2
variable {Fr : Nat → (Nat → Nat) → Mm → Prop}
theorem room_no {M : Mm} {n : Nat} {cd : Nat → Nat} (hC : SrcC M n cd) (h : n = 80) : gX7_checkRoom M = some (.inr 1, M) := by
  unfold gX7_checkRoom
  rw [hC.1, h, if_neg (show ¬ nI 80 < (80 : Int32) by decide)]
theorem room_ok {M : Mm} {n : Nat} {cd : Nat → Nat} (hC : SrcC M n cd) (h : n < 80) : gX7_checkRoom M = some (.inl 0, M) := by
  unfold gX7_checkRoom
  rw [hC.1, if_pos (show nI n < (80 : Int32) from nI_lt (b := 80) h (by decide))]
theorem n80 {n : Nat} (h : n < 80) : ¬ nI n = (80 : Int32) := fun e => by have := (nI_eq (a := n) (b := 80) (by omega) (by decide)).mp e; omega
/-- an outcome of a refusal -/
theorem ref_s {M N : Mm} {k : Nat} {l : List Nat} {v : Int32} {g7 : Option ((Int32 ⊕ Nat) × Mm)} {g8 : Option (Int32 × Mm)} (h7 : g7 = some (.inr k, M)) (h8 : g8 = some (0, um (um N 0 0 0) 0 0 v)) (hk : k ∈ l) (hv : v = hN l (.inr k : Int32 ⊕ Nat)) (hR : ∃ n cd, SrcC M n cd ∧ SrcM N n cd ∧ Val n cd ∧ (M 0 4 = 0 ∨ Fr n cd M)) : ∃ (oc : Int32 ⊕ Nat) (M1 : Mm) (bv : Int32) (N1 : Mm), g7 = some (oc, M1) ∧ (∀ k, oc = .inr k → k ∈ l) ∧ g8 = some (bv, N1) ∧ N1 0 0 = hN l oc ∧ (∀ v, oc = .inl v → v = bv ∧ (fun _ : Int32 => True) v) ∧ Rl Fr M1 N1 := by
  obtain ⟨n, cd, a, b, c, d⟩ := hR
  exact ⟨_, _, _, _, h7, (fun k' h => by cases h; exact hk), h8, um_hit.trans hv, (fun v h => by cases h), n, cd, a, (b.thr 0).thr v, c, d⟩
/-- an outcome with a code more -/
theorem app_s {M N : Mm} {n c : Nat} {cd : Nat → Nat} {l : List Nat} {g7 : Option ((Int32 ⊕ Nat) × Mm)} {g8 : Option (Int32 × Mm)} (hC : SrcC M n cd) (hM : SrcM N n cd) (hV : Val n cd) (hn : n < 80) (hc : c ≤ 17) {ls ls' : List (Nat × Bool)} (hl : st cd n = some ls) (hs : stp c n ls = some ls') (h7 : g7 = bd2 (gX7_append M (nI c)) fun r M1 => some (.inl r, M1)) (h8 : g8 = bd2 (gX8_append (um N 0 0 0) (nI c)) fun r N1 => some (r, N1)) : ∃ (oc : Int32 ⊕ Nat) (M1 : Mm) (bv : Int32) (N1 : Mm), g7 = some (oc, M1) ∧ (∀ k, oc = .inr k → k ∈ l) ∧ g8 = some (bv, N1) ∧ N1 0 0 = hN l oc ∧ (∀ v, oc = .inl v → v = bv ∧ (fun _ : Int32 => True) v) ∧ Rl Fr M1 N1 := by
  obtain ⟨M1, m1, m2, m3⟩ := appC (c := c) hC hn
  obtain ⟨N1, n1, n2, n3⟩ := appM (c := c) (hM.thr 0) hn
  rw [bd2_s9 m1] at h7
  rw [bd2_s9 n1] at h8
  exact ⟨_, _, _, _, h7, (fun k h => by cases h), h8, by rw [n3]; exact um_hit, (fun v h => by cases h; exact ⟨rfl, trivial⟩), n + 1, _, m2, n2, Val_app hV hn (ok_s hc) hl hs, Or.inl m3⟩
theorem unf_s {M : Mm} {n : Nat} {cd : Nat → Nat} (hC : SrcC M n cd) (hV : Val n cd) {l : List (Nat × Bool)} (hl : st cd n = some l) : gX7_checkUnfinished M = if l = [] then some (.inr 1, M) else some (.inl 0, M) := by
  unfold gX7_checkUnfinished
  have h5 := st_len hl
  rw [cntC hC hV hl, bd_s9 rfl]
  cases l with
  | nil => rw [if_pos (show nI ([] : List (Nat × Bool)).length = 0 from rfl), if_pos rfl]
  | cons q r => rw [if_neg (show ¬ nI (q :: r).length = 0 from fun e => by have := (nI_z (k := (q :: r).length) (by omega)).mp e; simp at this), if_neg (show ¬ q :: r = [] from fun e => by cases e)]
theorem a_done (x1 x2 : Int32) : agT (Rl Fr) (fun M => gX7_done M) (fun N => gX8_done N) [1] (fun _ => True) := by
  intro M N ⟨n, cd, hC, hM, hV, hF⟩
  dsimp only
  have hM0 := hM.thr 0
  obtain ⟨l, hl⟩ := hV.2.2
  by_cases hn : n < 80
  · cases l with
    | nil =>
      refine ref_s (M := M) (N := N) (k := 1) (v := 1) ?_ ?_ (by decide) (by decide) ⟨n, cd, hC, hM, hV, hF⟩
      · unfold gX7_done
        rw [room_ok hC hn, te_v rfl, unf_s hC hV hl, if_pos rfl, te_x rfl]
      · unfold gX8_done
        rw [lt_s9, hM0.1, if_neg (n80 hn), whenM hM0 hV (Nat.le_refl n) hl, bd_s9 rfl, if_pos (show pb ([] : List (Nat × Bool))[0]? = (-1 : Int32) from rfl), no_s]
    | cons q r =>
      refine app_s (c := 17) (ls' := r) hC hM hV hn (by decide) hl (by unfold stp; rw [if_neg (by decide), if_neg (by decide), if_pos rfl]) ?_ ?_
      · unfold gX7_done
        rw [room_ok hC hn, te_v rfl, unf_s hC hV hl, if_neg (fun e => by cases e), te_v rfl]
        rfl
      · unfold gX8_done
        have hq := ((st_pos hl).2 q List.mem_cons_self).1
        rw [lt_s9, hM0.1, if_neg (n80 hn), whenM hM0 hV (Nat.le_refl n) hl, bd_s9 rfl, if_neg (show ¬ pb (q :: r)[0]? = (-1 : Int32) from fun e => by
          have e2 : nI q.1 = (-1 : Int32) := e
          exact nI_pos (n := q.1) (by omega) (by rw [e2]; decide))]
        rfl
  · have h80 : n = 80 := by have := hV.1; omega
    refine ref_s (M := M) (N := N) (k := 1) (v := 1) ?_ ?_ (by decide) (by decide) ⟨n, cd, hC, hM, hV, hF⟩
    · unfold gX7_done
      rw [room_no hC h80, te_x rfl]
    · unfold gX8_done
      rw [lt_s9, hM0.1, h80, if_pos (show nI 80 = (80 : Int32) from rfl), no_s]
theorem a_otherwise (x1 x2 : Int32) : agT (Rl Fr) (fun M => gX7_otherwise M) (fun N => gX8_otherwise N) [1] (fun _ => True) := by
  intro M N ⟨n, cd, hC, hM, hV, hF⟩
  dsimp only
  have hM0 := hM.thr 0
  obtain ⟨l, hl⟩ := hV.2.2
  have hw : gX8_whenOf (um N 0 0 0) (nI n) = some (pb l[0]?) := whenM hM0 hV (Nat.le_refl n) hl
  by_cases hn : n < 80
  · cases l with
    | nil =>
      refine ref_s (M := M) (N := N) (k := 1) (v := 1) ?_ ?_ (by decide) (by decide) ⟨n, cd, hC, hM, hV, hF⟩
      · unfold gX7_otherwise
        rw [room_ok hC hn, te_v rfl, unf_s hC hV hl, if_pos rfl, te_x rfl]
      · unfold gX8_otherwise
        rw [lt_s9, hM0.1, hw, bd_s9 rfl, if_neg (n80 hn), if_pos (show pb ([] : List (Nat × Bool))[0]? = (-1 : Int32) from rfl), no_s]
    | cons q r =>
      obtain ⟨p, b⟩ := q
      have hq := ((st_pos hl).2 (p, b) List.mem_cons_self).1
      have hpm : ¬ pb ((p, b) :: r)[0]? = (-1 : Int32) := fun e => by
        have e2 : nI p = (-1 : Int32) := e
        exact nI_pos (n := p) (by omega) (by rw [e2]; decide)
      have ho : gX8_hasOtherwise (um N 0 0 0) (pb ((p, b) :: r)[0]?) = some (bI b) := othM hM0 hV hl
      have hh := hasC hC hV hl
      cases b with
      | true =>
        refine ref_s (M := M) (N := N) (k := 1) (v := 1) ?_ ?_ (by decide) (by decide) ⟨n, cd, hC, hM, hV, hF⟩
        · unfold gX7_otherwise
          rw [room_ok hC hn, te_v rfl, unf_s hC hV hl, if_neg (fun e => by cases e), te_v rfl, hh, bd_s9 rfl, if_neg (show ¬ hb ((p, true) :: r)[0]? = 0 from (by decide : ¬ (1 : Int32) = 0))]
        · unfold gX8_otherwise
          rw [lt_s9, hM0.1, hw, bd_s9 rfl, if_neg (n80 hn), if_neg hpm, ho, bd_s9 rfl, if_neg (show ¬ bI true = 0 by decide), no_s]
      | false =>
        refine app_s (c := 16) (ls' := (p, true) :: r) hC hM hV hn (by decide) hl (by unfold stp; rw [if_neg (by decide), if_pos rfl]) ?_ ?_
        · unfold gX7_otherwise
          rw [room_ok hC hn, te_v rfl, unf_s hC hV hl, if_neg (fun e => by cases e), te_v rfl, hh, bd_s9 rfl, if_pos (show hb ((p, false) :: r)[0]? = 0 from rfl)]
          rfl
        · unfold gX8_otherwise
          rw [lt_s9, hM0.1, hw, bd_s9 rfl, if_neg (n80 hn), if_neg hpm, ho, bd_s9 rfl, if_pos (show bI false = 0 from rfl)]
          rfl
  · have h80 : n = 80 := by have := hV.1; omega
    refine ref_s (M := M) (N := N) (k := 1) (v := 1) ?_ ?_ (by decide) (by decide) ⟨n, cd, hC, hM, hV, hF⟩
    · unfold gX7_otherwise
      rw [room_no hC h80, te_x rfl]
    · unfold gX8_otherwise
      rw [lt_s9, hM0.1, hw, bd_s9 rfl, h80, if_pos (show nI 80 = (80 : Int32) from rfl), no_s]
end SRC2
