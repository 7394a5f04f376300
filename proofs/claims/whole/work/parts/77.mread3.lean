/-- the model's reading, whole -/
theorem MI0 {cd : Nat → Nat} {N : Mm} {c : Nat} (h1 : RdM N c [1]) (h2 : N 6 c = -1) : MI cd N c 0 := ⟨h1, h2⟩
theorem initM (N : Mm) (cd : Nat → Nat) : ∃ N', (∀ E, gX8_read_L6 E FU N (nI 0) = E N') ∧ (∀ a, a ≠ 4 → a ≠ 5 → a ≠ 6 → N' a = N a) ∧ ∀ b, b < 16 → MI cd N' b 0 := by
  refine cfg_loop (ε := Mm → Option Mm) (L := fun E k s x => gX8_read_L6 E k s x) (F := fun E s => E s) (m := 16) (fun _ _ => True) (fun s b => MI cd s b 0) (fun s => ∀ a, a ≠ 4 → a ≠ 5 → a ≠ 6 → s a = N a) (fun c s hc hF _ _ => ?_) (fun E k s _ => ?_) (by unfold FU; omega) (fun _ _ _ _ => rfl) (fun _ _ => trivial)
  · obtain ⟨N1, e1, R1, F1⟩ := pushM (N := um (um s 6 c (-1)) 5 c 0) (c := c) (x := 1) (s := []) ⟨um_hit, trivial⟩ hc (by decide)
    have e1 : gX8_push (um (um s 6 c (-1)) 5 c 0) (nI c) (1 : Int32) = some N1 := e1
    refine ⟨N1, fun E k => ?_, MI0 R1 ?_, fun a b1 b2 b3 => ?_, fun b hb hne => ⟨fun _ => trivial, fun h => ?_⟩⟩
    · rw [gX8_read_L6, if_neg (show ¬ (16 : Int32) ≤ nI c from nI_ge (b := 16) hc (by decide)), ckI hc (by decide), cI (show c < 2 ^ 31 by omega), lt_n, ckJ hc (by decide), lt_n, e1, bd_some, lt_n, up1]
    · rw [F1.1 6 (by decide) (by decide), um_fn (by decide), um_hit]
    · rw [F1.1 a b1 b2, um_fn b2, um_fn b3]; exact hF a b1 b2 b3
    · refine MI0 ⟨?_, ?_⟩ ?_
      · rw [F1.2.1 b hne, um_place hne, um_fn (by decide)]; exact h.1.1
      · refine SkM_c h.1.2 (fun j hj => ?_)
        simp only [List.length_singleton] at hj
        rw [F1.2.2 _ (by omega), um_fn (by decide), um_fn (by decide)]
      · rw [F1.1 6 (by decide) (by decide), um_fn (by decide), um_place hne]; exact h.2
  · rw [gX8_read_L6, if_pos (by decide)]
theorem itemsM {cd : Nat → Nat} {n : Nat} (hV : Val n cd) : ∀ (m i fuel : Nat) (N : Mm) (right : Int32), i + m = n → m < fuel → SrcM N n cd → (∀ j, j < n → N 2 j = pres cd j) → (∀ c, c < 16 → bth right c = (rd cd c i).isSome) → (∀ b, b < 16 → MI cd N b i) → (∀ b, b < 16 → Dq cd N b i) → (∀ j, j < i → N 7 j = gr cd j) → ∃ N' r', (∀ E, gX8_read_L43 E fuel N right (nI i) = E N' r') ∧ (∀ a, a < 4 → N' a = N a) ∧ (∀ a, 8 < a → N' a = N a) ∧ (∀ c, c < 16 → bth r' c = (rd cd c n).isSome) ∧ (∀ b, b < 16 → MI cd N' b n) ∧ (∀ b, b < 16 → Dq cd N' b n) ∧ ∀ j, j < n → N' 7 j = gr cd j := by
  intro m
  have hn := hV.1
  induction m with
  | zero =>
    intro i fuel N right h hf hM hP hr hI hD hG
    obtain ⟨k, rfl⟩ : ∃ k, fuel = k + 1 := ⟨fuel - 1, by omega⟩
    obtain rfl : i = n := by omega
    exact ⟨N, right, fun E => by rw [gX8_read_L43, hM.1, if_pos (nI_le (Nat.le_refl _) (by omega))], fun _ _ => rfl, fun _ _ => rfl, hr, hI, hD, hG⟩
  | succ m ih =>
    intro i fuel N right h hf hM hP hr hI hD hG
    obtain ⟨k, rfl⟩ : ∃ k, fuel = k + 1 := ⟨fuel - 1, by omega⟩
    have hi : i < n := by omega
    have body : ∀ set : Int32, (∀ c, c < 16 → bth set c = al cd c i) → ∃ N' r', (∀ E : Mm → Int32 → Option Mm, (bd (gX8_countGroups N set) fun r37 => if (nI i < 0 ∨ 80 ≤ (nI i).toNatClampNeg) then none else lt (um N 7 (nI i).toNatClampNeg r37) fun M40 => lt (fun (M41 : Mm) (x42 : Int32) (x43 : Int32) => lt (x43 + (1 : Int32)) fun x45 => gX8_read_L43 E k M41 x42 x45) fun E44 => gX8_read_L86 E44 FU M40 right (nI i) set (0 : Int32)) = E N' r') ∧ (∀ a, a < 4 → N' a = N a) ∧ (∀ a, 8 < a → N' a = N a) ∧ (∀ c, c < 16 → bth r' c = (rd cd c n).isSome) ∧ (∀ b, b < 16 → MI cd N' b n) ∧ (∀ b, b < 16 → Dq cd N' b n) ∧ ∀ j, j < n → N' 7 j = gr cd j := by
      intro set hb
      have g1 := grpM hV hi hb hI
      obtain ⟨s', e1, e2, e3⟩ := itemM (N := um N 7 i (gr cd i)) hV hi (by rw [um_fn (by decide)]; exact hM.2 i hi) hb hr (fun b hb => MI_um (hI b hb) (by decide) (by decide) (Or.inl (by decide))) (fun b hb j hj => by rw [um_fn (by decide)]; exact hD b hb j hj)
      have lo : ∀ a, a < 4 → s'.1 a = N a := fun a ha => (e2 a (by omega) (by omega) (by omega) (by omega)).trans (um_fn (by omega))
      obtain ⟨N2, r2, d1, d2, d3, d4, d5, d6, d7⟩ := ih (i + 1) k s'.1 s'.2 (by omega) (by omega) ⟨by rw [lo 0 (by decide)]; exact hM.1, fun j hj => by rw [lo 1 (by decide)]; exact hM.2 j hj⟩ (fun j hj => by rw [lo 2 (by decide)]; exact hP j hj) (fun c hc => (e3 c hc).1.2) (fun b hb => (e3 b hb).1.1) (fun b hb => (e3 b hb).2) (fun j hj => by
        rw [e2 7 (by decide) (by decide) (by decide) (by decide)]
        by_cases e : j = i
        · rw [e, um_hit]
        · rw [um_place e]; exact hG j (by omega))
      refine ⟨N2, r2, fun E => ?_, fun a ha => (d2 a ha).trans (lo a ha), fun a ha => (d3 a ha).trans ((e2 a (by omega) (by omega) (by omega) (by omega)).trans (um_fn (by omega))), d4, d5, d6, d7⟩
      rw [g1, bd_some, ckI (show i < 80 by omega) (by decide), cI (show i < 2 ^ 31 by omega), lt_n, lt_n]
      rw [show nI 0 = (0 : Int32) from rfl] at e1
      rw [e1, lt_n, up1, d1]
    by_cases ht : 18 ≤ cd i
    · obtain ⟨N', r', d1, d⟩ := body (pres cd i &&& right) (fun c hc => by
        rw [bth_and hc, hr c hc]
        unfold al inV
        rw [decide_eq_true ht, Bool.true_and])
      refine ⟨N', r', fun E => ?_, d⟩
      rw [gX8_read_L43, hM.1, if_neg (nI_ge hi (by omega)), tokM hM hV hi, bd_some, decide_eq_true ht, lt_n, if_neg (show ¬ bI true = 0 by decide), ckI (show i < 80 by omega) (by decide), cI (show i < 2 ^ 31 by omega), hP i hi]
      exact d1 E
    · obtain ⟨N', r', d1, d⟩ := body 0 (fun c hc => by
        rw [(bth_all c (List.mem_range.mpr hc)).2]
        unfold al inV
        rw [decide_eq_false ht]; rfl)
      refine ⟨N', r', fun E => ?_, d⟩
      rw [gX8_read_L43, hM.1, if_neg (nI_ge hi (by omega)), tokM hM hV hi, bd_some, decide_eq_false ht, lt_n, if_pos (show bI false = 0 from rfl)]
      exact d1 E
theorem endM {cd : Nat → Nat} {n : Nat} {N : Mm} {right : Int32} (hV : Val n cd) (hM : N 0 1 = nI n) (hr : ∀ c, c < 16 → bth right c = (rd cd c n).isSome) (hI : ∀ b, b < 16 → MI cd N b n) : ∃ N', gX8_read_L183 FU N right (nI 0) = some N' ∧ (∀ a, a ≠ 4 → a ≠ 5 → a ≠ 6 → N' a = N a) ∧ ∀ b, b < 16 → N' 6 b = eI cd b n := by
  have hn := hV.1
  have main : ∃ s' : Mm, (∀ e : Unit, gX8_read_L183 FU N right (nI 0) = some s') ∧ (∀ a, a ≠ 4 → a ≠ 5 → a ≠ 6 → s' a = N a) ∧ ∀ b, b < 16 → s' 6 b = eI cd b n := by
    refine cfg_loop (ε := Unit) (L := fun _ k s x => gX8_read_L183 k s right x) (F := fun _ s => some s) (m := 16) (fun s b => MI cd s b n) (fun s b => s 6 b = eI cd b n) (fun s => ∀ a, a ≠ 4 → a ≠ 5 → a ≠ 6 → s a = N a) (fun c s hc hF hQ _ => ?_) (fun E k s _ => ?_) (by unfold FU; omega) (fun _ _ _ _ => rfl) hI
    · have e0 : ∀ k, gX8_read_L183 (k + 1) s right (nI c) = if (rd cd c n).isSome = false then gX8_read_L183 k s right (nI (c + 1)) else bd2 (gX8_readOne s (nI c) (0 : Int32)) fun r17 M16 => if r17 = 0 then (lt (um M16 6 c (M16 0 1)) fun M21 => gX8_read_L183 k M21 right (nI (c + 1))) else gX8_read_L183 k M16 right (nI (c + 1)) := by
        intro k
        rw [gX8_read_L183, if_neg (show ¬ (16 : Int32) ≤ nI c from nI_ge (b := 16) hc (by decide)), has_bt, hr c hc]
        cases (rd cd c n).isSome with
        | false => rw [if_pos (show bI false = 0 from rfl), if_pos rfl, lt_n, up1]
        | true =>
          rw [if_neg (show ¬ bI true = 0 by decide), if_neg (show ¬ true = false by decide)]
          congr 1
          funext r M
          rw [ckI hc (by decide), cI (show c < 2 ^ 31 by omega), up1]
          rfl
      have hq := hQ
      unfold MI at hq
      cases hrd : rd cd c n with
      | none =>
        rw [hrd] at hq
        refine ⟨s, fun _ k => ?_, ?_, hF, fun b hb hne => ⟨id, id⟩⟩
        · show gX8_read_L183 (k + 1) s right (nI c) = _
          rw [e0, hrd, if_pos (show (none : Option (List Nat)).isSome = false from rfl)]
        · unfold eI fin erP
          rw [hrd]; exact hq
      | some st =>
        rw [hrd] at hq
        obtain ⟨v1, l1, -⟩ := rd_some hV (Nat.le_refl _) hrd
        obtain ⟨N1, F1, e1⟩ := readE hq.1 hc (by omega) v1
        by_cases hf : fe st = true
        · refine ⟨N1, fun _ k => ?_, ?_, fun a b1 b2 b3 => (F1.1 a b1 b2).trans (hF a b1 b2 b3), fun b hb hne => ⟨fun h => MI_oth hV (Nat.le_refl _) h hne F1, fun h => by rw [F1.1 6 (by decide) (by decide)]; exact h⟩⟩
          · show gX8_read_L183 (k + 1) s right (nI c) = _
            rw [e0, hrd, if_neg (show ¬ (some st).isSome = false by simp), e1, bd2_some, hf, if_neg (show ¬ bI true = 0 by decide)]
          · rw [F1.1 6 (by decide) (by decide), hq.2]
            unfold eI fin
            rw [hrd]
            exact (if_pos hf).symm
        · refine ⟨um N1 6 c (nI n), fun _ k => ?_, ?_, fun a b1 b2 b3 => (um_fn b3).trans ((F1.1 a b1 b2).trans (hF a b1 b2 b3)), fun b hb hne => ⟨fun h => MI_um (MI_oth hV (Nat.le_refl _) h hne F1) (by decide) (by decide) (Or.inr hne), fun h => by rw [um_place hne, F1.1 6 (by decide) (by decide)]; exact h⟩⟩
          · show gX8_read_L183 (k + 1) s right (nI c) = _
            have hz : N1 0 1 = nI n := by rw [F1.1 0 (by decide) (by decide), hF 0 (by decide) (by decide) (by decide)]; exact hM
            rw [e0, hrd, if_neg (show ¬ (some st).isSome = false by simp), e1, bd2_some, show fe st = false from by cases h : fe st with
              | true => exact absurd h hf
              | false => rfl, if_pos (show bI false = 0 from rfl), lt_n, hz]
          · rw [um_hit]
            unfold eI fin erP
            rw [hrd]
            exact (if_neg hf).symm
    · show gX8_read_L183 (k + 1) s right (nI 16) = some s
      rw [gX8_read_L183, if_pos (by decide)]
  obtain ⟨N', e, r⟩ := main
  exact ⟨N', e (), r⟩
theorem readM {N : Mm} {n : Nat} {cd : Nat → Nat} (hM : SrcM N n cd) (hV : Val n cd) : ∃ N', gX8_read N = some N' ∧ (∀ a, a < 2 → N' a = N a) ∧ (∀ a, 8 < a → N' a = N a) ∧ (∀ j, j < n → N' 2 j = pres cd j ∧ ∀ k, k < 4 → N' 3 (4 * j + k) = onA cd k j) ∧ (∀ c, c < 16 → N' 6 c = eI cd c n) ∧ (∀ c, c < 16 → Dq cd N' c n) ∧ ∀ j, j < n → N' 7 j = gr cd j := by
  have hn := hV.1
  obtain ⟨N1, a1, a2, a3⟩ := lookM hM hV
  obtain ⟨N2, b1, b2, b3⟩ := initM N1 cd
  have lo : ∀ a, a < 2 → N2 a = N a := fun a ha => (b2 a (by omega) (by omega) (by omega)).trans (a3 a (by omega) (by omega))
  have M2 : SrcM N2 n cd := ⟨by rw [lo 0 (by decide)]; exact hM.1, fun j hj => by rw [lo 1 (by decide)]; exact hM.2 j hj⟩
  obtain ⟨N3, r3, c1, c2, c3, c4, c5, c6, c7⟩ := itemsM hV n 0 FU N2 65535 (by omega) (by unfold FU; omega) M2 (fun j hj => by rw [b2 2 (by decide) (by decide) (by decide)]; exact (a2 j hj).1) (fun c hc => (bth_all c (List.mem_range.mpr hc)).1) b3 (fun b hb j hj => absurd hj (Nat.not_lt_zero _)) (fun j hj => absurd hj (Nat.not_lt_zero _))
  obtain ⟨N4, d1, d2, d3⟩ := endM hV (by rw [c2 0 (by decide)]; exact M2.1) c4 c5
  refine ⟨N4, ?_, fun a ha => ?_, fun a ha => ?_, fun j hj => ?_, d3, fun c hc j hj => ?_, fun j hj => ?_⟩
  · unfold gX8_read
    rw [a1, bd_some, lt_n]
    rw [show nI 0 = (0 : Int32) from rfl] at b1 c1 d1
    rw [b1, lt_n, c1, d1]
  · rw [d2 a (by omega) (by omega) (by omega), c2 a (by omega), lo a ha]
  · rw [d2 a (by omega) (by omega) (by omega), c3 a ha, b2 a (by omega) (by omega) (by omega), a3 a (by omega) (by omega)]
  · rw [d2 2 (by decide) (by decide) (by decide), c2 2 (by decide), b2 2 (by decide) (by decide) (by decide)]
    refine ⟨(a2 j hj).1, fun k hk => ?_⟩
    rw [d2 3 (by decide) (by decide) (by decide), c2 3 (by decide), b2 3 (by decide) (by decide) (by decide)]
    exact (a2 j hj).2 k hk
  · rw [d2 8 (by decide) (by decide) (by decide)]; exact c6 c hc j hj
  · rw [d2 7 (by decide) (by decide) (by decide)]; exact c7 j hj
