/-! whether a WHEN has an OTHERWISE, as the model finds it -/
theorem st_pos {cd : Nat → Nat} : ∀ {n : Nat} {l : List (Nat × Bool)}, st cd n = some l → l.Pairwise (fun a b => a.1 ≠ b.1) ∧ ∀ q ∈ l, q.1 < n ∧ cd q.1 < 8
  | 0, l, h => by cases h; exact ⟨List.Pairwise.nil, fun q hq => by cases hq⟩
  | n + 1, l, h => by
    obtain ⟨l', h1, h2⟩ := st_pre h
    obtain ⟨ih1, ih2⟩ := st_pos h1
    by_cases a : cd n < 8
    · obtain ⟨-, rfl⟩ := stp_when a h2
      refine ⟨List.pairwise_cons.mpr ⟨fun q hq e => ?_, ih1⟩, fun q hq => ?_⟩
      · have := (ih2 q hq).1
        have e : n = q.1 := e
        omega
      · rcases List.mem_cons.mp hq with rfl | hq
        · exact ⟨Nat.lt_succ_self n, a⟩
        · exact ⟨Nat.lt_succ_of_lt (ih2 q hq).1, (ih2 q hq).2⟩
    by_cases b : cd n = 16
    · rw [b] at h2
      obtain ⟨p, r, rfl, rfl⟩ := stp_oth h2
      obtain ⟨c1, c2⟩ := List.pairwise_cons.mp ih1
      refine ⟨List.pairwise_cons.mpr ⟨c1, c2⟩, fun q hq => ?_⟩
      rcases List.mem_cons.mp hq with rfl | hq
      · have := ih2 (p, false) List.mem_cons_self
        exact ⟨Nat.lt_succ_of_lt this.1, this.2⟩
      · have := ih2 q (List.mem_cons_of_mem _ hq)
        exact ⟨Nat.lt_succ_of_lt this.1, this.2⟩
    by_cases c : cd n = 17
    · rw [c] at h2
      obtain ⟨q, rfl⟩ := stp_done h2
      obtain ⟨c1, c2⟩ := List.pairwise_cons.mp ih1
      exact ⟨c2, fun q hq => ⟨Nat.lt_succ_of_lt (ih2 q (List.mem_cons_of_mem _ hq)).1, (ih2 q (List.mem_cons_of_mem _ hq)).2⟩⟩
    · rw [stp_else a b c h2]
      exact ⟨ih1, fun q hq => ⟨Nat.lt_succ_of_lt (ih2 q hq).1, (ih2 q hq).2⟩⟩
theorem st_back {cd : Nat → Nat} {i p : Nat} {b : Bool} {l l' : List (Nat × Bool)} (h1 : st cd i = some l) (h2 : st cd (i + 1) = some l') (hp : p ≠ i) (hm : (p, b) ∈ l') : ∃ b', (p, b') ∈ l := by
  have h5 := (st_s h1).symm.trans h2
  by_cases a : cd i < 8
  · obtain ⟨-, rfl⟩ := stp_when a h5
    rcases List.mem_cons.mp hm with e | hm
    · exact absurd (congrArg Prod.fst e) hp
    · exact ⟨b, hm⟩
  by_cases d : cd i = 16
  · rw [d] at h5
    obtain ⟨p0, r, rfl, rfl⟩ := stp_oth h5
    rcases List.mem_cons.mp hm with e | hm
    · cases e
      exact ⟨false, List.mem_cons_self⟩
    · exact ⟨b, List.mem_cons_of_mem _ hm⟩
  by_cases c : cd i = 17
  · rw [c] at h5
    obtain ⟨q, rfl⟩ := stp_done h5
    exact ⟨b, List.mem_cons_of_mem _ hm⟩
  · rw [stp_else a d c h5] at hm
    exact ⟨b, hm⟩
theorem st_backs {cd : Nat → Nat} {n p : Nat} : ∀ (m i : Nat), i + m = n → p < i → ∀ {l l' : List (Nat × Bool)}, st cd i = some l → st cd n = some l' → (∃ b, (p, b) ∈ l') → ∃ b, (p, b) ∈ l
  | 0, i, h, _, l, l', h1, h2, hm => by
    obtain rfl : i = n := by omega
    cases h1.symm.trans h2
    exact hm
  | m + 1, i, h, hp, l, l', h1, h2, hm => by
    obtain ⟨lj, h3⟩ := st_le h2 (i + 1) (by omega)
    obtain ⟨b, hb⟩ := st_backs m (i + 1) (by omega) (by omega) h3 h2 hm
    exact st_back h1 h3 (by omega) hb
def bI (b : Bool) : Int32 := if b then 1 else 0
theorem othM {N : Mm} {n : Nat} {cd : Nat → Nat} (hS : SrcM N n cd) (hV : Val n cd) {p : Nat} {b : Bool} {r : List (Nat × Bool)} (hl : st cd n = some ((p, b) :: r)) : gX8_hasOtherwise N (nI p) = some (bI b) := by
  have hn := hV.1
  obtain ⟨hpw, hps⟩ := st_pos hl
  obtain ⟨hp, hp8⟩ := hps (p, b) List.mem_cons_self
  have key : ∀ m fuel i li c, i + m = n → m < fuel → p < i → st cd i = some li → (p, c) ∈ li → gX8_hasOtherwise_L6 N (nI p) fuel (bI c) (nI i) = some (bI b) := by
    intro m
    induction m with
    | zero =>
      intro fuel i li c h1 h2 h7 h3 h4
      obtain ⟨f, rfl⟩ : ∃ f, fuel = f + 1 := ⟨fuel - 1, by omega⟩
      obtain rfl : i = n := by omega
      cases h3.symm.trans hl
      have e : c = b := by
        rcases List.mem_cons.mp h4 with e | h
        · exact congrArg Prod.snd e
        · exact absurd (show ((p, b) : Nat × Bool).1 = ((p, c) : Nat × Bool).1 from rfl) ((List.pairwise_cons.mp hpw).1 (p, c) h)
      subst e
      rw [gX8_hasOtherwise_L6, hS.1, if_pos (nI_le (Nat.le_refl _) (by omega)), if_neg]
      intro h
      cases c
      · exact h (Or.inl rfl)
      · exact h (Or.inr rfl)
    | succ m ih =>
      intro fuel i li c h1 h2 h7 h3 h4
      obtain ⟨f, rfl⟩ : ∃ f, fuel = f + 1 := ⟨fuel - 1, by omega⟩
      have hi : i < n := by omega
      obtain ⟨lj, h8⟩ := st_le hl (i + 1) (by omega)
      have h5 := (st_s h3).symm.trans h8
      have hc := (hV.2.1 i hi).2
      have go : ∀ d, (p, d) ∈ lj → gX8_hasOtherwise_L6 N (nI p) f (bI d) (nI i + (1 : Int32)) = some (bI b) := fun d hd => by
        rw [up1]
        exact ih f (i + 1) lj d (by omega) (by omega) (by omega) h8 hd
      rw [gX8_hasOtherwise_L6, hS.1, if_neg (nI_ge hi (by omega)), ckI (by omega) (by decide), cI (by omega), hS.2 i hi, whenM hS hV (by omega) h3]
      by_cases d : cd i = 16
      · rw [d] at h5
        obtain ⟨p0, r0, rfl, rfl⟩ := stp_oth h5
        rw [if_pos ((c16 hc).mpr d)]
        have hp0 := (st_pos h3).2 (p0, false) List.mem_cons_self
        have hpb : pb ((p0, false) :: r0)[0]? = nI p0 := rfl
        rw [hpb, bd_s9 (a := nI p0) rfl]
        by_cases e : p0 = p
        · subst e
          rw [if_pos rfl]
          have g := go true List.mem_cons_self
          cases c
          · rw [if_pos (show bI false = 0 from rfl)]; exact g
          · rw [if_neg (show ¬ bI true = 0 by decide)]; exact g
        · have h9 : (p, c) ∈ (p0, true) :: r0 := by
            rcases List.mem_cons.mp h4 with e2 | h
            · exact absurd (congrArg Prod.fst e2).symm e
            · exact List.mem_cons_of_mem _ h
          have g := go c h9
          rw [if_neg (fun e2 => e ((nI_eq (by have := hp0.1; omega) (by omega)).mp e2))]
          cases c
          · rw [if_pos (show bI false = 0 from rfl)]; exact g
          · rw [if_neg (show ¬ bI true = 0 by decide)]; exact g
      · rw [if_neg (fun e => d ((c16 hc).mp e))]
        have h9 : (p, c) ∈ lj := by
          by_cases a : cd i < 8
          · obtain ⟨-, rfl⟩ := stp_when a h5
            exact List.mem_cons_of_mem _ h4
          by_cases b17 : cd i = 17
          · rw [b17] at h5
            obtain ⟨q, rfl⟩ := stp_done h5
            rcases List.mem_cons.mp h4 with e | h
            · obtain ⟨b9, hb9⟩ := st_backs m (i + 1) (by omega) (by omega) h8 hl ⟨b, List.mem_cons_self⟩
              have := (List.pairwise_cons.mp (st_pos h3).1).1 _ hb9
              rw [← e] at this
              exact absurd rfl this
            · exact h
          · rw [stp_else a d b17 h5]
            exact h4
        have g := go c h9
        cases c
        · rw [if_pos (show bI false = 0 from rfl)]; exact g
        · rw [if_neg (show ¬ bI true = 0 by decide)]; exact g
  unfold gX8_hasOtherwise
  obtain ⟨l0, h0⟩ := st_le hl p (by omega)
  obtain ⟨l1, h1⟩ := st_le hl (p + 1) (by omega)
  obtain ⟨-, rfl⟩ := stp_when hp8 ((st_s h0).symm.trans h1)
  rw [up1]
  exact key (n - (p + 1)) FU (p + 1) _ false (by omega) (by unfold FU; omega) (Nat.lt_succ_self p) h1 List.mem_cons_self
