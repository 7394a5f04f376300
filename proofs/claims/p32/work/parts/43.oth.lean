/-! whether a WHEN has an OTHERWISE, as the model finds it -/
theorem st_pos {cd : Nat → Nat} : ∀ {n : Nat} {l : List (Nat × Bool)}, st cd n = some l → l.Pairwise (fun a b => a.1 ≠ b.1) ∧ ∀ q ∈ l, q.1 < n ∧ cd q.1 < 8
  | 0, l, h => by cases h; exact ⟨List.Pairwise.nil, fun q hq => by cases hq⟩
  | n + 1, l, h => by
    obtain ⟨l', h1, h2⟩ := st_pre h
    obtain ⟨ih1, ih2⟩ := st_pos h1
    by_cases a : cd n < 8
    · obtain ⟨-, rfl⟩ := stp_when a h2
      refine ⟨List.pairwise_cons.mpr ⟨fun q hq e => ?_, ih1⟩, fun q hq => ?_⟩
      · have := (ih2 q hq).1
        have e : n = q.1 := e
        omega
      · rcases List.mem_cons.mp hq with rfl | hq
        · exact ⟨Nat.lt_succ_self n, a⟩
        · exact ⟨Nat.lt_succ_of_lt (ih2 q hq).1, (ih2 q hq).2⟩
    by_cases b : cd n = 16
    · rw [b] at h2
      obtain ⟨p, r, rfl, rfl⟩ := stp_oth h2
      obtain ⟨c1, c2⟩ := List.pairwise_cons.mp ih1
      refine ⟨List.pairwise_cons.mpr ⟨c1, c2⟩, fun q hq => ?_⟩
      rcases List.mem_cons.mp hq with rfl | hq
      · have := ih2 (p, false) List.mem_cons_self
        exact ⟨Nat.lt_succ_of_lt this.1, this.2⟩
      · have := ih2 q (List.mem_cons_of_mem _ hq)
        exact ⟨Nat.lt_succ_of_lt this.1, this.2⟩
    by_cases c : cd n = 17
    · rw [c] at h2
      obtain ⟨q, rfl⟩ := stp_done h2
      obtain ⟨c1, c2⟩ := List.pairwise_cons.mp ih1
      exact ⟨c2, fun q hq => ⟨Nat.lt_succ_of_lt (ih2 q (List.mem_cons_of_mem _ hq)).1, (ih2 q (List.mem_cons_of_mem _ hq)).2⟩⟩
    · rw [stp_else a b c h2]
      exact ⟨ih1, fun q hq => ⟨Nat.lt_succ_of_lt (ih2 q hq).1, (ih2 q hq).2⟩⟩
theorem st_back {cd : Nat → Nat} {i p : Nat} {b : Bool} {l l' : List (Nat × Bool)} (h1 : st cd i = some l) (h2 : st cd (i + 1) = some l') (hp : p ≠ i) (hm : (p, b) ∈ l') : ∃ b', (p, b') ∈ l := by
  have h5 := (st_s h1).symm.trans h2
  by_cases a : cd i < 8
  · obtain ⟨-, rfl⟩ := stp_when a h5
    rcases List.mem_cons.mp hm with e | hm
    · exact absurd (congrArg Prod.fst e) hp
    · exact ⟨b, hm⟩
  by_cases d : cd i = 16
  · rw [d] at h5
    obtain ⟨p0, r, rfl, rfl⟩ := stp_oth h5
    rcases List.mem_cons.mp hm with e | hm
    · cases e
      exact ⟨false, List.mem_cons_self⟩
    · exact ⟨b, List.mem_cons_of_mem _ hm⟩
  by_cases c : cd i = 17
  · rw [c] at h5
    obtain ⟨q, rfl⟩ := stp_done h5
    exact ⟨b, List.mem_cons_of_mem _ hm⟩
  · rw [stp_else a d c h5] at hm
    exact ⟨b, hm⟩
theorem st_backs {cd : Nat → Nat} {n p : Nat} : ∀ (m i : Nat), i + m = n → p < i → ∀ {l l' : List (Nat × Bool)}, st cd i = some l → st cd n = some l' → (∃ b, (p, b) ∈ l') → ∃ b, (p, b) ∈ l
  | 0, i, h, _, l, l', h1, h2, hm => by
    obtain rfl : i = n := by omega
    cases h1.symm.trans h2
    exact hm
  | m + 1, i, h, hp, l, l', h1, h2, hm => by
    obtain ⟨lj, h3⟩ := st_le h2 (i + 1) (by omega)
    obtain ⟨b, hb⟩ := st_backs m (i + 1) (by omega) (by omega) h3 h2 hm
    exact st_back h1 h3 (by omega) hb
def bI (b : Bool) : Int32 := if b then 1 else 0
