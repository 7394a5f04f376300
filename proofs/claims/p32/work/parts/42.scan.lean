/-! the searches backwards for an open WHEN -/
def ix : Nat → Int32
  | 0 => -1
  | i + 1 => nI i
theorem ix_dn (i : Nat) : ix (i + 1) + (-1 : Int32) = ix i := by
  cases i with
  | zero => exact dn0'
  | succ i => exact dn1 i
theorem ix_n (n : Nat) : nI n - (1 : Int32) = ix n := by
  cases n with
  | zero => exact dn0
  | succ n => exact nI_pred n
theorem ix_0 : ix 0 < 0 := by decide
def hb : Option (Nat × Bool) → Int32
  | some (_, true) => 1
  | _ => 0
theorem nI_z {k : Nat} (h : k < 2 ^ 31) : nI k = 0 ↔ k = 0 := nI_eq (b := 0) h (by decide)
/-- the class: whether the last open WHEN has an OTHERWISE -/
theorem hasC {M : Mm} {n : Nat} {cd : Nat → Nat} (hS : SrcC M n cd) (hV : Val n cd) {l : List (Nat × Bool)} (hl : st cd n = some l) : gX4_lastUnfinishedHasOtherwise M = some (hb l[0]?) := by
  unfold gX4_lastUnfinishedHasOtherwise
  rw [lt_s9, hS.1, ix_n]
  have hn := hV.1
  have key : ∀ i fuel k li, i ≤ n → i < fuel → k + i < 1000 → st cd i = some li → gX4_lastUnfinishedHasOtherwise_L9 M (fun x1 => if x1 = (16 : Int32) then (some (1 : Int32)) else some (0 : Int32)) fuel (nI k) (ix i) = some (hb li[k]?) := by
    intro i
    induction i with
    | zero =>
      intro fuel k li h1 h2 h6 h3
      obtain ⟨f, rfl⟩ : ∃ f, fuel = f + 1 := ⟨fuel - 1, by omega⟩
      cases h3
      rw [gX4_lastUnfinishedHasOtherwise_L9, if_pos ix_0]
      rfl
    | succ i ih =>
      intro fuel k lj h1 h2 h6 h4
      obtain ⟨f, rfl⟩ : ∃ f, fuel = f + 1 := ⟨fuel - 1, by omega⟩
      obtain ⟨li, h3, h5⟩ := st_pre h4
      have hi : i < n := by omega
      have hc := (hV.2.1 i hi).2
      rw [gX4_lastUnfinishedHasOtherwise_L9, show ix (i + 1) = nI i from rfl, if_neg (nI_pos (by omega)), ckI (by omega) (by decide), cI (by omega), hS.2 i hi]
      have dn : nI i + (-1 : Int32) = ix i := ix_dn i
      by_cases b : cd i = 17
      · rw [if_pos ((c17 hc).mpr b), lt_s9, lt_s9, up1, dn]
        rw [b] at h5
        obtain ⟨q, rfl⟩ := stp_done h5
        rw [ih f (k + 1) _ (by omega) (by omega) (by omega) h3, List.getElem?_cons_succ]
      rw [if_neg (fun e => b ((c17 hc).mp e))]
      by_cases a : cd i < 8
      · obtain ⟨-, rfl⟩ := stp_when a h5
        have hw : gX4_isWhen (nI (cd i)) = 1 := by rw [isWhen_n hc, if_pos a]
        have h16 : ¬ nI (cd i) = (16 : Int32) := fun e => by have := (c16 hc).mp e; omega
        cases k with
        | zero =>
          rw [if_pos (show nI 0 = 0 from rfl), if_neg h16, hw, if_neg (by decide), if_neg h16]
          rfl
        | succ k =>
          rw [if_neg (fun e => by have := (nI_z (by omega)).mp e; omega), hw, if_neg (by decide), lt_s9, lt_s9, dn1, dn, ih f k _ (by omega) (by omega) (by omega) h3, List.getElem?_cons_succ]
      have hw : gX4_isWhen (nI (cd i)) = 0 := by rw [isWhen_n hc, if_neg a]
      by_cases d : cd i = 16
      · rw [d] at h5
        obtain ⟨p, r, rfl, rfl⟩ := stp_oth h5
        cases k with
        | zero =>
          rw [if_pos (show nI 0 = 0 from rfl), if_pos ((c16 hc).mpr d), if_pos ((c16 hc).mpr d)]
          rfl
        | succ k =>
          rw [if_neg (fun e => by have := (nI_z (by omega)).mp e; omega), if_pos hw, lt_s9, dn, ih f (k + 1) _ (by omega) (by omega) (by omega) h3, List.getElem?_cons_succ, List.getElem?_cons_succ]
      have e := stp_else a d b h5
      subst e
      have h16 : ¬ nI (cd i) = (16 : Int32) := fun e => d ((c16 hc).mp e)
      by_cases z : nI k = 0
      · rw [if_pos z, if_neg h16, if_pos hw, if_pos hw, lt_s9, dn]
        exact ih f k _ (by omega) (by omega) (by omega) h3
      · rw [if_neg z, if_pos hw, lt_s9, dn]
        exact ih f k _ (by omega) (by omega) (by omega) h3
  exact key n FU 0 l (Nat.le_refl _) (by unfold FU; omega) (by omega) hl
