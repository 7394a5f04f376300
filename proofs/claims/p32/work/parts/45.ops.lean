theorem room_no {M : Mm} {n : Nat} {cd : Nat → Nat} (hC : SrcC M n cd) (h : n = 80) : gX7_checkRoom M = some (.inr 1, M) := by
  unfold gX7_checkRoom
  rw [hC.1, h, if_neg (show ¬ nI 80 < (80 : Int32) by decide)]
theorem room_ok {M : Mm} {n : Nat} {cd : Nat → Nat} (hC : SrcC M n cd) (h : n < 80) : gX7_checkRoom M = some (.inl 0, M) := by
  unfold gX7_checkRoom
  rw [hC.1, if_pos (show nI n < (80 : Int32) from nI_lt (b := 80) h (by decide))]
theorem n80 {n : Nat} (h : n < 80) : ¬ nI n = (80 : Int32) := fun e => by have := (nI_eq (a := n) (b := 80) (by omega) (by decide)).mp e; omega
theorem unf_s {M : Mm} {n : Nat} {cd : Nat → Nat} (hC : SrcC M n cd) (hV : Val n cd) {l : List (Nat × Bool)} (hl : st cd n = some l) : gX7_checkUnfinished M = if l = [] then some (.inr 1, M) else some (.inl 0, M) := by
  unfold gX7_checkUnfinished
  have h5 := st_len hl
  rw [cntC hC hV hl, bd_s9 rfl]
  cases l with
  | nil => rw [if_pos (show nI ([] : List (Nat × Bool)).length = 0 from rfl), if_pos rfl]
  | cons q r => rw [if_neg (show ¬ nI (q :: r).length = 0 from fun e => by have := (nI_z (k := (q :: r).length) (by omega)).mp e; simp at this), if_neg (show ¬ q :: r = [] from fun e => by cases e)]
