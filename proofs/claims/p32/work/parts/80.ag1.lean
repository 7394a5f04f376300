theorem finC {M : Mm} {n : Nat} {cd : Nat → Nat} (hC : SrcC M n cd) (hV : Val n cd) {l : List (Nat × Bool)} (hl : st cd n = some l) : gX7_checkFinished M = if l = [] then some (.inl 0, M) else some (.inr 1, M) := by
  unfold gX7_checkFinished
  have h5 := st_len hl
  rw [cntC hC hV hl, bd_s9 rfl]
  cases l with
  | nil => rw [if_pos (show nI ([] : List (Nat × Bool)).length = 0 from rfl), if_pos rfl]
  | cons q r => rw [if_neg (show ¬ nI (q :: r).length = 0 from fun e => by have := (nI_z (k := (q :: r).length) (by omega)).mp e; simp at this), if_neg (show ¬ q :: r = [] from fun e => by cases e)]
