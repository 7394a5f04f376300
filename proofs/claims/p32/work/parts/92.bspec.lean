/-! THE LAW'S STRINGS, and what stands while a source is built -/
def sLen (j : Nat) : Nat := litL.getD (15 + j) 0
def sCh (j i : Nat) : Nat := ((litB.getD (15 + j) []).getD i 0).toNatClampNeg
set_option maxRecDepth 100000 in
theorem s_len : ∀ j ∈ List.range 14, gJ0_length_8abf5 (15 + j) = some (nI (sLen j)) ∧ 0 < sLen j ∧ sLen j ≤ 10 := by decide +kernel
set_option maxRecDepth 100000 in
theorem s_chr : ∀ j ∈ List.range 14, ∀ i ∈ List.range (sLen j), gJ0_charAt_5068e (15 + j) (nI i) = some (nI (sCh j i)) ∧ gX0_isToken (nI (sCh j i)) ≠ 0 := by decide +kernel
def by2 (j : Nat) : Nat → Int64 × Int64
  | 0 => (0, 0)
  | i + 1 => if i < 8 then ((((by2 j i).1 <<< ((8 : Int32).toInt64 &&& 63)) ||| (nI (sCh j i)).toInt64), (by2 j i).2) else ((by2 j i).1, (((by2 j i).2 <<< ((8 : Int32).toInt64 &&& 63)) ||| (nI (sCh j i)).toInt64))
set_option maxRecDepth 100000 in
theorem s_tk : ∀ j ∈ List.range 14, tk (by2 j (sLen j)).1 8 = (List.range (min (sLen j) 8)).map (sCh j) ∧ tk (by2 j (sLen j)).2 8 = (List.range (sLen j - 8)).map (fun i => sCh j (8 + i)) ∧ (∀ i ∈ List.range 8, bt (by2 j (sLen j)).1 i = 0 ∨ gX0_isToken (bt (by2 j (sLen j)).1 i) ≠ 0) ∧ ∀ i ∈ List.range 8, bt (by2 j (sLen j)).2 i = 0 ∨ gX0_isToken (bt (by2 j (sLen j)).2 i) ≠ 0 := by decide +kernel
theorem k_string {M : Mm} {n : Nat} {cd : Nat → Nat} {l : List (Nat × Bool)} (h : Ok M n cd) (hl : st cd n = some l) {j : Nat} (hj : j < 14) (hn : n + sLen j ≤ 80) : ∃ (M1 : Mm) (cd2 : Nat → Nat) (M2 : Mm), gX7_write M (by2 j (sLen j)).1 = some (.inl (nI (n + min (sLen j) 8)), M1) ∧ gX7_write M1 (by2 j (sLen j)).2 = some (.inl (nI (n + sLen j)), M2) ∧ Ok M2 (n + sLen j) cd2 ∧ st cd2 (n + sLen j) = some l ∧ (∀ i, i < n → cd2 i = cd i) ∧ ∀ t, t < sLen j → cd2 (n + t) = sCh j t := by
  obtain ⟨t1, t2, t3, t4⟩ := s_tk j (List.mem_range.mpr hj)
  have l1 : (tk (by2 j (sLen j)).1 8).length = min (sLen j) 8 := by rw [t1, List.length_map, List.length_range]
  have l2 : (tk (by2 j (sLen j)).2 8).length = sLen j - 8 := by rw [t2, List.length_map, List.length_range]
  obtain ⟨cd1, M1, m1, m2, m3, m4⟩ := k_write h (a := (by2 j (sLen j)).1) (fun i hi => t3 i (List.mem_range.mpr hi)) (by rw [l1]; omega) hl
  rw [l1] at m1 m2 m3 m4
  obtain ⟨cd2, M2, n1, n2, n3, n4⟩ := k_write m2 (a := (by2 j (sLen j)).2) (fun i hi => t4 i (List.mem_range.mpr hi)) (by rw [l2]; omega) m4
  rw [l2, show n + min (sLen j) 8 + (sLen j - 8) = n + sLen j by omega] at n1 n2 n3 n4
  refine ⟨M1, cd2, M2, m1, n1, n2, n4, fun i hi => ?_, fun t ht => ?_⟩
  · rw [n3 i (by omega)]
    unfold app
    rw [if_pos (by omega), m3 i (by omega)]
    unfold app
    rw [if_pos hi]
  · rw [n3 (n + t) (by omega)]
    unfold app
    by_cases q : t < 8
    · rw [if_pos (by omega), m3 (n + t) (by omega)]
      unfold app
      rw [if_neg (by omega), t1, show n + t - n = t by omega]
      rw [List.getD, List.getElem?_map, List.getElem?_range (show t < min (sLen j) 8 by omega)]
      rfl
    · rw [if_neg (by omega), t2, show n + t - (n + min (sLen j) 8) = t - 8 by omega]
      rw [List.getD, List.getElem?_map, List.getElem?_range (show t - 8 < sLen j - 8 by omega)]
      show sCh j (8 + (t - 8)) = sCh j t
      rw [show 8 + (t - 8) = t by omega]
/-- the others' row: at an open WHEN's height whether it has an OTHERWISE -/
def Oth (g : Nat → Int32) : List (Nat × Bool) → Prop
  | [] => True
  | q :: r => g r.length = bI q.2 ∧ Oth g r
theorem Oth_up {g : Nat → Int32} {j : Nat} {v : Int32} : ∀ {l : List (Nat × Bool)}, Oth g l → l.length ≤ j → Oth (upd g j v) l
  | [], _, _ => trivial
  | q :: r, h, hj => by
    simp only [List.length_cons] at hj
    refine ⟨?_, Oth_up h.2 (by omega)⟩
    unfold upd
    rw [if_neg (by omega)]
    exact h.1
def BI (M : Mm) (n : Nat) (cd : Nat → Nat) (l : List (Nat × Bool)) (f g : Nat → Int32) : Prop := Ok M n cd ∧ st cd n = some l ∧ (∀ i, i < n → f i = nI (cd i)) ∧ Oth g l
section BIS
variable {M : Mm} {n : Nat} {cd : Nat → Nat} {l : List (Nat × Bool)} {f g : Nat → Int32}
theorem BI.l5 (h : BI M n cd l f g) : l.length ≤ 5 := st_len h.2.1
theorem fe_up (h : ∀ i, i < n → f i = nI (cd i)) (c : Nat) : ∀ i, i < n + 1 → upd f n (nI c) i = nI (ext cd n c i) := by
  intro i hi
  unfold upd
  by_cases e : i = n
  · subst e
    rw [if_pos rfl, ext_n]
  · rw [if_neg e, ext_o e, h i (by omega)]
theorem BI_when (h : BI M n cd l f g) (hn : n < 80) {ft on : Nat} (hf : ft < 4) (ho : on ≤ 1) (h5 : l.length < 5) : ∃ M1, gX7_when M (nI ft) (nI on) = some (.inl (nI (n + 1)), M1) ∧ BI M1 (n + 1) (ext cd n (2 * ft + on)) ((n, false) :: l) (upd f n (nI (2 * ft + on))) (upd g l.length 0) := by
  obtain ⟨h1, h2, h3, h4⟩ := h
  obtain ⟨M1, m1, m2, m3⟩ := k_when h1 hn hf ho h2 h5
  refine ⟨M1, m1, m2, m3, fe_up h3 _, ?_, Oth_up h4 (Nat.le_refl _)⟩
  unfold upd
  rw [if_pos rfl]
  rfl
theorem BI_set (h : BI M n cd l f g) (hn : n < 80) {ft on : Nat} (hf : ft < 4) (ho : on ≤ 1) : ∃ M1, gX7_set M (nI ft) (nI on) = some (.inl (nI (n + 1)), M1) ∧ BI M1 (n + 1) (ext cd n (8 + 2 * ft + on)) l (upd f n (nI (8 + 2 * ft + on))) g := by
  obtain ⟨h1, h2, h3, h4⟩ := h
  obtain ⟨M1, m1, m2, m3⟩ := k_set h1 hn hf ho h2
  exact ⟨M1, m1, m2, m3, fe_up h3 _, h4⟩
theorem BI_done {q : Nat × Bool} (h : BI M n cd (q :: l) f g) (hn : n < 80) : ∃ M1, gX7_done M = some (.inl (nI (n + 1)), M1) ∧ BI M1 (n + 1) (ext cd n 17) l (upd f n (nI 17)) g := by
  obtain ⟨h1, h2, h3, h4⟩ := h
  obtain ⟨M1, m1, m2, m3⟩ := k_done h1 hn h2
  exact ⟨M1, m1, m2, m3, fe_up h3 _, h4.2⟩
theorem BI_oth {p : Nat} (h : BI M n cd ((p, false) :: l) f g) (hn : n < 80) : ∃ M1, gX7_otherwise M = some (.inl (nI (n + 1)), M1) ∧ BI M1 (n + 1) (ext cd n 16) ((p, true) :: l) (upd f n (nI 16)) (upd g l.length 1) := by
  obtain ⟨h1, h2, h3, h4⟩ := h
  obtain ⟨M1, m1, m2, m3⟩ := k_otherwise h1 hn h2
  refine ⟨M1, m1, m2, m3, fe_up h3 _, ?_, Oth_up h4.2 (Nat.le_refl _)⟩
  unfold upd
  rw [if_pos rfl]
  rfl
/-- the characters of a string behind the items -/
def fStr (f : Nat → Int32) (n j : Nat) : Nat → Nat → Int32
  | 0 => f
  | i + 1 => upd (fStr f n j i) (n + i) (nI (sCh j i))
theorem fStr_lo (f : Nat → Int32) (n j : Nat) : ∀ i k, k < n → fStr f n j i k = f k
  | 0, _, _ => rfl
  | i + 1, k, h => by
    show upd (fStr f n j i) (n + i) _ k = _
    unfold upd
    rw [if_neg (by omega), fStr_lo f n j i k h]
theorem fStr_hi (f : Nat → Int32) (n j : Nat) : ∀ i t, t < i → fStr f n j i (n + t) = nI (sCh j t)
  | i + 1, t, h => by
    show upd (fStr f n j i) (n + i) _ (n + t) = _
    unfold upd
    by_cases e : t = i
    · rw [e, if_pos rfl]
    · rw [if_neg (by omega), fStr_hi f n j i t (by omega)]
theorem BI_str (h : BI M n cd l f g) {j : Nat} (hj : j < 14) (hn : n + sLen j ≤ 80) : ∃ M1 cd2 M2, gX7_write M (by2 j (sLen j)).1 = some (.inl (nI (n + min (sLen j) 8)), M1) ∧ gX7_write M1 (by2 j (sLen j)).2 = some (.inl (nI (n + sLen j)), M2) ∧ BI M2 (n + sLen j) cd2 l (fStr f n j (sLen j)) g := by
  obtain ⟨h1, h2, h3, h4⟩ := h
  obtain ⟨M1, cd2, M2, m1, m2, m3, m4, m5, m6⟩ := k_string h1 h2 hj hn
  refine ⟨M1, cd2, M2, m1, m2, m3, m4, fun i hi => ?_, h4⟩
  by_cases e : i < n
  · rw [fStr_lo f n j _ i e, m5 i e, h3 i e]
  · rw [show i = n + (i - n) by omega, fStr_hi f n j _ (i - n) (by omega), m6 (i - n) (by omega)]
end BIS
