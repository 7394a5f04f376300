/-! COUNTING -/
def sm (f : Nat → Nat) : Nat → Nat
  | 0 => 0
  | k + 1 => sm f k + f k
abbrev b2 (b : Bool) : Nat := if b then 1 else 0
theorem b2_le (b : Bool) : b2 b ≤ 1 := by cases b <;> decide
theorem sm_le {f g : Nat → Nat} : ∀ {m : Nat}, (∀ c, c < m → f c ≤ g c) → sm f m ≤ sm g m
  | 0, _ => Nat.le_refl _
  | m + 1, h => Nat.add_le_add (sm_le (fun c hc => h c (by omega))) (h m (by omega))
theorem sm_congr {f g : Nat → Nat} : ∀ {m : Nat}, (∀ c, c < m → f c = g c) → sm f m = sm g m
  | 0, _ => rfl
  | m + 1, h => by
    show sm f m + f m = sm g m + g m
    rw [sm_congr (fun c hc => h c (by omega)), h m (by omega)]
theorem sm_bd {f : Nat → Nat} {b : Nat} : ∀ {m : Nat}, (∀ c, c < m → f c ≤ b) → sm f m ≤ b * m
  | 0, _ => Nat.zero_le _
  | m + 1, h => by
    have h1 := sm_bd (f := f) (b := b) (m := m) (fun c hc => h c (by omega))
    have h2 := h m (by omega)
    show sm f m + f m ≤ b * (m + 1)
    rw [Nat.mul_succ]
    omega
theorem sm_ge {f : Nat → Nat} : ∀ {m c : Nat}, c < m → f c ≤ sm f m
  | m + 1, c, h => by
    show f c ≤ sm f m + f m
    by_cases e : c = m
    · rw [e]; omega
    · have := sm_ge (f := f) (m := m) (c := c) (by omega)
      omega
theorem sm_add (f g : Nat → Nat) : ∀ m, sm (fun c => f c + g c) m = sm f m + sm g m
  | 0 => rfl
  | m + 1 => by
    show sm (fun c => f c + g c) m + (f m + g m) = sm f m + f m + (sm g m + g m)
    rw [sm_add f g m]; omega
theorem sm_zero : ∀ m, sm (fun _ => 0) m = 0
  | 0 => rfl
  | m + 1 => by
    show sm (fun _ => 0) m + 0 = 0
    rw [sm_zero m]
theorem sm_mul (f : Nat → Nat) (b : Nat) : ∀ m, sm (fun c => b * f c) m = b * sm f m
  | 0 => rfl
  | m + 1 => by
    show sm (fun c => b * f c) m + b * f m = b * (sm f m + f m)
    rw [sm_mul f b m, Nat.mul_add]
theorem sm_swap (a : Nat → Nat → Nat) (n : Nat) : ∀ m, sm (fun c => sm (fun i => a c i) n) m = sm (fun i => sm (fun c => a c i) m) n
  | 0 => (sm_zero n).symm
  | m + 1 => by
    show sm (fun c => sm (fun i => a c i) n) m + sm (fun i => a m i) n = sm (fun i => sm (fun c => a c i) m + a m i) n
    rw [sm_swap a n m, sm_add]
theorem itr_sm {f : Nat → Nat} {g : Nat → Int32 → Int32} : ∀ {m : Nat}, (∀ c x, c < m → g c x = x + nI (f c)) → itr g m (0 : Int32) = nI (sm f m)
  | 0, _ => rfl
  | m + 1, h => by
    show g m (itr g m 0) = nI (sm f m + f m)
    rw [h m _ (by omega), itr_sm (fun c x hc => h c x (by omega)), nI_add]
theorem fi_all {q : Nat → Bool} : ∀ {c : Nat}, fi q c = true ↔ ∀ b, b < c → q b = false
  | 0 => ⟨fun _ b hb => absurd hb (Nat.not_lt_zero _), fun _ => rfl⟩
  | c + 1 => by
    show (fi q c && !q c) = true ↔ _
    rw [Bool.and_eq_true, fi_all (q := q) (c := c), Bool.not_eq_true']
    exact ⟨fun h b hb => by
      by_cases e : b = c
      · rw [e]; exact h.2
      · exact h.1 b (by omega), fun h => ⟨fun b hb => h b (by omega), h c (by omega)⟩⟩
/-! the numbers of variants and behaviours -/
def vN (cd : Nat → Nat) (n : Nat) : Nat := sm (fun c => b2 (fi (fun b => decide (txt cd (vl cd b n) = txt cd (vl cd c n))) c)) 16
def bN (cd : Nat → Nat) (n : Nat) : Nat := sm (fun c => b2 (fin cd c n && fi (qb cd n c) c)) 16
def eN (cd : Nat → Nat) (n : Nat) : Nat := sm (fun c => b2 (!fin cd c n)) 16
theorem nVar_N (cd : Nat → Nat) (n : Nat) : nVar cd n = nI (vN cd n) := itr_sm (fun c x _ => by rw [bI_n])
theorem nBeh_N (cd : Nat → Nat) (n : Nat) : nBeh cd n = nI (bN cd n) := itr_sm (fun c x _ => by rw [bI_n])
theorem vN_16 (cd : Nat → Nat) (n : Nat) : vN cd n ≤ 16 := sm_bd (b := 1) (fun c _ => b2_le _)
theorem bN_16 (cd : Nat → Nat) (n : Nat) : bN cd n ≤ 16 := sm_bd (b := 1) (fun c _ => b2_le _)
theorem txt_tks {cd : Nat → Nat} {n b c : Nat} (hV : Val n cd) (h : txt cd (vl cd b n) = txt cd (vl cd c n)) : tks cd b n = tks cd c n := by
  have hl : (vl cd b n).length = (vl cd c n).length := by have := congrArg List.length h; rwa [txt_len, txt_len] at this
  unfold tks
  refine List.ext_getElem (by rw [List.length_map, List.length_map, hl]) (fun i h1 h2 => ?_)
  rw [List.length_map] at h1 h2
  have e := congrArg (fun l => l.getD i 0) h
  try dsimp only at e
  rw [txt_get h1, txt_get h2] at e
  have r1 := vl_get h1
  have r2 := vl_get h2
  have e2 := (nI_eq ((hV.2.1 _ r1.1).2) ((hV.2.1 _ r2.1).2)).mp e
  rw [List.getElem_map, List.getElem_map]
  rw [List.getD, List.getElem?_eq_getElem h1, List.getD, List.getElem?_eq_getElem h2] at e2
  exact e2
theorem bN_vN {cd : Nat → Nat} {n : Nat} (hV : Val n cd) : bN cd n ≤ vN cd n := by
  refine sm_le (fun c hc => ?_)
  cases h : (fin cd c n && fi (qb cd n c) c) with
  | false => exact Nat.zero_le _
  | true =>
    rw [Bool.and_eq_true] at h
    have h2 : fi (fun b => decide (txt cd (vl cd b n) = txt cd (vl cd c n))) c = true := by
      rw [fi_all]
      intro b hb
      refine decide_eq_false (fun e => ?_)
      have e2 := txt_tks hV e
      have h3 := fi_all.mp h.2 b hb
      unfold qb at h3
      have f1 : fin cd b n = true := by rw [fin_acc, e2, ← fin_acc]; exact h.1
      have f2 : (res cd c n).2 = (res cd b n).2 := by unfold res; rw [e2]
      rw [f1, decide_eq_true f2] at h3
      cases h3
    rw [h2]
    exact Nat.le_refl _
theorem bN_eN (cd : Nat → Nat) (n : Nat) : bN cd n + eN cd n ≤ 16 := by
  unfold bN eN
  rw [← sm_add]
  refine sm_bd (b := 1) (fun c _ => ?_)
  cases fin cd c n <;> cases fi (qb cd n c) c <;> decide
/-! groups and work -/
def grN (cd : Nat → Nat) (i : Nat) : Nat := sm (fun c => b2 (al cd c i && fi (fun b => al cd b i && decide (rd cd b i = rd cd c i)) c)) 16
def alN (cd : Nat → Nat) (i : Nat) : Nat := sm (fun c => b2 (al cd c i)) 16
theorem gr_N (cd : Nat → Nat) (i : Nat) : gr cd i = nI (grN cd i) := itr_sm (fun c x _ => by rw [bI_n])
theorem grN_16 (cd : Nat → Nat) (i : Nat) : grN cd i ≤ 16 := sm_bd (b := 1) (fun c _ => b2_le _)
theorem alN_16 (cd : Nat → Nat) (i : Nat) : alN cd i ≤ 16 := sm_bd (b := 1) (fun c _ => b2_le _)
theorem grN_alN (cd : Nat → Nat) (i : Nat) : grN cd i ≤ alN cd i := by
  refine sm_le (fun c hc => ?_)
  cases al cd c i <;> cases fi (fun b => al cd b i && decide (rd cd b i = rd cd c i)) c <;> decide
theorem alN_grN (cd : Nat → Nat) (i : Nat) : alN cd i ≤ 16 * grN cd i := by
  by_cases h : ∃ c, c < 16 ∧ al cd c i = true
  · have key : ∀ m, m ≤ 16 → (∃ c, c < m ∧ al cd c i = true) → ∃ c, c < m ∧ al cd c i = true ∧ ∀ b, b < c → al cd b i = false := by
      intro m
      induction m with
      | zero => intro _ ⟨c, h, _⟩; exact absurd h (Nat.not_lt_zero _)
      | succ m ih =>
        intro hm ⟨c, hc, ha⟩
        by_cases e : ∃ c, c < m ∧ al cd c i = true
        · obtain ⟨c, p1, p2, p3⟩ := ih (by omega) e
          exact ⟨c, by omega, p2, p3⟩
        · have hcm : c = m := by
            by_cases q : c = m
            · exact q
            · exact absurd ⟨c, by omega, ha⟩ e
          refine ⟨c, hc, ha, fun b hb => ?_⟩
          cases q : al cd b i with
          | false => rfl
          | true => exact absurd ⟨b, by omega, q⟩ e
    obtain ⟨c, hc, h1, h2⟩ := key 16 (Nat.le_refl _) h
    have h3 : fi (fun b => al cd b i && decide (rd cd b i = rd cd c i)) c = true := by
      rw [fi_all]
      intro b hb
      rw [h2 b hb, Bool.false_and]
    have h4 := sm_ge (f := fun c => b2 (al cd c i && fi (fun b => al cd b i && decide (rd cd b i = rd cd c i)) c)) hc
    try dsimp only at h4
    rw [h1, h3] at h4
    have h5 : 1 ≤ grN cd i := h4
    have := alN_16 cd i
    omega
  · have : alN cd i = 0 := by
      unfold alN
      rw [sm_congr (g := fun _ => 0) (fun c hc => by
        cases q : al cd c i with
        | false => rfl
        | true => exact absurd ⟨c, hc, q⟩ h)]
      exact sm_zero 16
    omega
def wkN (cd : Nat → Nat) (n : Nat) : Nat := sm (fun i => grN cd i) n
def alnN (cd : Nat → Nat) (n : Nat) : Nat := sm (fun c => (hgt cd c n).length) 16
theorem wk_N (cd : Nat → Nat) (n : Nat) : wk cd n = nI (wkN cd n) := itr_sm (fun i x _ => by rw [gr_N])
theorem aln_N (cd : Nat → Nat) (n : Nat) : aln cd n = nI (alnN cd n) := itr_sm (fun i x _ => rfl)
theorem hgt_sm {cd : Nat → Nat} {c : Nat} : ∀ n, (hgt cd c n).length = sm (fun i => b2 (al cd c i)) n
  | 0 => rfl
  | n + 1 => by
    show (if inV cd c n = true then (match rd cd c n with | some s => hgt cd c n ++ [s.length] | none => hgt cd c n) else hgt cd c n).length = sm (fun i => b2 (al cd c i)) n + b2 (al cd c n)
    rw [← hgt_sm n]
    unfold al
    by_cases a : inV cd c n = true
    · rw [if_pos a, a, Bool.true_and]
      cases rd cd c n with
      | none => rfl
      | some s =>
        show (hgt cd c n ++ [s.length]).length = (hgt cd c n).length + 1
        rw [List.length_append]; rfl
    · rw [if_neg a, show inV cd c n = false from by cases h : inV cd c n with
        | true => exact absurd h a
        | false => rfl, Bool.false_and]
      rfl
theorem gain_b (cd : Nat → Nat) (n : Nat) : wkN cd n ≤ alnN cd n ∧ alnN cd n ≤ 16 * wkN cd n ∧ alnN cd n ≤ 16 * n := by
  have e : alnN cd n = sm (fun i => alN cd i) n := by
    unfold alnN
    rw [sm_congr (g := fun c => sm (fun i => b2 (al cd c i)) n) (fun c _ => hgt_sm n), sm_swap]
    rfl
  rw [e]
  refine ⟨sm_le (fun i _ => grN_alN cd i), ?_, sm_bd (fun i _ => alN_16 cd i)⟩
  unfold wkN
  rw [← sm_mul]
  exact sm_le (fun i _ => alN_grN cd i)
