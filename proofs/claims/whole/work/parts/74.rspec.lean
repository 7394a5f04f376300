/-- the model reads a token, and the end -/
theorem readT {N : Mm} {c t : Nat} {s : List Nat} (h : RdM N c s) (hc : c < 16) (ht : t < 126) (hts : sym t) (ht0 : 33 ≤ t) (hl : s.length + 4 ≤ 320) (hv : svv s) : ∃ N', FrM c N N' ∧ (match feed t s with
    | some s' => gX8_readOne N (nI c) (nI t) = some (1, N') ∧ RdM N' c s'
    | none => gX8_readOne N (nI c) (nI t) = some (0, N')) := by
  have hrt := rt_feed (t := t) (by omega) (svv_sv hv) hl (k := 640) (by omega)
  have hn0 : (rt t 640 s).1 ≠ [0] := by
    intro e
    cases hf : feed t s with
    | some s' => rw [hf] at hrt; have hrt : rt t 640 s = (t :: s', true) := hrt; rw [hrt] at e; have := (List.cons.inj e).1; omega
    | none =>
      rw [hf] at hrt
      rcases hrt with ⟨-, y, r, h1, h2, -⟩ | h1 | ⟨y, r, h1, h2, -⟩
      · rw [h1] at e; have := (List.cons.inj e).1; omega
      · rw [h1] at e; cases e
      · rw [h1] at e; have := (List.cons.inj e).1; omega
  have hfin : (rt t 640 s).2 = false ∨ ∀ y r, (rt t 640 s).1 = y :: r → 8 < y := by
    cases hf : feed t s with
    | some s' => rw [hf] at hrt; have hrt : rt t 640 s = (t :: s', true) := hrt; rw [hrt]; exact Or.inr (fun y r e => by have := (List.cons.inj e).1; omega)
    | none =>
      rw [hf] at hrt
      rcases hrt with ⟨h1, -⟩ | h1 | ⟨y, r, h1, h2, -⟩
      · exact Or.inl h1
      · rw [h1]; exact Or.inr (fun y r e => by cases e)
      · rw [h1]; exact Or.inr (fun y' r' e => by have := (List.cons.inj e).1; omega)
  have rl := rt_len (t := t) (k := 640) (s := s) (by omega)
  have nt0 : ¬ nI t = (0 : Int32) := fun e => by have := (nI_eq (b := 0) (by omega) (by decide)).mp e; omega
  obtain ⟨N1, F1, e1⟩ := m_rt (E := fun (M1 : Mm) => if nI t = 0 then (if (nI c < 0 ∨ 16 ≤ (nI c).toNatClampNeg) then none else if (M1 5 (nI c).toNatClampNeg) = 0 then (some ((1 : Int32), M1)) else some ((0 : Int32), M1)) else if (nI c < 0 ∨ 16 ≤ (nI c).toNatClampNeg) then none else if (M1 5 (nI c).toNatClampNeg) = 0 then (some ((0 : Int32), M1)) else if (nI c < 0 ∨ 16 ≤ (nI c).toNatClampNeg) then none else if (((((400 : Int32) * nI c) + (M1 5 (nI c).toNatClampNeg)) - (1 : Int32)) < 0 ∨ 6400 ≤ (((((400 : Int32) * nI c) + (M1 5 (nI c).toNatClampNeg)) - (1 : Int32))).toNatClampNeg) then none else if (M1 4 (((((400 : Int32) * nI c) + (M1 5 (nI c).toNatClampNeg)) - (1 : Int32))).toNatClampNeg) = nI t then (if (nI c < 0 ∨ 16 ≤ (nI c).toNatClampNeg) then none else if (nI c < 0 ∨ 16 ≤ (nI c).toNatClampNeg) then none else lt (um M1 5 (nI c).toNatClampNeg ((M1 5 (nI c).toNatClampNeg) - (1 : Int32))) fun M11 => some ((1 : Int32), M11)) else some ((0 : Int32), M1)) hc ht 640 FU N s (by decide) hv (by omega) h hn0 hfin
  unfold gX8_readOne
  rw [lt_n]
  have tok : ∀ y r, RdM N1 c (y :: r) → y < 126 → (y :: r).length ≤ 320 → (if nI t = 0 then (if (nI c < 0 ∨ 16 ≤ (nI c).toNatClampNeg) then none else if (N1 5 (nI c).toNatClampNeg) = 0 then (some ((1 : Int32), N1)) else some ((0 : Int32), N1)) else if (nI c < 0 ∨ 16 ≤ (nI c).toNatClampNeg) then none else if (N1 5 (nI c).toNatClampNeg) = 0 then (some ((0 : Int32), N1)) else if (nI c < 0 ∨ 16 ≤ (nI c).toNatClampNeg) then none else if (((((400 : Int32) * nI c) + (N1 5 (nI c).toNatClampNeg)) - (1 : Int32)) < 0 ∨ 6400 ≤ (((((400 : Int32) * nI c) + (N1 5 (nI c).toNatClampNeg)) - (1 : Int32))).toNatClampNeg) then none else if (N1 4 (((((400 : Int32) * nI c) + (N1 5 (nI c).toNatClampNeg)) - (1 : Int32))).toNatClampNeg) = nI t then (if (nI c < 0 ∨ 16 ≤ (nI c).toNatClampNeg) then none else if (nI c < 0 ∨ 16 ≤ (nI c).toNatClampNeg) then none else lt (um N1 5 (nI c).toNatClampNeg ((N1 5 (nI c).toNatClampNeg) - (1 : Int32))) fun M11 => some ((1 : Int32), M11)) else some ((0 : Int32), N1)) = if y = t then some (1, um N1 5 c (nI r.length)) else some (0, N1) := by
    intro y r hR hy hlen
    have h5 : N1 5 c = nI (r.length + 1) := hR.1
    have h4 : N1 4 (400 * c + r.length) = nI y := hR.2.1
    simp only [List.length_cons] at hlen
    have e9 : 400 * c + (r.length + 1) - 1 = 400 * c + r.length := by omega
    rw [if_neg nt0]
    simp (disch := omega) only [↓lt_n, ↓reduceIte, q0, q1, q400, s_cl, s_lt, s_ltF, s_leF, or_self, h5, s_eq, s_eqF, s_mul, s_add, s_sub, e9, h4, Nat.add_sub_cancel]
  cases hf : feed t s with
  | some s' =>
    rw [hf] at hrt
    have hrt : rt t 640 s = (t :: s', true) := hrt
    rw [hrt, if_pos rfl] at e1
    rw [hrt] at rl
    obtain ⟨e2, R2⟩ := e1
    obtain ⟨R3, F3⟩ := dropN R2
    refine ⟨um N1 5 c (nI s'.length), F1.tr F3, ?_, R3⟩
    rw [e2]
    rw [tok t s' R2 ht rl, if_pos rfl]
  | none =>
    rw [hf] at hrt
    rcases hrt with ⟨h1, -⟩ | h1 | ⟨y, r, h1, h2, h3⟩
    · rw [h1, if_neg (by decide)] at e1
      exact ⟨N1, F1, e1⟩
    · rw [h1, if_pos rfl] at e1
      refine ⟨N1, F1, ?_⟩
      rw [e1.1]
      have h5 : N1 5 c = nI 0 := e1.2.1
      dsimp only
      rw [if_neg nt0]
      simp (disch := omega) only [↓lt_n, ↓reduceIte, q0, q1, q400, s_cl, s_lt, s_ltF, s_leF, or_self, h5]
    · have hsy := rt_svv (t := t) ht (k := 640) hv hn0 y (by rw [h1]; exact List.mem_cons_self)
      rw [h1, if_pos rfl] at e1
      rw [h1] at rl
      refine ⟨N1, F1, ?_⟩
      rw [e1.1]
      dsimp only
      rw [tok y r e1.2 (by omega) rl, if_neg h3]
theorem readE {N : Mm} {c : Nat} {s : List Nat} (h : RdM N c s) (hc : c < 16) (hl : s.length + 4 ≤ 320) (hv : svv s) : ∃ N', FrM c N N' ∧ gX8_readOne N (nI c) 0 = some (bI (fe s), N') := by
  have hrt := rt_end (svv_sv hv) hl (k := 640) (by omega)
  have hn0 : (rt 0 640 s).1 ≠ [0] := by
    intro e
    by_cases hf : fe s = true
    · rw [if_pos hf] at hrt; rw [hrt] at e; cases e
    · rw [if_neg hf] at hrt
      rcases hrt with ⟨-, y, r, h1, h2, -⟩ | ⟨y, r, h1, h2⟩
      · rw [h1] at e; have := (List.cons.inj e).1; omega
      · rw [h1] at e; have := (List.cons.inj e).1; omega
  have hfin : (rt 0 640 s).2 = false ∨ ∀ y r, (rt 0 640 s).1 = y :: r → 8 < y := by
    by_cases hf : fe s = true
    · rw [if_pos hf] at hrt; rw [hrt]; exact Or.inr (fun y r e => by cases e)
    · rw [if_neg hf] at hrt
      rcases hrt with ⟨h1, -⟩ | ⟨y, r, h1, h2⟩
      · exact Or.inl h1
      · rw [h1]; exact Or.inr (fun y' r' e => by have := (List.cons.inj e).1; omega)
  have rl := rt_len (t := 0) (k := 640) (s := s) (by omega)
  unfold gX8_readOne
  rw [lt_n]
  obtain ⟨N1, F1, e1⟩ := m_rt (E := fun (M1 : Mm) => if (0 : Int32) = 0 then (if (nI c < 0 ∨ 16 ≤ (nI c).toNatClampNeg) then none else if (M1 5 (nI c).toNatClampNeg) = 0 then (some ((1 : Int32), M1)) else some ((0 : Int32), M1)) else if (nI c < 0 ∨ 16 ≤ (nI c).toNatClampNeg) then none else if (M1 5 (nI c).toNatClampNeg) = 0 then (some ((0 : Int32), M1)) else if (nI c < 0 ∨ 16 ≤ (nI c).toNatClampNeg) then none else if (((((400 : Int32) * nI c) + (M1 5 (nI c).toNatClampNeg)) - (1 : Int32)) < 0 ∨ 6400 ≤ (((((400 : Int32) * nI c) + (M1 5 (nI c).toNatClampNeg)) - (1 : Int32))).toNatClampNeg) then none else if (M1 4 (((((400 : Int32) * nI c) + (M1 5 (nI c).toNatClampNeg)) - (1 : Int32))).toNatClampNeg) = 0 then (if (nI c < 0 ∨ 16 ≤ (nI c).toNatClampNeg) then none else if (nI c < 0 ∨ 16 ≤ (nI c).toNatClampNeg) then none else lt (um M1 5 (nI c).toNatClampNeg ((M1 5 (nI c).toNatClampNeg) - (1 : Int32))) fun M11 => some ((1 : Int32), M11)) else some ((0 : Int32), M1)) (t := 0) hc (by decide) 640 FU N s (by decide) hv (by omega) h hn0 hfin
  rw [show nI 0 = (0 : Int32) from rfl] at e1
  refine ⟨N1, F1, ?_⟩
  by_cases hf : fe s = true
  · rw [if_pos hf] at hrt
    rw [hrt, if_pos rfl] at e1
    rw [e1.1, hf]
    have h5 : N1 5 c = nI 0 := e1.2.1
    rw [if_pos rfl, ckI hc (by decide), cI (by omega), h5, if_pos (show nI 0 = 0 from rfl)]
    rfl
  · rw [if_neg hf] at hrt
    rw [show fe s = false from by cases h : fe s with
      | true => exact absurd h hf
      | false => rfl]
    rcases hrt with ⟨h1, -⟩ | ⟨y, r, h1, h2⟩
    · rw [h1, if_neg (by decide)] at e1
      exact e1
    · rw [h1, if_pos rfl] at e1
      rw [h1] at rl
      have rl : r.length + 1 ≤ 320 := rl
      rw [e1.1]
      have h5 : N1 5 c = nI (r.length + 1) := e1.2.1
      rw [if_pos rfl, ckI hc (by decide), cI (by omega), h5, if_neg (fun e => by have := (nI_z (k := r.length + 1) (by omega)).mp e; omega)]
      rfl
/-! WHAT READING IS: for a configuration, after so many items -/
def rd (cd : Nat → Nat) (c : Nat) : Nat → Option (List Nat)
  | 0 => some [1]
  | i + 1 => if inV cd c i = true then (rd cd c i).bind (feed (cd i)) else rd cd c i
def hgt (cd : Nat → Nat) (c : Nat) : Nat → List Nat
  | 0 => []
  | i + 1 => if inV cd c i = true then (match rd cd c i with
    | some s => hgt cd c i ++ [s.length]
    | none => hgt cd c i) else hgt cd c i
def er (cd : Nat → Nat) (c : Nat) : Nat → Nat
  | 0 => 0
  | i + 1 => if rd cd c i ≠ none ∧ rd cd c (i + 1) = none then i else er cd c i
theorem inV_tok {cd : Nat → Nat} {c i n : Nat} (hV : Val n cd) (hi : i < n) (h : inV cd c i = true) : cd i < 126 ∧ 33 ≤ cd i ∧ sym (cd i) := by
  unfold inV at h
  rw [Bool.and_eq_true, decide_eq_true_iff] at h
  obtain ⟨h1, h2⟩ := hV.2.1 i hi
  have h3 : gX0_isToken (nI (cd i)) ≠ 0 := by
    rcases h1 with h1 | h1
    · omega
    · exact h1
  have h4 := tok_big h3 h2
  have h5 := (show ∀ t ∈ List.range 126, gX0_isToken (nI t) ≠ 0 → t < 65 ∨ 90 < t from by decide +kernel) (cd i) (List.mem_range.mpr (by omega)) h3
  exact ⟨by omega, h4.1, by omega⟩
theorem rd_pre {cd : Nat → Nat} {c i : Nat} (h : rd cd c i = none) : rd cd c (i + 1) = none := by
  show (if inV cd c i = true then (rd cd c i).bind (feed (cd i)) else rd cd c i) = none
  rw [h]
  by_cases a : inV cd c i = true
  · rw [if_pos a]; rfl
  · rw [if_neg a]
theorem rd_some {cd : Nat → Nat} {c n : Nat} (hV : Val n cd) : ∀ {i : Nat} {s : List Nat}, i ≤ n → rd cd c i = some s → svv s ∧ s.length ≤ 1 + 3 * i ∧ (hgt cd c i).length = (vl cd c i).length
  | 0, s, _, h => by
    cases h
    exact ⟨fun x hx => by rcases List.mem_singleton.mp hx with rfl; decide, by decide, rfl⟩
  | i + 1, s, hi, h => by
    have h : (if inV cd c i = true then (rd cd c i).bind (feed (cd i)) else rd cd c i) = some s := h
    show _ ∧ _ ∧ (if inV cd c i = true then (match rd cd c i with | some s => hgt cd c i ++ [s.length] | none => hgt cd c i) else hgt cd c i).length = (if inV cd c i then vl cd c i ++ [i] else vl cd c i).length
    by_cases a : inV cd c i = true
    · rw [if_pos a] at h ⊢
      rw [if_pos a]
      obtain ⟨s0, h1, h2⟩ := ob_s h
      obtain ⟨b1, b2, b3⟩ := rd_some hV (by omega) h1
      have := feed_len h2
      refine ⟨feed_svv (inV_tok hV (by omega) a).1 b1 h2, by omega, ?_⟩
      rw [h1]
      show (hgt cd c i ++ [s0.length]).length = _
      simp [b3]
    · rw [if_neg a] at h ⊢
      rw [if_neg a]
      obtain ⟨b1, b2, b3⟩ := rd_some hV (by omega) h
      exact ⟨b1, by omega, b3⟩
theorem hgt_len {cd : Nat → Nat} {c : Nat} : ∀ i, (hgt cd c i).length ≤ i
  | 0 => Nat.le_refl _
  | i + 1 => by
    have := hgt_len (cd := cd) (c := c) i
    show (if inV cd c i = true then (match rd cd c i with | some s => hgt cd c i ++ [s.length] | none => hgt cd c i) else hgt cd c i).length ≤ _
    by_cases a : inV cd c i = true
    · rw [if_pos a]
      cases rd cd c i with
      | none => show (hgt cd c i).length ≤ _; omega
      | some s => show (hgt cd c i ++ [s.length]).length ≤ _; simp only [List.length_append, List.length_singleton]; omega
    · rw [if_neg a]; omega
theorem er_lt {cd : Nat → Nat} {c : Nat} : ∀ {i : Nat}, rd cd c i = none → er cd c i < i
  | 0, h => by cases h
  | i + 1, h => by
    show (if rd cd c i ≠ none ∧ rd cd c (i + 1) = none then i else er cd c i) < _
    by_cases a : rd cd c i = none
    · rw [if_neg (fun w => w.1 a)]
      have := er_lt a
      omega
    · rw [if_pos ⟨a, h⟩]; omega
/-- the end: no error, or its place -/
def fin (cd : Nat → Nat) (c n : Nat) : Bool := match rd cd c n with
  | some s => fe s
  | none => false
def erP (cd : Nat → Nat) (c n : Nat) : Nat := match rd cd c n with
  | some _ => n
  | none => er cd c n
def eI (cd : Nat → Nat) (c n : Nat) : Int32 := if fin cd c n = true then -1 else nI (erP cd c n)
theorem erP_le {cd : Nat → Nat} {c n : Nat} : erP cd c n ≤ n := by
  unfold erP
  cases h : rd cd c n with
  | some _ => exact Nat.le_refl _
  | none => have := er_lt h; show er cd c n ≤ n; omega
theorem eI_m {cd : Nat → Nat} {c n : Nat} (hn : n ≤ 80) : (eI cd c n = -1) = (fin cd c n = true) := by
  unfold eI
  have := erP_le (cd := cd) (c := c) (n := n)
  by_cases h : fin cd c n = true
  · rw [if_pos h]; simp [h]
  · rw [if_neg h, qm', s_em (by omega)]; simp [h]
/-- alive at an item -/
def al (cd : Nat → Nat) (c i : Nat) : Bool := inV cd c i && (rd cd c i).isSome
def gr (cd : Nat → Nat) (i : Nat) : Int32 := itr (fun c x => x + bI (al cd c i && fi (fun b => al cd b i && decide (rd cd b i = rd cd c i)) c)) 16 0
