/-! THE RELATION, over what is said of the class's caches (Fr); the calls that change the source -/
def Rl (Fr : Nat → (Nat → Nat) → Mm → Prop) (M N : Mm) : Prop := ∃ n cd, SrcC M n cd ∧ SrcM N n cd ∧ Val n cd ∧ (M 0 4 = 0 ∨ Fr n cd M)
def ext (cd : Nat → Nat) (n c : Nat) : Nat → Nat := fun i => if i = n then c else cd i
theorem ext_n {cd : Nat → Nat} {n c : Nat} : ext cd n c n = c := if_pos rfl
theorem ext_o {cd : Nat → Nat} {n c i : Nat} (h : i ≠ n) : ext cd n c i = cd i := if_neg h
theorem st_congr {cd cd' : Nat → Nat} : ∀ n : Nat, (∀ i, i < n → cd i = cd' i) → st cd n = st cd' n
  | 0, _ => rfl
  | n + 1, h => by
    show (st cd n).bind (stp (cd n) n) = (st cd' n).bind (stp (cd' n) n)
    rw [st_congr n (fun i hi => h i (by omega)), h n (by omega)]
theorem SrcM.thr {N : Mm} {n : Nat} {cd : Nat → Nat} (h : SrcM N n cd) (v : Int32) : SrcM (um N 0 0 v) n cd := ⟨by rw [um_place (by decide)]; exact h.1, fun i hi => by rw [um_cell (by decide)]; exact h.2 i hi⟩
theorem appC {M : Mm} {n c : Nat} {cd : Nat → Nat} (h : SrcC M n cd) (hn : n < 80) : ∃ M1, gX7_append M (nI c) = some (nI (n + 1), M1) ∧ SrcC M1 (n + 1) (ext cd n c) ∧ M1 0 4 = 0 := by
  unfold gX7_append gX4_add
  rw [h.1, if_neg (show ¬ (80 : Int32) ≤ nI n from nI_ge hn (by decide)), ckI hn (by decide), cI (by omega), lt_s9, lt_s9, bd_s9 rfl, lt_s9]
  have e1 : um M 2 n (nI c) 1 1 = nI n := by rw [um_cell (by decide)]; exact h.1
  rw [e1, up1]
  refine ⟨um (um (um M 2 n (nI c)) 1 1 (nI (n + 1))) 0 4 0, ?_, ⟨?_, fun i hi => ?_⟩, um_hit⟩
  · rw [um_cell (show (1 : Nat) ≠ 0 by decide), um_hit]
  · rw [um_cell (by decide), um_hit]
  · rw [um_cell (by decide), um_cell (by decide)]
    by_cases e : i = n
    · subst e
      rw [um_hit, ext_n]
    · rw [um_place e, ext_o e]
      exact h.2 i (by omega)
theorem appM {N : Mm} {n c : Nat} {cd : Nat → Nat} (h : SrcM N n cd) (hn : n < 80) : ∃ N1, gX8_append N (nI c) = some (nI (n + 1), N1) ∧ SrcM N1 (n + 1) (ext cd n c) ∧ N1 0 0 = N 0 0 := by
  unfold gX8_append
  rw [h.1, ckI hn (by decide), cI (by omega), lt_s9, lt_s9]
  have e1 : um N 1 n (nI c) 0 1 = nI n := by rw [um_cell (by decide)]; exact h.1
  rw [e1, up1]
  refine ⟨um (um N 1 n (nI c)) 0 1 (nI (n + 1)), ?_, ⟨?_, fun i hi => ?_⟩, ?_⟩
  · rw [um_hit]
  · rw [um_hit]
  · rw [um_cell (by decide)]
    by_cases e : i = n
    · subst e
      rw [um_hit, ext_n]
    · rw [um_place e, ext_o e]
      exact h.2 i (by omega)
  · rw [um_place (by decide), um_cell (by decide)]
theorem Val_app {n c : Nat} {cd : Nat → Nat} {l l' : List (Nat × Bool)} (hV : Val n cd) (hn : n < 80) (hc : ok c ∧ c < 2 ^ 31) (hl : st cd n = some l) (hs : stp c n l = some l') : Val (n + 1) (ext cd n c) := by
  refine ⟨hn, fun i hi => ?_, l', ?_⟩
  · by_cases e : i = n
    · subst e
      rw [ext_n]
      exact hc
    · rw [ext_o e]
      exact hV.2.1 i (by omega)
  · have h1 : st (ext cd n c) n = some l := by rw [st_congr n (cd' := cd) (fun i hi => ext_o (by omega))]; exact hl
    rw [st_s h1, ext_n]
    exact hs
/-- small codes -/
theorem ok_s {c : Nat} (h : c ≤ 17) : ok c ∧ c < 2 ^ 31 := ⟨Or.inl h, by omega⟩
def nb (x : Int32) : Nat := if x = 0 then 0 else 1
theorem nb_le (x : Int32) : nb x ≤ 1 := by
  unfold nb
  by_cases h : x = 0
  · rw [if_pos h]; decide
  · rw [if_neg h]; decide
theorem feat {x : Int32} : (x < 0 ∧ gX8_isFeature x = 0) ∨ (¬ x < 0 ∧ ¬ x < (4 : Int32) ∧ gX8_isFeature x = 0) ∨ ∃ f, f < 4 ∧ x = nI f ∧ gX8_isFeature x = 1 := by
  unfold gX8_isFeature gX8_isIn
  by_cases a : x < 0
  · exact Or.inl ⟨a, if_pos a⟩
  · obtain ⟨j, hj, rfl⟩ := nI_of a
    by_cases b : j < 4
    · refine Or.inr (Or.inr ⟨j, b, rfl, ?_⟩)
      rw [if_neg a, if_neg (show ¬ (3 : Int32) < nI j from nI_nlt (b := j) (a := 3) (by omega) (by decide))]
    · refine Or.inr (Or.inl ⟨a, fun e => b ((nI_ltI (b := 4) hj (by decide)).mp e), ?_⟩)
      rw [if_neg a, if_pos (show (3 : Int32) < nI j from nI_lt (a := 3) (by omega) hj)]
theorem codeW {f b : Nat} (hf : f < 4) (hb : b ≤ 1) : gX4_codeOfWhen (nI f) (nI b) = nI (2 * f + b) ∧ gX4_codeOfSet (nI f) (nI b) = nI (8 + 2 * f + b) ∧ ((2 : Int32) * nI f) + (0 : Int32) = nI (2 * f) ∧ ((2 : Int32) * nI f) + (1 : Int32) = nI (2 * f + 1) ∧ (((8 : Int32) + ((2 : Int32) * nI f)) + (0 : Int32)) = nI (8 + 2 * f) ∧ (((8 : Int32) + ((2 : Int32) * nI f)) + (1 : Int32)) = nI (8 + 2 * f + 1) := by
  rcases (show f = 0 ∨ f = 1 ∨ f = 2 ∨ f = 3 by omega) with rfl | rfl | rfl | rfl <;> rcases (show b = 0 ∨ b = 1 by omega) with rfl | rfl <;> decide +kernel
/-- one of the model's refusals -/
theorem no_s (N : Mm) (k : Int32) {α : Type} (f : Int32 → Mm → Option α) : bd2 (gX8_no N k) f = f 0 (um N 0 0 k) := rfl
theorem um2 {N : Mm} {v w : Int32} {a i : Nat} : um (um N 0 0 v) 0 0 w a i = um N 0 0 w a i := by
  unfold um upd
  by_cases h : a = 0 <;> by_cases h2 : i = 0 <;> simp [h, h2]
section SRC
variable {Fr : Nat → (Nat → Nat) → Mm → Prop}
theorem a_set (x1 x2 : Int32) : agT (Rl Fr) (fun M => gX7_set M x1 (if x2 = 0 then 0 else 1)) (fun N => gX8_set N x1 (if x2 = 0 then 0 else 1)) [2, 1] (fun _ => True) := by
  intro M N ⟨n, cd, hC, hM, hV, hF⟩
  have hb : (if x2 = 0 then (0 : Int32) else 1) = nI (nb x2) := by unfold nb; by_cases h : x2 = 0 <;> simp only [h, if_true, if_false] <;> rfl
  dsimp only
  rw [hb]
  have hM0 := hM.thr 0
  unfold gX7_set gX8_set gX7_checkFeature
  rw [lt_s9]
  rcases feat (x := x1) with ⟨a, e⟩ | ⟨a, a2, e⟩ | ⟨f, hf, rfl, e⟩
  · rw [if_pos a, te_x rfl, if_pos e, no_s]
    exact ⟨_, _, _, _, rfl, (fun k h => by cases h; decide), rfl, um_hit, (fun v h => by cases h), n, cd, hC, hM0.thr 1, hV, hF⟩
  · rw [if_neg a, if_neg a2, te_x rfl, if_pos e, no_s]
    exact ⟨_, _, _, _, rfl, (fun k h => by cases h; decide), rfl, um_hit, (fun v h => by cases h), n, cd, hC, hM0.thr 1, hV, hF⟩
  · rw [if_neg (nI_pos (by omega)), if_pos (show nI f < (4 : Int32) from nI_lt (b := 4) hf (by decide)), te_v rfl, if_neg (by rw [e]; decide)]
    unfold gX7_checkRoom
    rw [hC.1, hM0.1]
    by_cases hn : n < 80
    · rw [if_pos (show nI n < (80 : Int32) from nI_lt (b := 80) hn (by decide)), te_v rfl, if_neg (fun h => by have := (nI_eq (a := n) (b := 80) (by omega) (by decide)).mp h; omega)]
      obtain ⟨w1, w2, -, -, w3, w4⟩ := codeW hf (nb_le x2)
      obtain ⟨l, hl⟩ := hV.2.2
      obtain ⟨M1, m1, m2, m3⟩ := appC (c := 8 + 2 * f + nb x2) hC hn
      obtain ⟨N1, n1, n2, n3⟩ := appM (c := 8 + 2 * f + nb x2) hM0 hn
      have hb1 := nb_le x2
      have hv : Val (n + 1) (ext cd n (8 + 2 * f + nb x2)) := Val_app hV hn (ok_s (by omega)) hl (l' := l) (by
        unfold stp
        rw [if_neg (by omega), if_neg (by omega), if_neg (by omega)])
      rw [w2, bd2_s9 m1]
      have hg : (if nI (nb x2) = 0 then (bd2 (gX8_append (um N 0 0 0) (((8 : Int32) + ((2 : Int32) * nI f)) + (0 : Int32))) fun r7 M6 => some (r7, M6)) else bd2 (gX8_append (um N 0 0 0) (((8 : Int32) + ((2 : Int32) * nI f)) + (1 : Int32))) fun r10 M9 => some (r10, M9)) = some (nI (n + 1), N1) := by
        rw [w3, w4]
        rcases (show nb x2 = 0 ∨ nb x2 = 1 by omega) with e0 | e0
        · rw [e0] at n1 ⊢
          rw [Nat.add_zero] at n1
          rw [if_pos (show nI 0 = 0 from rfl), bd2_s9 n1]
        · rw [e0] at n1 ⊢
          rw [if_neg (show ¬ nI 1 = 0 by decide), bd2_s9 n1]
      rw [hg]
      exact ⟨_, _, _, _, rfl, (fun k h => by cases h), rfl, by rw [n3]; exact um_hit, (fun v h => by cases h; exact ⟨rfl, trivial⟩), n + 1, _, m2, n2, hv, Or.inl m3⟩
    · have hn80 : n = 80 := by have := hV.1; omega
      subst hn80
      rw [if_neg (show ¬ nI 80 < (80 : Int32) by decide), te_x rfl, if_pos (show nI 80 = (80 : Int32) from rfl), no_s]
      exact ⟨_, _, _, _, rfl, (fun k h => by cases h; decide), rfl, um_hit, (fun v h => by cases h), 80, cd, hC, hM0.thr 2, hV, hF⟩
end SRC
