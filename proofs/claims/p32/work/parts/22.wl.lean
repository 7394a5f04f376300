/-! THE CLASS'S WORLD AND THE MODEL'S, as the constructors leave them, by the numbers of their cells -/
def M0 : Mm := fun _ _ => 0
theorem lv7_len {cs : Cs} {w : Nat → Nat → Nat} : ∀ n : Nat, (lv7 cs w n).length = 10 * n
  | 0 => rfl
  | n + 1 => by
    show (lv7 cs w n ++ lX5_init cs (w n)).length = _
    rw [List.length_append, lv7_len n, show (lX5_init cs (w n)).length = 10 from rfl]
    omega
theorem lv7_get {cs : Cs} {w : Nat → Nat → Nat} {c j : Nat} (hj : j < 10) : ∀ n : Nat, c < n → (lv7 cs w n)[10 * c + j]? = (lX5_init cs (w c))[j]?
  | 0, h => absurd h (by omega)
  | n + 1, h => by
    show (lv7 cs w n ++ lX5_init cs (w n))[10 * c + j]? = _
    by_cases hc : c = n
    · subst hc
      rw [List.getElem?_append_right (by rw [lv7_len]; omega), lv7_len, Nat.add_sub_cancel_left]
    · rw [List.getElem?_append_left (by rw [lv7_len]; omega)]
      exact lv7_get hj n (by omega)
section AD
variable {h : Nat} {a b : Nat → Nat} {q g : Nat} {w : Nat → Nat → Nat}
theorem ad7_v {c j : Nat} (hj : j < 10) : ad7 h a b q g w (vb c + j) = w c j := by
  unfold ad7 vb
  rw [if_neg (by omega), if_neg (by omega), if_neg (by omega), if_neg (by omega), if_neg (by omega), show (15 + 10 * c + j - 15) / 10 = c by omega, show (15 + 10 * c + j - 15) % 10 = j by omega]
theorem ad7_0 {c : Nat} : ad7 h a b q g w (vb c) = w c 0 := ad7_v (j := 0) (by decide)
end AD
/-- a cell's place in the list that the constructor leaves -/
def ps7 (k : Nat) : Nat := if k < 14 then k else if k = 14 then 174 else k - 1
theorem ps7_inj {i j : Nat} (hi : i < 175) (hj : j < 175) (e : ps7 i = ps7 j) : i = j := by
  unfold ps7 at e
  repeat' (split at e)
  all_goals omega
/-- with the two arrays of references said by the cells' numbers -/
def l7n (cs : Cs) (h : Nat) (a b : Nat → Nat) (q g : Nat) (w : Nat → Nat → Nat) : va_W := ((l7 cs h a b q g w).set 5 (b 2, .inl (cs.2.2, 4, .inr (.inr (.inr (.inr (fun i => some (ad7 h a b q g w (ob i))))))))).set 13 (q, .inl (cs.2.1, 16, .inr (.inr (.inr (.inr (fun i => some (ad7 h a b q g w (vb i))))))))
theorem l7n_P {D : va_G} {cs : Cs} {X : va_W} {H : Heap} {h : Nat} {a b : Nat → Nat} {q g : Nat} {w : Nat → Nat → Nat} (hP : va_P D vwCl (X ++ l7 cs h a b q g w) H) : va_P D vwCl (X ++ l7n cs h a b q g w) H := by
  unfold l7n
  refine k_fnP 13 (f := fv7 w 16) _ rfl (fun i hi => ?_) (k_fnP 5 (f := fun i => some (b (i + 3))) _ rfl (fun i hi => ?_) hP)
  · rw [ad7_0]
    unfold fv7
    rw [if_pos hi]
  · rcases (show i = 0 ∨ i = 1 ∨ i = 2 ∨ i = 3 by omega) with rfl | rfl | rfl | rfl <;> rfl
theorem l7n_D {A : Nat → Prop} {cs : Cs} {X : va_W} {h : Nat} {a b : Nat → Nat} {q g : Nat} {w : Nat → Nat → Nat} (hD : va_D A (X ++ l7 cs h a b q g w)) : va_D A (X ++ l7n cs h a b q g w) := by
  unfold l7n
  exact k_fnD 13 (f := fv7 w 16) _ rfl (k_fnD 5 (f := fun i => some (b (i + 3))) _ rfl hD)
theorem l7n_form {cs : Cs} {h : Nat} {a b : Nat → Nat} {q g : Nat} {w : Nat → Nat → Nat} : ∃ l0 : va_W, l0.length = 14 ∧ l7n cs h a b q g w = l0 ++ (lv7 cs w 16 ++ [(g, .inl (cs.1, 80, .inl (fun _ => 0)))]) ∧ ∀ k, k < 14 → l0[k]? = some (ad7 h a b q g w k, cellOf cs (ad7 h a b q g w) (LC k) (M0 k)) := by
  refine ⟨((lb7 cs h a b q (.ref g) (fv7 w 16)).set 5 (b 2, .inl (cs.2.2, 4, .inr (.inr (.inr (.inr (fun i => some (ad7 h a b q g w (ob i))))))))).set 13 (q, .inl (cs.2.1, 16, .inr (.inr (.inr (.inr (fun i => some (ad7 h a b q g w (vb i)))))))), rfl, ?_, fun k hk => ?_⟩
  · unfold l7n l7
    rw [List.set_append_left _ _ (by rw [lb7_len]; decide), List.set_append_left _ _ (by rw [List.length_set, lb7_len]; decide)]
  · match k, hk with
    | 0, _ => rfl
    | 1, _ => rfl
    | 2, _ => rfl
    | 3, _ => rfl
    | 4, _ => rfl
    | 5, _ => rfl
    | 6, _ => rfl
    | 7, _ => rfl
    | 8, _ => rfl
    | 9, _ => rfl
    | 10, _ => rfl
    | 11, _ => rfl
    | 12, _ => rfl
    | 13, _ => rfl
    | k + 14, h => exact absurd h (by omega)
theorem l7n_get {cs : Cs} {h : Nat} {a b : Nat → Nat} {q g : Nat} {w : Nat → Nat → Nat} {k : Nat} (hk : k < 175) : (l7n cs h a b q g w)[ps7 k]? = some (ad7 h a b q g w k, cellOf cs (ad7 h a b q g w) (LC k) (M0 k)) := by
  obtain ⟨l0, hl, e, h0⟩ := l7n_form (cs := cs) (h := h) (a := a) (b := b) (q := q) (g := g) (w := w)
  rw [e]
  by_cases h1 : k < 14
  · rw [show ps7 k = k from if_pos h1, List.getElem?_append_left (by omega)]
    exact h0 k h1
  by_cases h2 : k = 14
  · subst h2
    rw [show ps7 14 = 174 from rfl, List.getElem?_append_right (by omega), List.getElem?_append_right (by rw [lv7_len]; omega), lv7_len, hl]
    rfl
  · obtain ⟨c, j, hc, hj, rfl⟩ : ∃ c j, c < 16 ∧ j < 10 ∧ k = vb c + j := ⟨(k - 15) / 10, (k - 15) % 10, by omega, by omega, by unfold vb; omega⟩
    have hp : ps7 (vb c + j) = 14 + (10 * c + j) := by
      unfold ps7 vb
      rw [if_neg (by omega), if_neg (by omega)]
      omega
    rw [hp, List.getElem?_append_right (by omega), hl, Nat.add_sub_cancel_left, List.getElem?_append_left (by rw [lv7_len]; omega), lv7_get hj 16 hc, ad7_v hj, LC_vj c j hj]
    have e1 : ∀ i, i < 10 → ad7 h a b q g w (vb c + i) = w c i := fun i hi => ad7_v hi
    rcases (show j = 0 ∨ j = 1 ∨ j = 2 ∨ j = 3 ∨ j = 4 ∨ j = 5 ∨ j = 6 ∨ j = 7 ∨ j = 8 ∨ j = 9 by omega) with rfl | rfl | rfl | rfl | rfl | rfl | rfl | rfl | rfl | rfl
    · show some (w c 0, (Sum.inr (3, [.ref (w c 1), .ref (w c 2), .int 0, .ref (w c 3), .ref (w c 6)]) : va_E)) = some (w c 0, .inr (3, [.ref (ad7 h a b q g w (vb c + 1)), .ref (ad7 h a b q g w (vb c + 2)), .int 0, .ref (ad7 h a b q g w (vb c + 3)), .ref (ad7 h a b q g w (vb c + 6))]))
      rw [e1 1 (by decide), e1 2 (by decide), e1 3 (by decide), e1 6 (by decide)]
    · rfl
    · rfl
    · show some (w c 3, (Sum.inr (0, [.ref (w c 4), .int 0, .ref (w c 5), .int 0, .int 0]) : va_E)) = some (w c 3, .inr (0, [.ref (ad7 h a b q g w (vb c + 4)), .int 0, .ref (ad7 h a b q g w (vb c + 5)), .int 0, .int 0]))
      rw [e1 4 (by decide), e1 5 (by decide)]
    · rfl
    · rfl
    · show some (w c 6, (Sum.inr (1, [.ref (w c 7), .int 0, .int 0, .ref (w c 8), .ref (w c 9), .int 0]) : va_E)) = some (w c 6, .inr (1, [.ref (ad7 h a b q g w (vb c + 7)), .int 0, .int 0, .ref (ad7 h a b q g w (vb c + 8)), .ref (ad7 h a b q g w (vb c + 9)), .int 0]))
      rw [e1 7 (by decide), e1 8 (by decide), e1 9 (by decide)]
    · rfl
    · rfl
    · rfl
theorem w7_key {cs : Cs} {X : va_W} {h : Nat} {a b : Nat → Nat} {q g : Nat} {w : Nat → Nat → Nat} (k : Nat) (x : Nat × va_E) (hx : (wl cs LC NC (ad7 h a b q g w) M0 ++ X)[k]? = some x) : (X ++ l7n cs h a b q g w)[if k < 175 then X.length + ps7 k else k - 175]? = some x := by
  by_cases h1 : k < 175
  · rw [if_pos h1]
    rw [wl_get X (show k < NC from h1)] at hx
    rw [← hx]
    exact xg (l7n_get h1)
  · rw [if_neg h1]
    rw [List.getElem?_append_right (by rw [wl_len]; unfold NC; omega), wl_len] at hx
    have hl : k - 175 < X.length := (List.getElem?_eq_some_iff.mp hx).1
    rw [List.getElem?_append_left hl]
    exact hx
/-- the class's world, by its cells' numbers -/
theorem w7_P {D : va_G} {cs : Cs} {X : va_W} {H : Heap} {h : Nat} {a b : Nat → Nat} {q g : Nat} {w : Nat → Nat → Nat} (hP : va_P D vwCl (X ++ l7 cs h a b q g w) H) : va_P D vwCl (wl cs LC NC (ad7 h a b q g w) M0 ++ X) H := fun k x hx => l7n_P hP _ x (w7_key k x hx)
theorem w7_D {A : Nat → Prop} {cs : Cs} {X : va_W} {h : Nat} {a b : Nat → Nat} {q g : Nat} {w : Nat → Nat → Nat} (hD : va_D A (X ++ l7 cs h a b q g w)) : va_D A (wl cs LC NC (ad7 h a b q g w) M0 ++ X) := by
  have hD := l7n_D hD
  refine ⟨fun i j x y hi hj e => ?_, fun k x hx => hD.2 _ x (w7_key k x hx)⟩
  have h1 := w7_key i x hi
  have h2 := w7_key j y hj
  have h3 := hD.1 _ _ x y h1 h2 e
  have hl : ∀ (k : Nat) (x : Nat × va_E), (wl cs LC NC (ad7 h a b q g w) M0 ++ X)[k]? = some x → k < 175 + X.length := fun k x hx => by
    have := (List.getElem?_eq_some_iff.mp hx).1
    rw [List.length_append, wl_len] at this
    exact this
  have l1 := hl i x hi
  have l2 := hl j y hj
  by_cases hi9 : i < 175 <;> by_cases hj9 : j < 175
  · rw [if_pos hi9, if_pos hj9] at h3
    exact ps7_inj hi9 hj9 (by omega)
  · rw [if_pos hi9, if_neg hj9] at h3
    omega
  · rw [if_neg hi9, if_pos hj9] at h3
    omega
  · rw [if_neg hi9, if_neg hj9] at h3
    omega
theorem ad7_h {h : Nat} {a b : Nat → Nat} {q g : Nat} {w : Nat → Nat → Nat} : ad7 h a b q g w 0 = h := rfl
