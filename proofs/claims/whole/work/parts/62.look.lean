/-! the model's look: its outer loop -/
theorem lookR (u v w : Nat → Int32) (x y : Int32) {i : Nat} (hi : i < 80) : ∀ (m f fuel : Nat) (M : Mm), f + m = 4 → m < fuel → ∃ M', (∀ E, gX8_look_L78 E fuel M u v w x y (nI i) (nI f) = E M' u v w x y (nI i)) ∧ (∀ g, f ≤ g → g < 4 → M' 3 (4 * i + g) = u g) ∧ (∀ j, (∀ g, f ≤ g → g < 4 → j ≠ 4 * i + g) → M' 3 j = M 3 j) ∧ ∀ a, a ≠ 3 → M' a = M a
  | 0, f, fuel, M, h, hf => by
    obtain ⟨k, rfl⟩ : ∃ k, fuel = k + 1 := ⟨fuel - 1, by omega⟩
    obtain rfl : f = 4 := by omega
    exact ⟨M, fun E => by rw [gX8_look_L78, if_pos (by decide)], fun g h1 h2 => by omega, fun j _ => rfl, fun a _ => rfl⟩
  | m + 1, f, fuel, M, h, hf => by
    obtain ⟨k, rfl⟩ : ∃ k, fuel = k + 1 := ⟨fuel - 1, by omega⟩
    obtain ⟨M', e1, e2, e3, e4⟩ := lookR u v w x y hi m (f + 1) k (um M 3 (4 * i + f) (u f)) (by omega) (by omega)
    refine ⟨M', fun E => ?_, fun g h1 h2 => ?_, fun j hj => ?_, fun a ha => (e4 a ha).trans (um_fn ha)⟩
    · rw [gX8_look_L78]
      simp (disch := omega) only [↓lt_n, ↓reduceIte, q0, q1, q2, q4, q5, q8, q16, q17, q80, qm, s_cl, s_le, s_lt, s_eq, s_add, s_sub, s_leT, s_leF, s_ltT, s_ltF, s_eqT, s_eqF, or_false, or_self, not_f, not_t, s_mul]
      exact e1 E
    · by_cases gf : g = f
      · rw [gf, e3 _ (fun g' h3 h4 => by omega), um_hit]
      · exact e2 g (by omega) h2
    · rw [e3 j (fun g h3 h4 => hj g (by omega) h4), um_place (hj f (Nat.le_refl _) (by omega))]
def StkM (g h : Nat → Int32) : List (Int32 × Int32) → Prop
  | [] => True
  | x :: r => g r.length = x.1 ∧ g r.length &&& (h r.length ^^^ mI) = x.2 ∧ StkM g h r
theorem StkM_c {g h g' h' : Nat → Int32} : ∀ {l : List (Int32 × Int32)}, StkM g h l → (∀ j, j < l.length → g' j = g j ∧ h' j = h j) → StkM g' h' l
  | [], _, _ => trivial
  | x :: r, ⟨h1, h2, h3⟩, e => by
    obtain ⟨e1, e2⟩ := e r.length (Nat.lt_succ_self _)
    exact ⟨e1.trans h1, by rw [e1, e2]; exact h2, StkM_c h3 (fun j hj => e j (Nat.lt_succ_of_lt hj))⟩
theorem lookS {n i k : Nat} {cd : Nat → Nat} (hV : Val n cd) (hi : i < n) {N N1 : Mm} {f g h : Nat → Int32} {x y : Int32} (hM : SrcM N n cd) (hF : ∀ k, k < 4 → f k = (ws cd i).1 k) (hS : StkM g h (ws cd i).2.2) (hx : x = (ws cd i).2.1) (hy : y = nI (ws cd i).2.2.length) (a1 : ∀ E, gX8_look_L78 E FU N f g h x y (nI i) (nI 0) = E N1 f g h x y (nI i)) (b2 : N1 1 = N 1) {R : Option Mm → Prop} (key : ∀ (N2 : Mm) (f' g' h' : Nat → Int32) (x' y' : Int32), N2 = um N1 2 i (pres cd i) → (∀ k, k < 4 → f' k = (ws cd (i + 1)).1 k) → StkM g' h' (ws cd (i + 1)).2.2 → x' = (ws cd (i + 1)).2.1 → y' = nI (ws cd (i + 1)).2.2.length → R (gX8_look_L66 k N2 f' g' h' x' y' (nI (i + 1)))) : R (gX8_look_L66 (k + 1) N f g h x y (nI i)) := by
  have hn := hV.1
  obtain ⟨ln, hln⟩ := hV.2.2
  obtain ⟨l, hl⟩ := st_le hln i (by omega)
  obtain ⟨l', hl'⟩ := st_le hln (i + 1) (by omega)
  have hs := (st_s hl).symm.trans hl'
  have hc := (hV.2.1 i hi).2
  have hlen := ws_len hl
  have hlen' := ws_len hl'
  have h5 := st_len hl
  have h5' := st_len hl'
  have hci : N1 1 i = nI (cd i) := by rw [b2]; exact hM.2 i hi
  have hw : ws cd (i + 1) = wstep (cd i) (ws cd i) := rfl
  rw [gX8_look_L66, hM.1, if_neg (nI_ge hi (by omega)), lt_s9]
  rw [show nI 0 = (0 : Int32) from rfl] at a1
  rw [a1]
  by_cases c16 : cd i = 16
  · rw [c16] at hs hci
    obtain ⟨p, r, rfl, -⟩ := stp_oth hs
    obtain ⟨z, t, hz⟩ : ∃ z t, (ws cd i).2.2 = z :: t := by
      cases h : (ws cd i).2.2 with
      | nil => rw [h] at hlen; simp at hlen
      | cons z t => exact ⟨z, t, rfl⟩
    rw [hz] at hS hlen
    rw [hy, hz]
    have ht : t.length < 5 := by simp at hlen h5; omega
    simp (disch := omega) only [List.length_cons, ↓lt_n, ↓reduceIte, q0, q1, q2, q4, q5, q8, q16, q17, q80, qm, s_cl, s_le, s_lt, s_eq, s_add, s_sub, s_leT, s_leF, s_ltT, s_ltF, s_eqT, s_eqF, or_false, or_self, not_f, not_t, hci, um_c, Nat.add_sub_cancel]
    refine key _ _ _ _ _ _ (by rw [hS.1]; congr 1; unfold pres; rw [if_pos (Or.inl c16), hz]; rfl) ?_ ?_ ?_ ?_
    · rw [hw, c16]; exact hF
    · rw [hw, c16]
      show StkM g h (ws cd i).2.2
      rw [hz]; exact hS
    · rw [hw, c16, hS.2.1]
      show _ = ((ws cd i).2.2.headD (0, 0)).2
      rw [hz]; rfl
    · rw [hw, c16]
      show _ = nI (ws cd i).2.2.length
      rw [hz]; rfl
  by_cases c17 : cd i = 17
  · rw [c17] at hs hci
    obtain ⟨q, rfl⟩ := stp_done hs
    obtain ⟨z, t, hz⟩ : ∃ z t, (ws cd i).2.2 = z :: t := by
      cases h : (ws cd i).2.2 with
      | nil => rw [h] at hlen; simp at hlen
      | cons z t => exact ⟨z, t, rfl⟩
    rw [hz] at hS hlen
    rw [hy, hz]
    have ht : t.length < 5 := by simp at hlen h5; omega
    simp (disch := omega) only [List.length_cons, ↓lt_n, ↓reduceIte, q0, q1, q2, q4, q5, q8, q16, q17, q80, qm, s_cl, s_le, s_lt, s_eq, s_add, s_sub, s_leT, s_leF, s_ltT, s_ltF, s_eqT, s_eqF, or_false, or_self, not_f, not_t, hci, um_c, Nat.add_sub_cancel, s_dn]
    refine key _ _ _ _ _ _ (by rw [hS.1]; congr 1; unfold pres; rw [if_pos (Or.inr c17), hz]; rfl) ?_ ?_ ?_ ?_
    · rw [hw, c17]; exact hF
    · rw [hw, c17]
      show StkM g h (ws cd i).2.2.tail
      rw [hz]; exact hS.2.2
    · rw [hw, c17, hS.1]
      show _ = ((ws cd i).2.2.headD (0, 0)).1
      rw [hz]; rfl
    · rw [hw, c17]
      show _ = nI (ws cd i).2.2.tail.length
      rw [hz]; rfl
  have hp : pres cd i = x := by unfold pres; rw [if_neg (by omega), hx]
  by_cases c8 : cd i < 8
  · obtain ⟨l5, -⟩ := stp_when c8 hs
    rw [← hlen] at l5
    obtain ⟨d, hd⟩ : ∃ d, (ws cd i).2.2.length = d := ⟨_, rfl⟩
    rw [hd] at l5 hy
    rw [hy]
    have hdiv : cd i / 2 < 4 := by omega
    have hmod : cd i - cd i / 2 * 2 = cd i % 2 := by omega
    have hk8 : cd i % 8 / 2 = cd i / 2 := by omega
    have hfk := hF (cd i / 2) hdiv
    have hw8 : ws cd (i + 1) = ((ws cd i).1, (ws cd i).2.1 &&& chz (cd i) (ws cd i).1, ((ws cd i).2.1, (ws cd i).2.1 &&& (chz (cd i) (ws cd i).1 ^^^ (-1 : Int32))) :: (ws cd i).2.2) := by
      rw [hw]; unfold wstep; rw [if_pos c8]
    have fin : ∀ xx : Int32, xx = x &&& chz (cd i) (ws cd i).1 → R (gX8_look_L66 k (um N1 2 i x) f (upd g d x) (upd h d xx) xx (nI (d + 1)) (nI (i + 1))) := by
      intro xx hxx
      refine key _ _ _ _ _ _ (by rw [hp]) ?_ ?_ ?_ ?_
      · rw [hw8]; exact hF
      · rw [hw8]
        refine ⟨?_, ?_, StkM_c hS (fun j hj => ⟨if_neg (by omega), if_neg (by omega)⟩)⟩
        · rw [hd]; show upd g d x d = _; unfold upd; rw [if_pos rfl, hx]
        · rw [hd]; show upd g d x d &&& (upd h d xx d ^^^ mI) = _; unfold upd; rw [if_pos rfl, if_pos rfl, hxx, hx]; exact and_stay _ _
      · rw [hw8, hxx, hx]
      · rw [hw8, ← hd]; rfl
    have hch : chz (cd i) (ws cd i).1 = if cd i % 2 = 1 then f (cd i / 2) else f (cd i / 2) ^^^ (-1 : Int32) := by unfold chz; rw [hk8, hfk]
    by_cases o : cd i % 2 = 1
    · rw [if_pos o] at hch
      simp (disch := omega) only [↓lt_n, ↓reduceIte, q0, q1, q2, q4, q5, q8, q16, q17, q80, qm, s_cl, s_le, s_lt, s_eq, s_add, s_sub, s_leT, s_leF, s_ltT, s_ltF, s_eqT, s_eqF, or_false, or_self, not_f, not_t, hci, um_c, s_div2, s_mul, hmod]
      exact fin _ (by rw [hch])
    · rw [if_neg o] at hch
      simp (disch := omega) only [↓lt_n, ↓reduceIte, q0, q1, q2, q4, q5, q8, q16, q17, q80, qm, s_cl, s_le, s_lt, s_eq, s_add, s_sub, s_leT, s_leF, s_ltT, s_ltF, s_eqT, s_eqF, or_false, or_self, not_f, not_t, hci, um_c, s_div2, s_mul, hmod]
      exact fin _ (by rw [hch]; rfl)
  by_cases c9 : cd i < 16
  · have hdiv : (cd i - 8) / 2 < 4 := by omega
    have hmod : cd i - cd i / 2 * 2 = cd i % 2 := by omega
    have hk8 : cd i % 8 / 2 = (cd i - 8) / 2 := by omega
    have hw8 : ws cd (i + 1) = (upd (ws cd i).1 (cd i % 8 / 2) (if cd i % 2 = 1 then (ws cd i).1 (cd i % 8 / 2) ||| (ws cd i).2.1 else (ws cd i).1 (cd i % 8 / 2) &&& ((ws cd i).2.1 ^^^ (-1 : Int32))), (ws cd i).2.1, (ws cd i).2.2) := by
      rw [hw]; unfold wstep; rw [if_neg c8, if_pos c9]
    have hfk := hF ((cd i - 8) / 2) hdiv
    have fin : ∀ v : Int32, v = (if cd i % 2 = 1 then f ((cd i - 8) / 2) ||| x else f ((cd i - 8) / 2) &&& (x ^^^ (-1 : Int32))) → R (gX8_look_L66 k (um N1 2 i x) (upd f ((cd i - 8) / 2) v) g h x y (nI (i + 1))) := by
      intro v hv
      refine key _ _ _ _ _ _ (by rw [hp]) ?_ ?_ ?_ ?_
      · rw [hw8]
        intro q hq
        show upd f _ v q = upd (ws cd i).1 _ _ q
        unfold upd
        rw [hk8]
        by_cases e : q = (cd i - 8) / 2
        · rw [if_pos e, if_pos e, hv, hfk, hx]
        · rw [if_neg e, if_neg e]; exact hF q hq
      · rw [hw8]; exact hS
      · rw [hw8]; exact hx
      · rw [hw8]; exact hy
    by_cases o : cd i % 2 = 1
    · simp (disch := omega) only [↓lt_n, ↓reduceIte, q0, q1, q2, q4, q5, q8, q16, q17, q80, qm, s_cl, s_le, s_lt, s_eq, s_add, s_sub, s_leT, s_leF, s_ltT, s_ltF, s_eqT, s_eqF, or_false, or_self, not_f, not_t, hci, um_c, s_div2, s_mul, hmod]
      exact fin _ (by rw [if_pos o])
    · simp (disch := omega) only [↓lt_n, ↓reduceIte, q0, q1, q2, q4, q5, q8, q16, q17, q80, qm, s_cl, s_le, s_lt, s_eq, s_add, s_sub, s_leT, s_leF, s_ltT, s_ltF, s_eqT, s_eqF, or_false, or_self, not_f, not_t, hci, um_c, s_div2, s_mul, hmod]
      exact fin _ (by rw [if_neg o]; rfl)
  · have hws : wstep (cd i) (ws cd i) = ws cd i := by unfold wstep; rw [if_neg c8, if_neg c9, if_neg c16, if_neg c17]
    simp (disch := omega) only [↓lt_n, ↓reduceIte, q0, q1, q2, q4, q5, q8, q16, q17, q80, qm, s_cl, s_le, s_lt, s_eq, s_add, s_sub, s_leT, s_leF, s_ltT, s_ltF, s_eqT, s_eqF, or_false, or_self, not_f, not_t, hci, um_c]
    exact key _ _ _ _ _ _ (by rw [hp]) (by rw [hw, hws]; exact hF) (by rw [hw, hws]; exact hS) (by rw [hw, hws]; exact hx) (by rw [hw, hws]; exact hy)
theorem lookL {n : Nat} {cd : Nat → Nat} (hV : Val n cd) : ∀ (m i fuel : Nat) (N : Mm) (f g h : Nat → Int32) (x y : Int32), i + m = n → m < fuel → SrcM N n cd → (∀ k, k < 4 → f k = (ws cd i).1 k) → StkM g h (ws cd i).2.2 → x = (ws cd i).2.1 → y = nI (ws cd i).2.2.length → ∃ N', gX8_look_L66 fuel N f g h x y (nI i) = some N' ∧ (∀ j, i ≤ j → j < n → N' 2 j = pres cd j ∧ ∀ k, k < 4 → N' 3 (4 * j + k) = onA cd k j) ∧ (∀ j, j < i → N' 2 j = N 2 j ∧ ∀ k, k < 4 → N' 3 (4 * j + k) = N 3 (4 * j + k)) ∧ ∀ a, a ≠ 2 → a ≠ 3 → N' a = N a := by
  intro m
  induction m with
  | zero =>
    intro i fuel N f g h x y hin hf hM hF hS hx hy
    obtain ⟨k, rfl⟩ : ∃ k, fuel = k + 1 := ⟨fuel - 1, by omega⟩
    obtain rfl : i = n := by omega
    exact ⟨N, by rw [gX8_look_L66, hM.1, if_pos (nI_le (Nat.le_refl _) (by have := hV.1; omega))], fun j h1 h2 => by omega, fun j _ => ⟨rfl, fun f _ => rfl⟩, fun a _ _ => rfl⟩
  | succ m ih =>
    intro i fuel N f g h x y hin hf hM hF hS hx hy
    obtain ⟨k, rfl⟩ : ∃ k, fuel = k + 1 := ⟨fuel - 1, by omega⟩
    have hn := hV.1
    have hi : i < n := by omega
    obtain ⟨N1, a1, a2, a3, a4⟩ := lookR f g h x y (i := i) (by omega) 4 0 FU N (by decide) (by decide)
    have b1 : N1 0 = N 0 := a4 0 (by decide)
    have b2 : N1 1 = N 1 := a4 1 (by decide)
    refine lookS (R := fun o => ∃ N', o = some N' ∧ (∀ j, i ≤ j → j < n → N' 2 j = pres cd j ∧ ∀ k, k < 4 → N' 3 (4 * j + k) = onA cd k j) ∧ (∀ j, j < i → N' 2 j = N 2 j ∧ ∀ k, k < 4 → N' 3 (4 * j + k) = N 3 (4 * j + k)) ∧ ∀ a, a ≠ 2 → a ≠ 3 → N' a = N a) hV hi hM hF hS hx hy a1 b2 ?_
    intro N2 f' g' h' x' y' e2 hF' hS' hx' hy'
    subst e2
    obtain ⟨N3, c1, c2, c3, c4⟩ := ih (i + 1) k (um N1 2 i (pres cd i)) f' g' h' x' y' (by omega) (by omega) ⟨by rw [um_fn (by decide), b1]; exact hM.1, fun j hj => by rw [um_fn (by decide), b2]; exact hM.2 j hj⟩ hF' hS' hx' hy'
    refine ⟨N3, c1, fun j h1 h2 => ?_, fun j h1 => ?_, fun a h2 h3 => ?_⟩
    · by_cases ji : j = i
      · subst ji
        obtain ⟨d1, d2⟩ := c3 j (by omega)
        refine ⟨by rw [d1, um_hit], fun k hk => ?_⟩
        rw [d2 k hk, um_fn (by decide), a2 k (Nat.zero_le _) hk]
        exact hF k hk
      · exact c2 j (by omega) h2
    · obtain ⟨d1, d2⟩ := c3 j (by omega)
      refine ⟨by rw [d1, um_place (by omega), a4 2 (by decide)], fun k hk => ?_⟩
      rw [d2 k hk, um_fn (by decide), a3 _ (fun g h3 h4 => by omega)]
    · rw [c4 a h2 h3, um_fn h2, a4 a h3]
theorem lookM {N : Mm} {n : Nat} {cd : Nat → Nat} (hM : SrcM N n cd) (hV : Val n cd) : ∃ N', gX8_look N = some N' ∧ (∀ j, j < n → N' 2 j = pres cd j ∧ ∀ k, k < 4 → N' 3 (4 * j + k) = onA cd k j) ∧ ∀ a, a ≠ 2 → a ≠ 3 → N' a = N a := by
  have hn := hV.1
  unfold gX8_look
  rw [lt_s9]
  obtain ⟨f, e1, e2⟩ := look_on (fun (M2 : Mm) (f3 : Nat → Int32) => gX8_look_L66 FU M2 f3 (fun _ => 0) (fun _ => 0) (65535 : Int32) (0 : Int32) (0 : Int32)) N
  rw [e1]
  obtain ⟨N', c1, c2, -, c4⟩ := lookL hV n 0 FU N f (fun _ => 0) (fun _ => 0) 65535 0 (by omega) (by unfold FU; omega) hM e2 trivial rfl rfl
  exact ⟨N', c1, fun j hj => c2 j (Nat.zero_le _) hj, c4⟩
