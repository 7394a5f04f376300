/-! RUNS, whole -/
def feeds : List Nat → List Nat → Option (List Nat)
  | s, [] => some s
  | s, t :: ts => (feed t s).bind fun s' => feeds s' ts
theorem feeds_app : ∀ (a : List Nat) (s : List Nat) (t : Nat), feeds s (a ++ [t]) = (feeds s a).bind (feed t)
  | [], s, t => by
    show (feed t s).bind (fun s' => some s') = (some s).bind (feed t)
    cases h : feed t s with
    | none => simp [h]
    | some x => simp [h]
  | x :: a, s, t => by
    show (feed x s).bind (fun s' => feeds s' (a ++ [t])) = ((feed x s).bind fun s' => feeds s' a).bind (feed t)
    cases feed x s with
    | none => rfl
    | some s' => exact feeds_app a s' t
theorem acc_feeds : ∀ (ts s : List Nat), acc s ts = match feeds s ts with
    | some s' => fe s'
    | none => false
  | [], s => rfl
  | t :: ts, s => by
    rw [acc]
    show _ = match (feed t s).bind fun s' => feeds s' ts with
      | some s' => fe s'
      | none => false
    cases feed t s with
    | none => rfl
    | some s' => exact acc_feeds ts s'
/-- the tokens of a variant -/
def tks (cd : Nat → Nat) (c n : Nat) : List Nat := (vl cd c n).map cd
theorem rd_feeds {cd : Nat → Nat} {c : Nat} : ∀ i, rd cd c i = feeds [1] (tks cd c i)
  | 0 => rfl
  | i + 1 => by
    show (if inV cd c i = true then (rd cd c i).bind (feed (cd i)) else rd cd c i) = feeds [1] ((if inV cd c i then vl cd c i ++ [i] else vl cd c i).map cd)
    by_cases a : inV cd c i = true
    · rw [if_pos a, if_pos a, List.map_append, rd_feeds i]
      exact (feeds_app _ _ _).symm
    · rw [if_neg a, if_neg a, rd_feeds i]; rfl
theorem fin_acc {cd : Nat → Nat} {c n : Nat} : fin cd c n = acc [1] (tks cd c n) := by
  rw [acc_feeds, ← rd_feeds]
  rfl
theorem tks_len {cd : Nat → Nat} {c n : Nat} : (tks cd c n).length = (vl cd c n).length := List.length_map ..
/-- what a variant without an error does -/
def res (cd : Nat → Nat) (c n : Nat) : (Nat → Int32) × List Int32 := match xst 402 1 0 true (fun _ => 0) [] (tks cd c n) with
  | some q => (q.1, q.2.1)
  | none => (fun _ => 0, [])
theorem res_ok {cd : Nat → Nat} {c n : Nat} (hn : n ≤ 80) (h : fin cd c n = true) : xst 402 1 0 true (fun _ => 0) [] (tks cd c n) = some ((res cd c n).1, (res cd c n).2, []) ∧ (res cd c n).2.length ≤ 80 := by
  rw [fin_acc] at h
  have hl := vl_len (cd := cd) (c := c) n
  have hl2 := tks_len (cd := cd) (c := c) (n := n)
  obtain ⟨vs, os, r, e1, e2, e3, e4⟩ := (xsK (tks cd c n).length (tks cd c n) (Nat.le_refl _) [] 0 true (fun _ => 0) [] (by omega)).1 h
  have hr : r = [] := by
    cases r with
    | nil => rfl
    | cons t r => rw [acc] at e2; cases e2
  subst hr
  have e5 := e1 402 (by omega)
  have hres : res cd c n = (vs, os) := by unfold res; rw [e5]
  rw [hres]
  refine ⟨e5, ?_⟩
  simp only [List.length_nil] at e4
  show os.length ≤ 80
  omega
theorem At_of {row : Nat → Int32} {cnt : Nat} : ∀ {ts : List Nat} {p : Nat}, (∀ k, k < ts.length → row (p + k) = nI (ts.getD k 0)) → (∀ t, t ∈ ts → t < 126) → p + ts.length = cnt → At row cnt p ts
  | [], p, _, _, h => h
  | t :: r, p, h1, h2, h3 => by
    simp only [List.length_cons] at h3
    refine ⟨h1 0 (Nat.zero_lt_succ _), h2 t List.mem_cons_self, by omega, At_of (fun k hk => ?_) (fun u hu => h2 u (List.mem_cons_of_mem _ hu)) (by omega)⟩
    have := h1 (k + 1) (by simp only [List.length_cons]; omega)
    rw [show p + 1 + k = p + (k + 1) by omega, this]
    rfl
theorem tks_get {cd : Nat → Nat} {c n k : Nat} (h : k < (vl cd c n).length) : nI ((tks cd c n).getD k 0) = (txt cd (vl cd c n)).getD k 0 := by
  rw [txt_get h]
  simp [tks, List.getD, h]
theorem tks_126 {cd : Nat → Nat} {c n : Nat} (hV : Val n cd) : ∀ t, t ∈ tks cd c n → t < 126 := by
  intro t ht
  obtain ⟨i, hi, rfl⟩ := List.mem_map.mp ht
  obtain ⟨k, hk, he⟩ := List.getElem_of_mem hi
  have := vl_get hk
  rw [show (vl cd c n).getD k 0 = i by simp [List.getD, hk, he]] at this
  exact (inV_tok hV this.1 this.2).1
def FRun (cd : Nat → Nat) (n : Nat) (M : Mm) (c : Nat) : Prop := M (vb c + 6) 5 = nI (res cd c n).2.length ∧ RowL (M (vb c + 9)) (res cd c n).2 ∧ ∀ v, v < 4 → M (vb c + 8) v = (res cd c n).1 v
theorem FRun_c {cd : Nat → Nat} {n : Nat} {M M' : Mm} {c : Nat} (h : FRun cd n M c) (e6 : M' (vb c + 6) = M (vb c + 6)) (e8 : M' (vb c + 8) = M (vb c + 8)) (e9 : M' (vb c + 9) = M (vb c + 9)) : FRun cd n M' c := ⟨by rw [e6]; exact h.1, by rw [e9]; exact h.2.1, fun v hv => by rw [e8]; exact h.2.2 v hv⟩
/-- the class runs a text -/
theorem execC {cd : Nat → Nat} {n c : Nat} {M : Mm} (hV : Val n cd) (hA : VarC cd M c (vl cd c n)) (hf : fin cd c n = true) : ∃ M', gX3_execute M c (vb c + 1) 80 (nI (vl cd c n).length) = some M' ∧ FRun cd n M' c ∧ ∀ a, a ≠ vb c + 6 → a ≠ vb c + 7 → a ≠ vb c + 8 → a ≠ vb c + 9 → M' a = M a := by
  have hn := hV.1
  have hl := vl_len (cd := cd) (c := c) n
  obtain ⟨L, hL⟩ : ∃ L, (vl cd c n).length = L := ⟨_, rfl⟩
  rw [hL] at hl ⊢
  have hmin : (if (if (80 : Int32) < (nI 80) then (80 : Int32) else (nI 80)) < nI L then (if (80 : Int32) < (nI 80) then (80 : Int32) else (nI 80)) else nI L) = nI L := by
    rw [if_neg (show ¬ (80 : Int32) < nI 80 by decide), if_neg (nI_nlt (by omega) (by decide))]
  unfold gX3_execute
  rw [hmin, lt_n, lt_n]
  -- the tokens
  have cp : ∀ m i fuel M0, i + m = L → m < fuel → M0 (vb c + 6) 1 = nI L → M0 (vb c + 1) = M (vb c + 1) → (∀ k, k < i → M0 (vb c + 7) k = M (vb c + 1) k) → ∃ M1, (∀ E, gX3_execute_L17 c (vb c + 1) 80 (nI L) E fuel M0 (nI i) = E M1) ∧ (∀ k, k < L → M1 (vb c + 7) k = M (vb c + 1) k) ∧ ∀ a, a ≠ vb c + 7 → M1 a = M0 a := by
    intro m
    induction m with
    | zero =>
      intro i fuel M0 h1 h2 h3 h4 h5
      obtain ⟨k, rfl⟩ : ∃ k, fuel = k + 1 := ⟨fuel - 1, by omega⟩
      obtain rfl : i = L := by omega
      exact ⟨M0, fun E => by rw [gX3_execute_L17, h3, if_pos (nI_le (Nat.le_refl _) (by omega))], h5, fun a _ => rfl⟩
    | succ m ih =>
      intro i fuel M0 h1 h2 h3 h4 h5
      obtain ⟨k, rfl⟩ : ∃ k, fuel = k + 1 := ⟨fuel - 1, by omega⟩
      obtain ⟨M1, e1, e2, e3⟩ := ih (i + 1) k (um M0 (vb c + 7) i (M0 (vb c + 1) i)) (by omega) (by omega) (by rw [um_fn (by omega)]; exact h3) (by rw [um_fn (by omega)]; exact h4) (fun k hk => by
        by_cases e : k = i
        · rw [e, um_hit, h4]
        · rw [um_place e]; exact h5 k (by omega))
      refine ⟨M1, fun E => ?_, e2, fun a ha => (e3 a ha).trans (um_fn ha)⟩
      rw [gX3_execute_L17, h3, if_neg (nI_ge (by omega) (by omega)), ckI (show i < 80 by omega) (by decide), ckI (show i < 80 by omega) (by decide), cI (show i < 2 ^ 31 by omega), lt_n, lt_n, up1, e1]
  obtain ⟨M1, a1, a2, a3⟩ := cp L 0 FU (um M (vb c + 6) 1 (nI L)) (by omega) (by unfold FU; omega) um_hit (um_fn (by omega)) (fun k hk => absurd hk (Nat.not_lt_zero _))
  rw [show nI 0 = (0 : Int32) from rfl] at a1
  rw [a1, lt_n, lt_n, lt_n]
  -- the variables
  have vr : ∀ m i fuel M0, i + m = 4 → m < fuel → (∀ v, v < i → M0 (vb c + 8) v = 0) → ∃ M2, (∀ E, gX3_execute_L52 c (vb c + 1) 80 (nI L) E fuel M0 (nI i) = E M2) ∧ (∀ v, v < 4 → M2 (vb c + 8) v = 0) ∧ ∀ a, a ≠ vb c + 8 → M2 a = M0 a := by
    intro m
    induction m with
    | zero =>
      intro i fuel M0 h1 h2 h3
      obtain ⟨k, rfl⟩ : ∃ k, fuel = k + 1 := ⟨fuel - 1, by omega⟩
      obtain rfl : i = 4 := by omega
      exact ⟨M0, fun E => by rw [gX3_execute_L52, if_pos (by decide)], h3, fun a _ => rfl⟩
    | succ m ih =>
      intro i fuel M0 h1 h2 h3
      obtain ⟨k, rfl⟩ : ∃ k, fuel = k + 1 := ⟨fuel - 1, by omega⟩
      obtain ⟨M2, e1, e2, e3⟩ := ih (i + 1) k (um M0 (vb c + 8) i 0) (by omega) (by omega) (fun v hv => by
        by_cases e : v = i
        · rw [e, um_hit]
        · rw [um_place e]; exact h3 v (by omega))
      refine ⟨M2, fun E => ?_, e2, fun a ha => (e3 a ha).trans (um_fn ha)⟩
      rw [gX3_execute_L52, if_neg (show ¬ (4 : Int32) ≤ nI i from nI_ge (b := 4) (by omega) (by decide)), ckI (show i < 4 by omega) (by decide), cI (show i < 2 ^ 31 by omega), lt_n, lt_n, up1, e1]
  obtain ⟨M2, b1, b2, b3⟩ := vr 4 0 FU (um (um M1 (vb c + 6) 2 0) (vb c + 6) 5 0) (by omega) (by unfold FU; omega) (fun v hv => absurd hv (Nat.not_lt_zero _))
  rw [show nI 0 = (0 : Int32) from rfl] at b1
  rw [b1]
  obtain ⟨r1, r2⟩ := res_ok hn hf
  have g7 : M2 (vb c + 7) = M1 (vb c + 7) := by rw [b3 _ (by omega), um_fn (by omega), um_fn (by omega)]
  have S : StC c L (M2 (vb c + 7)) M2 M2 0 (fun _ => 0) [] := by
    refine ⟨?_, ?_, ?_, fun k hk => absurd hk (Nat.not_lt_zero _), b2, rfl, fun _ _ _ _ => rfl⟩
    · rw [b3 _ (by omega), um_place (by decide), um_place (by decide), a3 _ (by omega), um_hit]
    · rw [b3 _ (by omega), um_place (by decide), um_hit]; rfl
    · rw [b3 _ (by omega), um_hit]; rfl
  have hAt : At (M2 (vb c + 7)) L 0 (tks cd c n) := by
    refine At_of (fun k hk => ?_) (tks_126 hV) (by rw [tks_len, hL, Nat.zero_add])
    rw [tks_len] at hk
    rw [Nat.zero_add, g7, a2 k (by omega), hA.2.1 k (by rw [txt_len]; exact hk), tks_get hk]
  obtain ⟨M3, p3, A3, S3, i1, -, -⟩ := cX (c := c) (cnt := L) (row := M2 (vb c + 7)) (B := M2) (by omega) 402 1 0 true (fun _ => 0) (res cd c n).1 [] (res cd c n).2 (tks cd c n) [] M2 0 r1 hAt S (by decide) (by rw [tks_len, hL]; simp; omega)
  have e5 := i1 rfl 399 FU 0 (by rw [tks_len, hL]; omega) (by rw [tks_len, hL]; omega) (by rw [tks_len, hL]; unfold FU; omega)
  refine ⟨M3, ?_, ⟨S3.2.2.1, S3.2.2.2.1, S3.2.2.2.2.1⟩, fun a h6 h7 h8 h9 => ?_⟩
  · rw [show (400 : Nat) = 399 + 1 from rfl, gcr0]
    unfold gX3_runStatements
    rw [show nI 0 = (0 : Int32) from rfl, show bI true = (1 : Int32) from rfl] at e5
    rw [e5, bd_some, bd2_some]
  · rw [S3.2.2.2.2.2.2 a h6 h8 h9, b3 a h8, um_fn h6, um_fn h6, a3 a h7, um_fn h6]
theorem runAllC {cd : Nat → Nat} {n : Nat} {M : Mm} (hV : Val n cd) (hA : ∀ c, c < 16 → VarC cd M c (vl cd c n)) (hR : ∀ c, c < 16 → M (vb c + 3) 4 = eI cd c n) : ∃ M', gX7_runAll M = some M' ∧ (∀ a, (∀ b, b < 16 → a ≠ vb b + 6 ∧ a ≠ vb b + 7 ∧ a ≠ vb b + 8 ∧ a ≠ vb b + 9) → M' a = M a) ∧ ∀ c, c < 16 → fin cd c n = true → FRun cd n M' c := by
  have hn := hV.1
  have main : ∃ s' : Mm, (∀ e : Unit, gX7_runAll_L2 FU M (nI 0) = some s') ∧ (∀ a, (∀ b, b < 16 → a ≠ vb b + 6 ∧ a ≠ vb b + 7 ∧ a ≠ vb b + 8 ∧ a ≠ vb b + 9) → s' a = M a) ∧ ∀ c, c < 16 → (fin cd c n = true → FRun cd n s' c) := by
    refine cfg_loop (ε := Unit) (L := fun _ k s x => gX7_runAll_L2 k s x) (F := fun _ s => some s) (m := 16) (fun _ _ => True) (fun s c => fin cd c n = true → FRun cd n s c) (fun s => ∀ a, (∀ b, b < 16 → a ≠ vb b + 6 ∧ a ≠ vb b + 7 ∧ a ≠ vb b + 8 ∧ a ≠ vb b + 9) → s a = M a) (fun c s hc hF _ _ => ?_) (fun E k s _ => ?_) (by unfold FU; omega) (fun _ _ => rfl) (fun _ _ => trivial)
    · have f0 : s (vb c) = M (vb c) := hF _ (fun b _ => by unfold vb; omega)
      have f1 : s (vb c + 1) = M (vb c + 1) := hF _ (fun b _ => by unfold vb; omega)
      have f2 : s (vb c + 2) = M (vb c + 2) := hF _ (fun b _ => by unfold vb; omega)
      have f3 : s (vb c + 3) = M (vb c + 3) := hF _ (fun b _ => by unfold vb; omega)
      have hA' : VarC cd s c (vl cd c n) := VarC_c (hA c hc) (by rw [f0]) f1 f2
      have he : s (vb c + 3) 4 = eI cd c n := by rw [f3]; exact hR c hc
      have z := eI_m (cd := cd) (c := c) hn
      by_cases hf : fin cd c n = true
      · obtain ⟨M1, e1, e2, e3⟩ := execC hV hA' hf
        refine ⟨M1, fun _ k => ?_, fun _ => e2, fun a ha => (e3 a (ha c hc).1 (ha c hc).2.1 (ha c hc).2.2.1 (ha c hc).2.2.2).trans (hF a ha), fun b hb hne => ⟨id, fun h w => FRun_c (h w) (e3 _ (by unfold vb; omega) (by unfold vb; omega) (by unfold vb; omega) (by unfold vb; omega)) (e3 _ (by unfold vb; omega) (by unfold vb; omega) (by unfold vb; omega) (by unfold vb; omega)) (e3 _ (by unfold vb; omega) (by unfold vb; omega) (by unfold vb; omega) (by unfold vb; omega))⟩⟩
        show gX7_runAll_L2 (k + 1) s (nI c) = _
        rw [gX7_runAll_L2, if_neg (show ¬ (16 : Int32) ≤ nI c from nI_ge (b := 16) hc (by decide)), ckI hc (by decide), cI (show c < 2 ^ 31 by omega), lt_n, he, if_pos (z.mpr hf), ckJ hc (by decide), lt_n, ckJ hc (by decide), lt_n, ckJ hc (by decide), lt_n, hA'.1, e1, bd_some, lt_n, up1]
      · refine ⟨s, fun _ k => ?_, fun w => absurd w hf, hF, fun b hb hne => ⟨id, id⟩⟩
        show gX7_runAll_L2 (k + 1) s (nI c) = _
        rw [gX7_runAll_L2, if_neg (show ¬ (16 : Int32) ≤ nI c from nI_ge (b := 16) hc (by decide)), ckI hc (by decide), cI (show c < 2 ^ 31 by omega), lt_n, he, if_neg (fun w => hf (z.mp w)), lt_n, up1]
    · show gX7_runAll_L2 (k + 1) s (nI 16) = some s
      rw [gX7_runAll_L2, if_pos (by decide)]
  obtain ⟨M', e, r⟩ := main
  exact ⟨M', e (), r⟩
/-- what the class has found out, once it is fresh -/
def Fs (n : Nat) (cd : Nat → Nat) (M : Mm) : Prop := (∀ j, j < n → M 4 j = pres cd j ∧ ∀ f, f < 4 → M (6 + f) j = onA cd f j) ∧ (∀ c, c < 16 → VarC cd M c (vl cd c n)) ∧ (st cd n = some [] → (∀ c, c < 16 → FRd cd n M c) ∧ (∀ j, j < n → M 14 j = gr cd j) ∧ ∀ c, c < 16 → fin cd c n = true → FRun cd n M c)
theorem freshC {M : Mm} {n : Nat} {cd : Nat → Nat} (hC : SrcC M n cd) (hV : Val n cd) (hF : M 0 4 = 0 ∨ Fs n cd M) : ∃ M', gX7_refresh M = some M' ∧ SrcC M' n cd ∧ Fs n cd M' := by
  have hn := hV.1
  unfold gX7_refresh
  by_cases z : M 0 4 = 0
  · obtain ⟨M1, a1, a2, a3⟩ := goC hC hV
    have C1 : SrcC M1 n cd := ⟨by rw [a3 1 (by omega)]; exact hC.1, fun i hi => by rw [a3 2 (by omega)]; exact hC.2 i hi⟩
    obtain ⟨M2, b1, b2, b3⟩ := colC hV C1 (fun j hj => (a2 j hj).1)
    have lo2 : ∀ a, a < 15 → M2 a = M1 a := fun a ha => b3 a (fun b _ => by unfold vb; omega)
    have C2 : SrcC M2 n cd := ⟨by rw [lo2 1 (by decide)]; exact C1.1, fun i hi => by rw [lo2 2 (by decide)]; exact C1.2 i hi⟩
    have P2 : ∀ j, j < n → M2 4 j = pres cd j ∧ ∀ f, f < 4 → M2 (6 + f) j = onA cd f j := fun j hj => ⟨by rw [lo2 4 (by decide)]; exact (a2 j hj).1, fun f hf => by rw [lo2 (6 + f) (by omega)]; exact (a2 j hj).2 f hf⟩
    obtain ⟨l, hl⟩ := hV.2.2
    have h5 := st_len hl
    rw [if_pos z, a1, bd_some, b1, bd_some, cntC C2 hV hl, bd_some]
    by_cases w : l = []
    · subst w
      rw [if_pos (show nI ([] : List (Nat × Bool)).length = 0 from rfl)]
      obtain ⟨M3, c1, c2, c3, c4⟩ := readAllC hV C2 (fun j hj => (P2 j hj).1)
      have hv3 : ∀ c, c < 16 → VarC cd M3 c (vl cd c n) := fun c hc => VarC_c (b2 c hc) (by rw [c2 (vb c) (by unfold vb; omega) (fun b _ => by unfold vb; omega)]) (c2 (vb c + 1) (by unfold vb; omega) (fun b _ => by unfold vb; omega)) (c2 (vb c + 2) (by unfold vb; omega) (fun b _ => by unfold vb; omega))
      obtain ⟨M4, d1, d2, d3⟩ := runAllC hV hv3 (fun c hc => (c3 c hc).1)
      have lo4 : ∀ a, a < 15 → M4 a = M3 a := fun a ha => d2 a (fun b _ => by unfold vb; omega)
      have k4 : ∀ a, a < 14 → M4 a = M2 a := fun a ha => (lo4 a (by omega)).trans (c2.lo ha)
      have u : ∀ a, a ≠ 0 → um M4 0 4 1 a = M4 a := fun a ha => um_fn ha
      refine ⟨um M4 0 4 1, ?_, ⟨by rw [u 1 (by decide), k4 1 (by decide)]; exact C2.1, fun i hi => by rw [u 2 (by decide), k4 2 (by decide)]; exact C2.2 i hi⟩, fun j hj => ⟨by rw [u 4 (by decide), k4 4 (by decide)]; exact (P2 j hj).1, fun f hf => by rw [u (6 + f) (by omega), k4 (6 + f) (by omega)]; exact (P2 j hj).2 f hf⟩, fun c hc => ?_, fun _ => ⟨fun c hc => ?_, fun j hj => ?_, fun c hc w => ?_⟩⟩
      · rw [c1, bd_some, d1, bd_some, lt_n]
      · have g : ∀ i, i < 3 → um M4 0 4 1 (vb c + i) = M3 (vb c + i) := fun i hi => (u _ (by unfold vb; omega)).trans (d2 _ (fun b _ => by unfold vb; omega))
        exact VarC_c (hv3 c hc) (by have := g 0 (by decide); rw [Nat.add_zero] at this; rw [this]) (g 1 (by decide)) (g 2 (by decide))
      · have g : ∀ i, 3 ≤ i → i < 6 → um M4 0 4 1 (vb c + i) = M3 (vb c + i) := fun i hi hi2 => (u _ (by unfold vb; omega)).trans (d2 _ (fun b _ => by unfold vb; omega))
        exact FRd_c (c3 c hc) (g 3 (by decide) (by decide)) (g 5 (by decide) (by decide))
      · rw [u 14 (by decide), lo4 14 (by decide)]; exact c4 j hj
      · exact FRun_c (d3 c hc w) (u _ (by unfold vb; omega)) (u _ (by unfold vb; omega)) (u _ (by unfold vb; omega))
    · have hne : ¬ nI l.length = 0 := fun e => w (List.length_eq_zero_iff.mp ((nI_z (by omega)).mp e))
      have u : ∀ a, a ≠ 0 → um M2 0 4 1 a = M2 a := fun a ha => um_fn ha
      refine ⟨um M2 0 4 1, by rw [if_neg hne, lt_n], ⟨by rw [u 1 (by decide)]; exact C2.1, fun i hi => by rw [u 2 (by decide)]; exact C2.2 i hi⟩, fun j hj => ⟨by rw [u 4 (by decide)]; exact (P2 j hj).1, fun f hf => by rw [u (6 + f) (by omega)]; exact (P2 j hj).2 f hf⟩, fun c hc => VarC_c (b2 c hc) (by rw [u _ (by unfold vb; omega)]) (u _ (by unfold vb; omega)) (u _ (by unfold vb; omega)), fun e => ?_⟩
      rw [hl] at e
      exact absurd (Option.some.inj e) w
  · exact ⟨M, if_neg z, hC, hF.resolve_left z⟩

