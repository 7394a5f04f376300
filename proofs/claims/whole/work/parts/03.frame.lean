/-! THE FRAME: both systems hold ints alone in fields and arrays that change; what refers stays as the constructors laid it. So a state is a memory M : cell number -> place -> int, over a fixed layout L of cells. -/
abbrev Mm : Type := Nat → Nat → Int32
/-- a named value -/
def lt {α β : Type} (a : α) (f : α → β) : β := f a
theorem lt_e {α β : Type} {a : α} {f : α → β} {r : β} (h : lt a f = r) : ∃ x, x = a ∧ f x = r := ⟨a, rfl, h⟩
/-- a place of a cell written -/
def um (M : Mm) (k j : Nat) (v : Int32) : Mm := fun a => if a = k then upd (M k) j v else M a
theorem um_s (M : Mm) (k j : Nat) (v : Int32) : um M k j v k = upd (M k) j v := if_pos rfl
theorem um_n (M : Mm) {k a : Nat} (j : Nat) (v : Int32) (h : a ≠ k) : um M k j v a = M a := if_neg h
/-- a layout: an int array of a length; an object of a class, each field a cell or an int; an array of references, which cell at each place -/
abbrev Sh : Type := Nat ⊕ (Nat × List (Option Nat)) ⊕ (Bool × Nat × (Nat → Nat))
abbrev shI (n : Nat) : Sh := .inl n
abbrev shO (ci : Nat) (fl : List (Option Nat)) : Sh := .inr (.inl (ci, fl))
abbrev shR (b : Bool) (n : Nat) (g : Nat → Nat) : Sh := .inr (.inr (b, n, g))
def fld (ad : Nat → Nat) (m : Nat → Int32) : Nat → List (Option Nat) → List Value
  | _, [] => []
  | i, none :: l => .int (m i) :: fld ad m (i + 1) l
  | i, some k :: l => .ref (ad k) :: fld ad m (i + 1) l
theorem fld_len (ad : Nat → Nat) (m : Nat → Int32) : ∀ (l : List (Option Nat)) (i : Nat), (fld ad m i l).length = l.length
  | [], _ => rfl
  | none :: l, i => by simp [fld, fld_len ad m l (i + 1)]
  | some k :: l, i => by simp [fld, fld_len ad m l (i + 1)]
theorem fld_i (ad : Nat → Nat) (m : Nat → Int32) : ∀ (l : List (Option Nat)) (i j : Nat), l[j]? = some none → (fld ad m i l)[j]? = some (.int (m (i + j)))
  | [], _, j, h => by simp at h
  | none :: l, i, 0, _ => by simp [fld]
  | some k :: l, i, 0, h => by simp at h
  | none :: l, i, j + 1, h => by
    simp only [fld, List.getElem?_cons_succ]
    rw [fld_i ad m l (i + 1) j (by simpa using h), show i + 1 + j = i + (j + 1) by omega]
  | some k :: l, i, j + 1, h => by
    simp only [fld, List.getElem?_cons_succ]
    rw [fld_i ad m l (i + 1) j (by simpa using h), show i + 1 + j = i + (j + 1) by omega]
theorem fld_r (ad : Nat → Nat) (m : Nat → Int32) : ∀ (l : List (Option Nat)) (i j k : Nat), l[j]? = some (some k) → (fld ad m i l)[j]? = some (.ref (ad k))
  | [], _, j, k, h => by simp at h
  | none :: l, i, 0, k, h => by simp at h
  | some k' :: l, i, 0, k, h => by simp at h; subst h; simp [fld]
  | none :: l, i, j + 1, k, h => by
    simp only [fld, List.getElem?_cons_succ]
    exact fld_r ad m l (i + 1) j k (by simpa using h)
  | some k' :: l, i, j + 1, k, h => by
    simp only [fld, List.getElem?_cons_succ]
    exact fld_r ad m l (i + 1) j k (by simpa using h)
theorem fld_c (ad : Nat → Nat) (m m' : Nat → Int32) : ∀ (l : List (Option Nat)) (i : Nat), (∀ j, i ≤ j → m' j = m j) → fld ad m' i l = fld ad m i l
  | [], _, _ => rfl
  | none :: l, i, h => by simp only [fld]; rw [h i (Nat.le_refl _), fld_c ad m m' l (i + 1) (fun j hj => h j (by omega))]
  | some k :: l, i, h => by simp only [fld]; rw [fld_c ad m m' l (i + 1) (fun j hj => h j (by omega))]
theorem fld_s (ad : Nat → Nat) (m : Nat → Int32) (v : Int32) : ∀ (l : List (Option Nat)) (i j : Nat), l[j]? = some none → (fld ad m i l).set j (.int v) = fld ad (upd m (i + j) v) i l
  | [], _, j, h => by simp at h
  | none :: l, i, 0, _ => by
    simp only [fld, List.set_cons_zero, Nat.add_zero]
    rw [fld_c ad m (upd m i v) l (i + 1) (fun j hj => by simp only [upd]; rw [if_neg (by omega)])]
    simp [upd]
  | some k :: l, i, 0, h => by simp at h
  | none :: l, i, j + 1, h => by
    simp only [fld, List.set_cons_succ]
    rw [fld_s ad m v l (i + 1) j (by simpa using h), show i + 1 + j = i + (j + 1) by omega]
    simp [upd]
  | some k :: l, i, j + 1, h => by
    simp only [fld, List.set_cons_succ]
    rw [fld_s ad m v l (i + 1) j (by simpa using h), show i + 1 + j = i + (j + 1) by omega]
abbrev Cs : Type := ClassId × ClassId × ClassId
def cellOf (cs : Cs) (ad : Nat → Nat) (sh : Sh) (m : Nat → Int32) : va_E := match sh with
  | .inl n => .inl (cs.1, n, .inl m)
  | .inr (.inl o) => .inr (o.1, fld ad m 0 o.2)
  | .inr (.inr (b, n, g)) => .inl (if b then cs.2.1 else cs.2.2, n, .inr (.inr (.inr (.inr (fun i => some (ad (g i)))))))
def wl (cs : Cs) (L : Nat → Sh) (N : Nat) (ad : Nat → Nat) (M : Mm) : va_W := (List.range N).map (fun k => (ad k, cellOf cs ad (L k) (M k)))
abbrev tysC (cs : Cs) : List (ClassId × FieldType) := [(cs.1, .int), (cs.2.1, .object RX5), (cs.2.2, .array .int)]
theorem wl_len (cs : Cs) (L : Nat → Sh) (N : Nat) (ad : Nat → Nat) (M : Mm) : (wl cs L N ad M).length = N := by simp [wl]
theorem wl_get {cs : Cs} {L : Nat → Sh} {N : Nat} {ad : Nat → Nat} {M : Mm} (X : va_W) {k : Nat} (hk : k < N) : (wl cs L N ad M ++ X)[k]? = some (ad k, cellOf cs ad (L k) (M k)) := by
  rw [List.getElem?_append_left (by rw [wl_len]; exact hk)]
  simp [wl, List.getElem?_range hk]
theorem wl_set {cs : Cs} {L : Nat → Sh} {N : Nat} {ad : Nat → Nat} {M M' : Mm} (X : va_W) {k : Nat} (hk : k < N) {e : va_E} (he : e = cellOf cs ad (L k) (M' k)) (ho : ∀ a, a ≠ k → M' a = M a) : (wl cs L N ad M ++ X).set k (ad k, e) = wl cs L N ad M' ++ X := by
  rw [List.set_append_left _ _ (by rw [wl_len]; exact hk)]
  congr 1
  apply List.ext_getElem?
  intro i
  by_cases hi : i = k
  · subst hi
    rw [List.getElem?_set_self (by rw [wl_len]; exact hk), he]
    simp [wl, List.getElem?_range hk]
  · rw [List.getElem?_set_ne (Ne.symm hi)]
    by_cases hiN : i < N
    · simp [wl, List.getElem?_range hiN, ho i hi]
    · rw [List.getElem?_eq_none (by rw [wl_len]; omega), List.getElem?_eq_none (by rw [wl_len]; omega)]
theorem wl_D {cs : Cs} {L : Nat → Sh} {N : Nat} {ad : Nat → Nat} {M : Mm} {A : Nat → Prop} {X : va_W} (M' : Mm) (hD : va_D A (wl cs L N ad M ++ X)) : va_D A (wl cs L N ad M' ++ X) := by
  have key : ∀ (i : Nat) (q : Nat × va_E), (wl cs L N ad M' ++ X)[i]? = some q → ∃ e, (wl cs L N ad M ++ X)[i]? = some (q.1, e) := by
    intro i q h
    by_cases hi : i < N
    · rw [wl_get X hi] at h
      cases h
      exact ⟨_, wl_get X hi⟩
    · rw [List.getElem?_append_right (by rw [wl_len]; omega), wl_len] at h ⊢
      exact ⟨q.2, h⟩
  refine ⟨fun i j p q hi hj e => ?_, fun i q hi => ?_⟩
  · obtain ⟨e1, h1⟩ := key i p hi
    obtain ⟨e2, h2⟩ := key j q hj
    exact hD.1 i j _ _ h1 h2 e
  · obtain ⟨e1, h1⟩ := key i q hi
    exact hD.2 i _ h1
/-- which cells a method over the layout may change: its own, the caller's other ones, new ones -/
def wA (N : Nat) (ad : Nat → Nat) (X : va_W) (sz : Nat) : Nat → Prop := fun q => (∃ k, k < N ∧ q = ad k) ∨ (∃ (k : Nat) (e : va_E), X[k]? = some (q, e)) ∨ sz ≤ q
theorem wA_D {cs : Cs} {L : Nat → Sh} {N : Nat} {ad : Nat → Nat} {M : Mm} {A : Nat → Prop} {X : va_W} {sz : Nat} (hD : va_D A (wl cs L N ad M ++ X)) : va_D (wA N ad X sz) (wl cs L N ad M ++ X) := by
  refine hD.weaken (fun i q hi _ => ?_)
  by_cases h : i < N
  · rw [wl_get X h] at hi
    cases hi
    exact Or.inl ⟨i, h, rfl⟩
  · rw [List.getElem?_append_right (by rw [wl_len]; omega)] at hi
    exact Or.inr (Or.inl ⟨_, q.2, hi⟩)
theorem wA_free {cs : Cs} {L : Nat → Sh} {N : Nat} {ad : Nat → Nat} {M : Mm} {A0 : Nat → Prop} {X : va_W} {H0 H : Heap} {locs : List Loc} (hD : va_D A0 (wl cs L N ad M ++ X)) (hS : va_S A0 H0 H locs) (hA : ∀ q, H0.size ≤ q → A0 q) : ∀ q, wA N ad X H.size q → A0 q := by
  intro q h
  rcases h with ⟨k, hk, rfl⟩ | ⟨k, e, h⟩ | h
  · exact hD.2 k _ (wl_get X hk)
  · exact hD.2 (N + k) (q, e) (by rw [List.getElem?_append_right (by rw [wl_len]; omega), wl_len, Nat.add_sub_cancel_left]; exact h)
  · exact hA q (Nat.le_trans hS.1 h)
theorem w_left {D : va_G} {cl : List vw_C} {w1 w2 : va_W} {H : Heap} (hP : va_P D cl (w1 ++ w2) H) : va_P D cl w1 H := fun k q hk => hP k q (by rw [List.getElem?_append_left (List.getElem?_eq_some_iff.mp hk).1]; exact hk)
section FWR
variable {p : Program} {l : Launch} {e : Env} {R : Room} {s : State} {m : MethodId} {args : Array Value} {below : List Frame} {meth : Method} {c : Code} {H H0 : Heap} {locs : List Loc} {cells slots : Nat} {Q : State → Prop} {cc : ByteArray} {pc : Nat} {ls : Array Slot} {rest st0 : List Value} {D : va_G} {A : Nat → Prop} {cs : Cs} {L : Nat → Sh} {N : Nat} {ad : Nat → Nat} {M : Mm} {X : va_W}
/-- an int field read -/
theorem m_gi (hexec : p.tables.exec = Jvm.exec) (hb : c.code = cc) {own ref C : String} {T : u_T} {n ci index : Nat} {Ts : List Cond} (hts : ∀ w ∈ Ts, w.before args s = true) (hin : ∀ w ∈ u_ws C T n, w ∈ Ts) (hown : s.vm.findClass own = some m.cls) (hK : va_K D vwCl (tysC cs) s) (hP : va_P D vwCl (wl cs L N ad M ++ X) H) {k : Nat} (hk : k < N) {fl : List (Option Nat)} (hL : L k = shO ci fl) (hc : vwCl[ci]? = some (C, T, n)) (j : Nat) (hj : j < n) (hf : fl[j]? = some none) (hlink : (Cond.fieldLink own index ref (T j).2.1 (T j).2.2.1).before args s = true) (hsame : ∀ x, s.fieldFound? (T j).1 (T j).2.1 (T j).2.2.1 = some x → s.fieldFound? ref (T j).2.1 (T j).2.2.1 = some x) (hdg : decode cc pc = .ok (.getfield index, 3))
    (kk : W p l e R s m args below meth c H locs cells slots Q (F0 m (pc + 3) ls (.int (M k j) :: rest))) : W p l e R s m args below meth c H locs cells slots Q (F0 m pc ls (.ref (ad k) :: rest)) := by
  have he : (wl cs L N ad M ++ X)[k]? = some (ad k, .inr (ci, fld ad (M k) 0 fl)) := by rw [wl_get X hk, hL]; rfl
  exact va_get (D := D) (ci := ci) (C := C) (T := T) (N := n) hexec hb hts hin hown hK hP k he hc j hj hlink hsame (v := .int (M k j)) (by rw [fld_i ad (M k) fl 0 j hf, Nat.zero_add]) hdg kk
/-- a field read that refers -/
theorem m_gr (hexec : p.tables.exec = Jvm.exec) (hb : c.code = cc) {own ref C : String} {T : u_T} {n ci index : Nat} {Ts : List Cond} (hts : ∀ w ∈ Ts, w.before args s = true) (hin : ∀ w ∈ u_ws C T n, w ∈ Ts) (hown : s.vm.findClass own = some m.cls) (hK : va_K D vwCl (tysC cs) s) (hP : va_P D vwCl (wl cs L N ad M ++ X) H) {k : Nat} (hk : k < N) {fl : List (Option Nat)} (hL : L k = shO ci fl) (hc : vwCl[ci]? = some (C, T, n)) (j : Nat) (hj : j < n) {k2 : Nat} (hf : fl[j]? = some (some k2)) (hlink : (Cond.fieldLink own index ref (T j).2.1 (T j).2.2.1).before args s = true) (hsame : ∀ x, s.fieldFound? (T j).1 (T j).2.1 (T j).2.2.1 = some x → s.fieldFound? ref (T j).2.1 (T j).2.2.1 = some x) (hdg : decode cc pc = .ok (.getfield index, 3))
    (kk : W p l e R s m args below meth c H locs cells slots Q (F0 m (pc + 3) ls (.ref (ad k2) :: rest))) : W p l e R s m args below meth c H locs cells slots Q (F0 m pc ls (.ref (ad k) :: rest)) := by
  have he : (wl cs L N ad M ++ X)[k]? = some (ad k, .inr (ci, fld ad (M k) 0 fl)) := by rw [wl_get X hk, hL]; rfl
  exact va_get (D := D) (ci := ci) (C := C) (T := T) (N := n) hexec hb hts hin hown hK hP k he hc j hj hlink hsame (v := .ref (ad k2)) (fld_r ad (M k) fl 0 j k2 hf) hdg kk
/-- an int field written -/
theorem m_pi (hexec : p.tables.exec = Jvm.exec) (hb : c.code = cc) {own ref C : String} {T : u_T} {n ci index : Nat} {Ts : List Cond} (hts : ∀ w ∈ Ts, w.before args s = true) (hin : ∀ w ∈ u_ws C T n, w ∈ Ts) (ty0 : Nat → FieldType) (hty : ∀ k, k < n → parseFieldDescriptor (T k).2.2.1 = some (ty0 k)) (hnm : ∀ a, a < n → ∀ b, b < n → a ≠ b → (T a).2.1 ≠ (T b).2.1) (hown : s.vm.findClass own = some m.cls) (hK : va_K D vwCl (tysC cs) s) (hP : va_P D vwCl (wl cs L N ad M ++ X) H) (hD : va_D A (wl cs L N ad M ++ X)) (hS : va_S A H0 H locs) {k : Nat} (hk : k < N) {fl : List (Option Nat)} (hL : L k = shO ci fl) (hc : vwCl[ci]? = some (C, T, n)) (j : Nat) (hj : j < n) (hf : fl[j]? = some none) (hlink : (Cond.fieldLink own index ref (T j).2.1 (T j).2.2.1).before args s = true) (hsame : ∀ x, s.fieldFound? (T j).1 (T j).2.1 (T j).2.2.1 = some x → s.fieldFound? ref (T j).2.1 (T j).2.2.1 = some x) (hfin : (T j).2.2.2 = false) {v : Int32} (hn : narrow (ty0 j) (.int v) = .int v) (hfit : fits (ty0 j) (.int v) = true) (hdg : decode cc pc = .ok (.putfield index, 3)) {M1 : Mm} (hM : M1 = um M k j v)
    (kk : ∀ (H1 : Heap) (locs1 : List Loc), va_P D vwCl (wl cs L N ad M1 ++ X) H1 → va_D A (wl cs L N ad M1 ++ X) → va_S A H0 H1 locs1 → W p l e R s m args below meth c H1 locs1 cells slots Q (F0 m (pc + 3) ls rest)) : W p l e R s m args below meth c H locs cells slots Q (F0 m pc ls (.int v :: .ref (ad k) :: rest)) := by
  have he : (wl cs L N ad M ++ X)[k]? = some (ad k, .inr (ci, fld ad (M k) 0 fl)) := by rw [wl_get X hk, hL]; rfl
  have hl : j < fl.length := (List.getElem?_eq_some_iff.mp hf).1
  have hset : (wl cs L N ad M ++ X).set k (ad k, .inr (ci, (fld ad (M k) 0 fl).set j (.int v))) = wl cs L N ad M1 ++ X := by
    refine wl_set X hk ?_ (fun a ha => by rw [hM]; exact um_n M j v ha)
    rw [hL, hM, um_s, fld_s ad (M k) v fl 0 j hf, Nat.zero_add]
    rfl
  refine va_put (D := D) (ci := ci) (C := C) (T := T) (N := n) (ty := ty0 j) (v := .int v) hexec hb hts hin ty0 hty hnm hown hK hP hD hS k he hc j hj hlink hsame hfin (hty j hj) hn hfit (by rw [fld_len]; exact hl) hdg (fun H1 locs1 hP1 hD1 hS1 => ?_)
  rw [hset] at hP1 hD1
  exact kk H1 locs1 hP1 hD1 hS1
/-- a place of an int array read -/
theorem m_ld (hexec : p.tables.exec = Jvm.exec) (hb : c.code = cc) (hK : va_K D vwCl (tysC cs) s) (hP : va_P D vwCl (wl cs L N ad M ++ X) H) {k : Nat} (hk : k < N) {n : Nat} (hL : L k = shI n) {i : Int32} (hin : ¬ (i < 0 ∨ n ≤ i.toNatClampNeg)) (hdg : decode cc pc = .ok (.iaload, 1))
    (kk : W p l e R s m args below meth c H locs cells slots Q (F0 m (pc + 1) ls (.int (M k i.toNatClampNeg) :: rest))) : W p l e R s m args below meth c H locs cells slots Q (F0 m pc ls (.int i :: .ref (ad k) :: rest)) := by
  have he : (wl cs L N ad M ++ X)[k]? = some (ad k, .inl (cs.1, n, .inl (M k))) := by rw [wl_get X hk, hL]; rfl
  exact va_iald hexec hb hK hP k 0 he rfl hin hdg kk
/-- a place of an int array written -/
theorem m_st (hexec : p.tables.exec = Jvm.exec) (hb : c.code = cc) (hK : va_K D vwCl (tysC cs) s) (hP : va_P D vwCl (wl cs L N ad M ++ X) H) (hD : va_D A (wl cs L N ad M ++ X)) (hS : va_S A H0 H locs) {k : Nat} (hk : k < N) {n : Nat} (hL : L k = shI n) {i v : Int32} (hin : ¬ (i < 0 ∨ n ≤ i.toNatClampNeg)) (hdg : decode cc pc = .ok (.iastore, 1)) {M1 : Mm} (hM : M1 = um M k i.toNatClampNeg v)
    (kk : ∀ (H1 : Heap) (locs1 : List Loc), va_P D vwCl (wl cs L N ad M1 ++ X) H1 → va_D A (wl cs L N ad M1 ++ X) → va_S A H0 H1 locs1 → W p l e R s m args below meth c H1 locs1 cells slots Q (F0 m (pc + 1) ls rest)) : W p l e R s m args below meth c H locs cells slots Q (F0 m pc ls (.int v :: .int i :: .ref (ad k) :: rest)) := by
  have he : (wl cs L N ad M ++ X)[k]? = some (ad k, .inl (cs.1, n, .inl (M k))) := by rw [wl_get X hk, hL]; rfl
  have hset : (wl cs L N ad M ++ X).set k (ad k, .inl (cs.1, n, .inl (upd (M k) i.toNatClampNeg v))) = wl cs L N ad M1 ++ X := by
    refine wl_set X hk ?_ (fun a ha => by rw [hM]; exact um_n M _ v ha)
    rw [hL, hM, um_s]
    rfl
  refine va_iast hexec hb hK hP hD hS k 0 he rfl hin hdg (fun H1 locs1 hP1 hD1 hS1 => ?_)
  rw [hset] at hP1 hD1
  exact kk H1 locs1 hP1 hD1 hS1
/-- a place of an array of our objects read -/
theorem m_lq (hexec : p.tables.exec = Jvm.exec) (hb : c.code = cc) (hK : va_K D vwCl (tysC cs) s) (hP : va_P D vwCl (wl cs L N ad M ++ X) H) {k : Nat} (hk : k < N) {n : Nat} {g : Nat → Nat} (hL : L k = shR true n g) {i : Int32} (hin : ¬ (i < 0 ∨ n ≤ i.toNatClampNeg)) (hdg : decode cc pc = .ok (.aaload, 1))
    (kk : W p l e R s m args below meth c H locs cells slots Q (F0 m (pc + 1) ls (.ref (ad (g i.toNatClampNeg)) :: rest))) : W p l e R s m args below meth c H locs cells slots Q (F0 m pc ls (.int i :: .ref (ad k) :: rest)) := by
  have he : (wl cs L N ad M ++ X)[k]? = some (ad k, .inl (cs.2.1, n, .inr (.inr (.inr (.inr (fun i => some (ad (g i)))))))) := by rw [wl_get X hk, hL]; rfl
  exact va_aldq hexec hb hK hP k 1 he rfl hin hdg kk
/-- a row of an array of int arrays -/
theorem m_lr (hexec : p.tables.exec = Jvm.exec) (hb : c.code = cc) (hK : va_K D vwCl (tysC cs) s) (hP : va_P D vwCl (wl cs L N ad M ++ X) H) {k : Nat} (hk : k < N) {n : Nat} {g : Nat → Nat} (hL : L k = shR false n g) {i : Int32} (hin : ¬ (i < 0 ∨ n ≤ i.toNatClampNeg)) (hdg : decode cc pc = .ok (.aaload, 1))
    (kk : W p l e R s m args below meth c H locs cells slots Q (F0 m (pc + 1) ls (.ref (ad (g i.toNatClampNeg)) :: rest))) : W p l e R s m args below meth c H locs cells slots Q (F0 m pc ls (.int i :: .ref (ad k) :: rest)) := by
  have he : (wl cs L N ad M ++ X)[k]? = some (ad k, .inl (cs.2.2, n, .inr (.inr (.inr (.inr (fun i => some (ad (g i)))))))) := by rw [wl_get X hk, hL]; rfl
  have hlt : i.toNatClampNeg < n := Nat.not_le.mp fun q => hin (Or.inr q)
  exact W.aald (v := va_rf (some (ad (g i.toNatClampNeg)))) (ty := .array .int) hexec hb (hP k _ he) ((hK.2 2 _ rfl).1 n (fun j => va_rf (some (ad (g j))))) rfl (fun q => by cases q) (by show ¬ (i < 0 ∨ (arrV _ _ _).slots.size ≤ _); rw [arrV_size]; exact hin) (by show (arrV _ _ _).slots[_]? = _; rw [arrV_read _ _ hlt]) rfl rfl hdg kk
/-- an array's length -/
theorem m_ln (hexec : p.tables.exec = Jvm.exec) (hb : c.code = cc) (hK : va_K D vwCl (tysC cs) s) (hP : va_P D vwCl (wl cs L N ad M ++ X) H) {k : Nat} (hk : k < N) {n : Nat} (hL : L k = shI n) (hdg : decode cc pc = .ok (.arraylength, 1))
    (kk : W p l e R s m args below meth c H locs cells slots Q (F0 m (pc + 1) ls (.int (nI n) :: rest))) : W p l e R s m args below meth c H locs cells slots Q (F0 m pc ls (.ref (ad k) :: rest)) := by
  have he : (wl cs L N ad M ++ X)[k]? = some (ad k, .inl (cs.1, (n, .inl (M k)))) := by rw [wl_get X hk, hL]; rfl
  exact va_alen (v := nI n) hexec hb hK hP k 0 he (ty := .int) rfl rfl hdg kk
end FWR
/-- what a method that reads needs; what a method that writes needs -/
def rPre (D : va_G) (cs : Cs) (L : Nat → Sh) (N : Nat) (ad : Nat → Nat) (M : Mm) (X : va_W) (U : State) : Prop := va_P D vwCl (wl cs L N ad M ++ X) U.heap ∧ va_K D vwCl (tysC cs) U
def wPre (D : va_G) (cs : Cs) (L : Nat → Sh) (N : Nat) (ad : Nat → Nat) (M : Mm) (X : va_W) (sz : Nat) (U : State) : Prop := U.heap.size = sz ∧ va_P D vwCl (wl cs L N ad M ++ X) U.heap ∧ va_K D vwCl (tysC cs) U ∧ va_D (fun _ => True) (wl cs L N ad M ++ X)
/-- ends: an int and the memory; the memory -/
abbrev wQi (D : va_G) (cs : Cs) (L : Nat → Sh) (N : Nat) (ad : Nat → Nat) (M : Mm) (X : va_W) (sz : Nat) (r : Int32) := va_Qi (fun (r' : Int32) (_ : Unit) => r' = r) (fun _ t => va_P D vwCl (wl cs L N ad M ++ X) t.heap) (wA N ad X sz)
abbrev wQl (D : va_G) (cs : Cs) (L : Nat → Sh) (N : Nat) (ad : Nat → Nat) (M : Mm) (X : va_W) (sz : Nat) (r : Int64) := va_Ql (fun (r' : Int64) (_ : Unit) => r' = r) (fun _ t => va_P D vwCl (wl cs L N ad M ++ X) t.heap) (wA N ad X sz)
abbrev wQv (D : va_G) (cs : Cs) (L : Nat → Sh) (N : Nat) (ad : Nat → Nat) (M : Mm) (X : va_W) (sz : Nat) := va_Qv (fun (_ : Unit) => True) (fun _ t => va_P D vwCl (wl cs L N ad M ++ X) t.heap) (wA N ad X sz)
section FWC
variable {p : Program} {l : Launch} {e : Env} {R : Room} {s : State} {m : MethodId} {args : Array Value} {below : List Frame} {meth : Method} {c : Code} {H H0 : Heap} {locs : List Loc} {cells slots : Nat} {Q : State → Prop} {cc : ByteArray} {pc : Nat} {ls : Array Slot} {rest st0 : List Value} {D : va_G} {A : Nat → Prop} {cs : Cs} {L : Nat → Sh} {N : Nat} {ad : Nat → Nat} {M M1 : Mm} {X : va_W} {mc ms : Nat} {a : Array Value}
theorem rPre_blind (av : List Value) : FrameBlind (va_Pc av (rPre D cs L N ad M X)) := fun _ U _ _ q => ⟨q.1, q.2.1, va_K.moved (u := U) (U := U.calling _ _ _) (Vm.Alike.refl U.vm) q.2.2⟩
theorem wPre_blind (av : List Value) (sz : Nat) : FrameBlind (va_Pc av (wPre D cs L N ad M X sz)) := fun _ U _ _ q => ⟨q.1, q.2.1, q.2.2.1, va_K.moved (u := U) (U := U.calling _ _ _) (Vm.Alike.refl U.vm) q.2.2.2.1, q.2.2.2.2⟩
theorem pPre_blind (av : List Value) : FrameBlind (va_Pc av (fun _ => True)) := fun _ _ _ _ q => q
theorem w_recv (hK : va_K D vwCl (tysC cs) s) (hP : va_P D vwCl (wl cs L N ad M ++ X) H) {k : Nat} (hk : k < N) {ci : Nat} {fl : List (Option Nat)} (hL : L k = shO ci fl) {C : String} {T : u_T} {n : Nat} (hc : vwCl[ci]? = some (C, T, n)) : ∃ cellB : Cell, H[ad k]? = some cellB ∧ cellB.vm.isStatics = false ∧ s.vm.findClass C = some cellB.cls :=
  va_recv hK hP (ci := ci) (q0 := k) (by rw [wl_get X hk, hL]; rfl) hc
theorem rPreV (hK : va_K D vwCl (tysC cs) s) (hP : va_P D vwCl (wl cs L N ad M ++ X) H) {k : Nat} (hk : k < N) {ci : Nat} {fl : List (Option Nat)} (hL : L k = shO ci fl) {C : String} {T : u_T} {n : Nat} (hc : vwCl[ci]? = some (C, T, n)) (As : List Value) : PreV s H C (ad k) (va_Pc (.ref (ad k) :: As) (rPre D cs L N ad M X)) As :=
  ⟨rPre_blind _, w_recv hK hP hk hL hc, fun U hU hW => ⟨rfl, by rw [hU]; exact hP, va_K.moved hW.alike hK⟩⟩
theorem rPreS (hK : va_K D vwCl (tysC cs) s) (hP : va_P D vwCl (wl cs L N ad M ++ X) H) (As : List Value) : PreS s H (va_Pc As (rPre D cs L N ad M X)) As :=
  ⟨rPre_blind _, fun U hU hW => ⟨rfl, by rw [hU]; exact hP, va_K.moved hW.alike hK⟩⟩
theorem pPreS (As : List Value) : PreS s H (va_Pc As (fun _ => True)) As := ⟨pPre_blind _, fun _ _ _ => ⟨rfl, trivial⟩⟩
theorem wPreV (hK : va_K D vwCl (tysC cs) s) (hP : va_P D vwCl (wl cs L N ad M ++ X) H) (hD : va_D A (wl cs L N ad M ++ X)) {k : Nat} (hk : k < N) {ci : Nat} {fl : List (Option Nat)} (hL : L k = shO ci fl) {C : String} {T : u_T} {n : Nat} (hc : vwCl[ci]? = some (C, T, n)) (As : List Value) : PreV s H C (ad k) (va_Pc (.ref (ad k) :: As) (wPre D cs L N ad M X H.size)) As :=
  ⟨wPre_blind _ _, w_recv hK hP hk hL hc, fun U hU hW => ⟨rfl, by rw [hU], by rw [hU]; exact hP, va_K.moved hW.alike hK, hD.weaken (fun _ _ _ _ => trivial)⟩⟩
theorem wPreS (hK : va_K D vwCl (tysC cs) s) (hP : va_P D vwCl (wl cs L N ad M ++ X) H) (hD : va_D A (wl cs L N ad M ++ X)) (As : List Value) : PreS s H (va_Pc As (wPre D cs L N ad M X H.size)) As :=
  ⟨wPre_blind _ _, fun U hU hW => ⟨rfl, by rw [hU], by rw [hU]; exact hP, va_K.moved hW.alike hK, hD.weaken (fun _ _ _ _ => trivial)⟩⟩
theorem r_calli {r : Int32} (hr : CallRun p l e R s m args below meth c H locs cells slots 0 0 (F0 m pc ls st0) rest (vp_Si (fun r' => r' = r) a) (fun _ => False))
    (kk : W p l e R s m args below meth c H locs cells slots Q (F0 m (pc + 3) ls (.int r :: rest))) : W p l e R s m args below meth c H locs cells slots Q (F0 m pc ls st0) := vp_callSi hr (fun r' h => by subst h; exact kk)
theorem r_calll {r : Int64} (hr : CallRun p l e R s m args below meth c H locs cells slots 0 0 (F0 m pc ls st0) rest (vp_Sl (fun r' => r' = r) a) (fun _ => False))
    (kk : W p l e R s m args below meth c H locs cells slots Q (F0 m (pc + 3) ls (.long r :: rest))) : W p l e R s m args below meth c H locs cells slots Q (F0 m pc ls st0) := vp_callSl hr (fun r' h => by subst h; exact kk)
theorem w_calli {r : Int32} (hr : va_Run p l e R s m args below meth c H locs cells slots mc ms (F0 m pc ls st0) rest (wQi D cs L N ad M1 X H.size r a) (wA N ad X H.size)) (hD : va_D A (wl cs L N ad M ++ X)) (hS : va_S A H0 H locs) (hA : ∀ q, H0.size ≤ q → A q)
    (kk : ∀ (H1 : Heap) (locs1 : List Loc), va_P D vwCl (wl cs L N ad M1 ++ X) H1 → va_D A (wl cs L N ad M1 ++ X) → va_S A H0 H1 locs1 → W p l e R s m args below meth c H1 locs1 (cells + mc) (slots + ms) Q (F0 m (pc + 3) ls (.int r :: rest))) : W p l e R s m args below meth c H locs cells slots Q (F0 m pc ls st0) :=
  va_calli hr hS (fun q _ h => wA_free hD hS hA q h) (wA_free hD hS hA) (fun r' u t H1 locs1 ht _ hw hB _ _ hS1 => by subst hw; rw [ht] at hB; exact kk H1 locs1 hB (wl_D M1 hD) hS1)
theorem w_calll {r : Int64} (hr : va_Run p l e R s m args below meth c H locs cells slots mc ms (F0 m pc ls st0) rest (wQl D cs L N ad M1 X H.size r a) (wA N ad X H.size)) (hD : va_D A (wl cs L N ad M ++ X)) (hS : va_S A H0 H locs) (hA : ∀ q, H0.size ≤ q → A q)
    (kk : ∀ (H1 : Heap) (locs1 : List Loc), va_P D vwCl (wl cs L N ad M1 ++ X) H1 → va_D A (wl cs L N ad M1 ++ X) → va_S A H0 H1 locs1 → W p l e R s m args below meth c H1 locs1 (cells + mc) (slots + ms) Q (F0 m (pc + 3) ls (.long r :: rest))) : W p l e R s m args below meth c H locs cells slots Q (F0 m pc ls st0) :=
  va_calll hr hS (fun q _ h => wA_free hD hS hA q h) (wA_free hD hS hA) (fun r' u t H1 locs1 ht _ hw hB _ _ hS1 => by subst hw; rw [ht] at hB; exact kk H1 locs1 hB (wl_D M1 hD) hS1)
theorem w_callv (hr : va_Run p l e R s m args below meth c H locs cells slots mc ms (F0 m pc ls st0) rest (wQv D cs L N ad M1 X H.size a) (wA N ad X H.size)) (hD : va_D A (wl cs L N ad M ++ X)) (hS : va_S A H0 H locs) (hA : ∀ q, H0.size ≤ q → A q)
    (kk : ∀ (H1 : Heap) (locs1 : List Loc), va_P D vwCl (wl cs L N ad M1 ++ X) H1 → va_D A (wl cs L N ad M1 ++ X) → va_S A H0 H1 locs1 → W p l e R s m args below meth c H1 locs1 (cells + mc) (slots + ms) Q (F0 m (pc + 3) ls rest)) : W p l e R s m args below meth c H locs cells slots Q (F0 m pc ls st0) :=
  va_callv hr hS (fun q _ h => wA_free hD hS hA q h) (wA_free hD hS hA) (fun u t H1 locs1 ht _ _ hB _ _ hS1 => by rw [ht] at hB; exact kk H1 locs1 hB (wl_D M1 hD) hS1)
end FWC
