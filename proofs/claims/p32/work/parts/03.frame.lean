/-! THE FRAME: both systems hold ints alone in fields and arrays that change; what refers stays as the constructors laid it. So a state is a memory M : cell number -> place -> int, over a fixed layout L of cells. -/
abbrev Mm : Type := Nat → Nat → Int32
/-- a named value -/
def lt {α β : Type} (a : α) (f : α → β) : β := f a
theorem lt_e {α β : Type} {a : α} {f : α → β} {r : β} (h : lt a f = r) : ∃ x, x = a ∧ f x = r := ⟨a, rfl, h⟩
/-- a place of a cell written -/
def um (M : Mm) (k j : Nat) (v : Int32) : Mm := fun a => if a = k then upd (M k) j v else M a
theorem um_s (M : Mm) (k j : Nat) (v : Int32) : um M k j v k = upd (M k) j v := if_pos rfl
theorem um_n (M : Mm) {k a : Nat} (j : Nat) (v : Int32) (h : a ≠ k) : um M k j v a = M a := if_neg h
/-- a layout: an int array of a length; an object of a class, each field a cell or an int; an array of references, which cell at each place -/
abbrev Sh : Type := Nat ⊕ (Nat × List (Option Nat)) ⊕ (Bool × Nat × (Nat → Nat))
abbrev shI (n : Nat) : Sh := .inl n
abbrev shO (ci : Nat) (fl : List (Option Nat)) : Sh := .inr (.inl (ci, fl))
abbrev shR (b : Bool) (n : Nat) (g : Nat → Nat) : Sh := .inr (.inr (b, n, g))
def fld (ad : Nat → Nat) (m : Nat → Int32) : Nat → List (Option Nat) → List Value
  | _, [] => []
  | i, none :: l => .int (m i) :: fld ad m (i + 1) l
  | i, some k :: l => .ref (ad k) :: fld ad m (i + 1) l
theorem fld_len (ad : Nat → Nat) (m : Nat → Int32) : ∀ (l : List (Option Nat)) (i : Nat), (fld ad m i l).length = l.length
  | [], _ => rfl
  | none :: l, i => by simp [fld, fld_len ad m l (i + 1)]
  | some k :: l, i => by simp [fld, fld_len ad m l (i + 1)]
theorem fld_i (ad : Nat → Nat) (m : Nat → Int32) : ∀ (l : List (Option Nat)) (i j : Nat), l[j]? = some none → (fld ad m i l)[j]? = some (.int (m (i + j)))
  | [], _, j, h => by simp at h
  | none :: l, i, 0, _ => by simp [fld]
  | some k :: l, i, 0, h => by simp at h
  | none :: l, i, j + 1, h => by
    simp only [fld, List.getElem?_cons_succ]
    rw [fld_i ad m l (i + 1) j (by simpa using h), show i + 1 + j = i + (j + 1) by omega]
  | some k :: l, i, j + 1, h => by
    simp only [fld, List.getElem?_cons_succ]
    rw [fld_i ad m l (i + 1) j (by simpa using h), show i + 1 + j = i + (j + 1) by omega]
theorem fld_r (ad : Nat → Nat) (m : Nat → Int32) : ∀ (l : List (Option Nat)) (i j k : Nat), l[j]? = some (some k) → (fld ad m i l)[j]? = some (.ref (ad k))
  | [], _, j, k, h => by simp at h
  | none :: l, i, 0, k, h => by simp at h
  | some k' :: l, i, 0, k, h => by simp at h; subst h; simp [fld]
  | none :: l, i, j + 1, k, h => by
    simp only [fld, List.getElem?_cons_succ]
    exact fld_r ad m l (i + 1) j k (by simpa using h)
  | some k' :: l, i, j + 1, k, h => by
    simp only [fld, List.getElem?_cons_succ]
    exact fld_r ad m l (i + 1) j k (by simpa using h)
theorem fld_c (ad : Nat → Nat) (m m' : Nat → Int32) : ∀ (l : List (Option Nat)) (i : Nat), (∀ j, i ≤ j → m' j = m j) → fld ad m' i l = fld ad m i l
  | [], _, _ => rfl
  | none :: l, i, h => by simp only [fld]; rw [h i (Nat.le_refl _), fld_c ad m m' l (i + 1) (fun j hj => h j (by omega))]
  | some k :: l, i, h => by simp only [fld]; rw [fld_c ad m m' l (i + 1) (fun j hj => h j (by omega))]
theorem fld_s (ad : Nat → Nat) (m : Nat → Int32) (v : Int32) : ∀ (l : List (Option Nat)) (i j : Nat), l[j]? = some none → (fld ad m i l).set j (.int v) = fld ad (upd m (i + j) v) i l
  | [], _, j, h => by simp at h
  | none :: l, i, 0, _ => by
    simp only [fld, List.set_cons_zero, Nat.add_zero]
    rw [fld_c ad m (upd m i v) l (i + 1) (fun j hj => by simp only [upd]; rw [if_neg (by omega)])]
    simp [upd]
  | some k :: l, i, 0, h => by simp at h
  | none :: l, i, j + 1, h => by
    simp only [fld, List.set_cons_succ]
    rw [fld_s ad m v l (i + 1) j (by simpa using h), show i + 1 + j = i + (j + 1) by omega]
    simp [upd]
  | some k :: l, i, j + 1, h => by
    simp only [fld, List.set_cons_succ]
    rw [fld_s ad m v l (i + 1) j (by simpa using h), show i + 1 + j = i + (j + 1) by omega]
abbrev Cs : Type := ClassId × ClassId × ClassId
def cellOf (cs : Cs) (ad : Nat → Nat) (sh : Sh) (m : Nat → Int32) : va_E := match sh with
  | .inl n => .inl (cs.1, n, .inl m)
  | .inr (.inl o) => .inr (o.1, fld ad m 0 o.2)
  | .inr (.inr (b, n, g)) => .inl (if b then cs.2.1 else cs.2.2, n, .inr (.inr (.inr (.inr (fun i => some (ad (g i)))))))
def wl (cs : Cs) (L : Nat → Sh) (N : Nat) (ad : Nat → Nat) (M : Mm) : va_W := (List.range N).map (fun k => (ad k, cellOf cs ad (L k) (M k)))
abbrev tysC (cs : Cs) : List (ClassId × FieldType) := [(cs.1, .int), (cs.2.1, .object RX5), (cs.2.2, .array .int)]
theorem wl_len (cs : Cs) (L : Nat → Sh) (N : Nat) (ad : Nat → Nat) (M : Mm) : (wl cs L N ad M).length = N := by simp [wl]
theorem wl_get {cs : Cs} {L : Nat → Sh} {N : Nat} {ad : Nat → Nat} {M : Mm} (X : va_W) {k : Nat} (hk : k < N) : (wl cs L N ad M ++ X)[k]? = some (ad k, cellOf cs ad (L k) (M k)) := by
  rw [List.getElem?_append_left (by rw [wl_len]; exact hk)]
  simp [wl, List.getElem?_range hk]
theorem wl_set {cs : Cs} {L : Nat → Sh} {N : Nat} {ad : Nat → Nat} {M M' : Mm} (X : va_W) {k : Nat} (hk : k < N) {e : va_E} (he : e = cellOf cs ad (L k) (M' k)) (ho : ∀ a, a ≠ k → M' a = M a) : (wl cs L N ad M ++ X).set k (ad k, e) = wl cs L N ad M' ++ X := by
  rw [List.set_append_left _ _ (by rw [wl_len]; exact hk)]
  congr 1
  apply List.ext_getElem?
  intro i
  by_cases hi : i = k
  · subst hi
    rw [List.getElem?_set_self (by rw [wl_len]; exact hk), he]
    simp [wl, List.getElem?_range hk]
  · rw [List.getElem?_set_ne (Ne.symm hi)]
    by_cases hiN : i < N
    · simp [wl, List.getElem?_range hiN, ho i hi]
    · rw [List.getElem?_eq_none (by rw [wl_len]; omega), List.getElem?_eq_none (by rw [wl_len]; omega)]
theorem wl_D {cs : Cs} {L : Nat → Sh} {N : Nat} {ad : Nat → Nat} {M : Mm} {A : Nat → Prop} {X : va_W} (M' : Mm) (hD : va_D A (wl cs L N ad M ++ X)) : va_D A (wl cs L N ad M' ++ X) := by
  have key : ∀ (i : Nat) (q : Nat × va_E), (wl cs L N ad M' ++ X)[i]? = some q → ∃ e, (wl cs L N ad M ++ X)[i]? = some (q.1, e) := by
    intro i q h
    by_cases hi : i < N
    · rw [wl_get X hi] at h
      cases h
      exact ⟨_, wl_get X hi⟩
    · rw [List.getElem?_append_right (by rw [wl_len]; omega), wl_len] at h ⊢
      exact ⟨q.2, h⟩
  refine ⟨fun i j p q hi hj e => ?_, fun i q hi => ?_⟩
  · obtain ⟨e1, h1⟩ := key i p hi
    obtain ⟨e2, h2⟩ := key j q hj
    exact hD.1 i j _ _ h1 h2 e
  · obtain ⟨e1, h1⟩ := key i q hi
    exact hD.2 i (q.1, e1) h1
/-- which cells a method over the layout may change: its own, the caller's other ones, new ones -/
def wA (N : Nat) (ad : Nat → Nat) (X : va_W) (sz : Nat) : Nat → Prop := fun q => (∃ k, k < N ∧ q = ad k) ∨ (∃ (k : Nat) (e : va_E), X[k]? = some (q, e)) ∨ sz ≤ q
theorem wA_D {cs : Cs} {L : Nat → Sh} {N : Nat} {ad : Nat → Nat} {M : Mm} {A : Nat → Prop} {X : va_W} {sz : Nat} (hD : va_D A (wl cs L N ad M ++ X)) : va_D (wA N ad X sz) (wl cs L N ad M ++ X) := by
  refine hD.weaken (fun i q hi _ => ?_)
  by_cases h : i < N
  · rw [wl_get X h] at hi
    cases hi
    exact Or.inl ⟨i, h, rfl⟩
  · rw [List.getElem?_append_right (by rw [wl_len]; omega)] at hi
    exact Or.inr (Or.inl ⟨_, q.2, hi⟩)
theorem wA_free {cs : Cs} {L : Nat → Sh} {N : Nat} {ad : Nat → Nat} {M : Mm} {A0 : Nat → Prop} {X : va_W} {H0 H : Heap} {locs : List Loc} (hD : va_D A0 (wl cs L N ad M ++ X)) (hS : va_S A0 H0 H locs) (hA : ∀ q, H0.size ≤ q → A0 q) : ∀ q, wA N ad X H.size q → A0 q := by
  intro q h
  rcases h with ⟨k, hk, rfl⟩ | ⟨k, e, h⟩ | h
  · exact hD.2 k _ (wl_get X hk)
  · exact hD.2 (N + k) (q, e) (by rw [List.getElem?_append_right (by rw [wl_len]; omega), wl_len, Nat.add_sub_cancel_left]; exact h)
  · exact hA q (Nat.le_trans hS.1 h)
theorem w_left {D : va_G} {cl : List vw_C} {w1 w2 : va_W} {H : Heap} (hP : va_P D cl (w1 ++ w2) H) : va_P D cl w1 H := fun k q hk => hP k q (by rw [List.getElem?_append_left (List.getElem?_eq_some_iff.mp hk).1]; exact hk)
section FWR
variable {p : Program} {l : Launch} {e : Env} {R : Room} {s : State} {m : MethodId} {args : Array Value} {below : List Frame} {meth : Method} {c : Code} {H H0 : Heap} {locs : List Loc} {cells slots : Nat} {Q : State → Prop} {cc : ByteArray} {pc : Nat} {ls : Array Slot} {rest st0 : List Value} {D : va_G} {A : Nat → Prop} {cs : Cs} {L : Nat → Sh} {N : Nat} {ad : Nat → Nat} {M : Mm} {X : va_W}
/-- an int field read -/
theorem m_gi (hexec : p.tables.exec = Jvm.exec) (hb : c.code = cc) {own ref C : String} {T : u_T} {n ci index : Nat} {Ts : List Cond} (hts : ∀ w ∈ Ts, w.before args s = true) (hin : ∀ w ∈ u_ws C T n, w ∈ Ts) (hown : s.vm.findClass own = some m.cls) (hK : va_K D vwCl (tysC cs) s) (hP : va_P D vwCl (wl cs L N ad M ++ X) H) {k : Nat} (hk : k < N) {fl : List (Option Nat)} (hL : L k = shO ci fl) (hc : vwCl[ci]? = some (C, T, n)) (j : Nat) (hj : j < n) (hf : fl[j]? = some none) (hlink : (Cond.fieldLink own index ref (T j).2.1 (T j).2.2.1).before args s = true) (hsame : ∀ x, s.fieldFound? (T j).1 (T j).2.1 (T j).2.2.1 = some x → s.fieldFound? ref (T j).2.1 (T j).2.2.1 = some x) (hdg : decode cc pc = .ok (.getfield index, 3))
    (kk : W p l e R s m args below meth c H locs cells slots Q (F0 m (pc + 3) ls (.int (M k j) :: rest))) : W p l e R s m args below meth c H locs cells slots Q (F0 m pc ls (.ref (ad k) :: rest)) := by
  have he : (wl cs L N ad M ++ X)[k]? = some (ad k, .inr (ci, fld ad (M k) 0 fl)) := by rw [wl_get X hk, hL]; rfl
  exact va_get (D := D) (ci := ci) (C := C) (T := T) (N := n) hexec hb hts hin hown hK hP k he hc j hj hlink hsame (v := .int (M k j)) (by rw [fld_i ad (M k) fl 0 j hf, Nat.zero_add]) hdg kk
/-- a field read that refers -/
theorem m_gr (hexec : p.tables.exec = Jvm.exec) (hb : c.code = cc) {own ref C : String} {T : u_T} {n ci index : Nat} {Ts : List Cond} (hts : ∀ w ∈ Ts, w.before args s = true) (hin : ∀ w ∈ u_ws C T n, w ∈ Ts) (hown : s.vm.findClass own = some m.cls) (hK : va_K D vwCl (tysC cs) s) (hP : va_P D vwCl (wl cs L N ad M ++ X) H) {k : Nat} (hk : k < N) {fl : List (Option Nat)} (hL : L k = shO ci fl) (hc : vwCl[ci]? = some (C, T, n)) (j : Nat) (hj : j < n) {k2 : Nat} (hf : fl[j]? = some (some k2)) (hlink : (Cond.fieldLink own index ref (T j).2.1 (T j).2.2.1).before args s = true) (hsame : ∀ x, s.fieldFound? (T j).1 (T j).2.1 (T j).2.2.1 = some x → s.fieldFound? ref (T j).2.1 (T j).2.2.1 = some x) (hdg : decode cc pc = .ok (.getfield index, 3))
    (kk : W p l e R s m args below meth c H locs cells slots Q (F0 m (pc + 3) ls (.ref (ad k2) :: rest))) : W p l e R s m args below meth c H locs cells slots Q (F0 m pc ls (.ref (ad k) :: rest)) := by
  have he : (wl cs L N ad M ++ X)[k]? = some (ad k, .inr (ci, fld ad (M k) 0 fl)) := by rw [wl_get X hk, hL]; rfl
  exact va_get (D := D) (ci := ci) (C := C) (T := T) (N := n) hexec hb hts hin hown hK hP k he hc j hj hlink hsame (v := .ref (ad k2)) (fld_r ad (M k) fl 0 j k2 hf) hdg kk
/-- an int field written -/
theorem m_pi (hexec : p.tables.exec = Jvm.exec) (hb : c.code = cc) {own ref C : String} {T : u_T} {n ci index : Nat} {Ts : List Cond} (hts : ∀ w ∈ Ts, w.before args s = true) (hin : ∀ w ∈ u_ws C T n, w ∈ Ts) (ty0 : Nat → FieldType) (hty : ∀ k, k < n → parseFieldDescriptor (T k).2.2.1 = some (ty0 k)) (hnm : ∀ a, a < n → ∀ b, b < n → a ≠ b → (T a).2.1 ≠ (T b).2.1) (hown : s.vm.findClass own = some m.cls) (hK : va_K D vwCl (tysC cs) s) (hP : va_P D vwCl (wl cs L N ad M ++ X) H) (hD : va_D A (wl cs L N ad M ++ X)) (hS : va_S A H0 H locs) {k : Nat} (hk : k < N) {fl : List (Option Nat)} (hL : L k = shO ci fl) (hc : vwCl[ci]? = some (C, T, n)) (j : Nat) (hj : j < n) (hf : fl[j]? = some none) (hlink : (Cond.fieldLink own index ref (T j).2.1 (T j).2.2.1).before args s = true) (hsame : ∀ x, s.fieldFound? (T j).1 (T j).2.1 (T j).2.2.1 = some x → s.fieldFound? ref (T j).2.1 (T j).2.2.1 = some x) (hfin : (T j).2.2.2 = false) {v : Int32} (hn : narrow (ty0 j) (.int v) = .int v) (hfit : fits (ty0 j) (.int v) = true) (hdg : decode cc pc = .ok (.putfield index, 3)) {M1 : Mm} (hM : M1 = um M k j v)
    (kk : ∀ (H1 : Heap) (locs1 : List Loc), va_P D vwCl (wl cs L N ad M1 ++ X) H1 → va_D A (wl cs L N ad M1 ++ X) → va_S A H0 H1 locs1 → W p l e R s m args below meth c H1 locs1 cells slots Q (F0 m (pc + 3) ls rest)) : W p l e R s m args below meth c H locs cells slots Q (F0 m pc ls (.int v :: .ref (ad k) :: rest)) := by
  have he : (wl cs L N ad M ++ X)[k]? = some (ad k, .inr (ci, fld ad (M k) 0 fl)) := by rw [wl_get X hk, hL]; rfl
  have hl : j < fl.length := (List.getElem?_eq_some_iff.mp hf).1
  have hset : (wl cs L N ad M ++ X).set k (ad k, .inr (ci, (fld ad (M k) 0 fl).set j (.int v))) = wl cs L N ad M1 ++ X := by
    refine wl_set X hk ?_ (fun a ha => by rw [hM]; exact um_n M j v ha)
    rw [hL, hM, um_s, fld_s ad (M k) v fl 0 j hf, Nat.zero_add]
    rfl
  refine va_put (D := D) (ci := ci) (C := C) (T := T) (N := n) (ty := ty0 j) (v := .int v) hexec hb hts hin ty0 hty hnm hown hK hP hD hS k he hc j hj hlink hsame hfin (hty j hj) hn hfit (by rw [fld_len]; exact hl) hdg (fun H1 locs1 hP1 hD1 hS1 => ?_)
  rw [hset] at hP1 hD1
  exact kk H1 locs1 hP1 hD1 hS1
/-- a place of an int array read -/
theorem m_ld (hexec : p.tables.exec = Jvm.exec) (hb : c.code = cc) (hK : va_K D vwCl (tysC cs) s) (hP : va_P D vwCl (wl cs L N ad M ++ X) H) {k : Nat} (hk : k < N) {n : Nat} (hL : L k = shI n) {i : Int32} (hin : ¬ (i < 0 ∨ n ≤ i.toNatClampNeg)) (hdg : decode cc pc = .ok (.iaload, 1))
    (kk : W p l e R s m args below meth c H locs cells slots Q (F0 m (pc + 1) ls (.int (M k i.toNatClampNeg) :: rest))) : W p l e R s m args below meth c H locs cells slots Q (F0 m pc ls (.int i :: .ref (ad k) :: rest)) := by
  have he : (wl cs L N ad M ++ X)[k]? = some (ad k, .inl (cs.1, n, .inl (M k))) := by rw [wl_get X hk, hL]; rfl
  exact va_iald hexec hb hK hP k 0 he rfl hin hdg kk
/-- a place of an int array written -/
theorem m_st (hexec : p.tables.exec = Jvm.exec) (hb : c.code = cc) (hK : va_K D vwCl (tysC cs) s) (hP : va_P D vwCl (wl cs L N ad M ++ X) H) (hD : va_D A (wl cs L N ad M ++ X)) (hS : va_S A H0 H locs) {k : Nat} (hk : k < N) {n : Nat} (hL : L k = shI n) {i v : Int32} (hin : ¬ (i < 0 ∨ n ≤ i.toNatClampNeg)) (hdg : decode cc pc = .ok (.iastore, 1)) {M1 : Mm} (hM : M1 = um M k i.toNatClampNeg v)
    (kk : ∀ (H1 : Heap) (locs1 : List Loc), va_P D vwCl (wl cs L N ad M1 ++ X) H1 → va_D A (wl cs L N ad M1 ++ X) → va_S A H0 H1 locs1 → W p l e R s m args below meth c H1 locs1 cells slots Q (F0 m (pc + 1) ls rest)) : W p l e R s m args below meth c H locs cells slots Q (F0 m pc ls (.int v :: .int i :: .ref (ad k) :: rest)) := by
  have he : (wl cs L N ad M ++ X)[k]? = some (ad k, .inl (cs.1, n, .inl (M k))) := by rw [wl_get X hk, hL]; rfl
  have hset : (wl cs L N ad M ++ X).set k (ad k, .inl (cs.1, n, .inl (upd (M k) i.toNatClampNeg v))) = wl cs L N ad M1 ++ X := by
    refine wl_set X hk ?_ (fun a ha => by rw [hM]; exact um_n M _ v ha)
    rw [hL, hM, um_s]
    rfl
  refine va_iast hexec hb hK hP hD hS k 0 he rfl hin hdg (fun H1 locs1 hP1 hD1 hS1 => ?_)
  rw [hset] at hP1 hD1
  exact kk H1 locs1 hP1 hD1 hS1
/-- a place of an array of our objects read -/
theorem m_lq (hexec : p.tables.exec = Jvm.exec) (hb : c.code = cc) (hK : va_K D vwCl (tysC cs) s) (hP : va_P D vwCl (wl cs L N ad M ++ X) H) {k : Nat} (hk : k < N) {n : Nat} {g : Nat → Nat} (hL : L k = shR true n g) {i : Int32} (hin : ¬ (i < 0 ∨ n ≤ i.toNatClampNeg)) (hdg : decode cc pc = .ok (.aaload, 1))
    (kk : W p l e R s m args below meth c H locs cells slots Q (F0 m (pc + 1) ls (.ref (ad (g i.toNatClampNeg)) :: rest))) : W p l e R s m args below meth c H locs cells slots Q (F0 m pc ls (.int i :: .ref (ad k) :: rest)) := by
  have he : (wl cs L N ad M ++ X)[k]? = some (ad k, .inl (cs.2.1, n, .inr (.inr (.inr (.inr (fun i => some (ad (g i)))))))) := by rw [wl_get X hk, hL]; rfl
  exact va_aldq hexec hb hK hP k 1 he rfl hin hdg kk
/-- a row of an array of int arrays -/
theorem m_lr (hexec : p.tables.exec = Jvm.exec) (hb : c.code = cc) (hK : va_K D vwCl (tysC cs) s) (hP : va_P D vwCl (wl cs L N ad M ++ X) H) {k : Nat} (hk : k < N) {n : Nat} {g : Nat → Nat} (hL : L k = shR false n g) {i : Int32} (hin : ¬ (i < 0 ∨ n ≤ i.toNatClampNeg)) (hdg : decode cc pc = .ok (.aaload, 1))
    (kk : W p l e R s m args below meth c H locs cells slots Q (F0 m (pc + 1) ls (.ref (ad (g i.toNatClampNeg)) :: rest))) : W p l e R s m args below meth c H locs cells slots Q (F0 m pc ls (.int i :: .ref (ad k) :: rest)) := by
  have he : (wl cs L N ad M ++ X)[k]? = some (ad k, .inl (cs.2.2, n, .inr (.inr (.inr (.inr (fun i => some (ad (g i)))))))) := by rw [wl_get X hk, hL]; rfl
  have hlt : i.toNatClampNeg < n := Nat.not_le.mp fun q => hin (Or.inr q)
  exact W.aald (v := va_rf (some (ad (g i.toNatClampNeg)))) (ty := .array .int) hexec hb (hP k _ he) ((hK.2 2 _ rfl).1 n (fun j => va_rf (some (ad (g j))))) rfl (fun q => by cases q) (by show ¬ (i < 0 ∨ (arrV _ _ _).slots.size ≤ _); rw [arrV_size]; exact hin) (by show (arrV _ _ _).slots[_]? = _; rw [arrV_read _ _ hlt]) rfl rfl hdg kk
/-- an array's length -/
theorem m_ln (hexec : p.tables.exec = Jvm.exec) (hb : c.code = cc) (hK : va_K D vwCl (tysC cs) s) (hP : va_P D vwCl (wl cs L N ad M ++ X) H) {k : Nat} (hk : k < N) {n : Nat} (hL : L k = shI n) (hdg : decode cc pc = .ok (.arraylength, 1))
    (kk : W p l e R s m args below meth c H locs cells slots Q (F0 m (pc + 1) ls (.int (nI n) :: rest))) : W p l e R s m args below meth c H locs cells slots Q (F0 m pc ls (.ref (ad k) :: rest)) := by
  have he : (wl cs L N ad M ++ X)[k]? = some (ad k, .inl (cs.1, (n, .inl (M k)))) := by rw [wl_get X hk, hL]; rfl
  exact va_alen (v := nI n) hexec hb hK hP k 0 he (ty := .int) rfl rfl hdg kk
end FWR
/-! what the launch holds and nobody writes: literals, statics -/
def litT : List (String × Nat × String) := [(RX0, 19, "SP"), (RX0, 21, ""), (RX0, 23, "{P}"), (RX0, 25, "?ESR"), (RX0, 27, "!E;"), (RX0, 29, "#=E;"), (RX0, 31, ":S"), (RX0, 33, "TQ"), (RX0, 35, "+TQ"), (RX0, 37, "-TQ"), (RX0, 39, "FU"), (RX0, 41, "*FU"), (RX0, 43, "(E)"), (RX0, 45, "-F"), (RX0, 47, "#"), (RL, 11, "a=1;"), (RL, 13, "b=a+2;"), (RL, 15, "!a;"), (RL, 17, "?a!b;"), (RL, 19, "{"), (RL, 21, "}"), (RL, 23, ":c=3;"), (RL, 25, "!(a-1)*-2;"), (RL, 27, "d=d*3+1;"), (RL, 29, "!c"), (RL, 31, ";"), (RL, 33, "?b-a{"), (RL, 35, "a"), (RL, 37, "!d;")]
def litB : List (List Int32) := [[83, 80], [], [123, 80, 125], [63, 69, 83, 82], [33, 69, 59], [35, 61, 69, 59], [58, 83], [84, 81], [43, 84, 81], [45, 84, 81], [70, 85], [42, 70, 85], [40, 69, 41], [45, 70], [35], [97, 61, 49, 59], [98, 61, 97, 43, 50, 59], [33, 97, 59], [63, 97, 33, 98, 59], [123], [125], [58, 99, 61, 51, 59], [33, 40, 97, 45, 49, 41, 42, 45, 50, 59], [100, 61, 100, 42, 51, 43, 49, 59], [33, 99], [59], [63, 98, 45, 97, 123], [97], [33, 100, 59]]
def litL : List Nat := [2, 0, 3, 4, 3, 4, 2, 2, 3, 3, 2, 3, 3, 2, 1, 4, 6, 3, 5, 1, 1, 5, 10, 8, 2, 1, 5, 1, 3]
def msgT : List (Nat × String) := [(50, "a byte is no token"), (61, "too many items"), (203, "there is no such feature"), (79, "too many WHENs that are not finished"), (212, "there is no WHEN that is not finished"), (92, "the WHEN has an OTHERWISE"), (206, "there is no such item"), (208, "there is no such configuration"), (210, "there is no such index"), (214, "a WHEN is not finished"), (218, "the variant has an error"), (178, "there is no such value"), (183, "there is no such variable")]
def onF : Nat → Int32 := fun j => [43690, 52428, 61680, 65280].getD j 0
def exD : List String := ["java/lang/RuntimeException", "java/lang/Exception", "java/lang/Throwable"]
/-- the classes of exceptions, by their numbers -/
def exC : List String := ["java/lang/IllegalArgumentException", "java/lang/IllegalStateException", "java/lang/IndexOutOfBoundsException", "java/util/NoSuchElementException"]
/-- none of them is caught here -/
def exN : List String := []
def exn (k : Nat) : String := exC.getD k ""
abbrev Sw : Type := (Nat → Nat) × (Nat → Nat) × Nat
def SW (w : Sw) (A : Nat → Prop) (U : State) (H : Heap) : Prop :=
  vx_Zq Bundle.tN "UNASSIGNED_STACK" Bundle.steD A U H ∧ vx_Zq Bundle.tN "SUPPRESSED_SENTINEL" Bundle.listD A U H ∧ va_Zq RJ3 "SIOOBE_FORMATTER" "Ljava/util/function/BiFunction;" A U H ∧ va_Z RJ0 "COMPACT_STRINGS" "Z" (.int 1) A U H ∧ va_Z RX6 "ON_AT_FIRST" "[I" (.ref w.2.2) A U H ∧ va_T .int w.2.2 4 (fun j => .int (onF j)) A U H ∧ vk_S 29 litL litB w.1 w.2.1 A U H ∧ (∀ (i : Nat) (q : String × Nat × String), litT[i]? = some q → vk_R q.1 q.2.1 q.2.2 (w.1 i) U) ∧ (∀ q ∈ msgT, ∃ sa, vk_R RX7 q.1 q.2 sa U) ∧ (∀ Y ∈ exD, va_Nw (.declares (Bundle.initS Y)) U) ∧ (∀ Y ∈ exC, va_Nw (.castable Y Y) U) ∧ ∀ Y ∈ exN, ∀ Z ∈ exN, Y ≠ Z → va_Nc Y Z U
theorem SW.kept {w : Sw} {A : Nat → Prop} {U : State} {H H1 : Heap} (h : SW w A U H) (hq : ∀ a : Nat, a < H.size → ¬ A a → H1[a]? = H[a]?) : SW w A U H1 := by
  obtain ⟨h1, h2, h3, h4, h5, h6, h7, h8, h9, h10, h11, h12⟩ := h
  exact ⟨h1.kept hq, h2.kept hq, h3.kept hq, h4.kept hq, h5.kept hq, h6.kept hq, h7.kept hq, h8, h9, h10, h11, h12⟩
theorem SW.narrow {w : Sw} {A B : Nat → Prop} {U : State} {H : Heap} (h : SW w A U H) (hAB : ∀ q, B q → A q) : SW w B U H := by
  obtain ⟨h1, h2, h3, h4, h5, h6, h7, h8, h9, h10, h11, h12⟩ := h
  exact ⟨h1.narrow hAB, h2.narrow hAB, h3.narrow hAB, h4.narrow hAB, h5.narrow hAB, h6.narrow hAB, h7.narrow hAB, h8, h9, h10, h11, h12⟩
theorem SW.warm {w : Sw} {A : Nat → Prop} {s U : State} {H : Heap} (hW : s.WarmedH U.vm) (h : SW w A s H) : SW w A U H := by
  obtain ⟨h1, h2, h3, h4, h5, h6, h7, h8, h9, h10, h11, h12⟩ := h
  exact ⟨h1.moved hW.alike, h2.moved hW.alike, va_Zq.moved hW.alike h3, va_Z.moved hW.alike h4, va_Z.moved hW.alike h5, va_T.moved hW.alike h6, vk_S.moved hW.alike h7, fun i q hq => vk_R.warm hW (h8 i q hq), fun q hq => (h9 q hq).elim (fun sa h => ⟨sa, vk_R.warm hW h⟩), fun Y hY => va_Nw.warmD hW (h10 Y hY), fun Y hY => va_Nw.warmC hW (h11 Y hY), fun Y hY Z hZ hn => va_Nc.moved hW.alike (h12 Y hY Z hZ hn)⟩
theorem SW.same {w : Sw} {A : Nat → Prop} {u U : State} {H : Heap} (hv : U.vm = u.vm) (h : SW w A u H) : SW w A U H := by
  obtain ⟨h1, h2, h3, h4, h5, h6, h7, h8, h9, h10, h11, h12⟩ := h
  have ha : u.vm.Alike U.vm := by rw [hv]; exact Vm.Alike.refl u.vm
  exact ⟨h1.moved ha, h2.moved ha, va_Zq.moved ha h3, va_Z.moved ha h4, va_Z.moved ha h5, va_T.moved ha h6, vk_S.moved ha h7, fun i q hq => vk_R.same hv (h8 i q hq), fun q hq => (h9 q hq).elim (fun sa h => ⟨sa, vk_R.same hv h⟩), fun Y hY => va_Nw.same rfl hv.symm (h10 Y hY), fun Y hY => va_Nw.same rfl hv.symm (h11 Y hY), fun Y hY Z hZ hn => va_Nc.moved ha (h12 Y hY Z hZ hn)⟩
theorem SW.pass {w : Sw} {A B : Nat → Prop} {s U : State} {H : Heap} {locs : List Loc} (h : SW w A s s.heap) (hS : va_S A s.heap H locs) (hBA : ∀ q, B q → A q) (hU : U.heap = H) (hW : s.WarmedH U.vm) : SW w B U U.heap := by
  rw [hU]
  exact ((h.kept hS.2.1).narrow hBA).warm hW
/-- what a method that reads needs; what a method that writes needs -/
def rPre (D : va_G) (sw : Sw) (cs : Cs) (L : Nat → Sh) (N : Nat) (ad : Nat → Nat) (M : Mm) (X : va_W) (U : State) : Prop := va_P D vwCl (wl cs L N ad M ++ X) U.heap ∧ va_K D vwCl (tysC cs) U ∧ SW sw (fun _ => False) U U.heap
def wPre (D : va_G) (sw : Sw) (cs : Cs) (L : Nat → Sh) (N : Nat) (ad : Nat → Nat) (M : Mm) (X : va_W) (sz : Nat) (U : State) : Prop := U.heap.size = sz ∧ va_P D vwCl (wl cs L N ad M ++ X) U.heap ∧ va_K D vwCl (tysC cs) U ∧ va_D (fun _ => True) (wl cs L N ad M ++ X) ∧ SW sw (wA N ad X sz) U U.heap
/-- ends: an int and the memory; the memory -/
abbrev wQi (D : va_G) (cs : Cs) (L : Nat → Sh) (N : Nat) (ad : Nat → Nat) (M : Mm) (X : va_W) (sz : Nat) (r : Int32) := va_Qi (fun (r' : Int32) (_ : Unit) => r' = r) (fun _ t => va_P D vwCl (wl cs L N ad M ++ X) t.heap) (wA N ad X sz)
abbrev wQl (D : va_G) (cs : Cs) (L : Nat → Sh) (N : Nat) (ad : Nat → Nat) (M : Mm) (X : va_W) (sz : Nat) (r : Int64) := va_Ql (fun (r' : Int64) (_ : Unit) => r' = r) (fun _ t => va_P D vwCl (wl cs L N ad M ++ X) t.heap) (wA N ad X sz)
abbrev wQv (D : va_G) (cs : Cs) (L : Nat → Sh) (N : Nat) (ad : Nat → Nat) (M : Mm) (X : va_W) (sz : Nat) := va_Qv (fun (_ : Unit) => True) (fun _ t => va_P D vwCl (wl cs L N ad M ++ X) t.heap) (wA N ad X sz)
section FWC
variable {p : Program} {l : Launch} {e : Env} {R : Room} {s : State} {m : MethodId} {args : Array Value} {below : List Frame} {meth : Method} {c : Code} {H H0 : Heap} {locs : List Loc} {cells slots : Nat} {Q : State → Prop} {cc : ByteArray} {pc : Nat} {ls : Array Slot} {rest st0 : List Value} {D : va_G} {A : Nat → Prop} {cs : Cs} {L : Nat → Sh} {N : Nat} {ad : Nat → Nat} {M M1 : Mm} {X : va_W} {mc ms : Nat} {a : Array Value}
theorem rPre_blind {sw : Sw} (av : List Value) : FrameBlind (va_Pc av (rPre D sw cs L N ad M X)) := fun _ U _ _ q => ⟨q.1, q.2.1, va_K.moved (u := U) (U := U.calling _ _ _) (Vm.Alike.refl U.vm) q.2.2.1, SW.same (u := U) (U := U.calling _ _ _) rfl q.2.2.2⟩
theorem wPre_blind {sw : Sw} (av : List Value) (sz : Nat) : FrameBlind (va_Pc av (wPre D sw cs L N ad M X sz)) := fun _ U _ _ q => ⟨q.1, q.2.1, q.2.2.1, va_K.moved (u := U) (U := U.calling _ _ _) (Vm.Alike.refl U.vm) q.2.2.2.1, q.2.2.2.2.1, SW.same (u := U) (U := U.calling _ _ _) rfl q.2.2.2.2.2⟩
theorem pPre_blind (av : List Value) : FrameBlind (va_Pc av (fun _ => True)) := fun _ _ _ _ q => q
theorem SW.r {sw : Sw} {U : State} (hSW : SW sw (fun _ => False) s H) (hU : U.heap = H) (hW : s.WarmedH U.vm) : SW sw (fun _ => False) U U.heap := by rw [hU]; exact hSW.warm hW
theorem SW.wr {sw : Sw} (hSW : SW sw A s s.heap) (hS : va_S A s.heap H locs) : SW sw (fun _ => False) s H := (hSW.kept hS.2.1).narrow (fun _ h => h.elim)
theorem w_recv (hK : va_K D vwCl (tysC cs) s) (hP : va_P D vwCl (wl cs L N ad M ++ X) H) {k : Nat} (hk : k < N) {ci : Nat} {fl : List (Option Nat)} (hL : L k = shO ci fl) {C : String} {T : u_T} {n : Nat} (hc : vwCl[ci]? = some (C, T, n)) : ∃ cellB : Cell, H[ad k]? = some cellB ∧ cellB.vm.isStatics = false ∧ s.vm.findClass C = some cellB.cls :=
  va_recv hK hP (ci := ci) (q0 := k) hc (by rw [wl_get X hk, hL]; rfl)
theorem rPreV {sw : Sw} (hSW : SW sw (fun _ => False) s H) (hK : va_K D vwCl (tysC cs) s) (hP : va_P D vwCl (wl cs L N ad M ++ X) H) {k : Nat} (hk : k < N) {ci : Nat} {fl : List (Option Nat)} (hL : L k = shO ci fl) {C : String} {T : u_T} {n : Nat} (hc : vwCl[ci]? = some (C, T, n)) (As : List Value) : PreV s H C (ad k) (va_Pc (.ref (ad k) :: As) (rPre D sw cs L N ad M X)) As :=
  ⟨rPre_blind _, w_recv hK hP hk hL hc, fun U hU hW => ⟨rfl, by rw [hU]; exact hP, va_K.moved hW.alike hK, hSW.r hU hW⟩⟩
theorem rPreS {sw : Sw} (hSW : SW sw (fun _ => False) s H) (hK : va_K D vwCl (tysC cs) s) (hP : va_P D vwCl (wl cs L N ad M ++ X) H) (As : List Value) : PreS s H (va_Pc As (rPre D sw cs L N ad M X)) As :=
  ⟨rPre_blind _, fun U hU hW => ⟨rfl, by rw [hU]; exact hP, va_K.moved hW.alike hK, hSW.r hU hW⟩⟩
theorem pPreS (As : List Value) : PreS s H (va_Pc As (fun _ => True)) As := ⟨pPre_blind _, fun _ _ _ => ⟨rfl, trivial⟩⟩
theorem wPreV {sw : Sw} (hSW : SW sw A s s.heap) (hS : va_S A s.heap H locs) (hA : ∀ q, s.heap.size ≤ q → A q) (hK : va_K D vwCl (tysC cs) s) (hP : va_P D vwCl (wl cs L N ad M ++ X) H) (hD : va_D A (wl cs L N ad M ++ X)) {k : Nat} (hk : k < N) {ci : Nat} {fl : List (Option Nat)} (hL : L k = shO ci fl) {C : String} {T : u_T} {n : Nat} (hc : vwCl[ci]? = some (C, T, n)) (As : List Value) : PreV s H C (ad k) (va_Pc (.ref (ad k) :: As) (wPre D sw cs L N ad M X H.size)) As :=
  ⟨wPre_blind _ _, w_recv hK hP hk hL hc, fun U hU hW => ⟨rfl, by rw [hU], by rw [hU]; exact hP, va_K.moved hW.alike hK, hD.weaken (fun _ _ _ _ => trivial), hSW.pass hS (wA_free hD hS hA) hU hW⟩⟩
theorem wPreS {sw : Sw} (hSW : SW sw A s s.heap) (hS : va_S A s.heap H locs) (hA : ∀ q, s.heap.size ≤ q → A q) (hK : va_K D vwCl (tysC cs) s) (hP : va_P D vwCl (wl cs L N ad M ++ X) H) (hD : va_D A (wl cs L N ad M ++ X)) (As : List Value) : PreS s H (va_Pc As (wPre D sw cs L N ad M X H.size)) As :=
  ⟨wPre_blind _ _, fun U hU hW => ⟨rfl, by rw [hU], by rw [hU]; exact hP, va_K.moved hW.alike hK, hD.weaken (fun _ _ _ _ => trivial), hSW.pass hS (wA_free hD hS hA) hU hW⟩⟩
theorem r_calli {r : Int32} (hr : CallRun p l e R s m args below meth c H locs cells slots 0 0 (F0 m pc ls st0) rest (vp_Si (fun r' => r' = r) a) (fun _ => False))
    (kk : W p l e R s m args below meth c H locs cells slots Q (F0 m (pc + 3) ls (.int r :: rest))) : W p l e R s m args below meth c H locs cells slots Q (F0 m pc ls st0) := vp_callSi hr (fun r' h => by subst h; exact kk)
theorem r_calll {r : Int64} (hr : CallRun p l e R s m args below meth c H locs cells slots 0 0 (F0 m pc ls st0) rest (vp_Sl (fun r' => r' = r) a) (fun _ => False))
    (kk : W p l e R s m args below meth c H locs cells slots Q (F0 m (pc + 3) ls (.long r :: rest))) : W p l e R s m args below meth c H locs cells slots Q (F0 m pc ls st0) := vp_callSl hr (fun r' h => by subst h; exact kk)
theorem w_calli {r : Int32} (hr : va_Run p l e R s m args below meth c H locs cells slots mc ms (F0 m pc ls st0) rest (wQi D cs L N ad M1 X H.size r a) (wA N ad X H.size)) (hD : va_D A (wl cs L N ad M ++ X)) (hS : va_S A H0 H locs) (hA : ∀ q, H0.size ≤ q → A q)
    (kk : ∀ (H1 : Heap) (locs1 : List Loc), va_P D vwCl (wl cs L N ad M1 ++ X) H1 → va_D A (wl cs L N ad M1 ++ X) → va_S A H0 H1 locs1 → W p l e R s m args below meth c H1 locs1 (cells + mc) (slots + ms) Q (F0 m (pc + 3) ls (.int r :: rest))) : W p l e R s m args below meth c H locs cells slots Q (F0 m pc ls st0) :=
  va_calli hr hS (fun q _ h => wA_free hD hS hA q h) (wA_free hD hS hA) (fun r' u t H1 locs1 ht _ hw hB _ _ hS1 => by subst hw; rw [ht] at hB; exact kk H1 locs1 hB (wl_D M1 hD) hS1)
theorem w_calll {r : Int64} (hr : va_Run p l e R s m args below meth c H locs cells slots mc ms (F0 m pc ls st0) rest (wQl D cs L N ad M1 X H.size r a) (wA N ad X H.size)) (hD : va_D A (wl cs L N ad M ++ X)) (hS : va_S A H0 H locs) (hA : ∀ q, H0.size ≤ q → A q)
    (kk : ∀ (H1 : Heap) (locs1 : List Loc), va_P D vwCl (wl cs L N ad M1 ++ X) H1 → va_D A (wl cs L N ad M1 ++ X) → va_S A H0 H1 locs1 → W p l e R s m args below meth c H1 locs1 (cells + mc) (slots + ms) Q (F0 m (pc + 3) ls (.long r :: rest))) : W p l e R s m args below meth c H locs cells slots Q (F0 m pc ls st0) :=
  va_calll hr hS (fun q _ h => wA_free hD hS hA q h) (wA_free hD hS hA) (fun r' u t H1 locs1 ht _ hw hB _ _ hS1 => by subst hw; rw [ht] at hB; exact kk H1 locs1 hB (wl_D M1 hD) hS1)
theorem w_callv (hr : va_Run p l e R s m args below meth c H locs cells slots mc ms (F0 m pc ls st0) rest (wQv D cs L N ad M1 X H.size a) (wA N ad X H.size)) (hD : va_D A (wl cs L N ad M ++ X)) (hS : va_S A H0 H locs) (hA : ∀ q, H0.size ≤ q → A q)
    (kk : ∀ (H1 : Heap) (locs1 : List Loc), va_P D vwCl (wl cs L N ad M1 ++ X) H1 → va_D A (wl cs L N ad M1 ++ X) → va_S A H0 H1 locs1 → W p l e R s m args below meth c H1 locs1 (cells + mc) (slots + ms) Q (F0 m (pc + 3) ls rest)) : W p l e R s m args below meth c H locs cells slots Q (F0 m pc ls st0) :=
  va_callv hr hS (fun q _ h => wA_free hD hS hA q h) (wA_free hD hS hA) (fun u t H1 locs1 ht _ _ hB _ _ hS1 => by rw [ht] at hB; exact kk H1 locs1 hB (wl_D M1 hD) hS1)
end FWC
/-! small rows of the programs that lay the walks -/
theorem if_t {c : Prop} [Decidable c] {α : Sort _} {a b r : α} (hg : (if c then a else b) = r) (h : c) : a = r := by rw [if_pos h] at hg; exact hg
theorem if_f {c : Prop} [Decidable c] {α : Sort _} {a b r : α} (hg : (if c then a else b) = r) (h : ¬ c) : b = r := by rw [if_neg h] at hg; exact hg
theorem ck_e {c : Prop} [Decidable c] {α : Type} {a r : Option α} (hg : (if c then none else a) = r) (hne : r ≠ none) : ¬ c ∧ a = r := by
  by_cases h : c
  · rw [if_pos h] at hg
    exact absurd hg.symm hne
  · rw [if_neg h] at hg
    exact ⟨h, hg⟩
def bd {α β : Type} (x : Option α) (f : α → Option β) : Option β := match x with
  | none => none
  | some a => f a
def bd2 {α β γ : Type} (x : Option (α × β)) (f : α → β → Option γ) : Option γ := match x with
  | none => none
  | some q => f q.1 q.2
theorem bd_e {α β : Type} {x : Option α} {f : α → Option β} {r : Option β} (h : bd x f = r) (hne : r ≠ none) : ∃ a, x = some a ∧ f a = r := by
  cases x with
  | none => exact absurd h.symm hne
  | some a => exact ⟨a, rfl, h⟩
theorem bd2_e {α β γ : Type} {x : Option (α × β)} {f : α → β → Option γ} {r : Option γ} (h : bd2 x f = r) (hne : r ≠ none) : ∃ a b, x = some (a, b) ∧ f a b = r := by
  cases x with
  | none => exact absurd h.symm hne
  | some q => exact ⟨q.1, q.2, rfl, h⟩
theorem bd_s {α β : Type} (a : α) (f : α → Option β) : bd (some a) f = f a := rfl
theorem bd2_s {α β γ : Type} (a : α) (b : β) (f : α → β → Option γ) : bd2 (some (a, b)) f = f a b := rfl
theorem lf1 {α δ ρ : Type} {f : α → δ} {k : (α → δ) → ρ} {r : ρ} (h : lt f k = r) : ∃ J : α → δ, (∀ a, J a = f a) ∧ k J = r := ⟨f, fun _ => rfl, h⟩
theorem lf2 {α β δ ρ : Type} {f : α → β → δ} {k : (α → β → δ) → ρ} {r : ρ} (h : lt f k = r) : ∃ J : α → β → δ, (∀ a b, J a b = f a b) ∧ k J = r := ⟨f, fun _ _ => rfl, h⟩
theorem lf3 {α β γ δ ρ : Type} {f : α → β → γ → δ} {k : (α → β → γ → δ) → ρ} {r : ρ} (h : lt f k = r) : ∃ J : α → β → γ → δ, (∀ a b c, J a b c = f a b c) ∧ k J = r := ⟨f, fun _ _ _ => rfl, h⟩
theorem lf4 {α β γ ε δ ρ : Type} {f : α → β → γ → ε → δ} {k : (α → β → γ → ε → δ) → ρ} {r : ρ} (h : lt f k = r) : ∃ J : α → β → γ → ε → δ, (∀ a b c d, J a b c d = f a b c d) ∧ k J = r := ⟨f, fun _ _ _ _ => rfl, h⟩
theorem lf5 {α β γ ε ζ δ ρ : Type} {f : α → β → γ → ε → ζ → δ} {k : (α → β → γ → ε → ζ → δ) → ρ} {r : ρ} (h : lt f k = r) : ∃ J : α → β → γ → ε → ζ → δ, (∀ a b c d e, J a b c d e = f a b c d e) ∧ k J = r := ⟨f, fun _ _ _ _ _ => rfl, h⟩
theorem lf6 {α β γ ε ζ η δ ρ : Type} {f : α → β → γ → ε → ζ → η → δ} {k : (α → β → γ → ε → ζ → η → δ) → ρ} {r : ρ} (h : lt f k = r) : ∃ J : α → β → γ → ε → ζ → η → δ, (∀ a b c d e g, J a b c d e g = f a b c d e g) ∧ k J = r := ⟨f, fun _ _ _ _ _ _ => rfl, h⟩
theorem lf7 {α β γ ε ζ η θ δ ρ : Type} {f : α → β → γ → ε → ζ → η → θ → δ} {k : (α → β → γ → ε → ζ → η → θ → δ) → ρ} {r : ρ} (h : lt f k = r) : ∃ J : α → β → γ → ε → ζ → η → θ → δ, (∀ a b c d e g i, J a b c d e g i = f a b c d e g i) ∧ k J = r := ⟨f, fun _ _ _ _ _ _ _ => rfl, h⟩
theorem lf8 {α β γ ε ζ η θ ι δ ρ : Type} {f : α → β → γ → ε → ζ → η → θ → ι → δ} {k : (α → β → γ → ε → ζ → η → θ → ι → δ) → ρ} {r : ρ} (h : lt f k = r) : ∃ J : α → β → γ → ε → ζ → η → θ → ι → δ, (∀ a b c d e g i j, J a b c d e g i j = f a b c d e g i j) ∧ k J = r := ⟨f, fun _ _ _ _ _ _ _ _ => rfl, h⟩
theorem z01 {v : Int32} (h : ¬ ¬ (v = 0 ∨ v = 1)) : narrow .boolean (.int v) = .int v := by
  rcases Decidable.not_not.mp h with rfl | rfl <;> rfl
theorem zif {c : Prop} [Decidable c] {a b : Int32} (ha : narrow .boolean (.int a) = .int a) (hb : narrow .boolean (.int b) = .int b) : narrow .boolean (.int (if c then a else b)) = .int (if c then a else b) := by
  by_cases h : c
  · rw [if_pos h]; exact ha
  · rw [if_neg h]; exact hb
theorem ix_lt {i : Int32} {n v : Nat} (h : ¬ (i < 0 ∨ n ≤ i.toNatClampNeg)) (hv : v = i.toNatClampNeg) : v < n := by
  rw [hv]
  exact Nat.not_le.mp fun q => h (Or.inr q)
/-- the loops' fuel -/
def FU : Nat := 2000
section FWT
variable {p : Program} {l : Launch} {e : Env} {R : Room} {s : State} {m : MethodId} {args : Array Value} {below : List Frame} {meth : Method} {c : Code} {H : Heap} {locs : List Loc} {cells slots : Nat} {Q : State → Prop} {pc : Nat} {ls : Array Slot} {rest : List Value}
theorem top_i {x y : Int32} (h : y = x) (k : W p l e R s m args below meth c H locs cells slots Q (F0 m pc ls (.int y :: rest))) : W p l e R s m args below meth c H locs cells slots Q (F0 m pc ls (.int x :: rest)) := by subst h; exact k
theorem top_l {x y : Int64} (h : y = x) (k : W p l e R s m args below meth c H locs cells slots Q (F0 m pc ls (.long y :: rest))) : W p l e R s m args below meth c H locs cells slots Q (F0 m pc ls (.long x :: rest)) := by subst h; exact k
end FWT
theorem wpost {D : va_G} {cs : Cs} {L : Nat → Sh} {N : Nat} {ad : Nat → Nat} {M M1 : Mm} {X : va_W} {H : Heap} {t : State} (hP : va_P D vwCl (wl cs L N ad M ++ X) H) (ht : t.heap = H) (hM : M = M1) : va_P D vwCl (wl cs L N ad M1 ++ X) t.heap := by rw [ht, ← hM]; exact hP
/-! contracts out of walks -/
theorem met_p {l : Launch} {y : MethodName} {ws ws' : List Cond} {rm : Room} {cc : ByteArray} {maxL : Nat} {ret : Option FieldType} {As : List Value} {Qc : Array Value → State → Outcome → State → Prop} {mc ms : Nat} {free : Addr → Prop} (hy : plainName y.cls = true) (hw : ws = Cond.code y cc maxL ret :: ws') (hn : (lg_sl As).length ≤ maxL)
    (body : ∀ (p : Program) (e : Env) (s : State) (m : MethodId) (args : Array Value) (below : List Frame) (meth : Method) (c : Code) (ls : Array Slot), CallFix p m c cc maxL s args ws y.cls → meth.sig.returnType = ret → meth.locks = false → lv_has ls maxL (lv_args 0 As) → W p l e rm s m args below meth c s.heap [] 0 0 (MQ below Qc args s mc ms free) (F0 m 0 ls [])) : Met l y ws rm (va_Pc As (fun _ => True)) Qc mc ms free := by
  refine Met.ofW (cc := cc) (maxL := maxL) (ret := ret) hy hw ?_
  intro p e s m args below meth c s₁ B hml hv
  obtain ⟨rfl, -⟩ := hv
  have hl := lv_entry As (n := maxL) hn
  rw [lg_entry_eq]
  exact body p e s m _ below meth c _ ⟨B.exec, B.bytes, hml, findClass_of_methodNamed B.named, atoms_spec (ws := ws) B.pre⟩ B.returns B.notSynchronized hl
theorem met_r {l : Launch} {y : MethodName} {ws ws' : List Cond} {rm : Room} {cc : ByteArray} {maxL : Nat} {ret : Option FieldType} {As : List Value} {Qc : Array Value → State → Outcome → State → Prop} {mc ms : Nat} {free : Addr → Prop} {D : va_G} {sw : Sw} {cs : Cs} {L : Nat → Sh} {N : Nat} {ad : Nat → Nat} {M : Mm} {X : va_W} (hy : plainName y.cls = true) (hw : ws = Cond.code y cc maxL ret :: ws') (hn : (lg_sl As).length ≤ maxL)
    (body : ∀ (p : Program) (e : Env) (s : State) (m : MethodId) (args : Array Value) (below : List Frame) (meth : Method) (c : Code) (ls : Array Slot), CallFix p m c cc maxL s args ws y.cls → meth.sig.returnType = ret → meth.locks = false → va_K D vwCl (tysC cs) s → SW sw (fun _ => False) s s.heap → va_P D vwCl (wl cs L N ad M ++ X) s.heap → lv_has ls maxL (lv_args 0 As) → W p l e rm s m args below meth c s.heap [] 0 0 (MQ below Qc args s mc ms free) (F0 m 0 ls [])) : Met l y ws rm (va_Pc As (rPre D sw cs L N ad M X)) Qc mc ms free := by
  refine Met.ofW (cc := cc) (maxL := maxL) (ret := ret) hy hw ?_
  intro p e s m args below meth c s₁ B hml hv
  obtain ⟨rfl, hP, hK, hSW⟩ := hv
  have hl := lv_entry As (n := maxL) hn
  rw [lg_entry_eq]
  exact body p e s m _ below meth c _ ⟨B.exec, B.bytes, hml, findClass_of_methodNamed B.named, atoms_spec (ws := ws) B.pre⟩ B.returns B.notSynchronized hK hSW hP hl
theorem met_w {l : Launch} {y : MethodName} {ws ws' : List Cond} {rm : Room} {cc : ByteArray} {maxL : Nat} {ret : Option FieldType} {As : List Value} {Qc : Array Value → State → Outcome → State → Prop} {mc ms : Nat} {free : Addr → Prop} {D : va_G} {sw : Sw} {cs : Cs} {L : Nat → Sh} {N : Nat} {ad : Nat → Nat} {M : Mm} {X : va_W} {sz : Nat} (hy : plainName y.cls = true) (hw : ws = Cond.code y cc maxL ret :: ws') (hn : (lg_sl As).length ≤ maxL)
    (body : ∀ (p : Program) (e : Env) (s : State) (m : MethodId) (args : Array Value) (below : List Frame) (meth : Method) (c : Code) (ls : Array Slot), CallFix p m c cc maxL s args ws y.cls → meth.sig.returnType = ret → meth.locks = false → va_K D vwCl (tysC cs) s → SW sw (wA N ad X sz) s s.heap → va_P D vwCl (wl cs L N ad M ++ X) s.heap → va_D (wA N ad X sz) (wl cs L N ad M ++ X) → va_S (wA N ad X sz) s.heap s.heap [] → (∀ q, s.heap.size ≤ q → wA N ad X sz q) → lv_has ls maxL (lv_args 0 As) → W p l e rm s m args below meth c s.heap [] 0 0 (MQ below Qc args s mc ms free) (F0 m 0 ls [])) : Met l y ws rm (va_Pc As (wPre D sw cs L N ad M X sz)) Qc mc ms free := by
  refine Met.ofW (cc := cc) (maxL := maxL) (ret := ret) hy hw ?_
  intro p e s m args below meth c s₁ B hml hv
  obtain ⟨rfl, hsz, hP, hK, hD, hSW⟩ := hv
  have hl := lv_entry As (n := maxL) hn
  rw [lg_entry_eq]
  exact body p e s m _ below meth c _ ⟨B.exec, B.bytes, hml, findClass_of_methodNamed B.named, atoms_spec (ws := ws) B.pre⟩ B.returns B.notSynchronized hK hSW hP (wA_D hD) va_S.rf (fun q h => Or.inr (Or.inr (by rw [← hsz]; exact h))) hl
/-! the two layouts -/
def vb (c : Nat) : Nat := 15 + 10 * c
def ob (f : Nat) : Nat := 6 + f
def NC : Nat := 175
def lc0 : List Sh := [shO 5 [some 1, some 3, some 13, some 14, none], shO 2 [some 2, none], shI 80, shO 4 [some 4, some 5, some 10, some 11, some 12, none, none], shI 80, shR false 4 ob, shI 80, shI 80, shI 80, shI 80, shI 4, shI 5, shI 5, shR true 16 vb, shI 80]
def lcv (b : Nat) : List Sh := [shO 3 [some (b + 1), some (b + 2), none, some (b + 3), some (b + 6)], shI 80, shI 80, shO 0 [some (b + 4), none, some (b + 5), none, none], shI 320, shI 80, shO 1 [some (b + 7), none, none, some (b + 8), some (b + 9), none], shI 80, shI 4, shI 80]
def LC : Nat → Sh := fun k => if k < 15 then lc0.getD k (shI 0) else (lcv (vb ((k - 15) / 10))).getD ((k - 15) % 10) (shI 0)
theorem LC_vj (c j : Nat) (hj : j < 10) : LC (vb c + j) = (lcv (vb c)).getD j (shI 0) := by
  unfold LC
  rw [if_neg (by unfold vb; omega), show (vb c + j - 15) / 10 = c by unfold vb; omega, show (vb c + j - 15) % 10 = j by unfold vb; omega]
theorem LC_VAR (c : Nat) : LC (vb c) = shO 3 [some (vb c + 1), some (vb c + 2), none, some (vb c + 3), some (vb c + 6)] := LC_vj c 0 (by decide)
theorem LC_VTOK (c : Nat) : LC (vb c + 1) = shI 80 := LC_vj c 1 (by decide)
theorem LC_VPL (c : Nat) : LC (vb c + 2) = shI 80 := LC_vj c 2 (by decide)
theorem LC_RDG (c : Nat) : LC (vb c + 3) = shO 0 [some (vb c + 4), none, some (vb c + 5), none, none] := LC_vj c 3 (by decide)
theorem LC_SYM (c : Nat) : LC (vb c + 4) = shI 320 := LC_vj c 4 (by decide)
theorem LC_HTS (c : Nat) : LC (vb c + 5) = shI 80 := LC_vj c 5 (by decide)
theorem LC_RUN (c : Nat) : LC (vb c + 6) = shO 1 [some (vb c + 7), none, none, some (vb c + 8), some (vb c + 9), none] := LC_vj c 6 (by decide)
theorem LC_RTOK (c : Nat) : LC (vb c + 7) = shI 80 := LC_vj c 7 (by decide)
theorem LC_RVARS (c : Nat) : LC (vb c + 8) = shI 4 := LC_vj c 8 (by decide)
theorem LC_ROUT (c : Nat) : LC (vb c + 9) = shI 80 := LC_vj c 9 (by decide)
theorem LC_ob {f : Nat} (h : f < 4) : LC (ob f) = shI 80 := by
  rcases (show f = 0 ∨ f = 1 ∨ f = 2 ∨ f = 3 by omega) with rfl | rfl | rfl | rfl <;> rfl
theorem kC_v0 {c : Nat} (hc : c < 16) : vb c < NC := by unfold vb NC; omega
theorem kC_v {c j : Nat} (hc : c < 16) (hj : j < 10) : vb c + j < NC := by unfold vb NC; omega
theorem kC_ob {f : Nat} (h : f < 4) : ob f < NC := by unfold ob NC; omega
/-! what stands in SW, by names; methods that need no more than that -/
section FWS
variable {w : Sw} {A : Nat → Prop} {U : State} {H : Heap}
theorem SW.us (h : SW w A U H) : vx_Zq Bundle.tN "UNASSIGNED_STACK" Bundle.steD A U H := h.1
theorem SW.sp (h : SW w A U H) : vx_Zq Bundle.tN "SUPPRESSED_SENTINEL" Bundle.listD A U H := h.2.1
theorem SW.fm (h : SW w A U H) : ∃ v : Value, (v = .null ∨ ∃ t, v = .ref t) ∧ va_Z RJ3 "SIOOBE_FORMATTER" "Ljava/util/function/BiFunction;" v A U H := by
  rcases h.2.2.1 with z | ⟨t, z⟩
  · exact ⟨_, Or.inl rfl, z⟩
  · exact ⟨_, Or.inr ⟨t, rfl⟩, z⟩
theorem SW.cs (h : SW w A U H) : va_Z RJ0 "COMPACT_STRINGS" "Z" (.int 1) A U H := h.2.2.2.1
theorem SW.on (h : SW w A U H) : va_Z RX6 "ON_AT_FIRST" "[I" (.ref w.2.2) A U H := h.2.2.2.2.1
theorem SW.ot (h : SW w A U H) : va_T .int w.2.2 4 (fun j => .int (onF j)) A U H := h.2.2.2.2.2.1
theorem SW.st (h : SW w A U H) : vk_S 29 litL litB w.1 w.2.1 A U H := h.2.2.2.2.2.2.1
theorem SW.li (h : SW w A U H) : ∀ (i : Nat) (q : String × Nat × String), litT[i]? = some q → vk_R q.1 q.2.1 q.2.2 (w.1 i) U := h.2.2.2.2.2.2.2.1
theorem SW.ms (h : SW w A U H) : ∀ q ∈ msgT, ∃ sa, vk_R RX7 q.1 q.2 sa U := h.2.2.2.2.2.2.2.2.1
theorem SW.de (h : SW w A U H) : ∀ Y ∈ exD, va_Nw (.declares (Bundle.initS Y)) U := h.2.2.2.2.2.2.2.2.2.1
theorem SW.ca (h : SW w A U H) : ∀ Y ∈ exC, va_Nw (.castable Y Y) U := h.2.2.2.2.2.2.2.2.2.2.1
theorem SW.nc (h : SW w A U H) : ∀ Y ∈ exN, ∀ Z ∈ exN, Y ≠ Z → va_Nc Y Z U := h.2.2.2.2.2.2.2.2.2.2.2
end FWS
def sPre (sw : Sw) (U : State) : Prop := SW sw (fun _ => False) U U.heap
section FWS2
variable {p : Program} {l : Launch} {e : Env} {R : Room} {s : State} {m : MethodId} {args : Array Value} {below : List Frame} {meth : Method} {c : Code} {H : Heap} {locs : List Loc} {cells slots : Nat} {Q : State → Prop} {pc : Nat} {ls : Array Slot} {rest st0 : List Value} {a : Array Value} {sw : Sw}
theorem sPre_blind (av : List Value) : FrameBlind (va_Pc av (sPre sw)) := fun _ U _ _ q => ⟨q.1, SW.same (u := U) (U := U.calling _ _ _) rfl q.2⟩
theorem sPreV (hSW : SW sw (fun _ => False) s H) {i : Nat} (hi : i < 29) (As : List Value) : PreV s H "java/lang/String" (sw.1 i) (va_Pc (.ref (sw.1 i) :: As) (sPre sw)) As := by
  refine ⟨sPre_blind _, ?_, fun U hU hW => ⟨rfl, hSW.r hU hW⟩⟩
  obtain ⟨cell, h1, h2, h3, -⟩ := (hSW.st.1 i hi).1
  exact ⟨cell, h1, h2, h3⟩
theorem sPreS (hSW : SW sw (fun _ => False) s H) (As : List Value) : PreS s H (va_Pc As (sPre sw)) As := ⟨sPre_blind _, fun U hU hW => ⟨rfl, hSW.r hU hW⟩⟩
/-- a text or null, by its place among the literals -/
def om {β : Type} (o : Option Nat) (a : β) (f : Nat → β) : β := match o with
  | none => a
  | some i => f i
theorem om_e {β : Type} {o : Option Nat} {a r : β} {f : Nat → β} (h : om o a f = r) : (o = none ∧ a = r) ∨ ∃ i, o = some i ∧ f i = r := by
  cases o with
  | none => exact Or.inl ⟨rfl, h⟩
  | some i => exact Or.inr ⟨i, rfl, h⟩
theorem s_callN {o : Option Nat} (ho : o = none) (hr : CallRun p l e R s m args below meth c H locs cells slots 0 0 (F0 m pc ls st0) rest (va_Sq (fun r' => r' = o.map sw.1) a) (fun _ => False))
    (kk : W p l e R s m args below meth c H locs cells slots Q (F0 m (pc + 3) ls (.null :: rest))) : W p l e R s m args below meth c H locs cells slots Q (F0 m pc ls st0) := va_csq hr (fun r' h => by subst ho; subst h; exact kk)
theorem s_callS {o : Option Nat} {i : Nat} (ho : o = some i) (hr : CallRun p l e R s m args below meth c H locs cells slots 0 0 (F0 m pc ls st0) rest (va_Sq (fun r' => r' = o.map sw.1) a) (fun _ => False))
    (kk : W p l e R s m args below meth c H locs cells slots Q (F0 m (pc + 3) ls (.ref (sw.1 i) :: rest))) : W p l e R s m args below meth c H locs cells slots Q (F0 m pc ls st0) := va_csq hr (fun r' h => by subst ho; subst h; exact kk)
end FWS2
theorem met_s {l : Launch} {y : MethodName} {ws ws' : List Cond} {rm : Room} {cc : ByteArray} {maxL : Nat} {ret : Option FieldType} {As : List Value} {Qc : Array Value → State → Outcome → State → Prop} {mc ms : Nat} {free : Addr → Prop} {sw : Sw} (hy : plainName y.cls = true) (hw : ws = Cond.code y cc maxL ret :: ws') (hn : (lg_sl As).length ≤ maxL)
    (body : ∀ (p : Program) (e : Env) (s : State) (m : MethodId) (args : Array Value) (below : List Frame) (meth : Method) (c : Code) (ls : Array Slot), CallFix p m c cc maxL s args ws y.cls → meth.sig.returnType = ret → meth.locks = false → SW sw (fun _ => False) s s.heap → lv_has ls maxL (lv_args 0 As) → W p l e rm s m args below meth c s.heap [] 0 0 (MQ below Qc args s mc ms free) (F0 m 0 ls [])) : Met l y ws rm (va_Pc As (sPre sw)) Qc mc ms free := by
  refine Met.ofW (cc := cc) (maxL := maxL) (ret := ret) hy hw ?_
  intro p e s m args below meth c s₁ B hml hv
  obtain ⟨rfl, hSW⟩ := hv
  have hl := lv_entry As (n := maxL) hn
  rw [lg_entry_eq]
  exact body p e s m _ below meth c _ ⟨B.exec, B.bytes, hml, findClass_of_methodNamed B.named, atoms_spec (ws := ws) B.pre⟩ B.returns B.notSynchronized hSW hl
/-! arrays that a method makes for itself: behind the caller's other cells -/
theorem xg {X l : va_W} {j : Nat} {e : Nat × va_E} (h : l[j]? = some e) : (X ++ l)[X.length + j]? = some e := by rw [List.getElem?_append_right (by omega), Nat.add_sub_cancel_left]; exact h
theorem xs {X l : va_W} {j : Nat} (e : Nat × va_E) : (X ++ l).set (X.length + j) e = X ++ l.set j e := by rw [List.set_append_right _ _ (by omega), Nat.add_sub_cancel_left]
theorem w_drop {D : va_G} {cl : List vw_C} {w X l : va_W} {H : Heap} (h : va_P D cl (w ++ (X ++ l)) H) : va_P D cl (w ++ X) H := by rw [← List.append_assoc] at h; exact w_left h
theorem w_dropD {A : Nat → Prop} {w X l : va_W} (h : va_D A (w ++ (X ++ l))) : va_D A (w ++ X) := by
  rw [← List.append_assoc] at h
  have key : ∀ (i : Nat) (q : Nat × va_E), (w ++ X)[i]? = some q → ((w ++ X) ++ l)[i]? = some q := fun i q hi => by rw [List.getElem?_append_left (List.getElem?_eq_some_iff.mp hi).1]; exact hi
  exact ⟨fun i j p q hi hj e => h.1 i j p q (key i p hi) (key j q hj) e, fun i q hi => h.2 i q (key i q hi)⟩
section FWX
variable {p : Program} {l : Launch} {e : Env} {R : Room} {s : State} {m : MethodId} {args : Array Value} {below : List Frame} {meth : Method} {c : Code} {H H0 : Heap} {locs : List Loc} {cells slots : Nat} {Q : State → Prop} {cc : ByteArray} {pc : Nat} {ls : Array Slot} {rest st0 : List Value} {D : va_G} {A : Nat → Prop} {cs : Cs} {L : Nat → Sh} {N : Nat} {ad : Nat → Nat} {M : Mm} {X : va_W} {lx : va_W}
theorem m_new (hexec : p.tables.exec = Jvm.exec) (hb : c.code = cc) (harr : (Cond.arrayClass .int).before args s = true) (hK : va_K D vwCl (tysC cs) s) (hP : va_P D vwCl (wl cs L N ad M ++ (X ++ lx)) H) (hD : va_D A (wl cs L N ad M ++ (X ++ lx))) (hS : va_S A H0 H locs) (hA : ∀ q, H0.size ≤ q → A q) {k : Int32} {n : Nat} (hk : k = nI n) (hn : n < 65536) (hcells : cells + 1 ≤ R.cells) (hslots : slots + n ≤ R.slots) (hdg : decode cc pc = .ok (.newarray .int, 2))
    (kk : ∀ (q : Nat) (H1 : Heap), va_P D vwCl (wl cs L N ad M ++ (X ++ (lx ++ [(q, .inl (cs.1, n, .inl (fun _ => 0)))]))) H1 → va_D A (wl cs L N ad M ++ (X ++ (lx ++ [(q, .inl (cs.1, n, .inl (fun _ => 0)))]))) → va_S A H0 H1 locs → W p l e R s m args below meth c H1 locs (cells + 1) (slots + n) Q (F0 m (pc + 2) ls (.ref q :: rest))) : W p l e R s m args below meth c H locs cells slots Q (F0 m pc ls (.int k :: rest)) := by
  subst hk
  have hn2 : n < 2 ^ 31 := by omega
  refine va_newa (atype := .int) (ty := .int) (N' := n) (a0 := (n, .inl (fun _ => 0))) hexec hb harr rfl hK hP hD hS hA (fun cA => vp_cell_i cA n (fun _ => 0)) (nI_pos hn2) (nI_clamp hn2) (by show n * 4 ≤ 536870912; omega) hcells hslots hdg (fun q cA H1 hK1 hP1 hD1 hS1 => ?_)
  have e1 : s.vm.findClass ("[" ++ FieldType.int.toString) = some cs.1 := (hK1.2 0 _ rfl).2
  have e2 : s.vm.findClass ("[" ++ FieldType.int.toString) = some cA := (hK1.2 3 _ rfl).2
  have e3 : cA = cs.1 := Option.some.inj (e2.symm.trans e1)
  subst e3
  rw [List.append_assoc, List.append_assoc] at hP1 hD1
  exact kk q H1 hP1 hD1 hS1
theorem m_ldX (hexec : p.tables.exec = Jvm.exec) (hb : c.code = cc) (hK : va_K D vwCl (tysC cs) s) (hP : va_P D vwCl (wl cs L N ad M ++ (X ++ lx)) H) (j : Nat) {q n : Nat} {f : Nat → Int32} (hx : lx[j]? = some (q, .inl (cs.1, n, .inl f))) {i : Int32} (hin : ¬ (i < 0 ∨ n ≤ i.toNatClampNeg)) (hdg : decode cc pc = .ok (.iaload, 1))
    (kk : W p l e R s m args below meth c H locs cells slots Q (F0 m (pc + 1) ls (.int (f i.toNatClampNeg) :: rest))) : W p l e R s m args below meth c H locs cells slots Q (F0 m pc ls (.int i :: .ref q :: rest)) :=
  va_iald hexec hb hK hP (N + (X.length + j)) 0 (by rw [List.getElem?_append_right (by rw [wl_len]; omega), wl_len, Nat.add_sub_cancel_left]; exact xg hx) rfl hin hdg kk
theorem m_stX (hexec : p.tables.exec = Jvm.exec) (hb : c.code = cc) (hK : va_K D vwCl (tysC cs) s) (hP : va_P D vwCl (wl cs L N ad M ++ (X ++ lx)) H) (hD : va_D A (wl cs L N ad M ++ (X ++ lx))) (hS : va_S A H0 H locs) (j : Nat) {q n : Nat} {f : Nat → Int32} (hx : lx[j]? = some (q, .inl (cs.1, n, .inl f))) {i v : Int32} (hin : ¬ (i < 0 ∨ n ≤ i.toNatClampNeg)) (hdg : decode cc pc = .ok (.iastore, 1)) {f1 : Nat → Int32} (hf : f1 = upd f i.toNatClampNeg v)
    (kk : ∀ (H1 : Heap) (locs1 : List Loc), va_P D vwCl (wl cs L N ad M ++ (X ++ lx.set j (q, .inl (cs.1, n, .inl f1)))) H1 → va_D A (wl cs L N ad M ++ (X ++ lx.set j (q, .inl (cs.1, n, .inl f1)))) → va_S A H0 H1 locs1 → W p l e R s m args below meth c H1 locs1 cells slots Q (F0 m (pc + 1) ls rest)) : W p l e R s m args below meth c H locs cells slots Q (F0 m pc ls (.int v :: .int i :: .ref q :: rest)) := by
  subst hf
  have hset : ∀ e9 : Nat × va_E, (wl cs L N ad M ++ (X ++ lx)).set (N + (X.length + j)) e9 = wl cs L N ad M ++ (X ++ lx.set j e9) := fun e9 => by
    rw [List.set_append_right _ _ (by rw [wl_len]; omega), wl_len, Nat.add_sub_cancel_left, xs]
  refine va_iast hexec hb hK hP hD hS (N + (X.length + j)) 0 (by rw [List.getElem?_append_right (by rw [wl_len]; omega), wl_len, Nat.add_sub_cancel_left]; exact xg hx) rfl hin hdg (fun H1 locs1 hP1 hD1 hS1 => ?_)
  rw [hset] at hP1 hD1
  exact kk H1 locs1 hP1 hD1 hS1
end FWX
