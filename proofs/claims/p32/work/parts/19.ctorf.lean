/-! CONSTRUCTORS: a world X of the caller's, behind it the object and what it makes, in the order in which it makes it -/
def CW (U : State) : Prop := va_AO RX5 U ∧ nw_AOA .int U ∧ va_Nw (.methodLinkNest RX7 9 yX4_init RX7) U ∧ va_Nw (.methodLinkNest RX7 18 yX6_init RX7) U ∧ va_Nw (.methodLinkNest RX7 29 yX5_init RX7) U ∧ va_Nw (.methodLinkNest RX5 20 yX1_init RX7) U ∧ va_Nw (.methodLinkNest RX5 27 yX3_init RX7) U
theorem CW.warm {u U : State} (hW : u.WarmedH U.vm) (h : CW u) : CW U := ⟨h.1.moved hW.alike, h.2.1.moved hW.alike, va_Nw.warmM hW h.2.2.1, va_Nw.warmM hW h.2.2.2.1, va_Nw.warmM hW h.2.2.2.2.1, va_Nw.warmM hW h.2.2.2.2.2.1, va_Nw.warmM hW h.2.2.2.2.2.2⟩
theorem CW.same {u U : State} (e : u.vm = U.vm) (h : CW u) : CW U := by
  have ha : u.vm.Alike U.vm := by rw [e]; exact Vm.Alike.refl _
  exact ⟨h.1.moved ha, h.2.1.moved ha, va_Nw.same rfl e h.2.2.1, va_Nw.same rfl e h.2.2.2.1, va_Nw.same rfl e h.2.2.2.2.1, va_Nw.same rfl e h.2.2.2.2.2.1, va_Nw.same rfl e h.2.2.2.2.2.2⟩
def cPre (D : va_G) (cs : Cs) (X : va_W) (ci : Nat) (fs : List Value) (h sz : Nat) (U : State) : Prop := U.heap.size = sz ∧ va_P D vwCl (X ++ [(h, .inr (ci, fs))]) U.heap ∧ va_K D vwCl (tysC cs) U ∧ va_D (fun _ => True) (X ++ [(h, .inr (ci, fs))]) ∧ CW U
abbrev cA (X : va_W) (ci : Nat) (fs : List Value) (h sz : Nat) : Nat → Prop := va_A (X ++ [(h, .inr (ci, fs))]) sz
abbrev cQ (D : va_G) (X : va_W) (lY : (Nat → Nat) → va_W) (h : Nat) (A : Nat → Prop) := va_Qv (fun v : Nat → Nat => v 0 = h) (fun v t => va_P D vwCl (X ++ lY v) t.heap ∧ va_D A (X ++ lY v)) A
theorem cA_free {A0 : Nat → Prop} {ws : va_W} {H0 H : Heap} {locs : List Loc} (hD : va_D A0 ws) (hS : va_S A0 H0 H locs) (hA : ∀ q, H0.size ≤ q → A0 q) : ∀ q, va_A ws H.size q → A0 q := by
  intro q h
  rcases h with ⟨k, e, h⟩ | h
  · exact hD.2 k _ h
  · exact hA q (Nat.le_trans hS.1 h)
theorem gwI {w0 : Cond} {y : MethodName} {cc : ByteArray} {mL : Nat} {ret : Option FieldType} (h5 : Cond.code y cc mL ret ∈ WG) : GoodIn (w0 :: WG) (Cond.code y cc mL ret :: WG) := by
  intro w hw
  have key : w ∈ WG := by
    rcases List.mem_cons.mp hw with rfl | h
    · exact h5
    · exact h
  exact ⟨List.mem_cons_of_mem _ key, WG_good key⟩
theorem xl {X l : va_W} {x : Nat × va_E} : (X ++ l) ++ [x] = X ++ (l ++ [x]) := List.append_assoc _ _ _
section KR
variable {p : Program} {l : Launch} {e : Env} {R : Room} {s : State} {m : MethodId} {args : Array Value} {below : List Frame} {meth : Method} {c : Code} {H H0 : Heap} {locs : List Loc} {cells slots : Nat} {Q : State → Prop} {cc : ByteArray} {pc : Nat} {ls : Array Slot} {rest st0 : List Value} {D : va_G} {A : Nat → Prop} {cs : Cs} {X lx : va_W}
theorem k_new (hexec : p.tables.exec = Jvm.exec) (hb : c.code = cc) (harr : (Cond.arrayClass .int).before args s = true) (hK : va_K D vwCl (tysC cs) s) (hP : va_P D vwCl (X ++ lx) H) (hD : va_D A (X ++ lx)) (hS : va_S A H0 H locs) (hA : ∀ q, H0.size ≤ q → A q) {k : Int32} {n : Nat} (hk : k = nI n) (hn : n < 65536) (hcells : cells + 1 ≤ R.cells) (hslots : slots + n ≤ R.slots) (hdg : decode cc pc = .ok (.newarray .int, 2))
    (kk : ∀ (q : Nat) (H1 : Heap), va_P D vwCl (X ++ (lx ++ [(q, .inl (cs.1, n, .inl (fun _ => 0)))])) H1 → va_D A (X ++ (lx ++ [(q, .inl (cs.1, n, .inl (fun _ => 0)))])) → va_S A H0 H1 locs → W p l e R s m args below meth c H1 locs (cells + 1) (slots + n) Q (F0 m (pc + 2) ls (.ref q :: rest))) : W p l e R s m args below meth c H locs cells slots Q (F0 m pc ls (.int k :: rest)) := by
  subst hk
  have hn2 : n < 2 ^ 31 := by omega
  refine va_newa (atype := .int) (ty := .int) (N' := n) (a0 := (n, .inl (fun _ => 0))) hexec hb harr rfl hK hP hD hS hA (fun cA => vp_cell_i cA n (fun _ => 0)) (nI_pos hn2) (nI_clamp hn2) (by show n * 4 ≤ 536870912; omega) hcells hslots hdg (fun q cA H1 hK1 hP1 hD1 hS1 => ?_)
  have e1 : s.vm.findClass ("[" ++ FieldType.int.toString) = some cs.1 := (hK1.2 0 _ rfl).2
  have e2 : s.vm.findClass ("[" ++ FieldType.int.toString) = some cA := (hK1.2 3 _ rfl).2
  have e3 : cA = cs.1 := Option.some.inj (e2.symm.trans e1)
  subst e3
  rw [xl] at hP1 hD1
  exact kk q H1 hP1 hD1 hS1
theorem k_putF (hexec : p.tables.exec = Jvm.exec) (hb : c.code = cc) {own C : String} {T : u_T} {N ci index : Nat} {Ts : List Cond} (hts : ∀ w ∈ Ts, w.before args s = true) (hin : ∀ w ∈ u_ws C T N, w ∈ Ts) (ty0 : Nat → FieldType) (hty : ∀ k, k < N → parseFieldDescriptor (T k).2.2.1 = some (ty0 k)) (hnm : ∀ a, a < N → ∀ b, b < N → a ≠ b → (T a).2.1 ≠ (T b).2.1) (hown : s.vm.findClass own = some m.cls) (hK : va_K D vwCl (tysC cs) s) (hP : va_P D vwCl (X ++ lx) H) (hD : va_D A (X ++ lx)) (hS0 : va_S A H0 H locs) (j : Nat) {a : Nat} {fs : List Value} (he : lx[j]? = some (a, .inr (ci, fs))) (hc : vwCl[ci]? = some (C, T, N)) (k : Nat) (hk : k < N) (hlink : (Cond.fieldLink own index (T k).1 (T k).2.1 (T k).2.2.1).before args s = true) (hfin : (T k).2.2.2 = true) (hin2 : meth.name = "<init>") (hdecl : (T k).1 = own) {ty : FieldType} {v : Nat} (hd : parseFieldDescriptor (T k).2.2.1 = some ty) (hfit : fits ty (.ref v) = true) (hn : narrow ty (.ref v) = .ref v) (hl : k < fs.length)
    (hdg : decode cc pc = .ok (.putfield index, 3)) (kk : ∀ (H1 : Heap) (locs1 : List Loc), va_P D vwCl (X ++ lx.set j (a, .inr (ci, fs.set k (.ref v)))) H1 → va_D A (X ++ lx.set j (a, .inr (ci, fs.set k (.ref v)))) → va_S A H0 H1 locs1 → W p l e R s m args below meth c H1 locs1 cells slots Q (F0 m (pc + 3) ls rest)) : W p l e R s m args below meth c H locs cells slots Q (F0 m pc ls (.ref v :: .ref a :: rest)) := by
  refine va_putF (D := D) (ci := ci) (v := .ref v) (ty := ty) (C := C) (T := T) (N := N) hexec hb hts hin ty0 hty hnm hown hK hP hD hS0 (X.length + j) (xg he) hc k hk hlink (fun _ h9 => h9) hfin hin2 hdecl hd hn hfit hl hdg (fun H1 locs1 hP1 hD1 hS1 => ?_)
  rw [xs] at hP1 hD1
  exact kk H1 locs1 hP1 hD1 hS1
theorem k_puti (hexec : p.tables.exec = Jvm.exec) (hb : c.code = cc) {own C : String} {T : u_T} {N ci index : Nat} {Ts : List Cond} (hts : ∀ w ∈ Ts, w.before args s = true) (hin : ∀ w ∈ u_ws C T N, w ∈ Ts) (ty0 : Nat → FieldType) (hty : ∀ k, k < N → parseFieldDescriptor (T k).2.2.1 = some (ty0 k)) (hnm : ∀ a, a < N → ∀ b, b < N → a ≠ b → (T a).2.1 ≠ (T b).2.1) (hown : s.vm.findClass own = some m.cls) (hK : va_K D vwCl (tysC cs) s) (hP : va_P D vwCl (X ++ lx) H) (hD : va_D A (X ++ lx)) (hS0 : va_S A H0 H locs) (j : Nat) {a : Nat} {fs : List Value} (he : lx[j]? = some (a, .inr (ci, fs))) (hc : vwCl[ci]? = some (C, T, N)) (k : Nat) (hk : k < N) (hlink : (Cond.fieldLink own index (T k).1 (T k).2.1 (T k).2.2.1).before args s = true) (hfin : (T k).2.2.2 = false) {ty : FieldType} {v : Int32} (hd : parseFieldDescriptor (T k).2.2.1 = some ty) (hfit : fits ty (.int v) = true) (hn : narrow ty (.int v) = .int v) (hl : k < fs.length)
    (hdg : decode cc pc = .ok (.putfield index, 3)) (kk : ∀ (H1 : Heap) (locs1 : List Loc), va_P D vwCl (X ++ lx.set j (a, .inr (ci, fs.set k (.int v)))) H1 → va_D A (X ++ lx.set j (a, .inr (ci, fs.set k (.int v)))) → va_S A H0 H1 locs1 → W p l e R s m args below meth c H1 locs1 cells slots Q (F0 m (pc + 3) ls rest)) : W p l e R s m args below meth c H locs cells slots Q (F0 m pc ls (.int v :: .ref a :: rest)) := by
  refine va_put (D := D) (ci := ci) (v := .int v) (ty := ty) (C := C) (T := T) (N := N) hexec hb hts hin ty0 hty hnm hown hK hP hD hS0 (X.length + j) (xg he) hc k hk hlink (fun _ h9 => h9) hfin hd hn hfit hl hdg (fun H1 locs1 hP1 hD1 hS1 => ?_)
  rw [xs] at hP1 hD1
  exact kk H1 locs1 hP1 hD1 hS1
theorem k_newo (hexec : p.tables.exec = Jvm.exec) (hb : c.code = cc) {own C : String} {T : u_T} {N ci index : Nat} {Ts : List Cond} (hts : ∀ w ∈ Ts, w.before args s = true) (hin : ∀ w ∈ u_ws C T N, w ∈ Ts) (ty : Nat → FieldType) (hty : ∀ k, k < N → parseFieldDescriptor (T k).2.2.1 = some (ty k)) (hown : s.vm.findClass own = some m.cls) (hcl : (Cond.classLink own index C).before args s = true) (hinst : (Cond.instantiable C N).before args s = true) (hini : (Cond.initialized C).before args s = true)
    (hK : va_K D vwCl (tysC cs) s) (hP : va_P D vwCl (X ++ lx) H) (hD : va_D A (X ++ lx)) (hS : va_S A H0 H locs) (hA : ∀ q, H0.size ≤ q → A q) (hc : vwCl[ci]? = some (C, T, N)) {fs : List Value} (hfs : ∀ j, j < N → defaultValue (ty j) = vp_V fs j) (hcells : cells + 1 ≤ R.cells) (hslots : slots + N ≤ R.slots) (hdg : decode cc pc = .ok (.new index, 3))
    (kk : ∀ (q : Nat) (H1 : Heap), va_P D vwCl (X ++ (lx ++ [(q, .inr (ci, fs))])) H1 → va_D A (X ++ (lx ++ [(q, .inr (ci, fs))])) → va_S A H0 H1 locs →
      W p l e R s m args below meth c H1 locs (cells + 1) (slots + N) Q (F0 m (pc + 3) ls (.ref q :: rest))) : W p l e R s m args below meth c H locs cells slots Q (F0 m pc ls rest) := by
  refine va_new (ci := ci) (fs := fs) (C := C) (T := T) (N := N) hexec hb hts hin ty hty hown hcl hinst hini hK hP hD hS hA hc hfs hcells hslots hdg (fun q H1 hP1 hD1 hS1 => ?_)
  rw [xl] at hP1 hD1
  exact kk q H1 hP1 hD1 hS1
theorem k_anew (hexec : p.tables.exec = Jvm.exec) (hb : c.code = cc) {own : String} {index : Nat} (hown : s.vm.findClass own = some m.cls) (hclink : (Cond.classLink own index RX5).before args s = true) (hover : va_AO RX5 s) (hK : va_K D vwCl (tysC cs) s) (hP : va_P D vwCl (X ++ lx) H) (hD : va_D A (X ++ lx)) (hS : va_S A H0 H locs) (hA : ∀ q, H0.size ≤ q → A q)
    {k : Int32} {n : Nat} (hk : k = nI n) (hn : n < 65536) (hcells : cells + 1 ≤ R.cells) (hslots : slots + n ≤ R.slots) (hdg : decode cc pc = .ok (.anewarray index, 3))
    (kk : ∀ (q : Nat) (H1 : Heap), va_P D vwCl (X ++ (lx ++ [(q, .inl (cs.2.1, n, .inr (.inr (.inr (.inr (fun _ => none))))))])) H1 → va_D A (X ++ (lx ++ [(q, .inl (cs.2.1, n, .inr (.inr (.inr (.inr (fun _ => none))))))])) → va_S A H0 H1 locs →
      W p l e R s m args below meth c H1 locs (cells + 1) (slots + n) Q (F0 m (pc + 3) ls (.ref q :: rest))) : W p l e R s m args below meth c H locs cells slots Q (F0 m pc ls (.int k :: rest)) := by
  subst hk
  have hn2 : n < 2 ^ 31 := by omega
  refine va_newq (N' := n) hexec hb hown hclink hover hK hP hD hS hA (nI_pos hn2) (nI_clamp hn2) (by omega) hcells hslots hdg (fun q cA H1 hK1 hP1 hD1 hS1 => ?_)
  obtain ⟨-, -, -, -, -, e1⟩ := (hK1.2 1 _ rfl).2
  obtain ⟨-, -, -, -, -, e2⟩ := (hK1.2 3 _ rfl).2
  have e3 : cA = cs.2.1 := Option.some.inj (e2.symm.trans e1)
  subst e3
  rw [xl] at hP1 hD1
  exact kk q H1 hP1 hD1 hS1
theorem k_mna (hexec : p.tables.exec = Jvm.exec) (hb : c.code = cc) {own : String} {index : Nat} (hown : s.vm.findClass own = some m.cls) (hclink : (Cond.classLink own index "[[I").before args s = true) (hover : nw_AOA .int s) (harr : (Cond.arrayClass .int).before args s = true)
    (hK : va_K D vwCl (tysC cs) s) (hP : va_P D vwCl (X ++ lx) H) (hD : va_D A (X ++ lx)) (hS : va_S A H0 H locs) (hA : ∀ q, H0.size ≤ q → A q) (hcells : cells + (1 + 4) ≤ R.cells) (hslots : slots + (4 + 4 * 80) ≤ R.slots) (hdg : decode cc pc = .ok (.multianewarray index 2, 4))
    (kk : ∀ (q r0 r1 r2 r3 : Nat) (H1 : Heap) (f : Nat → Option Nat), f 0 = some r0 → f 1 = some r1 → f 2 = some r2 → f 3 = some r3 → va_P D vwCl (X ++ (lx ++ [(q, .inl (cs.2.2, 4, .inr (.inr (.inr (.inr f))))), (r0, .inl (cs.1, 80, .inl (fun _ => 0))), (r1, .inl (cs.1, 80, .inl (fun _ => 0))), (r2, .inl (cs.1, 80, .inl (fun _ => 0))), (r3, .inl (cs.1, 80, .inl (fun _ => 0)))])) H1 → va_D A (X ++ (lx ++ [(q, .inl (cs.2.2, 4, .inr (.inr (.inr (.inr f))))), (r0, .inl (cs.1, 80, .inl (fun _ => 0))), (r1, .inl (cs.1, 80, .inl (fun _ => 0))), (r2, .inl (cs.1, 80, .inl (fun _ => 0))), (r3, .inl (cs.1, 80, .inl (fun _ => 0)))])) → va_S A H0 H1 locs →
      W p l e R s m args below meth c H1 locs (cells + 1 + 4) (slots + 4 + 4 * 80) Q (F0 m (pc + 4) ls (.ref q :: rest))) : W p l e R s m args below meth c H locs cells slots Q (F0 m pc ls (.int 80 :: .int 4 :: rest)) := by
  have hcy : s.vm.findClass (FieldType.array .int).toString = some cs.1 := (hK.2 0 _ rfl).2
  refine va_mna (X := X ++ lx) (L := []) (f := fun _ => .inr (0, [])) (ty := .int) (cy := cs.1) (N' := 4) (K' := 80) (z := (80, .inl (fun _ => 0))) hexec hb hown hclink hover harr hcy hK (by rw [show va_pl [] _ = ([] : va_W) from rfl, List.append_nil]; exact hP) (by rw [show va_pl [] _ = ([] : va_W) from rfl, List.append_nil]; exact hD) hS hA (by decide) (by decide) rfl rfl (by decide) (by decide) (by decide) rfl rfl hcells hslots (fun c => mna_in c) hdg (fun q r cA H1 hr0 hr1 hK1 hP1 hD1 hS1 => ?_)
  have e1 : s.vm.findClass ("[" ++ (FieldType.array .int).toString) = some cs.2.2 := (hK1.2 2 _ rfl).2
  have e2 : s.vm.findClass ("[" ++ (FieldType.array .int).toString) = some cA := (hK1.2 3 _ rfl).2
  have e3 : cA = cs.2.2 := Option.some.inj (e2.symm.trans e1)
  subst e3
  have hpl : va_pl ([] ++ (List.range 4).map r) (vr_up (fun _ => (.inr (0, []) : va_E)) ((List.range 4).map r) (.inl (cs.1, (80, .inl (fun _ => 0))))) = [(r 0, .inl (cs.1, 80, .inl (fun _ => 0))), (r 1, .inl (cs.1, 80, .inl (fun _ => 0))), (r 2, .inl (cs.1, 80, .inl (fun _ => 0))), (r 3, .inl (cs.1, 80, .inl (fun _ => 0)))] := by
    have h4 : (List.range 4).map r = [r 0, r 1, r 2, r 3] := rfl
    rw [h4]
    simp [va_pl, vr_up]
  rw [hpl, List.append_assoc (X ++ lx), List.append_assoc X] at hP1 hD1
  exact kk q (r 0) (r 1) (r 2) (r 3) H1 _ rfl rfl rfl rfl hP1 hD1 hS1
end KR
/-- an array of references, said by another function that is the same at its places -/
theorem arr_fn {c : ClassId} {n : Nat} {f g : Nat → Option Nat} (h : ∀ i, i < n → f i = g i) : vp_cell c (n, .inr (.inr (.inr (.inr f)))) = vp_cell c (n, .inr (.inr (.inr (.inr g)))) := by
  rw [vp_cell_q, vp_cell_q]
  unfold arrV
  congr 1
  apply Array.ext
  · simp
  · intro i h1 h2
    simp only [Array.getElem_ofFn]
    rw [h i (by simpa using h1)]
theorem w_swapE {D : va_G} {ws : va_W} {H : Heap} {j q : Nat} {e1 e2 : va_E} (he : ws[j]? = some (q, e1)) (hat : va_at D vwCl (q, e1) H → va_at D vwCl (q, e2) H) (hP : va_P D vwCl ws H) : va_P D vwCl (ws.set j (q, e2)) H := by
  intro k x hx
  by_cases hk : k = j
  · subst hk
    rw [List.getElem?_set_self (List.getElem?_eq_some_iff.mp he).1] at hx
    cases hx
    exact hat (hP k _ he)
  · rw [List.getElem?_set_ne (Ne.symm hk)] at hx
    exact hP k x hx
theorem w_swapD {ws : va_W} {A : Nat → Prop} {j q : Nat} {e1 e2 : va_E} (he : ws[j]? = some (q, e1)) (hD : va_D A ws) : va_D A (ws.set j (q, e2)) := by
  have key : ∀ (k : Nat) (x : Nat × va_E), (ws.set j (q, e2))[k]? = some x → ∃ e, ws[k]? = some (x.1, e) := by
    intro k x hx
    by_cases hk : k = j
    · subst hk
      rw [List.getElem?_set_self (List.getElem?_eq_some_iff.mp he).1] at hx
      cases hx
      exact ⟨e1, he⟩
    · rw [List.getElem?_set_ne (Ne.symm hk)] at hx
      exact ⟨x.2, hx⟩
  refine ⟨fun a b p r ha hb e => ?_, fun a p ha => ?_⟩
  · obtain ⟨e3, h3⟩ := key a p ha
    obtain ⟨e4, h4⟩ := key b r hb
    exact hD.1 a b _ _ h3 h4 e
  · obtain ⟨e3, h3⟩ := key a p ha
    exact hD.2 a (p.1, e3) h3
theorem k_fnP {D : va_G} {X lx : va_W} {H : Heap} (j : Nat) {q n : Nat} {cA : ClassId} {f : Nat → Option Nat} (g : Nat → Option Nat) (he : lx[j]? = some (q, .inl (cA, n, .inr (.inr (.inr (.inr f)))))) (hfg : ∀ i, i < n → f i = g i) (hP : va_P D vwCl (X ++ lx) H) : va_P D vwCl (X ++ lx.set j (q, .inl (cA, n, .inr (.inr (.inr (.inr g)))))) H := by
  have h := w_swapE (e2 := .inl (cA, n, .inr (.inr (.inr (.inr g))))) (xg (X := X) he) (fun h9 => by
    show H[q]? = some (vp_cell cA (n, .inr (.inr (.inr (.inr g)))))
    rw [← arr_fn hfg]
    exact h9) hP
  rw [xs] at h
  exact h
theorem k_fnD {A : Nat → Prop} {X lx : va_W} (j : Nat) {q n : Nat} {cA : ClassId} {f : Nat → Option Nat} (g : Nat → Option Nat) (he : lx[j]? = some (q, .inl (cA, n, .inr (.inr (.inr (.inr f)))))) (hD : va_D A (X ++ lx)) : va_D A (X ++ lx.set j (q, .inl (cA, n, .inr (.inr (.inr (.inr g)))))) := by
  have h := w_swapD (e2 := .inl (cA, n, .inr (.inr (.inr (.inr g))))) (xg (X := X) he) hD
  rw [xs] at h
  exact h
