/-! METHODS THAT RETURN OR THROW: an outcome is a value or the number of an exception's class -/
def te {α β : Type} (x : Option ((α ⊕ Nat) × Mm)) (f : α → Mm → Option ((β ⊕ Nat) × Mm)) : Option ((β ⊕ Nat) × Mm) := match x with
  | none => none
  | some (.inl v, M1) => f v M1
  | some (.inr k, M1) => some (.inr k, M1)
theorem te_e {α β : Type} {x : Option ((α ⊕ Nat) × Mm)} {f : α → Mm → Option ((β ⊕ Nat) × Mm)} {r : Option ((β ⊕ Nat) × Mm)} (h : te x f = r) (hne : r ≠ none) : ∃ (o : α ⊕ Nat) (M1 : Mm), x = some (o, M1) ∧ (∀ k, o = .inr k → some (.inr k, M1) = r) ∧ ∀ v, o = .inl v → f v M1 = r := by
  match x, h with
  | none, h => exact absurd h.symm hne
  | some (.inl v, M1), h => exact ⟨.inl v, M1, rfl, fun k e => (by cases e), fun v' e => (by cases e; exact h)⟩
  | some (.inr k, M1), h => exact ⟨.inr k, M1, rfl, fun k' e => (by cases e; exact h), fun v' e => (by cases e)⟩
abbrev tQi (D : va_G) (cs : Cs) (L : Nat → Sh) (N : Nat) (ad : Nat → Nat) (M : Mm) (X : va_W) (sz : Nat) (o : Int32 ⊕ Nat) := va_Qi (fun (r' : Int32) (_ : Unit) => o = .inl r') (fun _ t => va_P D vwCl (wl cs L N ad M ++ X) t.heap) (wA N ad X sz)
abbrev tQv (D : va_G) (cs : Cs) (L : Nat → Sh) (N : Nat) (ad : Nat → Nat) (M : Mm) (X : va_W) (sz : Nat) (o : Int32 ⊕ Nat) := va_Qv (fun (_ : Unit) => o = .inl 0) (fun _ t => va_P D vwCl (wl cs L N ad M ++ X) t.heap) (wA N ad X sz)
abbrev tX {α : Type} (D : va_G) (cs : Cs) (L : Nat → Sh) (N : Nat) (ad : Nat → Nat) (M : Mm) (X : va_W) (sz : Nat) (o : α ⊕ Nat) := vx_X (fun (_ : Unit) => True) (fun E _ t => (∃ k, o = .inr k ∧ E = exn k) ∧ va_P D vwCl (wl cs L N ad M ++ X) t.heap) (wA N ad X sz)
section TK
variable {p : Program} {l : Launch} {e : Env} {R : Room} {s : State} {m : MethodId} {args : Array Value} {below : List Frame} {meth : Method} {c : Code} {H H0 : Heap} {locs : List Loc} {cells slots : Nat} {Q : State → Prop} {cc : ByteArray} {pc : Nat} {ls : Array Slot} {rest st0 : List Value} {D : va_G} {A : Nat → Prop} {cs : Cs} {L : Nat → Sh} {N : Nat} {ad : Nat → Nat} {M M1 : Mm} {X : va_W} {mc ms : Nat} {a : Array Value}
theorem t_x {w : va_W} {t : State} (hP : va_P D vwCl w H) (hS : va_S A s.heap H locs) (hz : H.size ≤ t.heap.size) (hk : ∀ q : Nat, q < H.size → t.heap[q]? = H[q]?) : va_P D vwCl w t.heap ∧ va_F A s t :=
  ⟨hP.kept (fun k q hq => hk q.1 ((hP k q hq).lt)), Nat.le_trans hS.1 hz, fun q h1 h2 => by rw [hk q (Nat.lt_of_lt_of_le h1 hS.1)]; exact hS.2.1 q h1 h2⟩
theorem t_calli {o : Int32 ⊕ Nat} (hr : vx_Run p l e R s m args below meth c H locs cells slots mc ms (F0 m pc ls st0) rest (tQi D cs L N ad M1 X H.size o a) (tX D cs L N ad M1 X H.size o) (wA N ad X H.size)) (hD : va_D A (wl cs L N ad M ++ X)) (hS : va_S A H0 H locs) (hA : ∀ q, H0.size ≤ q → A q)
    (kx : ∀ (k : Nat), o = .inr k → ∀ (H1 : Heap) (locs1 : List Loc) (ce : Cell) (q : Addr), va_P D vwCl (wl cs L N ad M1 ++ X) H1 → va_D A (wl cs L N ad M1 ++ X) → va_S A H0 H1 locs1 → H1[q]? = some ce → ce.vm = .none → s.vm.findClass (exn k) = some ce.cls → vx_W p l e R s m args below meth c H1 locs1 (cells + mc) (slots + ms) Q (F0 m pc ls rest) q)
    (kk : ∀ (r : Int32), o = .inl r → ∀ (H1 : Heap) (locs1 : List Loc), va_P D vwCl (wl cs L N ad M1 ++ X) H1 → va_D A (wl cs L N ad M1 ++ X) → va_S A H0 H1 locs1 → W p l e R s m args below meth c H1 locs1 (cells + mc) (slots + ms) Q (F0 m (pc + 3) ls (.int r :: rest))) : W p l e R s m args below meth c H locs cells slots Q (F0 m pc ls st0) :=
  vx_calli hr hS (fun q _ h => wA_free hD hS hA q h) (wA_free hD hS hA) (fun q _ h => wA_free hD hS hA q h)
    (fun E ce q9 u t H1 locs1 ht _ _ hB _ _ hS1 h1 h2 h3 => by
      obtain ⟨⟨k, hk, hE⟩, hB⟩ := hB
      rw [ht] at hB
      subst hE
      exact kx k hk H1 locs1 ce q9 hB (wl_D M1 hD) hS1 h1 h2 h3)
    (fun r u t H1 locs1 ht _ hw hB _ _ hS1 => by rw [ht] at hB; exact kk r hw H1 locs1 hB (wl_D M1 hD) hS1)
theorem t_callv {o : Int32 ⊕ Nat} (hr : vx_Run p l e R s m args below meth c H locs cells slots mc ms (F0 m pc ls st0) rest (tQv D cs L N ad M1 X H.size o a) (tX D cs L N ad M1 X H.size o) (wA N ad X H.size)) (hD : va_D A (wl cs L N ad M ++ X)) (hS : va_S A H0 H locs) (hA : ∀ q, H0.size ≤ q → A q)
    (kx : ∀ (k : Nat), o = .inr k → ∀ (H1 : Heap) (locs1 : List Loc) (ce : Cell) (q : Addr), va_P D vwCl (wl cs L N ad M1 ++ X) H1 → va_D A (wl cs L N ad M1 ++ X) → va_S A H0 H1 locs1 → H1[q]? = some ce → ce.vm = .none → s.vm.findClass (exn k) = some ce.cls → vx_W p l e R s m args below meth c H1 locs1 (cells + mc) (slots + ms) Q (F0 m pc ls rest) q)
    (kk : ∀ (r : Int32), o = .inl r → ∀ (H1 : Heap) (locs1 : List Loc), va_P D vwCl (wl cs L N ad M1 ++ X) H1 → va_D A (wl cs L N ad M1 ++ X) → va_S A H0 H1 locs1 → W p l e R s m args below meth c H1 locs1 (cells + mc) (slots + ms) Q (F0 m (pc + 3) ls rest)) : W p l e R s m args below meth c H locs cells slots Q (F0 m pc ls st0) :=
  vx_callv hr hS (fun q _ h => wA_free hD hS hA q h) (wA_free hD hS hA) (fun q _ h => wA_free hD hS hA q h)
    (fun E ce q9 u t H1 locs1 ht _ _ hB _ _ hS1 h1 h2 h3 => by
      obtain ⟨⟨k, hk, hE⟩, hB⟩ := hB
      rw [ht] at hB
      subst hE
      exact kx k hk H1 locs1 ce q9 hB (wl_D M1 hD) hS1 h1 h2 h3)
    (fun u t H1 locs1 ht _ hw hB _ _ hS1 => by rw [ht] at hB; exact kk 0 hw H1 locs1 hB (wl_D M1 hD) hS1)
end TK
theorem met_t {l : Launch} {y : MethodName} {ws ws' : List Cond} {rm : Room} {cc : ByteArray} {maxL : Nat} {ret : Option FieldType} {As : List Value} {Qc : Array Value → State → Outcome → State → Prop} {XC : String → State → State → Prop} {mc ms : Nat} {free : Addr → Prop} {D : va_G} {sw : Sw} {cs : Cs} {L : Nat → Sh} {N : Nat} {ad : Nat → Nat} {M : Mm} {X : va_W} {sz : Nat} (hy : plainName y.cls = true) (hw : ws = Cond.code y cc maxL ret :: ws') (hn : (lg_sl As).length ≤ maxL)
    (body : ∀ (p : Program) (e : Env) (s : State) (m : MethodId) (args : Array Value) (below : List Frame) (meth : Method) (c : Code) (ls : Array Slot), CallFix p m c cc maxL s args ws y.cls → meth.sig.returnType = ret → meth.locks = false → (∀ x ∈ c.exceptionTable.toList, False) → va_K D vwCl (tysC cs) s → SW sw (wA N ad X sz) s s.heap → va_P D vwCl (wl cs L N ad M ++ X) s.heap → va_D (wA N ad X sz) (wl cs L N ad M ++ X) → va_S (wA N ad X sz) s.heap s.heap [] → (∀ q, s.heap.size ≤ q → wA N ad X sz q) → s.heap.size = sz → lv_has ls maxL (lv_args 0 As) → W p l e rm s m args below meth c s.heap [] 0 0 (vx_MQ below Qc XC args s mc ms free) (F0 m 0 ls [])) : vx_Met l y ws rm (va_Pc As (wPre D sw cs L N ad M X sz)) Qc XC mc ms free := by
  refine vx_ofW (cc := cc) (maxL := maxL) (ret := ret) hy hw ?_
  intro p e s m args below meth c s₁ B hml hnx hv
  obtain ⟨rfl, hsz, hP, hK, hD, hSW⟩ := hv
  have hl := lv_entry As (n := maxL) hn
  rw [lg_entry_eq]
  exact body p e s m _ below meth c _ ⟨B.exec, B.bytes, hml, findClass_of_methodNamed B.named, atoms_spec (ws := ws) B.pre⟩ B.returns B.notSynchronized hnx hK hSW hP (wA_D hD) va_S.rf (fun q h => Or.inr (Or.inr (by rw [← hsz]; exact h))) hsz hl
/-! the words of the exceptions' constructors -/
def exU : List String := ["java/lang/RuntimeException", "java/lang/Exception"]
theorem ex_hat {own X : String} {ic : Nat} {s : State} {args : Array Value} {sw : Sw} {A : Nat → Prop} {H : Heap} (hw : ∀ w ∈ WG, w.before args s = true) (hSW : SW sw A s H) (hX : X ∈ exC) (h1 : (vx_atS own ic X exU).all (fun w => decide (w ∈ lw_tbl)) = true) (h2 : (vx_atS own ic X exU).filter (fun w => !goodWord w) = [.declares (Bundle.initS "java/lang/RuntimeException"), .declares (Bundle.initS "java/lang/Exception"), .declares (Bundle.initS Bundle.tN), .castable X X]) : ∀ w ∈ vx_atS own ic X exU, w.before args s = true := by
  refine vx_hat (B := [.declares (Bundle.initS "java/lang/RuntimeException"), .declares (Bundle.initS "java/lang/Exception"), .declares (Bundle.initS Bundle.tN), .castable X X]) (fun w h => ?_) (fun w h => by rw [h2] at h; exact h) ?_
  · obtain ⟨ha, hg⟩ := List.mem_filter.mp h
    have := List.all_eq_true.mp h1 w ha
    exact hw w (List.mem_filter.mpr ⟨of_decide_eq_true this, hg⟩)
  · exact vx_c (va_Nw.use rfl (hSW.de _ (List.mem_of_getElem? (i := 0) rfl))) (vx_c (va_Nw.use rfl (hSW.de _ (List.mem_of_getElem? (i := 1) rfl))) (vx_c (va_Nw.use rfl (hSW.de _ (List.mem_of_getElem? (i := 2) rfl))) (vx_c (va_Nw.use rfl (hSW.ca X hX)) vx_n)))
set_option maxRecDepth 100000 in
theorem ex0_1 : (vx_atS RX7 52 "java/lang/IllegalArgumentException" exU).all (fun w => decide (w ∈ lw_tbl)) = true := by decide +kernel
set_option maxRecDepth 100000 in
theorem ex1_1 : (vx_atS RX7 63 "java/lang/IllegalStateException" exU).all (fun w => decide (w ∈ lw_tbl)) = true := by decide +kernel
set_option maxRecDepth 100000 in
theorem ex2_1 : (vx_atS RX7 205 "java/lang/IndexOutOfBoundsException" exU).all (fun w => decide (w ∈ lw_tbl)) = true := by decide +kernel
set_option maxRecDepth 100000 in
theorem ex0_2 : (vx_atS RX7 52 "java/lang/IllegalArgumentException" exU).filter (fun w => !goodWord w) = [.declares (Bundle.initS "java/lang/RuntimeException"), .declares (Bundle.initS "java/lang/Exception"), .declares (Bundle.initS Bundle.tN), .castable "java/lang/IllegalArgumentException" "java/lang/IllegalArgumentException"] := by decide +kernel
set_option maxRecDepth 100000 in
theorem ex1_2 : (vx_atS RX7 63 "java/lang/IllegalStateException" exU).filter (fun w => !goodWord w) = [.declares (Bundle.initS "java/lang/RuntimeException"), .declares (Bundle.initS "java/lang/Exception"), .declares (Bundle.initS Bundle.tN), .castable "java/lang/IllegalStateException" "java/lang/IllegalStateException"] := by decide +kernel
set_option maxRecDepth 100000 in
theorem ex2_2 : (vx_atS RX7 205 "java/lang/IndexOutOfBoundsException" exU).filter (fun w => !goodWord w) = [.declares (Bundle.initS "java/lang/RuntimeException"), .declares (Bundle.initS "java/lang/Exception"), .declares (Bundle.initS Bundle.tN), .castable "java/lang/IndexOutOfBoundsException" "java/lang/IndexOutOfBoundsException"] := by decide +kernel
set_option maxRecDepth 100000 in
theorem ex0_3 : ∀ w ∈ Cond.classLink RX7 48 "java/lang/IllegalArgumentException" :: Cond.initialized "java/lang/IllegalArgumentException" :: vx_atS RX7 52 "java/lang/IllegalArgumentException" exU, vx_ot w = true := by decide +kernel
set_option maxRecDepth 100000 in
theorem ex1_3 : ∀ w ∈ Cond.classLink RX7 59 "java/lang/IllegalStateException" :: Cond.initialized "java/lang/IllegalStateException" :: vx_atS RX7 63 "java/lang/IllegalStateException" exU, vx_ot w = true := by decide +kernel
set_option maxRecDepth 100000 in
theorem ex2_3 : ∀ w ∈ Cond.classLink RX7 201 "java/lang/IndexOutOfBoundsException" :: Cond.initialized "java/lang/IndexOutOfBoundsException" :: vx_atS RX7 205 "java/lang/IndexOutOfBoundsException" exU, vx_ot w = true := by decide +kernel
