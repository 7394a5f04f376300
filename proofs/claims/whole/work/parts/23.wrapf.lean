/-! THE LAW'S OWN METHODS THAT CATCH: frame -/
abbrev tysL (cq : ClassId × ClassId) : List (ClassId × FieldType) := [(cq.1, .long), (cq.2, .double)]
def lPre (D : va_G) (sw : Sw) (cs : Cs) (cq : ClassId × ClassId) (ad : Nat → Nat) (M : Mm) (X : va_W) (sz : Nat) (U : State) : Prop := wPre D sw cs LC NC ad M X sz U ∧ va_K D vwCl (tysL cq) U
/-- the number that the law gives to an outcome -/
def hN {α : Type} (l : List Nat) : α ⊕ Nat → Int32
  | .inl _ => 0
  | .inr k => nI (l.idxOf k + 1)
/-- the law's array of one long, after an outcome -/
def oX (X : va_W) (j o : Nat) (cL : ClassId) (f : Nat → Int64) : Int32 ⊕ Nat → va_W
  | .inl v => X.set j (o, .inl (cL, 1, .inr (.inl (vp_updL f (0 : Int32).toNatClampNeg v.toInt64))))
  | .inr _ => X
def oD (X : va_W) (j o : Nat) (cD : ClassId) (f : Nat → UInt64) : UInt64 ⊕ Nat → va_W
  | .inl v => X.set j (o, .inl (cD, 1, .inr (.inr (.inr (.inl (vf_upd f (0 : Int32).toNatClampNeg v))))))
  | .inr _ => X
theorem wx_get {cs : Cs} {L : Nat → Sh} {N : Nat} {ad : Nat → Nat} {M : Mm} {X : va_W} {j : Nat} {q : Nat × va_E} (h : X[j]? = some q) : (wl cs L N ad M ++ X)[N + j]? = some q := by
  rw [List.getElem?_append_right (by rw [wl_len]; omega), wl_len, Nat.add_sub_cancel_left]
  exact h
theorem wx_set {cs : Cs} {L : Nat → Sh} {N : Nat} {ad : Nat → Nat} {M : Mm} {X : va_W} {j : Nat} (q : Nat × va_E) : (wl cs L N ad M ++ X).set (N + j) q = wl cs L N ad M ++ X.set j q := by
  rw [List.set_append_right _ _ (by rw [wl_len]; omega), wl_len, Nat.add_sub_cancel_left]
theorem met_h {l : Launch} {y : MethodName} {ws ws' : List Cond} {rm : Room} {cc : ByteArray} {maxL : Nat} {ret : Option FieldType} {hh : List (Nat × Nat × Nat × Nat)} {As : List Value} {Qc : Array Value → State → Outcome → State → Prop} {mc ms : Nat} {free : Addr → Prop} {D : va_G} {sw : Sw} {cs : Cs} {cq : ClassId × ClassId} {ad : Nat → Nat} {M : Mm} {X : va_W} {sz : Nat} (hy : plainName y.cls = true) (hw : ws = Cond.codeWith y cc maxL ret hh :: ws') (hn : (lg_sl As).length ≤ maxL)
    (body : ∀ (p : Program) (e : Env) (s : State) (m : MethodId) (args : Array Value) (below : List Frame) (meth : Method) (c : Code) (ls : Array Slot), CallFix p m c cc maxL s args ws y.cls → meth.sig.returnType = ret → meth.locks = false → c.exceptionTable.toList = tableOf hh → va_K D vwCl (tysC cs) s → va_K D vwCl (tysL cq) s → SW sw (wA NC ad X sz) s s.heap → va_P D vwCl (wl cs LC NC ad M ++ X) s.heap → va_D (wA NC ad X sz) (wl cs LC NC ad M ++ X) → va_S (wA NC ad X sz) s.heap s.heap [] → (∀ q, s.heap.size ≤ q → wA NC ad X sz q) → lv_has ls maxL (lv_args 0 As) → W p l e rm s m args below meth c s.heap [] 0 0 (MQ below Qc args s mc ms free) (F0 m 0 ls [])) : Met l y ws rm (va_Pc As (lPre D sw cs cq ad M X sz)) Qc mc ms free := by
  refine MetFree.of_bodyS (code := cc) (maxLocals := maxL) (ret := ret) hy ?_ ?_
  · intro args s m h hn
    obtain ⟨m9, meth, c, hn9, h1, h2, h3, h4, -, h5, h6, -⟩ := Cond.codeWith_spec (atoms_spec (ws := ws) h _ (by rw [hw]; exact List.mem_cons_self))
    cases hn.symm.trans hn9
    exact ⟨meth, c, h1, h2, h3, h4, h5, h6⟩
  · intro p e s m args below meth c s₁ B hml hP _
    have hh0 : s₁.heap = s.heap := by rw [B.state]; rfl
    have ht := vx_table (x := y) B (atoms_spec (ws := ws) B.pre _ (by rw [hw]; exact List.mem_cons_self))
    obtain ⟨rfl, ⟨hsz, hP, hK, hD, hSW⟩, hKL⟩ := hP
    have hl := lv_entry As (n := maxL) hn
    have key := body p e s m _ below meth c _ ⟨B.exec, B.bytes, hml, findClass_of_methodNamed B.named, atoms_spec (ws := ws) B.pre⟩ B.returns B.notSynchronized ht hK hKL hSW hP (wA_D hD) va_S.rf (fun q h => Or.inr (Or.inr (by rw [← hsz]; exact h))) hl
    rw [← lg_entry_eq] at key
    obtain ⟨t, a1, o, b1, b2, b3⟩ := key s₁ hh0 (Stand.of_body B)
    exact ⟨t, o, a1, b1, b2, ⟨b3.1, b3.2⟩⟩
theorem gwW {w0 : Cond} {own : String} {idx : Nat} {y : MethodName} {cc : ByteArray} {mL : Nat} {ret : Option FieldType} {hh : List (Nat × Nat × Nat × Nat)} (h1 : Cond.methodLink own idx y ∈ WG) (h2 : Cond.static y ∈ WG) (h4 : Cond.initialized y.cls ∈ WG) (h5 : Cond.codeWith y cc mL ret hh ∈ WG) : GoodIn (w0 :: WG) (va_wsS own idx y (Cond.codeWith y cc mL ret hh :: WG)) := by
  intro w hw
  have key : w ∈ WG := by
    simp only [va_wsS, List.mem_append, List.mem_cons, List.not_mem_nil, or_false] at hw
    rcases hw with (rfl | rfl | rfl) | rfl | h
    · exact h1
    · exact h2
    · exact h4
    · exact h5
    · exact h
  exact ⟨List.mem_cons_of_mem _ key, WG_good key⟩
section LP
variable {s : State} {H : Heap} {locs : List Loc} {D : va_G} {sw : Sw} {A : Nat → Prop} {cs : Cs} {cq : ClassId × ClassId} {ad : Nat → Nat} {M : Mm} {X : va_W}
theorem lPreS (hSW : SW sw A s s.heap) (hS : va_S A s.heap H locs) (hA : ∀ q, s.heap.size ≤ q → A q) (hK : va_K D vwCl (tysC cs) s) (hKL : va_K D vwCl (tysL cq) s) (hP : va_P D vwCl (wl cs LC NC ad M ++ X) H) (hD : va_D A (wl cs LC NC ad M ++ X)) (As : List Value) : PreS s H (va_Pc As (lPre D sw cs cq ad M X H.size)) As :=
  ⟨fun a U g mk q => ⟨q.1, ((wPre_blind As H.size) a U g mk ⟨q.1, q.2.1⟩).2, va_K.moved (u := U) (U := U.calling g mk a) (Vm.Alike.refl U.vm) q.2.2⟩, fun U hU hW => ⟨rfl, ((wPreS hSW hS hA hK hP hD As).2 U hU hW).2, va_K.moved hW.alike hKL⟩⟩
end LP
section TKD
variable {p : Program} {l : Launch} {e : Env} {R : Room} {s : State} {m : MethodId} {args : Array Value} {below : List Frame} {meth : Method} {c : Code} {H H0 : Heap} {locs : List Loc} {cells slots : Nat} {Q : State → Prop} {cc : ByteArray} {pc : Nat} {ls : Array Slot} {rest st0 : List Value} {D : va_G} {A : Nat → Prop} {cs : Cs} {L : Nat → Sh} {N : Nat} {ad : Nat → Nat} {M M1 : Mm} {X : va_W} {mc ms : Nat} {a : Array Value}
theorem t_calld {o : UInt64 ⊕ Nat} (hr : vx_Run p l e R s m args below meth c H locs cells slots mc ms (F0 m pc ls st0) rest (tQd D cs L N ad M1 X H.size o a) (tX D cs L N ad M1 X H.size o) (wA N ad X H.size)) (hD : va_D A (wl cs L N ad M ++ X)) (hS : va_S A H0 H locs) (hA : ∀ q, H0.size ≤ q → A q)
    (kx : ∀ (k : Nat), o = .inr k → ∀ (H1 : Heap) (locs1 : List Loc) (ce : Cell) (q : Addr), va_P D vwCl (wl cs L N ad M1 ++ X) H1 → va_D A (wl cs L N ad M1 ++ X) → va_S A H0 H1 locs1 → H1[q]? = some ce → ce.vm = .none → s.vm.findClass (exn k) = some ce.cls → vx_W p l e R s m args below meth c H1 locs1 (cells + mc) (slots + ms) Q (F0 m pc ls rest) q)
    (kk : ∀ (r : UInt64), o = .inl r → ∀ (H1 : Heap) (locs1 : List Loc), va_P D vwCl (wl cs L N ad M1 ++ X) H1 → va_D A (wl cs L N ad M1 ++ X) → va_S A H0 H1 locs1 → W p l e R s m args below meth c H1 locs1 (cells + mc) (slots + ms) Q (F0 m (pc + 3) ls (.double r :: rest))) : W p l e R s m args below meth c H locs cells slots Q (F0 m pc ls st0) :=
  vx_calld hr hS (fun q _ h => wA_free hD hS hA q h) (wA_free hD hS hA) (fun q _ h => wA_free hD hS hA q h)
    (fun E ce q9 u t H1 locs1 ht _ _ hB _ _ hS1 h1 h2 h3 => by
      obtain ⟨⟨k, hk, hE⟩, hB⟩ := hB
      rw [ht] at hB
      subst hE
      exact kx k hk H1 locs1 ce q9 hB (wl_D M1 hD) hS1 h1 h2 h3)
    (fun r u t H1 locs1 ht _ hw hB _ _ hS1 => by rw [ht] at hB; exact kk r hw H1 locs1 hB (wl_D M1 hD) hS1)
theorem w_calld {r : UInt64} (hr : va_Run p l e R s m args below meth c H locs cells slots mc ms (F0 m pc ls st0) rest (wQd D cs L N ad M1 X H.size r a) (wA N ad X H.size)) (hD : va_D A (wl cs L N ad M ++ X)) (hS : va_S A H0 H locs) (hA : ∀ q, H0.size ≤ q → A q)
    (kk : ∀ (H1 : Heap) (locs1 : List Loc), va_P D vwCl (wl cs L N ad M1 ++ X) H1 → va_D A (wl cs L N ad M1 ++ X) → va_S A H0 H1 locs1 → W p l e R s m args below meth c H1 locs1 (cells + mc) (slots + ms) Q (F0 m (pc + 3) ls (.double r :: rest))) : W p l e R s m args below meth c H locs cells slots Q (F0 m pc ls st0) :=
  va_calld hr hS (fun q _ h => wA_free hD hS hA q h) (wA_free hD hS hA) (fun r' u t H1 locs1 ht _ hw hB _ _ hS1 => by subst hw; rw [ht] at hB; exact kk H1 locs1 hB (wl_D M1 hD) hS1)
end TKD
