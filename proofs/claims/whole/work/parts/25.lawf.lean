/-! THE LAW: frame -/
def outs (cq : ClassId × ClassId) (o od : Nat) (f : Nat → Int64) (g : Nat → UInt64) : va_W := [(o, .inl (cq.1, 1, .inr (.inl f))), (od, .inl (cq.2, 1, .inr (.inr (.inr (.inl g)))))]
def fo (f : Nat → Int64) : Int32 ⊕ Nat → Nat → Int64
  | .inl v => vp_updL f (0 : Int32).toNatClampNeg v.toInt64
  | .inr _ => f
def gof (g : Nat → UInt64) : UInt64 ⊕ Nat → Nat → UInt64
  | .inl v => vf_upd g (0 : Int32).toNatClampNeg v
  | .inr _ => g
abbrev wC (cs : Cs) (ad am : Nat → Nat) (M N : Mm) (X : va_W) : va_W := wl cs LC NC ad M ++ (wl cs LM NM am N ++ X)
abbrev wM (cs : Cs) (ad am : Nat → Nat) (M N : Mm) (X : va_W) : va_W := wl cs LM NM am N ++ (wl cs LC NC ad M ++ X)
theorem sw3P {D : va_G} {cl : List vw_C} {a b c : va_W} {H : Heap} (h : va_P D cl (a ++ (b ++ c)) H) : va_P D cl (b ++ (a ++ c)) H := by
  have h1 := va_P.swap (a := []) (b := a) (c := b ++ c) h
  have h2 := va_P.swap (a := b) (b := c) (c := a) (by rw [List.nil_append] at h1; exact h1)
  rw [List.append_assoc] at h2
  exact h2
theorem sw3D {A : Nat → Prop} {a b c : va_W} (h : va_D A (a ++ (b ++ c))) : va_D A (b ++ (a ++ c)) := by
  have h1 := va_D.swap (a := []) (b := a) (c := b ++ c) h
  have h2 := va_D.swap (a := b) (b := c) (c := a) (by rw [List.nil_append] at h1; exact h1)
  rw [List.append_assoc] at h2
  exact h2
section LX
variable {cs : Cs} {cq : ClassId × ClassId} {am : Nat → Nat} {N : Mm} {o od : Nat} {f : Nat → Int64} {g : Nat → UInt64}
theorem oX_out (oc : Int32 ⊕ Nat) : oX (wl cs LM NM am N ++ outs cq o od f g) (NM + 0) o cq.1 f oc = wl cs LM NM am N ++ outs cq o od (fo f oc) g := by
  cases oc with
  | inl v =>
    show (wl cs LM NM am N ++ outs cq o od f g).set (NM + 0) _ = _
    rw [wx_set]
    rfl
  | inr k => rfl
theorem oD_out (oc : UInt64 ⊕ Nat) : oD (wl cs LM NM am N ++ outs cq o od f g) (NM + 1) od cq.2 g oc = wl cs LM NM am N ++ outs cq o od f (gof g oc) := by
  cases oc with
  | inl v =>
    show (wl cs LM NM am N ++ outs cq o od f g).set (NM + 1) _ = _
    rw [wx_set]
    rfl
  | inr k => rfl
theorem out_get {M : Mm} {ad : Nat → Nat} : (wC cs ad am M N (outs cq o od f g))[NC + (NM + 0)]? = some (o, .inl (cq.1, 1, .inr (.inl f))) := wx_get (wx_get rfl)
theorem outD_get {M : Mm} {ad : Nat → Nat} : (wC cs ad am M N (outs cq o od f g))[NC + (NM + 1)]? = some (od, .inl (cq.2, 1, .inr (.inr (.inr (.inl g))))) := wx_get (wx_get rfl)
end LX
abbrev AL (s : State) : Nat → Prop := fun q => s.heap.size ≤ q
def wArg (x1 x2 : Int32) : Int64 := (x1.toInt64 <<< ((32 : Int32).toInt64 &&& 63)) ||| (x2.toInt64 &&& 4294967295)
theorem fo_0 {f : Nat → Int64} {v : Int32} : fo f (.inl v) (0 : Int32).toNatClampNeg = v.toInt64 := by
  unfold fo vp_updL
  simp
theorem gof_0 {g : Nat → UInt64} {v : UInt64} : gof g (.inl v) (0 : Int32).toNatClampNeg = v := by
  unfold gof vf_upd
  simp
theorem dcmp_same {x : UInt64} (h : vf_n64 x) (op : CmpOp) : Op.cmpValue (FP.dcmp x x) op = 0 := by
  have h1 : FP.dcmp x x = some .eq := FP.Core.dcmp_refl (Jvm.Free.Fl.noNaN64_no.mp h)
  rw [h1]
  rfl
/-- what stands while the law runs -/
def LK (l : Launch) (p : Program) (s : State) (m : MethodId) (c : Code) (b L : Nat) (xs : Nat → Int32) (D : va_G) (sw : Sw) (cs : Cs) (cq : ClassId × ClassId) : Prop :=
  CallFix p m c code 9 s #[Value.ref b] (Cond.arrayClass .int :: WG) RL ∧ va_X b L xs s s.heap ∧ b < s.heap.size ∧ va_K D vwCl (tysC cs) s ∧ va_K D vwCl (tysL cq) s ∧ SW sw (AL s) s s.heap ∧ l.stackTraces = false
/-- the law's locals -/
abbrev lLv (b : Nat) (ad am : Nat → Nat) (o od : Nat) (i : Int32) : List (Nat × Value) := [(5, .int i), (0, .ref b), (1, .ref (ad 0)), (2, .ref (am 0)), (3, .ref o), (4, .ref od)]
