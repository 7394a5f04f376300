/-! doubles -/
theorem dn64 {r : UInt64} (h : ¬ ¬ (r &&& 0x7fffffffffffffff ≤ 0x7ff0000000000000)) : vf_n64 r := (Decidable.not_not (p := r &&& 0x7fffffffffffffff ≤ 0x7ff0000000000000)).mp h
abbrev wQd (D : va_G) (cs : Cs) (L : Nat → Sh) (N : Nat) (ad : Nat → Nat) (M : Mm) (X : va_W) (sz : Nat) (r : UInt64) := va_Qd (fun (r' : UInt64) (_ : Unit) => r' = r) (fun _ t => va_P D vwCl (wl cs L N ad M ++ X) t.heap) (wA N ad X sz)
abbrev tQd (D : va_G) (cs : Cs) (L : Nat → Sh) (N : Nat) (ad : Nat → Nat) (M : Mm) (X : va_W) (sz : Nat) (o : UInt64 ⊕ Nat) := va_Qd (fun (r' : UInt64) (_ : Unit) => o = .inl r') (fun _ t => va_P D vwCl (wl cs L N ad M ++ X) t.heap) (wA N ad X sz)
