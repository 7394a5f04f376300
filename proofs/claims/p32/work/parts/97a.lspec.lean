/-! THE LAW over the machine: what stands while it runs -/
abbrev AL (s : State) : Nat → Prop := fun q => s.heap.size ≤ q
def LK (l : Launch) (p : Program) (R : Room) (s : State) (m : MethodId) (c : Code) (b L : Nat) (xs : Nat → Int32) (D : va_G) (sw : Sw) (cs : Cs) : Prop :=
  CallFix p m c cL_law 14 s #[Value.ref b] (Cond.arrayClass .int :: WG) RL ∧ (va_X b L xs s s.heap ∧ L < 2 ^ 31) ∧ b < s.heap.size ∧ va_K D vwCl (tysC cs) s ∧ SW sw (AL s) s s.heap ∧ CW s ∧ va_AO "java/lang/String" s ∧ l.stackTraces = false ∧ (500 ≤ R.frames ∧ 20000 ≤ R.locals)
/-- the other parser, and the items, beside one -/
def X2 (cs : Cs) (ad2 : Nat → Nat) (M2 : Mm) (o : Nat) (f : Nat → Int32) : va_W := wl cs LC NC ad2 M2 ++ [(o, .inl (cs.1, 80, .inl f))]
section SW2
variable {D : va_G} {A : Nat → Prop} {cs : Cs} {ad ad2 : Nat → Nat} {M M2 : Mm} {o : Nat} {f : Nat → Int32} {H : Heap}
theorem X2_get : (wl cs LC NC ad M ++ X2 cs ad2 M2 o f)[NC + (NC + 0)]? = some (o, .inl (cs.1, 80, .inl f)) := wx_get (wx_get rfl)
theorem sw2P (h : va_P D vwCl (wl cs LC NC ad M ++ X2 cs ad2 M2 o f) H) : va_P D vwCl (wl cs LC NC ad2 M2 ++ X2 cs ad M o f) H := sw3P h
theorem sw2D (h : va_D A (wl cs LC NC ad M ++ X2 cs ad2 M2 o f)) : va_D A (wl cs LC NC ad2 M2 ++ X2 cs ad M o f) := sw3D h
/-- the other one left behind -/
theorem of2P (h : va_P D vwCl (wl cs LC NC ad M ++ X2 cs ad2 M2 o f) H) : va_P D vwCl (wl cs LC NC ad M ++ [(o, .inl (cs.1, 80, .inl f))]) H := by
  have h1 := sw3P h
  have h2 := va_P.swap (a := []) (b := wl cs LC NC ad2 M2) (c := wl cs LC NC ad M ++ [(o, .inl (cs.1, 80, .inl f))]) h1
  rw [List.nil_append] at h2
  exact w_left h2
theorem of2D (h : va_D A (wl cs LC NC ad M ++ X2 cs ad2 M2 o f)) : va_D A (wl cs LC NC ad M ++ [(o, .inl (cs.1, 80, .inl f))]) := by
  have h1 := sw3D h
  have h2 := va_D.swap (a := []) (b := wl cs LC NC ad2 M2) (c := wl cs LC NC ad M ++ [(o, .inl (cs.1, 80, .inl f))]) h1
  rw [List.nil_append] at h2
  have key : ∀ (i : Nat) (q : Nat × va_E), (wl cs LC NC ad M ++ [(o, .inl (cs.1, 80, .inl f))])[i]? = some q → ((wl cs LC NC ad M ++ [(o, .inl (cs.1, 80, .inl f))]) ++ wl cs LC NC ad2 M2)[i]? = some q := fun i q hi => by rw [List.getElem?_append_left (List.getElem?_eq_some_iff.mp hi).1]; exact hi
  exact ⟨fun i j p q hi hj e => h2.1 i j p q (key i p hi) (key j q hj) e, fun i q hi => h2.2 i q (key i q hi)⟩
end SW2
theorem k_one {M : Mm} {k : Nat} {cd : Nat → Nat} (h : Ok M k cd) (hw : st cd k = some []) (hk : k < 80) {t : Nat} (ht : t < 126) (htk : gX0_isToken (nI t) ≠ 0) : ∃ (cd3 : Nat → Nat) (M3 : Mm), gX7_write M ((nI t).toInt64) = some (.inl (nI (k + 1)), M3) ∧ Ok M3 (k + 1) cd3 ∧ st cd3 (k + 1) = some [] ∧ (∀ i, i < k → cd3 i = cd i) ∧ cd3 k = t := by
  obtain ⟨t1, t2⟩ := tk_one t (List.mem_range.mpr ht) htk
  have hl : (tk ((nI t).toInt64) 8).length = 1 := by rw [t1]; rfl
  obtain ⟨cd3, M3, m1, m2, m3, m4⟩ := k_write h (a := (nI t).toInt64) (fun i hi => t2 i (List.mem_range.mpr hi)) (by rw [hl]; omega) hw
  rw [hl] at m1 m2 m3 m4
  refine ⟨cd3, M3, m1, m2, m4, fun i hi => ?_, ?_⟩
  · rw [m3 i (by omega)]
    unfold app
    rw [if_pos hi]
  · rw [m3 k (by omega), t1]
    unfold app
    rw [if_neg (by omega), Nat.sub_self]
    rfl
theorem pres_bit {cd : Nat → Nat} {c i : Nat} (h : inV cd c i = true) : (pres cd i >>> (nI c &&& 31)) &&& (1 : Int32) = 1 := by
  unfold inV at h
  rw [Bool.and_eq_true] at h
  have h2 := of_decide_eq_true h.2
  rw [has_b] at h2
  by_cases q : bitI (pres cd i) (nI c) = 1
  · exact q
  · rw [if_neg q] at h2
    exact absurd h2 (by decide)
theorem x_or : ∀ a ∈ List.range 16, ∀ t ∈ List.range 4, ∃ c ∈ List.range 16, nI a ^^^ (nI t * (5 : Int32)) = nI c := by decide +kernel
theorem Al_step {cd cd2 cd3 : Nat → Nat} {c n k : Nat} (h : ∀ i, i < k → cd2 i = cd ((vl cd c n).getD i 0)) (h1 : ∀ i, i < k → cd3 i = cd2 i) (h2 : cd3 k = cd ((vl cd c n).getD k 0)) : ∀ i, i < k + 1 → cd3 i = cd ((vl cd c n).getD i 0) := by
  intro i hi
  by_cases e : i = k
  · rw [e]; exact h2
  · rw [h1 i (by omega), h i (by omega)]
theorem tok_of {n : Nat} {cd : Nat → Nat} (hV : Val n cd) {i : Nat} (hi : i < n) (h : 18 ≤ cd i) : cd i < 126 ∧ gX0_isToken (nI (cd i)) ≠ 0 := by
  obtain ⟨h1, h2⟩ := hV.2.1 i hi
  rcases h1 with h1 | h1
  · omega
  · exact ⟨by have := (tok_big h1 h2).2; omega, h1⟩
section TKD
variable {p : Program} {l : Launch} {e : Env} {R : Room} {s : State} {m : MethodId} {args : Array Value} {below : List Frame} {meth : Method} {c : Code} {H H0 : Heap} {locs : List Loc} {cells slots : Nat} {Q : State → Prop} {cc : ByteArray} {pc : Nat} {ls : Array Slot} {rest st0 : List Value} {D : va_G} {A : Nat → Prop} {cs : Cs} {L : Nat → Sh} {N : Nat} {ad : Nat → Nat} {M M1 : Mm} {X : va_W} {mc ms : Nat} {a : Array Value}
theorem t_calld {o : UInt64 ⊕ Nat} (hr : vx_Run p l e R s m args below meth c H locs cells slots mc ms (F0 m pc ls st0) rest (tQd D cs L N ad M1 X H.size o a) (tX D cs L N ad M1 X H.size o) (wA N ad X H.size)) (hD : va_D A (wl cs L N ad M ++ X)) (hS : va_S A H0 H locs) (hA : ∀ q, H0.size ≤ q → A q)
    (kx : ∀ (k : Nat), o = .inr k → ∀ (H1 : Heap) (locs1 : List Loc) (ce : Cell) (q : Addr), va_P D vwCl (wl cs L N ad M1 ++ X) H1 → va_D A (wl cs L N ad M1 ++ X) → va_S A H0 H1 locs1 → H1[q]? = some ce → ce.vm = .none → s.vm.findClass (exn k) = some ce.cls → vx_W p l e R s m args below meth c H1 locs1 (cells + mc) (slots + ms) Q (F0 m pc ls rest) q)
    (kk : ∀ (r : UInt64), o = .inl r → ∀ (H1 : Heap) (locs1 : List Loc), va_P D vwCl (wl cs L N ad M1 ++ X) H1 → va_D A (wl cs L N ad M1 ++ X) → va_S A H0 H1 locs1 → W p l e R s m args below meth c H1 locs1 (cells + mc) (slots + ms) Q (F0 m (pc + 3) ls (.double r :: rest))) : W p l e R s m args below meth c H locs cells slots Q (F0 m pc ls st0) :=
  vx_calld hr hS (fun q _ h => wA_free hD hS hA q h) (wA_free hD hS hA) (fun q _ h => wA_free hD hS hA q h)
    (fun E ce q9 u t H1 locs1 ht _ _ hB _ _ hS1 h1 h2 h3 => by
      obtain ⟨⟨k, hk, hE⟩, hB⟩ := hB
      rw [ht] at hB
      subst hE
      exact kx k hk H1 locs1 ce q9 hB (wl_D M1 hD) hS1 h1 h2 h3)
    (fun r u t H1 locs1 ht _ hw hB _ _ hS1 => by rw [ht] at hB; exact kk r hw H1 locs1 hB (wl_D M1 hD) hS1)
end TKD
