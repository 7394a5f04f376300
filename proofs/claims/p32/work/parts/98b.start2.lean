section ST
variable {s : State} {a : Array Value}
theorem ev_field {t1 t2 : Term} {c n d : String} (h : t1.eval a s none [] s = t2.eval a s none [] s) : (Term.field t1 c n d).eval a s none [] s = (Term.field t2 c n d).eval a s none [] s := by
  simp only [Term.eval, h]
theorem ev_length {t1 t2 : Term} (h : t1.eval a s none [] s = t2.eval a s none [] s) : (Term.length t1).eval a s none [] s = (Term.length t2).eval a s none [] s := by
  simp only [Term.eval, h]
theorem ev_elem {t1 t2 i : Term} (h : t1.eval a s none [] s = t2.eval a s none [] s) : (Term.elem t1 i).eval a s none [] s = (Term.elem t2 i).eval a s none [] s := by
  simp only [Term.eval, h]
/-- the literals, each by itself, and that they are apart: their characters are -/
theorem lits_of (hf : ∀ c ∈ flatN, c.before a s = true) : ∃ adK adV : Nat → Nat, vk_S 29 litL litB adK adV (AL s) s s.heap ∧ ∀ i : Nat, i < 29 → (tmS i).eval a s none [] s = some (.ref (adK i)) := by
  have hA : ∀ q : Nat, q < s.heap.size → ¬ AL s q := fun q h => Nat.not_le.mpr h
  have hle : ∀ i, i < 29 → (Cond.eq (.length (tmV i)) (.int (Int32.ofNat (litL.getD i 0)))).before a s = true := fun i hi => hf _ (mfl (sA4 i (List.mem_range.mpr hi)))
  have hel : ∀ i, i < 29 → ∀ j, j < litL.getD i 0 → (Cond.eq (.elem (tmV i) (.int (Int32.ofNat j))) (.int ((litB.getD i []).getD j 0))).before a s = true := fun i hi j hj => hf _ (mfl (sA5 i (List.mem_range.mpr hi) j (List.mem_range.mpr hj)))
  have h0 : ∀ i : Nat, ∃ q : Nat × Nat, i < 29 → (tmS i).eval a s none [] s = some (.ref q.1) ∧ va_O "java/lang/String" q.1 (AL s) s s.heap ∧ va_OF "java/lang/String" "coder" "B" (.int 0) q.1 (AL s) s s.heap ∧ va_OF "java/lang/String" "value" "[B" (.ref q.2) q.1 (AL s) s s.heap ∧ va_T .byte q.2 (litL.getD i 0) (fun j => .int ((litB.getD i []).getD j 0)) (AL s) s s.heap := by
    intro i
    by_cases hi : i < 29
    · have hm := List.mem_range.mpr hi
      obtain ⟨k1, v1, hS, hE⟩ := vk_Sof (args := a) (s := s) (N := 1) (tm := fun _ => tmS i) (len := [litL.getD i 0]) (byt := [litB.getD i []]) (A := AL s)
        (fun z hz => by obtain rfl : z = 0 := by omega
                        exact sA6 i hm)
        (fun z _ => hf _ (mfl (sA1 i hm))) (fun z _ => hf _ (mfl (sA2 i hm))) (fun z _ => hf _ (mfl (sA3 i hm)))
        (fun z hz => by obtain rfl : z = 0 := by omega
                        exact hle i hi)
        (fun z hz j hj => by obtain rfl : z = 0 := by omega
                             exact hel i hi j hj)
        (fun x y hx hy hn => absurd (show x = y by omega) hn) hA
      exact ⟨(k1 0, v1 0), fun _ => ⟨hE 0 (by decide), hS.1 0 (by decide)⟩⟩
    · exact ⟨(0, 0), fun h => absurd h hi⟩
  obtain ⟨ad, had⟩ := Classical.axiomOfChoice h0
  refine ⟨fun i => (ad i).1, fun i => (ad i).2, ⟨fun i hi => (had i hi).2, fun i j hi hj e => ?_⟩, fun i hi => (had i hi).1⟩
  by_cases hij : i = j
  · exact hij
  · have ht : (tmS i).eval a s none [] s = (tmS j).eval a s none [] s := by rw [(had i hi).1, (had j hj).1, show (ad i).1 = (ad j).1 from e]
    have hv := ev_field (c := "java/lang/String") (n := "value") (d := "[B") ht
    have l1 := va_eqt (hle i hi)
    have l2 := va_eqt (hle j hj)
    rw [ev_length hv, l2] at l1
    have hi31 := sA6 i (List.mem_range.mpr hi)
    have hj31 := sA6 j (List.mem_range.mpr hj)
    have hl : litL.getD j 0 = litL.getD i 0 := by
      have h9 : nI (litL.getD j 0) = nI (litL.getD i 0) := by
        have := Option.some.inj l1
        injection this
      exact (nI_eq hj31 hi31).mp h9
    rcases sA7 i (List.mem_range.mpr hi) j (List.mem_range.mpr hj) hij with h | ⟨k, hk, h⟩
    · exact absurd hl.symm h
    · have hk := List.mem_range.mp hk
      have e1 := va_eqt (hel i hi k hk)
      have e2 := va_eqt (hel j hj k (by rw [hl]; exact hk))
      rw [ev_elem hv, e2] at e1
      have := Option.some.inj e1
      injection this with h9
      exact absurd h9.symm h
theorem SW_of (hf : ∀ c ∈ flatN, c.before a s = true) (hts : ∀ w ∈ lw_tbl, w.before a s = true) {cur : Nat} (hcur : s.vm.findClass RX7 = some cur) : ∃ sw : Sw, SW sw (AL s) s s.heap := by
  have hA : ∀ q : Nat, q < s.heap.size → ¬ AL s q := fun q h => Nat.not_le.mpr h
  obtain ⟨adK, adV, hS, hE⟩ := lits_of hf
  obtain ⟨n1, n2, n3, n4, n5, n6⟩ := sN2
  obtain ⟨l1, l2, l3, l4, l5, i1, i2, i3, i4⟩ := sL5
  obtain ⟨t, ht, hT⟩ := va_Tof (tm := .static RX6 "ON_AT_FIRST" "[I") (ty := .int) (N := 4) (f := fun j => .int (onF j)) (A := AL s) (by decide) (hf _ n5) (va_eqt (hf _ n6)) (fun j hj => va_eqt (hf _ (sN3 j (List.mem_range.mpr hj)))) hA
  refine ⟨(adK, adV, t), vx_Zqof (hts _ l1) (hts _ i1) (hf _ n1) hA, vx_Zqof (hts _ l2) (hts _ i1) (hf _ n2) hA, va_Zqof (hts _ l3) (hts _ i2) (hf _ n3) hA, va_Zof (hts _ l4) (hts _ i3) (va_eqt (hf _ n4)) hA, va_Zof (hts _ l5) (hts _ i4) ht hA, hT, hS, fun i q hq => ?_, fun q hq => ?_, fun Y hY => va_Nw.of rfl (hts _ (sL3 Y hY)), fun Y hY => va_Nw.of rfl (hts _ (sL4 Y hY)), fun Y hY Z hZ hn => va_Nc.of (hf _ (sN1 Y hY Z hZ hn))⟩
  · have hi : i < 29 := (List.getElem?_eq_some_iff.mp hq).1
    have e := hE i hi
    have hq2 : litT.getD i ("", 0, "") = q := by rw [List.getD_eq_getElem?_getD, hq]; rfl
    unfold tmS at e
    rw [hq2] at e
    exact vk_R.of (hts _ (sL1 q (List.mem_of_getElem? hq))) (A := a) (by rw [← e])
  · have h1 := hts _ (sL2 q hq)
    obtain ⟨-, -, -, sa, -, -, -, -, -, hev⟩ := Cond.stringRef_spec hcur h1
    exact ⟨sa, vk_R.of h1 hev⟩
theorem K_of (hts : ∀ w ∈ lw_tbl, w.before a s = true) : ∃ (D : va_G) (cs : Cs), va_K D vwCl (tysC cs) s := by
  have hw : ∀ w ∈ Cond.arrayClass .int :: WG, w.before a s = true := fun w h => by
    rcases List.mem_cons.mp h with rfl | h
    · exact hts _ (WG_lw m1_47)
    · exact hts _ (WG_lw h)
  have hk : ∀ k : Nat, ∃ q : ClassId × (Nat → Nat), ∀ r : vw_C, vwCl[k]? = some r → u_Kn s r.1 r.2.1 r.2.2 q.1 q.2 := by
    intro k
    match k with
    | 0 => obtain ⟨c, i, h⟩ := u_known hw in_RX1 (hw _ (List.mem_cons_of_mem _ m1_87)); exact ⟨(c, i), fun r hr => by cases hr; exact h⟩
    | 1 => obtain ⟨c, i, h⟩ := u_known hw in_RX3 (hw _ (List.mem_cons_of_mem _ m1_111)); exact ⟨(c, i), fun r hr => by cases hr; exact h⟩
    | 2 => obtain ⟨c, i, h⟩ := u_known hw in_RX4 (hw _ (List.mem_cons_of_mem _ m1_31)); exact ⟨(c, i), fun r hr => by cases hr; exact h⟩
    | 3 => obtain ⟨c, i, h⟩ := u_known hw in_RX5 (hw _ (List.mem_cons_of_mem _ m1_81)); exact ⟨(c, i), fun r hr => by cases hr; exact h⟩
    | 4 => obtain ⟨c, i, h⟩ := u_known hw in_RX6 (hw _ (List.mem_cons_of_mem _ m1_49)); exact ⟨(c, i), fun r hr => by cases hr; exact h⟩
    | 5 => obtain ⟨c, i, h⟩ := u_known hw in_RX7 (hw _ (List.mem_cons_of_mem _ m1_23)); exact ⟨(c, i), fun r hr => by cases hr; exact h⟩
    | k + 6 => exact ⟨(0, fun _ => 0), fun r hr => by simp [vwCl] at hr⟩
  obtain ⟨d, hd⟩ := Classical.axiomOfChoice hk
  obtain ⟨c1, k1, comp1, f1, g1, e1⟩ := Cond.arrayClass_spec (hts _ (WG_lw m1_47))
  obtain ⟨comp2, c2, k2, f2, -, g2, e2, f2'⟩ := Cond.arrayOver_spec (hts _ sL6.1)
  obtain ⟨comp3, c3, k3, f3, g3, e3, f3'⟩ := Cond.arrayOver_specA (hts _ sL6.2.1)
  refine ⟨(fun k => (d k).1, fun k => (d k).2), (c1, c2, c3), fun k r hr => hd k r hr, fun k q hq => ?_⟩
  match k, hq with
  | 0, hq => cases hq; exact ⟨fun n z => ⟨fun _ h => (by cases h), k1, g1, comp1, e1⟩, f1⟩
  | 1, hq => cases hq; exact ⟨fun n z => ⟨fun _ h => (by cases h), k2, g2, comp2, e2⟩, k2, comp2, g2, e2, f2, f2'⟩
  | 2, hq => cases hq; exact ⟨fun n z => ⟨fun _ h => (by cases h), k3, g3, comp3, e3⟩, f3'⟩
  | k + 3, hq => simp at hq
theorem CW_of (hts : ∀ w ∈ lw_tbl, w.before a s = true) : CW s := by
  obtain ⟨h1, h2, h3, h4, h5, h6, h7⟩ := sL6
  exact ⟨va_AO.of (hts _ h1), nw_AOA.of (hts _ h2), va_Nw.of rfl (hts _ h3), va_Nw.of rfl (hts _ h4), va_Nw.of rfl (hts _ h5), va_Nw.of rfl (hts _ h6), va_Nw.of rfl (hts _ h7)⟩
end ST
