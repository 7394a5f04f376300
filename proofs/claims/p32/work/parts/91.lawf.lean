/-! THE LAW'S OWN METHODS: frame -/
theorem wx_get {cs : Cs} {L : Nat → Sh} {N : Nat} {ad : Nat → Nat} {M : Mm} {X : va_W} {j : Nat} {q : Nat × va_E} (h : X[j]? = some q) : (wl cs L N ad M ++ X)[N + j]? = some q := by
  rw [List.getElem?_append_right (by rw [wl_len]; omega), wl_len, Nat.add_sub_cancel_left]
  exact h
theorem wx_set {cs : Cs} {L : Nat → Sh} {N : Nat} {ad : Nat → Nat} {M : Mm} {X : va_W} {j : Nat} (q : Nat × va_E) : (wl cs L N ad M ++ X).set (N + j) q = wl cs L N ad M ++ X.set j q := by
  rw [List.set_append_right _ _ (by rw [wl_len]; omega), wl_len, Nat.add_sub_cancel_left]
theorem sw3P {D : va_G} {cl : List vw_C} {a b c : va_W} {H : Heap} (h : va_P D cl (a ++ (b ++ c)) H) : va_P D cl (b ++ (a ++ c)) H := by
  have h1 := va_P.swap (a := []) (b := a) (c := b ++ c) h
  have h2 := va_P.swap (a := b) (b := c) (c := a) (by rw [List.nil_append] at h1; exact h1)
  rw [List.append_assoc] at h2
  exact h2
theorem sw3D {A : Nat → Prop} {a b c : va_W} (h : va_D A (a ++ (b ++ c))) : va_D A (b ++ (a ++ c)) := by
  have h1 := va_D.swap (a := []) (b := a) (c := b ++ c) h
  have h2 := va_D.swap (a := b) (b := c) (c := a) (by rw [List.nil_append] at h1; exact h1)
  rw [List.append_assoc] at h2
  exact h2
/-- the script, as a callee sees it -/
def xPre (b L : Nat) (xs : Nat → Int32) (U : State) : Prop := va_X b L xs U U.heap
theorem xPreS {s : State} {H : Heap} {locs : List Loc} {A : Nat → Prop} {b L : Nat} {xs : Nat → Int32} (hX : va_X b L xs s s.heap) (hbl : b < s.heap.size) (hbA : ¬ A b) (hS : va_S A s.heap H locs) (As : List Value) : PreS s H (va_Pc As (xPre b L xs)) As :=
  ⟨fun _ U _ _ q => ⟨q.1, va_X.moved (u := U) (U := U.calling _ _ _) (Vm.Alike.refl U.vm) q.2⟩, fun U hU hW => ⟨rfl, by unfold xPre; rw [hU]; exact (hX.kept (hS.2.1 b hbl hbA)).moved hW.alike⟩⟩
theorem met_x {l : Launch} {y : MethodName} {ws ws' : List Cond} {rm : Room} {cc : ByteArray} {maxL : Nat} {ret : Option FieldType} {As : List Value} {Qc : Array Value → State → Outcome → State → Prop} {mc ms : Nat} {free : Addr → Prop} {b L : Nat} {xs : Nat → Int32} (hy : plainName y.cls = true) (hw : ws = Cond.code y cc maxL ret :: ws') (hn : (lg_sl As).length ≤ maxL)
    (body : ∀ (p : Program) (e : Env) (s : State) (m : MethodId) (args : Array Value) (below : List Frame) (meth : Method) (c : Code) (ls : Array Slot), CallFix p m c cc maxL s args ws y.cls → meth.sig.returnType = ret → meth.locks = false → va_X b L xs s s.heap → lv_has ls maxL (lv_args 0 As) → W p l e rm s m args below meth c s.heap [] 0 0 (MQ below Qc args s mc ms free) (F0 m 0 ls [])) : Met l y ws rm (va_Pc As (xPre b L xs)) Qc mc ms free := by
  refine Met.ofW (cc := cc) (maxL := maxL) (ret := ret) hy hw ?_
  intro p e s m args below meth c s₁ B hml hv
  obtain ⟨rfl, hX⟩ := hv
  have hl := lv_entry As (n := maxL) hn
  rw [lg_entry_eq]
  exact body p e s m _ below meth c _ ⟨B.exec, B.bytes, hml, findClass_of_methodNamed B.named, atoms_spec (ws := ws) B.pre⟩ B.returns B.notSynchronized hX hl
/-! below -/
def blw (v n : Int32) : Int32 := (v &&& (2147483647 : Int32)) - (v &&& (2147483647 : Int32)) / n * n
theorem pos_31 (v : Int32) : ∃ a, a < 2 ^ 31 ∧ v &&& (2147483647 : Int32) = nI a := by
  refine ⟨v.toBitVec.toNat % 2 ^ 31, Nat.mod_lt _ (by decide), ?_⟩
  apply Int32.toBitVec_inj.mp
  apply BitVec.eq_of_toNat_eq
  show (v.toBitVec &&& 2147483647#32).toNat = (BitVec.ofNat 32 (v.toBitVec.toNat % 2 ^ 31)).toNat
  rw [BitVec.toNat_and, BitVec.toNat_ofNat, BitVec.toNat_ofNat]
  have h1 : 2147483647 % 2 ^ 32 = 2 ^ 31 - 1 := by decide
  rw [h1, Nat.and_two_pow_sub_one_eq_mod]
  have h2 : v.toBitVec.toNat % 2 ^ 31 < 2 ^ 31 := Nat.mod_lt _ (by decide)
  rw [Nat.mod_eq_of_lt (show v.toBitVec.toNat % 2 ^ 31 < 2 ^ 32 by omega)]
theorem i_div {a k : Nat} (ha : a < 2 ^ 31) (hk : k < 2 ^ 31) : nI a / nI k = nI (a / k) := by
  rw [i32_eq, Int32.toInt_div, i32_num a ha, i32_num k hk]
  have h1 : a / k ≤ a := Nat.div_le_self a k
  rw [i32_num (a / k) (by omega), ← Int.ofNat_tdiv]
  generalize a / k = q at h1 ⊢
  exact Int.bmod_eq_of_le (by omega) (by omega)
theorem i_mod {a k : Nat} (ha : a < 2 ^ 31) (hk : k < 2 ^ 31) (h0 : 0 < k) : nI a - nI a / nI k * nI k = nI (a % k) := by
  have h1 : a / k * k ≤ a := Nat.div_mul_le_self a k
  rw [i_div ha hk, s_mul, s_sub h1]
  congr 1
  have := Nat.div_add_mod a k
  rw [Nat.mul_comm] at this
  omega
theorem blw_j (v : Int32) {k : Nat} (h0 : 0 < k) (hk : k < 2 ^ 31) : ∃ j, j < k ∧ blw v (nI k) = nI j := by
  obtain ⟨a, ha, e⟩ := pos_31 v
  refine ⟨a % k, Nat.mod_lt _ h0, ?_⟩
  unfold blw
  rw [e, i_mod ha hk h0]
abbrev wsL_below : List Cond := Cond.code yL_below cL_below 2 (some .int) :: WG
theorem ctL_below (l : Launch) (v n : Int32) (hn : ¬ n = 0) : Met l yL_below wsL_below { frames := 0, cells := 0, slots := 0, locals := 0 } (va_Pc [.int v, .int n] (fun _ => True)) (vp_Si (fun r' => r' = blw v n)) 0 0 (fun _ => False) := by
  refine met_p rfl rfl (Nat.le_of_ble_eq_true rfl) (fun p e s m args below meth c ls CX hr hlk hl => ?_)
  obtain ⟨hx, hb, hml, hown, hts⟩ := id CX
  have hw : ∀ w ∈ WG, w.before args s = true := fun w h => hts w (List.mem_cons_of_mem _ h)
  have hl : lv_has ls 2 [(0, .int v), (1, .int n)] := hl
  refine lv_iload_n hx hb dL_below_0 rfl (lv_at hl 0 rfl) ?_
  refine lv_ldc (v := 2147483647) hx hb hown (hw _ m3_172) dL_below_1 ?_
  refine lv_iand hx hb dL_below_3 ?_
  refine lv_iload_n hx hb dL_below_4 rfl (lv_at hl 1 rfl) ?_
  refine lv_irem hx hb dL_below_5 hn ?_
  exact W.iret hx hb hr (fun t ht hW => ⟨_, rfl, rfl, ht⟩) (fun _ h => by cases h) dL_below_6
/-! cell -/
def cel (L : Nat) (xs : Nat → Int32) (j : Nat) : Int32 := if j < L then xs j else (790386105 : Int32) * (nI j + (3 : Int32))
abbrev wsL_cell : List Cond := Cond.code yL_cell cL_cell 2 (some .int) :: WG
theorem ctL_cell (l : Launch) (b L : Nat) (xs : Nat → Int32) (j : Nat) (hj : j < 1000) (hL : L < 2 ^ 31) : Met l yL_cell wsL_cell { frames := 0, cells := 0, slots := 0, locals := 0 } (va_Pc [.ref b, .int (nI j)] (xPre b L xs)) (vp_Si (fun r' => r' = cel L xs j)) 0 0 (fun _ => False) := by
  refine met_x rfl rfl (Nat.le_of_ble_eq_true rfl) (fun p e s m args below meth c ls CX hr hlk hX hl => ?_)
  obtain ⟨hx, hb, hml, hown, hts⟩ := id CX
  have hw : ∀ w ∈ WG, w.before args s = true := fun w h => hts w (List.mem_cons_of_mem _ h)
  have hl : lv_has ls 2 [(0, .ref b), (1, .int (nI j))] := hl
  have hbl : b < s.heap.size := by
    obtain ⟨scr, h1, -⟩ := id hX
    exact (Array.getElem?_eq_some_iff.mp h1).1
  have hbA : ¬ (fun _ : Nat => False) b := fun h => h
  have hS : va_S (fun _ => False) s.heap s.heap [] := va_S.rf
  unfold cel
  refine lv_iload_n hx hb dL_cell_0 rfl (lv_at hl 1 rfl) ?_
  refine lv_aload_n hx hb dL_cell_1 rfl (lv_at hl 0 rfl) ?_
  refine va_slen hx hb hX hbl hbA hS dL_cell_2 ?_
  refine lv_icmp_ge (tgt := 12) hx hb dL_cell_3 (by decide) (fun h9 => ?_) (fun h9 => ?_)
  · rw [if_neg (show ¬ j < L from fun h => nI_ge (b := L) h hL h9)]
    refine lv_ldc (v := 790386105) hx hb hown (hw _ m3_176) dL_cell_12 ?_
    refine lv_iload_n hx hb dL_cell_14 rfl (lv_at hl 1 rfl) ?_
    refine lv_iconst (v := 3) hx hb dL_cell_15 (by decide) ?_
    refine lv_iadd hx hb dL_cell_16 ?_
    refine lv_imul hx hb dL_cell_17 ?_
    exact W.iret hx hb hr (fun t ht hW => ⟨_, rfl, rfl, ht⟩) (fun _ h => by cases h) dL_cell_18
  · have h9 : j < L := by
      by_cases q : j < L
      · exact q
      · exact absurd (nI_le (a := L) (b := j) (by omega) (by omega)) h9
    rw [if_pos h9]
    refine lv_aload_n hx hb dL_cell_6 rfl (lv_at hl 0 rfl) ?_
    refine lv_iload_n hx hb dL_cell_7 rfl (lv_at hl 1 rfl) ?_
    refine va_sld hx hb hX hbl hbA hS (nI_in h9 hL) dL_cell_8 ?_
    rw [cI (show j < 2 ^ 31 by omega)]
    refine lv_goto (tgt := 18) hx hb dL_cell_9 (by decide) ?_
    exact W.iret hx hb hr (fun t ht hW => ⟨_, rfl, rfl, ht⟩) (fun _ h => by cases h) dL_cell_18
