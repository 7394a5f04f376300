/-! BUILD'S CONTRACT -/
def bPre (D : va_G) (sw : Sw) (cs : Cs) (ad : Nat → Nat) (M : Mm) (X : va_W) (sz b L : Nat) (xs : Nat → Int32) (U : State) : Prop := wPre D sw cs LC NC ad M X sz U ∧ va_X b L xs U U.heap ∧ va_AO "java/lang/String" U
abbrev bQ (D : va_G) (cs : Cs) (ad : Nat → Nat) (o sz : Nat) (f : Nat → Int32) := va_Qi (fun (r : Int32) (u : Mm × Nat × (Nat → Nat) × (Nat → Int32)) => r = nI u.2.1 ∧ Ok u.1 u.2.1 u.2.2.1 ∧ st u.2.2.1 u.2.1 = some [] ∧ u.2.1 ≤ 65 ∧ ∀ i, i < u.2.1 → u.2.2.2 i = nI (u.2.2.1 i)) (fun u t => va_P D vwCl (wl cs LC NC ad u.1 ++ [(o, .inl (cs.1, 80, .inl u.2.2.2))]) t.heap) (wA NC ad [(o, .inl (cs.1, 80, .inl f))] sz)
/-- the row of texts while it is filled -/
def fS (sw : Sw) : Nat → Nat → Option Nat
  | 0 => fun _ => none
  | j + 1 => va_up (fS sw j) j (some (sw.1 (15 + j)))
theorem fS_get (sw : Sw) : ∀ j i, i < j → fS sw j i = some (sw.1 (15 + i))
  | j + 1, i, h => by
    show va_up (fS sw j) j (some (sw.1 (15 + j))) i = _
    unfold va_up
    by_cases e : i = j
    · rw [e, if_pos rfl]
    · rw [if_neg e]
      exact fS_get sw j i (by omega)
theorem met_b {l : Launch} {y : MethodName} {ws ws' : List Cond} {rm : Room} {cc : ByteArray} {maxL : Nat} {ret : Option FieldType} {As : List Value} {Qc : Array Value → State → Outcome → State → Prop} {mc ms : Nat} {free : Addr → Prop} {D : va_G} {sw : Sw} {cs : Cs} {ad : Nat → Nat} {M : Mm} {X : va_W} {sz b L : Nat} {xs : Nat → Int32} (hy : plainName y.cls = true) (hw : ws = Cond.code y cc maxL ret :: ws') (hn : (lg_sl As).length ≤ maxL)
    (body : ∀ (p : Program) (e : Env) (s : State) (m : MethodId) (args : Array Value) (below : List Frame) (meth : Method) (c : Code) (ls : Array Slot), CallFix p m c cc maxL s args ws y.cls → meth.sig.returnType = ret → meth.locks = false → va_X b L xs s s.heap → va_AO "java/lang/String" s → va_K D vwCl (tysC cs) s → SW sw (wA NC ad X sz) s s.heap → va_P D vwCl (wl cs LC NC ad M ++ X) s.heap → va_D (wA NC ad X sz) (wl cs LC NC ad M ++ X) → va_S (wA NC ad X sz) s.heap s.heap [] → (∀ q, s.heap.size ≤ q → wA NC ad X sz q) → lv_has ls maxL (lv_args 0 As) → W p l e rm s m args below meth c s.heap [] 0 0 (MQ below Qc args s mc ms free) (F0 m 0 ls [])) : Met l y ws rm (va_Pc As (bPre D sw cs ad M X sz b L xs)) Qc mc ms free := by
  refine Met.ofW (cc := cc) (maxL := maxL) (ret := ret) hy hw ?_
  intro p e s m args below meth c s₁ B hml hv
  obtain ⟨rfl, ⟨hsz, hP, hK, hD, hSW⟩, hX, hO⟩ := hv
  have hl := lv_entry As (n := maxL) hn
  rw [lg_entry_eq]
  exact body p e s m _ below meth c _ ⟨B.exec, B.bytes, hml, findClass_of_methodNamed B.named, atoms_spec (ws := ws) B.pre⟩ B.returns B.notSynchronized hX hO hK hSW hP (wA_D hD) va_S.rf (fun q h => Or.inr (Or.inr (by rw [← hsz]; exact h))) hl
section BSTS
variable {p : Program} {l : Launch} {e : Env} {R : Room} {s : State} {m : MethodId} {args : Array Value} {below : List Frame} {meth : Method} {c : Code} {H : Heap} {locs : List Loc} {cells slots : Nat} {Q : State → Prop} {cc : ByteArray} {pc : Nat} {ls : Array Slot} {rest : List Value} {D : va_G} {A : Nat → Prop} {sw : Sw} {cs : Cs} {cT : ClassId} {ad : Nat → Nat} {M : Mm} {o q1 : Nat} {f : Nat → Int32} {j : Nat}
abbrev xS (cs : Cs) (cT : ClassId) (sw : Sw) (o q1 : Nat) (f : Nat → Int32) (j : Nat) : va_W := [(o, .inl (cs.1, 80, .inl f)), (q1, .inl (cT, 14, .inr (.inr (.inr (.inr (fS sw j))))))]
theorem b_sts (hx : p.tables.exec = Jvm.exec) (hb : c.code = cc) (hSW : SW sw A s s.heap) (hKT : va_K D vwCl (tysC cs ++ [(cT, .object "java/lang/String")]) s) (hP : va_P D vwCl (wl cs LC NC ad M ++ xS cs cT sw o q1 f j) H) (hD : va_D A (wl cs LC NC ad M ++ xS cs cT sw o q1 f j)) (hS : va_S A s.heap H locs) (hj : j < 14) (hdg : decode cc pc = .ok (.aastore, 1))
    (kk : ∀ (H1 : Heap) (locs1 : List Loc), va_P D vwCl (wl cs LC NC ad M ++ xS cs cT sw o q1 f (j + 1)) H1 → va_D A (wl cs LC NC ad M ++ xS cs cT sw o q1 f (j + 1)) → va_S A s.heap H1 locs1 → W p l e R s m args below meth c H1 locs1 cells slots Q (F0 m (pc + 1) ls rest)) : W p l e R s m args below meth c H locs cells slots Q (F0 m pc ls (.ref (sw.1 (15 + j)) :: .int (nI j) :: .ref q1 :: rest)) := by
  have hr := hSW.wr hS
  obtain ⟨cell, h1, h2, h3, -⟩ := (hr.st.1 (15 + j) (by omega)).1
  refine vb_astq hx hb hKT hP hD hS (NC + 1) 3 (wx_get rfl) rfl ⟨cell, h1, h2, h3⟩ (fun comp c0 g1 g2 => vb_asgS comp c0 g1 g2) (nI_in hj (by decide)) hdg (fun H1 locs1 hP1 hD1 hS1 => ?_)
  rw [wx_set, cI (by omega)] at hP1 hD1
  exact kk H1 locs1 hP1 hD1 hS1
end BSTS
set_option maxHeartbeats 4000000 in
set_option maxRecDepth 100000 in
theorem ctL_build (l : Launch) (hfl : l.stackTraces = false) (D : va_G) (sw : Sw) (cs : Cs) (ad : Nat → Nat) (b L : Nat) (xs : Nat → Int32) (hL : L < 2 ^ 31) (o sz : Nat) (M : Mm) (f : Nat → Int32) {cd0 : Nat → Nat} (hM : Ok M 0 cd0) (hbA : ¬ wA NC ad [(o, .inl (cs.1, 80, .inl f))] sz b) : Met l yL_build wsL_build { frames := 20, cells := 6000, slots := 60000, locals := 400 } (va_Pc [.ref (ad 0), .ref b, .int 0, .int 60, .ref o] (bPre D sw cs ad M [(o, .inl (cs.1, 80, .inl f))] sz b L xs)) (bQ D cs ad o sz f) 6000 60000 (wA NC ad [(o, .inl (cs.1, 80, .inl f))] sz) := by
  refine met_b rfl rfl (Nat.le_of_ble_eq_true rfl) (fun p e s m args below meth c ls CX hr hlk hX hO hK hSW hP hD hS hA hl => ?_)
  obtain ⟨hx, hb, hml, hown, hts⟩ := id CX
  have hw : ∀ w ∈ WG, w.before args s = true := fun w h => hts w (List.mem_cons_of_mem _ h)
  have hbl : b < s.heap.size := by
    obtain ⟨scr, h1, -⟩ := id hX
    exact (Array.getElem?_eq_some_iff.mp h1).1
  have km := hw _ m1_47
  have hR : 20 ≤ ({ frames := 20, cells := 6000, slots := 60000, locals := 400 } : Room).frames ∧ 400 ≤ ({ frames := 20, cells := 6000, slots := 60000, locals := 400 } : Room).locals := ⟨Nat.le_refl _, Nat.le_refl _⟩
  have hl : lv_has ls 21 [(0, .ref (ad 0)), (1, .ref b), (2, .int 0), (3, .int 60), (4, .ref o)] := hl
  refine lv_bipush (v := 14) hx hb dL_build_0 (by decide) ?_
  refine va_newq (N' := 14) hx hb hown (hw _ m3_180) hO hK hP hD hS hA (by decide) (by decide) (by decide) (Nat.le_of_ble_eq_true rfl) (Nat.le_of_ble_eq_true rfl) dL_build_2 (fun q1 cT H hKT hP hD hS => ?_)
  rw [List.append_assoc] at hP hD
  have hP : va_P D vwCl (wl cs LC NC ad M ++ xS cs cT sw o q1 f 0) H := hP
  have hD : va_D (wA NC ad [(o, .inl (cs.1, 80, .inl f))] sz) (wl cs LC NC ad M ++ xS cs cT sw o q1 f 0) := hD
  refine lv_dup hx hb dL_build_5 rfl ?_
  refine lv_iconst (v := 0) hx hb dL_build_6 (by decide) ?_
  refine top_i (y := (nI 0)) (rfl) ?_
  refine va_ldcS (tx := "a=1;") hx hb hown (hSW.li 15 (RL, 11, "a=1;") rfl) dL_build_7 ?_
  refine b_sts (j := 0) hx hb hSW hKT hP hD hS (by decide) dL_build_9 (fun H locs hP hD hS => ?_)
  refine lv_dup hx hb dL_build_10 rfl ?_
  refine lv_iconst (v := 1) hx hb dL_build_11 (by decide) ?_
  refine top_i (y := (nI 1)) (rfl) ?_
  refine va_ldcS (tx := "b=a+2;") hx hb hown (hSW.li 16 (RL, 13, "b=a+2;") rfl) dL_build_12 ?_
  refine b_sts (j := 1) hx hb hSW hKT hP hD hS (by decide) dL_build_14 (fun H locs hP hD hS => ?_)
  refine lv_dup hx hb dL_build_15 rfl ?_
  refine lv_iconst (v := 2) hx hb dL_build_16 (by decide) ?_
  refine top_i (y := (nI 2)) (rfl) ?_
  refine va_ldcS (tx := "!a;") hx hb hown (hSW.li 17 (RL, 15, "!a;") rfl) dL_build_17 ?_
  refine b_sts (j := 2) hx hb hSW hKT hP hD hS (by decide) dL_build_19 (fun H locs hP hD hS => ?_)
  refine lv_dup hx hb dL_build_20 rfl ?_
  refine lv_iconst (v := 3) hx hb dL_build_21 (by decide) ?_
  refine top_i (y := (nI 3)) (rfl) ?_
  refine va_ldcS (tx := "?a!b;") hx hb hown (hSW.li 18 (RL, 17, "?a!b;") rfl) dL_build_22 ?_
  refine b_sts (j := 3) hx hb hSW hKT hP hD hS (by decide) dL_build_24 (fun H locs hP hD hS => ?_)
  refine lv_dup hx hb dL_build_25 rfl ?_
  refine lv_iconst (v := 4) hx hb dL_build_26 (by decide) ?_
  refine top_i (y := (nI 4)) (rfl) ?_
  refine va_ldcS (tx := "{") hx hb hown (hSW.li 19 (RL, 19, "{") rfl) dL_build_27 ?_
  refine b_sts (j := 4) hx hb hSW hKT hP hD hS (by decide) dL_build_29 (fun H locs hP hD hS => ?_)
  refine lv_dup hx hb dL_build_30 rfl ?_
  refine lv_iconst (v := 5) hx hb dL_build_31 (by decide) ?_
  refine top_i (y := (nI 5)) (rfl) ?_
  refine va_ldcS (tx := "}") hx hb hown (hSW.li 20 (RL, 21, "}") rfl) dL_build_32 ?_
  refine b_sts (j := 5) hx hb hSW hKT hP hD hS (by decide) dL_build_34 (fun H locs hP hD hS => ?_)
  refine lv_dup hx hb dL_build_35 rfl ?_
  refine lv_bipush (v := 6) hx hb dL_build_36 (by decide) ?_
  refine top_i (y := (nI 6)) (rfl) ?_
  refine va_ldcS (tx := ":c=3;") hx hb hown (hSW.li 21 (RL, 23, ":c=3;") rfl) dL_build_38 ?_
  refine b_sts (j := 6) hx hb hSW hKT hP hD hS (by decide) dL_build_40 (fun H locs hP hD hS => ?_)
  refine lv_dup hx hb dL_build_41 rfl ?_
  refine lv_bipush (v := 7) hx hb dL_build_42 (by decide) ?_
  refine top_i (y := (nI 7)) (rfl) ?_
  refine va_ldcS (tx := "!(a-1)*-2;") hx hb hown (hSW.li 22 (RL, 25, "!(a-1)*-2;") rfl) dL_build_44 ?_
  refine b_sts (j := 7) hx hb hSW hKT hP hD hS (by decide) dL_build_46 (fun H locs hP hD hS => ?_)
  refine lv_dup hx hb dL_build_47 rfl ?_
  refine lv_bipush (v := 8) hx hb dL_build_48 (by decide) ?_
  refine top_i (y := (nI 8)) (rfl) ?_
  refine va_ldcS (tx := "d=d*3+1;") hx hb hown (hSW.li 23 (RL, 27, "d=d*3+1;") rfl) dL_build_50 ?_
  refine b_sts (j := 8) hx hb hSW hKT hP hD hS (by decide) dL_build_52 (fun H locs hP hD hS => ?_)
  refine lv_dup hx hb dL_build_53 rfl ?_
  refine lv_bipush (v := 9) hx hb dL_build_54 (by decide) ?_
  refine top_i (y := (nI 9)) (rfl) ?_
  refine va_ldcS (tx := "!c") hx hb hown (hSW.li 24 (RL, 29, "!c") rfl) dL_build_56 ?_
  refine b_sts (j := 9) hx hb hSW hKT hP hD hS (by decide) dL_build_58 (fun H locs hP hD hS => ?_)
  refine lv_dup hx hb dL_build_59 rfl ?_
  refine lv_bipush (v := 10) hx hb dL_build_60 (by decide) ?_
  refine top_i (y := (nI 10)) (rfl) ?_
  refine va_ldcS (tx := ";") hx hb hown (hSW.li 25 (RL, 31, ";") rfl) dL_build_62 ?_
  refine b_sts (j := 10) hx hb hSW hKT hP hD hS (by decide) dL_build_64 (fun H locs hP hD hS => ?_)
  refine lv_dup hx hb dL_build_65 rfl ?_
  refine lv_bipush (v := 11) hx hb dL_build_66 (by decide) ?_
  refine top_i (y := (nI 11)) (rfl) ?_
  refine va_ldcS (tx := "?b-a{") hx hb hown (hSW.li 26 (RL, 33, "?b-a{") rfl) dL_build_68 ?_
  refine b_sts (j := 11) hx hb hSW hKT hP hD hS (by decide) dL_build_70 (fun H locs hP hD hS => ?_)
  refine lv_dup hx hb dL_build_71 rfl ?_
  refine lv_bipush (v := 12) hx hb dL_build_72 (by decide) ?_
  refine top_i (y := (nI 12)) (rfl) ?_
  refine va_ldcS (tx := "a") hx hb hown (hSW.li 27 (RL, 35, "a") rfl) dL_build_74 ?_
  refine b_sts (j := 12) hx hb hSW hKT hP hD hS (by decide) dL_build_76 (fun H locs hP hD hS => ?_)
  refine lv_dup hx hb dL_build_77 rfl ?_
  refine lv_bipush (v := 13) hx hb dL_build_78 (by decide) ?_
  refine top_i (y := (nI 13)) (rfl) ?_
  refine va_ldcS (tx := "!d;") hx hb hown (hSW.li 28 (RL, 37, "!d;") rfl) dL_build_80 ?_
  refine b_sts (j := 13) hx hb hSW hKT hP hD hS (by decide) dL_build_82 (fun H locs hP hD hS => ?_)
  have hP := k_fnP 1 (fun i => some (sw.1 (15 + i))) rfl (fun i hi => fS_get sw 14 i hi) hP
  have hD := k_fnD 1 (fun i => some (sw.1 (15 + i))) rfl hD
  refine lv_astore (lv' := [(5, .ref q1), (0, .ref (ad 0)), (1, .ref b), (2, .int 0), (3, .int 60), (4, .ref o)]) hx hb dL_build_83 hl (by decide) rfl (fun ls hl => ?_)
  refine lv_iconst (v := 0) hx hb dL_build_85 (by decide) ?_
  refine lv_istore (lv' := [(6, .int (0 : Int32)), (5, .ref q1), (0, .ref (ad 0)), (1, .ref b), (2, .int 0), (3, .int 60), (4, .ref o)]) hx hb dL_build_86 hl (by decide) rfl (fun ls hl => ?_)
  refine lv_iconst (v := 0) hx hb dL_build_88 (by decide) ?_
  refine lv_istore (lv' := [(7, .int (0 : Int32)), (6, .int (0 : Int32)), (5, .ref q1), (0, .ref (ad 0)), (1, .ref b), (2, .int 0), (3, .int 60), (4, .ref o)]) hx hb dL_build_89 hl (by decide) rfl (fun ls hl => ?_)
  refine lv_bipush (v := 6) hx hb dL_build_91 (by decide) ?_
  refine k_new (X := wl cs LC NC ad M) (n := 6) hx hb km hK hP hD hS hA rfl (by decide) (Nat.le_of_ble_eq_true rfl) (Nat.le_of_ble_eq_true rfl) dL_build_93 (fun q2 H hP hD hS => ?_)
  have hP : va_P D vwCl (wl cs LC NC ad M ++ xB cs cT sw o q1 q2 f (fun _ => 0)) H := hP
  have hD : va_D (wA NC ad [(o, .inl (cs.1, 80, .inl f))] sz) (wl cs LC NC ad M ++ xB cs cT sw o q1 q2 f (fun _ => 0)) := hD
  refine W.widen (k := 10) (n := 100) (by decide) (by decide) ?_
  have K : BK l p ({ frames := 20, cells := 6000, slots := 60000, locals := 400 } : Room) s m args c (wA NC ad [(o, .inl (cs.1, 80, .inl f))] sz) D sw cs cT b L xs := ⟨CX, ⟨hX, hL⟩, hbl, hbA, hK, hKT, hSW, hfl, hA, hR⟩
  have hX : va_X b L xs s s.heap ∧ L < 2 ^ 31 := ⟨hX, hL⟩
  refine lv_astore (lv' := [(8, .ref q2), (7, .int (0 : Int32)), (6, .int (0 : Int32)), (5, .ref q1), (0, .ref (ad 0)), (1, .ref b), (2, .int 0), (3, .int 60), (4, .ref o)]) hx hb dL_build_95 hl (by decide) rfl (fun ls hl => ?_)
  refine lv_aload_n hx hb dL_build_97 rfl (lv_at hl 5 rfl) ?_
  refine lv_iload_n hx hb dL_build_98 rfl (lv_at hl 6 rfl) ?_
  refine top_i (y := (nI 0)) (rfl) ?_
  refine r_calli (r := (cel L xs 0)) (W.runS (As := [.ref b, .int (nI 0)]) (rest := []) CX (ctL_cell l b L xs 0 (by decide) hL) (va_cwS 2 hts (gwS m3_173 m3_174 m1_0 m3_175) rfl rfl rfl (by decide +kernel) ⟨Nat.le_trans (Nat.le_of_ble_eq_true rfl) hR.1, Nat.le_trans (Nat.le_of_ble_eq_true rfl) hR.2⟩) (xPreS hX.1 hbl hbA hS _) rfl rfl hl.1 rfl (lv_room (Nat.le_of_ble_eq_true rfl)) dL_build_99 ⟨Nat.le_of_ble_eq_true rfl, Nat.le_of_ble_eq_true rfl⟩) ?_
  refine lv_bipush (v := 24) hx hb dL_build_102 (by decide) ?_
  obtain ⟨P, hPP, eP⟩ := blw_j (cel L xs 0) (k := 24) (by decide) (by decide)
  refine r_calli (r := (blw (cel L xs 0) (24 : Int32))) (W.runS (As := [.int (cel L xs 0), .int (24 : Int32)]) (rest := []) CX (ctL_below l (cel L xs 0) 24 (by decide)) (va_cwS 2 hts (gwS m3_169 m3_170 m1_0 m3_171) rfl rfl rfl (by decide +kernel) ⟨Nat.le_trans (Nat.le_of_ble_eq_true rfl) hR.1, Nat.le_trans (Nat.le_of_ble_eq_true rfl) hR.2⟩) (pPreS _) rfl rfl hl.1 rfl (lv_room (Nat.le_of_ble_eq_true rfl)) dL_build_104 ⟨Nat.le_of_ble_eq_true rfl, Nat.le_of_ble_eq_true rfl⟩) ?_
  refine top_i (y := (nI P)) (eP.symm) ?_
  refine lv_istore (lv' := [(9, .int (nI P)), (8, .ref q2), (7, .int (0 : Int32)), (6, .int (0 : Int32)), (5, .ref q1), (0, .ref (ad 0)), (1, .ref b), (2, .int 0), (3, .int 60), (4, .ref o)]) hx hb dL_build_107 hl (by decide) rfl (fun ls hl => ?_)
  refine lv_iconst (v := 0) hx hb dL_build_109 (by decide) ?_
  refine lv_istore (lv' := [(10, .int (0 : Int32)), (9, .int (nI P)), (8, .ref q2), (7, .int (0 : Int32)), (6, .int (0 : Int32)), (5, .ref q1), (0, .ref (ad 0)), (1, .ref b), (2, .int 0), (3, .int 60), (4, .ref o)]) hx hb dL_build_110 hl (by decide) rfl (fun ls hl => ?_)
  refine bb_loop K (c0 := 10) (s0 := 100) (by decide) (by decide) hPP (fun k M n cd u f9 g H locs ls hB hn hP hD hS hl => ?_) (P + 1) 0 (by omega) (Nat.zero_le _) M 0 cd0 [] f (fun _ => 0) H locs ls ⟨hM, rfl, fun i hi => absurd hi (Nat.not_lt_zero _), trivial⟩ (by decide) hP hD hS (lv_sub hl [4, 3, 0, 6, 7, 8, 9, 10, 5, 2, 1] rfl)
  have h5 := hB.l5
  refine bb_while K (k := k) (P := P) u (c0 := 10 + 200 * 24) (s0 := 100 + 2000 * 24) (by show _ ≤ 6000; omega) (by show _ ≤ 60000; omega) hB (by omega) hP hD hS hl (fun M n cd f9 g H locs ls hB hn hP hD hS hl => ?_)
  refine lv_aload_n hx hb dL_build_628 rfl (lv_at hl 3 rfl) ?_
  refine r_calli (r := (nI n)) (W.runV (As := []) (rest := []) CX (ctX7_size l D sw cs ad (xB cs cT sw o q1 q2 f9 g) M  (k_size hB.1)) (cwV 0 hts (gwV m4_8 m4_9 m4_10 m1_1 m4_11) rfl rfl rfl (by decide +kernel) ⟨Nat.le_trans (Nat.le_of_ble_eq_true rfl) hR.1, Nat.le_trans (Nat.le_of_ble_eq_true rfl) hR.2⟩) (rPreV (hSW.wr hS) hK hP (by decide) rfl rfl _) rfl rfl hl.1 rfl (lv_room (Nat.le_of_ble_eq_true rfl)) dL_build_629 ⟨by show _ ≤ 6000; omega, by show _ ≤ 60000; omega⟩) ?_
  refine lv_iload hx hb dL_build_632 (lv_at hl 0 rfl) ?_
  refine lv_icmp_ne (tgt := 649) hx hb dL_build_634 (by decide) (fun h9 => absurd h9 (fun q => q rfl)) (fun _ => ?_)
  refine lv_aload_n hx hb dL_build_637 rfl (lv_at hl 3 rfl) ?_
  refine r_calli (r := (nI ([] : List (Nat × Bool)).length)) (W.runV (As := []) (rest := []) CX (ctX7_unfinished l D sw cs ad (xB cs cT sw o q1 q2 f9 g) M  (k_unfinished hB.1 hB.2.1)) (cwV 0 hts (gwV m4_4 m4_5 m4_6 m1_1 m4_7) rfl rfl rfl (by decide +kernel) ⟨Nat.le_trans (Nat.le_of_ble_eq_true rfl) hR.1, Nat.le_trans (Nat.le_of_ble_eq_true rfl) hR.2⟩) (rPreV (hSW.wr hS) hK hP (by decide) rfl rfl _) rfl rfl hl.1 rfl (lv_room (Nat.le_of_ble_eq_true rfl)) dL_build_638 ⟨by show _ ≤ 6000; omega, by show _ ≤ 60000; omega⟩) ?_
  refine lv_if_ne (tgt := 649) hx hb dL_build_641 (by decide) (fun h9 => absurd h9 (fun q => q rfl)) (fun _ => ?_)
  refine lv_iload hx hb dL_build_644 (lv_at hl 0 rfl) ?_
  refine lv_goto (tgt := 650) hx hb dL_build_646 (by decide) ?_
  refine W.widen (k := 6000) (n := 60000) (by omega) (by omega) ?_
  have hP2 : va_P D vwCl (wl cs LC NC ad M ++ [(o, .inl (cs.1, 80, .inl f9))]) H := w_left (w2 := [(q1, .inl (cT, 14, .inr (.inr (.inr (.inr (fun i => some (sw.1 (15 + i)))))))), (q2, .inl (cs.1, 6, .inl g))]) (by rw [List.append_assoc]; exact hP)
  exact W.iret hx hb hr (fun t ht hW => ⟨⟨_, (M, n, cd, f9), rfl, ⟨rfl, hB.1, hB.2.1, hn, hB.2.2.1⟩, by rw [← ht] at hP2; exact hP2⟩, hS.F ht⟩) hS.2.2 dL_build_650
