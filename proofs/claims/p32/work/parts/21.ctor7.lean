def lv7 (cs : Cs) (w : Nat → Nat → Nat) : Nat → va_W
  | 0 => []
  | n + 1 => lv7 cs w n ++ lX5_init cs (w n)
theorem lv7_c {cs : Cs} {w w' : Nat → Nat → Nat} : ∀ n : Nat, (∀ i, i < n → w i = w' i) → lv7 cs w n = lv7 cs w' n
  | 0, _ => rfl
  | n + 1, h => by
    show lv7 cs w n ++ lX5_init cs (w n) = lv7 cs w' n ++ lX5_init cs (w' n)
    rw [lv7_c n (fun i hi => h i (by omega)), h n (by omega)]
theorem lv7_s {cs : Cs} {w : Nat → Nat → Nat} {n : Nat} (v : Nat → Nat) : lv7 cs w n ++ lX5_init cs v = lv7 cs (fun i => if i = n then v else w i) (n + 1) := by
  show lv7 cs w n ++ lX5_init cs v = lv7 cs (fun i => if i = n then v else w i) n ++ lX5_init cs (if n = n then v else w n)
  rw [if_pos rfl, lv7_c (w := w) (w' := fun i => if i = n then v else w i) n (fun i hi => by show w i = if i = n then v else w i; rw [if_neg (by omega)])]
def lb7 (cs : Cs) (h : Nat) (a b : Nat → Nat) (q : Nat) (g : Value) (f : Nat → Option Nat) : va_W := (h, .inr (5, [.ref (a 0), .ref (b 0), .ref q, g, .int 0])) :: (lX4_init cs a ++ (lX6_init cs b ++ [(q, .inl (cs.2.1, 16, .inr (.inr (.inr (.inr f)))))]))
def fv7 (w : Nat → Nat → Nat) (n : Nat) : Nat → Option Nat := fun i => if i < n then some (w i 0) else none
theorem lb7_len {cs : Cs} {h : Nat} {a b : Nat → Nat} {q : Nat} {g : Value} {f : Nat → Option Nat} : (lb7 cs h a b q g f).length = 14 := rfl
theorem lb7_set {cs : Cs} {h : Nat} {a b : Nat → Nat} {q : Nat} {g : Value} {f : Nat → Option Nat} (f' : Nat → Option Nat) (r : va_W) : (lb7 cs h a b q g f ++ r).set 13 (q, .inl (cs.2.1, 16, .inr (.inr (.inr (.inr f'))))) = lb7 cs h a b q g f' ++ r := by
  rw [List.set_append_left _ _ (by rw [lb7_len]; decide)]
  rfl
theorem fv7_up {w : Nat → Nat → Nat} {n : Nat} (hn : n < 2 ^ 31) (v : Nat → Nat) : va_up (fv7 w n) (nI n).toNatClampNeg (some (v 0)) = fv7 (fun i => if i = n then v else w i) (n + 1) := by
  rw [nI_clamp hn]
  funext i
  unfold va_up fv7
  by_cases h1 : i = n
  · subst h1
    rw [if_pos rfl, if_pos (Nat.lt_succ_self _)]
    show _ = some ((if i = i then v else w i) 0)
    rw [if_pos rfl]
  · rw [if_neg h1]
    show _ = if i < n + 1 then some ((if i = n then v else w i) 0) else none
    rw [if_neg h1]
    by_cases h2 : i < n
    · rw [if_pos h2, if_pos (by omega)]
    · rw [if_neg h2, if_neg (by omega)]
abbrev wsX7_init : List Cond := Cond.code yX7_init cX7_init 2 none :: WG
set_option maxHeartbeats 4000000 in
set_option maxRecDepth 100000 in
theorem X7_loop {p : Program} (l : Launch) {e : Env} {R : Room} {s : State} {m : MethodId} {args : Array Value} {below : List Frame} {meth : Method} {c : Code} {H0 : Heap} {Q : State → Prop} {D : va_G} {A : Nat → Prop} {cs : Cs} {X : va_W} {h q : Nat} {a b : Nat → Nat} (CX : CallFix p m c cX7_init 2 s args wsX7_init RX7) (hK : va_K D vwCl (tysC cs) s) (hC : CW s) (hA : ∀ q, H0.size ≤ q → A q) (hR : 3 ≤ R.frames ∧ 64 ≤ R.locals) (hRc : 174 ≤ R.cells ∧ 12443 ≤ R.slots) (fin : ∀ (w : Nat → Nat → Nat) (H : Heap) (locs : List Loc) (ls : Array Slot), va_P D vwCl (X ++ (lb7 cs h a b q .null (fv7 w 16) ++ lv7 cs w 16)) H → va_D A (X ++ (lb7 cs h a b q .null (fv7 w 16) ++ lv7 cs w 16)) → va_S A H0 H locs → lv_has ls 2 [(0, .ref h)] → W p l e R s m args below meth c H locs (13 + 10 * 16) (523 + 740 * 16) Q (F0 m 62 ls [])) : ∀ (n c0 : Nat), c0 + n = 16 → ∀ (w : Nat → Nat → Nat) (H : Heap) (locs : List Loc) (ls : Array Slot), va_P D vwCl (X ++ (lb7 cs h a b q .null (fv7 w c0) ++ lv7 cs w c0)) H → va_D A (X ++ (lb7 cs h a b q .null (fv7 w c0) ++ lv7 cs w c0)) → va_S A H0 H locs → lv_has ls 2 [(1, .int (nI c0)), (0, .ref h)] → W p l e R s m args below meth c H locs (13 + 10 * c0) (523 + 740 * c0) Q (F0 m 37 ls []) := by
  obtain ⟨hx, hb, hml, hown, hts⟩ := id CX
  have hw : ∀ w ∈ WG, w.before args s = true := fun w h => hts w (List.mem_cons_of_mem _ h)
  intro n
  induction n with
  | zero =>
    intro c0 hc0 w H locs ls hP hD hS hl
    obtain rfl : c0 = 16 := by omega
    refine lv_iload_n hx hb dX7_init_37 rfl (lv_at hl 0 rfl) ?_
    refine lv_bipush (v := 16) hx hb dX7_init_38 (by decide) ?_
    refine lv_icmp_ge (tgt := 62) hx hb dX7_init_40 (by decide) (fun h9 => ?_) (fun h9 => absurd (nI_le (Nat.le_refl 16) (by decide)) h9)
    exact fin w H locs ls hP hD hS (lv_sub hl [1] rfl)
  | succ n ih =>
    intro c0 hc0 w H locs ls hP hD hS hl
    have hlt : c0 < 16 := by omega
    have hl31 : c0 < 2 ^ 31 := by omega
    refine lv_iload_n hx hb dX7_init_37 rfl (lv_at hl 0 rfl) ?_
    refine lv_bipush (v := 16) hx hb dX7_init_38 (by decide) ?_
    refine lv_icmp_ge (tgt := 62) hx hb dX7_init_40 (by decide) (fun h9 => absurd h9 (nI_ge hlt (by decide))) (fun h9 => ?_)
    refine lv_aload_n hx hb dX7_init_43 rfl (lv_at hl 1 rfl) ?_
    refine va_get (ref := RX7) (C := RX7) (T := TX7) (N := 5) (ci := 5) hx hb hts in_RX7 hown hK hP (X.length + 0) (xg (j := 0) rfl) rfl 2 (by decide) (hw _ m1_161) (fun _ h9 => h9) rfl dX7_init_44 ?_
    refine lv_iload_n hx hb dX7_init_47 rfl (lv_at hl 0 rfl) ?_
    refine k_newo (ci := 3) (fs := [.null, .null, .int 0, .null, .null]) (C := RX5) (T := TX5) (N := 5) hx hb hts in_RX5 tyX5 tyX5_ok hown (hw _ m1_79) (hw _ m1_81) (hw _ m1_4) hK hP hD hS hA rfl (fun j hj => by rcases (show j = 0 ∨ j = 1 ∨ j = 2 ∨ j = 3 ∨ j = 4 by omega) with rfl | rfl | rfl | rfl | rfl <;> rfl) (by omega) (by omega) dX7_init_48 (fun q1 H hP hD hS => ?_)
    refine lv_dup hx hb dX7_init_51 rfl ?_
    have hPc : va_P D vwCl ((X ++ (lb7 cs h a b q .null (fv7 w c0) ++ lv7 cs w c0)) ++ [(q1, .inr (3, [.null, .null, .int 0, .null, .null]))]) H := by rw [List.append_assoc]; exact hP
    have hDc : va_D A ((X ++ (lb7 cs h a b q .null (fv7 w c0) ++ lv7 cs w c0)) ++ [(q1, .inr (3, [.null, .null, .int 0, .null, .null]))]) := by rw [List.append_assoc]; exact hD
    have hFc := cA_free hDc hS hA
    refine va_callv (va_runIN (As := []) (rest := [.ref q1, .int (nI c0), .ref q]) CX (ctX5_init l D cs _ q1 H.size) ⟨va_cnB 0 hts (gwI m1_84) rfl rfl rfl hC.2.2.2.2.1 (hw _ m1_4) (by decide +kernel) ⟨Nat.le_trans (Nat.le_of_ble_eq_true rfl) hR.1, Nat.le_trans (Nat.le_of_ble_eq_true rfl) hR.2⟩, rfl, hw _ m1_83⟩ (cPreS hK hPc hDc hC) rfl rfl hl.1 rfl (lv_room (Nat.le_of_ble_eq_true rfl)) dX7_init_52 ⟨by omega, by omega⟩) hS (fun q _ h => hFc q h) hFc (fun u t H1 locs ht hvm hw1 hB hz1 hk1 hS => ?_)
    obtain ⟨v1, rfl⟩ : ∃ z, z = u := ⟨_, rfl⟩
    subst hw1
    obtain ⟨hP1, hD1⟩ := hB
    rw [ht, List.append_assoc] at hP1
    rw [List.append_assoc] at hD1
    generalize H1 = H at hP1 hS ⊢
    have hD1 := hD1.weaken (fun _ _ _ h9 => hFc _ h9)
    rw [List.append_assoc] at hP1 hD1
    refine va_astq (r := (RX5, TX5, 5)) (n := 16) hx hb hK hP1 hD1 hS (X.length + 13) 1 (X.length + (14 + ((lv7 cs w c0).length + 0))) 3 (xg (j := 13) rfl) rfl (xg (xg (X := lb7 cs h a b q .null (fv7 w c0)) (xg (j := 0) rfl))) rfl (nI_in hlt (by decide)) dX7_init_55 (fun H locs hP hD hS => ?_)
    rw [xs, lb7_set, fv7_up hl31] at hP hD
    refine lv_iinc (v := nI (c0 + 1)) (lv' := [(1, .int (nI (c0 + 1))), (0, .ref h)]) hx hb dX7_init_56 hl (k := 0) rfl (nI_1 c0) (by decide) rfl (fun ls hl => ?_)
    refine lv_goto (tgt := 37) hx hb dX7_init_59 (by decide) ?_
    refine W.widen (k := 13 + 10 * (c0 + 1)) (n := 523 + 740 * (c0 + 1)) (by omega) (by omega) ?_
    rw [lv7_s] at hP hD
    exact ih (c0 + 1) (by omega) _ _ _ _ hP hD hS hl
/-- addresses of the class's cells by their numbers -/
def ad7 (h : Nat) (a b : Nat → Nat) (q g : Nat) (w : Nat → Nat → Nat) : Nat → Nat := fun k => if k = 0 then h else if k < 3 then a (k - 1) else if k < 13 then b (k - 3) else if k = 13 then q else if k = 14 then g else w ((k - 15) / 10) ((k - 15) % 10)
def l7 (cs : Cs) (h : Nat) (a b : Nat → Nat) (q g : Nat) (w : Nat → Nat → Nat) : va_W := lb7 cs h a b q (.ref g) (fv7 w 16) ++ (lv7 cs w 16 ++ [(g, .inl (cs.1, 80, .inl (fun _ => 0)))])
abbrev Q7 (D : va_G) (cs : Cs) (X : va_W) (h : Nat) (A : Nat → Prop) := va_Qv (fun v : (Nat → Nat) × (Nat → Nat) × Nat × Nat × (Nat → Nat → Nat) => True) (fun v t => va_P D vwCl (X ++ l7 cs h v.1 v.2.1 v.2.2.1 v.2.2.2.1 v.2.2.2.2) t.heap ∧ va_D A (X ++ l7 cs h v.1 v.2.1 v.2.2.1 v.2.2.2.1 v.2.2.2.2)) A
set_option maxHeartbeats 4000000 in
set_option maxRecDepth 100000 in
theorem ctX7_init (l : Launch) (D : va_G) (cs : Cs) (X : va_W) (h sz : Nat) : Met l yX7_init wsX7_init { frames := 3, cells := 174, slots := 12443, locals := 64 } (va_Pc [.ref h] (cPre D cs X 5 [.null, .null, .null, .null, .int 0] h sz)) (Q7 D cs X h (cA X 5 [.null, .null, .null, .null, .int 0] h sz)) 174 12443 (cA X 5 [.null, .null, .null, .null, .int 0] h sz) := by
  refine Met.ofW (cc := cX7_init) (maxL := 2) (ret := none) (by decide) rfl ?_
  intro p e s m args below meth c s₁ B hml hv
  obtain ⟨rfl, hsz, hP, hK, hD0, hC⟩ := hv
  have hin : meth.name = "<init>" := (name_of_methodNamed B.named B.method).1
  have CX : CallFix p m c cX7_init 2 s _ wsX7_init RX7 := ⟨B.exec, B.bytes, hml, findClass_of_methodNamed B.named, atoms_spec (ws := wsX7_init) B.pre⟩
  obtain ⟨hx, hb, hml, hown, hts⟩ := id CX
  have hr := B.returns
  have hlk := B.notSynchronized
  have hw : ∀ w ∈ WG, w.before _ s = true := fun w h => hts w (List.mem_cons_of_mem _ h)
  have km := hw _ m1_47
  have hR : 3 ≤ ({ frames := 3, cells := 174, slots := 12443, locals := 64 } : Room).frames ∧ 64 ≤ ({ frames := 3, cells := 174, slots := 12443, locals := 64 } : Room).locals := ⟨Nat.le_refl _, Nat.le_refl _⟩
  have hRc : 174 ≤ ({ frames := 3, cells := 174, slots := 12443, locals := 64 } : Room).cells ∧ 12443 ≤ ({ frames := 3, cells := 174, slots := 12443, locals := 64 } : Room).slots := ⟨Nat.le_refl _, Nat.le_refl _⟩
  subst hsz
  have hD := hD0.self (sz := s.heap.size)
  generalize hAe : va_A (X ++ [(h, .inr (5, [.null, .null, .null, .null, .int 0]))]) s.heap.size = A at hD
  show W _ _ _ _ _ _ _ _ _ _ _ _ _ _ (MQ _ (Q7 D cs X h (va_A (X ++ [(h, .inr (5, [.null, .null, .null, .null, .int 0]))]) s.heap.size)) _ _ _ _ (va_A (X ++ [(h, .inr (5, [.null, .null, .null, .null, .int 0]))]) s.heap.size)) _
  rw [hAe]
  have hA : ∀ q : Nat, s.heap.size ≤ q → A q := fun q h9 => by rw [← hAe]; exact Or.inr h9
  have hS : va_S A s.heap s.heap [] := va_S.rf
  have hl := lv_entry ([.ref h]) (n := 2) (Nat.le_of_ble_eq_true rfl)
  rw [lg_entry_eq]
  generalize (lg_sl ([.ref h]) ++ List.replicate (2 - (lg_sl ([.ref h])).length) Slot.unset).toArray = ls at hl ⊢
  have hl : lv_has ls 2 [(0, .ref h)] := hl
  refine lv_aload_n hx hb dX7_init_0 rfl (lv_at hl 0 rfl) ?_
  refine W.objInit hx hb hown (hw _ m1_27) (hw _ m1_28) (hw _ m1_29) rfl (by rw [hml]; exact hl.1) rfl dX7_init_1 (Nat.le_trans (Nat.le_of_ble_eq_true rfl) hR.1) (Nat.le_trans (Nat.le_of_ble_eq_true rfl) hR.2) ?_
  refine W.eq (g2 := F0 m 4 ls []) rfl ?_
  refine lv_aload_n hx hb dX7_init_4 rfl (lv_at hl 0 rfl) ?_
  refine k_newo (ci := 2) (fs := [.null, .int 0]) (C := RX4) (T := TX4) (N := 2) hx hb hts in_RX4 tyX4 tyX4_ok hown (hw _ m1_30) (hw _ m1_31) (hw _ m1_2) hK hP hD hS hA rfl (fun j hj => by rcases (show j = 0 ∨ j = 1 by omega) with rfl | rfl <;> rfl) (Nat.le_trans (Nat.le_of_ble_eq_true rfl) hRc.1) (Nat.le_trans (Nat.le_of_ble_eq_true rfl) hRc.2) dX7_init_5 (fun q1 H hP hD hS => ?_)
  have hP : va_P D vwCl (X ++ [(h, .inr (5, [.null, .null, .null, .null, .int 0])), (q1, .inr (2, [.null, .int 0]))]) H := hP
  have hD : va_D A (X ++ [(h, .inr (5, [.null, .null, .null, .null, .int 0])), (q1, .inr (2, [.null, .int 0]))]) := hD
  refine W.widen (k := 1) (n := 2) (by decide) (by decide) ?_
  refine lv_dup hx hb dX7_init_8 rfl ?_
  have hPc : va_P D vwCl ((X ++ [(h, .inr (5, [.null, .null, .null, .null, .int 0]))]) ++ [(q1, .inr (2, [.null, .int 0]))]) H := by rw [List.append_assoc]; exact hP
  have hDc : va_D A ((X ++ [(h, .inr (5, [.null, .null, .null, .null, .int 0]))]) ++ [(q1, .inr (2, [.null, .int 0]))]) := by rw [List.append_assoc]; exact hD
  have hFc := cA_free hDc hS hA
  refine va_callv (va_runIN (As := []) (rest := [.ref q1, .ref h]) CX (ctX4_init l D cs (X ++ [(h, .inr (5, [.null, .null, .null, .null, .int 0]))]) q1 H.size) ⟨va_cnB 0 hts (gwI m1_34) rfl rfl rfl hC.2.2.1 (hw _ m1_2) (by decide +kernel) ⟨Nat.le_trans (Nat.le_of_ble_eq_true rfl) hR.1, Nat.le_trans (Nat.le_of_ble_eq_true rfl) hR.2⟩, rfl, hw _ m1_33⟩ (cPreS hK hPc hDc hC) rfl rfl hl.1 rfl (lv_room (Nat.le_of_ble_eq_true rfl)) dX7_init_9 ⟨Nat.le_trans (Nat.le_of_ble_eq_true rfl) hRc.1, Nat.le_trans (Nat.le_of_ble_eq_true rfl) hRc.2⟩) hS (fun q _ h => hFc q h) hFc (fun u t H1 locs ht hvm hw1 hB hz1 hk1 hS => ?_)
  obtain ⟨v2, rfl⟩ : ∃ z, z = u := ⟨_, rfl⟩
  try dsimp only at hw1
  subst hw1
  obtain ⟨hP1, hD1⟩ := hB
  rw [ht, List.append_assoc] at hP1
  rw [List.append_assoc] at hD1
  generalize H1 = H at hP1 hS ⊢
  have hD1 := hD1.weaken (fun _ _ _ h9 => hFc _ h9)
  have hP : va_P D vwCl (X ++ [(h, .inr (5, [.null, .null, .null, .null, .int 0])), ((v2 0), .inr (2, [.ref (v2 1), .int 0])), ((v2 1), .inl (cs.1, 80, .inl (fun _ => 0)))]) H := hP1
  have hD : va_D A (X ++ [(h, .inr (5, [.null, .null, .null, .null, .int 0])), ((v2 0), .inr (2, [.ref (v2 1), .int 0])), ((v2 1), .inl (cs.1, 80, .inl (fun _ => 0)))]) := hD1
  refine W.widen (k := 2) (n := 82) (by decide) (by decide) ?_
  refine k_putF (ci := 5) (C := RX7) (T := TX7) (N := 5) hx hb hts in_RX7 tyX7 tyX7_ok nmX7 hown hK hP hD hS 0 rfl rfl 0 (by decide) (hw _ m1_159) rfl hin rfl (ty := tyX7 0) (tyX7_ok 0 (by decide)) rfl rfl (Nat.le_of_ble_eq_true rfl) dX7_init_12 (fun H locs hP hD hS => ?_)
  have hP : va_P D vwCl (X ++ [(h, .inr (5, [.ref (v2 0), .null, .null, .null, .int 0])), ((v2 0), .inr (2, [.ref (v2 1), .int 0])), ((v2 1), .inl (cs.1, 80, .inl (fun _ => 0)))]) H := hP
  have hD : va_D A (X ++ [(h, .inr (5, [.ref (v2 0), .null, .null, .null, .int 0])), ((v2 0), .inr (2, [.ref (v2 1), .int 0])), ((v2 1), .inl (cs.1, 80, .inl (fun _ => 0)))]) := hD
  refine lv_aload_n hx hb dX7_init_15 rfl (lv_at hl 0 rfl) ?_
  refine k_newo (ci := 4) (fs := [.null, .null, .null, .null, .null, .int 0, .int 0]) (C := RX6) (T := TX6) (N := 7) hx hb hts in_RX6 tyX6 tyX6_ok hown (hw _ m1_48) (hw _ m1_49) (hw _ m1_3) hK hP hD hS hA rfl (fun j hj => by rcases (show j = 0 ∨ j = 1 ∨ j = 2 ∨ j = 3 ∨ j = 4 ∨ j = 5 ∨ j = 6 by omega) with rfl | rfl | rfl | rfl | rfl | rfl | rfl <;> rfl) (Nat.le_trans (Nat.le_of_ble_eq_true rfl) hRc.1) (Nat.le_trans (Nat.le_of_ble_eq_true rfl) hRc.2) dX7_init_16 (fun q3 H hP hD hS => ?_)
  have hP : va_P D vwCl (X ++ [(h, .inr (5, [.ref (v2 0), .null, .null, .null, .int 0])), ((v2 0), .inr (2, [.ref (v2 1), .int 0])), ((v2 1), .inl (cs.1, 80, .inl (fun _ => 0))), (q3, .inr (4, [.null, .null, .null, .null, .null, .int 0, .int 0]))]) H := hP
  have hD : va_D A (X ++ [(h, .inr (5, [.ref (v2 0), .null, .null, .null, .int 0])), ((v2 0), .inr (2, [.ref (v2 1), .int 0])), ((v2 1), .inl (cs.1, 80, .inl (fun _ => 0))), (q3, .inr (4, [.null, .null, .null, .null, .null, .int 0, .int 0]))]) := hD
  refine W.widen (k := 3) (n := 89) (by decide) (by decide) ?_
  refine lv_dup hx hb dX7_init_19 rfl ?_
  have hPc : va_P D vwCl ((X ++ [(h, .inr (5, [.ref (v2 0), .null, .null, .null, .int 0])), ((v2 0), .inr (2, [.ref (v2 1), .int 0])), ((v2 1), .inl (cs.1, 80, .inl (fun _ => 0)))]) ++ [(q3, .inr (4, [.null, .null, .null, .null, .null, .int 0, .int 0]))]) H := by rw [List.append_assoc]; exact hP
  have hDc : va_D A ((X ++ [(h, .inr (5, [.ref (v2 0), .null, .null, .null, .int 0])), ((v2 0), .inr (2, [.ref (v2 1), .int 0])), ((v2 1), .inl (cs.1, 80, .inl (fun _ => 0)))]) ++ [(q3, .inr (4, [.null, .null, .null, .null, .null, .int 0, .int 0]))]) := by rw [List.append_assoc]; exact hD
  have hFc := cA_free hDc hS hA
  refine va_callv (va_runIN (As := []) (rest := [.ref q3, .ref h]) CX (ctX6_init l D cs (X ++ [(h, .inr (5, [.ref (v2 0), .null, .null, .null, .int 0])), ((v2 0), .inr (2, [.ref (v2 1), .int 0])), ((v2 1), .inl (cs.1, 80, .inl (fun _ => 0)))]) q3 H.size) ⟨va_cnB 0 hts (gwI m1_52) rfl rfl rfl hC.2.2.2.1 (hw _ m1_3) (by decide +kernel) ⟨Nat.le_trans (Nat.le_of_ble_eq_true rfl) hR.1, Nat.le_trans (Nat.le_of_ble_eq_true rfl) hR.2⟩, rfl, hw _ m1_51⟩ (cPreS hK hPc hDc hC) rfl rfl hl.1 rfl (lv_room (Nat.le_of_ble_eq_true rfl)) dX7_init_20 ⟨Nat.le_trans (Nat.le_of_ble_eq_true rfl) hRc.1, Nat.le_trans (Nat.le_of_ble_eq_true rfl) hRc.2⟩) hS (fun q _ h => hFc q h) hFc (fun u t H1 locs ht hvm hw1 hB hz1 hk1 hS => ?_)
  obtain ⟨v4, rfl⟩ : ∃ z, z = u := ⟨_, rfl⟩
  try dsimp only at hw1
  subst hw1
  obtain ⟨hP1, hD1⟩ := hB
  rw [ht, List.append_assoc] at hP1
  rw [List.append_assoc] at hD1
  generalize H1 = H at hP1 hS ⊢
  have hD1 := hD1.weaken (fun _ _ _ h9 => hFc _ h9)
  have hP : va_P D vwCl (X ++ [(h, .inr (5, [.ref (v2 0), .null, .null, .null, .int 0])), ((v2 0), .inr (2, [.ref (v2 1), .int 0])), ((v2 1), .inl (cs.1, 80, .inl (fun _ => 0))), ((v4 0), .inr (4, [.ref (v4 1), .ref (v4 2), .ref (v4 7), .ref (v4 8), .ref (v4 9), .int 0, .int 0])), ((v4 1), .inl (cs.1, 80, .inl (fun _ => 0))), ((v4 2), .inl (cs.2.2, 4, .inr (.inr (.inr (.inr (fun i => some (v4 (i + 3)))))))), ((v4 3), .inl (cs.1, 80, .inl (fun _ => 0))), ((v4 4), .inl (cs.1, 80, .inl (fun _ => 0))), ((v4 5), .inl (cs.1, 80, .inl (fun _ => 0))), ((v4 6), .inl (cs.1, 80, .inl (fun _ => 0))), ((v4 7), .inl (cs.1, 4, .inl (fun _ => 0))), ((v4 8), .inl (cs.1, 5, .inl (fun _ => 0))), ((v4 9), .inl (cs.1, 5, .inl (fun _ => 0)))]) H := hP1
  have hD : va_D A (X ++ [(h, .inr (5, [.ref (v2 0), .null, .null, .null, .int 0])), ((v2 0), .inr (2, [.ref (v2 1), .int 0])), ((v2 1), .inl (cs.1, 80, .inl (fun _ => 0))), ((v4 0), .inr (4, [.ref (v4 1), .ref (v4 2), .ref (v4 7), .ref (v4 8), .ref (v4 9), .int 0, .int 0])), ((v4 1), .inl (cs.1, 80, .inl (fun _ => 0))), ((v4 2), .inl (cs.2.2, 4, .inr (.inr (.inr (.inr (fun i => some (v4 (i + 3)))))))), ((v4 3), .inl (cs.1, 80, .inl (fun _ => 0))), ((v4 4), .inl (cs.1, 80, .inl (fun _ => 0))), ((v4 5), .inl (cs.1, 80, .inl (fun _ => 0))), ((v4 6), .inl (cs.1, 80, .inl (fun _ => 0))), ((v4 7), .inl (cs.1, 4, .inl (fun _ => 0))), ((v4 8), .inl (cs.1, 5, .inl (fun _ => 0))), ((v4 9), .inl (cs.1, 5, .inl (fun _ => 0)))]) := hD1
  refine W.widen (k := 12) (n := 507) (by decide) (by decide) ?_
  refine k_putF (ci := 5) (C := RX7) (T := TX7) (N := 5) hx hb hts in_RX7 tyX7 tyX7_ok nmX7 hown hK hP hD hS 0 rfl rfl 1 (by decide) (hw _ m1_160) rfl hin rfl (ty := tyX7 1) (tyX7_ok 1 (by decide)) rfl rfl (Nat.le_of_ble_eq_true rfl) dX7_init_23 (fun H locs hP hD hS => ?_)
  have hP : va_P D vwCl (X ++ [(h, .inr (5, [.ref (v2 0), .ref (v4 0), .null, .null, .int 0])), ((v2 0), .inr (2, [.ref (v2 1), .int 0])), ((v2 1), .inl (cs.1, 80, .inl (fun _ => 0))), ((v4 0), .inr (4, [.ref (v4 1), .ref (v4 2), .ref (v4 7), .ref (v4 8), .ref (v4 9), .int 0, .int 0])), ((v4 1), .inl (cs.1, 80, .inl (fun _ => 0))), ((v4 2), .inl (cs.2.2, 4, .inr (.inr (.inr (.inr (fun i => some (v4 (i + 3)))))))), ((v4 3), .inl (cs.1, 80, .inl (fun _ => 0))), ((v4 4), .inl (cs.1, 80, .inl (fun _ => 0))), ((v4 5), .inl (cs.1, 80, .inl (fun _ => 0))), ((v4 6), .inl (cs.1, 80, .inl (fun _ => 0))), ((v4 7), .inl (cs.1, 4, .inl (fun _ => 0))), ((v4 8), .inl (cs.1, 5, .inl (fun _ => 0))), ((v4 9), .inl (cs.1, 5, .inl (fun _ => 0)))]) H := hP
  have hD : va_D A (X ++ [(h, .inr (5, [.ref (v2 0), .ref (v4 0), .null, .null, .int 0])), ((v2 0), .inr (2, [.ref (v2 1), .int 0])), ((v2 1), .inl (cs.1, 80, .inl (fun _ => 0))), ((v4 0), .inr (4, [.ref (v4 1), .ref (v4 2), .ref (v4 7), .ref (v4 8), .ref (v4 9), .int 0, .int 0])), ((v4 1), .inl (cs.1, 80, .inl (fun _ => 0))), ((v4 2), .inl (cs.2.2, 4, .inr (.inr (.inr (.inr (fun i => some (v4 (i + 3)))))))), ((v4 3), .inl (cs.1, 80, .inl (fun _ => 0))), ((v4 4), .inl (cs.1, 80, .inl (fun _ => 0))), ((v4 5), .inl (cs.1, 80, .inl (fun _ => 0))), ((v4 6), .inl (cs.1, 80, .inl (fun _ => 0))), ((v4 7), .inl (cs.1, 4, .inl (fun _ => 0))), ((v4 8), .inl (cs.1, 5, .inl (fun _ => 0))), ((v4 9), .inl (cs.1, 5, .inl (fun _ => 0)))]) := hD
  refine lv_aload_n hx hb dX7_init_26 rfl (lv_at hl 0 rfl) ?_
  refine lv_bipush (v := 16) hx hb dX7_init_27 (by decide) ?_
  refine k_anew (n := 16) hx hb hown (hw _ m1_79) hC.1 hK hP hD hS hA rfl (by decide) (Nat.le_trans (Nat.le_of_ble_eq_true rfl) hRc.1) (Nat.le_trans (Nat.le_of_ble_eq_true rfl) hRc.2) dX7_init_29 (fun q5 H hP hD hS => ?_)
  have hP : va_P D vwCl (X ++ [(h, .inr (5, [.ref (v2 0), .ref (v4 0), .null, .null, .int 0])), ((v2 0), .inr (2, [.ref (v2 1), .int 0])), ((v2 1), .inl (cs.1, 80, .inl (fun _ => 0))), ((v4 0), .inr (4, [.ref (v4 1), .ref (v4 2), .ref (v4 7), .ref (v4 8), .ref (v4 9), .int 0, .int 0])), ((v4 1), .inl (cs.1, 80, .inl (fun _ => 0))), ((v4 2), .inl (cs.2.2, 4, .inr (.inr (.inr (.inr (fun i => some (v4 (i + 3)))))))), ((v4 3), .inl (cs.1, 80, .inl (fun _ => 0))), ((v4 4), .inl (cs.1, 80, .inl (fun _ => 0))), ((v4 5), .inl (cs.1, 80, .inl (fun _ => 0))), ((v4 6), .inl (cs.1, 80, .inl (fun _ => 0))), ((v4 7), .inl (cs.1, 4, .inl (fun _ => 0))), ((v4 8), .inl (cs.1, 5, .inl (fun _ => 0))), ((v4 9), .inl (cs.1, 5, .inl (fun _ => 0))), (q5, .inl (cs.2.1, 16, .inr (.inr (.inr (.inr (fun _ => none))))))]) H := hP
  have hD : va_D A (X ++ [(h, .inr (5, [.ref (v2 0), .ref (v4 0), .null, .null, .int 0])), ((v2 0), .inr (2, [.ref (v2 1), .int 0])), ((v2 1), .inl (cs.1, 80, .inl (fun _ => 0))), ((v4 0), .inr (4, [.ref (v4 1), .ref (v4 2), .ref (v4 7), .ref (v4 8), .ref (v4 9), .int 0, .int 0])), ((v4 1), .inl (cs.1, 80, .inl (fun _ => 0))), ((v4 2), .inl (cs.2.2, 4, .inr (.inr (.inr (.inr (fun i => some (v4 (i + 3)))))))), ((v4 3), .inl (cs.1, 80, .inl (fun _ => 0))), ((v4 4), .inl (cs.1, 80, .inl (fun _ => 0))), ((v4 5), .inl (cs.1, 80, .inl (fun _ => 0))), ((v4 6), .inl (cs.1, 80, .inl (fun _ => 0))), ((v4 7), .inl (cs.1, 4, .inl (fun _ => 0))), ((v4 8), .inl (cs.1, 5, .inl (fun _ => 0))), ((v4 9), .inl (cs.1, 5, .inl (fun _ => 0))), (q5, .inl (cs.2.1, 16, .inr (.inr (.inr (.inr (fun _ => none))))))]) := hD
  refine W.widen (k := 13) (n := 523) (by decide) (by decide) ?_
  refine k_putF (ci := 5) (C := RX7) (T := TX7) (N := 5) hx hb hts in_RX7 tyX7 tyX7_ok nmX7 hown hK hP hD hS 0 rfl rfl 2 (by decide) (hw _ m1_161) rfl hin rfl (ty := tyX7 2) (tyX7_ok 2 (by decide)) rfl rfl (Nat.le_of_ble_eq_true rfl) dX7_init_32 (fun H locs hP hD hS => ?_)
  have hP : va_P D vwCl (X ++ [(h, .inr (5, [.ref (v2 0), .ref (v4 0), .ref q5, .null, .int 0])), ((v2 0), .inr (2, [.ref (v2 1), .int 0])), ((v2 1), .inl (cs.1, 80, .inl (fun _ => 0))), ((v4 0), .inr (4, [.ref (v4 1), .ref (v4 2), .ref (v4 7), .ref (v4 8), .ref (v4 9), .int 0, .int 0])), ((v4 1), .inl (cs.1, 80, .inl (fun _ => 0))), ((v4 2), .inl (cs.2.2, 4, .inr (.inr (.inr (.inr (fun i => some (v4 (i + 3)))))))), ((v4 3), .inl (cs.1, 80, .inl (fun _ => 0))), ((v4 4), .inl (cs.1, 80, .inl (fun _ => 0))), ((v4 5), .inl (cs.1, 80, .inl (fun _ => 0))), ((v4 6), .inl (cs.1, 80, .inl (fun _ => 0))), ((v4 7), .inl (cs.1, 4, .inl (fun _ => 0))), ((v4 8), .inl (cs.1, 5, .inl (fun _ => 0))), ((v4 9), .inl (cs.1, 5, .inl (fun _ => 0))), (q5, .inl (cs.2.1, 16, .inr (.inr (.inr (.inr (fun _ => none))))))]) H := hP
  have hD : va_D A (X ++ [(h, .inr (5, [.ref (v2 0), .ref (v4 0), .ref q5, .null, .int 0])), ((v2 0), .inr (2, [.ref (v2 1), .int 0])), ((v2 1), .inl (cs.1, 80, .inl (fun _ => 0))), ((v4 0), .inr (4, [.ref (v4 1), .ref (v4 2), .ref (v4 7), .ref (v4 8), .ref (v4 9), .int 0, .int 0])), ((v4 1), .inl (cs.1, 80, .inl (fun _ => 0))), ((v4 2), .inl (cs.2.2, 4, .inr (.inr (.inr (.inr (fun i => some (v4 (i + 3)))))))), ((v4 3), .inl (cs.1, 80, .inl (fun _ => 0))), ((v4 4), .inl (cs.1, 80, .inl (fun _ => 0))), ((v4 5), .inl (cs.1, 80, .inl (fun _ => 0))), ((v4 6), .inl (cs.1, 80, .inl (fun _ => 0))), ((v4 7), .inl (cs.1, 4, .inl (fun _ => 0))), ((v4 8), .inl (cs.1, 5, .inl (fun _ => 0))), ((v4 9), .inl (cs.1, 5, .inl (fun _ => 0))), (q5, .inl (cs.2.1, 16, .inr (.inr (.inr (.inr (fun _ => none))))))]) := hD
  refine lv_iconst (v := 0) hx hb dX7_init_35 (by decide) ?_
  refine lv_istore_n (lv' := [(1, .int (nI 0)), (0, .ref h)]) hx hb dX7_init_36 rfl hl (by decide) rfl (fun ls hl => ?_)
  refine X7_loop l (a := v2) (b := v4) (q := q5) CX hK hC hA hR hRc (fun w H locs ls hP hD hS hl => ?_) 16 0 rfl (fun _ _ => 0) _ _ _ hP hD hS hl
  refine W.widen (k := 173) (n := 12363) (by decide) (by decide) ?_
  refine lv_aload_n hx hb dX7_init_62 rfl (lv_at hl 0 rfl) ?_
  refine lv_bipush (v := 80) hx hb dX7_init_63 (by decide) ?_
  refine k_new (n := 80) hx hb km hK hP hD hS hA rfl (by decide) (Nat.le_trans (Nat.le_of_ble_eq_true rfl) hRc.1) (Nat.le_trans (Nat.le_of_ble_eq_true rfl) hRc.2) dX7_init_65 (fun g H hP hD hS => ?_)
  rw [List.append_assoc] at hP hD
  refine k_putF (ci := 5) (C := RX7) (T := TX7) (N := 5) hx hb hts in_RX7 tyX7 tyX7_ok nmX7 hown hK hP hD hS 0 rfl rfl 3 (by decide) (hw _ m1_162) rfl hin rfl (ty := tyX7 3) (tyX7_ok 3 (by decide)) rfl rfl (Nat.le_of_ble_eq_true rfl) dX7_init_67 (fun H locs hP hD hS => ?_)
  have hP : va_P D vwCl (X ++ l7 cs h v2 v4 q5 g w) H := hP
  have hD : va_D A (X ++ l7 cs h v2 v4 q5 g w) := hD
  refine lv_aload_n hx hb dX7_init_70 rfl (lv_at hl 0 rfl) ?_
  refine lv_iconst (v := 0) hx hb dX7_init_71 (by decide) ?_
  refine k_puti (ci := 5) (C := RX7) (T := TX7) (N := 5) hx hb hts in_RX7 tyX7 tyX7_ok nmX7 hown hK hP hD hS 0 rfl rfl 4 (by decide) (hw _ m1_163) rfl (ty := tyX7 4) (tyX7_ok 4 (by decide)) rfl rfl (Nat.le_of_ble_eq_true rfl) dX7_init_72 (fun H locs hP hD hS => ?_)
  have hP : va_P D vwCl (X ++ l7 cs h v2 v4 q5 g w) H := hP
  have hD : va_D A (X ++ l7 cs h v2 v4 q5 g w) := hD
  refine W.widen (k := 174) (n := 12443) (by decide) (by decide) ?_
  exact W.vret hx hb hr (fun t ht hW => ⟨⟨(v2, v4, q5, g, w), rfl, trivial, by rw [ht]; exact hP, hD⟩, hS.F ht⟩) hS.2.2 dX7_init_75
