/-! THE LAW FROM ITS START TO ITS LOOP. -/
section NJ
variable {p : Program} {l : Launch} {e : Env} {R : Room} {s : State} {m : MethodId} {args : Array Value} {below : List Frame} {meth : Method} {c : Code} {H : Heap} {locs : List Loc} {cells slots : Nat} {Q : State → Prop}
variable {g : va_G} {cy : Nat → ClassId} {ws : va_W} {A0 : Nat → Prop} {pc : Nat} {ls : Array Slot} {rest st0 : List Value} {a : Array Value} {mc ms : Nat}
theorem nw_J {cc : ByteArray} (hx : p.tables.exec = Jvm.exec) (hb : c.code = cc) (harr : (Cond.arrayClass .long).before args s = true) (hK : va_K g vwCl (Ty cy) s) (hP : va_P g vwCl ws H) (hD : va_D A0 ws) (hS : va_S A0 s.heap H locs) (hA : ∀ q : Nat, s.heap.size ≤ q → A0 q) {n : Int32} {N' : Nat} (hn : ¬ n < 0) (hN : n.toNatClampNeg = N') (hbytes : N' * 8 ≤ 536870912) (hcells : cells + 1 ≤ R.cells) (hslots : slots + N' ≤ R.slots) (hdg : decode cc pc = .ok (.newarray .long, 2))
    (kk : ∀ (q : Nat) (H1 : Heap), va_P g vwCl (ws ++ [aJ cy q N' (fun _ => 0)]) H1 → va_D A0 (ws ++ [aJ cy q N' (fun _ => 0)]) → va_S A0 s.heap H1 locs → W p l e R s m args below meth c H1 locs (cells + 1) (slots + N') Q (F0 m (pc + 2) ls (.ref q :: rest))) : W p l e R s m args below meth c H locs cells slots Q (F0 m pc ls (.int n :: rest)) := by
  refine va_newa (atype := .long) hx hb harr rfl hK hP hD hS hA (a0 := (N', .inr (.inl (fun _ => 0)))) (fun cA => rfl) hn hN hbytes hcells hslots hdg (fun q cA H1 hK1 hP1 hD1 hS1 => ?_)
  have e1 : s.vm.findClass ("[" ++ (FieldType.long).toString) = some (cy 3) := (hK.2 3 _ rfl).2
  have e2 : s.vm.findClass ("[" ++ (FieldType.long).toString) = some cA := (hK1.2 4 _ rfl).2
  have e : cA = cy 3 := Option.some.inj (e2.symm.trans e1)
  subst e
  exact kk q H1 hP1 hD1 hS1
end NJ
set_option maxHeartbeats 4000000 in
set_option maxRecDepth 100000 in
theorem lw_begin {pX : Program} {l : Launch} {eX : Env} {s : State} {mX : MethodId} {below : List Frame} {meth : Method} {cX : Code} {b L : Nat} {xs : Nat → Int32} {QX : State → Prop} {A : Nat → Prop} (hfl : l.stackTraces = false) (g : va_G) (cy : Nat → ClassId) (hx : pX.tables.exec = Jvm.exec) (hb : cX.code = cL_law) (hml : cX.maxLocals = 7) (hown : s.vm.findClass RL = some mX.cls) (hts : ∀ w ∈ wsL_law, w.before #[Value.ref b] s = true) (hA : ∀ q : Nat, s.heap.size ≤ q → A q) (hK : va_K g vwCl (Ty cy) s) (hX : Cx A s s.heap) (hY : Cy s) (hXs : va_X b L xs s s.heap) (hbl : b < s.heap.size) (hbA : ¬ A b) (hL : L ≤ 3072) (hAO : va_AO RX0 s) {ls : Array Slot} (hP : va_P g vwCl [] s.heap) (hD : va_D A []) (hl : lv_has ls 7 [(0, .ref b)])
    (fin : ∀ (k : Nat) (H : Heap) (locs : List Loc) (ls : Array Slot), k ≤ 512 → va_S A s.heap H locs → lv_has ls 7 [] → W pX l eX room_1 s mX #[Value.ref b] below meth cX H locs (198 + k) (12685 + 6 * k) QX (F0 mX 1697 ls [])) :
    W pX l eX room_1 s mX #[Value.ref b] below meth cX s.heap [] 0 0 QX (F0 mX 0 ls []) := by
  have hS : va_S A s.heap s.heap [] := va_S.rf
  refine va_new (ci := 5) (fs := [.null, .null, .null, .null, .null, .null]) (C := RX7) (T := TX7) (N := 6) hx hb hts bgX7 tyX7 tyX7_ok hown (hts _ wd1_0) (hts _ wd1_1) (hts _ wd1_2) hK hP hD hS hA rfl (fun j hj => by rcases (show j = 0 ∨ j = 1 ∨ j = 2 ∨ j = 3 ∨ j = 4 ∨ j = 5 by omega) with rfl | rfl | rfl | rfl | rfl | rfl <;> rfl) (Nat.le_of_ble_eq_true rfl) (Nat.le_of_ble_eq_true rfl) dL_law_0 (fun q0 H hP hD hS => ?_)
  have hP : va_P g vwCl ([] ++ [(q0, .inr (5, [.null, .null, .null, .null, .null, .null]))]) H := hP
  have hD : va_D A ([] ++ [(q0, .inr (5, [.null, .null, .null, .null, .null, .null]))]) := hD
  refine lv_dup hx hb dL_law_3 rfl ?_
  refine cn_call (ws := []) (va_runI (As := []) (rest := [.ref q0]) ⟨hx, hb, hml, hown, hts⟩ (c_X7_init l g cy q0 H.size  ) ⟨cB 0 hts wd1_10 wd1_2 wd1_8 rfl rfl (by decide +kernel) ⟨Nat.le_of_ble_eq_true rfl, Nat.le_of_ble_eq_true rfl⟩, rfl, hts _ wd1_9⟩ (pnA (ws := []) hAO hK hP hD hS hA hX) rfl rfl hl.1 rfl (lv_room (Nat.le_of_ble_eq_true rfl)) dL_law_4 ⟨Nat.le_of_ble_eq_true rfl, Nat.le_of_ble_eq_true rfl⟩) hP hD hS hA ?_
  rintro ⟨x, a, tr, s0, s1, pa, b1⟩ H locs ha_4 hP8 hD8 hS8
  have ha_4 : x 0 = q0 := ha_4
  subst ha_4
  have hS := hS8
  have hP : va_P g vwCl (fQ cy x a tr s0 s1 pa (b1, bd0, 0, (fun _ => bd0), bd0, bd0, 0, 0, z9, 0) newS 0 (fun _ => false) z9 0) H := hP8
  have hD : va_D A (fQ cy x a tr s0 s1 pa (b1, bd0, 0, (fun _ => bd0), bd0, bd0, 0, 0, z9, 0) newS 0 (fun _ => false) z9 0) := hD8
  refine lv_astore_n (lv' := [(1, .ref (x 0)), (0, .ref b)]) hx hb dL_law_7 rfl hl (by decide) rfl (fun ls hl => ?_)
  refine va_new (ci := 6) (fs := [.int (nI 0), .null, .int (nI 0), .null, .null, .null, .int (nI 0), .null, .null, .null, .null, .int (nI 0), .int (nI 0)]) (C := RX8) (T := TX8) (N := 13) hx hb hts bgX8 tyX8 tyX8_ok hown (hts _ wd1_3) (hts _ wd1_4) (hts _ wd1_5) hK hP hD hS hA rfl (fun j hj => by rcases (show j = 0 ∨ j = 1 ∨ j = 2 ∨ j = 3 ∨ j = 4 ∨ j = 5 ∨ j = 6 ∨ j = 7 ∨ j = 8 ∨ j = 9 ∨ j = 10 ∨ j = 11 ∨ j = 12 by omega) with rfl | rfl | rfl | rfl | rfl | rfl | rfl | rfl | rfl | rfl | rfl | rfl | rfl <;> rfl) (Nat.le_of_ble_eq_true rfl) (Nat.le_of_ble_eq_true rfl) dL_law_8 (fun q8 H hP hD hS => ?_)
  have hP : va_P g vwCl ((fQ cy x a tr s0 s1 pa (b1, bd0, 0, (fun _ => bd0), bd0, bd0, 0, 0, z9, 0) newS 0 (fun _ => false) z9 0) ++ [(q8, .inr (6, [.int (nI 0), .null, .int (nI 0), .null, .null, .null, .int (nI 0), .null, .null, .null, .null, .int (nI 0), .int (nI 0)]))]) H := hP
  have hD : va_D A ((fQ cy x a tr s0 s1 pa (b1, bd0, 0, (fun _ => bd0), bd0, bd0, 0, 0, z9, 0) newS 0 (fun _ => false) z9 0) ++ [(q8, .inr (6, [.int (nI 0), .null, .int (nI 0), .null, .null, .null, .int (nI 0), .null, .null, .null, .null, .int (nI 0), .int (nI 0)]))]) := hD
  refine lv_dup hx hb dL_law_11 rfl ?_
  refine cn_call (ws := (fQ cy x a tr s0 s1 pa (b1, bd0, 0, (fun _ => bd0), bd0, bd0, 0, 0, z9, 0) newS 0 (fun _ => false) z9 0)) (va_runI (As := []) (rest := [.ref q8]) ⟨hx, hb, hml, hown, hts⟩ (c_X8_init l g cy q8 H.size  ) ⟨cB 0 hts wd5_18 wd1_5 wd5_16 rfl rfl (by decide +kernel) ⟨Nat.le_of_ble_eq_true rfl, Nat.le_of_ble_eq_true rfl⟩, rfl, hts _ wd5_17⟩ (pn (ws := (fQ cy x a tr s0 s1 pa (b1, bd0, 0, (fun _ => bd0), bd0, bd0, 0, 0, z9, 0) newS 0 (fun _ => false) z9 0)) hK hP hD hS hA hX) rfl rfl hl.1 rfl (lv_room (Nat.le_of_ble_eq_true rfl)) dL_law_12 ⟨Nat.le_of_ble_eq_true rfl, Nat.le_of_ble_eq_true rfl⟩) hP hD hS hA ?_
  rintro ma H locs ha_12 hP8 hD8 hS8
  have ha_12 : ma 0 = q8 := ha_12
  subst ha_12
  have hS := hS8
  have hP : va_P g vwCl ((fQ cy x a tr s0 s1 pa (b1, bd0, 0, (fun _ => bd0), bd0, bd0, 0, 0, z9, 0) newS 0 (fun _ => false) z9 0) ++ (mQ cy ma (z9, z9, z9, z9, z9, 0, 0, 0) newS 0 (fun _ => false) z9 0)) H := hP8
  have hD : va_D A ((fQ cy x a tr s0 s1 pa (b1, bd0, 0, (fun _ => bd0), bd0, bd0, 0, 0, z9, 0) newS 0 (fun _ => false) z9 0) ++ (mQ cy ma (z9, z9, z9, z9, z9, 0, 0, 0) newS 0 (fun _ => false) z9 0)) := hD8
  refine lv_astore_n (lv' := [(2, .ref (ma 0)), (1, .ref (x 0)), (0, .ref b)]) hx hb dL_law_15 rfl hl (by decide) rfl (fun ls hl => ?_)
  refine lv_iconst (v := (nI 1)) hx hb dL_law_16 (by decide) ?_
  refine nw_J hx hb (hts _ wd1_6) hK hP hD hS hA (N' := 1) (by decide) (by decide) (Nat.le_of_ble_eq_true rfl) (Nat.le_of_ble_eq_true rfl) (Nat.le_of_ble_eq_true rfl) dL_law_17 (fun out H hP hD hS => ?_)
  rw [List.append_assoc] at hP hD
  obtain ⟨hP, hD⟩ := sw_PD (L := []) (M := (fQ cy x a tr s0 s1 pa (b1, bd0, 0, (fun _ => bd0), bd0, bd0, 0, 0, z9, 0) newS 0 (fun _ => false) z9 0)) (T := (mQ cy ma (z9, z9, z9, z9, z9, 0, 0, 0) newS 0 (fun _ => false) z9 0) ++ [aJ cy out 1 (fun _ => 0)]) hP hD
  have hP : va_P g vwCl ((mQ cy ma (z9, z9, z9, z9, z9, 0, 0, 0) newS 0 (fun _ => false) z9 0) ++ ([aJ cy out 1 (fun _ => 0)] ++ (fQ cy x a tr s0 s1 pa (b1, bd0, 0, (fun _ => bd0), bd0, bd0, 0, 0, z9, 0) newS 0 (fun _ => false) z9 0))) H := by rw [← List.append_assoc]; exact hP
  have hD : va_D A ((mQ cy ma (z9, z9, z9, z9, z9, 0, 0, 0) newS 0 (fun _ => false) z9 0) ++ ([aJ cy out 1 (fun _ => 0)] ++ (fQ cy x a tr s0 s1 pa (b1, bd0, 0, (fun _ => bd0), bd0, bd0, 0, 0, z9, 0) newS 0 (fun _ => false) z9 0))) := by rw [← List.append_assoc]; exact hD
  refine lv_astore_n (lv' := [(3, .ref out), (2, .ref (ma 0)), (1, .ref (x 0)), (0, .ref b)]) hx hb dL_law_19 rfl hl (by decide) rfl (fun ls hl => ?_)
  refine lv_iconst (v := (nI 0)) hx hb dL_law_20 (by decide) ?_
  refine lv_istore (lv' := [(4, .int (nI 0)), (3, .ref out), (2, .ref (ma 0)), (1, .ref (x 0)), (0, .ref b)]) hx hb dL_law_21 hl (by decide) rfl (fun ls hl => ?_)
  refine W.widen (k := 198) (n := 12685) (Nat.le_of_ble_eq_true rfl) (Nat.le_of_ble_eq_true rfl) ?_
  exact lw_loop hfl g cy hx hb hml hown hts hA hK hX hY hXs hbl hbA hL (fI_new (Hh := fun _ _ => 0) (K := fun _ _ => 0)) (mI_new (Hh := fun _ _ => 0) (K := fun _ _ => 0)) hP hD hS (lv_sub hl [4, 3, 2, 1, 0] rfl) fin
