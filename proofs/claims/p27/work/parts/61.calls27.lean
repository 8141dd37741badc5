/-! call, by what is called. -/
set_option maxHeartbeats 4000000 in
set_option maxRecDepth 100000 in
theorem c_L_call_0 (l : Launch) (hfl : l.stackTraces = false) (g : va_G) (cy : Nat → ClassId) (x a tr s0 s1 : Nat → Nat) (pa : Nat → Nat → Nat) (sz : Nat) (bd : Nat) (q : Sc) (σ : Nat → Nat) (Hh : Nat → Nat → Nat) (n : Nat) (K : Nat → Nat → Nat) (fl : Nat → Bool) (tx : Nat → Nat) (ln : Nat) (v1 v2 v3 : Int32) (hI : fI bd q σ Hh n K fl tx ln) : Met l yL_call (Cond.code yL_call cL_call 5 (some .int) :: wsL_law) ({ frames := 8, cells := 1, slots := 6, locals := 125 } : Room) (va_Pc [.ref (x 0), .int (nI 0), .int v1, .int v2, .int v3] (pr2 g cy (fQ cy x a tr s0 s1 pa q σ n fl tx ln) sz)) (wr_Q (fun _ : Sc => some (.int (an (fApp v1 ln) (nI (ln + 1))))) (fun u => fI bd u σ Hh n K fl (if fApp v1 ln = 0 then up tx ln v1.toNatClampNeg else tx) (if fApp v1 ln = 0 then ln + 1 else ln)) (fun u => fQ cy x a tr s0 s1 pa u σ n fl (if fApp v1 ln = 0 then up tx ln v1.toNatClampNeg else tx) (if fApp v1 ln = 0 then ln + 1 else ln)) g (va_A (fQ cy x a tr s0 s1 pa q σ n fl tx ln) sz)) 1 6 (va_A (fQ cy x a tr s0 s1 pa q σ n fl tx ln) sz) := by
  refine mt_p (cc := cL_call) (maxL := 5) (ret := some .int) (by decide +kernel) (Nat.le_of_ble_eq_true rfl) ?_
  intro pX eX s mX below meth cX ls A hx hb hr hml hown hts hlk hsz hAe hA hP hD hK hX hY hl
  subst hsz
  rw [← hAe]
  clear hAe
  have hl : lv_has ls 5 [(0, .ref (x 0)), (1, .int (nI 0)), (2, .int v1), (3, .int v2), (4, .int v3)] := hl
  have hS : va_S A s.heap s.heap [] := va_S.rf
  refine lv_iload_n hx hb dL_call_0 rfl (lv_at hl 1 rfl) ?_
  refine lv_tableIn (tgt := 72) (off := 71) hx hb dL_call_1 (by decide) (by decide) (by decide) (by decide) ?_
  refine lv_aload_n hx hb dL_call_72 rfl (lv_at hl 0 rfl) ?_
  refine lv_iload_n hx hb dL_call_73 rfl (lv_at hl 2 rfl) ?_
  refine wr_callS (pre := []) (wc := fQ cy x a tr s0 s1 pa q σ n fl tx ln) (vx_runSW (hh := [(0, 5, 6, 16), (0, 5, 10, 19)]) (As := [.ref (x 0), .int v1]) (rest := []) ⟨hx, hb, hml, hown, hts⟩ (c_L_tryAppend l hfl g cy x a tr s0 s1 pa s.heap.size bd q σ Hh n K fl tx ln v1 hI ) (vx_cwSW 2 hts (hl_in wd9_14 wd5_14 wd9_12 wd9_13) rfl rfl rfl (by decide +kernel) ⟨Nat.le_of_ble_eq_true rfl, Nat.le_of_ble_eq_true rfl⟩) (ps2 (ws := [] ++ fQ cy x a tr s0 s1 pa q σ n fl tx ln) hK hP hD hS hA hX hY _ nd_suffix at_suffix) rfl rfl hl.1 rfl (lv_room (Nat.le_of_ble_eq_true rfl)) dL_call_74 ⟨Nat.le_of_ble_eq_true rfl, Nat.le_of_ble_eq_true rfl⟩) hP hD hS hA (fun _ => fQ_ad) (fun u H locs hu hP hD hS => ?_)
  show W _ _ _ _ _ _ _ _ _ _ _ _ _ _ _ (F0 mX 77 ls [.int (an (fApp v1 ln) (nI (ln + 1)))])
  exact W.widen (Nat.le_of_ble_eq_true rfl) (Nat.le_of_ble_eq_true rfl) (wr_i u rfl hu hP hS hx hb hr dL_call_77 hlk)
set_option maxHeartbeats 4000000 in
set_option maxRecDepth 100000 in
theorem c_L_call_2 (l : Launch) (hfl : l.stackTraces = false) (g : va_G) (cy : Nat → ClassId) (x a tr s0 s1 : Nat → Nat) (pa : Nat → Nat → Nat) (sz : Nat) (bd : Nat) (q : Sc) (σ : Nat → Nat) (Hh : Nat → Nat → Nat) (n : Nat) (K : Nat → Nat → Nat) (fl : Nat → Bool) (tx : Nat → Nat) (ln : Nat) (v1 v2 v3 : Int32) (hI : fI bd q σ Hh n K fl tx ln) : Met l yL_call (Cond.code yL_call cL_call 5 (some .int) :: wsL_law) ({ frames := 8, cells := 1, slots := 6, locals := 162 } : Room) (va_Pc [.ref (x 0), .int (nI 2), .int v1, .int v2, .int v3] (pr2 g cy (fQ cy x a tr s0 s1 pa q σ n fl tx ln) sz)) (wr_Q (fun _ : Sc => some (.int (an (fAbo v1) (nI (nbd σ v1.toNatClampNeg))))) (fun u => fI bd u σ Hh n K fl tx ln) (fun u => fQ cy x a tr s0 s1 pa u σ n fl tx ln) g (va_A (fQ cy x a tr s0 s1 pa q σ n fl tx ln) sz)) 1 6 (va_A (fQ cy x a tr s0 s1 pa q σ n fl tx ln) sz) := by
  refine mt_p (cc := cL_call) (maxL := 5) (ret := some .int) (by decide +kernel) (Nat.le_of_ble_eq_true rfl) ?_
  intro pX eX s mX below meth cX ls A hx hb hr hml hown hts hlk hsz hAe hA hP hD hK hX hY hl
  subst hsz
  rw [← hAe]
  clear hAe
  have hl : lv_has ls 5 [(0, .ref (x 0)), (1, .int (nI 2)), (2, .int v1), (3, .int v2), (4, .int v3)] := hl
  have hS : va_S A s.heap s.heap [] := va_S.rf
  refine lv_iload_n hx hb dL_call_0 rfl (lv_at hl 1 rfl) ?_
  refine lv_tableIn (tgt := 83) (off := 82) hx hb dL_call_1 (by decide) (by decide) (by decide) (by decide) ?_
  refine lv_aload_n hx hb dL_call_83 rfl (lv_at hl 0 rfl) ?_
  refine lv_iload_n hx hb dL_call_84 rfl (lv_at hl 2 rfl) ?_
  refine wr_callS (pre := []) (wc := fQ cy x a tr s0 s1 pa q σ n fl tx ln) (vx_runSW (hh := [(0, 5, 6, 16)]) (As := [.ref (x 0), .int v1]) (rest := []) ⟨hx, hb, hml, hown, hts⟩ (c_L_tryAbout l hfl g cy x a tr s0 s1 pa s.heap.size bd q σ Hh n K fl tx ln v1 hI ) (vx_cwSW 2 hts (hl_in wd18_4 wd5_14 wd18_2 wd18_3) rfl rfl rfl (by decide +kernel) ⟨Nat.le_of_ble_eq_true rfl, Nat.le_of_ble_eq_true rfl⟩) (ps2 (ws := [] ++ fQ cy x a tr s0 s1 pa q σ n fl tx ln) hK hP hD hS hA hX hY _ nd_suffix at_suffix) rfl rfl hl.1 rfl (lv_room (Nat.le_of_ble_eq_true rfl)) dL_call_85 ⟨Nat.le_of_ble_eq_true rfl, Nat.le_of_ble_eq_true rfl⟩) hP hD hS hA (fun _ => fQ_ad) (fun u H locs hu hP hD hS => ?_)
  show W _ _ _ _ _ _ _ _ _ _ _ _ _ _ _ (F0 mX 88 ls [.int (an (fAbo v1) (nI (nbd σ v1.toNatClampNeg)))])
  exact W.widen (Nat.le_of_ble_eq_true rfl) (Nat.le_of_ble_eq_true rfl) (wr_i u rfl hu hP hS hx hb hr dL_call_88 hlk)
set_option maxHeartbeats 4000000 in
set_option maxRecDepth 100000 in
theorem c_L_call_3 (l : Launch) (hfl : l.stackTraces = false) (g : va_G) (cy : Nat → ClassId) (x a tr s0 s1 : Nat → Nat) (pa : Nat → Nat → Nat) (sz : Nat) (bd : Nat) (q : Sc) (σ : Nat → Nat) (Hh : Nat → Nat → Nat) (n : Nat) (K : Nat → Nat → Nat) (fl : Nat → Bool) (tx : Nat → Nat) (ln : Nat) (v1 v2 v3 : Int32) (hI : fI bd q σ Hh n K fl tx ln) : Met l yL_call (Cond.code yL_call cL_call 5 (some .int) :: wsL_law) ({ frames := 8, cells := 1, slots := 6, locals := 164 } : Room) (va_Pc [.ref (x 0), .int (nI 3), .int v1, .int v2, .int v3] (pr2 g cy (fQ cy x a tr s0 s1 pa q σ n fl tx ln) sz)) (wr_Q (fun _ : Sc => some (.int (an (fDog σ v1 v2) (nI (ndg σ v1.toNatClampNeg v2.toNatClampNeg))))) (fun u => fI bd u σ Hh n K fl tx ln) (fun u => fQ cy x a tr s0 s1 pa u σ n fl tx ln) g (va_A (fQ cy x a tr s0 s1 pa q σ n fl tx ln) sz)) 1 6 (va_A (fQ cy x a tr s0 s1 pa q σ n fl tx ln) sz) := by
  refine mt_p (cc := cL_call) (maxL := 5) (ret := some .int) (by decide +kernel) (Nat.le_of_ble_eq_true rfl) ?_
  intro pX eX s mX below meth cX ls A hx hb hr hml hown hts hlk hsz hAe hA hP hD hK hX hY hl
  subst hsz
  rw [← hAe]
  clear hAe
  have hl : lv_has ls 5 [(0, .ref (x 0)), (1, .int (nI 3)), (2, .int v1), (3, .int v2), (4, .int v3)] := hl
  have hS : va_S A s.heap s.heap [] := va_S.rf
  refine lv_iload_n hx hb dL_call_0 rfl (lv_at hl 1 rfl) ?_
  refine lv_tableIn (tgt := 89) (off := 88) hx hb dL_call_1 (by decide) (by decide) (by decide) (by decide) ?_
  refine lv_aload_n hx hb dL_call_89 rfl (lv_at hl 0 rfl) ?_
  refine lv_iload_n hx hb dL_call_90 rfl (lv_at hl 2 rfl) ?_
  refine lv_iload_n hx hb dL_call_91 rfl (lv_at hl 3 rfl) ?_
  refine wr_callS (pre := []) (wc := fQ cy x a tr s0 s1 pa q σ n fl tx ln) (vx_runSW (hh := [(0, 6, 7, 13), (0, 6, 11, 16)]) (As := [.ref (x 0), .int v1, .int v2]) (rest := []) ⟨hx, hb, hml, hown, hts⟩ (c_L_tryDog l hfl g cy x a tr s0 s1 pa s.heap.size bd q σ Hh n K fl tx ln v1 v2 hI ) (vx_cwSW 3 hts (hl_in wd19_3 wd5_14 wd19_1 wd19_2) rfl rfl rfl (by decide +kernel) ⟨Nat.le_of_ble_eq_true rfl, Nat.le_of_ble_eq_true rfl⟩) (ps2 (ws := [] ++ fQ cy x a tr s0 s1 pa q σ n fl tx ln) hK hP hD hS hA hX hY _ nd_suffix at_suffix) rfl rfl hl.1 rfl (lv_room (Nat.le_of_ble_eq_true rfl)) dL_call_92 ⟨Nat.le_of_ble_eq_true rfl, Nat.le_of_ble_eq_true rfl⟩) hP hD hS hA (fun _ => fQ_ad) (fun u H locs hu hP hD hS => ?_)
  show W _ _ _ _ _ _ _ _ _ _ _ _ _ _ _ (F0 mX 95 ls [.int (an (fDog σ v1 v2) (nI (ndg σ v1.toNatClampNeg v2.toNatClampNeg)))])
  exact W.widen (Nat.le_of_ble_eq_true rfl) (Nat.le_of_ble_eq_true rfl) (wr_i u rfl hu hP hS hx hb hr dL_call_95 hlk)
set_option maxHeartbeats 4000000 in
set_option maxRecDepth 100000 in
theorem c_L_call_4 (l : Launch) (hfl : l.stackTraces = false) (g : va_G) (cy : Nat → ClassId) (x a tr s0 s1 : Nat → Nat) (pa : Nat → Nat → Nat) (sz : Nat) (bd : Nat) (q : Sc) (σ : Nat → Nat) (Hh : Nat → Nat → Nat) (n : Nat) (K : Nat → Nat → Nat) (fl : Nat → Bool) (tx : Nat → Nat) (ln : Nat) (v1 v2 v3 : Int32) (hI : fI bd q σ Hh n K fl tx ln) : Met l yL_call (Cond.code yL_call cL_call 5 (some .int) :: wsL_law) ({ frames := 8, cells := 1, slots := 6, locals := 144 } : Room) (va_Pc [.ref (x 0), .int (nI 4), .int v1, .int v2, .int v3] (pr2 g cy (fQ cy x a tr s0 s1 pa q σ n fl tx ln) sz)) (wr_Q (fun _ : Sc => some (.int (an (fSig σ v1 v2) (nI (nsg σ v1.toNatClampNeg v2.toNatClampNeg))))) (fun u => fI bd u σ Hh n K fl tx ln) (fun u => fQ cy x a tr s0 s1 pa u σ n fl tx ln) g (va_A (fQ cy x a tr s0 s1 pa q σ n fl tx ln) sz)) 1 6 (va_A (fQ cy x a tr s0 s1 pa q σ n fl tx ln) sz) := by
  refine mt_p (cc := cL_call) (maxL := 5) (ret := some .int) (by decide +kernel) (Nat.le_of_ble_eq_true rfl) ?_
  intro pX eX s mX below meth cX ls A hx hb hr hml hown hts hlk hsz hAe hA hP hD hK hX hY hl
  subst hsz
  rw [← hAe]
  clear hAe
  have hl : lv_has ls 5 [(0, .ref (x 0)), (1, .int (nI 4)), (2, .int v1), (3, .int v2), (4, .int v3)] := hl
  have hS : va_S A s.heap s.heap [] := va_S.rf
  refine lv_iload_n hx hb dL_call_0 rfl (lv_at hl 1 rfl) ?_
  refine lv_tableIn (tgt := 96) (off := 95) hx hb dL_call_1 (by decide) (by decide) (by decide) (by decide) ?_
  refine lv_aload_n hx hb dL_call_96 rfl (lv_at hl 0 rfl) ?_
  refine lv_iload_n hx hb dL_call_97 rfl (lv_at hl 2 rfl) ?_
  refine lv_iload_n hx hb dL_call_98 rfl (lv_at hl 3 rfl) ?_
  refine wr_callS (pre := []) (wc := fQ cy x a tr s0 s1 pa q σ n fl tx ln) (vx_runSW (hh := [(0, 6, 7, 13), (0, 6, 11, 16)]) (As := [.ref (x 0), .int v1, .int v2]) (rest := []) ⟨hx, hb, hml, hown, hts⟩ (c_L_trySeen l hfl g cy x a tr s0 s1 pa s.heap.size bd q σ Hh n K fl tx ln v1 v2 hI ) (vx_cwSW 3 hts (hl_in wd19_19 wd5_14 wd19_17 wd19_18) rfl rfl rfl (by decide +kernel) ⟨Nat.le_of_ble_eq_true rfl, Nat.le_of_ble_eq_true rfl⟩) (ps2 (ws := [] ++ fQ cy x a tr s0 s1 pa q σ n fl tx ln) hK hP hD hS hA hX hY _ nd_suffix at_suffix) rfl rfl hl.1 rfl (lv_room (Nat.le_of_ble_eq_true rfl)) dL_call_99 ⟨Nat.le_of_ble_eq_true rfl, Nat.le_of_ble_eq_true rfl⟩) hP hD hS hA (fun _ => fQ_ad) (fun u H locs hu hP hD hS => ?_)
  show W _ _ _ _ _ _ _ _ _ _ _ _ _ _ _ (F0 mX 102 ls [.int (an (fSig σ v1 v2) (nI (nsg σ v1.toNatClampNeg v2.toNatClampNeg)))])
  exact W.widen (Nat.le_of_ble_eq_true rfl) (Nat.le_of_ble_eq_true rfl) (wr_i u rfl hu hP hS hx hb hr dL_call_102 hlk)
set_option maxHeartbeats 4000000 in
set_option maxRecDepth 100000 in
theorem c_L_call_5 (l : Launch) (hfl : l.stackTraces = false) (g : va_G) (cy : Nat → ClassId) (x a tr s0 s1 : Nat → Nat) (pa : Nat → Nat → Nat) (sz : Nat) (bd : Nat) (q : Sc) (σ : Nat → Nat) (Hh : Nat → Nat → Nat) (n : Nat) (K : Nat → Nat → Nat) (fl : Nat → Bool) (tx : Nat → Nat) (ln : Nat) (v1 v2 v3 : Int32) (hI : fI bd q σ Hh n K fl tx ln) : Met l yL_call (Cond.code yL_call cL_call 5 (some .int) :: wsL_law) ({ frames := 8, cells := 1, slots := 6, locals := 125 } : Room) (va_Pc [.ref (x 0), .int (nI 5), .int v1, .int v2, .int v3] (pr2 g cy (fQ cy x a tr s0 s1 pa q σ n fl tx ln) sz)) (wr_Q (fun _ : Sc => some (.int (an (fPur v1) (nI (σ (8 + v1.toNatClampNeg)))))) (fun u => fI bd u σ Hh n K fl tx ln) (fun u => fQ cy x a tr s0 s1 pa u σ n fl tx ln) g (va_A (fQ cy x a tr s0 s1 pa q σ n fl tx ln) sz)) 1 6 (va_A (fQ cy x a tr s0 s1 pa q σ n fl tx ln) sz) := by
  refine mt_p (cc := cL_call) (maxL := 5) (ret := some .int) (by decide +kernel) (Nat.le_of_ble_eq_true rfl) ?_
  intro pX eX s mX below meth cX ls A hx hb hr hml hown hts hlk hsz hAe hA hP hD hK hX hY hl
  subst hsz
  rw [← hAe]
  clear hAe
  have hl : lv_has ls 5 [(0, .ref (x 0)), (1, .int (nI 5)), (2, .int v1), (3, .int v2), (4, .int v3)] := hl
  have hS : va_S A s.heap s.heap [] := va_S.rf
  refine lv_iload_n hx hb dL_call_0 rfl (lv_at hl 1 rfl) ?_
  refine lv_tableIn (tgt := 103) (off := 102) hx hb dL_call_1 (by decide) (by decide) (by decide) (by decide) ?_
  refine lv_aload_n hx hb dL_call_103 rfl (lv_at hl 0 rfl) ?_
  refine lv_iload_n hx hb dL_call_104 rfl (lv_at hl 2 rfl) ?_
  refine wr_callS (pre := []) (wc := fQ cy x a tr s0 s1 pa q σ n fl tx ln) (vx_runSW (hh := [(0, 5, 6, 13)]) (As := [.ref (x 0), .int v1]) (rest := []) ⟨hx, hb, hml, hown, hts⟩ (c_L_tryPurse l hfl g cy x a tr s0 s1 pa s.heap.size bd q σ Hh n K fl tx ln v1 hI ) (vx_cwSW 2 hts (hl_in wd20_6 wd5_14 wd20_4 wd20_5) rfl rfl rfl (by decide +kernel) ⟨Nat.le_of_ble_eq_true rfl, Nat.le_of_ble_eq_true rfl⟩) (ps2 (ws := [] ++ fQ cy x a tr s0 s1 pa q σ n fl tx ln) hK hP hD hS hA hX hY _ nd_suffix at_suffix) rfl rfl hl.1 rfl (lv_room (Nat.le_of_ble_eq_true rfl)) dL_call_105 ⟨Nat.le_of_ble_eq_true rfl, Nat.le_of_ble_eq_true rfl⟩) hP hD hS hA (fun _ => fQ_ad) (fun u H locs hu hP hD hS => ?_)
  show W _ _ _ _ _ _ _ _ _ _ _ _ _ _ _ (F0 mX 108 ls [.int (an (fPur v1) (nI (σ (8 + v1.toNatClampNeg))))])
  exact W.widen (Nat.le_of_ble_eq_true rfl) (Nat.le_of_ble_eq_true rfl) (wr_i u rfl hu hP hS hx hb hr dL_call_108 hlk)
set_option maxHeartbeats 4000000 in
set_option maxRecDepth 100000 in
theorem c_L_call_6 (l : Launch) (hfl : l.stackTraces = false) (g : va_G) (cy : Nat → ClassId) (x a tr s0 s1 : Nat → Nat) (pa : Nat → Nat → Nat) (sz : Nat) (bd : Nat) (q : Sc) (σ : Nat → Nat) (Hh : Nat → Nat → Nat) (n : Nat) (K : Nat → Nat → Nat) (fl : Nat → Bool) (tx : Nat → Nat) (ln : Nat) (v1 v2 v3 : Int32) (hI : fI bd q σ Hh n K fl tx ln) : Met l yL_call (Cond.code yL_call cL_call 5 (some .int) :: wsL_law) ({ frames := 8, cells := 1, slots := 6, locals := 137 } : Room) (va_Pc [.ref (x 0), .int (nI 6), .int v1, .int v2, .int v3] (pr2 g cy (fQ cy x a tr s0 s1 pa q σ n fl tx ln) sz)) (wr_Q (fun _ : Sc => some (.int (an (fApa v1 v2 v3) (wv σ (12 * v1.toNatClampNeg + v2.toNatClampNeg))))) (fun u => fI bd u σ Hh n K fl tx ln) (fun u => fQ cy x a tr s0 s1 pa u σ n fl tx ln) g (va_A (fQ cy x a tr s0 s1 pa q σ n fl tx ln) sz)) 1 6 (va_A (fQ cy x a tr s0 s1 pa q σ n fl tx ln) sz) := by
  refine mt_p (cc := cL_call) (maxL := 5) (ret := some .int) (by decide +kernel) (Nat.le_of_ble_eq_true rfl) ?_
  intro pX eX s mX below meth cX ls A hx hb hr hml hown hts hlk hsz hAe hA hP hD hK hX hY hl
  subst hsz
  rw [← hAe]
  clear hAe
  have hl : lv_has ls 5 [(0, .ref (x 0)), (1, .int (nI 6)), (2, .int v1), (3, .int v2), (4, .int v3)] := hl
  have hS : va_S A s.heap s.heap [] := va_S.rf
  refine lv_iload_n hx hb dL_call_0 rfl (lv_at hl 1 rfl) ?_
  refine lv_tableIn (tgt := 109) (off := 108) hx hb dL_call_1 (by decide) (by decide) (by decide) (by decide) ?_
  refine lv_aload_n hx hb dL_call_109 rfl (lv_at hl 0 rfl) ?_
  refine lv_iload_n hx hb dL_call_110 rfl (lv_at hl 2 rfl) ?_
  refine lv_iload_n hx hb dL_call_111 rfl (lv_at hl 3 rfl) ?_
  refine lv_iload hx hb dL_call_112 (lv_at hl 4 rfl) ?_
  refine wr_callS (pre := []) (wc := fQ cy x a tr s0 s1 pa q σ n fl tx ln) (vx_runSW (hh := [(0, 7, 8, 13), (0, 7, 13, 16)]) (As := [.ref (x 0), .int v1, .int v2, .int v3]) (rest := []) ⟨hx, hb, hml, hown, hts⟩ (c_L_tryApart l hfl g cy x a tr s0 s1 pa s.heap.size bd q σ Hh n K fl tx ln v1 v2 v3 hI ) (vx_cwSW 4 hts (hl_in wd20_15 wd5_14 wd20_13 wd20_14) rfl rfl rfl (by decide +kernel) ⟨Nat.le_of_ble_eq_true rfl, Nat.le_of_ble_eq_true rfl⟩) (ps2 (ws := [] ++ fQ cy x a tr s0 s1 pa q σ n fl tx ln) hK hP hD hS hA hX hY _ nd_suffix at_suffix) rfl rfl hl.1 rfl (lv_room (Nat.le_of_ble_eq_true rfl)) dL_call_114 ⟨Nat.le_of_ble_eq_true rfl, Nat.le_of_ble_eq_true rfl⟩) hP hD hS hA (fun _ => fQ_ad) (fun u H locs hu hP hD hS => ?_)
  show W _ _ _ _ _ _ _ _ _ _ _ _ _ _ _ (F0 mX 117 ls [.int (an (fApa v1 v2 v3) (wv σ (12 * v1.toNatClampNeg + v2.toNatClampNeg)))])
  exact W.widen (Nat.le_of_ble_eq_true rfl) (Nat.le_of_ble_eq_true rfl) (wr_i u rfl hu hP hS hx hb hr dL_call_117 hlk)
set_option maxHeartbeats 4000000 in
set_option maxRecDepth 100000 in
theorem c_L_call_7 (l : Launch) (hfl : l.stackTraces = false) (g : va_G) (cy : Nat → ClassId) (x a tr s0 s1 : Nat → Nat) (pa : Nat → Nat → Nat) (sz : Nat) (bd : Nat) (q : Sc) (σ : Nat → Nat) (Hh : Nat → Nat → Nat) (n : Nat) (K : Nat → Nat → Nat) (fl : Nat → Bool) (tx : Nat → Nat) (ln : Nat) (v1 v2 v3 : Int32) (hI : fI bd q σ Hh n K fl tx ln) : Met l yL_call (Cond.code yL_call cL_call 5 (some .int) :: wsL_law) ({ frames := 9, cells := 1, slots := 6, locals := 165 } : Room) (va_Pc [.ref (x 0), .int (nI 7), .int v1, .int v2, .int v3] (pr2 g cy (fQ cy x a tr s0 s1 pa q σ n fl tx ln) sz)) (wr_Q (fun _ : Sc => some (.int (an (fFind σ v1 v2 v3) (nI (findA σ v1 v2 v3))))) (fun u => fI (if fFind σ v1 v2 v3 = 0 then bd else bd) u (if fFind σ v1 v2 v3 = 0 then findR σ v1 v2 v3 else σ) (if fFind σ v1 v2 v3 = 0 then hiH Hh n σ else Hh) (if fFind σ v1 v2 v3 = 0 then hiN n else n) K fl tx ln) (fun u => fQ cy x a tr s0 s1 pa u (if fFind σ v1 v2 v3 = 0 then findR σ v1 v2 v3 else σ) (if fFind σ v1 v2 v3 = 0 then hiN n else n) fl tx ln) g (va_A (fQ cy x a tr s0 s1 pa q σ n fl tx ln) sz)) 1 6 (va_A (fQ cy x a tr s0 s1 pa q σ n fl tx ln) sz) := by
  refine mt_p (cc := cL_call) (maxL := 5) (ret := some .int) (by decide +kernel) (Nat.le_of_ble_eq_true rfl) ?_
  intro pX eX s mX below meth cX ls A hx hb hr hml hown hts hlk hsz hAe hA hP hD hK hX hY hl
  subst hsz
  rw [← hAe]
  clear hAe
  have hl : lv_has ls 5 [(0, .ref (x 0)), (1, .int (nI 7)), (2, .int v1), (3, .int v2), (4, .int v3)] := hl
  have hS : va_S A s.heap s.heap [] := va_S.rf
  refine lv_iload_n hx hb dL_call_0 rfl (lv_at hl 1 rfl) ?_
  refine lv_tableIn (tgt := 118) (off := 117) hx hb dL_call_1 (by decide) (by decide) (by decide) (by decide) ?_
  refine lv_aload_n hx hb dL_call_118 rfl (lv_at hl 0 rfl) ?_
  refine lv_iload_n hx hb dL_call_119 rfl (lv_at hl 2 rfl) ?_
  refine lv_iload_n hx hb dL_call_120 rfl (lv_at hl 3 rfl) ?_
  refine lv_iload hx hb dL_call_121 (lv_at hl 4 rfl) ?_
  refine wr_callS (pre := []) (wc := fQ cy x a tr s0 s1 pa q σ n fl tx ln) (vx_runSW (hh := [(0, 7, 8, 13), (0, 7, 13, 19)]) (As := [.ref (x 0), .int v1, .int v2, .int v3]) (rest := []) ⟨hx, hb, hml, hown, hts⟩ (c_L_tryFind l hfl g cy x a tr s0 s1 pa s.heap.size bd q σ Hh n K fl tx ln v1 v2 v3 hI ) (vx_cwSW 4 hts (hl_in wd21_19 wd5_14 wd21_17 wd21_18) rfl rfl rfl (by decide +kernel) ⟨Nat.le_of_ble_eq_true rfl, Nat.le_of_ble_eq_true rfl⟩) (ps2 (ws := [] ++ fQ cy x a tr s0 s1 pa q σ n fl tx ln) hK hP hD hS hA hX hY _ nd_suffix at_suffix) rfl rfl hl.1 rfl (lv_room (Nat.le_of_ble_eq_true rfl)) dL_call_123 ⟨Nat.le_of_ble_eq_true rfl, Nat.le_of_ble_eq_true rfl⟩) hP hD hS hA (fun _ => fQ_ad) (fun u H locs hu hP hD hS => ?_)
  show W _ _ _ _ _ _ _ _ _ _ _ _ _ _ _ (F0 mX 126 ls [.int (an (fFind σ v1 v2 v3) (nI (findA σ v1 v2 v3)))])
  exact W.widen (Nat.le_of_ble_eq_true rfl) (Nat.le_of_ble_eq_true rfl) (wr_i u rfl hu hP hS hx hb hr dL_call_126 hlk)
set_option maxHeartbeats 4000000 in
set_option maxRecDepth 100000 in
theorem c_L_call_8 (l : Launch) (hfl : l.stackTraces = false) (g : va_G) (cy : Nat → ClassId) (x a tr s0 s1 : Nat → Nat) (pa : Nat → Nat → Nat) (sz : Nat) (bd : Nat) (q : Sc) (σ : Nat → Nat) (Hh : Nat → Nat → Nat) (n : Nat) (K : Nat → Nat → Nat) (fl : Nat → Bool) (tx : Nat → Nat) (ln : Nat) (v1 v2 v3 : Int32) (hI : fI bd q σ Hh n K fl tx ln) (hbd : bd + 99 ≤ 100000) : Met l yL_call (Cond.code yL_call cL_call 5 (some .int) :: wsL_law) ({ frames := 9, cells := 1, slots := 6, locals := 147 } : Room) (va_Pc [.ref (x 0), .int (nI 8), .int v1, .int v2, .int v3] (pr2 g cy (fQ cy x a tr s0 s1 pa q σ n fl tx ln) sz)) (wr_Q (fun _ : Sc => some (.int (an (fPass v1) (nI (hoursA σ v1))))) (fun u => fI (if fPass v1 = 0 then bd + 99 else bd) u (if fPass v1 = 0 then hoursR σ v1 else σ) (if fPass v1 = 0 then hiH Hh n σ else Hh) (if fPass v1 = 0 then hiN n else n) K fl tx ln) (fun u => fQ cy x a tr s0 s1 pa u (if fPass v1 = 0 then hoursR σ v1 else σ) (if fPass v1 = 0 then hiN n else n) fl tx ln) g (va_A (fQ cy x a tr s0 s1 pa q σ n fl tx ln) sz)) 1 6 (va_A (fQ cy x a tr s0 s1 pa q σ n fl tx ln) sz) := by
  refine mt_p (cc := cL_call) (maxL := 5) (ret := some .int) (by decide +kernel) (Nat.le_of_ble_eq_true rfl) ?_
  intro pX eX s mX below meth cX ls A hx hb hr hml hown hts hlk hsz hAe hA hP hD hK hX hY hl
  subst hsz
  rw [← hAe]
  clear hAe
  have hl : lv_has ls 5 [(0, .ref (x 0)), (1, .int (nI 8)), (2, .int v1), (3, .int v2), (4, .int v3)] := hl
  have hS : va_S A s.heap s.heap [] := va_S.rf
  refine lv_iload_n hx hb dL_call_0 rfl (lv_at hl 1 rfl) ?_
  refine lv_tableIn (tgt := 127) (off := 126) hx hb dL_call_1 (by decide) (by decide) (by decide) (by decide) ?_
  refine lv_aload_n hx hb dL_call_127 rfl (lv_at hl 0 rfl) ?_
  refine lv_iload_n hx hb dL_call_128 rfl (lv_at hl 2 rfl) ?_
  refine wr_callS (pre := []) (wc := fQ cy x a tr s0 s1 pa q σ n fl tx ln) (vx_runSW (hh := [(0, 5, 6, 16)]) (As := [.ref (x 0), .int v1]) (rest := []) ⟨hx, hb, hml, hown, hts⟩ (c_L_tryHours l hfl g cy x a tr s0 s1 pa s.heap.size bd q σ Hh n K fl tx ln v1 hI hbd) (vx_cwSW 2 hts (hl_in wd22_4 wd5_14 wd22_2 wd22_3) rfl rfl rfl (by decide +kernel) ⟨Nat.le_of_ble_eq_true rfl, Nat.le_of_ble_eq_true rfl⟩) (ps2 (ws := [] ++ fQ cy x a tr s0 s1 pa q σ n fl tx ln) hK hP hD hS hA hX hY _ nd_suffix at_suffix) rfl rfl hl.1 rfl (lv_room (Nat.le_of_ble_eq_true rfl)) dL_call_129 ⟨Nat.le_of_ble_eq_true rfl, Nat.le_of_ble_eq_true rfl⟩) hP hD hS hA (fun _ => fQ_ad) (fun u H locs hu hP hD hS => ?_)
  show W _ _ _ _ _ _ _ _ _ _ _ _ _ _ _ (F0 mX 132 ls [.int (an (fPass v1) (nI (hoursA σ v1)))])
  exact W.widen (Nat.le_of_ble_eq_true rfl) (Nat.le_of_ble_eq_true rfl) (wr_i u rfl hu hP hS hx hb hr dL_call_132 hlk)
set_option maxHeartbeats 4000000 in
set_option maxRecDepth 100000 in
theorem c_L_call_9 (l : Launch) (hfl : l.stackTraces = false) (g : va_G) (cy : Nat → ClassId) (x a tr s0 s1 : Nat → Nat) (pa : Nat → Nat → Nat) (sz : Nat) (bd : Nat) (q : Sc) (σ : Nat → Nat) (Hh : Nat → Nat → Nat) (n : Nat) (K : Nat → Nat → Nat) (fl : Nat → Bool) (tx : Nat → Nat) (ln : Nat) (v1 v2 v3 : Int32) (hI : fI bd q σ Hh n K fl tx ln) : Met l yL_call (Cond.code yL_call cL_call 5 (some .int) :: wsL_law) ({ frames := 9, cells := 1, slots := 6, locals := 149 } : Room) (va_Pc [.ref (x 0), .int (nI 9), .int v1, .int v2, .int v3] (pr2 g cy (fQ cy x a tr s0 s1 pa q σ n fl tx ln) sz)) (wr_Q (fun _ : Sc => some (.int (an (fSet v1 v2) (nI (setA σ v1 v2))))) (fun u => fI (if fSet v1 v2 = 0 then bd else bd) u (if fSet v1 v2 = 0 then setR σ v1 v2 else σ) (if fSet v1 v2 = 0 then hiH Hh n σ else Hh) (if fSet v1 v2 = 0 then hiN n else n) K fl tx ln) (fun u => fQ cy x a tr s0 s1 pa u (if fSet v1 v2 = 0 then setR σ v1 v2 else σ) (if fSet v1 v2 = 0 then hiN n else n) fl tx ln) g (va_A (fQ cy x a tr s0 s1 pa q σ n fl tx ln) sz)) 1 6 (va_A (fQ cy x a tr s0 s1 pa q σ n fl tx ln) sz) := by
  refine mt_p (cc := cL_call) (maxL := 5) (ret := some .int) (by decide +kernel) (Nat.le_of_ble_eq_true rfl) ?_
  intro pX eX s mX below meth cX ls A hx hb hr hml hown hts hlk hsz hAe hA hP hD hK hX hY hl
  subst hsz
  rw [← hAe]
  clear hAe
  have hl : lv_has ls 5 [(0, .ref (x 0)), (1, .int (nI 9)), (2, .int v1), (3, .int v2), (4, .int v3)] := hl
  have hS : va_S A s.heap s.heap [] := va_S.rf
  refine lv_iload_n hx hb dL_call_0 rfl (lv_at hl 1 rfl) ?_
  refine lv_tableIn (tgt := 133) (off := 132) hx hb dL_call_1 (by decide) (by decide) (by decide) (by decide) ?_
  refine lv_aload_n hx hb dL_call_133 rfl (lv_at hl 0 rfl) ?_
  refine lv_iload_n hx hb dL_call_134 rfl (lv_at hl 2 rfl) ?_
  refine lv_iload_n hx hb dL_call_135 rfl (lv_at hl 3 rfl) ?_
  refine wr_callS (pre := []) (wc := fQ cy x a tr s0 s1 pa q σ n fl tx ln) (vx_runSW (hh := [(0, 6, 7, 16)]) (As := [.ref (x 0), .int v1, .int v2]) (rest := []) ⟨hx, hb, hml, hown, hts⟩ (c_L_tryLay l hfl g cy x a tr s0 s1 pa s.heap.size bd q σ Hh n K fl tx ln v1 v2 hI ) (vx_cwSW 3 hts (hl_in wd22_13 wd5_14 wd22_11 wd22_12) rfl rfl rfl (by decide +kernel) ⟨Nat.le_of_ble_eq_true rfl, Nat.le_of_ble_eq_true rfl⟩) (ps2 (ws := [] ++ fQ cy x a tr s0 s1 pa q σ n fl tx ln) hK hP hD hS hA hX hY _ nd_suffix at_suffix) rfl rfl hl.1 rfl (lv_room (Nat.le_of_ble_eq_true rfl)) dL_call_136 ⟨Nat.le_of_ble_eq_true rfl, Nat.le_of_ble_eq_true rfl⟩) hP hD hS hA (fun _ => fQ_ad) (fun u H locs hu hP hD hS => ?_)
  show W _ _ _ _ _ _ _ _ _ _ _ _ _ _ _ (F0 mX 139 ls [.int (an (fSet v1 v2) (nI (setA σ v1 v2)))])
  exact W.widen (Nat.le_of_ble_eq_true rfl) (Nat.le_of_ble_eq_true rfl) (wr_i u rfl hu hP hS hx hb hr dL_call_139 hlk)
set_option maxHeartbeats 4000000 in
set_option maxRecDepth 100000 in
theorem c_L_call_10 (l : Launch) (hfl : l.stackTraces = false) (g : va_G) (cy : Nat → ClassId) (x a tr s0 s1 : Nat → Nat) (pa : Nat → Nat → Nat) (sz : Nat) (bd : Nat) (q : Sc) (σ : Nat → Nat) (Hh : Nat → Nat → Nat) (n : Nat) (K : Nat → Nat → Nat) (fl : Nat → Bool) (tx : Nat → Nat) (ln : Nat) (v1 v2 v3 : Int32) (hI : fI bd q σ Hh n K fl tx ln) : Met l yL_call (Cond.code yL_call cL_call 5 (some .int) :: wsL_law) ({ frames := 8, cells := 1, slots := 6, locals := 145 } : Room) (va_Pc [.ref (x 0), .int (nI 10), .int v1, .int v2, .int v3] (pr2 g cy (fQ cy x a tr s0 s1 pa q σ n fl tx ln) sz)) (wr_Q (fun _ : Sc => some (.int (an (fUnd n) (nI (n - 1))))) (fun u => fI bd u (if fUnd n = 0 then Hh (n - 1) else σ) Hh (if fUnd n = 0 then n - 1 else n) K fl tx ln) (fun u => fQ cy x a tr s0 s1 pa u (if fUnd n = 0 then Hh (n - 1) else σ) (if fUnd n = 0 then n - 1 else n) fl tx ln) g (va_A (fQ cy x a tr s0 s1 pa q σ n fl tx ln) sz)) 1 6 (va_A (fQ cy x a tr s0 s1 pa q σ n fl tx ln) sz) := by
  refine mt_p (cc := cL_call) (maxL := 5) (ret := some .int) (by decide +kernel) (Nat.le_of_ble_eq_true rfl) ?_
  intro pX eX s mX below meth cX ls A hx hb hr hml hown hts hlk hsz hAe hA hP hD hK hX hY hl
  subst hsz
  rw [← hAe]
  clear hAe
  have hl : lv_has ls 5 [(0, .ref (x 0)), (1, .int (nI 10)), (2, .int v1), (3, .int v2), (4, .int v3)] := hl
  have hS : va_S A s.heap s.heap [] := va_S.rf
  refine lv_iload_n hx hb dL_call_0 rfl (lv_at hl 1 rfl) ?_
  refine lv_tableIn (tgt := 140) (off := 139) hx hb dL_call_1 (by decide) (by decide) (by decide) (by decide) ?_
  refine lv_aload_n hx hb dL_call_140 rfl (lv_at hl 0 rfl) ?_
  refine wr_callS (pre := []) (wc := fQ cy x a tr s0 s1 pa q σ n fl tx ln) (vx_runSW (hh := [(0, 4, 5, 19)]) (As := [.ref (x 0)]) (rest := []) ⟨hx, hb, hml, hown, hts⟩ (c_L_tryUndo l hfl g cy x a tr s0 s1 pa s.heap.size bd q σ Hh n K fl tx ln  hI ) (vx_cwSW 1 hts (hl_in wd23_5 wd5_14 wd23_3 wd23_4) rfl rfl rfl (by decide +kernel) ⟨Nat.le_of_ble_eq_true rfl, Nat.le_of_ble_eq_true rfl⟩) (ps2 (ws := [] ++ fQ cy x a tr s0 s1 pa q σ n fl tx ln) hK hP hD hS hA hX hY _ nd_suffix at_suffix) rfl rfl hl.1 rfl (lv_room (Nat.le_of_ble_eq_true rfl)) dL_call_141 ⟨Nat.le_of_ble_eq_true rfl, Nat.le_of_ble_eq_true rfl⟩) hP hD hS hA (fun _ => fQ_ad) (fun u H locs hu hP hD hS => ?_)
  show W _ _ _ _ _ _ _ _ _ _ _ _ _ _ _ (F0 mX 144 ls [.int (an (fUnd n) (nI (n - 1)))])
  exact W.widen (Nat.le_of_ble_eq_true rfl) (Nat.le_of_ble_eq_true rfl) (wr_i u rfl hu hP hS hx hb hr dL_call_144 hlk)
set_option maxHeartbeats 4000000 in
set_option maxRecDepth 100000 in
theorem c_L_call_11 (l : Launch) (hfl : l.stackTraces = false) (g : va_G) (cy : Nat → ClassId) (x a tr s0 s1 : Nat → Nat) (pa : Nat → Nat → Nat) (sz : Nat) (bd : Nat) (q : Sc) (σ : Nat → Nat) (Hh : Nat → Nat → Nat) (n : Nat) (K : Nat → Nat → Nat) (fl : Nat → Bool) (tx : Nat → Nat) (ln : Nat) (v1 v2 v3 : Int32) (hI : fI bd q σ Hh n K fl tx ln) : Met l yL_call (Cond.code yL_call cL_call 5 (some .int) :: wsL_law) ({ frames := 9, cells := 1, slots := 6, locals := 164 } : Room) (va_Pc [.ref (x 0), .int (nI 11), .int v1, .int v2, .int v3] (pr2 g cy (fQ cy x a tr s0 s1 pa q σ n fl tx ln) sz)) (wr_Q (fun _ : Sc => some (.int (an (fAsk σ v1) (nI (mk (cbe σ v1.toNatClampNeg) 12))))) (fun u => fI bd u σ Hh n K fl tx ln) (fun u => fQ cy x a tr s0 s1 pa u σ n fl tx ln) g (va_A (fQ cy x a tr s0 s1 pa q σ n fl tx ln) sz)) 1 6 (va_A (fQ cy x a tr s0 s1 pa q σ n fl tx ln) sz) := by
  refine mt_p (cc := cL_call) (maxL := 5) (ret := some .int) (by decide +kernel) (Nat.le_of_ble_eq_true rfl) ?_
  intro pX eX s mX below meth cX ls A hx hb hr hml hown hts hlk hsz hAe hA hP hD hK hX hY hl
  subst hsz
  rw [← hAe]
  clear hAe
  have hl : lv_has ls 5 [(0, .ref (x 0)), (1, .int (nI 11)), (2, .int v1), (3, .int v2), (4, .int v3)] := hl
  have hS : va_S A s.heap s.heap [] := va_S.rf
  refine lv_iload_n hx hb dL_call_0 rfl (lv_at hl 1 rfl) ?_
  refine lv_tableIn (tgt := 145) (off := 144) hx hb dL_call_1 (by decide) (by decide) (by decide) (by decide) ?_
  refine lv_aload_n hx hb dL_call_145 rfl (lv_at hl 0 rfl) ?_
  refine lv_iload_n hx hb dL_call_146 rfl (lv_at hl 2 rfl) ?_
  refine wr_callS (pre := []) (wc := fQ cy x a tr s0 s1 pa q σ n fl tx ln) (vx_runSW (hh := [(0, 5, 6, 13), (0, 5, 10, 19)]) (As := [.ref (x 0), .int v1]) (rest := []) ⟨hx, hb, hml, hown, hts⟩ (c_L_tryCanBe l hfl g cy x a tr s0 s1 pa s.heap.size bd q σ Hh n K fl tx ln v1 hI ) (vx_cwSW 2 hts (hl_in wd23_20 wd5_14 wd23_18 wd23_19) rfl rfl rfl (by decide +kernel) ⟨Nat.le_of_ble_eq_true rfl, Nat.le_of_ble_eq_true rfl⟩) (ps2 (ws := [] ++ fQ cy x a tr s0 s1 pa q σ n fl tx ln) hK hP hD hS hA hX hY _ nd_suffix at_suffix) rfl rfl hl.1 rfl (lv_room (Nat.le_of_ble_eq_true rfl)) dL_call_147 ⟨Nat.le_of_ble_eq_true rfl, Nat.le_of_ble_eq_true rfl⟩) hP hD hS hA (fun _ => fQ_ad) (fun u H locs hu hP hD hS => ?_)
  show W _ _ _ _ _ _ _ _ _ _ _ _ _ _ _ (F0 mX 150 ls [.int (an (fAsk σ v1) (nI (mk (cbe σ v1.toNatClampNeg) 12)))])
  exact W.widen (Nat.le_of_ble_eq_true rfl) (Nat.le_of_ble_eq_true rfl) (wr_i u rfl hu hP hS hx hb hr dL_call_150 hlk)
set_option maxHeartbeats 4000000 in
set_option maxRecDepth 100000 in
theorem c_L_call_12 (l : Launch) (hfl : l.stackTraces = false) (g : va_G) (cy : Nat → ClassId) (x a tr s0 s1 : Nat → Nat) (pa : Nat → Nat → Nat) (sz : Nat) (bd : Nat) (q : Sc) (σ : Nat → Nat) (Hh : Nat → Nat → Nat) (n : Nat) (K : Nat → Nat → Nat) (fl : Nat → Bool) (tx : Nat → Nat) (ln : Nat) (v1 v2 v3 : Int32) (hI : fI bd q σ Hh n K fl tx ln) : Met l yL_call (Cond.code yL_call cL_call 5 (some .int) :: wsL_law) ({ frames := 8, cells := 1, slots := 6, locals := 138 } : Room) (va_Pc [.ref (x 0), .int (nI 12), .int v1, .int v2, .int v3] (pr2 g cy (fQ cy x a tr s0 s1 pa q σ n fl tx ln) sz)) (wr_Q (fun _ : Sc => some (.int (an (fMea v1) (nI (mea σ v1.toNatClampNeg (σ 2)))))) (fun u => fI bd u σ Hh n K fl tx ln) (fun u => fQ cy x a tr s0 s1 pa u σ n fl tx ln) g (va_A (fQ cy x a tr s0 s1 pa q σ n fl tx ln) sz)) 1 6 (va_A (fQ cy x a tr s0 s1 pa q σ n fl tx ln) sz) := by
  refine mt_p (cc := cL_call) (maxL := 5) (ret := some .int) (by decide +kernel) (Nat.le_of_ble_eq_true rfl) ?_
  intro pX eX s mX below meth cX ls A hx hb hr hml hown hts hlk hsz hAe hA hP hD hK hX hY hl
  subst hsz
  rw [← hAe]
  clear hAe
  have hl : lv_has ls 5 [(0, .ref (x 0)), (1, .int (nI 12)), (2, .int v1), (3, .int v2), (4, .int v3)] := hl
  have hS : va_S A s.heap s.heap [] := va_S.rf
  refine lv_iload_n hx hb dL_call_0 rfl (lv_at hl 1 rfl) ?_
  refine lv_tableIn (tgt := 151) (off := 150) hx hb dL_call_1 (by decide) (by decide) (by decide) (by decide) ?_
  refine lv_aload_n hx hb dL_call_151 rfl (lv_at hl 0 rfl) ?_
  refine lv_iload_n hx hb dL_call_152 rfl (lv_at hl 2 rfl) ?_
  refine wr_callS (pre := []) (wc := fQ cy x a tr s0 s1 pa q σ n fl tx ln) (vx_runSW (hh := [(0, 5, 6, 16)]) (As := [.ref (x 0), .int v1]) (rest := []) ⟨hx, hb, hml, hown, hts⟩ (c_L_tryMeant l hfl g cy x a tr s0 s1 pa s.heap.size bd q σ Hh n K fl tx ln v1 hI ) (vx_cwSW 2 hts (hl_in wd24_12 wd5_14 wd24_10 wd24_11) rfl rfl rfl (by decide +kernel) ⟨Nat.le_of_ble_eq_true rfl, Nat.le_of_ble_eq_true rfl⟩) (ps2 (ws := [] ++ fQ cy x a tr s0 s1 pa q σ n fl tx ln) hK hP hD hS hA hX hY _ nd_suffix at_suffix) rfl rfl hl.1 rfl (lv_room (Nat.le_of_ble_eq_true rfl)) dL_call_153 ⟨Nat.le_of_ble_eq_true rfl, Nat.le_of_ble_eq_true rfl⟩) hP hD hS hA (fun _ => fQ_ad) (fun u H locs hu hP hD hS => ?_)
  show W _ _ _ _ _ _ _ _ _ _ _ _ _ _ _ (F0 mX 156 ls [.int (an (fMea v1) (nI (mea σ v1.toNatClampNeg (σ 2))))])
  exact W.widen (Nat.le_of_ble_eq_true rfl) (Nat.le_of_ble_eq_true rfl) (wr_i u rfl hu hP hS hx hb hr dL_call_156 hlk)
set_option maxHeartbeats 4000000 in
set_option maxRecDepth 100000 in
theorem c_L_call_13 (l : Launch) (hfl : l.stackTraces = false) (g : va_G) (cy : Nat → ClassId) (x a tr s0 s1 : Nat → Nat) (pa : Nat → Nat → Nat) (sz : Nat) (bd : Nat) (q : Sc) (σ : Nat → Nat) (Hh : Nat → Nat → Nat) (n : Nat) (K : Nat → Nat → Nat) (fl : Nat → Bool) (tx : Nat → Nat) (ln : Nat) (v1 v2 v3 : Int32) (hI : fI bd q σ Hh n K fl tx ln) : Met l yL_call (Cond.code yL_call cL_call 5 (some .int) :: wsL_law) ({ frames := 8, cells := 1, slots := 6, locals := 126 } : Room) (va_Pc [.ref (x 0), .int (nI 13), .int v1, .int v2, .int v3] (pr2 g cy (fQ cy x a tr s0 s1 pa q σ n fl tx ln) sz)) (wr_Q (fun _ : Sc => some (.int (an (fSlo v1) (nI (σ 2))))) (fun u => fI bd u σ Hh n (if fSlo v1 = 0 then sv2 K v1.toNatClampNeg σ else K) (if fSlo v1 = 0 then sv2 fl v1.toNatClampNeg true else fl) tx ln) (fun u => fQ cy x a tr s0 s1 pa u σ n (if fSlo v1 = 0 then sv2 fl v1.toNatClampNeg true else fl) tx ln) g (va_A (fQ cy x a tr s0 s1 pa q σ n fl tx ln) sz)) 1 6 (va_A (fQ cy x a tr s0 s1 pa q σ n fl tx ln) sz) := by
  refine mt_p (cc := cL_call) (maxL := 5) (ret := some .int) (by decide +kernel) (Nat.le_of_ble_eq_true rfl) ?_
  intro pX eX s mX below meth cX ls A hx hb hr hml hown hts hlk hsz hAe hA hP hD hK hX hY hl
  subst hsz
  rw [← hAe]
  clear hAe
  have hl : lv_has ls 5 [(0, .ref (x 0)), (1, .int (nI 13)), (2, .int v1), (3, .int v2), (4, .int v3)] := hl
  have hS : va_S A s.heap s.heap [] := va_S.rf
  refine lv_iload_n hx hb dL_call_0 rfl (lv_at hl 1 rfl) ?_
  refine lv_tableIn (tgt := 157) (off := 156) hx hb dL_call_1 (by decide) (by decide) (by decide) (by decide) ?_
  refine lv_aload_n hx hb dL_call_157 rfl (lv_at hl 0 rfl) ?_
  refine lv_iload_n hx hb dL_call_158 rfl (lv_at hl 2 rfl) ?_
  refine wr_callS (pre := []) (wc := fQ cy x a tr s0 s1 pa q σ n fl tx ln) (vx_runSW (hh := [(0, 5, 6, 13)]) (As := [.ref (x 0), .int v1]) (rest := []) ⟨hx, hb, hml, hown, hts⟩ (c_L_tryKeep l hfl g cy x a tr s0 s1 pa s.heap.size bd q σ Hh n K fl tx ln v1 hI ) (vx_cwSW 2 hts (hl_in wd24_20 wd5_14 wd24_18 wd24_19) rfl rfl rfl (by decide +kernel) ⟨Nat.le_of_ble_eq_true rfl, Nat.le_of_ble_eq_true rfl⟩) (ps2 (ws := [] ++ fQ cy x a tr s0 s1 pa q σ n fl tx ln) hK hP hD hS hA hX hY _ nd_suffix at_suffix) rfl rfl hl.1 rfl (lv_room (Nat.le_of_ble_eq_true rfl)) dL_call_159 ⟨Nat.le_of_ble_eq_true rfl, Nat.le_of_ble_eq_true rfl⟩) hP hD hS hA (fun _ => fQ_ad) (fun u H locs hu hP hD hS => ?_)
  show W _ _ _ _ _ _ _ _ _ _ _ _ _ _ _ (F0 mX 162 ls [.int (an (fSlo v1) (nI (σ 2)))])
  exact W.widen (Nat.le_of_ble_eq_true rfl) (Nat.le_of_ble_eq_true rfl) (wr_i u rfl hu hP hS hx hb hr dL_call_162 hlk)
set_option maxHeartbeats 4000000 in
set_option maxRecDepth 100000 in
theorem c_L_call_14 (l : Launch) (hfl : l.stackTraces = false) (g : va_G) (cy : Nat → ClassId) (x a tr s0 s1 : Nat → Nat) (pa : Nat → Nat → Nat) (sz : Nat) (bd : Nat) (q : Sc) (σ : Nat → Nat) (Hh : Nat → Nat → Nat) (n : Nat) (K : Nat → Nat → Nat) (fl : Nat → Bool) (tx : Nat → Nat) (ln : Nat) (v1 v2 v3 : Int32) (hI : fI bd q σ Hh n K fl tx ln) : Met l yL_call (Cond.code yL_call cL_call 5 (some .int) :: wsL_law) ({ frames := 8, cells := 1, slots := 6, locals := 126 } : Room) (va_Pc [.ref (x 0), .int (nI 14), .int v1, .int v2, .int v3] (pr2 g cy (fQ cy x a tr s0 s1 pa q σ n fl tx ln) sz)) (wr_Q (fun _ : Sc => some (.int (an (fRes fl v1) (nI (K v1.toNatClampNeg 2))))) (fun u => fI bd u (if fRes fl v1 = 0 then K v1.toNatClampNeg else σ) Hh (if fRes fl v1 = 0 then 0 else n) K fl tx ln) (fun u => fQ cy x a tr s0 s1 pa u (if fRes fl v1 = 0 then K v1.toNatClampNeg else σ) (if fRes fl v1 = 0 then 0 else n) fl tx ln) g (va_A (fQ cy x a tr s0 s1 pa q σ n fl tx ln) sz)) 1 6 (va_A (fQ cy x a tr s0 s1 pa q σ n fl tx ln) sz) := by
  refine mt_p (cc := cL_call) (maxL := 5) (ret := some .int) (by decide +kernel) (Nat.le_of_ble_eq_true rfl) ?_
  intro pX eX s mX below meth cX ls A hx hb hr hml hown hts hlk hsz hAe hA hP hD hK hX hY hl
  subst hsz
  rw [← hAe]
  clear hAe
  have hl : lv_has ls 5 [(0, .ref (x 0)), (1, .int (nI 14)), (2, .int v1), (3, .int v2), (4, .int v3)] := hl
  have hS : va_S A s.heap s.heap [] := va_S.rf
  refine lv_iload_n hx hb dL_call_0 rfl (lv_at hl 1 rfl) ?_
  refine lv_tableOut (tgt := 163) hx hb dL_call_1 (by decide) (by decide) ?_
  refine lv_aload_n hx hb dL_call_163 rfl (lv_at hl 0 rfl) ?_
  refine lv_iload_n hx hb dL_call_164 rfl (lv_at hl 2 rfl) ?_
  refine wr_callS (pre := []) (wc := fQ cy x a tr s0 s1 pa q σ n fl tx ln) (vx_runSW (hh := [(0, 5, 6, 13), (0, 5, 10, 19)]) (As := [.ref (x 0), .int v1]) (rest := []) ⟨hx, hb, hml, hown, hts⟩ (c_L_tryBack l hfl g cy x a tr s0 s1 pa s.heap.size bd q σ Hh n K fl tx ln v1 hI ) (vx_cwSW 2 hts (hl_in wd25_8 wd5_14 wd25_6 wd25_7) rfl rfl rfl (by decide +kernel) ⟨Nat.le_of_ble_eq_true rfl, Nat.le_of_ble_eq_true rfl⟩) (ps2 (ws := [] ++ fQ cy x a tr s0 s1 pa q σ n fl tx ln) hK hP hD hS hA hX hY _ nd_suffix at_suffix) rfl rfl hl.1 rfl (lv_room (Nat.le_of_ble_eq_true rfl)) dL_call_165 ⟨Nat.le_of_ble_eq_true rfl, Nat.le_of_ble_eq_true rfl⟩) hP hD hS hA (fun _ => fQ_ad) (fun u H locs hu hP hD hS => ?_)
  show W _ _ _ _ _ _ _ _ _ _ _ _ _ _ _ (F0 mX 168 ls [.int (an (fRes fl v1) (nI (K v1.toNatClampNeg 2)))])
  exact W.widen (Nat.le_of_ble_eq_true rfl) (Nat.le_of_ble_eq_true rfl) (wr_i u rfl hu hP hS hx hb hr dL_call_168 hlk)
