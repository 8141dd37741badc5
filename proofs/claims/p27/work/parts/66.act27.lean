/-! P27: act. -/
set_option maxHeartbeats 4000000 in
set_option maxRecDepth 100000 in
theorem c_L_act (l : Launch) (hfl : l.stackTraces = false) (g : va_G) (cy : Nat → ClassId) (x a tr s0 s1 : Nat → Nat) (pa : Nat → Nat → Nat) (sz : Nat) (bd : Nat) (q : Sc) (σ : Nat → Nat) (Hh : Nat → Nat → Nat) (n : Nat) (K : Nat → Nat → Nat) (fl : Nat → Bool) (tx : Nat → Nat) (ln : Nat) (v : Nat) (hI : fI bd q σ Hh n K fl tx ln) (hv9 : v < 2 ^ 31) (h1 : 1 ≤ σ 0) (hbd : bd + 99 ≤ 100000) : Met l yL_act (Cond.code yL_act cL_act 5 (some .int) :: wsL_law) ({ frames := 10, cells := 10, slots := 60, locals := 189 } : Room) (va_Pc [.ref (x 0), .int (nI v)] (pr2 g cy (fQ cy x a tr s0 s1 pa q σ n fl tx ln) sz)) (wr_Q (fun _ : Sc => some (.int (acV v σ n K fl))) (fun u => fI (bd + 99) u (acS v σ Hh n K fl).1 (acS v σ Hh n K fl).2.1 (acS v σ Hh n K fl).2.2.1 (acS v σ Hh n K fl).2.2.2.1 (acS v σ Hh n K fl).2.2.2.2 tx ln) (fun u => fQ cy x a tr s0 s1 pa u (acS v σ Hh n K fl).1 (acS v σ Hh n K fl).2.2.1 (acS v σ Hh n K fl).2.2.2.2 tx ln) g (va_A (fQ cy x a tr s0 s1 pa q σ n fl tx ln) sz)) 10 60 (va_A (fQ cy x a tr s0 s1 pa q σ n fl tx ln) sz) := by
  refine mt_p (cc := cL_act) (maxL := 5) (ret := some .int) (by decide +kernel) (Nat.le_of_ble_eq_true rfl) ?_
  intro pX eX s mX below meth cX ls A hx hb hr hml hown hts hlk hsz hAe hA hP hD hK hX hY hl
  subst hsz
  rw [← hAe]
  clear hAe
  have hl : lv_has ls 5 [(0, .ref (x 0)), (1, .int (nI v))] := hl
  have hS : va_S A s.heap s.heap [] := va_S.rf
  have hW := fI_wf hI
  have hn0 := hW.n0
  have hn1 := hW.n1
  have hh2 := hW.h2
  have hNN : NN = 4294967295 := rfl
  refine lv_iload_n hx hb dL_act_0 rfl (lv_at hl 1 rfl) ?_
  refine lv_bipush (v := (nI 16)) hx hb dL_act_1 (by decide) ?_
  refine lv_idiv hx hb dL_act_3 (nI_ne0 (by omega) (by omega)) ?_
  refine ti (pk_div (a := v) (d := 16) (by omega) (by omega) (by omega)) ?_
  refine lv_istore_n (lv' := [(2, .int (nI (v / 16))), (0, .ref (x 0)), (1, .int (nI v))]) hx hb dL_act_4 rfl hl (by decide) rfl (fun ls hl => ?_)
  refine lv_aload_n hx hb dL_act_5 rfl (lv_at hl 1 rfl) ?_
  refine lv_iconst (v := (nI 2)) hx hb dL_act_6 (by decide) ?_
  refine lv_iconst (v := (nI 0)) hx hb dL_act_7 (by decide) ?_
  refine lv_iconst (v := (nI 0)) hx hb dL_act_8 (by decide) ?_
  refine lv_iconst (v := (nI 0)) hx hb dL_act_9 (by decide) ?_
  refine wr_callS (pre := []) (wc := fQ cy x a tr s0 s1 pa q σ n fl tx ln) (va_runS (As := [.ref (x 0), .int (nI 2), .int (nI 0), .int (nI 0), .int (nI 0)]) (rest := []) ⟨hx, hb, hml, hown, hts⟩ (c_L_call_2 l hfl g cy x a tr s0 s1 pa s.heap.size bd q σ Hh n K fl tx ln (nI 0) (nI 0) (nI 0) hI ) ⟨(cB 5 hts wd9_11 wd5_14 wd9_9 rfl rfl (by decide +kernel) ⟨Nat.le_of_ble_eq_true rfl, Nat.le_of_ble_eq_true rfl⟩), hts _ wd9_10⟩ (ps2 (ws := [] ++ fQ cy x a tr s0 s1 pa q σ n fl tx ln) hK hP hD hS hA hX hY _ nd_suffix at_suffix) rfl rfl hl.1 rfl (lv_room (Nat.le_of_ble_eq_true rfl)) dL_act_10 ⟨by show _ ≤ 10; omega, by show _ ≤ 60; omega⟩) hP hD hS hA (fun _ => fQ_ad) (fun q H locs hI hP hD hS => ?_)
  have hP : va_P g vwCl (fQ cy x a tr s0 s1 pa q σ n fl tx ln) H := hP
  have hD : va_D A (fQ cy x a tr s0 s1 pa q σ n fl tx ln) := hD
  refine ti (show an (fAbo (nI 0)) (nI (nbd σ (nI 0).toNatClampNeg)) = (nI (σ 0)) from (v_ab (w := 0) (by decide))) ?_
  show W _ _ _ _ _ _ _ _ _ _ _ _ _ _ _ (F0 mX 13 ls [.int (nI (σ 0))])
  refine lv_istore_n (lv' := [(3, .int (nI (σ 0))), (2, .int (nI (v / 16))), (0, .ref (x 0)), (1, .int (nI v))]) hx hb dL_act_13 rfl hl (by decide) rfl (fun ls hl => ?_)
  refine lv_iload_n hx hb dL_act_14 rfl (lv_at hl 1 rfl) ?_
  refine lv_bipush (v := (nI 12)) hx hb dL_act_15 (by decide) ?_
  refine lv_irem hx hb dL_act_17 (nI_ne0 (by omega) (by omega)) ?_
  refine ti (pk_rem (a := (v / 16)) (d := 12) (by omega) (by omega) (by omega)) ?_
  refine lv_istore (lv' := [(4, .int (nI ((v / 16) % 12))), (3, .int (nI (σ 0))), (2, .int (nI (v / 16))), (0, .ref (x 0)), (1, .int (nI v))]) hx hb dL_act_18 hl (by decide) rfl (fun ls hl => ?_)
  refine lv_iload_n hx hb dL_act_20 rfl (lv_at hl 4 rfl) ?_
  refine lv_bipush (v := (nI 16)) hx hb dL_act_21 (by decide) ?_
  obtain ⟨w9, hw9⟩ : ∃ w9, w9 = v % 16 := ⟨_, rfl⟩
  refine lv_irem hx hb dL_act_23 (nI_ne0 (by omega) (by omega)) ?_
  refine ti (pk_rem (a := v) (d := 16) (by omega) (by omega) (by omega)) ?_
  refine ti (show (nI (v % 16)) = (nI w9) from (by rw [hw9])) ?_
  rcases (show w9 = 0 ∨ w9 = 1 ∨ w9 = 2 ∨ w9 = 3 ∨ w9 = 4 ∨ w9 = 5 ∨ w9 = 6 ∨ w9 = 7 ∨ w9 = 8 ∨ w9 = 9 ∨ w9 = 10 ∨ w9 = 11 ∨ w9 = 12 ∨ w9 = 13 ∨ w9 = 14 ∨ w9 = 15 by omega) with rfl | rfl | rfl | rfl | rfl | rfl | rfl | rfl | rfl | rfl | rfl | rfl | rfl | rfl | rfl | rfl
  · refine lv_tableIn (tgt := 92) (off := 68) hx hb dL_act_24 (by decide) (by decide) (by decide) (by decide) ?_
    refine lv_aload_n hx hb dL_act_92 rfl (lv_at hl 3 rfl) ?_
    refine lv_iconst (v := (nI 1)) hx hb dL_act_93 (by decide) ?_
    refine lv_iload_n hx hb dL_act_94 rfl (lv_at hl 2 rfl) ?_
    refine lv_sipush (v := (nI 255)) hx hb dL_act_95 (by decide) ?_
    refine lv_irem hx hb dL_act_98 (nI_ne0 (by omega) (by omega)) ?_
    refine ti (pk_rem (a := (v / 16)) (d := 255) (by omega) (by omega) (by omega)) ?_
    refine lv_iadd hx hb dL_act_99 ?_
    refine ti (nI_add 1 ((v / 16) % 255)) ?_
    refine lv_iconst (v := (nI 1)) hx hb dL_act_100 (by decide) ?_
    refine lv_iload_n hx hb dL_act_101 rfl (lv_at hl 2 rfl) ?_
    refine lv_sipush (v := (nI 255)) hx hb dL_act_102 (by decide) ?_
    refine lv_idiv hx hb dL_act_105 (nI_ne0 (by omega) (by omega)) ?_
    refine ti (pk_div (a := (v / 16)) (d := 255) (by omega) (by omega) (by omega)) ?_
    refine lv_iconst (v := (nI 3)) hx hb dL_act_106 (by decide) ?_
    refine lv_irem hx hb dL_act_107 (nI_ne0 (by omega) (by omega)) ?_
    refine ti (pk_rem (a := ((v / 16) / 255)) (d := 3) (by omega) (by omega) (by omega)) ?_
    refine lv_iadd hx hb dL_act_108 ?_
    refine ti (nI_add 1 (((v / 16) / 255) % 3)) ?_
    refine lv_iload_n hx hb dL_act_109 rfl (lv_at hl 2 rfl) ?_
    refine lv_sipush (v := (nI 765)) hx hb dL_act_110 (by decide) ?_
    refine lv_idiv hx hb dL_act_113 (nI_ne0 (by omega) (by omega)) ?_
    refine ti (pk_div (a := (v / 16)) (d := 765) (by omega) (by omega) (by omega)) ?_
    refine lv_bipush (v := (nI 12)) hx hb dL_act_114 (by decide) ?_
    refine lv_irem hx hb dL_act_116 (nI_ne0 (by omega) (by omega)) ?_
    refine ti (pk_rem (a := ((v / 16) / 765)) (d := 12) (by omega) (by omega) (by omega)) ?_
    refine lv_iconst (v := (nI 1)) hx hb dL_act_117 (by decide) ?_
    refine lv_iload_n hx hb dL_act_118 rfl (lv_at hl 2 rfl) ?_
    refine lv_sipush (v := (nI 9180)) hx hb dL_act_119 (by decide) ?_
    refine lv_idiv hx hb dL_act_122 (nI_ne0 (by omega) (by omega)) ?_
    refine ti (pk_div (a := (v / 16)) (d := 9180) (by omega) (by omega) (by omega)) ?_
    refine lv_sipush (v := (nI 500)) hx hb dL_act_123 (by decide) ?_
    refine lv_irem hx hb dL_act_126 (nI_ne0 (by omega) (by omega)) ?_
    refine ti (pk_rem (a := ((v / 16) / 9180)) (d := 500) (by omega) (by omega) (by omega)) ?_
    refine lv_iadd hx hb dL_act_127 ?_
    refine ti (nI_add 1 (((v / 16) / 9180) % 500)) ?_
    refine wr_callS (pre := []) (wc := fQ cy x a tr s0 s1 pa q σ n fl tx ln) (vx_runSW (hh := [(0, 9, 10, 13), (0, 9, 15, 16), (0, 9, 20, 19)]) (As := [.ref (x 0), .int (nI (1 + ((v / 16) % 255))), .int (nI (1 + (((v / 16) / 255) % 3))), .int (nI (((v / 16) / 765) % 12)), .int (nI (1 + (((v / 16) / 9180) % 500)))]) (rest := []) ⟨hx, hb, hml, hown, hts⟩ (c_L_loses l hfl g cy x a tr s0 s1 pa H.size bd q σ Hh n K fl tx ln (nI (1 + ((v / 16) % 255))) (nI (1 + (((v / 16) / 255) % 3))) (nI (((v / 16) / 765) % 12)) (nI (1 + (((v / 16) / 9180) % 500))) hI ) (vx_cwSW 5 hts (hl_in wd5_20 wd5_14 wd5_18 wd5_19) rfl rfl rfl (by decide +kernel) ⟨Nat.le_of_ble_eq_true rfl, Nat.le_of_ble_eq_true rfl⟩) (ps2 (ws := [] ++ fQ cy x a tr s0 s1 pa q σ n fl tx ln) hK hP hD hS hA hX hY _ nd_suffix at_suffix) rfl rfl hl.1 rfl (lv_room (Nat.le_of_ble_eq_true rfl)) dL_act_128 ⟨by show _ ≤ 10; omega, by show _ ≤ 60; omega⟩) hP hD hS hA (fun _ => fQ_ad) (fun q H locs hI hP hD hS => ?_)
    have hP : va_P g vwCl (fQ cy x a tr s0 s1 pa q (if fLose σ (nI (1 + ((v / 16) % 255))) (nI (1 + (((v / 16) / 255) % 3))) (nI (((v / 16) / 765) % 12)) (nI (1 + (((v / 16) / 9180) % 500))) = 0 then loseR σ (nI (1 + ((v / 16) % 255))) (nI (1 + (((v / 16) / 255) % 3))) (nI (((v / 16) / 765) % 12)) (nI (1 + (((v / 16) / 9180) % 500))) else σ) (if fLose σ (nI (1 + ((v / 16) % 255))) (nI (1 + (((v / 16) / 255) % 3))) (nI (((v / 16) / 765) % 12)) (nI (1 + (((v / 16) / 9180) % 500))) = 0 then hiN n else n) fl tx ln) H := hP
    have hD : va_D A (fQ cy x a tr s0 s1 pa q (if fLose σ (nI (1 + ((v / 16) % 255))) (nI (1 + (((v / 16) / 255) % 3))) (nI (((v / 16) / 765) % 12)) (nI (1 + (((v / 16) / 9180) % 500))) = 0 then loseR σ (nI (1 + ((v / 16) % 255))) (nI (1 + (((v / 16) / 255) % 3))) (nI (((v / 16) / 765) % 12)) (nI (1 + (((v / 16) / 9180) % 500))) else σ) (if fLose σ (nI (1 + ((v / 16) % 255))) (nI (1 + (((v / 16) / 255) % 3))) (nI (((v / 16) / 765) % 12)) (nI (1 + (((v / 16) / 9180) % 500))) = 0 then hiN n else n) fl tx ln) := hD
    show W _ _ _ _ _ _ _ _ _ _ _ _ _ _ _ (F0 mX 131 ls [.int (an (fLose σ (nI (1 + ((v / 16) % 255))) (nI (1 + (((v / 16) / 255) % 3))) (nI (((v / 16) / 765) % 12)) (nI (1 + (((v / 16) / 9180) % 500)))) (nI (σ 0)))])
    exact W.widen (by omega) (by omega) (wr_i q (by show some (Value.int (acV v σ n K fl)) = _; unfold acV; rw [if_pos (show v % 16 < 2 by omega)]) (by unfold acS; rw [if_pos (show v % 16 < 2 by omega)]; exact fI_mono (c := bd + 99) hI (by split <;> omega) hbd) (by unfold acS; rw [if_pos (show v % 16 < 2 by omega)]; exact hP) hS hx hb hr dL_act_131 hlk)
  · refine lv_tableIn (tgt := 92) (off := 68) hx hb dL_act_24 (by decide) (by decide) (by decide) (by decide) ?_
    refine lv_aload_n hx hb dL_act_92 rfl (lv_at hl 3 rfl) ?_
    refine lv_iconst (v := (nI 1)) hx hb dL_act_93 (by decide) ?_
    refine lv_iload_n hx hb dL_act_94 rfl (lv_at hl 2 rfl) ?_
    refine lv_sipush (v := (nI 255)) hx hb dL_act_95 (by decide) ?_
    refine lv_irem hx hb dL_act_98 (nI_ne0 (by omega) (by omega)) ?_
    refine ti (pk_rem (a := (v / 16)) (d := 255) (by omega) (by omega) (by omega)) ?_
    refine lv_iadd hx hb dL_act_99 ?_
    refine ti (nI_add 1 ((v / 16) % 255)) ?_
    refine lv_iconst (v := (nI 1)) hx hb dL_act_100 (by decide) ?_
    refine lv_iload_n hx hb dL_act_101 rfl (lv_at hl 2 rfl) ?_
    refine lv_sipush (v := (nI 255)) hx hb dL_act_102 (by decide) ?_
    refine lv_idiv hx hb dL_act_105 (nI_ne0 (by omega) (by omega)) ?_
    refine ti (pk_div (a := (v / 16)) (d := 255) (by omega) (by omega) (by omega)) ?_
    refine lv_iconst (v := (nI 3)) hx hb dL_act_106 (by decide) ?_
    refine lv_irem hx hb dL_act_107 (nI_ne0 (by omega) (by omega)) ?_
    refine ti (pk_rem (a := ((v / 16) / 255)) (d := 3) (by omega) (by omega) (by omega)) ?_
    refine lv_iadd hx hb dL_act_108 ?_
    refine ti (nI_add 1 (((v / 16) / 255) % 3)) ?_
    refine lv_iload_n hx hb dL_act_109 rfl (lv_at hl 2 rfl) ?_
    refine lv_sipush (v := (nI 765)) hx hb dL_act_110 (by decide) ?_
    refine lv_idiv hx hb dL_act_113 (nI_ne0 (by omega) (by omega)) ?_
    refine ti (pk_div (a := (v / 16)) (d := 765) (by omega) (by omega) (by omega)) ?_
    refine lv_bipush (v := (nI 12)) hx hb dL_act_114 (by decide) ?_
    refine lv_irem hx hb dL_act_116 (nI_ne0 (by omega) (by omega)) ?_
    refine ti (pk_rem (a := ((v / 16) / 765)) (d := 12) (by omega) (by omega) (by omega)) ?_
    refine lv_iconst (v := (nI 1)) hx hb dL_act_117 (by decide) ?_
    refine lv_iload_n hx hb dL_act_118 rfl (lv_at hl 2 rfl) ?_
    refine lv_sipush (v := (nI 9180)) hx hb dL_act_119 (by decide) ?_
    refine lv_idiv hx hb dL_act_122 (nI_ne0 (by omega) (by omega)) ?_
    refine ti (pk_div (a := (v / 16)) (d := 9180) (by omega) (by omega) (by omega)) ?_
    refine lv_sipush (v := (nI 500)) hx hb dL_act_123 (by decide) ?_
    refine lv_irem hx hb dL_act_126 (nI_ne0 (by omega) (by omega)) ?_
    refine ti (pk_rem (a := ((v / 16) / 9180)) (d := 500) (by omega) (by omega) (by omega)) ?_
    refine lv_iadd hx hb dL_act_127 ?_
    refine ti (nI_add 1 (((v / 16) / 9180) % 500)) ?_
    refine wr_callS (pre := []) (wc := fQ cy x a tr s0 s1 pa q σ n fl tx ln) (vx_runSW (hh := [(0, 9, 10, 13), (0, 9, 15, 16), (0, 9, 20, 19)]) (As := [.ref (x 0), .int (nI (1 + ((v / 16) % 255))), .int (nI (1 + (((v / 16) / 255) % 3))), .int (nI (((v / 16) / 765) % 12)), .int (nI (1 + (((v / 16) / 9180) % 500)))]) (rest := []) ⟨hx, hb, hml, hown, hts⟩ (c_L_loses l hfl g cy x a tr s0 s1 pa H.size bd q σ Hh n K fl tx ln (nI (1 + ((v / 16) % 255))) (nI (1 + (((v / 16) / 255) % 3))) (nI (((v / 16) / 765) % 12)) (nI (1 + (((v / 16) / 9180) % 500))) hI ) (vx_cwSW 5 hts (hl_in wd5_20 wd5_14 wd5_18 wd5_19) rfl rfl rfl (by decide +kernel) ⟨Nat.le_of_ble_eq_true rfl, Nat.le_of_ble_eq_true rfl⟩) (ps2 (ws := [] ++ fQ cy x a tr s0 s1 pa q σ n fl tx ln) hK hP hD hS hA hX hY _ nd_suffix at_suffix) rfl rfl hl.1 rfl (lv_room (Nat.le_of_ble_eq_true rfl)) dL_act_128 ⟨by show _ ≤ 10; omega, by show _ ≤ 60; omega⟩) hP hD hS hA (fun _ => fQ_ad) (fun q H locs hI hP hD hS => ?_)
    have hP : va_P g vwCl (fQ cy x a tr s0 s1 pa q (if fLose σ (nI (1 + ((v / 16) % 255))) (nI (1 + (((v / 16) / 255) % 3))) (nI (((v / 16) / 765) % 12)) (nI (1 + (((v / 16) / 9180) % 500))) = 0 then loseR σ (nI (1 + ((v / 16) % 255))) (nI (1 + (((v / 16) / 255) % 3))) (nI (((v / 16) / 765) % 12)) (nI (1 + (((v / 16) / 9180) % 500))) else σ) (if fLose σ (nI (1 + ((v / 16) % 255))) (nI (1 + (((v / 16) / 255) % 3))) (nI (((v / 16) / 765) % 12)) (nI (1 + (((v / 16) / 9180) % 500))) = 0 then hiN n else n) fl tx ln) H := hP
    have hD : va_D A (fQ cy x a tr s0 s1 pa q (if fLose σ (nI (1 + ((v / 16) % 255))) (nI (1 + (((v / 16) / 255) % 3))) (nI (((v / 16) / 765) % 12)) (nI (1 + (((v / 16) / 9180) % 500))) = 0 then loseR σ (nI (1 + ((v / 16) % 255))) (nI (1 + (((v / 16) / 255) % 3))) (nI (((v / 16) / 765) % 12)) (nI (1 + (((v / 16) / 9180) % 500))) else σ) (if fLose σ (nI (1 + ((v / 16) % 255))) (nI (1 + (((v / 16) / 255) % 3))) (nI (((v / 16) / 765) % 12)) (nI (1 + (((v / 16) / 9180) % 500))) = 0 then hiN n else n) fl tx ln) := hD
    show W _ _ _ _ _ _ _ _ _ _ _ _ _ _ _ (F0 mX 131 ls [.int (an (fLose σ (nI (1 + ((v / 16) % 255))) (nI (1 + (((v / 16) / 255) % 3))) (nI (((v / 16) / 765) % 12)) (nI (1 + (((v / 16) / 9180) % 500)))) (nI (σ 0)))])
    exact W.widen (by omega) (by omega) (wr_i q (by show some (Value.int (acV v σ n K fl)) = _; unfold acV; rw [if_pos (show v % 16 < 2 by omega)]) (by unfold acS; rw [if_pos (show v % 16 < 2 by omega)]; exact fI_mono (c := bd + 99) hI (by split <;> omega) hbd) (by unfold acS; rw [if_pos (show v % 16 < 2 by omega)]; exact hP) hS hx hb hr dL_act_131 hlk)
  · refine lv_tableIn (tgt := 132) (off := 108) hx hb dL_act_24 (by decide) (by decide) (by decide) (by decide) ?_
    refine lv_aload_n hx hb dL_act_132 rfl (lv_at hl 3 rfl) ?_
    refine lv_iload_n hx hb dL_act_133 rfl (lv_at hl 2 rfl) ?_
    refine lv_bipush (v := (nI 8)) hx hb dL_act_134 (by decide) ?_
    refine lv_irem hx hb dL_act_136 (nI_ne0 (by omega) (by omega)) ?_
    refine ti (pk_rem (a := (v / 16)) (d := 8) (by omega) (by omega) (by omega)) ?_
    refine lv_iload_n hx hb dL_act_137 rfl (lv_at hl 2 rfl) ?_
    refine lv_bipush (v := (nI 8)) hx hb dL_act_138 (by decide) ?_
    refine lv_idiv hx hb dL_act_140 (nI_ne0 (by omega) (by omega)) ?_
    refine ti (pk_div (a := (v / 16)) (d := 8) (by omega) (by omega) (by omega)) ?_
    refine lv_bipush (v := (nI 12)) hx hb dL_act_141 (by decide) ?_
    refine lv_irem hx hb dL_act_143 (nI_ne0 (by omega) (by omega)) ?_
    refine ti (pk_rem (a := ((v / 16) / 8)) (d := 12) (by omega) (by omega) (by omega)) ?_
    refine lv_aload_n hx hb dL_act_144 rfl (lv_at hl 3 rfl) ?_
    refine lv_iconst (v := (nI 3)) hx hb dL_act_145 (by decide) ?_
    refine lv_iload_n hx hb dL_act_146 rfl (lv_at hl 2 rfl) ?_
    refine lv_bipush (v := (nI 96)) hx hb dL_act_147 (by decide) ?_
    refine lv_idiv hx hb dL_act_149 (nI_ne0 (by omega) (by omega)) ?_
    refine ti (pk_div (a := (v / 16)) (d := 96) (by omega) (by omega) (by omega)) ?_
    refine lv_iload_n hx hb dL_act_150 rfl (lv_at hl 1 rfl) ?_
    refine lv_irem hx hb dL_act_151 (nI_ne0 (by omega) (by omega)) ?_
    refine ti (pk_rem (a := ((v / 16) / 96)) (d := (σ 0)) (by omega) (by omega) (by omega)) ?_
    refine lv_iconst (v := (nI 0)) hx hb dL_act_152 (by decide) ?_
    refine lv_iconst (v := (nI 0)) hx hb dL_act_153 (by decide) ?_
    refine wr_callS (pre := []) (wc := fQ cy x a tr s0 s1 pa q σ n fl tx ln) (va_runS (As := [.ref (x 0), .int (nI 3), .int (nI (((v / 16) / 96) % (σ 0))), .int (nI 0), .int (nI 0)]) (rest := [.int (nI (((v / 16) / 8) % 12)), .int (nI ((v / 16) % 8)), .ref (x 0)]) ⟨hx, hb, hml, hown, hts⟩ (c_L_call_3 l hfl g cy x a tr s0 s1 pa H.size bd q σ Hh n K fl tx ln (nI (((v / 16) / 96) % (σ 0))) (nI 0) (nI 0) hI ) ⟨(cB 5 hts wd9_11 wd5_14 wd9_9 rfl rfl (by decide +kernel) ⟨Nat.le_of_ble_eq_true rfl, Nat.le_of_ble_eq_true rfl⟩), hts _ wd9_10⟩ (ps2 (ws := [] ++ fQ cy x a tr s0 s1 pa q σ n fl tx ln) hK hP hD hS hA hX hY _ nd_suffix at_suffix) rfl rfl hl.1 rfl (lv_room (Nat.le_of_ble_eq_true rfl)) dL_act_154 ⟨by show _ ≤ 10; omega, by show _ ≤ 60; omega⟩) hP hD hS hA (fun _ => fQ_ad) (fun q H locs hI hP hD hS => ?_)
    have hP : va_P g vwCl (fQ cy x a tr s0 s1 pa q σ n fl tx ln) H := hP
    have hD : va_D A (fQ cy x a tr s0 s1 pa q σ n fl tx ln) := hD
    refine ti (show an (fDog σ (nI (((v / 16) / 96) % (σ 0))) (nI 0)) (nI (ndg σ (nI (((v / 16) / 96) % (σ 0))).toNatClampNeg (nI 0).toNatClampNeg)) = (nI (dg σ (((v / 16) / 96) % (σ 0)) 0)) from (v_dg (w := 0) hn0 (Nat.mod_lt _ (by omega)) (by decide))) ?_
    show W _ _ _ _ _ _ _ _ _ _ _ _ _ _ _ (F0 mX 157 ls [.int (nI (dg σ (((v / 16) / 96) % (σ 0)) 0)), .int (nI (((v / 16) / 8) % 12)), .int (nI ((v / 16) % 8)), .ref (x 0)])
    refine jn_i (pcj := 181) (ls := ls) (st := [.int (nI (dg σ (((v / 16) / 96) % (σ 0)) 0)), .int (nI (((v / 16) / 8) % 12)), .int (nI ((v / 16) % 8)), .ref (x 0)]) (fun v9 => v9 = (nI (if ((v / 16) / 576) % 3 = 0 then 2 ^ (((v / 16) / 1728) % 8) else 0))) ?_ (fun jn181 => ?_)
    · intro v9 hv9
      subst hv9
      refine lv_ixor hx hb dL_act_181 ?_
      refine ti (nx_xor (dg σ (((v / 16) / 96) % (σ 0)) 0) (if ((v / 16) / 576) % 3 = 0 then 2 ^ (((v / 16) / 1728) % 8) else 0)) ?_
      refine ti (show (nI ((dg σ (((v / 16) / 96) % (σ 0)) 0) ^^^ (if ((v / 16) / 576) % 3 = 0 then 2 ^ (((v / 16) / 1728) % 8) else 0))) = (nI (aMk σ (v / 16))) from rfl) ?_
      refine lv_iload_n hx hb dL_act_182 rfl (lv_at hl 2 rfl) ?_
      refine lv_sipush (v := (nI 13824)) hx hb dL_act_183 (by decide) ?_
      refine lv_idiv hx hb dL_act_186 (nI_ne0 (by omega) (by omega)) ?_
      refine ti (pk_div (a := (v / 16)) (d := 13824) (by omega) (by omega) (by omega)) ?_
      refine lv_bipush (v := (nI 6)) hx hb dL_act_187 (by decide) ?_
      refine lv_irem hx hb dL_act_189 (nI_ne0 (by omega) (by omega)) ?_
      refine ti (pk_rem (a := ((v / 16) / 13824)) (d := 6) (by omega) (by omega) (by omega)) ?_
      refine jn_i (pcj := 204) (ls := ls) (st := [.int (nI (((v / 16) / 13824) % 6)), .int (nI (aMk σ (v / 16))), .int (nI (((v / 16) / 8) % 12)), .int (nI ((v / 16) % 8)), .ref (x 0)]) (fun v9 => v9 = (bI (aPh (v / 16)))) ?_ (fun jn204 => ?_)
      · intro v9 hv9
        subst hv9
        refine wr_callS (pre := []) (wc := fQ cy x a tr s0 s1 pa q σ n fl tx ln) (vx_runSW (hh := [(0, 11, 12, 13), (0, 11, 17, 16), (0, 11, 22, 19)]) (As := [.ref (x 0), .int (nI ((v / 16) % 8)), .int (nI (((v / 16) / 8) % 12)), .int (nI (aMk σ (v / 16))), .int (nI (((v / 16) / 13824) % 6)), .int (bI (aPh (v / 16)))]) (rest := []) ⟨hx, hb, hml, hown, hts⟩ (c_L_sights l hfl g cy x a tr s0 s1 pa H.size bd q σ Hh n K fl tx ln (nI ((v / 16) % 8)) (nI (((v / 16) / 8) % 12)) (nI (aMk σ (v / 16))) (nI (((v / 16) / 13824) % 6)) (aPh (v / 16)) hI ) (vx_cwSW 6 hts (hl_in wd25_15 wd5_14 wd25_13 wd25_14) rfl rfl rfl (by decide +kernel) ⟨Nat.le_of_ble_eq_true rfl, Nat.le_of_ble_eq_true rfl⟩) (ps2 (ws := [] ++ fQ cy x a tr s0 s1 pa q σ n fl tx ln) hK hP hD hS hA hX hY _ nd_suffix at_suffix) rfl rfl hl.1 rfl (lv_room (Nat.le_of_ble_eq_true rfl)) dL_act_204 ⟨by show _ ≤ 10; omega, by show _ ≤ 60; omega⟩) hP hD hS hA (fun _ => fQ_ad) (fun q H locs hI hP hD hS => ?_)
        have hP : va_P g vwCl (fQ cy x a tr s0 s1 pa q (if fTell σ (nI ((v / 16) % 8)) (nI (((v / 16) / 8) % 12)) (nI (aMk σ (v / 16))) (nI (((v / 16) / 13824) % 6)) = 0 then sightR σ (nI ((v / 16) % 8)) (nI (((v / 16) / 8) % 12)) (nI (aMk σ (v / 16))) (nI (((v / 16) / 13824) % 6)) (aPh (v / 16)) else σ) (if fTell σ (nI ((v / 16) % 8)) (nI (((v / 16) / 8) % 12)) (nI (aMk σ (v / 16))) (nI (((v / 16) / 13824) % 6)) = 0 then hiN n else n) fl tx ln) H := hP
        have hD : va_D A (fQ cy x a tr s0 s1 pa q (if fTell σ (nI ((v / 16) % 8)) (nI (((v / 16) / 8) % 12)) (nI (aMk σ (v / 16))) (nI (((v / 16) / 13824) % 6)) = 0 then sightR σ (nI ((v / 16) % 8)) (nI (((v / 16) / 8) % 12)) (nI (aMk σ (v / 16))) (nI (((v / 16) / 13824) % 6)) (aPh (v / 16)) else σ) (if fTell σ (nI ((v / 16) % 8)) (nI (((v / 16) / 8) % 12)) (nI (aMk σ (v / 16))) (nI (((v / 16) / 13824) % 6)) = 0 then hiN n else n) fl tx ln) := hD
        show W _ _ _ _ _ _ _ _ _ _ _ _ _ _ _ (F0 mX 207 ls [.int (an (fTell σ (nI ((v / 16) % 8)) (nI (((v / 16) / 8) % 12)) (nI (aMk σ (v / 16))) (nI (((v / 16) / 13824) % 6))) (nI (sightA σ (nI ((v / 16) % 8)) (nI (((v / 16) / 8) % 12)) (nI (aMk σ (v / 16))) (nI (((v / 16) / 13824) % 6)))))])
        exact W.widen (by omega) (by omega) (wr_i q (by show some (Value.int (acV v σ n K fl)) = _; unfold acV; rw [if_neg (show ¬ v % 16 < 2 by omega), if_pos (show v % 16 < 7 by omega)]) (by unfold acS; rw [if_neg (show ¬ v % 16 < 2 by omega), if_pos (show v % 16 < 7 by omega)]; exact fI_mono (c := bd + 99) hI (by split <;> omega) hbd) (by unfold acS; rw [if_neg (show ¬ v % 16 < 2 by omega), if_pos (show v % 16 < 7 by omega)]; exact hP) hS hx hb hr dL_act_207 hlk)
      · skip
        refine lv_iload_n hx hb dL_act_190 rfl (lv_at hl 2 rfl) ?_
        refine lv_ldc hx hb hown (hts _ wd9_8) dL_act_191 ?_
        refine ti (show (82944 : Int32) = nI 82944 from by decide) ?_
        refine lv_idiv hx hb dL_act_193 (nI_ne0 (by omega) (by omega)) ?_
        refine ti (pk_div (a := (v / 16)) (d := 82944) (by omega) (by omega) (by omega)) ?_
        refine lv_iconst (v := (nI 2)) hx hb dL_act_194 (by decide) ?_
        refine lv_irem hx hb dL_act_195 (nI_ne0 (by omega) (by omega)) ?_
        refine ti (pk_rem (a := ((v / 16) / 82944)) (d := 2) (by omega) (by omega) (by omega)) ?_
        refine lv_if_ne (tgt := 203) hx hb dL_act_196 (by decide) (fun c_196 => ?_) (fun c_196 => ?_)
        · have c_196 := (nz_ne c_196 (by omega))
          refine lv_iconst (v := (nI 0)) hx hb dL_act_203 (by decide) ?_
          exact jn204 _ (by simp [aPh, c_196, bI, nI_0, nI_o])
        · have c_196 := (nz_eq c_196 (by omega))
          refine lv_iconst (v := (nI 1)) hx hb dL_act_199 (by decide) ?_
          refine lv_goto (tgt := 204) hx hb dL_act_200 (by decide) ?_
          exact jn204 _ (by simp [aPh, c_196, bI, nI_0, nI_o])
    · skip
      refine lv_iload_n hx hb dL_act_157 rfl (lv_at hl 2 rfl) ?_
      refine lv_sipush (v := (nI 576)) hx hb dL_act_158 (by decide) ?_
      refine lv_idiv hx hb dL_act_161 (nI_ne0 (by omega) (by omega)) ?_
      refine ti (pk_div (a := (v / 16)) (d := 576) (by omega) (by omega) (by omega)) ?_
      refine lv_iconst (v := (nI 3)) hx hb dL_act_162 (by decide) ?_
      refine lv_irem hx hb dL_act_163 (nI_ne0 (by omega) (by omega)) ?_
      refine ti (pk_rem (a := ((v / 16) / 576)) (d := 3) (by omega) (by omega) (by omega)) ?_
      refine lv_if_ne (tgt := 180) hx hb dL_act_164 (by decide) (fun c_164 => ?_) (fun c_164 => ?_)
      · have c_164 := (nz_ne c_164 (by omega))
        refine lv_iconst (v := (nI 0)) hx hb dL_act_180 (by decide) ?_
        exact jn181 _ (by rw [if_neg c_164])
      · have c_164 := (nz_eq c_164 (by omega))
        refine lv_iconst (v := (nI 1)) hx hb dL_act_167 (by decide) ?_
        refine lv_iload_n hx hb dL_act_168 rfl (lv_at hl 2 rfl) ?_
        refine lv_sipush (v := (nI 1728)) hx hb dL_act_169 (by decide) ?_
        refine lv_idiv hx hb dL_act_172 (nI_ne0 (by omega) (by omega)) ?_
        refine ti (pk_div (a := (v / 16)) (d := 1728) (by omega) (by omega) (by omega)) ?_
        refine lv_bipush (v := (nI 8)) hx hb dL_act_173 (by decide) ?_
        refine lv_irem hx hb dL_act_175 (nI_ne0 (by omega) (by omega)) ?_
        refine ti (pk_rem (a := ((v / 16) / 1728)) (d := 8) (by omega) (by omega) (by omega)) ?_
        refine lv_ishl hx hb dL_act_176 ?_
        refine ti (nb_shl (k := (((v / 16) / 1728) % 8)) (by omega)) ?_
        refine lv_goto (tgt := 181) hx hb dL_act_177 (by decide) ?_
        exact jn181 _ (by rw [if_pos c_164])
  · refine lv_tableIn (tgt := 132) (off := 108) hx hb dL_act_24 (by decide) (by decide) (by decide) (by decide) ?_
    refine lv_aload_n hx hb dL_act_132 rfl (lv_at hl 3 rfl) ?_
    refine lv_iload_n hx hb dL_act_133 rfl (lv_at hl 2 rfl) ?_
    refine lv_bipush (v := (nI 8)) hx hb dL_act_134 (by decide) ?_
    refine lv_irem hx hb dL_act_136 (nI_ne0 (by omega) (by omega)) ?_
    refine ti (pk_rem (a := (v / 16)) (d := 8) (by omega) (by omega) (by omega)) ?_
    refine lv_iload_n hx hb dL_act_137 rfl (lv_at hl 2 rfl) ?_
    refine lv_bipush (v := (nI 8)) hx hb dL_act_138 (by decide) ?_
    refine lv_idiv hx hb dL_act_140 (nI_ne0 (by omega) (by omega)) ?_
    refine ti (pk_div (a := (v / 16)) (d := 8) (by omega) (by omega) (by omega)) ?_
    refine lv_bipush (v := (nI 12)) hx hb dL_act_141 (by decide) ?_
    refine lv_irem hx hb dL_act_143 (nI_ne0 (by omega) (by omega)) ?_
    refine ti (pk_rem (a := ((v / 16) / 8)) (d := 12) (by omega) (by omega) (by omega)) ?_
    refine lv_aload_n hx hb dL_act_144 rfl (lv_at hl 3 rfl) ?_
    refine lv_iconst (v := (nI 3)) hx hb dL_act_145 (by decide) ?_
    refine lv_iload_n hx hb dL_act_146 rfl (lv_at hl 2 rfl) ?_
    refine lv_bipush (v := (nI 96)) hx hb dL_act_147 (by decide) ?_
    refine lv_idiv hx hb dL_act_149 (nI_ne0 (by omega) (by omega)) ?_
    refine ti (pk_div (a := (v / 16)) (d := 96) (by omega) (by omega) (by omega)) ?_
    refine lv_iload_n hx hb dL_act_150 rfl (lv_at hl 1 rfl) ?_
    refine lv_irem hx hb dL_act_151 (nI_ne0 (by omega) (by omega)) ?_
    refine ti (pk_rem (a := ((v / 16) / 96)) (d := (σ 0)) (by omega) (by omega) (by omega)) ?_
    refine lv_iconst (v := (nI 0)) hx hb dL_act_152 (by decide) ?_
    refine lv_iconst (v := (nI 0)) hx hb dL_act_153 (by decide) ?_
    refine wr_callS (pre := []) (wc := fQ cy x a tr s0 s1 pa q σ n fl tx ln) (va_runS (As := [.ref (x 0), .int (nI 3), .int (nI (((v / 16) / 96) % (σ 0))), .int (nI 0), .int (nI 0)]) (rest := [.int (nI (((v / 16) / 8) % 12)), .int (nI ((v / 16) % 8)), .ref (x 0)]) ⟨hx, hb, hml, hown, hts⟩ (c_L_call_3 l hfl g cy x a tr s0 s1 pa H.size bd q σ Hh n K fl tx ln (nI (((v / 16) / 96) % (σ 0))) (nI 0) (nI 0) hI ) ⟨(cB 5 hts wd9_11 wd5_14 wd9_9 rfl rfl (by decide +kernel) ⟨Nat.le_of_ble_eq_true rfl, Nat.le_of_ble_eq_true rfl⟩), hts _ wd9_10⟩ (ps2 (ws := [] ++ fQ cy x a tr s0 s1 pa q σ n fl tx ln) hK hP hD hS hA hX hY _ nd_suffix at_suffix) rfl rfl hl.1 rfl (lv_room (Nat.le_of_ble_eq_true rfl)) dL_act_154 ⟨by show _ ≤ 10; omega, by show _ ≤ 60; omega⟩) hP hD hS hA (fun _ => fQ_ad) (fun q H locs hI hP hD hS => ?_)
    have hP : va_P g vwCl (fQ cy x a tr s0 s1 pa q σ n fl tx ln) H := hP
    have hD : va_D A (fQ cy x a tr s0 s1 pa q σ n fl tx ln) := hD
    refine ti (show an (fDog σ (nI (((v / 16) / 96) % (σ 0))) (nI 0)) (nI (ndg σ (nI (((v / 16) / 96) % (σ 0))).toNatClampNeg (nI 0).toNatClampNeg)) = (nI (dg σ (((v / 16) / 96) % (σ 0)) 0)) from (v_dg (w := 0) hn0 (Nat.mod_lt _ (by omega)) (by decide))) ?_
    show W _ _ _ _ _ _ _ _ _ _ _ _ _ _ _ (F0 mX 157 ls [.int (nI (dg σ (((v / 16) / 96) % (σ 0)) 0)), .int (nI (((v / 16) / 8) % 12)), .int (nI ((v / 16) % 8)), .ref (x 0)])
    refine jn_i (pcj := 181) (ls := ls) (st := [.int (nI (dg σ (((v / 16) / 96) % (σ 0)) 0)), .int (nI (((v / 16) / 8) % 12)), .int (nI ((v / 16) % 8)), .ref (x 0)]) (fun v9 => v9 = (nI (if ((v / 16) / 576) % 3 = 0 then 2 ^ (((v / 16) / 1728) % 8) else 0))) ?_ (fun jn181 => ?_)
    · intro v9 hv9
      subst hv9
      refine lv_ixor hx hb dL_act_181 ?_
      refine ti (nx_xor (dg σ (((v / 16) / 96) % (σ 0)) 0) (if ((v / 16) / 576) % 3 = 0 then 2 ^ (((v / 16) / 1728) % 8) else 0)) ?_
      refine ti (show (nI ((dg σ (((v / 16) / 96) % (σ 0)) 0) ^^^ (if ((v / 16) / 576) % 3 = 0 then 2 ^ (((v / 16) / 1728) % 8) else 0))) = (nI (aMk σ (v / 16))) from rfl) ?_
      refine lv_iload_n hx hb dL_act_182 rfl (lv_at hl 2 rfl) ?_
      refine lv_sipush (v := (nI 13824)) hx hb dL_act_183 (by decide) ?_
      refine lv_idiv hx hb dL_act_186 (nI_ne0 (by omega) (by omega)) ?_
      refine ti (pk_div (a := (v / 16)) (d := 13824) (by omega) (by omega) (by omega)) ?_
      refine lv_bipush (v := (nI 6)) hx hb dL_act_187 (by decide) ?_
      refine lv_irem hx hb dL_act_189 (nI_ne0 (by omega) (by omega)) ?_
      refine ti (pk_rem (a := ((v / 16) / 13824)) (d := 6) (by omega) (by omega) (by omega)) ?_
      refine jn_i (pcj := 204) (ls := ls) (st := [.int (nI (((v / 16) / 13824) % 6)), .int (nI (aMk σ (v / 16))), .int (nI (((v / 16) / 8) % 12)), .int (nI ((v / 16) % 8)), .ref (x 0)]) (fun v9 => v9 = (bI (aPh (v / 16)))) ?_ (fun jn204 => ?_)
      · intro v9 hv9
        subst hv9
        refine wr_callS (pre := []) (wc := fQ cy x a tr s0 s1 pa q σ n fl tx ln) (vx_runSW (hh := [(0, 11, 12, 13), (0, 11, 17, 16), (0, 11, 22, 19)]) (As := [.ref (x 0), .int (nI ((v / 16) % 8)), .int (nI (((v / 16) / 8) % 12)), .int (nI (aMk σ (v / 16))), .int (nI (((v / 16) / 13824) % 6)), .int (bI (aPh (v / 16)))]) (rest := []) ⟨hx, hb, hml, hown, hts⟩ (c_L_sights l hfl g cy x a tr s0 s1 pa H.size bd q σ Hh n K fl tx ln (nI ((v / 16) % 8)) (nI (((v / 16) / 8) % 12)) (nI (aMk σ (v / 16))) (nI (((v / 16) / 13824) % 6)) (aPh (v / 16)) hI ) (vx_cwSW 6 hts (hl_in wd25_15 wd5_14 wd25_13 wd25_14) rfl rfl rfl (by decide +kernel) ⟨Nat.le_of_ble_eq_true rfl, Nat.le_of_ble_eq_true rfl⟩) (ps2 (ws := [] ++ fQ cy x a tr s0 s1 pa q σ n fl tx ln) hK hP hD hS hA hX hY _ nd_suffix at_suffix) rfl rfl hl.1 rfl (lv_room (Nat.le_of_ble_eq_true rfl)) dL_act_204 ⟨by show _ ≤ 10; omega, by show _ ≤ 60; omega⟩) hP hD hS hA (fun _ => fQ_ad) (fun q H locs hI hP hD hS => ?_)
        have hP : va_P g vwCl (fQ cy x a tr s0 s1 pa q (if fTell σ (nI ((v / 16) % 8)) (nI (((v / 16) / 8) % 12)) (nI (aMk σ (v / 16))) (nI (((v / 16) / 13824) % 6)) = 0 then sightR σ (nI ((v / 16) % 8)) (nI (((v / 16) / 8) % 12)) (nI (aMk σ (v / 16))) (nI (((v / 16) / 13824) % 6)) (aPh (v / 16)) else σ) (if fTell σ (nI ((v / 16) % 8)) (nI (((v / 16) / 8) % 12)) (nI (aMk σ (v / 16))) (nI (((v / 16) / 13824) % 6)) = 0 then hiN n else n) fl tx ln) H := hP
        have hD : va_D A (fQ cy x a tr s0 s1 pa q (if fTell σ (nI ((v / 16) % 8)) (nI (((v / 16) / 8) % 12)) (nI (aMk σ (v / 16))) (nI (((v / 16) / 13824) % 6)) = 0 then sightR σ (nI ((v / 16) % 8)) (nI (((v / 16) / 8) % 12)) (nI (aMk σ (v / 16))) (nI (((v / 16) / 13824) % 6)) (aPh (v / 16)) else σ) (if fTell σ (nI ((v / 16) % 8)) (nI (((v / 16) / 8) % 12)) (nI (aMk σ (v / 16))) (nI (((v / 16) / 13824) % 6)) = 0 then hiN n else n) fl tx ln) := hD
        show W _ _ _ _ _ _ _ _ _ _ _ _ _ _ _ (F0 mX 207 ls [.int (an (fTell σ (nI ((v / 16) % 8)) (nI (((v / 16) / 8) % 12)) (nI (aMk σ (v / 16))) (nI (((v / 16) / 13824) % 6))) (nI (sightA σ (nI ((v / 16) % 8)) (nI (((v / 16) / 8) % 12)) (nI (aMk σ (v / 16))) (nI (((v / 16) / 13824) % 6)))))])
        exact W.widen (by omega) (by omega) (wr_i q (by show some (Value.int (acV v σ n K fl)) = _; unfold acV; rw [if_neg (show ¬ v % 16 < 2 by omega), if_pos (show v % 16 < 7 by omega)]) (by unfold acS; rw [if_neg (show ¬ v % 16 < 2 by omega), if_pos (show v % 16 < 7 by omega)]; exact fI_mono (c := bd + 99) hI (by split <;> omega) hbd) (by unfold acS; rw [if_neg (show ¬ v % 16 < 2 by omega), if_pos (show v % 16 < 7 by omega)]; exact hP) hS hx hb hr dL_act_207 hlk)
      · skip
        refine lv_iload_n hx hb dL_act_190 rfl (lv_at hl 2 rfl) ?_
        refine lv_ldc hx hb hown (hts _ wd9_8) dL_act_191 ?_
        refine ti (show (82944 : Int32) = nI 82944 from by decide) ?_
        refine lv_idiv hx hb dL_act_193 (nI_ne0 (by omega) (by omega)) ?_
        refine ti (pk_div (a := (v / 16)) (d := 82944) (by omega) (by omega) (by omega)) ?_
        refine lv_iconst (v := (nI 2)) hx hb dL_act_194 (by decide) ?_
        refine lv_irem hx hb dL_act_195 (nI_ne0 (by omega) (by omega)) ?_
        refine ti (pk_rem (a := ((v / 16) / 82944)) (d := 2) (by omega) (by omega) (by omega)) ?_
        refine lv_if_ne (tgt := 203) hx hb dL_act_196 (by decide) (fun c_196 => ?_) (fun c_196 => ?_)
        · have c_196 := (nz_ne c_196 (by omega))
          refine lv_iconst (v := (nI 0)) hx hb dL_act_203 (by decide) ?_
          exact jn204 _ (by simp [aPh, c_196, bI, nI_0, nI_o])
        · have c_196 := (nz_eq c_196 (by omega))
          refine lv_iconst (v := (nI 1)) hx hb dL_act_199 (by decide) ?_
          refine lv_goto (tgt := 204) hx hb dL_act_200 (by decide) ?_
          exact jn204 _ (by simp [aPh, c_196, bI, nI_0, nI_o])
    · skip
      refine lv_iload_n hx hb dL_act_157 rfl (lv_at hl 2 rfl) ?_
      refine lv_sipush (v := (nI 576)) hx hb dL_act_158 (by decide) ?_
      refine lv_idiv hx hb dL_act_161 (nI_ne0 (by omega) (by omega)) ?_
      refine ti (pk_div (a := (v / 16)) (d := 576) (by omega) (by omega) (by omega)) ?_
      refine lv_iconst (v := (nI 3)) hx hb dL_act_162 (by decide) ?_
      refine lv_irem hx hb dL_act_163 (nI_ne0 (by omega) (by omega)) ?_
      refine ti (pk_rem (a := ((v / 16) / 576)) (d := 3) (by omega) (by omega) (by omega)) ?_
      refine lv_if_ne (tgt := 180) hx hb dL_act_164 (by decide) (fun c_164 => ?_) (fun c_164 => ?_)
      · have c_164 := (nz_ne c_164 (by omega))
        refine lv_iconst (v := (nI 0)) hx hb dL_act_180 (by decide) ?_
        exact jn181 _ (by rw [if_neg c_164])
      · have c_164 := (nz_eq c_164 (by omega))
        refine lv_iconst (v := (nI 1)) hx hb dL_act_167 (by decide) ?_
        refine lv_iload_n hx hb dL_act_168 rfl (lv_at hl 2 rfl) ?_
        refine lv_sipush (v := (nI 1728)) hx hb dL_act_169 (by decide) ?_
        refine lv_idiv hx hb dL_act_172 (nI_ne0 (by omega) (by omega)) ?_
        refine ti (pk_div (a := (v / 16)) (d := 1728) (by omega) (by omega) (by omega)) ?_
        refine lv_bipush (v := (nI 8)) hx hb dL_act_173 (by decide) ?_
        refine lv_irem hx hb dL_act_175 (nI_ne0 (by omega) (by omega)) ?_
        refine ti (pk_rem (a := ((v / 16) / 1728)) (d := 8) (by omega) (by omega) (by omega)) ?_
        refine lv_ishl hx hb dL_act_176 ?_
        refine ti (nb_shl (k := (((v / 16) / 1728) % 8)) (by omega)) ?_
        refine lv_goto (tgt := 181) hx hb dL_act_177 (by decide) ?_
        exact jn181 _ (by rw [if_pos c_164])
  · refine lv_tableIn (tgt := 132) (off := 108) hx hb dL_act_24 (by decide) (by decide) (by decide) (by decide) ?_
    refine lv_aload_n hx hb dL_act_132 rfl (lv_at hl 3 rfl) ?_
    refine lv_iload_n hx hb dL_act_133 rfl (lv_at hl 2 rfl) ?_
    refine lv_bipush (v := (nI 8)) hx hb dL_act_134 (by decide) ?_
    refine lv_irem hx hb dL_act_136 (nI_ne0 (by omega) (by omega)) ?_
    refine ti (pk_rem (a := (v / 16)) (d := 8) (by omega) (by omega) (by omega)) ?_
    refine lv_iload_n hx hb dL_act_137 rfl (lv_at hl 2 rfl) ?_
    refine lv_bipush (v := (nI 8)) hx hb dL_act_138 (by decide) ?_
    refine lv_idiv hx hb dL_act_140 (nI_ne0 (by omega) (by omega)) ?_
    refine ti (pk_div (a := (v / 16)) (d := 8) (by omega) (by omega) (by omega)) ?_
    refine lv_bipush (v := (nI 12)) hx hb dL_act_141 (by decide) ?_
    refine lv_irem hx hb dL_act_143 (nI_ne0 (by omega) (by omega)) ?_
    refine ti (pk_rem (a := ((v / 16) / 8)) (d := 12) (by omega) (by omega) (by omega)) ?_
    refine lv_aload_n hx hb dL_act_144 rfl (lv_at hl 3 rfl) ?_
    refine lv_iconst (v := (nI 3)) hx hb dL_act_145 (by decide) ?_
    refine lv_iload_n hx hb dL_act_146 rfl (lv_at hl 2 rfl) ?_
    refine lv_bipush (v := (nI 96)) hx hb dL_act_147 (by decide) ?_
    refine lv_idiv hx hb dL_act_149 (nI_ne0 (by omega) (by omega)) ?_
    refine ti (pk_div (a := (v / 16)) (d := 96) (by omega) (by omega) (by omega)) ?_
    refine lv_iload_n hx hb dL_act_150 rfl (lv_at hl 1 rfl) ?_
    refine lv_irem hx hb dL_act_151 (nI_ne0 (by omega) (by omega)) ?_
    refine ti (pk_rem (a := ((v / 16) / 96)) (d := (σ 0)) (by omega) (by omega) (by omega)) ?_
    refine lv_iconst (v := (nI 0)) hx hb dL_act_152 (by decide) ?_
    refine lv_iconst (v := (nI 0)) hx hb dL_act_153 (by decide) ?_
    refine wr_callS (pre := []) (wc := fQ cy x a tr s0 s1 pa q σ n fl tx ln) (va_runS (As := [.ref (x 0), .int (nI 3), .int (nI (((v / 16) / 96) % (σ 0))), .int (nI 0), .int (nI 0)]) (rest := [.int (nI (((v / 16) / 8) % 12)), .int (nI ((v / 16) % 8)), .ref (x 0)]) ⟨hx, hb, hml, hown, hts⟩ (c_L_call_3 l hfl g cy x a tr s0 s1 pa H.size bd q σ Hh n K fl tx ln (nI (((v / 16) / 96) % (σ 0))) (nI 0) (nI 0) hI ) ⟨(cB 5 hts wd9_11 wd5_14 wd9_9 rfl rfl (by decide +kernel) ⟨Nat.le_of_ble_eq_true rfl, Nat.le_of_ble_eq_true rfl⟩), hts _ wd9_10⟩ (ps2 (ws := [] ++ fQ cy x a tr s0 s1 pa q σ n fl tx ln) hK hP hD hS hA hX hY _ nd_suffix at_suffix) rfl rfl hl.1 rfl (lv_room (Nat.le_of_ble_eq_true rfl)) dL_act_154 ⟨by show _ ≤ 10; omega, by show _ ≤ 60; omega⟩) hP hD hS hA (fun _ => fQ_ad) (fun q H locs hI hP hD hS => ?_)
    have hP : va_P g vwCl (fQ cy x a tr s0 s1 pa q σ n fl tx ln) H := hP
    have hD : va_D A (fQ cy x a tr s0 s1 pa q σ n fl tx ln) := hD
    refine ti (show an (fDog σ (nI (((v / 16) / 96) % (σ 0))) (nI 0)) (nI (ndg σ (nI (((v / 16) / 96) % (σ 0))).toNatClampNeg (nI 0).toNatClampNeg)) = (nI (dg σ (((v / 16) / 96) % (σ 0)) 0)) from (v_dg (w := 0) hn0 (Nat.mod_lt _ (by omega)) (by decide))) ?_
    show W _ _ _ _ _ _ _ _ _ _ _ _ _ _ _ (F0 mX 157 ls [.int (nI (dg σ (((v / 16) / 96) % (σ 0)) 0)), .int (nI (((v / 16) / 8) % 12)), .int (nI ((v / 16) % 8)), .ref (x 0)])
    refine jn_i (pcj := 181) (ls := ls) (st := [.int (nI (dg σ (((v / 16) / 96) % (σ 0)) 0)), .int (nI (((v / 16) / 8) % 12)), .int (nI ((v / 16) % 8)), .ref (x 0)]) (fun v9 => v9 = (nI (if ((v / 16) / 576) % 3 = 0 then 2 ^ (((v / 16) / 1728) % 8) else 0))) ?_ (fun jn181 => ?_)
    · intro v9 hv9
      subst hv9
      refine lv_ixor hx hb dL_act_181 ?_
      refine ti (nx_xor (dg σ (((v / 16) / 96) % (σ 0)) 0) (if ((v / 16) / 576) % 3 = 0 then 2 ^ (((v / 16) / 1728) % 8) else 0)) ?_
      refine ti (show (nI ((dg σ (((v / 16) / 96) % (σ 0)) 0) ^^^ (if ((v / 16) / 576) % 3 = 0 then 2 ^ (((v / 16) / 1728) % 8) else 0))) = (nI (aMk σ (v / 16))) from rfl) ?_
      refine lv_iload_n hx hb dL_act_182 rfl (lv_at hl 2 rfl) ?_
      refine lv_sipush (v := (nI 13824)) hx hb dL_act_183 (by decide) ?_
      refine lv_idiv hx hb dL_act_186 (nI_ne0 (by omega) (by omega)) ?_
      refine ti (pk_div (a := (v / 16)) (d := 13824) (by omega) (by omega) (by omega)) ?_
      refine lv_bipush (v := (nI 6)) hx hb dL_act_187 (by decide) ?_
      refine lv_irem hx hb dL_act_189 (nI_ne0 (by omega) (by omega)) ?_
      refine ti (pk_rem (a := ((v / 16) / 13824)) (d := 6) (by omega) (by omega) (by omega)) ?_
      refine jn_i (pcj := 204) (ls := ls) (st := [.int (nI (((v / 16) / 13824) % 6)), .int (nI (aMk σ (v / 16))), .int (nI (((v / 16) / 8) % 12)), .int (nI ((v / 16) % 8)), .ref (x 0)]) (fun v9 => v9 = (bI (aPh (v / 16)))) ?_ (fun jn204 => ?_)
      · intro v9 hv9
        subst hv9
        refine wr_callS (pre := []) (wc := fQ cy x a tr s0 s1 pa q σ n fl tx ln) (vx_runSW (hh := [(0, 11, 12, 13), (0, 11, 17, 16), (0, 11, 22, 19)]) (As := [.ref (x 0), .int (nI ((v / 16) % 8)), .int (nI (((v / 16) / 8) % 12)), .int (nI (aMk σ (v / 16))), .int (nI (((v / 16) / 13824) % 6)), .int (bI (aPh (v / 16)))]) (rest := []) ⟨hx, hb, hml, hown, hts⟩ (c_L_sights l hfl g cy x a tr s0 s1 pa H.size bd q σ Hh n K fl tx ln (nI ((v / 16) % 8)) (nI (((v / 16) / 8) % 12)) (nI (aMk σ (v / 16))) (nI (((v / 16) / 13824) % 6)) (aPh (v / 16)) hI ) (vx_cwSW 6 hts (hl_in wd25_15 wd5_14 wd25_13 wd25_14) rfl rfl rfl (by decide +kernel) ⟨Nat.le_of_ble_eq_true rfl, Nat.le_of_ble_eq_true rfl⟩) (ps2 (ws := [] ++ fQ cy x a tr s0 s1 pa q σ n fl tx ln) hK hP hD hS hA hX hY _ nd_suffix at_suffix) rfl rfl hl.1 rfl (lv_room (Nat.le_of_ble_eq_true rfl)) dL_act_204 ⟨by show _ ≤ 10; omega, by show _ ≤ 60; omega⟩) hP hD hS hA (fun _ => fQ_ad) (fun q H locs hI hP hD hS => ?_)
        have hP : va_P g vwCl (fQ cy x a tr s0 s1 pa q (if fTell σ (nI ((v / 16) % 8)) (nI (((v / 16) / 8) % 12)) (nI (aMk σ (v / 16))) (nI (((v / 16) / 13824) % 6)) = 0 then sightR σ (nI ((v / 16) % 8)) (nI (((v / 16) / 8) % 12)) (nI (aMk σ (v / 16))) (nI (((v / 16) / 13824) % 6)) (aPh (v / 16)) else σ) (if fTell σ (nI ((v / 16) % 8)) (nI (((v / 16) / 8) % 12)) (nI (aMk σ (v / 16))) (nI (((v / 16) / 13824) % 6)) = 0 then hiN n else n) fl tx ln) H := hP
        have hD : va_D A (fQ cy x a tr s0 s1 pa q (if fTell σ (nI ((v / 16) % 8)) (nI (((v / 16) / 8) % 12)) (nI (aMk σ (v / 16))) (nI (((v / 16) / 13824) % 6)) = 0 then sightR σ (nI ((v / 16) % 8)) (nI (((v / 16) / 8) % 12)) (nI (aMk σ (v / 16))) (nI (((v / 16) / 13824) % 6)) (aPh (v / 16)) else σ) (if fTell σ (nI ((v / 16) % 8)) (nI (((v / 16) / 8) % 12)) (nI (aMk σ (v / 16))) (nI (((v / 16) / 13824) % 6)) = 0 then hiN n else n) fl tx ln) := hD
        show W _ _ _ _ _ _ _ _ _ _ _ _ _ _ _ (F0 mX 207 ls [.int (an (fTell σ (nI ((v / 16) % 8)) (nI (((v / 16) / 8) % 12)) (nI (aMk σ (v / 16))) (nI (((v / 16) / 13824) % 6))) (nI (sightA σ (nI ((v / 16) % 8)) (nI (((v / 16) / 8) % 12)) (nI (aMk σ (v / 16))) (nI (((v / 16) / 13824) % 6)))))])
        exact W.widen (by omega) (by omega) (wr_i q (by show some (Value.int (acV v σ n K fl)) = _; unfold acV; rw [if_neg (show ¬ v % 16 < 2 by omega), if_pos (show v % 16 < 7 by omega)]) (by unfold acS; rw [if_neg (show ¬ v % 16 < 2 by omega), if_pos (show v % 16 < 7 by omega)]; exact fI_mono (c := bd + 99) hI (by split <;> omega) hbd) (by unfold acS; rw [if_neg (show ¬ v % 16 < 2 by omega), if_pos (show v % 16 < 7 by omega)]; exact hP) hS hx hb hr dL_act_207 hlk)
      · skip
        refine lv_iload_n hx hb dL_act_190 rfl (lv_at hl 2 rfl) ?_
        refine lv_ldc hx hb hown (hts _ wd9_8) dL_act_191 ?_
        refine ti (show (82944 : Int32) = nI 82944 from by decide) ?_
        refine lv_idiv hx hb dL_act_193 (nI_ne0 (by omega) (by omega)) ?_
        refine ti (pk_div (a := (v / 16)) (d := 82944) (by omega) (by omega) (by omega)) ?_
        refine lv_iconst (v := (nI 2)) hx hb dL_act_194 (by decide) ?_
        refine lv_irem hx hb dL_act_195 (nI_ne0 (by omega) (by omega)) ?_
        refine ti (pk_rem (a := ((v / 16) / 82944)) (d := 2) (by omega) (by omega) (by omega)) ?_
        refine lv_if_ne (tgt := 203) hx hb dL_act_196 (by decide) (fun c_196 => ?_) (fun c_196 => ?_)
        · have c_196 := (nz_ne c_196 (by omega))
          refine lv_iconst (v := (nI 0)) hx hb dL_act_203 (by decide) ?_
          exact jn204 _ (by simp [aPh, c_196, bI, nI_0, nI_o])
        · have c_196 := (nz_eq c_196 (by omega))
          refine lv_iconst (v := (nI 1)) hx hb dL_act_199 (by decide) ?_
          refine lv_goto (tgt := 204) hx hb dL_act_200 (by decide) ?_
          exact jn204 _ (by simp [aPh, c_196, bI, nI_0, nI_o])
    · skip
      refine lv_iload_n hx hb dL_act_157 rfl (lv_at hl 2 rfl) ?_
      refine lv_sipush (v := (nI 576)) hx hb dL_act_158 (by decide) ?_
      refine lv_idiv hx hb dL_act_161 (nI_ne0 (by omega) (by omega)) ?_
      refine ti (pk_div (a := (v / 16)) (d := 576) (by omega) (by omega) (by omega)) ?_
      refine lv_iconst (v := (nI 3)) hx hb dL_act_162 (by decide) ?_
      refine lv_irem hx hb dL_act_163 (nI_ne0 (by omega) (by omega)) ?_
      refine ti (pk_rem (a := ((v / 16) / 576)) (d := 3) (by omega) (by omega) (by omega)) ?_
      refine lv_if_ne (tgt := 180) hx hb dL_act_164 (by decide) (fun c_164 => ?_) (fun c_164 => ?_)
      · have c_164 := (nz_ne c_164 (by omega))
        refine lv_iconst (v := (nI 0)) hx hb dL_act_180 (by decide) ?_
        exact jn181 _ (by rw [if_neg c_164])
      · have c_164 := (nz_eq c_164 (by omega))
        refine lv_iconst (v := (nI 1)) hx hb dL_act_167 (by decide) ?_
        refine lv_iload_n hx hb dL_act_168 rfl (lv_at hl 2 rfl) ?_
        refine lv_sipush (v := (nI 1728)) hx hb dL_act_169 (by decide) ?_
        refine lv_idiv hx hb dL_act_172 (nI_ne0 (by omega) (by omega)) ?_
        refine ti (pk_div (a := (v / 16)) (d := 1728) (by omega) (by omega) (by omega)) ?_
        refine lv_bipush (v := (nI 8)) hx hb dL_act_173 (by decide) ?_
        refine lv_irem hx hb dL_act_175 (nI_ne0 (by omega) (by omega)) ?_
        refine ti (pk_rem (a := ((v / 16) / 1728)) (d := 8) (by omega) (by omega) (by omega)) ?_
        refine lv_ishl hx hb dL_act_176 ?_
        refine ti (nb_shl (k := (((v / 16) / 1728) % 8)) (by omega)) ?_
        refine lv_goto (tgt := 181) hx hb dL_act_177 (by decide) ?_
        exact jn181 _ (by rw [if_pos c_164])
  · refine lv_tableIn (tgt := 132) (off := 108) hx hb dL_act_24 (by decide) (by decide) (by decide) (by decide) ?_
    refine lv_aload_n hx hb dL_act_132 rfl (lv_at hl 3 rfl) ?_
    refine lv_iload_n hx hb dL_act_133 rfl (lv_at hl 2 rfl) ?_
    refine lv_bipush (v := (nI 8)) hx hb dL_act_134 (by decide) ?_
    refine lv_irem hx hb dL_act_136 (nI_ne0 (by omega) (by omega)) ?_
    refine ti (pk_rem (a := (v / 16)) (d := 8) (by omega) (by omega) (by omega)) ?_
    refine lv_iload_n hx hb dL_act_137 rfl (lv_at hl 2 rfl) ?_
    refine lv_bipush (v := (nI 8)) hx hb dL_act_138 (by decide) ?_
    refine lv_idiv hx hb dL_act_140 (nI_ne0 (by omega) (by omega)) ?_
    refine ti (pk_div (a := (v / 16)) (d := 8) (by omega) (by omega) (by omega)) ?_
    refine lv_bipush (v := (nI 12)) hx hb dL_act_141 (by decide) ?_
    refine lv_irem hx hb dL_act_143 (nI_ne0 (by omega) (by omega)) ?_
    refine ti (pk_rem (a := ((v / 16) / 8)) (d := 12) (by omega) (by omega) (by omega)) ?_
    refine lv_aload_n hx hb dL_act_144 rfl (lv_at hl 3 rfl) ?_
    refine lv_iconst (v := (nI 3)) hx hb dL_act_145 (by decide) ?_
    refine lv_iload_n hx hb dL_act_146 rfl (lv_at hl 2 rfl) ?_
    refine lv_bipush (v := (nI 96)) hx hb dL_act_147 (by decide) ?_
    refine lv_idiv hx hb dL_act_149 (nI_ne0 (by omega) (by omega)) ?_
    refine ti (pk_div (a := (v / 16)) (d := 96) (by omega) (by omega) (by omega)) ?_
    refine lv_iload_n hx hb dL_act_150 rfl (lv_at hl 1 rfl) ?_
    refine lv_irem hx hb dL_act_151 (nI_ne0 (by omega) (by omega)) ?_
    refine ti (pk_rem (a := ((v / 16) / 96)) (d := (σ 0)) (by omega) (by omega) (by omega)) ?_
    refine lv_iconst (v := (nI 0)) hx hb dL_act_152 (by decide) ?_
    refine lv_iconst (v := (nI 0)) hx hb dL_act_153 (by decide) ?_
    refine wr_callS (pre := []) (wc := fQ cy x a tr s0 s1 pa q σ n fl tx ln) (va_runS (As := [.ref (x 0), .int (nI 3), .int (nI (((v / 16) / 96) % (σ 0))), .int (nI 0), .int (nI 0)]) (rest := [.int (nI (((v / 16) / 8) % 12)), .int (nI ((v / 16) % 8)), .ref (x 0)]) ⟨hx, hb, hml, hown, hts⟩ (c_L_call_3 l hfl g cy x a tr s0 s1 pa H.size bd q σ Hh n K fl tx ln (nI (((v / 16) / 96) % (σ 0))) (nI 0) (nI 0) hI ) ⟨(cB 5 hts wd9_11 wd5_14 wd9_9 rfl rfl (by decide +kernel) ⟨Nat.le_of_ble_eq_true rfl, Nat.le_of_ble_eq_true rfl⟩), hts _ wd9_10⟩ (ps2 (ws := [] ++ fQ cy x a tr s0 s1 pa q σ n fl tx ln) hK hP hD hS hA hX hY _ nd_suffix at_suffix) rfl rfl hl.1 rfl (lv_room (Nat.le_of_ble_eq_true rfl)) dL_act_154 ⟨by show _ ≤ 10; omega, by show _ ≤ 60; omega⟩) hP hD hS hA (fun _ => fQ_ad) (fun q H locs hI hP hD hS => ?_)
    have hP : va_P g vwCl (fQ cy x a tr s0 s1 pa q σ n fl tx ln) H := hP
    have hD : va_D A (fQ cy x a tr s0 s1 pa q σ n fl tx ln) := hD
    refine ti (show an (fDog σ (nI (((v / 16) / 96) % (σ 0))) (nI 0)) (nI (ndg σ (nI (((v / 16) / 96) % (σ 0))).toNatClampNeg (nI 0).toNatClampNeg)) = (nI (dg σ (((v / 16) / 96) % (σ 0)) 0)) from (v_dg (w := 0) hn0 (Nat.mod_lt _ (by omega)) (by decide))) ?_
    show W _ _ _ _ _ _ _ _ _ _ _ _ _ _ _ (F0 mX 157 ls [.int (nI (dg σ (((v / 16) / 96) % (σ 0)) 0)), .int (nI (((v / 16) / 8) % 12)), .int (nI ((v / 16) % 8)), .ref (x 0)])
    refine jn_i (pcj := 181) (ls := ls) (st := [.int (nI (dg σ (((v / 16) / 96) % (σ 0)) 0)), .int (nI (((v / 16) / 8) % 12)), .int (nI ((v / 16) % 8)), .ref (x 0)]) (fun v9 => v9 = (nI (if ((v / 16) / 576) % 3 = 0 then 2 ^ (((v / 16) / 1728) % 8) else 0))) ?_ (fun jn181 => ?_)
    · intro v9 hv9
      subst hv9
      refine lv_ixor hx hb dL_act_181 ?_
      refine ti (nx_xor (dg σ (((v / 16) / 96) % (σ 0)) 0) (if ((v / 16) / 576) % 3 = 0 then 2 ^ (((v / 16) / 1728) % 8) else 0)) ?_
      refine ti (show (nI ((dg σ (((v / 16) / 96) % (σ 0)) 0) ^^^ (if ((v / 16) / 576) % 3 = 0 then 2 ^ (((v / 16) / 1728) % 8) else 0))) = (nI (aMk σ (v / 16))) from rfl) ?_
      refine lv_iload_n hx hb dL_act_182 rfl (lv_at hl 2 rfl) ?_
      refine lv_sipush (v := (nI 13824)) hx hb dL_act_183 (by decide) ?_
      refine lv_idiv hx hb dL_act_186 (nI_ne0 (by omega) (by omega)) ?_
      refine ti (pk_div (a := (v / 16)) (d := 13824) (by omega) (by omega) (by omega)) ?_
      refine lv_bipush (v := (nI 6)) hx hb dL_act_187 (by decide) ?_
      refine lv_irem hx hb dL_act_189 (nI_ne0 (by omega) (by omega)) ?_
      refine ti (pk_rem (a := ((v / 16) / 13824)) (d := 6) (by omega) (by omega) (by omega)) ?_
      refine jn_i (pcj := 204) (ls := ls) (st := [.int (nI (((v / 16) / 13824) % 6)), .int (nI (aMk σ (v / 16))), .int (nI (((v / 16) / 8) % 12)), .int (nI ((v / 16) % 8)), .ref (x 0)]) (fun v9 => v9 = (bI (aPh (v / 16)))) ?_ (fun jn204 => ?_)
      · intro v9 hv9
        subst hv9
        refine wr_callS (pre := []) (wc := fQ cy x a tr s0 s1 pa q σ n fl tx ln) (vx_runSW (hh := [(0, 11, 12, 13), (0, 11, 17, 16), (0, 11, 22, 19)]) (As := [.ref (x 0), .int (nI ((v / 16) % 8)), .int (nI (((v / 16) / 8) % 12)), .int (nI (aMk σ (v / 16))), .int (nI (((v / 16) / 13824) % 6)), .int (bI (aPh (v / 16)))]) (rest := []) ⟨hx, hb, hml, hown, hts⟩ (c_L_sights l hfl g cy x a tr s0 s1 pa H.size bd q σ Hh n K fl tx ln (nI ((v / 16) % 8)) (nI (((v / 16) / 8) % 12)) (nI (aMk σ (v / 16))) (nI (((v / 16) / 13824) % 6)) (aPh (v / 16)) hI ) (vx_cwSW 6 hts (hl_in wd25_15 wd5_14 wd25_13 wd25_14) rfl rfl rfl (by decide +kernel) ⟨Nat.le_of_ble_eq_true rfl, Nat.le_of_ble_eq_true rfl⟩) (ps2 (ws := [] ++ fQ cy x a tr s0 s1 pa q σ n fl tx ln) hK hP hD hS hA hX hY _ nd_suffix at_suffix) rfl rfl hl.1 rfl (lv_room (Nat.le_of_ble_eq_true rfl)) dL_act_204 ⟨by show _ ≤ 10; omega, by show _ ≤ 60; omega⟩) hP hD hS hA (fun _ => fQ_ad) (fun q H locs hI hP hD hS => ?_)
        have hP : va_P g vwCl (fQ cy x a tr s0 s1 pa q (if fTell σ (nI ((v / 16) % 8)) (nI (((v / 16) / 8) % 12)) (nI (aMk σ (v / 16))) (nI (((v / 16) / 13824) % 6)) = 0 then sightR σ (nI ((v / 16) % 8)) (nI (((v / 16) / 8) % 12)) (nI (aMk σ (v / 16))) (nI (((v / 16) / 13824) % 6)) (aPh (v / 16)) else σ) (if fTell σ (nI ((v / 16) % 8)) (nI (((v / 16) / 8) % 12)) (nI (aMk σ (v / 16))) (nI (((v / 16) / 13824) % 6)) = 0 then hiN n else n) fl tx ln) H := hP
        have hD : va_D A (fQ cy x a tr s0 s1 pa q (if fTell σ (nI ((v / 16) % 8)) (nI (((v / 16) / 8) % 12)) (nI (aMk σ (v / 16))) (nI (((v / 16) / 13824) % 6)) = 0 then sightR σ (nI ((v / 16) % 8)) (nI (((v / 16) / 8) % 12)) (nI (aMk σ (v / 16))) (nI (((v / 16) / 13824) % 6)) (aPh (v / 16)) else σ) (if fTell σ (nI ((v / 16) % 8)) (nI (((v / 16) / 8) % 12)) (nI (aMk σ (v / 16))) (nI (((v / 16) / 13824) % 6)) = 0 then hiN n else n) fl tx ln) := hD
        show W _ _ _ _ _ _ _ _ _ _ _ _ _ _ _ (F0 mX 207 ls [.int (an (fTell σ (nI ((v / 16) % 8)) (nI (((v / 16) / 8) % 12)) (nI (aMk σ (v / 16))) (nI (((v / 16) / 13824) % 6))) (nI (sightA σ (nI ((v / 16) % 8)) (nI (((v / 16) / 8) % 12)) (nI (aMk σ (v / 16))) (nI (((v / 16) / 13824) % 6)))))])
        exact W.widen (by omega) (by omega) (wr_i q (by show some (Value.int (acV v σ n K fl)) = _; unfold acV; rw [if_neg (show ¬ v % 16 < 2 by omega), if_pos (show v % 16 < 7 by omega)]) (by unfold acS; rw [if_neg (show ¬ v % 16 < 2 by omega), if_pos (show v % 16 < 7 by omega)]; exact fI_mono (c := bd + 99) hI (by split <;> omega) hbd) (by unfold acS; rw [if_neg (show ¬ v % 16 < 2 by omega), if_pos (show v % 16 < 7 by omega)]; exact hP) hS hx hb hr dL_act_207 hlk)
      · skip
        refine lv_iload_n hx hb dL_act_190 rfl (lv_at hl 2 rfl) ?_
        refine lv_ldc hx hb hown (hts _ wd9_8) dL_act_191 ?_
        refine ti (show (82944 : Int32) = nI 82944 from by decide) ?_
        refine lv_idiv hx hb dL_act_193 (nI_ne0 (by omega) (by omega)) ?_
        refine ti (pk_div (a := (v / 16)) (d := 82944) (by omega) (by omega) (by omega)) ?_
        refine lv_iconst (v := (nI 2)) hx hb dL_act_194 (by decide) ?_
        refine lv_irem hx hb dL_act_195 (nI_ne0 (by omega) (by omega)) ?_
        refine ti (pk_rem (a := ((v / 16) / 82944)) (d := 2) (by omega) (by omega) (by omega)) ?_
        refine lv_if_ne (tgt := 203) hx hb dL_act_196 (by decide) (fun c_196 => ?_) (fun c_196 => ?_)
        · have c_196 := (nz_ne c_196 (by omega))
          refine lv_iconst (v := (nI 0)) hx hb dL_act_203 (by decide) ?_
          exact jn204 _ (by simp [aPh, c_196, bI, nI_0, nI_o])
        · have c_196 := (nz_eq c_196 (by omega))
          refine lv_iconst (v := (nI 1)) hx hb dL_act_199 (by decide) ?_
          refine lv_goto (tgt := 204) hx hb dL_act_200 (by decide) ?_
          exact jn204 _ (by simp [aPh, c_196, bI, nI_0, nI_o])
    · skip
      refine lv_iload_n hx hb dL_act_157 rfl (lv_at hl 2 rfl) ?_
      refine lv_sipush (v := (nI 576)) hx hb dL_act_158 (by decide) ?_
      refine lv_idiv hx hb dL_act_161 (nI_ne0 (by omega) (by omega)) ?_
      refine ti (pk_div (a := (v / 16)) (d := 576) (by omega) (by omega) (by omega)) ?_
      refine lv_iconst (v := (nI 3)) hx hb dL_act_162 (by decide) ?_
      refine lv_irem hx hb dL_act_163 (nI_ne0 (by omega) (by omega)) ?_
      refine ti (pk_rem (a := ((v / 16) / 576)) (d := 3) (by omega) (by omega) (by omega)) ?_
      refine lv_if_ne (tgt := 180) hx hb dL_act_164 (by decide) (fun c_164 => ?_) (fun c_164 => ?_)
      · have c_164 := (nz_ne c_164 (by omega))
        refine lv_iconst (v := (nI 0)) hx hb dL_act_180 (by decide) ?_
        exact jn181 _ (by rw [if_neg c_164])
      · have c_164 := (nz_eq c_164 (by omega))
        refine lv_iconst (v := (nI 1)) hx hb dL_act_167 (by decide) ?_
        refine lv_iload_n hx hb dL_act_168 rfl (lv_at hl 2 rfl) ?_
        refine lv_sipush (v := (nI 1728)) hx hb dL_act_169 (by decide) ?_
        refine lv_idiv hx hb dL_act_172 (nI_ne0 (by omega) (by omega)) ?_
        refine ti (pk_div (a := (v / 16)) (d := 1728) (by omega) (by omega) (by omega)) ?_
        refine lv_bipush (v := (nI 8)) hx hb dL_act_173 (by decide) ?_
        refine lv_irem hx hb dL_act_175 (nI_ne0 (by omega) (by omega)) ?_
        refine ti (pk_rem (a := ((v / 16) / 1728)) (d := 8) (by omega) (by omega) (by omega)) ?_
        refine lv_ishl hx hb dL_act_176 ?_
        refine ti (nb_shl (k := (((v / 16) / 1728) % 8)) (by omega)) ?_
        refine lv_goto (tgt := 181) hx hb dL_act_177 (by decide) ?_
        exact jn181 _ (by rw [if_pos c_164])
  · refine lv_tableIn (tgt := 132) (off := 108) hx hb dL_act_24 (by decide) (by decide) (by decide) (by decide) ?_
    refine lv_aload_n hx hb dL_act_132 rfl (lv_at hl 3 rfl) ?_
    refine lv_iload_n hx hb dL_act_133 rfl (lv_at hl 2 rfl) ?_
    refine lv_bipush (v := (nI 8)) hx hb dL_act_134 (by decide) ?_
    refine lv_irem hx hb dL_act_136 (nI_ne0 (by omega) (by omega)) ?_
    refine ti (pk_rem (a := (v / 16)) (d := 8) (by omega) (by omega) (by omega)) ?_
    refine lv_iload_n hx hb dL_act_137 rfl (lv_at hl 2 rfl) ?_
    refine lv_bipush (v := (nI 8)) hx hb dL_act_138 (by decide) ?_
    refine lv_idiv hx hb dL_act_140 (nI_ne0 (by omega) (by omega)) ?_
    refine ti (pk_div (a := (v / 16)) (d := 8) (by omega) (by omega) (by omega)) ?_
    refine lv_bipush (v := (nI 12)) hx hb dL_act_141 (by decide) ?_
    refine lv_irem hx hb dL_act_143 (nI_ne0 (by omega) (by omega)) ?_
    refine ti (pk_rem (a := ((v / 16) / 8)) (d := 12) (by omega) (by omega) (by omega)) ?_
    refine lv_aload_n hx hb dL_act_144 rfl (lv_at hl 3 rfl) ?_
    refine lv_iconst (v := (nI 3)) hx hb dL_act_145 (by decide) ?_
    refine lv_iload_n hx hb dL_act_146 rfl (lv_at hl 2 rfl) ?_
    refine lv_bipush (v := (nI 96)) hx hb dL_act_147 (by decide) ?_
    refine lv_idiv hx hb dL_act_149 (nI_ne0 (by omega) (by omega)) ?_
    refine ti (pk_div (a := (v / 16)) (d := 96) (by omega) (by omega) (by omega)) ?_
    refine lv_iload_n hx hb dL_act_150 rfl (lv_at hl 1 rfl) ?_
    refine lv_irem hx hb dL_act_151 (nI_ne0 (by omega) (by omega)) ?_
    refine ti (pk_rem (a := ((v / 16) / 96)) (d := (σ 0)) (by omega) (by omega) (by omega)) ?_
    refine lv_iconst (v := (nI 0)) hx hb dL_act_152 (by decide) ?_
    refine lv_iconst (v := (nI 0)) hx hb dL_act_153 (by decide) ?_
    refine wr_callS (pre := []) (wc := fQ cy x a tr s0 s1 pa q σ n fl tx ln) (va_runS (As := [.ref (x 0), .int (nI 3), .int (nI (((v / 16) / 96) % (σ 0))), .int (nI 0), .int (nI 0)]) (rest := [.int (nI (((v / 16) / 8) % 12)), .int (nI ((v / 16) % 8)), .ref (x 0)]) ⟨hx, hb, hml, hown, hts⟩ (c_L_call_3 l hfl g cy x a tr s0 s1 pa H.size bd q σ Hh n K fl tx ln (nI (((v / 16) / 96) % (σ 0))) (nI 0) (nI 0) hI ) ⟨(cB 5 hts wd9_11 wd5_14 wd9_9 rfl rfl (by decide +kernel) ⟨Nat.le_of_ble_eq_true rfl, Nat.le_of_ble_eq_true rfl⟩), hts _ wd9_10⟩ (ps2 (ws := [] ++ fQ cy x a tr s0 s1 pa q σ n fl tx ln) hK hP hD hS hA hX hY _ nd_suffix at_suffix) rfl rfl hl.1 rfl (lv_room (Nat.le_of_ble_eq_true rfl)) dL_act_154 ⟨by show _ ≤ 10; omega, by show _ ≤ 60; omega⟩) hP hD hS hA (fun _ => fQ_ad) (fun q H locs hI hP hD hS => ?_)
    have hP : va_P g vwCl (fQ cy x a tr s0 s1 pa q σ n fl tx ln) H := hP
    have hD : va_D A (fQ cy x a tr s0 s1 pa q σ n fl tx ln) := hD
    refine ti (show an (fDog σ (nI (((v / 16) / 96) % (σ 0))) (nI 0)) (nI (ndg σ (nI (((v / 16) / 96) % (σ 0))).toNatClampNeg (nI 0).toNatClampNeg)) = (nI (dg σ (((v / 16) / 96) % (σ 0)) 0)) from (v_dg (w := 0) hn0 (Nat.mod_lt _ (by omega)) (by decide))) ?_
    show W _ _ _ _ _ _ _ _ _ _ _ _ _ _ _ (F0 mX 157 ls [.int (nI (dg σ (((v / 16) / 96) % (σ 0)) 0)), .int (nI (((v / 16) / 8) % 12)), .int (nI ((v / 16) % 8)), .ref (x 0)])
    refine jn_i (pcj := 181) (ls := ls) (st := [.int (nI (dg σ (((v / 16) / 96) % (σ 0)) 0)), .int (nI (((v / 16) / 8) % 12)), .int (nI ((v / 16) % 8)), .ref (x 0)]) (fun v9 => v9 = (nI (if ((v / 16) / 576) % 3 = 0 then 2 ^ (((v / 16) / 1728) % 8) else 0))) ?_ (fun jn181 => ?_)
    · intro v9 hv9
      subst hv9
      refine lv_ixor hx hb dL_act_181 ?_
      refine ti (nx_xor (dg σ (((v / 16) / 96) % (σ 0)) 0) (if ((v / 16) / 576) % 3 = 0 then 2 ^ (((v / 16) / 1728) % 8) else 0)) ?_
      refine ti (show (nI ((dg σ (((v / 16) / 96) % (σ 0)) 0) ^^^ (if ((v / 16) / 576) % 3 = 0 then 2 ^ (((v / 16) / 1728) % 8) else 0))) = (nI (aMk σ (v / 16))) from rfl) ?_
      refine lv_iload_n hx hb dL_act_182 rfl (lv_at hl 2 rfl) ?_
      refine lv_sipush (v := (nI 13824)) hx hb dL_act_183 (by decide) ?_
      refine lv_idiv hx hb dL_act_186 (nI_ne0 (by omega) (by omega)) ?_
      refine ti (pk_div (a := (v / 16)) (d := 13824) (by omega) (by omega) (by omega)) ?_
      refine lv_bipush (v := (nI 6)) hx hb dL_act_187 (by decide) ?_
      refine lv_irem hx hb dL_act_189 (nI_ne0 (by omega) (by omega)) ?_
      refine ti (pk_rem (a := ((v / 16) / 13824)) (d := 6) (by omega) (by omega) (by omega)) ?_
      refine jn_i (pcj := 204) (ls := ls) (st := [.int (nI (((v / 16) / 13824) % 6)), .int (nI (aMk σ (v / 16))), .int (nI (((v / 16) / 8) % 12)), .int (nI ((v / 16) % 8)), .ref (x 0)]) (fun v9 => v9 = (bI (aPh (v / 16)))) ?_ (fun jn204 => ?_)
      · intro v9 hv9
        subst hv9
        refine wr_callS (pre := []) (wc := fQ cy x a tr s0 s1 pa q σ n fl tx ln) (vx_runSW (hh := [(0, 11, 12, 13), (0, 11, 17, 16), (0, 11, 22, 19)]) (As := [.ref (x 0), .int (nI ((v / 16) % 8)), .int (nI (((v / 16) / 8) % 12)), .int (nI (aMk σ (v / 16))), .int (nI (((v / 16) / 13824) % 6)), .int (bI (aPh (v / 16)))]) (rest := []) ⟨hx, hb, hml, hown, hts⟩ (c_L_sights l hfl g cy x a tr s0 s1 pa H.size bd q σ Hh n K fl tx ln (nI ((v / 16) % 8)) (nI (((v / 16) / 8) % 12)) (nI (aMk σ (v / 16))) (nI (((v / 16) / 13824) % 6)) (aPh (v / 16)) hI ) (vx_cwSW 6 hts (hl_in wd25_15 wd5_14 wd25_13 wd25_14) rfl rfl rfl (by decide +kernel) ⟨Nat.le_of_ble_eq_true rfl, Nat.le_of_ble_eq_true rfl⟩) (ps2 (ws := [] ++ fQ cy x a tr s0 s1 pa q σ n fl tx ln) hK hP hD hS hA hX hY _ nd_suffix at_suffix) rfl rfl hl.1 rfl (lv_room (Nat.le_of_ble_eq_true rfl)) dL_act_204 ⟨by show _ ≤ 10; omega, by show _ ≤ 60; omega⟩) hP hD hS hA (fun _ => fQ_ad) (fun q H locs hI hP hD hS => ?_)
        have hP : va_P g vwCl (fQ cy x a tr s0 s1 pa q (if fTell σ (nI ((v / 16) % 8)) (nI (((v / 16) / 8) % 12)) (nI (aMk σ (v / 16))) (nI (((v / 16) / 13824) % 6)) = 0 then sightR σ (nI ((v / 16) % 8)) (nI (((v / 16) / 8) % 12)) (nI (aMk σ (v / 16))) (nI (((v / 16) / 13824) % 6)) (aPh (v / 16)) else σ) (if fTell σ (nI ((v / 16) % 8)) (nI (((v / 16) / 8) % 12)) (nI (aMk σ (v / 16))) (nI (((v / 16) / 13824) % 6)) = 0 then hiN n else n) fl tx ln) H := hP
        have hD : va_D A (fQ cy x a tr s0 s1 pa q (if fTell σ (nI ((v / 16) % 8)) (nI (((v / 16) / 8) % 12)) (nI (aMk σ (v / 16))) (nI (((v / 16) / 13824) % 6)) = 0 then sightR σ (nI ((v / 16) % 8)) (nI (((v / 16) / 8) % 12)) (nI (aMk σ (v / 16))) (nI (((v / 16) / 13824) % 6)) (aPh (v / 16)) else σ) (if fTell σ (nI ((v / 16) % 8)) (nI (((v / 16) / 8) % 12)) (nI (aMk σ (v / 16))) (nI (((v / 16) / 13824) % 6)) = 0 then hiN n else n) fl tx ln) := hD
        show W _ _ _ _ _ _ _ _ _ _ _ _ _ _ _ (F0 mX 207 ls [.int (an (fTell σ (nI ((v / 16) % 8)) (nI (((v / 16) / 8) % 12)) (nI (aMk σ (v / 16))) (nI (((v / 16) / 13824) % 6))) (nI (sightA σ (nI ((v / 16) % 8)) (nI (((v / 16) / 8) % 12)) (nI (aMk σ (v / 16))) (nI (((v / 16) / 13824) % 6)))))])
        exact W.widen (by omega) (by omega) (wr_i q (by show some (Value.int (acV v σ n K fl)) = _; unfold acV; rw [if_neg (show ¬ v % 16 < 2 by omega), if_pos (show v % 16 < 7 by omega)]) (by unfold acS; rw [if_neg (show ¬ v % 16 < 2 by omega), if_pos (show v % 16 < 7 by omega)]; exact fI_mono (c := bd + 99) hI (by split <;> omega) hbd) (by unfold acS; rw [if_neg (show ¬ v % 16 < 2 by omega), if_pos (show v % 16 < 7 by omega)]; exact hP) hS hx hb hr dL_act_207 hlk)
      · skip
        refine lv_iload_n hx hb dL_act_190 rfl (lv_at hl 2 rfl) ?_
        refine lv_ldc hx hb hown (hts _ wd9_8) dL_act_191 ?_
        refine ti (show (82944 : Int32) = nI 82944 from by decide) ?_
        refine lv_idiv hx hb dL_act_193 (nI_ne0 (by omega) (by omega)) ?_
        refine ti (pk_div (a := (v / 16)) (d := 82944) (by omega) (by omega) (by omega)) ?_
        refine lv_iconst (v := (nI 2)) hx hb dL_act_194 (by decide) ?_
        refine lv_irem hx hb dL_act_195 (nI_ne0 (by omega) (by omega)) ?_
        refine ti (pk_rem (a := ((v / 16) / 82944)) (d := 2) (by omega) (by omega) (by omega)) ?_
        refine lv_if_ne (tgt := 203) hx hb dL_act_196 (by decide) (fun c_196 => ?_) (fun c_196 => ?_)
        · have c_196 := (nz_ne c_196 (by omega))
          refine lv_iconst (v := (nI 0)) hx hb dL_act_203 (by decide) ?_
          exact jn204 _ (by simp [aPh, c_196, bI, nI_0, nI_o])
        · have c_196 := (nz_eq c_196 (by omega))
          refine lv_iconst (v := (nI 1)) hx hb dL_act_199 (by decide) ?_
          refine lv_goto (tgt := 204) hx hb dL_act_200 (by decide) ?_
          exact jn204 _ (by simp [aPh, c_196, bI, nI_0, nI_o])
    · skip
      refine lv_iload_n hx hb dL_act_157 rfl (lv_at hl 2 rfl) ?_
      refine lv_sipush (v := (nI 576)) hx hb dL_act_158 (by decide) ?_
      refine lv_idiv hx hb dL_act_161 (nI_ne0 (by omega) (by omega)) ?_
      refine ti (pk_div (a := (v / 16)) (d := 576) (by omega) (by omega) (by omega)) ?_
      refine lv_iconst (v := (nI 3)) hx hb dL_act_162 (by decide) ?_
      refine lv_irem hx hb dL_act_163 (nI_ne0 (by omega) (by omega)) ?_
      refine ti (pk_rem (a := ((v / 16) / 576)) (d := 3) (by omega) (by omega) (by omega)) ?_
      refine lv_if_ne (tgt := 180) hx hb dL_act_164 (by decide) (fun c_164 => ?_) (fun c_164 => ?_)
      · have c_164 := (nz_ne c_164 (by omega))
        refine lv_iconst (v := (nI 0)) hx hb dL_act_180 (by decide) ?_
        exact jn181 _ (by rw [if_neg c_164])
      · have c_164 := (nz_eq c_164 (by omega))
        refine lv_iconst (v := (nI 1)) hx hb dL_act_167 (by decide) ?_
        refine lv_iload_n hx hb dL_act_168 rfl (lv_at hl 2 rfl) ?_
        refine lv_sipush (v := (nI 1728)) hx hb dL_act_169 (by decide) ?_
        refine lv_idiv hx hb dL_act_172 (nI_ne0 (by omega) (by omega)) ?_
        refine ti (pk_div (a := (v / 16)) (d := 1728) (by omega) (by omega) (by omega)) ?_
        refine lv_bipush (v := (nI 8)) hx hb dL_act_173 (by decide) ?_
        refine lv_irem hx hb dL_act_175 (nI_ne0 (by omega) (by omega)) ?_
        refine ti (pk_rem (a := ((v / 16) / 1728)) (d := 8) (by omega) (by omega) (by omega)) ?_
        refine lv_ishl hx hb dL_act_176 ?_
        refine ti (nb_shl (k := (((v / 16) / 1728) % 8)) (by omega)) ?_
        refine lv_goto (tgt := 181) hx hb dL_act_177 (by decide) ?_
        exact jn181 _ (by rw [if_pos c_164])
  · refine lv_tableIn (tgt := 208) (off := 184) hx hb dL_act_24 (by decide) (by decide) (by decide) (by decide) ?_
    refine lv_aload_n hx hb dL_act_208 rfl (lv_at hl 3 rfl) ?_
    refine lv_bipush (v := (nI 7)) hx hb dL_act_209 (by decide) ?_
    refine lv_iload_n hx hb dL_act_211 rfl (lv_at hl 2 rfl) ?_
    refine lv_iload_n hx hb dL_act_212 rfl (lv_at hl 1 rfl) ?_
    refine lv_irem hx hb dL_act_213 (nI_ne0 (by omega) (by omega)) ?_
    refine ti (pk_rem (a := (v / 16)) (d := (σ 0)) (by omega) (by omega) (by omega)) ?_
    refine lv_iload_n hx hb dL_act_214 rfl (lv_at hl 2 rfl) ?_
    refine lv_bipush (v := (nI 6)) hx hb dL_act_215 (by decide) ?_
    refine lv_idiv hx hb dL_act_217 (nI_ne0 (by omega) (by omega)) ?_
    refine ti (pk_div (a := (v / 16)) (d := 6) (by omega) (by omega) (by omega)) ?_
    refine lv_bipush (v := (nI 8)) hx hb dL_act_218 (by decide) ?_
    refine lv_irem hx hb dL_act_220 (nI_ne0 (by omega) (by omega)) ?_
    refine ti (pk_rem (a := ((v / 16) / 6)) (d := 8) (by omega) (by omega) (by omega)) ?_
    refine lv_iload_n hx hb dL_act_221 rfl (lv_at hl 2 rfl) ?_
    refine lv_bipush (v := (nI 48)) hx hb dL_act_222 (by decide) ?_
    refine lv_idiv hx hb dL_act_224 (nI_ne0 (by omega) (by omega)) ?_
    refine ti (pk_div (a := (v / 16)) (d := 48) (by omega) (by omega) (by omega)) ?_
    refine lv_bipush (v := (nI 12)) hx hb dL_act_225 (by decide) ?_
    refine lv_irem hx hb dL_act_227 (nI_ne0 (by omega) (by omega)) ?_
    refine ti (pk_rem (a := ((v / 16) / 48)) (d := 12) (by omega) (by omega) (by omega)) ?_
    refine wr_callS (pre := []) (wc := fQ cy x a tr s0 s1 pa q σ n fl tx ln) (va_runS (As := [.ref (x 0), .int (nI 7), .int (nI ((v / 16) % (σ 0))), .int (nI (((v / 16) / 6) % 8)), .int (nI (((v / 16) / 48) % 12))]) (rest := []) ⟨hx, hb, hml, hown, hts⟩ (c_L_call_7 l hfl g cy x a tr s0 s1 pa H.size bd q σ Hh n K fl tx ln (nI ((v / 16) % (σ 0))) (nI (((v / 16) / 6) % 8)) (nI (((v / 16) / 48) % 12)) hI ) ⟨(cB 5 hts wd9_11 wd5_14 wd9_9 rfl rfl (by decide +kernel) ⟨Nat.le_of_ble_eq_true rfl, Nat.le_of_ble_eq_true rfl⟩), hts _ wd9_10⟩ (ps2 (ws := [] ++ fQ cy x a tr s0 s1 pa q σ n fl tx ln) hK hP hD hS hA hX hY _ nd_suffix at_suffix) rfl rfl hl.1 rfl (lv_room (Nat.le_of_ble_eq_true rfl)) dL_act_228 ⟨by show _ ≤ 10; omega, by show _ ≤ 60; omega⟩) hP hD hS hA (fun _ => fQ_ad) (fun q H locs hI hP hD hS => ?_)
    have hP : va_P g vwCl (fQ cy x a tr s0 s1 pa q (if fFind σ (nI ((v / 16) % (σ 0))) (nI (((v / 16) / 6) % 8)) (nI (((v / 16) / 48) % 12)) = 0 then findR σ (nI ((v / 16) % (σ 0))) (nI (((v / 16) / 6) % 8)) (nI (((v / 16) / 48) % 12)) else σ) (if fFind σ (nI ((v / 16) % (σ 0))) (nI (((v / 16) / 6) % 8)) (nI (((v / 16) / 48) % 12)) = 0 then hiN n else n) fl tx ln) H := hP
    have hD : va_D A (fQ cy x a tr s0 s1 pa q (if fFind σ (nI ((v / 16) % (σ 0))) (nI (((v / 16) / 6) % 8)) (nI (((v / 16) / 48) % 12)) = 0 then findR σ (nI ((v / 16) % (σ 0))) (nI (((v / 16) / 6) % 8)) (nI (((v / 16) / 48) % 12)) else σ) (if fFind σ (nI ((v / 16) % (σ 0))) (nI (((v / 16) / 6) % 8)) (nI (((v / 16) / 48) % 12)) = 0 then hiN n else n) fl tx ln) := hD
    show W _ _ _ _ _ _ _ _ _ _ _ _ _ _ _ (F0 mX 231 ls [.int (an (fFind σ (nI ((v / 16) % (σ 0))) (nI (((v / 16) / 6) % 8)) (nI (((v / 16) / 48) % 12))) (nI (findA σ (nI ((v / 16) % (σ 0))) (nI (((v / 16) / 6) % 8)) (nI (((v / 16) / 48) % 12)))))])
    exact W.widen (by omega) (by omega) (wr_i q (by show some (Value.int (acV v σ n K fl)) = _; unfold acV; rw [if_neg (show ¬ v % 16 < 2 by omega), if_neg (show ¬ v % 16 < 7 by omega), if_pos (show v % 16 < 8 by omega)]) (by unfold acS; rw [if_neg (show ¬ v % 16 < 2 by omega), if_neg (show ¬ v % 16 < 7 by omega), if_pos (show v % 16 < 8 by omega)]; exact fI_mono (c := bd + 99) hI (by split <;> omega) hbd) (by unfold acS; rw [if_neg (show ¬ v % 16 < 2 by omega), if_neg (show ¬ v % 16 < 7 by omega), if_pos (show v % 16 < 8 by omega)]; exact hP) hS hx hb hr dL_act_231 hlk)
  · refine lv_tableIn (tgt := 232) (off := 208) hx hb dL_act_24 (by decide) (by decide) (by decide) (by decide) ?_
    refine lv_aload_n hx hb dL_act_232 rfl (lv_at hl 3 rfl) ?_
    refine lv_iload hx hb dL_act_233 (lv_at hl 0 rfl) ?_
    refine jn_i (pcj := 255) (ls := ls) (st := [.int (nI ((v / 16) % 12)), .ref (x 0)]) (fun v9 => v9 = (nI (aTo (v / 16)))) ?_ (fun jn255 => ?_)
    · intro v9 hv9
      subst hv9
      refine jn_i (pcj := 269) (ls := ls) (st := [.int (nI (aTo (v / 16))), .int (nI ((v / 16) % 12)), .ref (x 0)]) (fun v9 => v9 = (bI (aOn (v / 16)))) ?_ (fun jn269 => ?_)
      · intro v9 hv9
        subst hv9
        refine wr_callS (pre := []) (wc := fQ cy x a tr s0 s1 pa q σ n fl tx ln) (vx_runSW (hh := [(0, 7, 8, 13), (0, 7, 13, 16)]) (As := [.ref (x 0), .int (nI ((v / 16) % 12)), .int (nI (aTo (v / 16))), .int (bI (aOn (v / 16)))]) (rest := []) ⟨hx, hb, hml, hown, hts⟩ (c_L_closes l hfl g cy x a tr s0 s1 pa H.size bd q σ Hh n K fl tx ln (nI ((v / 16) % 12)) (nI (aTo (v / 16))) (aOn (v / 16)) hI ) (vx_cwSW 4 hts (hl_in wd26_0 wd5_14 wd25_22 wd25_23) rfl rfl rfl (by decide +kernel) ⟨Nat.le_of_ble_eq_true rfl, Nat.le_of_ble_eq_true rfl⟩) (ps2 (ws := [] ++ fQ cy x a tr s0 s1 pa q σ n fl tx ln) hK hP hD hS hA hX hY _ nd_suffix at_suffix) rfl rfl hl.1 rfl (lv_room (Nat.le_of_ble_eq_true rfl)) dL_act_269 ⟨by show _ ≤ 10; omega, by show _ ≤ 60; omega⟩) hP hD hS hA (fun _ => fQ_ad) (fun q H locs hI hP hD hS => ?_)
        have hP : va_P g vwCl (fQ cy x a tr s0 s1 pa q (if fClose (nI ((v / 16) % 12)) (nI (aTo (v / 16))) = 0 then closeR σ (nI ((v / 16) % 12)) (nI (aTo (v / 16))) (aOn (v / 16)) else σ) (if fClose (nI ((v / 16) % 12)) (nI (aTo (v / 16))) = 0 then hiN n else n) fl tx ln) H := hP
        have hD : va_D A (fQ cy x a tr s0 s1 pa q (if fClose (nI ((v / 16) % 12)) (nI (aTo (v / 16))) = 0 then closeR σ (nI ((v / 16) % 12)) (nI (aTo (v / 16))) (aOn (v / 16)) else σ) (if fClose (nI ((v / 16) % 12)) (nI (aTo (v / 16))) = 0 then hiN n else n) fl tx ln) := hD
        show W _ _ _ _ _ _ _ _ _ _ _ _ _ _ _ (F0 mX 272 ls [.int (an (fClose (nI ((v / 16) % 12)) (nI (aTo (v / 16)))) (nI (closeA σ (nI ((v / 16) % 12)) (nI (aTo (v / 16))) (aOn (v / 16)))))])
        exact W.widen (by omega) (by omega) (wr_i q (by show some (Value.int (acV v σ n K fl)) = _; unfold acV; rw [if_neg (show ¬ v % 16 < 2 by omega), if_neg (show ¬ v % 16 < 7 by omega), if_neg (show ¬ v % 16 < 8 by omega), if_pos (show v % 16 < 10 by omega)]) (by unfold acS; rw [if_neg (show ¬ v % 16 < 2 by omega), if_neg (show ¬ v % 16 < 7 by omega), if_neg (show ¬ v % 16 < 8 by omega), if_pos (show v % 16 < 10 by omega)]; exact fI_mono (c := bd + 99) hI (by split <;> omega) hbd) (by unfold acS; rw [if_neg (show ¬ v % 16 < 2 by omega), if_neg (show ¬ v % 16 < 7 by omega), if_neg (show ¬ v % 16 < 8 by omega), if_pos (show v % 16 < 10 by omega)]; exact hP) hS hx hb hr dL_act_272 hlk)
      · skip
        refine lv_iload_n hx hb dL_act_255 rfl (lv_at hl 2 rfl) ?_
        refine lv_bipush (v := (nI 24)) hx hb dL_act_256 (by decide) ?_
        refine lv_idiv hx hb dL_act_258 (nI_ne0 (by omega) (by omega)) ?_
        refine ti (pk_div (a := (v / 16)) (d := 24) (by omega) (by omega) (by omega)) ?_
        refine lv_iconst (v := (nI 3)) hx hb dL_act_259 (by decide) ?_
        refine lv_irem hx hb dL_act_260 (nI_ne0 (by omega) (by omega)) ?_
        refine ti (pk_rem (a := ((v / 16) / 24)) (d := 3) (by omega) (by omega) (by omega)) ?_
        refine lv_if_le (tgt := 268) hx hb dL_act_261 (by decide) (fun c_261 => ?_) (fun c_261 => ?_)
        · have c_261 := (nz_le' c_261 (by omega))
          refine lv_iconst (v := (nI 0)) hx hb dL_act_268 (by decide) ?_
          exact jn269 _ (by simp [aOn, c_261, bI, nI_0, nI_o])
        · have c_261 := (nz_gt' c_261 (by omega))
          refine lv_iconst (v := (nI 1)) hx hb dL_act_264 (by decide) ?_
          refine lv_goto (tgt := 269) hx hb dL_act_265 (by decide) ?_
          exact jn269 _ (by simp [aOn, c_261, bI, nI_0, nI_o])
    · skip
      refine lv_iload_n hx hb dL_act_235 rfl (lv_at hl 2 rfl) ?_
      refine lv_bipush (v := (nI 12)) hx hb dL_act_236 (by decide) ?_
      refine lv_idiv hx hb dL_act_238 (nI_ne0 (by omega) (by omega)) ?_
      refine ti (pk_div (a := (v / 16)) (d := 12) (by omega) (by omega) (by omega)) ?_
      refine lv_iconst (v := (nI 2)) hx hb dL_act_239 (by decide) ?_
      refine lv_irem hx hb dL_act_240 (nI_ne0 (by omega) (by omega)) ?_
      refine ti (pk_rem (a := ((v / 16) / 12)) (d := 2) (by omega) (by omega) (by omega)) ?_
      refine lv_if_ne (tgt := 251) hx hb dL_act_241 (by decide) (fun c_241 => ?_) (fun c_241 => ?_)
      · have c_241 := (nz_ne c_241 (by omega))
        refine lv_iload hx hb dL_act_251 (lv_at hl 0 rfl) ?_
        refine lv_iconst (v := (nI 4)) hx hb dL_act_253 (by decide) ?_
        refine lv_iadd hx hb dL_act_254 ?_
        refine ti (nI_add ((v / 16) % 12) 4) ?_
        exact jn255 _ (congrArg nI (show _ = aTo (v / 16) from (if_neg c_241).symm))
      · have c_241 := (nz_eq c_241 (by omega))
        refine lv_iload hx hb dL_act_244 (lv_at hl 0 rfl) ?_
        refine lv_iconst (v := (nI 1)) hx hb dL_act_246 (by decide) ?_
        refine lv_iadd hx hb dL_act_247 ?_
        refine ti (nI_add ((v / 16) % 12) 1) ?_
        refine lv_goto (tgt := 255) hx hb dL_act_248 (by decide) ?_
        exact jn255 _ (congrArg nI (show _ = aTo (v / 16) from (if_pos c_241).symm))
  · refine lv_tableIn (tgt := 232) (off := 208) hx hb dL_act_24 (by decide) (by decide) (by decide) (by decide) ?_
    refine lv_aload_n hx hb dL_act_232 rfl (lv_at hl 3 rfl) ?_
    refine lv_iload hx hb dL_act_233 (lv_at hl 0 rfl) ?_
    refine jn_i (pcj := 255) (ls := ls) (st := [.int (nI ((v / 16) % 12)), .ref (x 0)]) (fun v9 => v9 = (nI (aTo (v / 16)))) ?_ (fun jn255 => ?_)
    · intro v9 hv9
      subst hv9
      refine jn_i (pcj := 269) (ls := ls) (st := [.int (nI (aTo (v / 16))), .int (nI ((v / 16) % 12)), .ref (x 0)]) (fun v9 => v9 = (bI (aOn (v / 16)))) ?_ (fun jn269 => ?_)
      · intro v9 hv9
        subst hv9
        refine wr_callS (pre := []) (wc := fQ cy x a tr s0 s1 pa q σ n fl tx ln) (vx_runSW (hh := [(0, 7, 8, 13), (0, 7, 13, 16)]) (As := [.ref (x 0), .int (nI ((v / 16) % 12)), .int (nI (aTo (v / 16))), .int (bI (aOn (v / 16)))]) (rest := []) ⟨hx, hb, hml, hown, hts⟩ (c_L_closes l hfl g cy x a tr s0 s1 pa H.size bd q σ Hh n K fl tx ln (nI ((v / 16) % 12)) (nI (aTo (v / 16))) (aOn (v / 16)) hI ) (vx_cwSW 4 hts (hl_in wd26_0 wd5_14 wd25_22 wd25_23) rfl rfl rfl (by decide +kernel) ⟨Nat.le_of_ble_eq_true rfl, Nat.le_of_ble_eq_true rfl⟩) (ps2 (ws := [] ++ fQ cy x a tr s0 s1 pa q σ n fl tx ln) hK hP hD hS hA hX hY _ nd_suffix at_suffix) rfl rfl hl.1 rfl (lv_room (Nat.le_of_ble_eq_true rfl)) dL_act_269 ⟨by show _ ≤ 10; omega, by show _ ≤ 60; omega⟩) hP hD hS hA (fun _ => fQ_ad) (fun q H locs hI hP hD hS => ?_)
        have hP : va_P g vwCl (fQ cy x a tr s0 s1 pa q (if fClose (nI ((v / 16) % 12)) (nI (aTo (v / 16))) = 0 then closeR σ (nI ((v / 16) % 12)) (nI (aTo (v / 16))) (aOn (v / 16)) else σ) (if fClose (nI ((v / 16) % 12)) (nI (aTo (v / 16))) = 0 then hiN n else n) fl tx ln) H := hP
        have hD : va_D A (fQ cy x a tr s0 s1 pa q (if fClose (nI ((v / 16) % 12)) (nI (aTo (v / 16))) = 0 then closeR σ (nI ((v / 16) % 12)) (nI (aTo (v / 16))) (aOn (v / 16)) else σ) (if fClose (nI ((v / 16) % 12)) (nI (aTo (v / 16))) = 0 then hiN n else n) fl tx ln) := hD
        show W _ _ _ _ _ _ _ _ _ _ _ _ _ _ _ (F0 mX 272 ls [.int (an (fClose (nI ((v / 16) % 12)) (nI (aTo (v / 16)))) (nI (closeA σ (nI ((v / 16) % 12)) (nI (aTo (v / 16))) (aOn (v / 16)))))])
        exact W.widen (by omega) (by omega) (wr_i q (by show some (Value.int (acV v σ n K fl)) = _; unfold acV; rw [if_neg (show ¬ v % 16 < 2 by omega), if_neg (show ¬ v % 16 < 7 by omega), if_neg (show ¬ v % 16 < 8 by omega), if_pos (show v % 16 < 10 by omega)]) (by unfold acS; rw [if_neg (show ¬ v % 16 < 2 by omega), if_neg (show ¬ v % 16 < 7 by omega), if_neg (show ¬ v % 16 < 8 by omega), if_pos (show v % 16 < 10 by omega)]; exact fI_mono (c := bd + 99) hI (by split <;> omega) hbd) (by unfold acS; rw [if_neg (show ¬ v % 16 < 2 by omega), if_neg (show ¬ v % 16 < 7 by omega), if_neg (show ¬ v % 16 < 8 by omega), if_pos (show v % 16 < 10 by omega)]; exact hP) hS hx hb hr dL_act_272 hlk)
      · skip
        refine lv_iload_n hx hb dL_act_255 rfl (lv_at hl 2 rfl) ?_
        refine lv_bipush (v := (nI 24)) hx hb dL_act_256 (by decide) ?_
        refine lv_idiv hx hb dL_act_258 (nI_ne0 (by omega) (by omega)) ?_
        refine ti (pk_div (a := (v / 16)) (d := 24) (by omega) (by omega) (by omega)) ?_
        refine lv_iconst (v := (nI 3)) hx hb dL_act_259 (by decide) ?_
        refine lv_irem hx hb dL_act_260 (nI_ne0 (by omega) (by omega)) ?_
        refine ti (pk_rem (a := ((v / 16) / 24)) (d := 3) (by omega) (by omega) (by omega)) ?_
        refine lv_if_le (tgt := 268) hx hb dL_act_261 (by decide) (fun c_261 => ?_) (fun c_261 => ?_)
        · have c_261 := (nz_le' c_261 (by omega))
          refine lv_iconst (v := (nI 0)) hx hb dL_act_268 (by decide) ?_
          exact jn269 _ (by simp [aOn, c_261, bI, nI_0, nI_o])
        · have c_261 := (nz_gt' c_261 (by omega))
          refine lv_iconst (v := (nI 1)) hx hb dL_act_264 (by decide) ?_
          refine lv_goto (tgt := 269) hx hb dL_act_265 (by decide) ?_
          exact jn269 _ (by simp [aOn, c_261, bI, nI_0, nI_o])
    · skip
      refine lv_iload_n hx hb dL_act_235 rfl (lv_at hl 2 rfl) ?_
      refine lv_bipush (v := (nI 12)) hx hb dL_act_236 (by decide) ?_
      refine lv_idiv hx hb dL_act_238 (nI_ne0 (by omega) (by omega)) ?_
      refine ti (pk_div (a := (v / 16)) (d := 12) (by omega) (by omega) (by omega)) ?_
      refine lv_iconst (v := (nI 2)) hx hb dL_act_239 (by decide) ?_
      refine lv_irem hx hb dL_act_240 (nI_ne0 (by omega) (by omega)) ?_
      refine ti (pk_rem (a := ((v / 16) / 12)) (d := 2) (by omega) (by omega) (by omega)) ?_
      refine lv_if_ne (tgt := 251) hx hb dL_act_241 (by decide) (fun c_241 => ?_) (fun c_241 => ?_)
      · have c_241 := (nz_ne c_241 (by omega))
        refine lv_iload hx hb dL_act_251 (lv_at hl 0 rfl) ?_
        refine lv_iconst (v := (nI 4)) hx hb dL_act_253 (by decide) ?_
        refine lv_iadd hx hb dL_act_254 ?_
        refine ti (nI_add ((v / 16) % 12) 4) ?_
        exact jn255 _ (congrArg nI (show _ = aTo (v / 16) from (if_neg c_241).symm))
      · have c_241 := (nz_eq c_241 (by omega))
        refine lv_iload hx hb dL_act_244 (lv_at hl 0 rfl) ?_
        refine lv_iconst (v := (nI 1)) hx hb dL_act_246 (by decide) ?_
        refine lv_iadd hx hb dL_act_247 ?_
        refine ti (nI_add ((v / 16) % 12) 1) ?_
        refine lv_goto (tgt := 255) hx hb dL_act_248 (by decide) ?_
        exact jn255 _ (congrArg nI (show _ = aTo (v / 16) from (if_pos c_241).symm))
  · refine lv_tableIn (tgt := 273) (off := 249) hx hb dL_act_24 (by decide) (by decide) (by decide) (by decide) ?_
    refine lv_iload_n hx hb dL_act_273 rfl (lv_at hl 2 rfl) ?_
    refine lv_iconst (v := (nI 2)) hx hb dL_act_274 (by decide) ?_
    refine lv_irem hx hb dL_act_275 (nI_ne0 (by omega) (by omega)) ?_
    refine ti (pk_rem (a := (v / 16)) (d := 2) (by omega) (by omega) (by omega)) ?_
    refine lv_if_ne (tgt := 296) hx hb dL_act_276 (by decide) (fun c_276 => ?_) (fun c_276 => ?_)
    · have c_276 := (nz_ne c_276 (by omega))
      refine lv_aload_n hx hb dL_act_296 rfl (lv_at hl 3 rfl) ?_
      refine lv_bipush (v := (nI 9)) hx hb dL_act_297 (by decide) ?_
      refine lv_iconst (v := (nI 1)) hx hb dL_act_299 (by decide) ?_
      refine lv_iload_n hx hb dL_act_300 rfl (lv_at hl 2 rfl) ?_
      refine lv_iconst (v := (nI 2)) hx hb dL_act_301 (by decide) ?_
      refine lv_idiv hx hb dL_act_302 (nI_ne0 (by omega) (by omega)) ?_
      refine ti (pk_div (a := (v / 16)) (d := 2) (by omega) (by omega) (by omega)) ?_
      refine lv_bipush (v := (nI 9)) hx hb dL_act_303 (by decide) ?_
      refine lv_irem hx hb dL_act_305 (nI_ne0 (by omega) (by omega)) ?_
      refine ti (pk_rem (a := ((v / 16) / 2)) (d := 9) (by omega) (by omega) (by omega)) ?_
      refine lv_iconst (v := (nI 0)) hx hb dL_act_306 (by decide) ?_
      refine wr_callS (pre := []) (wc := fQ cy x a tr s0 s1 pa q σ n fl tx ln) (va_runS (As := [.ref (x 0), .int (nI 9), .int (nI 1), .int (nI (((v / 16) / 2) % 9)), .int (nI 0)]) (rest := []) ⟨hx, hb, hml, hown, hts⟩ (c_L_call_9 l hfl g cy x a tr s0 s1 pa H.size bd q σ Hh n K fl tx ln (nI 1) (nI (((v / 16) / 2) % 9)) (nI 0) hI ) ⟨(cB 5 hts wd9_11 wd5_14 wd9_9 rfl rfl (by decide +kernel) ⟨Nat.le_of_ble_eq_true rfl, Nat.le_of_ble_eq_true rfl⟩), hts _ wd9_10⟩ (ps2 (ws := [] ++ fQ cy x a tr s0 s1 pa q σ n fl tx ln) hK hP hD hS hA hX hY _ nd_suffix at_suffix) rfl rfl hl.1 rfl (lv_room (Nat.le_of_ble_eq_true rfl)) dL_act_307 ⟨by show _ ≤ 10; omega, by show _ ≤ 60; omega⟩) hP hD hS hA (fun _ => fQ_ad) (fun q H locs hI hP hD hS => ?_)
      have hP : va_P g vwCl (fQ cy x a tr s0 s1 pa q (if fSet (nI 1) (nI (((v / 16) / 2) % 9)) = 0 then setR σ (nI 1) (nI (((v / 16) / 2) % 9)) else σ) (if fSet (nI 1) (nI (((v / 16) / 2) % 9)) = 0 then hiN n else n) fl tx ln) H := hP
      have hD : va_D A (fQ cy x a tr s0 s1 pa q (if fSet (nI 1) (nI (((v / 16) / 2) % 9)) = 0 then setR σ (nI 1) (nI (((v / 16) / 2) % 9)) else σ) (if fSet (nI 1) (nI (((v / 16) / 2) % 9)) = 0 then hiN n else n) fl tx ln) := hD
      show W _ _ _ _ _ _ _ _ _ _ _ _ _ _ _ (F0 mX 310 ls [.int (an (fSet (nI 1) (nI (((v / 16) / 2) % 9))) (nI (setA σ (nI 1) (nI (((v / 16) / 2) % 9)))))])
      exact W.widen (by omega) (by omega) (wr_i q (by show some (Value.int (acV v σ n K fl)) = _; unfold acV; rw [if_neg (show ¬ v % 16 < 2 by omega), if_neg (show ¬ v % 16 < 7 by omega), if_neg (show ¬ v % 16 < 8 by omega), if_neg (show ¬ v % 16 < 10 by omega), if_pos (show v % 16 < 11 by omega), if_neg c_276]) (by unfold acS; rw [if_neg (show ¬ v % 16 < 2 by omega), if_neg (show ¬ v % 16 < 7 by omega), if_neg (show ¬ v % 16 < 8 by omega), if_neg (show ¬ v % 16 < 10 by omega), if_pos (show v % 16 < 11 by omega), if_neg c_276]; exact fI_mono (c := bd + 99) hI (by split <;> omega) hbd) (by unfold acS; rw [if_neg (show ¬ v % 16 < 2 by omega), if_neg (show ¬ v % 16 < 7 by omega), if_neg (show ¬ v % 16 < 8 by omega), if_neg (show ¬ v % 16 < 10 by omega), if_pos (show v % 16 < 11 by omega), if_neg c_276]; exact hP) hS hx hb hr dL_act_310 hlk)
    · have c_276 := (nz_eq c_276 (by omega))
      refine lv_aload_n hx hb dL_act_279 rfl (lv_at hl 3 rfl) ?_
      refine lv_bipush (v := (nI 9)) hx hb dL_act_280 (by decide) ?_
      refine lv_iconst (v := (nI 0)) hx hb dL_act_282 (by decide) ?_
      refine lv_iload_n hx hb dL_act_283 rfl (lv_at hl 2 rfl) ?_
      refine lv_iconst (v := (nI 2)) hx hb dL_act_284 (by decide) ?_
      refine lv_idiv hx hb dL_act_285 (nI_ne0 (by omega) (by omega)) ?_
      refine ti (pk_div (a := (v / 16)) (d := 2) (by omega) (by omega) (by omega)) ?_
      refine lv_bipush (v := (nI 51)) hx hb dL_act_286 (by decide) ?_
      refine lv_irem hx hb dL_act_288 (nI_ne0 (by omega) (by omega)) ?_
      refine ti (pk_rem (a := ((v / 16) / 2)) (d := 51) (by omega) (by omega) (by omega)) ?_
      refine lv_iconst (v := (nI 0)) hx hb dL_act_289 (by decide) ?_
      refine wr_callS (pre := []) (wc := fQ cy x a tr s0 s1 pa q σ n fl tx ln) (va_runS (As := [.ref (x 0), .int (nI 9), .int (nI 0), .int (nI (((v / 16) / 2) % 51)), .int (nI 0)]) (rest := []) ⟨hx, hb, hml, hown, hts⟩ (c_L_call_9 l hfl g cy x a tr s0 s1 pa H.size bd q σ Hh n K fl tx ln (nI 0) (nI (((v / 16) / 2) % 51)) (nI 0) hI ) ⟨(cB 5 hts wd9_11 wd5_14 wd9_9 rfl rfl (by decide +kernel) ⟨Nat.le_of_ble_eq_true rfl, Nat.le_of_ble_eq_true rfl⟩), hts _ wd9_10⟩ (ps2 (ws := [] ++ fQ cy x a tr s0 s1 pa q σ n fl tx ln) hK hP hD hS hA hX hY _ nd_suffix at_suffix) rfl rfl hl.1 rfl (lv_room (Nat.le_of_ble_eq_true rfl)) dL_act_290 ⟨by show _ ≤ 10; omega, by show _ ≤ 60; omega⟩) hP hD hS hA (fun _ => fQ_ad) (fun q H locs hI hP hD hS => ?_)
      have hP : va_P g vwCl (fQ cy x a tr s0 s1 pa q (if fSet (nI 0) (nI (((v / 16) / 2) % 51)) = 0 then setR σ (nI 0) (nI (((v / 16) / 2) % 51)) else σ) (if fSet (nI 0) (nI (((v / 16) / 2) % 51)) = 0 then hiN n else n) fl tx ln) H := hP
      have hD : va_D A (fQ cy x a tr s0 s1 pa q (if fSet (nI 0) (nI (((v / 16) / 2) % 51)) = 0 then setR σ (nI 0) (nI (((v / 16) / 2) % 51)) else σ) (if fSet (nI 0) (nI (((v / 16) / 2) % 51)) = 0 then hiN n else n) fl tx ln) := hD
      show W _ _ _ _ _ _ _ _ _ _ _ _ _ _ _ (F0 mX 293 ls [.int (an (fSet (nI 0) (nI (((v / 16) / 2) % 51))) (nI (setA σ (nI 0) (nI (((v / 16) / 2) % 51)))))])
      refine lv_goto (tgt := 310) hx hb dL_act_293 (by decide) ?_
      exact W.widen (by omega) (by omega) (wr_i q (by show some (Value.int (acV v σ n K fl)) = _; unfold acV; rw [if_neg (show ¬ v % 16 < 2 by omega), if_neg (show ¬ v % 16 < 7 by omega), if_neg (show ¬ v % 16 < 8 by omega), if_neg (show ¬ v % 16 < 10 by omega), if_pos (show v % 16 < 11 by omega), if_pos c_276]) (by unfold acS; rw [if_neg (show ¬ v % 16 < 2 by omega), if_neg (show ¬ v % 16 < 7 by omega), if_neg (show ¬ v % 16 < 8 by omega), if_neg (show ¬ v % 16 < 10 by omega), if_pos (show v % 16 < 11 by omega), if_pos c_276]; exact fI_mono (c := bd + 99) hI (by split <;> omega) hbd) (by unfold acS; rw [if_neg (show ¬ v % 16 < 2 by omega), if_neg (show ¬ v % 16 < 7 by omega), if_neg (show ¬ v % 16 < 8 by omega), if_neg (show ¬ v % 16 < 10 by omega), if_pos (show v % 16 < 11 by omega), if_pos c_276]; exact hP) hS hx hb hr dL_act_310 hlk)
  · refine lv_tableIn (tgt := 311) (off := 287) hx hb dL_act_24 (by decide) (by decide) (by decide) (by decide) ?_
    refine lv_aload_n hx hb dL_act_311 rfl (lv_at hl 3 rfl) ?_
    refine lv_iconst (v := (nI 2)) hx hb dL_act_312 (by decide) ?_
    refine lv_iconst (v := (nI 3)) hx hb dL_act_313 (by decide) ?_
    refine lv_iconst (v := (nI 0)) hx hb dL_act_314 (by decide) ?_
    refine lv_iconst (v := (nI 0)) hx hb dL_act_315 (by decide) ?_
    refine wr_callS (pre := []) (wc := fQ cy x a tr s0 s1 pa q σ n fl tx ln) (va_runS (As := [.ref (x 0), .int (nI 2), .int (nI 3), .int (nI 0), .int (nI 0)]) (rest := []) ⟨hx, hb, hml, hown, hts⟩ (c_L_call_2 l hfl g cy x a tr s0 s1 pa H.size bd q σ Hh n K fl tx ln (nI 3) (nI 0) (nI 0) hI ) ⟨(cB 5 hts wd9_11 wd5_14 wd9_9 rfl rfl (by decide +kernel) ⟨Nat.le_of_ble_eq_true rfl, Nat.le_of_ble_eq_true rfl⟩), hts _ wd9_10⟩ (ps2 (ws := [] ++ fQ cy x a tr s0 s1 pa q σ n fl tx ln) hK hP hD hS hA hX hY _ nd_suffix at_suffix) rfl rfl hl.1 rfl (lv_room (Nat.le_of_ble_eq_true rfl)) dL_act_316 ⟨by show _ ≤ 10; omega, by show _ ≤ 60; omega⟩) hP hD hS hA (fun _ => fQ_ad) (fun q H locs hI hP hD hS => ?_)
    have hP : va_P g vwCl (fQ cy x a tr s0 s1 pa q σ n fl tx ln) H := hP
    have hD : va_D A (fQ cy x a tr s0 s1 pa q σ n fl tx ln) := hD
    refine ti (show an (fAbo (nI 3)) (nI (nbd σ (nI 3).toNatClampNeg)) = (nI (σ 2)) from (v_ab (w := 3) (by decide))) ?_
    show W _ _ _ _ _ _ _ _ _ _ _ _ _ _ _ (F0 mX 319 ls [.int (nI (σ 2))])
    refine lv_iconst (v := (nI 2)) hx hb dL_act_319 (by decide) ?_
    refine lv_icmp_ge (tgt := 327) hx hb dL_act_320 (by decide) (fun c_320 => ?_) (fun c_320 => ?_)
    · have c_320 := (nc_le (by omega) (by omega) c_320)
      refine lv_aload_n hx hb dL_act_327 rfl (lv_at hl 3 rfl) ?_
      refine lv_bipush (v := (nI 10)) hx hb dL_act_328 (by decide) ?_
      refine lv_iconst (v := (nI 0)) hx hb dL_act_330 (by decide) ?_
      refine lv_iconst (v := (nI 0)) hx hb dL_act_331 (by decide) ?_
      refine lv_iconst (v := (nI 0)) hx hb dL_act_332 (by decide) ?_
      refine wr_callS (pre := []) (wc := fQ cy x a tr s0 s1 pa q σ n fl tx ln) (va_runS (As := [.ref (x 0), .int (nI 10), .int (nI 0), .int (nI 0), .int (nI 0)]) (rest := []) ⟨hx, hb, hml, hown, hts⟩ (c_L_call_10 l hfl g cy x a tr s0 s1 pa H.size bd q σ Hh n K fl tx ln (nI 0) (nI 0) (nI 0) hI ) ⟨(cB 5 hts wd9_11 wd5_14 wd9_9 rfl rfl (by decide +kernel) ⟨Nat.le_of_ble_eq_true rfl, Nat.le_of_ble_eq_true rfl⟩), hts _ wd9_10⟩ (ps2 (ws := [] ++ fQ cy x a tr s0 s1 pa q σ n fl tx ln) hK hP hD hS hA hX hY _ nd_suffix at_suffix) rfl rfl hl.1 rfl (lv_room (Nat.le_of_ble_eq_true rfl)) dL_act_333 ⟨by show _ ≤ 10; omega, by show _ ≤ 60; omega⟩) hP hD hS hA (fun _ => fQ_ad) (fun q H locs hI hP hD hS => ?_)
      have hP : va_P g vwCl (fQ cy x a tr s0 s1 pa q (if fUnd n = 0 then Hh (n - 1) else σ) (if fUnd n = 0 then n - 1 else n) fl tx ln) H := hP
      have hD : va_D A (fQ cy x a tr s0 s1 pa q (if fUnd n = 0 then Hh (n - 1) else σ) (if fUnd n = 0 then n - 1 else n) fl tx ln) := hD
      show W _ _ _ _ _ _ _ _ _ _ _ _ _ _ _ (F0 mX 336 ls [.int (an (fUnd n) (nI (n - 1)))])
      exact W.widen (by omega) (by omega) (wr_i q (by show some (Value.int (acV v σ n K fl)) = _; unfold acV; rw [if_neg (show ¬ v % 16 < 2 by omega), if_neg (show ¬ v % 16 < 7 by omega), if_neg (show ¬ v % 16 < 8 by omega), if_neg (show ¬ v % 16 < 10 by omega), if_neg (show ¬ v % 16 < 11 by omega), if_pos (show v % 16 < 12 by omega), if_neg (show ¬ σ 2 < 2 by omega)]) (by unfold acS; rw [if_neg (show ¬ v % 16 < 2 by omega), if_neg (show ¬ v % 16 < 7 by omega), if_neg (show ¬ v % 16 < 8 by omega), if_neg (show ¬ v % 16 < 10 by omega), if_neg (show ¬ v % 16 < 11 by omega), if_pos (show v % 16 < 12 by omega), if_neg (show ¬ σ 2 < 2 by omega)]; exact fI_mono (c := bd + 99) hI (by omega) hbd) (by unfold acS; rw [if_neg (show ¬ v % 16 < 2 by omega), if_neg (show ¬ v % 16 < 7 by omega), if_neg (show ¬ v % 16 < 8 by omega), if_neg (show ¬ v % 16 < 10 by omega), if_neg (show ¬ v % 16 < 11 by omega), if_pos (show v % 16 < 12 by omega), if_neg (show ¬ σ 2 < 2 by omega)]; exact hP) hS hx hb hr dL_act_336 hlk)
    · have c_320 := (nc_nle (by omega) (by omega) c_320)
      refine lv_iconst (v := (nI NN)) hx hb dL_act_323 (by decide) ?_
      refine lv_goto (tgt := 336) hx hb dL_act_324 (by decide) ?_
      exact W.widen (by omega) (by omega) (wr_i q (by show some (Value.int (acV v σ n K fl)) = _; unfold acV; rw [if_neg (show ¬ v % 16 < 2 by omega), if_neg (show ¬ v % 16 < 7 by omega), if_neg (show ¬ v % 16 < 8 by omega), if_neg (show ¬ v % 16 < 10 by omega), if_neg (show ¬ v % 16 < 11 by omega), if_pos (show v % 16 < 12 by omega), if_pos c_320]) (by unfold acS; rw [if_neg (show ¬ v % 16 < 2 by omega), if_neg (show ¬ v % 16 < 7 by omega), if_neg (show ¬ v % 16 < 8 by omega), if_neg (show ¬ v % 16 < 10 by omega), if_neg (show ¬ v % 16 < 11 by omega), if_pos (show v % 16 < 12 by omega), if_pos c_320]; exact fI_mono (c := bd + 99) hI (by omega) hbd) (by unfold acS; rw [if_neg (show ¬ v % 16 < 2 by omega), if_neg (show ¬ v % 16 < 7 by omega), if_neg (show ¬ v % 16 < 8 by omega), if_neg (show ¬ v % 16 < 10 by omega), if_neg (show ¬ v % 16 < 11 by omega), if_pos (show v % 16 < 12 by omega), if_pos c_320]; exact hP) hS hx hb hr dL_act_336 hlk)
  · refine lv_tableIn (tgt := 337) (off := 313) hx hb dL_act_24 (by decide) (by decide) (by decide) (by decide) ?_
    refine lv_iload_n hx hb dL_act_337 rfl (lv_at hl 2 rfl) ?_
    refine lv_iconst (v := (nI 2)) hx hb dL_act_338 (by decide) ?_
    refine lv_irem hx hb dL_act_339 (nI_ne0 (by omega) (by omega)) ?_
    refine ti (pk_rem (a := (v / 16)) (d := 2) (by omega) (by omega) (by omega)) ?_
    refine lv_if_ne (tgt := 359) hx hb dL_act_340 (by decide) (fun c_340 => ?_) (fun c_340 => ?_)
    · have c_340 := (nz_ne c_340 (by omega))
      refine lv_aload_n hx hb dL_act_359 rfl (lv_at hl 3 rfl) ?_
      refine lv_bipush (v := (nI 14)) hx hb dL_act_360 (by decide) ?_
      refine lv_iload_n hx hb dL_act_362 rfl (lv_at hl 2 rfl) ?_
      refine lv_iconst (v := (nI 2)) hx hb dL_act_363 (by decide) ?_
      refine lv_idiv hx hb dL_act_364 (nI_ne0 (by omega) (by omega)) ?_
      refine ti (pk_div (a := (v / 16)) (d := 2) (by omega) (by omega) (by omega)) ?_
      refine lv_iconst (v := (nI 2)) hx hb dL_act_365 (by decide) ?_
      refine lv_irem hx hb dL_act_366 (nI_ne0 (by omega) (by omega)) ?_
      refine ti (pk_rem (a := ((v / 16) / 2)) (d := 2) (by omega) (by omega) (by omega)) ?_
      refine lv_iconst (v := (nI 0)) hx hb dL_act_367 (by decide) ?_
      refine lv_iconst (v := (nI 0)) hx hb dL_act_368 (by decide) ?_
      refine wr_callS (pre := []) (wc := fQ cy x a tr s0 s1 pa q σ n fl tx ln) (va_runS (As := [.ref (x 0), .int (nI 14), .int (nI (((v / 16) / 2) % 2)), .int (nI 0), .int (nI 0)]) (rest := []) ⟨hx, hb, hml, hown, hts⟩ (c_L_call_14 l hfl g cy x a tr s0 s1 pa H.size bd q σ Hh n K fl tx ln (nI (((v / 16) / 2) % 2)) (nI 0) (nI 0) hI ) ⟨(cB 5 hts wd9_11 wd5_14 wd9_9 rfl rfl (by decide +kernel) ⟨Nat.le_of_ble_eq_true rfl, Nat.le_of_ble_eq_true rfl⟩), hts _ wd9_10⟩ (ps2 (ws := [] ++ fQ cy x a tr s0 s1 pa q σ n fl tx ln) hK hP hD hS hA hX hY _ nd_suffix at_suffix) rfl rfl hl.1 rfl (lv_room (Nat.le_of_ble_eq_true rfl)) dL_act_369 ⟨by show _ ≤ 10; omega, by show _ ≤ 60; omega⟩) hP hD hS hA (fun _ => fQ_ad) (fun q H locs hI hP hD hS => ?_)
      have hP : va_P g vwCl (fQ cy x a tr s0 s1 pa q (if fRes fl (nI (((v / 16) / 2) % 2)) = 0 then K (nI (((v / 16) / 2) % 2)).toNatClampNeg else σ) (if fRes fl (nI (((v / 16) / 2) % 2)) = 0 then 0 else n) fl tx ln) H := hP
      have hD : va_D A (fQ cy x a tr s0 s1 pa q (if fRes fl (nI (((v / 16) / 2) % 2)) = 0 then K (nI (((v / 16) / 2) % 2)).toNatClampNeg else σ) (if fRes fl (nI (((v / 16) / 2) % 2)) = 0 then 0 else n) fl tx ln) := hD
      show W _ _ _ _ _ _ _ _ _ _ _ _ _ _ _ (F0 mX 372 ls [.int (an (fRes fl (nI (((v / 16) / 2) % 2))) (nI (K (nI (((v / 16) / 2) % 2)).toNatClampNeg 2)))])
      exact W.widen (by omega) (by omega) (wr_i q (by show some (Value.int (acV v σ n K fl)) = _; unfold acV; rw [if_neg (show ¬ v % 16 < 2 by omega), if_neg (show ¬ v % 16 < 7 by omega), if_neg (show ¬ v % 16 < 8 by omega), if_neg (show ¬ v % 16 < 10 by omega), if_neg (show ¬ v % 16 < 11 by omega), if_neg (show ¬ v % 16 < 12 by omega), if_pos (show v % 16 < 13 by omega), if_neg c_340]) (by unfold acS; rw [if_neg (show ¬ v % 16 < 2 by omega), if_neg (show ¬ v % 16 < 7 by omega), if_neg (show ¬ v % 16 < 8 by omega), if_neg (show ¬ v % 16 < 10 by omega), if_neg (show ¬ v % 16 < 11 by omega), if_neg (show ¬ v % 16 < 12 by omega), if_pos (show v % 16 < 13 by omega), if_neg c_340]; exact fI_mono (c := bd + 99) hI (by omega) hbd) (by unfold acS; rw [if_neg (show ¬ v % 16 < 2 by omega), if_neg (show ¬ v % 16 < 7 by omega), if_neg (show ¬ v % 16 < 8 by omega), if_neg (show ¬ v % 16 < 10 by omega), if_neg (show ¬ v % 16 < 11 by omega), if_neg (show ¬ v % 16 < 12 by omega), if_pos (show v % 16 < 13 by omega), if_neg c_340]; exact hP) hS hx hb hr dL_act_372 hlk)
    · have c_340 := (nz_eq c_340 (by omega))
      refine lv_aload_n hx hb dL_act_343 rfl (lv_at hl 3 rfl) ?_
      refine lv_bipush (v := (nI 13)) hx hb dL_act_344 (by decide) ?_
      refine lv_iload_n hx hb dL_act_346 rfl (lv_at hl 2 rfl) ?_
      refine lv_iconst (v := (nI 2)) hx hb dL_act_347 (by decide) ?_
      refine lv_idiv hx hb dL_act_348 (nI_ne0 (by omega) (by omega)) ?_
      refine ti (pk_div (a := (v / 16)) (d := 2) (by omega) (by omega) (by omega)) ?_
      refine lv_iconst (v := (nI 2)) hx hb dL_act_349 (by decide) ?_
      refine lv_irem hx hb dL_act_350 (nI_ne0 (by omega) (by omega)) ?_
      refine ti (pk_rem (a := ((v / 16) / 2)) (d := 2) (by omega) (by omega) (by omega)) ?_
      refine lv_iconst (v := (nI 0)) hx hb dL_act_351 (by decide) ?_
      refine lv_iconst (v := (nI 0)) hx hb dL_act_352 (by decide) ?_
      refine wr_callS (pre := []) (wc := fQ cy x a tr s0 s1 pa q σ n fl tx ln) (va_runS (As := [.ref (x 0), .int (nI 13), .int (nI (((v / 16) / 2) % 2)), .int (nI 0), .int (nI 0)]) (rest := []) ⟨hx, hb, hml, hown, hts⟩ (c_L_call_13 l hfl g cy x a tr s0 s1 pa H.size bd q σ Hh n K fl tx ln (nI (((v / 16) / 2) % 2)) (nI 0) (nI 0) hI ) ⟨(cB 5 hts wd9_11 wd5_14 wd9_9 rfl rfl (by decide +kernel) ⟨Nat.le_of_ble_eq_true rfl, Nat.le_of_ble_eq_true rfl⟩), hts _ wd9_10⟩ (ps2 (ws := [] ++ fQ cy x a tr s0 s1 pa q σ n fl tx ln) hK hP hD hS hA hX hY _ nd_suffix at_suffix) rfl rfl hl.1 rfl (lv_room (Nat.le_of_ble_eq_true rfl)) dL_act_353 ⟨by show _ ≤ 10; omega, by show _ ≤ 60; omega⟩) hP hD hS hA (fun _ => fQ_ad) (fun q H locs hI hP hD hS => ?_)
      have h9 : fSlo (nI (((v / 16) / 2) % 2)) = 0 := (fSlo_0 (by omega))
      simp only [if_pos h9] at hI hP hD
      have hP : va_P g vwCl (fQ cy x a tr s0 s1 pa q σ n (sv2 fl (nI (((v / 16) / 2) % 2)).toNatClampNeg true) tx ln) H := hP
      have hD : va_D A (fQ cy x a tr s0 s1 pa q σ n (sv2 fl (nI (((v / 16) / 2) % 2)).toNatClampNeg true) tx ln) := hD
      refine ti (show an (fSlo (nI (((v / 16) / 2) % 2))) (nI (σ 2)) = (nI (σ 2)) from (an_0 h9)) ?_
      show W _ _ _ _ _ _ _ _ _ _ _ _ _ _ _ (F0 mX 356 ls [.int (nI (σ 2))])
      refine lv_goto (tgt := 372) hx hb dL_act_356 (by decide) ?_
      exact W.widen (by omega) (by omega) (wr_i q (by show some (Value.int (acV v σ n K fl)) = _; unfold acV; rw [if_neg (show ¬ v % 16 < 2 by omega), if_neg (show ¬ v % 16 < 7 by omega), if_neg (show ¬ v % 16 < 8 by omega), if_neg (show ¬ v % 16 < 10 by omega), if_neg (show ¬ v % 16 < 11 by omega), if_neg (show ¬ v % 16 < 12 by omega), if_pos (show v % 16 < 13 by omega), if_pos c_340]) (by unfold acS; rw [if_neg (show ¬ v % 16 < 2 by omega), if_neg (show ¬ v % 16 < 7 by omega), if_neg (show ¬ v % 16 < 8 by omega), if_neg (show ¬ v % 16 < 10 by omega), if_neg (show ¬ v % 16 < 11 by omega), if_neg (show ¬ v % 16 < 12 by omega), if_pos (show v % 16 < 13 by omega), if_pos c_340]; exact fI_mono (c := bd + 99) hI (by omega) hbd) (by unfold acS; rw [if_neg (show ¬ v % 16 < 2 by omega), if_neg (show ¬ v % 16 < 7 by omega), if_neg (show ¬ v % 16 < 8 by omega), if_neg (show ¬ v % 16 < 10 by omega), if_neg (show ¬ v % 16 < 11 by omega), if_neg (show ¬ v % 16 < 12 by omega), if_pos (show v % 16 < 13 by omega), if_pos c_340]; exact hP) hS hx hb hr dL_act_372 hlk)
  · refine lv_tableOut (tgt := 373) hx hb dL_act_24 (by decide) (by decide) ?_
    have i9 : 0 < (if (v / 16 / 99) % 4 = 0 then 99 else 5) ∧ (if (v / 16 / 99) % 4 = 0 then 99 else 5) ≤ 99 := by split <;> omega
    refine lv_aload_n hx hb dL_act_373 rfl (lv_at hl 3 rfl) ?_
    refine lv_bipush (v := (nI 8)) hx hb dL_act_374 (by decide) ?_
    refine lv_iconst (v := (nI 1)) hx hb dL_act_376 (by decide) ?_
    refine lv_iload_n hx hb dL_act_377 rfl (lv_at hl 2 rfl) ?_
    refine jn_i (pcj := 393) (ls := ls) (st := [.int (nI (v / 16)), .int (nI 1), .int (nI 8), .ref (x 0)]) (fun v9 => v9 = (nI (if ((v / 16) / 99) % 4 = 0 then 99 else 5))) ?_ (fun jn393 => ?_)
    · intro v9 hv9
      subst hv9
      refine lv_irem hx hb dL_act_393 (nI_ne0 (by omega) (by omega)) ?_
      refine ti (pk_rem (a := (v / 16)) (d := (if ((v / 16) / 99) % 4 = 0 then 99 else 5)) (by omega) (by omega) (by omega)) ?_
      refine lv_iadd hx hb dL_act_394 ?_
      refine ti (nI_add 1 ((v / 16) % (if ((v / 16) / 99) % 4 = 0 then 99 else 5))) ?_
      refine ti (show (nI (1 + ((v / 16) % (if ((v / 16) / 99) % 4 = 0 then 99 else 5)))) = (nI (aHo (v / 16))) from rfl) ?_
      refine lv_iconst (v := (nI 0)) hx hb dL_act_395 (by decide) ?_
      refine lv_iconst (v := (nI 0)) hx hb dL_act_396 (by decide) ?_
      refine wr_callS (pre := []) (wc := fQ cy x a tr s0 s1 pa q σ n fl tx ln) (va_runS (As := [.ref (x 0), .int (nI 8), .int (nI (aHo (v / 16))), .int (nI 0), .int (nI 0)]) (rest := []) ⟨hx, hb, hml, hown, hts⟩ (c_L_call_8 l hfl g cy x a tr s0 s1 pa H.size bd q σ Hh n K fl tx ln (nI (aHo (v / 16))) (nI 0) (nI 0) hI (by omega)) ⟨(cB 5 hts wd9_11 wd5_14 wd9_9 rfl rfl (by decide +kernel) ⟨Nat.le_of_ble_eq_true rfl, Nat.le_of_ble_eq_true rfl⟩), hts _ wd9_10⟩ (ps2 (ws := [] ++ fQ cy x a tr s0 s1 pa q σ n fl tx ln) hK hP hD hS hA hX hY _ nd_suffix at_suffix) rfl rfl hl.1 rfl (lv_room (Nat.le_of_ble_eq_true rfl)) dL_act_397 ⟨by show _ ≤ 10; omega, by show _ ≤ 60; omega⟩) hP hD hS hA (fun _ => fQ_ad) (fun q H locs hI hP hD hS => ?_)
      have hP : va_P g vwCl (fQ cy x a tr s0 s1 pa q (if fPass (nI (aHo (v / 16))) = 0 then hoursR σ (nI (aHo (v / 16))) else σ) (if fPass (nI (aHo (v / 16))) = 0 then hiN n else n) fl tx ln) H := hP
      have hD : va_D A (fQ cy x a tr s0 s1 pa q (if fPass (nI (aHo (v / 16))) = 0 then hoursR σ (nI (aHo (v / 16))) else σ) (if fPass (nI (aHo (v / 16))) = 0 then hiN n else n) fl tx ln) := hD
      show W _ _ _ _ _ _ _ _ _ _ _ _ _ _ _ (F0 mX 400 ls [.int (an (fPass (nI (aHo (v / 16)))) (nI (hoursA σ (nI (aHo (v / 16))))))])
      exact W.widen (by omega) (by omega) (wr_i q (by show some (Value.int (acV v σ n K fl)) = _; unfold acV; rw [if_neg (show ¬ v % 16 < 2 by omega), if_neg (show ¬ v % 16 < 7 by omega), if_neg (show ¬ v % 16 < 8 by omega), if_neg (show ¬ v % 16 < 10 by omega), if_neg (show ¬ v % 16 < 11 by omega), if_neg (show ¬ v % 16 < 12 by omega), if_neg (show ¬ v % 16 < 13 by omega)]) (by unfold acS; rw [if_neg (show ¬ v % 16 < 2 by omega), if_neg (show ¬ v % 16 < 7 by omega), if_neg (show ¬ v % 16 < 8 by omega), if_neg (show ¬ v % 16 < 10 by omega), if_neg (show ¬ v % 16 < 11 by omega), if_neg (show ¬ v % 16 < 12 by omega), if_neg (show ¬ v % 16 < 13 by omega)]; exact fI_mono (c := bd + 99) hI (by split <;> omega) hbd) (by unfold acS; rw [if_neg (show ¬ v % 16 < 2 by omega), if_neg (show ¬ v % 16 < 7 by omega), if_neg (show ¬ v % 16 < 8 by omega), if_neg (show ¬ v % 16 < 10 by omega), if_neg (show ¬ v % 16 < 11 by omega), if_neg (show ¬ v % 16 < 12 by omega), if_neg (show ¬ v % 16 < 13 by omega)]; exact hP) hS hx hb hr dL_act_400 hlk)
    · skip
      refine lv_iload_n hx hb dL_act_378 rfl (lv_at hl 2 rfl) ?_
      refine lv_bipush (v := (nI 99)) hx hb dL_act_379 (by decide) ?_
      refine lv_idiv hx hb dL_act_381 (nI_ne0 (by omega) (by omega)) ?_
      refine ti (pk_div (a := (v / 16)) (d := 99) (by omega) (by omega) (by omega)) ?_
      refine lv_iconst (v := (nI 4)) hx hb dL_act_382 (by decide) ?_
      refine lv_irem hx hb dL_act_383 (nI_ne0 (by omega) (by omega)) ?_
      refine ti (pk_rem (a := ((v / 16) / 99)) (d := 4) (by omega) (by omega) (by omega)) ?_
      refine lv_if_ne (tgt := 392) hx hb dL_act_384 (by decide) (fun c_384 => ?_) (fun c_384 => ?_)
      · have c_384 := (nz_ne c_384 (by omega))
        refine lv_iconst (v := (nI 5)) hx hb dL_act_392 (by decide) ?_
        exact jn393 _ (by rw [if_neg c_384])
      · have c_384 := (nz_eq c_384 (by omega))
        refine lv_bipush (v := (nI 99)) hx hb dL_act_387 (by decide) ?_
        refine lv_goto (tgt := 393) hx hb dL_act_389 (by decide) ?_
        exact jn393 _ (by rw [if_pos c_384])
  · refine lv_tableOut (tgt := 373) hx hb dL_act_24 (by decide) (by decide) ?_
    have i9 : 0 < (if (v / 16 / 99) % 4 = 0 then 99 else 5) ∧ (if (v / 16 / 99) % 4 = 0 then 99 else 5) ≤ 99 := by split <;> omega
    refine lv_aload_n hx hb dL_act_373 rfl (lv_at hl 3 rfl) ?_
    refine lv_bipush (v := (nI 8)) hx hb dL_act_374 (by decide) ?_
    refine lv_iconst (v := (nI 1)) hx hb dL_act_376 (by decide) ?_
    refine lv_iload_n hx hb dL_act_377 rfl (lv_at hl 2 rfl) ?_
    refine jn_i (pcj := 393) (ls := ls) (st := [.int (nI (v / 16)), .int (nI 1), .int (nI 8), .ref (x 0)]) (fun v9 => v9 = (nI (if ((v / 16) / 99) % 4 = 0 then 99 else 5))) ?_ (fun jn393 => ?_)
    · intro v9 hv9
      subst hv9
      refine lv_irem hx hb dL_act_393 (nI_ne0 (by omega) (by omega)) ?_
      refine ti (pk_rem (a := (v / 16)) (d := (if ((v / 16) / 99) % 4 = 0 then 99 else 5)) (by omega) (by omega) (by omega)) ?_
      refine lv_iadd hx hb dL_act_394 ?_
      refine ti (nI_add 1 ((v / 16) % (if ((v / 16) / 99) % 4 = 0 then 99 else 5))) ?_
      refine ti (show (nI (1 + ((v / 16) % (if ((v / 16) / 99) % 4 = 0 then 99 else 5)))) = (nI (aHo (v / 16))) from rfl) ?_
      refine lv_iconst (v := (nI 0)) hx hb dL_act_395 (by decide) ?_
      refine lv_iconst (v := (nI 0)) hx hb dL_act_396 (by decide) ?_
      refine wr_callS (pre := []) (wc := fQ cy x a tr s0 s1 pa q σ n fl tx ln) (va_runS (As := [.ref (x 0), .int (nI 8), .int (nI (aHo (v / 16))), .int (nI 0), .int (nI 0)]) (rest := []) ⟨hx, hb, hml, hown, hts⟩ (c_L_call_8 l hfl g cy x a tr s0 s1 pa H.size bd q σ Hh n K fl tx ln (nI (aHo (v / 16))) (nI 0) (nI 0) hI (by omega)) ⟨(cB 5 hts wd9_11 wd5_14 wd9_9 rfl rfl (by decide +kernel) ⟨Nat.le_of_ble_eq_true rfl, Nat.le_of_ble_eq_true rfl⟩), hts _ wd9_10⟩ (ps2 (ws := [] ++ fQ cy x a tr s0 s1 pa q σ n fl tx ln) hK hP hD hS hA hX hY _ nd_suffix at_suffix) rfl rfl hl.1 rfl (lv_room (Nat.le_of_ble_eq_true rfl)) dL_act_397 ⟨by show _ ≤ 10; omega, by show _ ≤ 60; omega⟩) hP hD hS hA (fun _ => fQ_ad) (fun q H locs hI hP hD hS => ?_)
      have hP : va_P g vwCl (fQ cy x a tr s0 s1 pa q (if fPass (nI (aHo (v / 16))) = 0 then hoursR σ (nI (aHo (v / 16))) else σ) (if fPass (nI (aHo (v / 16))) = 0 then hiN n else n) fl tx ln) H := hP
      have hD : va_D A (fQ cy x a tr s0 s1 pa q (if fPass (nI (aHo (v / 16))) = 0 then hoursR σ (nI (aHo (v / 16))) else σ) (if fPass (nI (aHo (v / 16))) = 0 then hiN n else n) fl tx ln) := hD
      show W _ _ _ _ _ _ _ _ _ _ _ _ _ _ _ (F0 mX 400 ls [.int (an (fPass (nI (aHo (v / 16)))) (nI (hoursA σ (nI (aHo (v / 16))))))])
      exact W.widen (by omega) (by omega) (wr_i q (by show some (Value.int (acV v σ n K fl)) = _; unfold acV; rw [if_neg (show ¬ v % 16 < 2 by omega), if_neg (show ¬ v % 16 < 7 by omega), if_neg (show ¬ v % 16 < 8 by omega), if_neg (show ¬ v % 16 < 10 by omega), if_neg (show ¬ v % 16 < 11 by omega), if_neg (show ¬ v % 16 < 12 by omega), if_neg (show ¬ v % 16 < 13 by omega)]) (by unfold acS; rw [if_neg (show ¬ v % 16 < 2 by omega), if_neg (show ¬ v % 16 < 7 by omega), if_neg (show ¬ v % 16 < 8 by omega), if_neg (show ¬ v % 16 < 10 by omega), if_neg (show ¬ v % 16 < 11 by omega), if_neg (show ¬ v % 16 < 12 by omega), if_neg (show ¬ v % 16 < 13 by omega)]; exact fI_mono (c := bd + 99) hI (by split <;> omega) hbd) (by unfold acS; rw [if_neg (show ¬ v % 16 < 2 by omega), if_neg (show ¬ v % 16 < 7 by omega), if_neg (show ¬ v % 16 < 8 by omega), if_neg (show ¬ v % 16 < 10 by omega), if_neg (show ¬ v % 16 < 11 by omega), if_neg (show ¬ v % 16 < 12 by omega), if_neg (show ¬ v % 16 < 13 by omega)]; exact hP) hS hx hb hr dL_act_400 hlk)
    · skip
      refine lv_iload_n hx hb dL_act_378 rfl (lv_at hl 2 rfl) ?_
      refine lv_bipush (v := (nI 99)) hx hb dL_act_379 (by decide) ?_
      refine lv_idiv hx hb dL_act_381 (nI_ne0 (by omega) (by omega)) ?_
      refine ti (pk_div (a := (v / 16)) (d := 99) (by omega) (by omega) (by omega)) ?_
      refine lv_iconst (v := (nI 4)) hx hb dL_act_382 (by decide) ?_
      refine lv_irem hx hb dL_act_383 (nI_ne0 (by omega) (by omega)) ?_
      refine ti (pk_rem (a := ((v / 16) / 99)) (d := 4) (by omega) (by omega) (by omega)) ?_
      refine lv_if_ne (tgt := 392) hx hb dL_act_384 (by decide) (fun c_384 => ?_) (fun c_384 => ?_)
      · have c_384 := (nz_ne c_384 (by omega))
        refine lv_iconst (v := (nI 5)) hx hb dL_act_392 (by decide) ?_
        exact jn393 _ (by rw [if_neg c_384])
      · have c_384 := (nz_eq c_384 (by omega))
        refine lv_bipush (v := (nI 99)) hx hb dL_act_387 (by decide) ?_
        refine lv_goto (tgt := 393) hx hb dL_act_389 (by decide) ?_
        exact jn393 _ (by rw [if_pos c_384])
  · refine lv_tableOut (tgt := 373) hx hb dL_act_24 (by decide) (by decide) ?_
    have i9 : 0 < (if (v / 16 / 99) % 4 = 0 then 99 else 5) ∧ (if (v / 16 / 99) % 4 = 0 then 99 else 5) ≤ 99 := by split <;> omega
    refine lv_aload_n hx hb dL_act_373 rfl (lv_at hl 3 rfl) ?_
    refine lv_bipush (v := (nI 8)) hx hb dL_act_374 (by decide) ?_
    refine lv_iconst (v := (nI 1)) hx hb dL_act_376 (by decide) ?_
    refine lv_iload_n hx hb dL_act_377 rfl (lv_at hl 2 rfl) ?_
    refine jn_i (pcj := 393) (ls := ls) (st := [.int (nI (v / 16)), .int (nI 1), .int (nI 8), .ref (x 0)]) (fun v9 => v9 = (nI (if ((v / 16) / 99) % 4 = 0 then 99 else 5))) ?_ (fun jn393 => ?_)
    · intro v9 hv9
      subst hv9
      refine lv_irem hx hb dL_act_393 (nI_ne0 (by omega) (by omega)) ?_
      refine ti (pk_rem (a := (v / 16)) (d := (if ((v / 16) / 99) % 4 = 0 then 99 else 5)) (by omega) (by omega) (by omega)) ?_
      refine lv_iadd hx hb dL_act_394 ?_
      refine ti (nI_add 1 ((v / 16) % (if ((v / 16) / 99) % 4 = 0 then 99 else 5))) ?_
      refine ti (show (nI (1 + ((v / 16) % (if ((v / 16) / 99) % 4 = 0 then 99 else 5)))) = (nI (aHo (v / 16))) from rfl) ?_
      refine lv_iconst (v := (nI 0)) hx hb dL_act_395 (by decide) ?_
      refine lv_iconst (v := (nI 0)) hx hb dL_act_396 (by decide) ?_
      refine wr_callS (pre := []) (wc := fQ cy x a tr s0 s1 pa q σ n fl tx ln) (va_runS (As := [.ref (x 0), .int (nI 8), .int (nI (aHo (v / 16))), .int (nI 0), .int (nI 0)]) (rest := []) ⟨hx, hb, hml, hown, hts⟩ (c_L_call_8 l hfl g cy x a tr s0 s1 pa H.size bd q σ Hh n K fl tx ln (nI (aHo (v / 16))) (nI 0) (nI 0) hI (by omega)) ⟨(cB 5 hts wd9_11 wd5_14 wd9_9 rfl rfl (by decide +kernel) ⟨Nat.le_of_ble_eq_true rfl, Nat.le_of_ble_eq_true rfl⟩), hts _ wd9_10⟩ (ps2 (ws := [] ++ fQ cy x a tr s0 s1 pa q σ n fl tx ln) hK hP hD hS hA hX hY _ nd_suffix at_suffix) rfl rfl hl.1 rfl (lv_room (Nat.le_of_ble_eq_true rfl)) dL_act_397 ⟨by show _ ≤ 10; omega, by show _ ≤ 60; omega⟩) hP hD hS hA (fun _ => fQ_ad) (fun q H locs hI hP hD hS => ?_)
      have hP : va_P g vwCl (fQ cy x a tr s0 s1 pa q (if fPass (nI (aHo (v / 16))) = 0 then hoursR σ (nI (aHo (v / 16))) else σ) (if fPass (nI (aHo (v / 16))) = 0 then hiN n else n) fl tx ln) H := hP
      have hD : va_D A (fQ cy x a tr s0 s1 pa q (if fPass (nI (aHo (v / 16))) = 0 then hoursR σ (nI (aHo (v / 16))) else σ) (if fPass (nI (aHo (v / 16))) = 0 then hiN n else n) fl tx ln) := hD
      show W _ _ _ _ _ _ _ _ _ _ _ _ _ _ _ (F0 mX 400 ls [.int (an (fPass (nI (aHo (v / 16)))) (nI (hoursA σ (nI (aHo (v / 16))))))])
      exact W.widen (by omega) (by omega) (wr_i q (by show some (Value.int (acV v σ n K fl)) = _; unfold acV; rw [if_neg (show ¬ v % 16 < 2 by omega), if_neg (show ¬ v % 16 < 7 by omega), if_neg (show ¬ v % 16 < 8 by omega), if_neg (show ¬ v % 16 < 10 by omega), if_neg (show ¬ v % 16 < 11 by omega), if_neg (show ¬ v % 16 < 12 by omega), if_neg (show ¬ v % 16 < 13 by omega)]) (by unfold acS; rw [if_neg (show ¬ v % 16 < 2 by omega), if_neg (show ¬ v % 16 < 7 by omega), if_neg (show ¬ v % 16 < 8 by omega), if_neg (show ¬ v % 16 < 10 by omega), if_neg (show ¬ v % 16 < 11 by omega), if_neg (show ¬ v % 16 < 12 by omega), if_neg (show ¬ v % 16 < 13 by omega)]; exact fI_mono (c := bd + 99) hI (by split <;> omega) hbd) (by unfold acS; rw [if_neg (show ¬ v % 16 < 2 by omega), if_neg (show ¬ v % 16 < 7 by omega), if_neg (show ¬ v % 16 < 8 by omega), if_neg (show ¬ v % 16 < 10 by omega), if_neg (show ¬ v % 16 < 11 by omega), if_neg (show ¬ v % 16 < 12 by omega), if_neg (show ¬ v % 16 < 13 by omega)]; exact hP) hS hx hb hr dL_act_400 hlk)
    · skip
      refine lv_iload_n hx hb dL_act_378 rfl (lv_at hl 2 rfl) ?_
      refine lv_bipush (v := (nI 99)) hx hb dL_act_379 (by decide) ?_
      refine lv_idiv hx hb dL_act_381 (nI_ne0 (by omega) (by omega)) ?_
      refine ti (pk_div (a := (v / 16)) (d := 99) (by omega) (by omega) (by omega)) ?_
      refine lv_iconst (v := (nI 4)) hx hb dL_act_382 (by decide) ?_
      refine lv_irem hx hb dL_act_383 (nI_ne0 (by omega) (by omega)) ?_
      refine ti (pk_rem (a := ((v / 16) / 99)) (d := 4) (by omega) (by omega) (by omega)) ?_
      refine lv_if_ne (tgt := 392) hx hb dL_act_384 (by decide) (fun c_384 => ?_) (fun c_384 => ?_)
      · have c_384 := (nz_ne c_384 (by omega))
        refine lv_iconst (v := (nI 5)) hx hb dL_act_392 (by decide) ?_
        exact jn393 _ (by rw [if_neg c_384])
      · have c_384 := (nz_eq c_384 (by omega))
        refine lv_bipush (v := (nI 99)) hx hb dL_act_387 (by decide) ?_
        refine lv_goto (tgt := 393) hx hb dL_act_389 (by decide) ?_
        exact jn393 _ (by rw [if_pos c_384])
