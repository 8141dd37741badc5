/-! P27: what holds on each board. -/
set_option maxHeartbeats 4000000 in
set_option maxRecDepth 100000 in
theorem c_L_holds (l : Launch) (hfl : l.stackTraces = false) (g : va_G) (cy : Nat → ClassId) (x a tr s0 s1 : Nat → Nat) (pa : Nat → Nat → Nat) (sz : Nat) (bd : Nat) (q : Sc) (σ : Nat → Nat) (Hh : Nat → Nat → Nat) (n : Nat) (K : Nat → Nat → Nat) (fl : Nat → Bool) (tx : Nat → Nat) (ln : Nat) (v : Nat) (hI : fI bd q σ Hh n K fl tx ln) (hv9 : v < 2 ^ 31) (hPI : PI σ) : Met l yL_holds (Cond.code yL_holds cL_holds 21 (some .boolean) :: wsL_law) ({ frames := 10, cells := 1500, slots := 9000, locals := 188 } : Room) (va_Pc [.ref (x 0), .int (nI v)] (pr2 g cy (fQ cy x a tr s0 s1 pa q σ n fl tx ln) sz)) (wr_Q (fun _ : Sc => some (.int (bI true))) (fun u => fI bd u σ Hh n K fl tx ln) (fun u => fQ cy x a tr s0 s1 pa u σ n fl tx ln) g (va_A (fQ cy x a tr s0 s1 pa q σ n fl tx ln) sz)) 1500 9000 (va_A (fQ cy x a tr s0 s1 pa q σ n fl tx ln) sz) := by
  refine mt_p (cc := cL_holds) (maxL := 21) (ret := some .boolean) (by decide +kernel) (Nat.le_of_ble_eq_true rfl) ?_
  intro pX eX s mX below meth cX ls A hx hb hr hml hown hts hlk hsz hAe hA hP hD hK hX hY hl
  subst hsz
  rw [← hAe]
  clear hAe
  have hl : lv_has ls 21 [(0, .ref (x 0)), (1, .int (nI v))] := hl
  have hS : va_S A s.heap s.heap [] := va_S.rf
  have hW := fI_wf hI
  have hn0 := hW.n0
  have hn1 := hW.n1
  have hh2 := hW.h2
  have hNN : NN = 4294967295 := rfl
  refine lv_aload_n hx hb dL_holds_0 rfl (lv_at hl 0 rfl) ?_
  refine lv_iconst (v := (nI 2)) hx hb dL_holds_1 (by decide) ?_
  refine lv_iconst (v := (nI 0)) hx hb dL_holds_2 (by decide) ?_
  refine lv_iconst (v := (nI 0)) hx hb dL_holds_3 (by decide) ?_
  refine lv_iconst (v := (nI 0)) hx hb dL_holds_4 (by decide) ?_
  refine wr_callS (pre := []) (wc := fQ cy x a tr s0 s1 pa q σ n fl tx ln) (va_runS (As := [.ref (x 0), .int (nI 2), .int (nI 0), .int (nI 0), .int (nI 0)]) (rest := []) ⟨hx, hb, hml, hown, hts⟩ (c_L_call_2 l hfl g cy x a tr s0 s1 pa s.heap.size bd q σ Hh n K fl tx ln (nI 0) (nI 0) (nI 0) hI ) ⟨(cB 5 hts wd9_11 wd5_14 wd9_9 rfl rfl (by decide +kernel) ⟨Nat.le_of_ble_eq_true rfl, Nat.le_of_ble_eq_true rfl⟩), hts _ wd9_10⟩ (ps2 (ws := [] ++ fQ cy x a tr s0 s1 pa q σ n fl tx ln) hK hP hD hS hA hX hY _ nd_suffix at_suffix) rfl rfl hl.1 rfl (lv_room (Nat.le_of_ble_eq_true rfl)) dL_holds_5 ⟨by show _ ≤ 1500; omega, by show _ ≤ 9000; omega⟩) hP hD hS hA (fun _ => fQ_ad) (fun q H locs hI hP hD hS => ?_)
  have hP : va_P g vwCl (fQ cy x a tr s0 s1 pa q σ n fl tx ln) H := hP
  have hD : va_D A (fQ cy x a tr s0 s1 pa q σ n fl tx ln) := hD
  refine ti (show an (fAbo (nI 0)) (nI (nbd σ (nI 0).toNatClampNeg)) = (nI (σ 0)) from (v_ab (w := 0) (by decide))) ?_
  show W _ _ _ _ _ _ _ _ _ _ _ _ _ _ _ (F0 mX 8 ls [.int (nI (σ 0))])
  refine lv_istore_n (lv' := [(2, .int (nI (σ 0))), (0, .ref (x 0)), (1, .int (nI v))]) hx hb dL_holds_8 rfl hl (by decide) rfl (fun ls hl => ?_)
  refine lv_aload_n hx hb dL_holds_9 rfl (lv_at hl 1 rfl) ?_
  refine lv_iconst (v := (nI 2)) hx hb dL_holds_10 (by decide) ?_
  refine lv_iconst (v := (nI 2)) hx hb dL_holds_11 (by decide) ?_
  refine lv_iconst (v := (nI 0)) hx hb dL_holds_12 (by decide) ?_
  refine lv_iconst (v := (nI 0)) hx hb dL_holds_13 (by decide) ?_
  refine wr_callS (pre := []) (wc := fQ cy x a tr s0 s1 pa q σ n fl tx ln) (va_runS (As := [.ref (x 0), .int (nI 2), .int (nI 2), .int (nI 0), .int (nI 0)]) (rest := []) ⟨hx, hb, hml, hown, hts⟩ (c_L_call_2 l hfl g cy x a tr s0 s1 pa H.size bd q σ Hh n K fl tx ln (nI 2) (nI 0) (nI 0) hI ) ⟨(cB 5 hts wd9_11 wd5_14 wd9_9 rfl rfl (by decide +kernel) ⟨Nat.le_of_ble_eq_true rfl, Nat.le_of_ble_eq_true rfl⟩), hts _ wd9_10⟩ (ps2 (ws := [] ++ fQ cy x a tr s0 s1 pa q σ n fl tx ln) hK hP hD hS hA hX hY _ nd_suffix at_suffix) rfl rfl hl.1 rfl (lv_room (Nat.le_of_ble_eq_true rfl)) dL_holds_14 ⟨by show _ ≤ 1500; omega, by show _ ≤ 9000; omega⟩) hP hD hS hA (fun _ => fQ_ad) (fun q H locs hI hP hD hS => ?_)
  have hP : va_P g vwCl (fQ cy x a tr s0 s1 pa q σ n fl tx ln) H := hP
  have hD : va_D A (fQ cy x a tr s0 s1 pa q σ n fl tx ln) := hD
  refine ti (show an (fAbo (nI 2)) (nI (nbd σ (nI 2).toNatClampNeg)) = (nI (σ 1)) from (v_ab (w := 2) (by decide))) ?_
  show W _ _ _ _ _ _ _ _ _ _ _ _ _ _ _ (F0 mX 17 ls [.int (nI (σ 1))])
  refine lv_istore_n (lv' := [(3, .int (nI (σ 1))), (2, .int (nI (σ 0))), (0, .ref (x 0)), (1, .int (nI v))]) hx hb dL_holds_17 rfl hl (by decide) rfl (fun ls hl => ?_)
  refine lv_aload_n hx hb dL_holds_18 rfl (lv_at hl 2 rfl) ?_
  refine lv_iconst (v := (nI 2)) hx hb dL_holds_19 (by decide) ?_
  refine lv_iconst (v := (nI 3)) hx hb dL_holds_20 (by decide) ?_
  refine lv_iconst (v := (nI 0)) hx hb dL_holds_21 (by decide) ?_
  refine lv_iconst (v := (nI 0)) hx hb dL_holds_22 (by decide) ?_
  refine wr_callS (pre := []) (wc := fQ cy x a tr s0 s1 pa q σ n fl tx ln) (va_runS (As := [.ref (x 0), .int (nI 2), .int (nI 3), .int (nI 0), .int (nI 0)]) (rest := []) ⟨hx, hb, hml, hown, hts⟩ (c_L_call_2 l hfl g cy x a tr s0 s1 pa H.size bd q σ Hh n K fl tx ln (nI 3) (nI 0) (nI 0) hI ) ⟨(cB 5 hts wd9_11 wd5_14 wd9_9 rfl rfl (by decide +kernel) ⟨Nat.le_of_ble_eq_true rfl, Nat.le_of_ble_eq_true rfl⟩), hts _ wd9_10⟩ (ps2 (ws := [] ++ fQ cy x a tr s0 s1 pa q σ n fl tx ln) hK hP hD hS hA hX hY _ nd_suffix at_suffix) rfl rfl hl.1 rfl (lv_room (Nat.le_of_ble_eq_true rfl)) dL_holds_23 ⟨by show _ ≤ 1500; omega, by show _ ≤ 9000; omega⟩) hP hD hS hA (fun _ => fQ_ad) (fun q H locs hI hP hD hS => ?_)
  have hP : va_P g vwCl (fQ cy x a tr s0 s1 pa q σ n fl tx ln) H := hP
  have hD : va_D A (fQ cy x a tr s0 s1 pa q σ n fl tx ln) := hD
  refine ti (show an (fAbo (nI 3)) (nI (nbd σ (nI 3).toNatClampNeg)) = (nI (σ 2)) from (v_ab (w := 3) (by decide))) ?_
  show W _ _ _ _ _ _ _ _ _ _ _ _ _ _ _ (F0 mX 26 ls [.int (nI (σ 2))])
  refine lv_istore (lv' := [(4, .int (nI (σ 2))), (3, .int (nI (σ 1))), (2, .int (nI (σ 0))), (0, .ref (x 0)), (1, .int (nI v))]) hx hb dL_holds_26 hl (by decide) rfl (fun ls hl => ?_)
  refine lv_iconst (v := (nI 0)) hx hb dL_holds_28 (by decide) ?_
  refine lv_istore (lv' := [(5, .int (nI 0)), (4, .int (nI (σ 2))), (3, .int (nI (σ 1))), (2, .int (nI (σ 0))), (0, .ref (x 0)), (1, .int (nI v))]) hx hb dL_holds_29 hl (by decide) rfl (fun ls hl => ?_)
  refine lv_iconst (v := (nI 0)) hx hb dL_holds_31 (by decide) ?_
  refine lv_istore (lv' := [(6, .int (nI 0)), (5, .int (nI 0)), (4, .int (nI (σ 2))), (3, .int (nI (σ 1))), (2, .int (nI (σ 0))), (0, .ref (x 0)), (1, .int (nI v))]) hx hb dL_holds_32 hl (by decide) rfl (fun ls hl => ?_)
  refine lv_iconst (v := (nI 0)) hx hb dL_holds_34 (by decide) ?_
  refine lv_istore (lv' := [(7, .int (nI 0)), (6, .int (nI 0)), (5, .int (nI 0)), (4, .int (nI (σ 2))), (3, .int (nI (σ 1))), (2, .int (nI (σ 0))), (0, .ref (x 0)), (1, .int (nI v))]) hx hb dL_holds_35 hl (by decide) rfl (fun ls hl => ?_)
  refine lv_iconst (v := (nI 0)) hx hb dL_holds_37 (by decide) ?_
  refine lv_istore (lv' := [(8, .int (nI 0)), (7, .int (nI 0)), (6, .int (nI 0)), (5, .int (nI 0)), (4, .int (nI (σ 2))), (3, .int (nI (σ 1))), (2, .int (nI (σ 0))), (0, .ref (x 0)), (1, .int (nI v))]) hx hb dL_holds_38 hl (by decide) rfl (fun ls hl => ?_)
  refine lv_iconst (v := (nI 0)) hx hb dL_holds_40 (by decide) ?_
  refine lv_istore (lv' := [(9, .int (nI 0)), (8, .int (nI 0)), (7, .int (nI 0)), (6, .int (nI 0)), (5, .int (nI 0)), (4, .int (nI (σ 2))), (3, .int (nI (σ 1))), (2, .int (nI (σ 0))), (0, .ref (x 0)), (1, .int (nI v))]) hx hb dL_holds_41 hl (by decide) rfl (fun ls hl => ?_)
  refine lv_iconst (v := (nI 0)) hx hb dL_holds_43 (by decide) ?_
  refine lv_istore (lv' := [(10, .int (nI 0)), (9, .int (nI 0)), (8, .int (nI 0)), (7, .int (nI 0)), (6, .int (nI 0)), (5, .int (nI 0)), (4, .int (nI (σ 2))), (3, .int (nI (σ 1))), (2, .int (nI (σ 0))), (0, .ref (x 0)), (1, .int (nI v))]) hx hb dL_holds_44 hl (by decide) rfl (fun ls hl => ?_)
  refine lv_iconst (v := (nI 0)) hx hb dL_holds_46 (by decide) ?_
  refine lv_istore (lv' := [(11, .int (nI 0)), (10, .int (nI 0)), (9, .int (nI 0)), (8, .int (nI 0)), (7, .int (nI 0)), (6, .int (nI 0)), (5, .int (nI 0)), (4, .int (nI (σ 2))), (3, .int (nI (σ 1))), (2, .int (nI (σ 0))), (0, .ref (x 0)), (1, .int (nI v))]) hx hb dL_holds_47 hl (by decide) rfl (fun ls hl => ?_)
  refine lv_iload_n hx hb dL_holds_49 rfl (lv_at hl 9 rfl) ?_
  refine lv_bipush (v := (nI 6)) hx hb dL_holds_50 (by decide) ?_
  refine lv_icmp_gt (tgt := 65) hx hb dL_holds_52 (by decide) (fun c_52 => ?_) (fun c_52 => ?_)
  · have c_52 := (nc_lt (by omega) (by omega) c_52)
    omega
  · have c_52 := (nc_nlt (by omega) (by omega) c_52)
    refine lv_iload_n hx hb dL_holds_55 rfl (lv_at hl 8 rfl) ?_
    refine lv_bipush (v := (nI 20)) hx hb dL_holds_56 (by decide) ?_
    refine lv_icmp_gt (tgt := 65) hx hb dL_holds_58 (by decide) (fun c_58 => ?_) (fun c_58 => ?_)
    · have c_58 := (nc_lt (by omega) (by omega) c_58)
      omega
    · have c_58 := (nc_nlt (by omega) (by omega) c_58)
      refine lv_iconst (v := (nI 1)) hx hb dL_holds_61 (by decide) ?_
      refine lv_goto (tgt := 66) hx hb dL_holds_62 (by decide) ?_
      refine lv_istore (lv' := [(12, .int (nI 1)), (11, .int (nI 0)), (10, .int (nI 0)), (9, .int (nI 0)), (8, .int (nI 0)), (7, .int (nI 0)), (6, .int (nI 0)), (5, .int (nI 0)), (4, .int (nI (σ 2))), (3, .int (nI (σ 1))), (2, .int (nI (σ 0))), (0, .ref (x 0)), (1, .int (nI v))]) hx hb dL_holds_66 hl (by decide) rfl (fun ls hl => ?_)
      refine lv_iconst (v := (nI 0)) hx hb dL_holds_68 (by decide) ?_
      refine lv_istore (lv' := [(13, .int (nI 0)), (12, .int (nI 1)), (11, .int (nI 0)), (10, .int (nI 0)), (9, .int (nI 0)), (8, .int (nI 0)), (7, .int (nI 0)), (6, .int (nI 0)), (5, .int (nI 0)), (4, .int (nI (σ 2))), (3, .int (nI (σ 1))), (2, .int (nI (σ 0))), (0, .ref (x 0)), (1, .int (nI v))]) hx hb dL_holds_69 hl (by decide) rfl (fun ls hl => ?_)
      have hl : lv_has ls 21 [(13, .int (nI 0)), (12, .int (nI 1)), (11, .int (nI 0)), (10, .int (nI 0)), (9, .int (nI 0)), (8, .int (nI 0)), (7, .int (nI 0)), (6, .int (nI 0)), (5, .int (nI (ct (msg σ) 0))), (4, .int (nI (σ 2))), (3, .int (nI (σ 1))), (2, .int (nI (σ 0))), (0, .ref (x 0)), (1, .int (nI v))] := by rw [← show (nI 0) = (nI (ct (msg σ) 0)) from rfl]; exact hl
      have hl : lv_has ls 21 [(13, .int (nI 0)), (12, .int (nI 1)), (11, .int (nI 0)), (10, .int (nI 0)), (9, .int (nI 0)), (8, .int (nI 0)), (7, .int (nI 0)), (6, .int (nI (sm (fun d9 => if msg σ d9 then dg σ d9 4 else 0) 0))), (5, .int (nI (ct (msg σ) 0))), (4, .int (nI (σ 2))), (3, .int (nI (σ 1))), (2, .int (nI (σ 0))), (0, .ref (x 0)), (1, .int (nI v))] := by rw [← show (nI 0) = (nI (sm (fun d9 => if msg σ d9 then dg σ d9 4 else 0) 0)) from rfl]; exact hl
      have hl : lv_has ls 21 [(13, .int (nI 0)), (12, .int (nI 1)), (11, .int (nI 0)), (10, .int (nI 0)), (9, .int (nI (sm (fun d9 => ct (mng σ d9) (σ 1)) 0))), (8, .int (nI 0)), (7, .int (nI 0)), (6, .int (nI (sm (fun d9 => if msg σ d9 then dg σ d9 4 else 0) 0))), (5, .int (nI (ct (msg σ) 0))), (4, .int (nI (σ 2))), (3, .int (nI (σ 1))), (2, .int (nI (σ 0))), (0, .ref (x 0)), (1, .int (nI v))] := by rw [← show (nI 0) = (nI (sm (fun d9 => ct (mng σ d9) (σ 1)) 0)) from rfl]; exact hl
      have hl : lv_has ls 21 [(13, .int (nI 0)), (12, .int (nI 1)), (11, .int (nI (sm (fun d9 => dg σ d9 4) 0))), (10, .int (nI 0)), (9, .int (nI (sm (fun d9 => ct (mng σ d9) (σ 1)) 0))), (8, .int (nI 0)), (7, .int (nI 0)), (6, .int (nI (sm (fun d9 => if msg σ d9 then dg σ d9 4 else 0) 0))), (5, .int (nI (ct (msg σ) 0))), (4, .int (nI (σ 2))), (3, .int (nI (σ 1))), (2, .int (nI (σ 0))), (0, .ref (x 0)), (1, .int (nI v))] := by rw [← show (nI 0) = (nI (sm (fun d9 => dg σ d9 4) 0)) from rfl]; exact hl
      refine W.widen (k := 3 + 100 * 0) (n := 6 * (3 + 100 * 0)) (by omega) (by omega) ?_
      refine lp_ac (fc := fun x9 => 3 + 100 * x9.1) (fs := fun x9 => 6 * (3 + 100 * x9.1)) (σ := (Nat) × Sc) (fun x9 H9 locs9 ls9 => va_P g vwCl (fQ cy x a tr s0 s1 pa x9.2 σ n fl tx ln) H9 ∧ va_D A (fQ cy x a tr s0 s1 pa x9.2 σ n fl tx ln) ∧ va_S A s.heap H9 locs9 ∧ fI bd x9.2 σ Hh n K fl tx ln ∧ lv_has ls9 21 [(0, .ref (x 0)), (1, .int (nI v)), (2, .int (nI (σ 0))), (3, .int (nI (σ 1))), (4, .int (nI (σ 2))), (5, .int (nI (ct (msg σ) x9.1))), (6, .int (nI (sm (fun d9 => if msg σ d9 then dg σ d9 4 else 0) x9.1))), (7, .int (nI 0)), (8, .int (nI 0)), (9, .int (nI (sm (fun d9 => ct (mng σ d9) (σ 1)) x9.1))), (10, .int (nI 0)), (11, .int (nI (sm (fun d9 => dg σ d9 4) x9.1))), (12, .int (nI 1)), (13, .int (nI x9.1))] ∧ (x9.1 ≤ σ 0)) (fun x9 => σ 0 - x9.1) (0, q) ⟨hP, hD, hS, hI, lv_sub hl [12, 13, 11, 10, 9, 8, 7, 6, 5, 4, 3, 2, 1, 0] rfl, (Nat.zero_le _)⟩ ?_
      rintro ⟨d, q⟩ H locs ls ⟨hP, hD, hS, hI, hl, hd⟩ ih71
      dsimp only at hP hD hl hI hd ih71 ⊢
      refine lv_iload hx hb dL_holds_71 (lv_at hl 13 rfl) ?_
      refine lv_iload_n hx hb dL_holds_73 rfl (lv_at hl 2 rfl) ?_
      refine lv_icmp_ge (tgt := 432) hx hb dL_holds_74 (by decide) (fun c_74 => ?_) (fun c_74 => ?_)
      · have c_74 := (nc_le (by omega) (by omega) c_74)
        have hdn : d = σ 0 := by omega
        subst hdn
        refine lv_iconst (v := (nI 0)) hx hb dL_holds_432 (by decide) ?_
        refine lv_istore (lv' := [(13, .int (nI 0)), (0, .ref (x 0)), (1, .int (nI v)), (2, .int (nI (σ 0))), (3, .int (nI (σ 1))), (4, .int (nI (σ 2))), (5, .int (nI (ct (msg σ) (σ 0)))), (6, .int (nI (sm (fun d9 => if msg σ d9 then dg σ d9 4 else 0) (σ 0)))), (7, .int (nI 0)), (8, .int (nI 0)), (9, .int (nI (sm (fun d9 => ct (mng σ d9) (σ 1)) (σ 0)))), (10, .int (nI 0)), (11, .int (nI (sm (fun d9 => dg σ d9 4) (σ 0)))), (12, .int (nI 1))]) hx hb dL_holds_433 hl (by decide) rfl (fun ls hl => ?_)
        have hl : lv_has ls 21 [(13, .int (nI 0)), (0, .ref (x 0)), (1, .int (nI v)), (2, .int (nI (σ 0))), (3, .int (nI (σ 1))), (4, .int (nI (σ 2))), (5, .int (nI (ct (msg σ) (σ 0)))), (6, .int (nI (sm (fun d9 => if msg σ d9 then dg σ d9 4 else 0) (σ 0)))), (7, .int (nI (ct (frd σ) 0))), (8, .int (nI 0)), (9, .int (nI (sm (fun d9 => ct (mng σ d9) (σ 1)) (σ 0)))), (10, .int (nI 0)), (11, .int (nI (sm (fun d9 => dg σ d9 4) (σ 0)))), (12, .int (nI 1))] := by rw [← show (nI 0) = (nI (ct (frd σ) 0)) from rfl]; exact hl
        have hl : lv_has ls 21 [(13, .int (nI 0)), (0, .ref (x 0)), (1, .int (nI v)), (2, .int (nI (σ 0))), (3, .int (nI (σ 1))), (4, .int (nI (σ 2))), (5, .int (nI (ct (msg σ) (σ 0)))), (6, .int (nI (sm (fun d9 => if msg σ d9 then dg σ d9 4 else 0) (σ 0)))), (7, .int (nI (ct (frd σ) 0))), (8, .int (nI (ct (mng σ NN) 0))), (9, .int (nI (sm (fun d9 => ct (mng σ d9) (σ 1)) (σ 0)))), (10, .int (nI 0)), (11, .int (nI (sm (fun d9 => dg σ d9 4) (σ 0)))), (12, .int (nI 1))] := by rw [← show (nI 0) = (nI (ct (mng σ NN) 0)) from rfl]; exact hl
        refine W.widen (k := 700 + 10 * 0) (n := 6 * (700 + 10 * 0)) (by omega) (by omega) ?_
        refine lp_ac (fc := fun x9 => 700 + 10 * x9.1) (fs := fun x9 => 6 * (700 + 10 * x9.1)) (σ := (Nat) × Sc) (fun x9 H9 locs9 ls9 => va_P g vwCl (fQ cy x a tr s0 s1 pa x9.2 σ n fl tx ln) H9 ∧ va_D A (fQ cy x a tr s0 s1 pa x9.2 σ n fl tx ln) ∧ va_S A s.heap H9 locs9 ∧ fI bd x9.2 σ Hh n K fl tx ln ∧ lv_has ls9 21 [(0, .ref (x 0)), (1, .int (nI v)), (2, .int (nI (σ 0))), (3, .int (nI (σ 1))), (4, .int (nI (σ 2))), (5, .int (nI (ct (msg σ) (σ 0)))), (6, .int (nI (sm (fun d9 => if msg σ d9 then dg σ d9 4 else 0) (σ 0)))), (9, .int (nI (sm (fun d9 => ct (mng σ d9) (σ 1)) (σ 0)))), (10, .int (nI 0)), (11, .int (nI (sm (fun d9 => dg σ d9 4) (σ 0)))), (12, .int (nI 1)), (7, .int (nI (ct (frd σ) x9.1))), (8, .int (nI (ct (mng σ NN) x9.1))), (13, .int (nI x9.1))] ∧ (x9.1 ≤ σ 1)) (fun x9 => σ 1 - x9.1) (0, q) ⟨hP, hD, hS, hI, lv_sub hl [1, 2, 3, 4, 5, 6, 7, 10, 11, 12, 13, 8, 9, 0] rfl, (Nat.zero_le _)⟩ ?_
        rintro ⟨s, q⟩ H locs ls ⟨hP, hD, hS, hI, hl, hs⟩ ih435
        dsimp only at hP hD hl hI hs ih435 ⊢
        refine lv_iload hx hb dL_holds_435 (lv_at hl 13 rfl) ?_
        refine lv_iload_n hx hb dL_holds_437 rfl (lv_at hl 3 rfl) ?_
        refine lv_icmp_ge (tgt := 640) hx hb dL_holds_438 (by decide) (fun c_438 => ?_) (fun c_438 => ?_)
        · have c_438 := (nc_le (by omega) (by omega) c_438)
          have hsn : s = σ 1 := by omega
          subst hsn
          refine lv_iconst (v := (nI 0)) hx hb dL_holds_640 (by decide) ?_
          refine lv_istore (lv' := [(13, .int (nI 0)), (0, .ref (x 0)), (1, .int (nI v)), (2, .int (nI (σ 0))), (3, .int (nI (σ 1))), (4, .int (nI (σ 2))), (5, .int (nI (ct (msg σ) (σ 0)))), (6, .int (nI (sm (fun d9 => if msg σ d9 then dg σ d9 4 else 0) (σ 0)))), (9, .int (nI (sm (fun d9 => ct (mng σ d9) (σ 1)) (σ 0)))), (10, .int (nI 0)), (11, .int (nI (sm (fun d9 => dg σ d9 4) (σ 0)))), (12, .int (nI 1)), (7, .int (nI (ct (frd σ) (σ 1)))), (8, .int (nI (ct (mng σ NN) (σ 1))))]) hx hb dL_holds_641 hl (by decide) rfl (fun ls hl => ?_)
          have hl : lv_has ls 21 [(13, .int (nI 0)), (0, .ref (x 0)), (1, .int (nI v)), (2, .int (nI (σ 0))), (3, .int (nI (σ 1))), (4, .int (nI (σ 2))), (5, .int (nI (ct (msg σ) (σ 0)))), (6, .int (nI (sm (fun d9 => if msg σ d9 then dg σ d9 4 else 0) (σ 0)))), (9, .int (nI (sm (fun d9 => ct (mng σ d9) (σ 1)) (σ 0)))), (10, .int (nI (sm (pu σ) 0))), (11, .int (nI (sm (fun d9 => dg σ d9 4) (σ 0)))), (12, .int (nI 1)), (7, .int (nI (ct (frd σ) (σ 1)))), (8, .int (nI (ct (mng σ NN) (σ 1))))] := by rw [← show (nI 0) = (nI (sm (pu σ) 0)) from rfl]; exact hl
          refine W.widen (k := 1000 + 0) (n := 6 * (1000 + 0)) (by omega) (by omega) ?_
          refine lp_ac (fc := fun x9 => 1000 + x9.1) (fs := fun x9 => 6 * (1000 + x9.1)) (σ := (Nat) × Sc) (fun x9 H9 locs9 ls9 => va_P g vwCl (fQ cy x a tr s0 s1 pa x9.2 σ n fl tx ln) H9 ∧ va_D A (fQ cy x a tr s0 s1 pa x9.2 σ n fl tx ln) ∧ va_S A s.heap H9 locs9 ∧ fI bd x9.2 σ Hh n K fl tx ln ∧ lv_has ls9 21 [(0, .ref (x 0)), (1, .int (nI v)), (2, .int (nI (σ 0))), (3, .int (nI (σ 1))), (4, .int (nI (σ 2))), (5, .int (nI (ct (msg σ) (σ 0)))), (6, .int (nI (sm (fun d9 => if msg σ d9 then dg σ d9 4 else 0) (σ 0)))), (7, .int (nI (ct (frd σ) (σ 1)))), (8, .int (nI (ct (mng σ NN) (σ 1)))), (9, .int (nI (sm (fun d9 => ct (mng σ d9) (σ 1)) (σ 0)))), (11, .int (nI (sm (fun d9 => dg σ d9 4) (σ 0)))), (12, .int (nI 1)), (10, .int (nI (sm (pu σ) x9.1))), (13, .int (nI x9.1))] ∧ (x9.1 ≤ 8)) (fun x9 => 8 - x9.1) (0, q) ⟨hP, hD, hS, hI, lv_sub hl [1, 2, 3, 4, 5, 6, 7, 12, 13, 8, 10, 11, 9, 0] rfl, (Nat.zero_le _)⟩ ?_
          rintro ⟨f, q⟩ H locs ls ⟨hP, hD, hS, hI, hl, hf⟩ ih643
          dsimp only at hP hD hl hI hf ih643 ⊢
          refine lv_iload hx hb dL_holds_643 (lv_at hl 13 rfl) ?_
          refine lv_bipush (v := (nI 8)) hx hb dL_holds_645 (by decide) ?_
          refine lv_icmp_ge (tgt := 670) hx hb dL_holds_647 (by decide) (fun c_647 => ?_) (fun c_647 => ?_)
          · have c_647 := (nc_le (by omega) (by omega) c_647)
            have hf8 : f = 8 := by omega
            subst hf8
            have wa := wvN_c (σ := σ) (a := v % 12) (b := (v / 12) % 12) (by omega) (by omega)
            have wb := wvN_c (σ := σ) (a := (v / 12) % 12) (b := (v / 144) % 12) (by omega) (by omega)
            have wc := wvN_c (σ := σ) (a := v % 12) (b := (v / 144) % 12) (by omega) (by omega)
            have w0 := wvN_0 (σ := σ) (a := v % 12) (b := (v / 12) % 12) (by omega) (by omega)
            have cn9 := PI_coins hPI
            have wn9 := wat_N (σ := σ)
            have wl9 := wat_lt (σ := σ)
            have cm9 := ct_le (msg σ) (σ 0)
            refine lv_iload_n hx hb dL_holds_670 rfl (lv_at hl 1 rfl) ?_
            refine lv_bipush (v := (nI 12)) hx hb dL_holds_671 (by decide) ?_
            refine lv_irem hx hb dL_holds_673 (nI_ne0 (by omega) (by omega)) ?_
            refine ti (pk_rem (a := v) (d := 12) (by omega) (by omega) (by omega)) ?_
            refine lv_istore (lv' := [(13, .int (nI (v % 12))), (0, .ref (x 0)), (1, .int (nI v)), (2, .int (nI (σ 0))), (3, .int (nI (σ 1))), (4, .int (nI (σ 2))), (5, .int (nI (ct (msg σ) (σ 0)))), (6, .int (nI (sm (fun d9 => if msg σ d9 then dg σ d9 4 else 0) (σ 0)))), (7, .int (nI (ct (frd σ) (σ 1)))), (8, .int (nI (ct (mng σ NN) (σ 1)))), (9, .int (nI (sm (fun d9 => ct (mng σ d9) (σ 1)) (σ 0)))), (11, .int (nI (sm (fun d9 => dg σ d9 4) (σ 0)))), (12, .int (nI 1)), (10, .int (nI (sm (pu σ) 8)))]) hx hb dL_holds_674 hl (by decide) rfl (fun ls hl => ?_)
            refine lv_iload_n hx hb dL_holds_676 rfl (lv_at hl 2 rfl) ?_
            refine lv_bipush (v := (nI 12)) hx hb dL_holds_677 (by decide) ?_
            refine lv_idiv hx hb dL_holds_679 (nI_ne0 (by omega) (by omega)) ?_
            refine ti (pk_div (a := v) (d := 12) (by omega) (by omega) (by omega)) ?_
            refine lv_bipush (v := (nI 12)) hx hb dL_holds_680 (by decide) ?_
            refine lv_irem hx hb dL_holds_682 (nI_ne0 (by omega) (by omega)) ?_
            refine ti (pk_rem (a := (v / 12)) (d := 12) (by omega) (by omega) (by omega)) ?_
            refine lv_istore (lv' := [(14, .int (nI ((v / 12) % 12))), (13, .int (nI (v % 12))), (0, .ref (x 0)), (1, .int (nI v)), (2, .int (nI (σ 0))), (3, .int (nI (σ 1))), (4, .int (nI (σ 2))), (5, .int (nI (ct (msg σ) (σ 0)))), (6, .int (nI (sm (fun d9 => if msg σ d9 then dg σ d9 4 else 0) (σ 0)))), (7, .int (nI (ct (frd σ) (σ 1)))), (8, .int (nI (ct (mng σ NN) (σ 1)))), (9, .int (nI (sm (fun d9 => ct (mng σ d9) (σ 1)) (σ 0)))), (11, .int (nI (sm (fun d9 => dg σ d9 4) (σ 0)))), (12, .int (nI 1)), (10, .int (nI (sm (pu σ) 8)))]) hx hb dL_holds_683 hl (by decide) rfl (fun ls hl => ?_)
            refine lv_iload_n hx hb dL_holds_685 rfl (lv_at hl 3 rfl) ?_
            refine lv_sipush (v := (nI 144)) hx hb dL_holds_686 (by decide) ?_
            refine lv_idiv hx hb dL_holds_689 (nI_ne0 (by omega) (by omega)) ?_
            refine ti (pk_div (a := v) (d := 144) (by omega) (by omega) (by omega)) ?_
            refine lv_bipush (v := (nI 12)) hx hb dL_holds_690 (by decide) ?_
            refine lv_irem hx hb dL_holds_692 (nI_ne0 (by omega) (by omega)) ?_
            refine ti (pk_rem (a := (v / 144)) (d := 12) (by omega) (by omega) (by omega)) ?_
            refine lv_istore (lv' := [(15, .int (nI ((v / 144) % 12))), (14, .int (nI ((v / 12) % 12))), (13, .int (nI (v % 12))), (0, .ref (x 0)), (1, .int (nI v)), (2, .int (nI (σ 0))), (3, .int (nI (σ 1))), (4, .int (nI (σ 2))), (5, .int (nI (ct (msg σ) (σ 0)))), (6, .int (nI (sm (fun d9 => if msg σ d9 then dg σ d9 4 else 0) (σ 0)))), (7, .int (nI (ct (frd σ) (σ 1)))), (8, .int (nI (ct (mng σ NN) (σ 1)))), (9, .int (nI (sm (fun d9 => ct (mng σ d9) (σ 1)) (σ 0)))), (11, .int (nI (sm (fun d9 => dg σ d9 4) (σ 0)))), (12, .int (nI 1)), (10, .int (nI (sm (pu σ) 8)))]) hx hb dL_holds_693 hl (by decide) rfl (fun ls hl => ?_)
            refine lv_aload_n hx hb dL_holds_695 rfl (lv_at hl 3 rfl) ?_
            refine lv_bipush (v := (nI 6)) hx hb dL_holds_696 (by decide) ?_
            refine lv_iload hx hb dL_holds_698 (lv_at hl 2 rfl) ?_
            refine lv_iload hx hb dL_holds_700 (lv_at hl 1 rfl) ?_
            refine lv_iconst (v := (nI 0)) hx hb dL_holds_702 (by decide) ?_
            refine wr_callS (pre := []) (wc := fQ cy x a tr s0 s1 pa q σ n fl tx ln) (va_runS (As := [.ref (x 0), .int (nI 6), .int (nI (v % 12)), .int (nI ((v / 12) % 12)), .int (nI 0)]) (rest := []) ⟨hx, hb, hml, hown, hts⟩ (c_L_call_6 l hfl g cy x a tr s0 s1 pa H.size bd q σ Hh n K fl tx ln (nI (v % 12)) (nI ((v / 12) % 12)) (nI 0) hI ) ⟨(cB 5 hts wd9_11 wd5_14 wd9_9 rfl rfl (by decide +kernel) ⟨Nat.le_of_ble_eq_true rfl, Nat.le_of_ble_eq_true rfl⟩), hts _ wd9_10⟩ (ps2 (ws := [] ++ fQ cy x a tr s0 s1 pa q σ n fl tx ln) hK hP hD hS hA hX hY _ nd_suffix at_suffix) rfl rfl hl.1 rfl (lv_room (Nat.le_of_ble_eq_true rfl)) dL_holds_703 ⟨by show _ ≤ 1500; omega, by show _ ≤ 9000; omega⟩) hP hD hS hA (fun _ => fQ_ad) (fun q H locs hI hP hD hS => ?_)
            have hP : va_P g vwCl (fQ cy x a tr s0 s1 pa q σ n fl tx ln) H := hP
            have hD : va_D A (fQ cy x a tr s0 s1 pa q σ n fl tx ln) := hD
            refine ti (show an (fApa (nI (v % 12)) (nI ((v / 12) % 12)) (nI 0)) (wv σ (12 * (nI (v % 12)).toNatClampNeg + (nI ((v / 12) % 12)).toNatClampNeg)) = (nI (wvN σ (v % 12) ((v / 12) % 12))) from ((v_ap (by omega) (by omega) (by decide)).trans wvN_e)) ?_
            show W _ _ _ _ _ _ _ _ _ _ _ _ _ _ _ (F0 mX 706 ls [.int (nI (wvN σ (v % 12) ((v / 12) % 12)))])
            refine lv_istore (lv' := [(16, .int (nI (wvN σ (v % 12) ((v / 12) % 12)))), (15, .int (nI ((v / 144) % 12))), (14, .int (nI ((v / 12) % 12))), (13, .int (nI (v % 12))), (0, .ref (x 0)), (1, .int (nI v)), (2, .int (nI (σ 0))), (3, .int (nI (σ 1))), (4, .int (nI (σ 2))), (5, .int (nI (ct (msg σ) (σ 0)))), (6, .int (nI (sm (fun d9 => if msg σ d9 then dg σ d9 4 else 0) (σ 0)))), (7, .int (nI (ct (frd σ) (σ 1)))), (8, .int (nI (ct (mng σ NN) (σ 1)))), (9, .int (nI (sm (fun d9 => ct (mng σ d9) (σ 1)) (σ 0)))), (11, .int (nI (sm (fun d9 => dg σ d9 4) (σ 0)))), (12, .int (nI 1)), (10, .int (nI (sm (pu σ) 8)))]) hx hb dL_holds_706 hl (by decide) rfl (fun ls hl => ?_)
            refine lv_aload_n hx hb dL_holds_708 rfl (lv_at hl 4 rfl) ?_
            refine lv_bipush (v := (nI 6)) hx hb dL_holds_709 (by decide) ?_
            refine lv_iload hx hb dL_holds_711 (lv_at hl 2 rfl) ?_
            refine lv_iload hx hb dL_holds_713 (lv_at hl 1 rfl) ?_
            refine lv_iconst (v := (nI 1)) hx hb dL_holds_715 (by decide) ?_
            refine wr_callS (pre := []) (wc := fQ cy x a tr s0 s1 pa q σ n fl tx ln) (va_runS (As := [.ref (x 0), .int (nI 6), .int (nI ((v / 12) % 12)), .int (nI ((v / 144) % 12)), .int (nI 1)]) (rest := []) ⟨hx, hb, hml, hown, hts⟩ (c_L_call_6 l hfl g cy x a tr s0 s1 pa H.size bd q σ Hh n K fl tx ln (nI ((v / 12) % 12)) (nI ((v / 144) % 12)) (nI 1) hI ) ⟨(cB 5 hts wd9_11 wd5_14 wd9_9 rfl rfl (by decide +kernel) ⟨Nat.le_of_ble_eq_true rfl, Nat.le_of_ble_eq_true rfl⟩), hts _ wd9_10⟩ (ps2 (ws := [] ++ fQ cy x a tr s0 s1 pa q σ n fl tx ln) hK hP hD hS hA hX hY _ nd_suffix at_suffix) rfl rfl hl.1 rfl (lv_room (Nat.le_of_ble_eq_true rfl)) dL_holds_716 ⟨by show _ ≤ 1500; omega, by show _ ≤ 9000; omega⟩) hP hD hS hA (fun _ => fQ_ad) (fun q H locs hI hP hD hS => ?_)
            have hP : va_P g vwCl (fQ cy x a tr s0 s1 pa q σ n fl tx ln) H := hP
            have hD : va_D A (fQ cy x a tr s0 s1 pa q σ n fl tx ln) := hD
            refine ti (show an (fApa (nI ((v / 12) % 12)) (nI ((v / 144) % 12)) (nI 1)) (wv σ (12 * (nI ((v / 12) % 12)).toNatClampNeg + (nI ((v / 144) % 12)).toNatClampNeg)) = (nI (wvN σ ((v / 12) % 12) ((v / 144) % 12))) from ((v_ap (by omega) (by omega) (by decide)).trans wvN_e)) ?_
            show W _ _ _ _ _ _ _ _ _ _ _ _ _ _ _ (F0 mX 719 ls [.int (nI (wvN σ ((v / 12) % 12) ((v / 144) % 12)))])
            refine lv_istore (lv' := [(17, .int (nI (wvN σ ((v / 12) % 12) ((v / 144) % 12)))), (16, .int (nI (wvN σ (v % 12) ((v / 12) % 12)))), (15, .int (nI ((v / 144) % 12))), (14, .int (nI ((v / 12) % 12))), (13, .int (nI (v % 12))), (0, .ref (x 0)), (1, .int (nI v)), (2, .int (nI (σ 0))), (3, .int (nI (σ 1))), (4, .int (nI (σ 2))), (5, .int (nI (ct (msg σ) (σ 0)))), (6, .int (nI (sm (fun d9 => if msg σ d9 then dg σ d9 4 else 0) (σ 0)))), (7, .int (nI (ct (frd σ) (σ 1)))), (8, .int (nI (ct (mng σ NN) (σ 1)))), (9, .int (nI (sm (fun d9 => ct (mng σ d9) (σ 1)) (σ 0)))), (11, .int (nI (sm (fun d9 => dg σ d9 4) (σ 0)))), (12, .int (nI 1)), (10, .int (nI (sm (pu σ) 8)))]) hx hb dL_holds_719 hl (by decide) rfl (fun ls hl => ?_)
            refine lv_aload_n hx hb dL_holds_721 rfl (lv_at hl 5 rfl) ?_
            refine lv_bipush (v := (nI 6)) hx hb dL_holds_722 (by decide) ?_
            refine lv_iload hx hb dL_holds_724 (lv_at hl 4 rfl) ?_
            refine lv_iload hx hb dL_holds_726 (lv_at hl 2 rfl) ?_
            refine lv_iconst (v := (nI 0)) hx hb dL_holds_728 (by decide) ?_
            refine wr_callS (pre := []) (wc := fQ cy x a tr s0 s1 pa q σ n fl tx ln) (va_runS (As := [.ref (x 0), .int (nI 6), .int (nI (v % 12)), .int (nI ((v / 144) % 12)), .int (nI 0)]) (rest := []) ⟨hx, hb, hml, hown, hts⟩ (c_L_call_6 l hfl g cy x a tr s0 s1 pa H.size bd q σ Hh n K fl tx ln (nI (v % 12)) (nI ((v / 144) % 12)) (nI 0) hI ) ⟨(cB 5 hts wd9_11 wd5_14 wd9_9 rfl rfl (by decide +kernel) ⟨Nat.le_of_ble_eq_true rfl, Nat.le_of_ble_eq_true rfl⟩), hts _ wd9_10⟩ (ps2 (ws := [] ++ fQ cy x a tr s0 s1 pa q σ n fl tx ln) hK hP hD hS hA hX hY _ nd_suffix at_suffix) rfl rfl hl.1 rfl (lv_room (Nat.le_of_ble_eq_true rfl)) dL_holds_729 ⟨by show _ ≤ 1500; omega, by show _ ≤ 9000; omega⟩) hP hD hS hA (fun _ => fQ_ad) (fun q H locs hI hP hD hS => ?_)
            have hP : va_P g vwCl (fQ cy x a tr s0 s1 pa q σ n fl tx ln) H := hP
            have hD : va_D A (fQ cy x a tr s0 s1 pa q σ n fl tx ln) := hD
            refine ti (show an (fApa (nI (v % 12)) (nI ((v / 144) % 12)) (nI 0)) (wv σ (12 * (nI (v % 12)).toNatClampNeg + (nI ((v / 144) % 12)).toNatClampNeg)) = (nI (wvN σ (v % 12) ((v / 144) % 12))) from ((v_ap (by omega) (by omega) (by decide)).trans wvN_e)) ?_
            show W _ _ _ _ _ _ _ _ _ _ _ _ _ _ _ (F0 mX 732 ls [.int (nI (wvN σ (v % 12) ((v / 144) % 12)))])
            refine lv_istore (lv' := [(18, .int (nI (wvN σ (v % 12) ((v / 144) % 12)))), (17, .int (nI (wvN σ ((v / 12) % 12) ((v / 144) % 12)))), (16, .int (nI (wvN σ (v % 12) ((v / 12) % 12)))), (15, .int (nI ((v / 144) % 12))), (14, .int (nI ((v / 12) % 12))), (13, .int (nI (v % 12))), (0, .ref (x 0)), (1, .int (nI v)), (2, .int (nI (σ 0))), (3, .int (nI (σ 1))), (4, .int (nI (σ 2))), (5, .int (nI (ct (msg σ) (σ 0)))), (6, .int (nI (sm (fun d9 => if msg σ d9 then dg σ d9 4 else 0) (σ 0)))), (7, .int (nI (ct (frd σ) (σ 1)))), (8, .int (nI (ct (mng σ NN) (σ 1)))), (9, .int (nI (sm (fun d9 => ct (mng σ d9) (σ 1)) (σ 0)))), (11, .int (nI (sm (fun d9 => dg σ d9 4) (σ 0)))), (12, .int (nI 1)), (10, .int (nI (sm (pu σ) 8)))]) hx hb dL_holds_732 hl (by decide) rfl (fun ls hl => ?_)
            refine lv_iload hx hb dL_holds_734 (lv_at hl 17 rfl) ?_
            refine lv_if_eq (tgt := 828) hx hb dL_holds_736 (by decide) (fun c9 => absurd c9 (by decide)) (fun _ => ?_)
            refine lv_iload hx hb dL_holds_739 (lv_at hl 2 rfl) ?_
            refine lv_aload_n hx hb dL_holds_741 rfl (lv_at hl 6 rfl) ?_
            refine lv_bipush (v := (nI 6)) hx hb dL_holds_742 (by decide) ?_
            refine lv_iload hx hb dL_holds_744 (lv_at hl 5 rfl) ?_
            refine lv_iload hx hb dL_holds_746 (lv_at hl 4 rfl) ?_
            refine lv_iconst (v := (nI 1)) hx hb dL_holds_748 (by decide) ?_
            refine wr_callS (pre := []) (wc := fQ cy x a tr s0 s1 pa q σ n fl tx ln) (va_runS (As := [.ref (x 0), .int (nI 6), .int (nI (v % 12)), .int (nI ((v / 12) % 12)), .int (nI 1)]) (rest := [.int (nI (wvN σ (v % 12) ((v / 12) % 12)))]) ⟨hx, hb, hml, hown, hts⟩ (c_L_call_6 l hfl g cy x a tr s0 s1 pa H.size bd q σ Hh n K fl tx ln (nI (v % 12)) (nI ((v / 12) % 12)) (nI 1) hI ) ⟨(cB 5 hts wd9_11 wd5_14 wd9_9 rfl rfl (by decide +kernel) ⟨Nat.le_of_ble_eq_true rfl, Nat.le_of_ble_eq_true rfl⟩), hts _ wd9_10⟩ (ps2 (ws := [] ++ fQ cy x a tr s0 s1 pa q σ n fl tx ln) hK hP hD hS hA hX hY _ nd_suffix at_suffix) rfl rfl hl.1 rfl (lv_room (Nat.le_of_ble_eq_true rfl)) dL_holds_749 ⟨by show _ ≤ 1500; omega, by show _ ≤ 9000; omega⟩) hP hD hS hA (fun _ => fQ_ad) (fun q H locs hI hP hD hS => ?_)
            have hP : va_P g vwCl (fQ cy x a tr s0 s1 pa q σ n fl tx ln) H := hP
            have hD : va_D A (fQ cy x a tr s0 s1 pa q σ n fl tx ln) := hD
            refine ti (show an (fApa (nI (v % 12)) (nI ((v / 12) % 12)) (nI 1)) (wv σ (12 * (nI (v % 12)).toNatClampNeg + (nI ((v / 12) % 12)).toNatClampNeg)) = (nI (wvN σ (v % 12) ((v / 12) % 12))) from ((v_ap (by omega) (by omega) (by decide)).trans wvN_e)) ?_
            show W _ _ _ _ _ _ _ _ _ _ _ _ _ _ _ (F0 mX 752 ls [.int (nI (wvN σ (v % 12) ((v / 12) % 12))), .int (nI (wvN σ (v % 12) ((v / 12) % 12)))])
            refine lv_icmp_ne (tgt := 828) hx hb dL_holds_752 (by decide) (fun c_752 => absurd rfl c_752) (fun _ => ?_)
            refine lv_iload hx hb dL_holds_755 (lv_at hl 2 rfl) ?_
            refine lv_aload_n hx hb dL_holds_757 rfl (lv_at hl 6 rfl) ?_
            refine lv_bipush (v := (nI 6)) hx hb dL_holds_758 (by decide) ?_
            refine lv_iload hx hb dL_holds_760 (lv_at hl 4 rfl) ?_
            refine lv_iload hx hb dL_holds_762 (lv_at hl 5 rfl) ?_
            refine lv_iconst (v := (nI 0)) hx hb dL_holds_764 (by decide) ?_
            refine wr_callS (pre := []) (wc := fQ cy x a tr s0 s1 pa q σ n fl tx ln) (va_runS (As := [.ref (x 0), .int (nI 6), .int (nI ((v / 12) % 12)), .int (nI (v % 12)), .int (nI 0)]) (rest := [.int (nI (wvN σ (v % 12) ((v / 12) % 12)))]) ⟨hx, hb, hml, hown, hts⟩ (c_L_call_6 l hfl g cy x a tr s0 s1 pa H.size bd q σ Hh n K fl tx ln (nI ((v / 12) % 12)) (nI (v % 12)) (nI 0) hI ) ⟨(cB 5 hts wd9_11 wd5_14 wd9_9 rfl rfl (by decide +kernel) ⟨Nat.le_of_ble_eq_true rfl, Nat.le_of_ble_eq_true rfl⟩), hts _ wd9_10⟩ (ps2 (ws := [] ++ fQ cy x a tr s0 s1 pa q σ n fl tx ln) hK hP hD hS hA hX hY _ nd_suffix at_suffix) rfl rfl hl.1 rfl (lv_room (Nat.le_of_ble_eq_true rfl)) dL_holds_765 ⟨by show _ ≤ 1500; omega, by show _ ≤ 9000; omega⟩) hP hD hS hA (fun _ => fQ_ad) (fun q H locs hI hP hD hS => ?_)
            have hP : va_P g vwCl (fQ cy x a tr s0 s1 pa q σ n fl tx ln) H := hP
            have hD : va_D A (fQ cy x a tr s0 s1 pa q σ n fl tx ln) := hD
            refine ti (show an (fApa (nI ((v / 12) % 12)) (nI (v % 12)) (nI 0)) (wv σ (12 * (nI ((v / 12) % 12)).toNatClampNeg + (nI (v % 12)).toNatClampNeg)) = (nI (wvN σ ((v / 12) % 12) (v % 12))) from ((v_ap (by omega) (by omega) (by decide)).trans wvN_e)) ?_
            show W _ _ _ _ _ _ _ _ _ _ _ _ _ _ _ (F0 mX 768 ls [.int (nI (wvN σ ((v / 12) % 12) (v % 12))), .int (nI (wvN σ (v % 12) ((v / 12) % 12)))])
            refine ti (show (nI (wvN σ ((v / 12) % 12) (v % 12))) = (nI (wvN σ (v % 12) ((v / 12) % 12))) from (congrArg nI (wvN_sym (by omega) (by omega)))) ?_
            refine lv_icmp_ne (tgt := 828) hx hb dL_holds_768 (by decide) (fun c_768 => absurd rfl c_768) (fun _ => ?_)
            refine jn_i (pcj := 829) (ls := ls) (st := []) (fun v9 => v9 = (nI 1)) ?_ (fun jn829 => ?_)
            · intro v9 hv9
              subst hv9
              refine lv_istore (lv' := [(12, .int (nI 1)), (18, .int (nI (wvN σ (v % 12) ((v / 144) % 12)))), (17, .int (nI (wvN σ ((v / 12) % 12) ((v / 144) % 12)))), (16, .int (nI (wvN σ (v % 12) ((v / 12) % 12)))), (15, .int (nI ((v / 144) % 12))), (14, .int (nI ((v / 12) % 12))), (13, .int (nI (v % 12))), (0, .ref (x 0)), (1, .int (nI v)), (2, .int (nI (σ 0))), (3, .int (nI (σ 1))), (4, .int (nI (σ 2))), (5, .int (nI (ct (msg σ) (σ 0)))), (6, .int (nI (sm (fun d9 => if msg σ d9 then dg σ d9 4 else 0) (σ 0)))), (7, .int (nI (ct (frd σ) (σ 1)))), (8, .int (nI (ct (mng σ NN) (σ 1)))), (9, .int (nI (sm (fun d9 => ct (mng σ d9) (σ 1)) (σ 0)))), (11, .int (nI (sm (fun d9 => dg σ d9 4) (σ 0)))), (10, .int (nI (sm (pu σ) 8)))]) hx hb dL_holds_829 hl (by decide) rfl (fun ls hl => ?_)
              refine lv_iload hx hb dL_holds_831 (lv_at hl 0 rfl) ?_
              refine lv_if_eq (tgt := 976) hx hb dL_holds_833 (by decide) (fun c9 => absurd c9 (by decide)) (fun _ => ?_)
              refine lv_iload hx hb dL_holds_836 (lv_at hl 12 rfl) ?_
              refine lv_aload_n hx hb dL_holds_838 rfl (lv_at hl 7 rfl) ?_
              refine lv_iconst (v := (nI 2)) hx hb dL_holds_839 (by decide) ?_
              refine lv_iconst (v := (nI 1)) hx hb dL_holds_840 (by decide) ?_
              refine lv_iconst (v := (nI 0)) hx hb dL_holds_841 (by decide) ?_
              refine lv_iconst (v := (nI 0)) hx hb dL_holds_842 (by decide) ?_
              refine wr_callS (pre := []) (wc := fQ cy x a tr s0 s1 pa q σ n fl tx ln) (va_runS (As := [.ref (x 0), .int (nI 2), .int (nI 1), .int (nI 0), .int (nI 0)]) (rest := [.int (nI (ct (msg σ) (σ 0)))]) ⟨hx, hb, hml, hown, hts⟩ (c_L_call_2 l hfl g cy x a tr s0 s1 pa H.size bd q σ Hh n K fl tx ln (nI 1) (nI 0) (nI 0) hI ) ⟨(cB 5 hts wd9_11 wd5_14 wd9_9 rfl rfl (by decide +kernel) ⟨Nat.le_of_ble_eq_true rfl, Nat.le_of_ble_eq_true rfl⟩), hts _ wd9_10⟩ (ps2 (ws := [] ++ fQ cy x a tr s0 s1 pa q σ n fl tx ln) hK hP hD hS hA hX hY _ nd_suffix at_suffix) rfl rfl hl.1 rfl (lv_room (Nat.le_of_ble_eq_true rfl)) dL_holds_843 ⟨by show _ ≤ 1500; omega, by show _ ≤ 9000; omega⟩) hP hD hS hA (fun _ => fQ_ad) (fun q H locs hI hP hD hS => ?_)
              have hP : va_P g vwCl (fQ cy x a tr s0 s1 pa q σ n fl tx ln) H := hP
              have hD : va_D A (fQ cy x a tr s0 s1 pa q σ n fl tx ln) := hD
              refine ti (show an (fAbo (nI 1)) (nI (nbd σ (nI 1).toNatClampNeg)) = (nI (ct (msg σ) (σ 0))) from (v_ab (w := 1) (by decide))) ?_
              show W _ _ _ _ _ _ _ _ _ _ _ _ _ _ _ (F0 mX 846 ls [.int (nI (ct (msg σ) (σ 0))), .int (nI (ct (msg σ) (σ 0)))])
              refine lv_icmp_ne (tgt := 976) hx hb dL_holds_846 (by decide) (fun c_846 => absurd rfl c_846) (fun _ => ?_)
              refine lv_iload hx hb dL_holds_849 (lv_at hl 13 rfl) ?_
              refine lv_aload_n hx hb dL_holds_851 rfl (lv_at hl 7 rfl) ?_
              refine lv_iconst (v := (nI 2)) hx hb dL_holds_852 (by decide) ?_
              refine lv_bipush (v := (nI 7)) hx hb dL_holds_853 (by decide) ?_
              refine lv_iconst (v := (nI 0)) hx hb dL_holds_855 (by decide) ?_
              refine lv_iconst (v := (nI 0)) hx hb dL_holds_856 (by decide) ?_
              refine wr_callS (pre := []) (wc := fQ cy x a tr s0 s1 pa q σ n fl tx ln) (va_runS (As := [.ref (x 0), .int (nI 2), .int (nI 7), .int (nI 0), .int (nI 0)]) (rest := [.int (nI (sm (fun d9 => if msg σ d9 then dg σ d9 4 else 0) (σ 0)))]) ⟨hx, hb, hml, hown, hts⟩ (c_L_call_2 l hfl g cy x a tr s0 s1 pa H.size bd q σ Hh n K fl tx ln (nI 7) (nI 0) (nI 0) hI ) ⟨(cB 5 hts wd9_11 wd5_14 wd9_9 rfl rfl (by decide +kernel) ⟨Nat.le_of_ble_eq_true rfl, Nat.le_of_ble_eq_true rfl⟩), hts _ wd9_10⟩ (ps2 (ws := [] ++ fQ cy x a tr s0 s1 pa q σ n fl tx ln) hK hP hD hS hA hX hY _ nd_suffix at_suffix) rfl rfl hl.1 rfl (lv_room (Nat.le_of_ble_eq_true rfl)) dL_holds_857 ⟨by show _ ≤ 1500; omega, by show _ ≤ 9000; omega⟩) hP hD hS hA (fun _ => fQ_ad) (fun q H locs hI hP hD hS => ?_)
              have hP : va_P g vwCl (fQ cy x a tr s0 s1 pa q σ n fl tx ln) H := hP
              have hD : va_D A (fQ cy x a tr s0 s1 pa q σ n fl tx ln) := hD
              refine ti (show an (fAbo (nI 7)) (nI (nbd σ (nI 7).toNatClampNeg)) = (nI (sm (fun d9 => if msg σ d9 then dg σ d9 4 else 0) (σ 0))) from (v_ab (w := 7) (by decide))) ?_
              show W _ _ _ _ _ _ _ _ _ _ _ _ _ _ _ (F0 mX 860 ls [.int (nI (sm (fun d9 => if msg σ d9 then dg σ d9 4 else 0) (σ 0))), .int (nI (sm (fun d9 => if msg σ d9 then dg σ d9 4 else 0) (σ 0)))])
              refine lv_icmp_ne (tgt := 976) hx hb dL_holds_860 (by decide) (fun c_860 => absurd rfl c_860) (fun _ => ?_)
              refine lv_iload hx hb dL_holds_863 (lv_at hl 14 rfl) ?_
              refine lv_aload_n hx hb dL_holds_865 rfl (lv_at hl 7 rfl) ?_
              refine lv_iconst (v := (nI 2)) hx hb dL_holds_866 (by decide) ?_
              refine lv_bipush (v := (nI 8)) hx hb dL_holds_867 (by decide) ?_
              refine lv_iconst (v := (nI 0)) hx hb dL_holds_869 (by decide) ?_
              refine lv_iconst (v := (nI 0)) hx hb dL_holds_870 (by decide) ?_
              refine wr_callS (pre := []) (wc := fQ cy x a tr s0 s1 pa q σ n fl tx ln) (va_runS (As := [.ref (x 0), .int (nI 2), .int (nI 8), .int (nI 0), .int (nI 0)]) (rest := [.int (nI (ct (frd σ) (σ 1)))]) ⟨hx, hb, hml, hown, hts⟩ (c_L_call_2 l hfl g cy x a tr s0 s1 pa H.size bd q σ Hh n K fl tx ln (nI 8) (nI 0) (nI 0) hI ) ⟨(cB 5 hts wd9_11 wd5_14 wd9_9 rfl rfl (by decide +kernel) ⟨Nat.le_of_ble_eq_true rfl, Nat.le_of_ble_eq_true rfl⟩), hts _ wd9_10⟩ (ps2 (ws := [] ++ fQ cy x a tr s0 s1 pa q σ n fl tx ln) hK hP hD hS hA hX hY _ nd_suffix at_suffix) rfl rfl hl.1 rfl (lv_room (Nat.le_of_ble_eq_true rfl)) dL_holds_871 ⟨by show _ ≤ 1500; omega, by show _ ≤ 9000; omega⟩) hP hD hS hA (fun _ => fQ_ad) (fun q H locs hI hP hD hS => ?_)
              have hP : va_P g vwCl (fQ cy x a tr s0 s1 pa q σ n fl tx ln) H := hP
              have hD : va_D A (fQ cy x a tr s0 s1 pa q σ n fl tx ln) := hD
              refine ti (show an (fAbo (nI 8)) (nI (nbd σ (nI 8).toNatClampNeg)) = (nI (ct (frd σ) (σ 1))) from (v_ab (w := 8) (by decide))) ?_
              show W _ _ _ _ _ _ _ _ _ _ _ _ _ _ _ (F0 mX 874 ls [.int (nI (ct (frd σ) (σ 1))), .int (nI (ct (frd σ) (σ 1)))])
              refine lv_icmp_ne (tgt := 976) hx hb dL_holds_874 (by decide) (fun c_874 => absurd rfl c_874) (fun _ => ?_)
              refine lv_iload hx hb dL_holds_877 (lv_at hl 15 rfl) ?_
              refine lv_aload_n hx hb dL_holds_879 rfl (lv_at hl 7 rfl) ?_
              refine lv_iconst (v := (nI 2)) hx hb dL_holds_880 (by decide) ?_
              refine lv_bipush (v := (nI 9)) hx hb dL_holds_881 (by decide) ?_
              refine lv_iconst (v := (nI 0)) hx hb dL_holds_883 (by decide) ?_
              refine lv_iconst (v := (nI 0)) hx hb dL_holds_884 (by decide) ?_
              refine wr_callS (pre := []) (wc := fQ cy x a tr s0 s1 pa q σ n fl tx ln) (va_runS (As := [.ref (x 0), .int (nI 2), .int (nI 9), .int (nI 0), .int (nI 0)]) (rest := [.int (nI (ct (mng σ NN) (σ 1)))]) ⟨hx, hb, hml, hown, hts⟩ (c_L_call_2 l hfl g cy x a tr s0 s1 pa H.size bd q σ Hh n K fl tx ln (nI 9) (nI 0) (nI 0) hI ) ⟨(cB 5 hts wd9_11 wd5_14 wd9_9 rfl rfl (by decide +kernel) ⟨Nat.le_of_ble_eq_true rfl, Nat.le_of_ble_eq_true rfl⟩), hts _ wd9_10⟩ (ps2 (ws := [] ++ fQ cy x a tr s0 s1 pa q σ n fl tx ln) hK hP hD hS hA hX hY _ nd_suffix at_suffix) rfl rfl hl.1 rfl (lv_room (Nat.le_of_ble_eq_true rfl)) dL_holds_885 ⟨by show _ ≤ 1500; omega, by show _ ≤ 9000; omega⟩) hP hD hS hA (fun _ => fQ_ad) (fun q H locs hI hP hD hS => ?_)
              have hP : va_P g vwCl (fQ cy x a tr s0 s1 pa q σ n fl tx ln) H := hP
              have hD : va_D A (fQ cy x a tr s0 s1 pa q σ n fl tx ln) := hD
              refine ti (show an (fAbo (nI 9)) (nI (nbd σ (nI 9).toNatClampNeg)) = (nI (ct (mng σ NN) (σ 1))) from (v_ab (w := 9) (by decide))) ?_
              show W _ _ _ _ _ _ _ _ _ _ _ _ _ _ _ (F0 mX 888 ls [.int (nI (ct (mng σ NN) (σ 1))), .int (nI (ct (mng σ NN) (σ 1)))])
              refine lv_icmp_ne (tgt := 976) hx hb dL_holds_888 (by decide) (fun c_888 => absurd rfl c_888) (fun _ => ?_)
              refine lv_iload hx hb dL_holds_891 (lv_at hl 16 rfl) ?_
              refine lv_iload hx hb dL_holds_893 (lv_at hl 15 rfl) ?_
              refine lv_iadd hx hb dL_holds_895 ?_
              refine ti (nI_add (sm (fun d9 => ct (mng σ d9) (σ 1)) (σ 0)) (ct (mng σ NN) (σ 1))) ?_
              refine ti (show (nI ((sm (fun d9 => ct (mng σ d9) (σ 1)) (σ 0)) + (ct (mng σ NN) (σ 1)))) = (nI (σ 1)) from (congrArg nI (mng_all hW))) ?_
              refine lv_iload_n hx hb dL_holds_896 rfl (lv_at hl 10 rfl) ?_
              refine lv_icmp_ne (tgt := 976) hx hb dL_holds_897 (by decide) (fun c_897 => absurd rfl c_897) (fun _ => ?_)
              refine lv_iload hx hb dL_holds_900 (lv_at hl 18 rfl) ?_
              refine lv_aload_n hx hb dL_holds_902 rfl (lv_at hl 7 rfl) ?_
              refine lv_iconst (v := (nI 2)) hx hb dL_holds_903 (by decide) ?_
              refine lv_iconst (v := (nI 5)) hx hb dL_holds_904 (by decide) ?_
              refine lv_iconst (v := (nI 0)) hx hb dL_holds_905 (by decide) ?_
              refine lv_iconst (v := (nI 0)) hx hb dL_holds_906 (by decide) ?_
              refine wr_callS (pre := []) (wc := fQ cy x a tr s0 s1 pa q σ n fl tx ln) (va_runS (As := [.ref (x 0), .int (nI 2), .int (nI 5), .int (nI 0), .int (nI 0)]) (rest := [.int (nI (sm (pu σ) 8))]) ⟨hx, hb, hml, hown, hts⟩ (c_L_call_2 l hfl g cy x a tr s0 s1 pa H.size bd q σ Hh n K fl tx ln (nI 5) (nI 0) (nI 0) hI ) ⟨(cB 5 hts wd9_11 wd5_14 wd9_9 rfl rfl (by decide +kernel) ⟨Nat.le_of_ble_eq_true rfl, Nat.le_of_ble_eq_true rfl⟩), hts _ wd9_10⟩ (ps2 (ws := [] ++ fQ cy x a tr s0 s1 pa q σ n fl tx ln) hK hP hD hS hA hX hY _ nd_suffix at_suffix) rfl rfl hl.1 rfl (lv_room (Nat.le_of_ble_eq_true rfl)) dL_holds_907 ⟨by show _ ≤ 1500; omega, by show _ ≤ 9000; omega⟩) hP hD hS hA (fun _ => fQ_ad) (fun q H locs hI hP hD hS => ?_)
              have hP : va_P g vwCl (fQ cy x a tr s0 s1 pa q σ n fl tx ln) H := hP
              have hD : va_D A (fQ cy x a tr s0 s1 pa q σ n fl tx ln) := hD
              refine ti (show an (fAbo (nI 5)) (nI (nbd σ (nI 5).toNatClampNeg)) = (nI (σ 4)) from (v_ab (w := 5) (by decide))) ?_
              show W _ _ _ _ _ _ _ _ _ _ _ _ _ _ _ (F0 mX 910 ls [.int (nI (σ 4)), .int (nI (sm (pu σ) 8))])
              refine ti (show (nI (σ 4)) = (nI (sm (pu σ) 8)) from (congrArg nI cn9.2.2)) ?_
              refine lv_icmp_ne (tgt := 976) hx hb dL_holds_910 (by decide) (fun c_910 => absurd rfl c_910) (fun _ => ?_)
              refine lv_aload_n hx hb dL_holds_913 rfl (lv_at hl 7 rfl) ?_
              refine lv_iconst (v := (nI 2)) hx hb dL_holds_914 (by decide) ?_
              refine lv_iconst (v := (nI 4)) hx hb dL_holds_915 (by decide) ?_
              refine lv_iconst (v := (nI 0)) hx hb dL_holds_916 (by decide) ?_
              refine lv_iconst (v := (nI 0)) hx hb dL_holds_917 (by decide) ?_
              refine wr_callS (pre := []) (wc := fQ cy x a tr s0 s1 pa q σ n fl tx ln) (va_runS (As := [.ref (x 0), .int (nI 2), .int (nI 4), .int (nI 0), .int (nI 0)]) (rest := []) ⟨hx, hb, hml, hown, hts⟩ (c_L_call_2 l hfl g cy x a tr s0 s1 pa H.size bd q σ Hh n K fl tx ln (nI 4) (nI 0) (nI 0) hI ) ⟨(cB 5 hts wd9_11 wd5_14 wd9_9 rfl rfl (by decide +kernel) ⟨Nat.le_of_ble_eq_true rfl, Nat.le_of_ble_eq_true rfl⟩), hts _ wd9_10⟩ (ps2 (ws := [] ++ fQ cy x a tr s0 s1 pa q σ n fl tx ln) hK hP hD hS hA hX hY _ nd_suffix at_suffix) rfl rfl hl.1 rfl (lv_room (Nat.le_of_ble_eq_true rfl)) dL_holds_918 ⟨by show _ ≤ 1500; omega, by show _ ≤ 9000; omega⟩) hP hD hS hA (fun _ => fQ_ad) (fun q H locs hI hP hD hS => ?_)
              have hP : va_P g vwCl (fQ cy x a tr s0 s1 pa q σ n fl tx ln) H := hP
              have hD : va_D A (fQ cy x a tr s0 s1 pa q σ n fl tx ln) := hD
              refine ti (show an (fAbo (nI 4)) (nI (nbd σ (nI 4).toNatClampNeg)) = (nI (σ 3)) from (v_ab (w := 4) (by decide))) ?_
              show W _ _ _ _ _ _ _ _ _ _ _ _ _ _ _ (F0 mX 921 ls [.int (nI (σ 3))])
              refine ti (show (nI (σ 3)) = (nI (sm (fun d9 => dg σ d9 4) (σ 0))) from (congrArg nI cn9.1)) ?_
              refine lv_iload hx hb dL_holds_921 (lv_at hl 17 rfl) ?_
              refine lv_icmp_ne (tgt := 976) hx hb dL_holds_923 (by decide) (fun c_923 => absurd rfl c_923) (fun _ => ?_)
              refine lv_iload hx hb dL_holds_926 (lv_at hl 17 rfl) ?_
              refine lv_iload hx hb dL_holds_928 (lv_at hl 13 rfl) ?_
              refine lv_iload hx hb dL_holds_930 (lv_at hl 18 rfl) ?_
              refine lv_iadd hx hb dL_holds_932 ?_
              refine ti (nI_add (sm (fun d9 => if msg σ d9 then dg σ d9 4 else 0) (σ 0)) (sm (pu σ) 8)) ?_
              refine lv_aload_n hx hb dL_holds_933 rfl (lv_at hl 7 rfl) ?_
              refine lv_iconst (v := (nI 2)) hx hb dL_holds_934 (by decide) ?_
              refine lv_bipush (v := (nI 6)) hx hb dL_holds_935 (by decide) ?_
              refine lv_iconst (v := (nI 0)) hx hb dL_holds_937 (by decide) ?_
              refine lv_iconst (v := (nI 0)) hx hb dL_holds_938 (by decide) ?_
              refine wr_callS (pre := []) (wc := fQ cy x a tr s0 s1 pa q σ n fl tx ln) (va_runS (As := [.ref (x 0), .int (nI 2), .int (nI 6), .int (nI 0), .int (nI 0)]) (rest := [.int (nI ((sm (fun d9 => if msg σ d9 then dg σ d9 4 else 0) (σ 0)) + (sm (pu σ) 8))), .int (nI (sm (fun d9 => dg σ d9 4) (σ 0)))]) ⟨hx, hb, hml, hown, hts⟩ (c_L_call_2 l hfl g cy x a tr s0 s1 pa H.size bd q σ Hh n K fl tx ln (nI 6) (nI 0) (nI 0) hI ) ⟨(cB 5 hts wd9_11 wd5_14 wd9_9 rfl rfl (by decide +kernel) ⟨Nat.le_of_ble_eq_true rfl, Nat.le_of_ble_eq_true rfl⟩), hts _ wd9_10⟩ (ps2 (ws := [] ++ fQ cy x a tr s0 s1 pa q σ n fl tx ln) hK hP hD hS hA hX hY _ nd_suffix at_suffix) rfl rfl hl.1 rfl (lv_room (Nat.le_of_ble_eq_true rfl)) dL_holds_939 ⟨by show _ ≤ 1500; omega, by show _ ≤ 9000; omega⟩) hP hD hS hA (fun _ => fQ_ad) (fun q H locs hI hP hD hS => ?_)
              have hP : va_P g vwCl (fQ cy x a tr s0 s1 pa q σ n fl tx ln) H := hP
              have hD : va_D A (fQ cy x a tr s0 s1 pa q σ n fl tx ln) := hD
              refine ti (show an (fAbo (nI 6)) (nI (nbd σ (nI 6).toNatClampNeg)) = (nI (σ 5)) from (v_ab (w := 6) (by decide))) ?_
              show W _ _ _ _ _ _ _ _ _ _ _ _ _ _ _ (F0 mX 942 ls [.int (nI (σ 5)), .int (nI ((sm (fun d9 => if msg σ d9 then dg σ d9 4 else 0) (σ 0)) + (sm (pu σ) 8))), .int (nI (sm (fun d9 => dg σ d9 4) (σ 0)))])
              refine lv_iadd hx hb dL_holds_942 ?_
              refine ti (nI_add ((sm (fun d9 => if msg σ d9 then dg σ d9 4 else 0) (σ 0)) + (sm (pu σ) 8)) (σ 5)) ?_
              refine ti (show (nI (((sm (fun d9 => if msg σ d9 then dg σ d9 4 else 0) (σ 0)) + (sm (pu σ) 8)) + (σ 5))) = (nI (sm (fun d9 => dg σ d9 4) (σ 0))) from (congrArg nI cn9.2.1.symm)) ?_
              refine lv_icmp_ne (tgt := 976) hx hb dL_holds_943 (by decide) (fun c_943 => absurd rfl c_943) (fun _ => ?_)
              refine lv_aload_n hx hb dL_holds_946 rfl (lv_at hl 7 rfl) ?_
              refine wr_callS (pre := []) (wc := fQ cy x a tr s0 s1 pa q σ n fl tx ln) (va_runV (As := []) (rest := []) ⟨hx, hb, hml, hown, hts⟩ (c_X7_watch l g cy x a tr s0 s1 pa H.size bd q σ Hh n K fl tx ln  hI) ⟨cB 0 hts wd29_2 wd1_2 wd28_23 rfl rfl (by decide +kernel) ⟨Nat.le_of_ble_eq_true rfl, Nat.le_of_ble_eq_true rfl⟩, hts _ wd29_0, hts _ wd29_1⟩ (pvS (pre := []) (wc := fQ cy x a tr s0 s1 pa q σ n fl tx ln) hK hP hD hS hA hX 5 rfl rfl) rfl rfl hl.1 rfl (lv_room (Nat.le_of_ble_eq_true rfl)) dL_holds_947 ⟨by show _ ≤ 1500; omega, by show _ ≤ 9000; omega⟩) hP hD hS hA (fun _ => fQ_ad) (fun q H locs hI hP hD hS => ?_)
              have hP : va_P g vwCl (fQ cy x a tr s0 s1 pa q σ n fl tx ln) H := hP
              have hD : va_D A (fQ cy x a tr s0 s1 pa q σ n fl tx ln) := hD
              show W _ _ _ _ _ _ _ _ _ _ _ _ _ _ _ (F0 mX 950 ls [.int (nI (wat σ))])
              refine lv_iconst (v := (nI NN)) hx hb dL_holds_950 (by decide) ?_
              refine lv_icmp_ne (tgt := 958) hx hb dL_holds_951 (by decide) (fun c_951 => ?_) (fun c_951 => ?_)
              · have c_951 := (nc_ne9 (by omega) (by decide) c_951)
                refine lv_iconst (v := (nI 0)) hx hb dL_holds_958 (by decide) ?_
                refine lv_iload hx hb dL_holds_959 (lv_at hl 12 rfl) ?_
                refine lv_if_ne (tgt := 968) hx hb dL_holds_961 (by decide) (fun c_961 => ?_) (fun c_961 => ?_)
                · have c_961 := (nz_ne c_961 (by omega))
                  refine lv_iconst (v := (nI 0)) hx hb dL_holds_968 (by decide) ?_
                  refine lv_icmp_ne (tgt := 976) hx hb dL_holds_969 (by decide) (fun c_969 => absurd rfl c_969) (fun _ => ?_)
                  refine lv_iconst (v := (nI 1)) hx hb dL_holds_972 (by decide) ?_
                  refine lv_goto (tgt := 977) hx hb dL_holds_973 (by decide) ?_
                  exact W.widen (by omega) (by omega) (wr_z (b := true) q rfl rfl hI hP hS hx hb hr dL_holds_977 hlk)
                · have c_961 := (nz_eq c_961 (by omega))
                  refine lv_iconst (v := (nI 1)) hx hb dL_holds_964 (by decide) ?_
                  refine lv_goto (tgt := 969) hx hb dL_holds_965 (by decide) ?_
                  exfalso; omega
              · have c_951 := (nc_eq9 (by omega) (by decide) c_951)
                refine lv_iconst (v := (nI 1)) hx hb dL_holds_954 (by decide) ?_
                refine lv_goto (tgt := 959) hx hb dL_holds_955 (by decide) ?_
                refine lv_iload hx hb dL_holds_959 (lv_at hl 12 rfl) ?_
                refine lv_if_ne (tgt := 968) hx hb dL_holds_961 (by decide) (fun c_961 => ?_) (fun c_961 => ?_)
                · have c_961 := (nz_ne c_961 (by omega))
                  refine lv_iconst (v := (nI 0)) hx hb dL_holds_968 (by decide) ?_
                  exfalso; omega
                · have c_961 := (nz_eq c_961 (by omega))
                  refine lv_iconst (v := (nI 1)) hx hb dL_holds_964 (by decide) ?_
                  refine lv_goto (tgt := 969) hx hb dL_holds_965 (by decide) ?_
                  refine lv_icmp_ne (tgt := 976) hx hb dL_holds_969 (by decide) (fun c_969 => absurd rfl c_969) (fun _ => ?_)
                  refine lv_iconst (v := (nI 1)) hx hb dL_holds_972 (by decide) ?_
                  refine lv_goto (tgt := 977) hx hb dL_holds_973 (by decide) ?_
                  exact W.widen (by omega) (by omega) (wr_z (b := true) q rfl rfl hI hP hS hx hb hr dL_holds_977 hlk)
            · skip
              refine lv_iload hx hb dL_holds_771 (lv_at hl 2 rfl) ?_
              refine ti (show (nI (wvN σ (v % 12) ((v / 12) % 12))) = (nI (wvN σ (v % 12) ((v / 12) % 12))) from rfl) ?_
              refine lv_if_ne (tgt := 780) hx hb dL_holds_773 (by decide) (fun c_773 => ?_) (fun c_773 => ?_)
              · skip
                have c_773 : ¬ wvN σ (v % 12) ((v / 12) % 12) = 0 := (fun e => c_773 (by rw [e]; rfl))
                refine lv_iconst (v := (nI 0)) hx hb dL_holds_780 (by decide) ?_
                refine lv_iload hx hb dL_holds_781 (lv_at hl 5 rfl) ?_
                refine lv_iload hx hb dL_holds_783 (lv_at hl 4 rfl) ?_
                refine lv_icmp_ne (tgt := 792) hx hb dL_holds_785 (by decide) (fun c_785 => ?_) (fun c_785 => ?_)
                · have c_785 := (nc_ne9 (by omega) (by omega) c_785)
                  refine lv_iconst (v := (nI 0)) hx hb dL_holds_792 (by decide) ?_
                  refine lv_icmp_ne (tgt := 828) hx hb dL_holds_793 (by decide) (fun c_793 => absurd rfl c_793) (fun _ => ?_)
                  refine lv_iload hx hb dL_holds_796 (lv_at hl 2 rfl) ?_
                  refine lv_iconst (v := (nI NN)) hx hb dL_holds_798 (by decide) ?_
                  refine lv_icmp_eq (tgt := 824) hx hb dL_holds_799 (by decide) (fun c_799 => ?_) (fun c_799 => ?_)
                  · have c_799 := (nc_eq9 (by omega) (by decide) c_799)
                    refine lv_iconst (v := (nI 1)) hx hb dL_holds_824 (by decide) ?_
                    refine lv_goto (tgt := 829) hx hb dL_holds_825 (by decide) ?_
                    exact jn829 _ rfl
                  · have c_799 := (nc_ne9 (by omega) (by decide) c_799)
                    refine lv_iload hx hb dL_holds_802 (lv_at hl 1 rfl) ?_
                    refine lv_iconst (v := (nI NN)) hx hb dL_holds_804 (by decide) ?_
                    refine lv_icmp_eq (tgt := 824) hx hb dL_holds_805 (by decide) (fun c_805 => ?_) (fun c_805 => ?_)
                    · have c_805 := (nc_eq9 (by omega) (by decide) c_805)
                      refine lv_iconst (v := (nI 1)) hx hb dL_holds_824 (by decide) ?_
                      refine lv_goto (tgt := 829) hx hb dL_holds_825 (by decide) ?_
                      exact jn829 _ rfl
                    · have c_805 := (nc_ne9 (by omega) (by decide) c_805)
                      have t9 := wvN_tri (σ := σ) (a := v % 12) (b := (v / 12) % 12) (c := (v / 144) % 12) (by omega) (by omega) (by omega) c_799 c_805
                      refine lv_iload hx hb dL_holds_808 (lv_at hl 0 rfl) ?_
                      refine lv_iconst (v := (nI NN)) hx hb dL_holds_810 (by decide) ?_
                      refine lv_icmp_eq (tgt := 828) hx hb dL_holds_811 (by decide) (fun c_811 => ?_) (fun c_811 => ?_)
                      · have c_811 := (nc_eq9 (by omega) (by decide) c_811)
                        omega
                      · have c_811 := (nc_ne9 (by omega) (by decide) c_811)
                        refine lv_iload hx hb dL_holds_814 (lv_at hl 0 rfl) ?_
                        refine lv_iload hx hb dL_holds_816 (lv_at hl 2 rfl) ?_
                        refine lv_iload hx hb dL_holds_818 (lv_at hl 1 rfl) ?_
                        refine lv_iadd hx hb dL_holds_820 ?_
                        refine ti (nI_add (wvN σ (v % 12) ((v / 12) % 12)) (wvN σ ((v / 12) % 12) ((v / 144) % 12))) ?_
                        refine lv_icmp_gt (tgt := 828) hx hb dL_holds_821 (by decide) (fun c_821 => ?_) (fun c_821 => ?_)
                        · have c_821 := (nc_lt (by omega) (by omega) c_821)
                          omega
                        · have c_821 := (nc_nlt (by omega) (by omega) c_821)
                          refine lv_iconst (v := (nI 1)) hx hb dL_holds_824 (by decide) ?_
                          refine lv_goto (tgt := 829) hx hb dL_holds_825 (by decide) ?_
                          exact jn829 _ rfl
                · have c_785 := (nc_eq9 (by omega) (by omega) c_785)
                  refine lv_iconst (v := (nI 1)) hx hb dL_holds_788 (by decide) ?_
                  refine lv_goto (tgt := 793) hx hb dL_holds_789 (by decide) ?_
                  exfalso; omega
              · skip
                have c_773 : wvN σ (v % 12) ((v / 12) % 12) = 0 := ((n32_eq (by omega) (by decide)).mp (c_773.trans nI_0.symm))
                refine lv_iconst (v := (nI 1)) hx hb dL_holds_776 (by decide) ?_
                refine lv_goto (tgt := 781) hx hb dL_holds_777 (by decide) ?_
                refine lv_iload hx hb dL_holds_781 (lv_at hl 5 rfl) ?_
                refine lv_iload hx hb dL_holds_783 (lv_at hl 4 rfl) ?_
                refine lv_icmp_ne (tgt := 792) hx hb dL_holds_785 (by decide) (fun c_785 => ?_) (fun c_785 => ?_)
                · have c_785 := (nc_ne9 (by omega) (by omega) c_785)
                  refine lv_iconst (v := (nI 0)) hx hb dL_holds_792 (by decide) ?_
                  exfalso; omega
                · have c_785 := (nc_eq9 (by omega) (by omega) c_785)
                  refine lv_iconst (v := (nI 1)) hx hb dL_holds_788 (by decide) ?_
                  refine lv_goto (tgt := 793) hx hb dL_holds_789 (by decide) ?_
                  refine lv_icmp_ne (tgt := 828) hx hb dL_holds_793 (by decide) (fun c_793 => absurd rfl c_793) (fun _ => ?_)
                  refine lv_iload hx hb dL_holds_796 (lv_at hl 2 rfl) ?_
                  refine lv_iconst (v := (nI NN)) hx hb dL_holds_798 (by decide) ?_
                  refine lv_icmp_eq (tgt := 824) hx hb dL_holds_799 (by decide) (fun c_799 => ?_) (fun c_799 => ?_)
                  · have c_799 := (nc_eq9 (by omega) (by decide) c_799)
                    refine lv_iconst (v := (nI 1)) hx hb dL_holds_824 (by decide) ?_
                    refine lv_goto (tgt := 829) hx hb dL_holds_825 (by decide) ?_
                    exact jn829 _ rfl
                  · have c_799 := (nc_ne9 (by omega) (by decide) c_799)
                    refine lv_iload hx hb dL_holds_802 (lv_at hl 1 rfl) ?_
                    refine lv_iconst (v := (nI NN)) hx hb dL_holds_804 (by decide) ?_
                    refine lv_icmp_eq (tgt := 824) hx hb dL_holds_805 (by decide) (fun c_805 => ?_) (fun c_805 => ?_)
                    · have c_805 := (nc_eq9 (by omega) (by decide) c_805)
                      refine lv_iconst (v := (nI 1)) hx hb dL_holds_824 (by decide) ?_
                      refine lv_goto (tgt := 829) hx hb dL_holds_825 (by decide) ?_
                      exact jn829 _ rfl
                    · have c_805 := (nc_ne9 (by omega) (by decide) c_805)
                      have t9 := wvN_tri (σ := σ) (a := v % 12) (b := (v / 12) % 12) (c := (v / 144) % 12) (by omega) (by omega) (by omega) c_799 c_805
                      refine lv_iload hx hb dL_holds_808 (lv_at hl 0 rfl) ?_
                      refine lv_iconst (v := (nI NN)) hx hb dL_holds_810 (by decide) ?_
                      refine lv_icmp_eq (tgt := 828) hx hb dL_holds_811 (by decide) (fun c_811 => ?_) (fun c_811 => ?_)
                      · have c_811 := (nc_eq9 (by omega) (by decide) c_811)
                        omega
                      · have c_811 := (nc_ne9 (by omega) (by decide) c_811)
                        refine lv_iload hx hb dL_holds_814 (lv_at hl 0 rfl) ?_
                        refine lv_iload hx hb dL_holds_816 (lv_at hl 2 rfl) ?_
                        refine lv_iload hx hb dL_holds_818 (lv_at hl 1 rfl) ?_
                        refine lv_iadd hx hb dL_holds_820 ?_
                        refine ti (nI_add (wvN σ (v % 12) ((v / 12) % 12)) (wvN σ ((v / 12) % 12) ((v / 144) % 12))) ?_
                        refine lv_icmp_gt (tgt := 828) hx hb dL_holds_821 (by decide) (fun c_821 => ?_) (fun c_821 => ?_)
                        · have c_821 := (nc_lt (by omega) (by omega) c_821)
                          omega
                        · have c_821 := (nc_nlt (by omega) (by omega) c_821)
                          refine lv_iconst (v := (nI 1)) hx hb dL_holds_824 (by decide) ?_
                          refine lv_goto (tgt := 829) hx hb dL_holds_825 (by decide) ?_
                          exact jn829 _ rfl
          · have c_647 := (nc_nle (by omega) (by omega) c_647)
            refine lv_iload hx hb dL_holds_650 (lv_at hl 12 rfl) ?_
            refine lv_aload_n hx hb dL_holds_652 rfl (lv_at hl 0 rfl) ?_
            refine lv_iconst (v := (nI 5)) hx hb dL_holds_653 (by decide) ?_
            refine lv_iload hx hb dL_holds_654 (lv_at hl 13 rfl) ?_
            refine lv_iconst (v := (nI 0)) hx hb dL_holds_656 (by decide) ?_
            refine lv_iconst (v := (nI 0)) hx hb dL_holds_657 (by decide) ?_
            refine wr_callS (pre := []) (wc := fQ cy x a tr s0 s1 pa q σ n fl tx ln) (va_runS (As := [.ref (x 0), .int (nI 5), .int (nI f), .int (nI 0), .int (nI 0)]) (rest := [.int (nI (sm (pu σ) f))]) ⟨hx, hb, hml, hown, hts⟩ (c_L_call_5 l hfl g cy x a tr s0 s1 pa H.size bd q σ Hh n K fl tx ln (nI f) (nI 0) (nI 0) hI ) ⟨(cB 5 hts wd9_11 wd5_14 wd9_9 rfl rfl (by decide +kernel) ⟨Nat.le_of_ble_eq_true rfl, Nat.le_of_ble_eq_true rfl⟩), hts _ wd9_10⟩ (ps2 (ws := [] ++ fQ cy x a tr s0 s1 pa q σ n fl tx ln) hK hP hD hS hA hX hY _ nd_suffix at_suffix) rfl rfl hl.1 rfl (lv_room (Nat.le_of_ble_eq_true rfl)) dL_holds_658 ⟨by show _ ≤ 1500; omega, by show _ ≤ 9000; omega⟩) hP hD hS hA (fun _ => fQ_ad) (fun q H locs hI hP hD hS => ?_)
            have hP : va_P g vwCl (fQ cy x a tr s0 s1 pa q σ n fl tx ln) H := hP
            have hD : va_D A (fQ cy x a tr s0 s1 pa q σ n fl tx ln) := hD
            refine ti (show an (fPur (nI f)) (nI (σ (8 + (nI f).toNatClampNeg))) = (nI (σ (8 + f))) from (v_pu (by omega))) ?_
            show W _ _ _ _ _ _ _ _ _ _ _ _ _ _ _ (F0 mX 661 ls [.int (nI (σ (8 + f))), .int (nI (sm (pu σ) f))])
            refine lv_iadd hx hb dL_holds_661 ?_
            refine ti (nI_add (sm (pu σ) f) (σ (8 + f))) ?_
            refine lv_istore (lv' := [(10, .int (nI ((sm (pu σ) f) + (σ (8 + f))))), (0, .ref (x 0)), (1, .int (nI v)), (2, .int (nI (σ 0))), (3, .int (nI (σ 1))), (4, .int (nI (σ 2))), (5, .int (nI (ct (msg σ) (σ 0)))), (6, .int (nI (sm (fun d9 => if msg σ d9 then dg σ d9 4 else 0) (σ 0)))), (7, .int (nI (ct (frd σ) (σ 1)))), (8, .int (nI (ct (mng σ NN) (σ 1)))), (9, .int (nI (sm (fun d9 => ct (mng σ d9) (σ 1)) (σ 0)))), (11, .int (nI (sm (fun d9 => dg σ d9 4) (σ 0)))), (12, .int (nI 1)), (13, .int (nI f))]) hx hb dL_holds_662 hl (by decide) rfl (fun ls hl => ?_)
            have hl : lv_has ls 21 [(10, .int (nI (sm (pu σ) (f + 1)))), (0, .ref (x 0)), (1, .int (nI v)), (2, .int (nI (σ 0))), (3, .int (nI (σ 1))), (4, .int (nI (σ 2))), (5, .int (nI (ct (msg σ) (σ 0)))), (6, .int (nI (sm (fun d9 => if msg σ d9 then dg σ d9 4 else 0) (σ 0)))), (7, .int (nI (ct (frd σ) (σ 1)))), (8, .int (nI (ct (mng σ NN) (σ 1)))), (9, .int (nI (sm (fun d9 => ct (mng σ d9) (σ 1)) (σ 0)))), (11, .int (nI (sm (fun d9 => dg σ d9 4) (σ 0)))), (12, .int (nI 1)), (13, .int (nI f))] := by rw [← show (nI ((sm (pu σ) f) + (σ (8 + f)))) = (nI (sm (pu σ) (f + 1))) from rfl]; exact hl
            refine lv_iinc (v := (nI (f + 1))) (lv' := [(13, .int (nI (f + 1))), (10, .int (nI (sm (pu σ) (f + 1)))), (0, .ref (x 0)), (1, .int (nI v)), (2, .int (nI (σ 0))), (3, .int (nI (σ 1))), (4, .int (nI (σ 2))), (5, .int (nI (ct (msg σ) (σ 0)))), (6, .int (nI (sm (fun d9 => if msg σ d9 then dg σ d9 4 else 0) (σ 0)))), (7, .int (nI (ct (frd σ) (σ 1)))), (8, .int (nI (ct (mng σ NN) (σ 1)))), (9, .int (nI (sm (fun d9 => ct (mng σ d9) (σ 1)) (σ 0)))), (11, .int (nI (sm (fun d9 => dg σ d9 4) (σ 0)))), (12, .int (nI 1))]) hx hb dL_holds_664 hl (k := 13) rfl (nI_add f 1) (by decide) rfl (fun ls hl => ?_)
            refine lv_goto (tgt := 643) hx hb dL_holds_667 (by decide) ?_
            refine W.widen (k := 1000 + (f + 1)) (n := 6 * (1000 + (f + 1))) (by omega) (by omega) ?_
            exact ih643 (f + 1, q) H locs ls ⟨hP, hD, hS, hI, lv_sub hl [2, 3, 4, 5, 6, 7, 8, 9, 10, 11, 12, 13, 1, 0] rfl, (by omega)⟩ (by dsimp only; omega)
        · have c_438 := (nc_nle (by omega) (by omega) c_438)
          have hs9 : s < σ 1 := by omega
          have sb9 := hW.sb hs9
          refine lv_iload hx hb dL_holds_441 (lv_at hl 10 rfl) ?_
          refine lv_if_eq (tgt := 640) hx hb dL_holds_443 (by decide) (fun c9 => absurd c9 (by decide)) (fun _ => ?_)
          by_cases h5 : sg σ s 5 = NN
          · skip
            refine lv_aload_n hx hb dL_holds_446 rfl (lv_at hl 0 rfl) ?_
            refine lv_iconst (v := (nI 4)) hx hb dL_holds_447 (by decide) ?_
            refine lv_iload hx hb dL_holds_448 (lv_at hl 13 rfl) ?_
            refine lv_iconst (v := (nI 5)) hx hb dL_holds_450 (by decide) ?_
            refine lv_iconst (v := (nI 0)) hx hb dL_holds_451 (by decide) ?_
            refine wr_callS (pre := []) (wc := fQ cy x a tr s0 s1 pa q σ n fl tx ln) (va_runS (As := [.ref (x 0), .int (nI 4), .int (nI s), .int (nI 5), .int (nI 0)]) (rest := []) ⟨hx, hb, hml, hown, hts⟩ (c_L_call_4 l hfl g cy x a tr s0 s1 pa H.size bd q σ Hh n K fl tx ln (nI s) (nI 5) (nI 0) hI ) ⟨(cB 5 hts wd9_11 wd5_14 wd9_9 rfl rfl (by decide +kernel) ⟨Nat.le_of_ble_eq_true rfl, Nat.le_of_ble_eq_true rfl⟩), hts _ wd9_10⟩ (ps2 (ws := [] ++ fQ cy x a tr s0 s1 pa q σ n fl tx ln) hK hP hD hS hA hX hY _ nd_suffix at_suffix) rfl rfl hl.1 rfl (lv_room (Nat.le_of_ble_eq_true rfl)) dL_holds_452 ⟨by show _ ≤ 1500; omega, by show _ ≤ 9000; omega⟩) hP hD hS hA (fun _ => fQ_ad) (fun q H locs hI hP hD hS => ?_)
            have hP : va_P g vwCl (fQ cy x a tr s0 s1 pa q σ n fl tx ln) H := hP
            have hD : va_D A (fQ cy x a tr s0 s1 pa q σ n fl tx ln) := hD
            refine ti (show an (fSig σ (nI s) (nI 5)) (nI (nsg σ (nI s).toNatClampNeg (nI 5).toNatClampNeg)) = (nI (sg σ s 5)) from (v_sg (w := 5) hn1 (by omega) (by decide))) ?_
            show W _ _ _ _ _ _ _ _ _ _ _ _ _ _ _ (F0 mX 455 ls [.int (nI (sg σ s 5))])
            refine lv_istore (lv' := [(14, .int (nI (sg σ s 5))), (0, .ref (x 0)), (1, .int (nI v)), (2, .int (nI (σ 0))), (3, .int (nI (σ 1))), (4, .int (nI (σ 2))), (5, .int (nI (ct (msg σ) (σ 0)))), (6, .int (nI (sm (fun d9 => if msg σ d9 then dg σ d9 4 else 0) (σ 0)))), (9, .int (nI (sm (fun d9 => ct (mng σ d9) (σ 1)) (σ 0)))), (10, .int (nI 0)), (11, .int (nI (sm (fun d9 => dg σ d9 4) (σ 0)))), (12, .int (nI 1)), (7, .int (nI (ct (frd σ) s))), (8, .int (nI (ct (mng σ NN) s))), (13, .int (nI s))]) hx hb dL_holds_455 hl (by decide) rfl (fun ls hl => ?_)
            refine lv_aload_n hx hb dL_holds_457 rfl (lv_at hl 1 rfl) ?_
            refine lv_iconst (v := (nI 4)) hx hb dL_holds_458 (by decide) ?_
            refine lv_iload hx hb dL_holds_459 (lv_at hl 14 rfl) ?_
            refine lv_bipush (v := (nI 7)) hx hb dL_holds_461 (by decide) ?_
            refine lv_iconst (v := (nI 0)) hx hb dL_holds_463 (by decide) ?_
            refine wr_callS (pre := []) (wc := fQ cy x a tr s0 s1 pa q σ n fl tx ln) (va_runS (As := [.ref (x 0), .int (nI 4), .int (nI s), .int (nI 7), .int (nI 0)]) (rest := []) ⟨hx, hb, hml, hown, hts⟩ (c_L_call_4 l hfl g cy x a tr s0 s1 pa H.size bd q σ Hh n K fl tx ln (nI s) (nI 7) (nI 0) hI ) ⟨(cB 5 hts wd9_11 wd5_14 wd9_9 rfl rfl (by decide +kernel) ⟨Nat.le_of_ble_eq_true rfl, Nat.le_of_ble_eq_true rfl⟩), hts _ wd9_10⟩ (ps2 (ws := [] ++ fQ cy x a tr s0 s1 pa q σ n fl tx ln) hK hP hD hS hA hX hY _ nd_suffix at_suffix) rfl rfl hl.1 rfl (lv_room (Nat.le_of_ble_eq_true rfl)) dL_holds_464 ⟨by show _ ≤ 1500; omega, by show _ ≤ 9000; omega⟩) hP hD hS hA (fun _ => fQ_ad) (fun q H locs hI hP hD hS => ?_)
            have hP : va_P g vwCl (fQ cy x a tr s0 s1 pa q σ n fl tx ln) H := hP
            have hD : va_D A (fQ cy x a tr s0 s1 pa q σ n fl tx ln) := hD
            refine ti (show an (fSig σ (nI s) (nI 7)) (nI (nsg σ (nI s).toNatClampNeg (nI 7).toNatClampNeg)) = (nI (if sg σ s 5 = NN then NN else if tru σ s then 1 else 0)) from (v_sg (w := 7) hn1 (by omega) (by decide))) ?_
            show W _ _ _ _ _ _ _ _ _ _ _ _ _ _ _ (F0 mX 467 ls [.int (nI (if sg σ s 5 = NN then NN else if tru σ s then 1 else 0))])
            refine ti (show (nI (if sg σ s 5 = NN then NN else if tru σ s then 1 else 0)) = (nI NN) from (congrArg nI (if_pos h5))) ?_
            refine lv_istore (lv' := [(15, .int (nI NN)), (14, .int (nI (sg σ s 5))), (0, .ref (x 0)), (1, .int (nI v)), (2, .int (nI (σ 0))), (3, .int (nI (σ 1))), (4, .int (nI (σ 2))), (5, .int (nI (ct (msg σ) (σ 0)))), (6, .int (nI (sm (fun d9 => if msg σ d9 then dg σ d9 4 else 0) (σ 0)))), (9, .int (nI (sm (fun d9 => ct (mng σ d9) (σ 1)) (σ 0)))), (10, .int (nI 0)), (11, .int (nI (sm (fun d9 => dg σ d9 4) (σ 0)))), (12, .int (nI 1)), (7, .int (nI (ct (frd σ) s))), (8, .int (nI (ct (mng σ NN) s))), (13, .int (nI s))]) hx hb dL_holds_467 hl (by decide) rfl (fun ls hl => ?_)
            refine lv_aload_n hx hb dL_holds_469 rfl (lv_at hl 2 rfl) ?_
            refine lv_iconst (v := (nI 4)) hx hb dL_holds_470 (by decide) ?_
            refine lv_iload hx hb dL_holds_471 (lv_at hl 15 rfl) ?_
            refine lv_bipush (v := (nI 8)) hx hb dL_holds_473 (by decide) ?_
            refine lv_iconst (v := (nI 0)) hx hb dL_holds_475 (by decide) ?_
            refine wr_callS (pre := []) (wc := fQ cy x a tr s0 s1 pa q σ n fl tx ln) (va_runS (As := [.ref (x 0), .int (nI 4), .int (nI s), .int (nI 8), .int (nI 0)]) (rest := []) ⟨hx, hb, hml, hown, hts⟩ (c_L_call_4 l hfl g cy x a tr s0 s1 pa H.size bd q σ Hh n K fl tx ln (nI s) (nI 8) (nI 0) hI ) ⟨(cB 5 hts wd9_11 wd5_14 wd9_9 rfl rfl (by decide +kernel) ⟨Nat.le_of_ble_eq_true rfl, Nat.le_of_ble_eq_true rfl⟩), hts _ wd9_10⟩ (ps2 (ws := [] ++ fQ cy x a tr s0 s1 pa q σ n fl tx ln) hK hP hD hS hA hX hY _ nd_suffix at_suffix) rfl rfl hl.1 rfl (lv_room (Nat.le_of_ble_eq_true rfl)) dL_holds_476 ⟨by show _ ≤ 1500; omega, by show _ ≤ 9000; omega⟩) hP hD hS hA (fun _ => fQ_ad) (fun q H locs hI hP hD hS => ?_)
            have hP : va_P g vwCl (fQ cy x a tr s0 s1 pa q σ n fl tx ln) H := hP
            have hD : va_D A (fQ cy x a tr s0 s1 pa q σ n fl tx ln) := hD
            refine ti (show an (fSig σ (nI s) (nI 8)) (nI (nsg σ (nI s).toNatClampNeg (nI 8).toNatClampNeg)) = (nI (if frd σ s then 1 else 0)) from (v_sg (w := 8) hn1 (by omega) (by decide))) ?_
            show W _ _ _ _ _ _ _ _ _ _ _ _ _ _ _ (F0 mX 479 ls [.int (nI (if frd σ s then 1 else 0))])
            refine ti (show (nI (if frd σ s then 1 else 0)) = (nI 0) from (by rw [show frd σ s = false from if_pos h5]; rfl)) ?_
            refine lv_istore (lv' := [(16, .int (nI 0)), (15, .int (nI NN)), (14, .int (nI (sg σ s 5))), (0, .ref (x 0)), (1, .int (nI v)), (2, .int (nI (σ 0))), (3, .int (nI (σ 1))), (4, .int (nI (σ 2))), (5, .int (nI (ct (msg σ) (σ 0)))), (6, .int (nI (sm (fun d9 => if msg σ d9 then dg σ d9 4 else 0) (σ 0)))), (9, .int (nI (sm (fun d9 => ct (mng σ d9) (σ 1)) (σ 0)))), (10, .int (nI 0)), (11, .int (nI (sm (fun d9 => dg σ d9 4) (σ 0)))), (12, .int (nI 1)), (7, .int (nI (ct (frd σ) s))), (8, .int (nI (ct (mng σ NN) s))), (13, .int (nI s))]) hx hb dL_holds_479 hl (by decide) rfl (fun ls hl => ?_)
            refine lv_iload hx hb dL_holds_481 (lv_at hl 15 rfl) ?_
            refine lv_iload hx hb dL_holds_483 (lv_at hl 2 rfl) ?_
            refine lv_iconst (v := (nI NN)) hx hb dL_holds_485 (by decide) ?_
            refine lv_icmp_ne (tgt := 493) hx hb dL_holds_486 (by decide) (fun c_486 => ?_) (fun c_486 => ?_)
            · have c_486 := (nc_ne9 (by omega) (by decide) c_486)
              exact absurd h5 c_486
            · have c_486 := (nc_eq9 (by omega) (by decide) c_486)
              refine lv_iconst (v := (nI 1)) hx hb dL_holds_489 (by decide) ?_
              refine lv_goto (tgt := 494) hx hb dL_holds_490 (by decide) ?_
              refine lv_iadd hx hb dL_holds_494 ?_
              refine ti (nI_add (ct (mng σ NN) s) 1) ?_
              refine lv_istore (lv' := [(8, .int (nI ((ct (mng σ NN) s) + 1))), (16, .int (nI 0)), (15, .int (nI NN)), (14, .int (nI (sg σ s 5))), (0, .ref (x 0)), (1, .int (nI v)), (2, .int (nI (σ 0))), (3, .int (nI (σ 1))), (4, .int (nI (σ 2))), (5, .int (nI (ct (msg σ) (σ 0)))), (6, .int (nI (sm (fun d9 => if msg σ d9 then dg σ d9 4 else 0) (σ 0)))), (9, .int (nI (sm (fun d9 => ct (mng σ d9) (σ 1)) (σ 0)))), (10, .int (nI 0)), (11, .int (nI (sm (fun d9 => dg σ d9 4) (σ 0)))), (12, .int (nI 1)), (7, .int (nI (ct (frd σ) s))), (13, .int (nI s))]) hx hb dL_holds_495 hl (by decide) rfl (fun ls hl => ?_)
              have hl : lv_has ls 21 [(8, .int (nI (ct (mng σ NN) (s + 1)))), (16, .int (nI 0)), (15, .int (nI NN)), (14, .int (nI (sg σ s 5))), (0, .ref (x 0)), (1, .int (nI v)), (2, .int (nI (σ 0))), (3, .int (nI (σ 1))), (4, .int (nI (σ 2))), (5, .int (nI (ct (msg σ) (σ 0)))), (6, .int (nI (sm (fun d9 => if msg σ d9 then dg σ d9 4 else 0) (σ 0)))), (9, .int (nI (sm (fun d9 => ct (mng σ d9) (σ 1)) (σ 0)))), (10, .int (nI 0)), (11, .int (nI (sm (fun d9 => dg σ d9 4) (σ 0)))), (12, .int (nI 1)), (7, .int (nI (ct (frd σ) s))), (13, .int (nI s))] := by rw [← show (nI ((ct (mng σ NN) s) + 1)) = (nI (ct (mng σ NN) (s + 1))) from (congrArg nI (by show _ = ct (mng σ NN) s + (if mng σ NN s then 1 else 0); simp [mng, h5]))]; exact hl
              refine lv_iload hx hb dL_holds_497 (lv_at hl 15 rfl) ?_
              refine lv_iload hx hb dL_holds_499 (lv_at hl 1 rfl) ?_
              refine lv_iadd hx hb dL_holds_501 ?_
              refine ti (nI_add (ct (frd σ) s) 0) ?_
              refine lv_istore (lv' := [(7, .int (nI ((ct (frd σ) s) + 0))), (8, .int (nI (ct (mng σ NN) (s + 1)))), (16, .int (nI 0)), (15, .int (nI NN)), (14, .int (nI (sg σ s 5))), (0, .ref (x 0)), (1, .int (nI v)), (2, .int (nI (σ 0))), (3, .int (nI (σ 1))), (4, .int (nI (σ 2))), (5, .int (nI (ct (msg σ) (σ 0)))), (6, .int (nI (sm (fun d9 => if msg σ d9 then dg σ d9 4 else 0) (σ 0)))), (9, .int (nI (sm (fun d9 => ct (mng σ d9) (σ 1)) (σ 0)))), (10, .int (nI 0)), (11, .int (nI (sm (fun d9 => dg σ d9 4) (σ 0)))), (12, .int (nI 1)), (13, .int (nI s))]) hx hb dL_holds_502 hl (by decide) rfl (fun ls hl => ?_)
              have hl : lv_has ls 21 [(7, .int (nI (ct (frd σ) (s + 1)))), (8, .int (nI (ct (mng σ NN) (s + 1)))), (16, .int (nI 0)), (15, .int (nI NN)), (14, .int (nI (sg σ s 5))), (0, .ref (x 0)), (1, .int (nI v)), (2, .int (nI (σ 0))), (3, .int (nI (σ 1))), (4, .int (nI (σ 2))), (5, .int (nI (ct (msg σ) (σ 0)))), (6, .int (nI (sm (fun d9 => if msg σ d9 then dg σ d9 4 else 0) (σ 0)))), (9, .int (nI (sm (fun d9 => ct (mng σ d9) (σ 1)) (σ 0)))), (10, .int (nI 0)), (11, .int (nI (sm (fun d9 => dg σ d9 4) (σ 0)))), (12, .int (nI 1)), (13, .int (nI s))] := by rw [← show (nI ((ct (frd σ) s) + 0)) = (nI (ct (frd σ) (s + 1))) from (congrArg nI (by show _ = ct (frd σ) s + (if frd σ s then 1 else 0); simp [show frd σ s = false from if_pos h5]))]; exact hl
              refine lv_iload hx hb dL_holds_504 (lv_at hl 4 rfl) ?_
              refine lv_iconst (v := (nI NN)) hx hb dL_holds_506 (by decide) ?_
              refine lv_icmp_ne (tgt := 538) hx hb dL_holds_507 (by decide) (fun c_507 => ?_) (fun c_507 => ?_)
              · have c_507 := (nc_ne9 (by omega) (by decide) c_507)
                exact absurd h5 c_507
              · have c_507 := (nc_eq9 (by omega) (by decide) c_507)
                refine lv_iload hx hb dL_holds_510 (lv_at hl 3 rfl) ?_
                refine lv_iconst (v := (nI NN)) hx hb dL_holds_512 (by decide) ?_
                refine lv_icmp_ne (tgt := 631) hx hb dL_holds_513 (by decide) (fun c_513 => absurd rfl c_513) (fun _ => ?_)
                refine lv_iload hx hb dL_holds_516 (lv_at hl 2 rfl) ?_
                refine lv_if_ne (tgt := 631) hx hb dL_holds_518 (by decide) (fun c_518 => ?_) (fun c_518 => ?_)
                · have c_518 := (nz_ne c_518 (by omega))
                  omega
                · have c_518 := (nz_eq c_518 (by omega))
                  refine lv_aload_n hx hb dL_holds_521 rfl (lv_at hl 5 rfl) ?_
                  refine lv_iconst (v := (nI 4)) hx hb dL_holds_522 (by decide) ?_
                  refine lv_iload hx hb dL_holds_523 (lv_at hl 16 rfl) ?_
                  refine lv_bipush (v := (nI 6)) hx hb dL_holds_525 (by decide) ?_
                  refine lv_iconst (v := (nI 0)) hx hb dL_holds_527 (by decide) ?_
                  refine wr_callS (pre := []) (wc := fQ cy x a tr s0 s1 pa q σ n fl tx ln) (va_runS (As := [.ref (x 0), .int (nI 4), .int (nI s), .int (nI 6), .int (nI 0)]) (rest := []) ⟨hx, hb, hml, hown, hts⟩ (c_L_call_4 l hfl g cy x a tr s0 s1 pa H.size bd q σ Hh n K fl tx ln (nI s) (nI 6) (nI 0) hI ) ⟨(cB 5 hts wd9_11 wd5_14 wd9_9 rfl rfl (by decide +kernel) ⟨Nat.le_of_ble_eq_true rfl, Nat.le_of_ble_eq_true rfl⟩), hts _ wd9_10⟩ (ps2 (ws := [] ++ fQ cy x a tr s0 s1 pa q σ n fl tx ln) hK hP hD hS hA hX hY _ nd_suffix at_suffix) rfl rfl hl.1 rfl (lv_room (Nat.le_of_ble_eq_true rfl)) dL_holds_528 ⟨by show _ ≤ 1500; omega, by show _ ≤ 9000; omega⟩) hP hD hS hA (fun _ => fQ_ad) (fun q H locs hI hP hD hS => ?_)
                  have hP : va_P g vwCl (fQ cy x a tr s0 s1 pa q σ n fl tx ln) H := hP
                  have hD : va_D A (fQ cy x a tr s0 s1 pa q σ n fl tx ln) := hD
                  refine ti (show an (fSig σ (nI s) (nI 6)) (nI (nsg σ (nI s).toNatClampNeg (nI 6).toNatClampNeg)) = (nI (if sg σ s 5 = NN then NN else unl σ (sg σ s 5) (sg σ s 3))) from (v_sg (w := 6) hn1 (by omega) (by decide))) ?_
                  show W _ _ _ _ _ _ _ _ _ _ _ _ _ _ _ (F0 mX 531 ls [.int (nI (if sg σ s 5 = NN then NN else unl σ (sg σ s 5) (sg σ s 3)))])
                  refine ti (show (nI (if sg σ s 5 = NN then NN else unl σ (sg σ s 5) (sg σ s 3))) = (nI NN) from (congrArg nI (if_pos h5))) ?_
                  refine lv_iconst (v := (nI NN)) hx hb dL_holds_531 (by decide) ?_
                  refine lv_icmp_ne (tgt := 631) hx hb dL_holds_532 (by decide) (fun c_532 => absurd rfl c_532) (fun _ => ?_)
                  refine lv_goto (tgt := 586) hx hb dL_holds_535 (by decide) ?_
                  refine lv_aload_n hx hb dL_holds_586 rfl (lv_at hl 5 rfl) ?_
                  refine lv_iconst (v := (nI 4)) hx hb dL_holds_587 (by decide) ?_
                  refine lv_iload hx hb dL_holds_588 (lv_at hl 16 rfl) ?_
                  refine lv_iconst (v := (nI 2)) hx hb dL_holds_590 (by decide) ?_
                  refine lv_iconst (v := (nI 0)) hx hb dL_holds_591 (by decide) ?_
                  refine wr_callS (pre := []) (wc := fQ cy x a tr s0 s1 pa q σ n fl tx ln) (va_runS (As := [.ref (x 0), .int (nI 4), .int (nI s), .int (nI 2), .int (nI 0)]) (rest := []) ⟨hx, hb, hml, hown, hts⟩ (c_L_call_4 l hfl g cy x a tr s0 s1 pa H.size bd q σ Hh n K fl tx ln (nI s) (nI 2) (nI 0) hI ) ⟨(cB 5 hts wd9_11 wd5_14 wd9_9 rfl rfl (by decide +kernel) ⟨Nat.le_of_ble_eq_true rfl, Nat.le_of_ble_eq_true rfl⟩), hts _ wd9_10⟩ (ps2 (ws := [] ++ fQ cy x a tr s0 s1 pa q σ n fl tx ln) hK hP hD hS hA hX hY _ nd_suffix at_suffix) rfl rfl hl.1 rfl (lv_room (Nat.le_of_ble_eq_true rfl)) dL_holds_592 ⟨by show _ ≤ 1500; omega, by show _ ≤ 9000; omega⟩) hP hD hS hA (fun _ => fQ_ad) (fun q H locs hI hP hD hS => ?_)
                  have hP : va_P g vwCl (fQ cy x a tr s0 s1 pa q σ n fl tx ln) H := hP
                  have hD : va_D A (fQ cy x a tr s0 s1 pa q σ n fl tx ln) := hD
                  refine ti (show an (fSig σ (nI s) (nI 2)) (nI (nsg σ (nI s).toNatClampNeg (nI 2).toNatClampNeg)) = (nI (sg σ s 2)) from (v_sg (w := 2) hn1 (by omega) (by decide))) ?_
                  show W _ _ _ _ _ _ _ _ _ _ _ _ _ _ _ (F0 mX 595 ls [.int (nI (sg σ s 2))])
                  refine lv_iload hx hb dL_holds_595 (lv_at hl 9 rfl) ?_
                  refine lv_icmp_gt (tgt := 631) hx hb dL_holds_597 (by decide) (fun c_597 => ?_) (fun c_597 => ?_)
                  · have c_597 := (nc_lt (by omega) (by omega) c_597)
                    omega
                  · have c_597 := (nc_nlt (by omega) (by omega) c_597)
                    refine lv_aload_n hx hb dL_holds_600 rfl (lv_at hl 5 rfl) ?_
                    refine lv_iconst (v := (nI 4)) hx hb dL_holds_601 (by decide) ?_
                    refine lv_iload hx hb dL_holds_602 (lv_at hl 16 rfl) ?_
                    refine lv_iconst (v := (nI 4)) hx hb dL_holds_604 (by decide) ?_
                    refine lv_iconst (v := (nI 0)) hx hb dL_holds_605 (by decide) ?_
                    refine wr_callS (pre := []) (wc := fQ cy x a tr s0 s1 pa q σ n fl tx ln) (va_runS (As := [.ref (x 0), .int (nI 4), .int (nI s), .int (nI 4), .int (nI 0)]) (rest := []) ⟨hx, hb, hml, hown, hts⟩ (c_L_call_4 l hfl g cy x a tr s0 s1 pa H.size bd q σ Hh n K fl tx ln (nI s) (nI 4) (nI 0) hI ) ⟨(cB 5 hts wd9_11 wd5_14 wd9_9 rfl rfl (by decide +kernel) ⟨Nat.le_of_ble_eq_true rfl, Nat.le_of_ble_eq_true rfl⟩), hts _ wd9_10⟩ (ps2 (ws := [] ++ fQ cy x a tr s0 s1 pa q σ n fl tx ln) hK hP hD hS hA hX hY _ nd_suffix at_suffix) rfl rfl hl.1 rfl (lv_room (Nat.le_of_ble_eq_true rfl)) dL_holds_606 ⟨by show _ ≤ 1500; omega, by show _ ≤ 9000; omega⟩) hP hD hS hA (fun _ => fQ_ad) (fun q H locs hI hP hD hS => ?_)
                    have hP : va_P g vwCl (fQ cy x a tr s0 s1 pa q σ n fl tx ln) H := hP
                    have hD : va_D A (fQ cy x a tr s0 s1 pa q σ n fl tx ln) := hD
                    refine ti (show an (fSig σ (nI s) (nI 4)) (nI (nsg σ (nI s).toNatClampNeg (nI 4).toNatClampNeg)) = (nI (sg σ s 4)) from (v_sg (w := 4) hn1 (by omega) (by decide))) ?_
                    show W _ _ _ _ _ _ _ _ _ _ _ _ _ _ _ (F0 mX 609 ls [.int (nI (sg σ s 4))])
                    refine lv_if_eq (tgt := 627) hx hb dL_holds_609 (by decide) (fun c_609 => ?_) (fun c_609 => ?_)
                    · have c_609 := (nz_eq c_609 (by omega))
                      refine lv_iconst (v := (nI 1)) hx hb dL_holds_627 (by decide) ?_
                      refine lv_goto (tgt := 632) hx hb dL_holds_628 (by decide) ?_
                      refine lv_istore (lv' := [(12, .int (nI 1)), (7, .int (nI (ct (frd σ) (s + 1)))), (8, .int (nI (ct (mng σ NN) (s + 1)))), (16, .int (nI 0)), (15, .int (nI NN)), (14, .int (nI (sg σ s 5))), (0, .ref (x 0)), (1, .int (nI v)), (2, .int (nI (σ 0))), (3, .int (nI (σ 1))), (4, .int (nI (σ 2))), (5, .int (nI (ct (msg σ) (σ 0)))), (6, .int (nI (sm (fun d9 => if msg σ d9 then dg σ d9 4 else 0) (σ 0)))), (9, .int (nI (sm (fun d9 => ct (mng σ d9) (σ 1)) (σ 0)))), (10, .int (nI 0)), (11, .int (nI (sm (fun d9 => dg σ d9 4) (σ 0)))), (13, .int (nI s))]) hx hb dL_holds_632 hl (by decide) rfl (fun ls hl => ?_)
                      refine lv_iinc (v := (nI (s + 1))) (lv' := [(13, .int (nI (s + 1))), (12, .int (nI 1)), (7, .int (nI (ct (frd σ) (s + 1)))), (8, .int (nI (ct (mng σ NN) (s + 1)))), (16, .int (nI 0)), (15, .int (nI NN)), (14, .int (nI (sg σ s 5))), (0, .ref (x 0)), (1, .int (nI v)), (2, .int (nI (σ 0))), (3, .int (nI (σ 1))), (4, .int (nI (σ 2))), (5, .int (nI (ct (msg σ) (σ 0)))), (6, .int (nI (sm (fun d9 => if msg σ d9 then dg σ d9 4 else 0) (σ 0)))), (9, .int (nI (sm (fun d9 => ct (mng σ d9) (σ 1)) (σ 0)))), (10, .int (nI 0)), (11, .int (nI (sm (fun d9 => dg σ d9 4) (σ 0))))]) hx hb dL_holds_634 hl (k := 16) rfl (nI_add s 1) (by decide) rfl (fun ls hl => ?_)
                      refine lv_goto (tgt := 435) hx hb dL_holds_637 (by decide) ?_
                      refine W.widen (k := 700 + 10 * (s + 1)) (n := 6 * (700 + 10 * (s + 1))) (by omega) (by omega) ?_
                      exact ih435 (s + 1, q) H locs ls ⟨hP, hD, hS, hI, lv_sub hl [7, 8, 9, 10, 11, 12, 13, 14, 15, 16, 1, 2, 3, 0] rfl, (by omega)⟩ (by dsimp only; omega)
                    · have c_609 := (nz_ne c_609 (by omega))
                      refine lv_iload hx hb dL_holds_612 (lv_at hl 4 rfl) ?_
                      refine lv_iconst (v := (nI NN)) hx hb dL_holds_614 (by decide) ?_
                      refine lv_icmp_eq (tgt := 627) hx hb dL_holds_615 (by decide) (fun c_615 => ?_) (fun c_615 => ?_)
                      · have c_615 := (nc_eq9 (by omega) (by decide) c_615)
                        refine lv_iconst (v := (nI 1)) hx hb dL_holds_627 (by decide) ?_
                        refine lv_goto (tgt := 632) hx hb dL_holds_628 (by decide) ?_
                        refine lv_istore (lv' := [(12, .int (nI 1)), (7, .int (nI (ct (frd σ) (s + 1)))), (8, .int (nI (ct (mng σ NN) (s + 1)))), (16, .int (nI 0)), (15, .int (nI NN)), (14, .int (nI (sg σ s 5))), (0, .ref (x 0)), (1, .int (nI v)), (2, .int (nI (σ 0))), (3, .int (nI (σ 1))), (4, .int (nI (σ 2))), (5, .int (nI (ct (msg σ) (σ 0)))), (6, .int (nI (sm (fun d9 => if msg σ d9 then dg σ d9 4 else 0) (σ 0)))), (9, .int (nI (sm (fun d9 => ct (mng σ d9) (σ 1)) (σ 0)))), (10, .int (nI 0)), (11, .int (nI (sm (fun d9 => dg σ d9 4) (σ 0)))), (13, .int (nI s))]) hx hb dL_holds_632 hl (by decide) rfl (fun ls hl => ?_)
                        refine lv_iinc (v := (nI (s + 1))) (lv' := [(13, .int (nI (s + 1))), (12, .int (nI 1)), (7, .int (nI (ct (frd σ) (s + 1)))), (8, .int (nI (ct (mng σ NN) (s + 1)))), (16, .int (nI 0)), (15, .int (nI NN)), (14, .int (nI (sg σ s 5))), (0, .ref (x 0)), (1, .int (nI v)), (2, .int (nI (σ 0))), (3, .int (nI (σ 1))), (4, .int (nI (σ 2))), (5, .int (nI (ct (msg σ) (σ 0)))), (6, .int (nI (sm (fun d9 => if msg σ d9 then dg σ d9 4 else 0) (σ 0)))), (9, .int (nI (sm (fun d9 => ct (mng σ d9) (σ 1)) (σ 0)))), (10, .int (nI 0)), (11, .int (nI (sm (fun d9 => dg σ d9 4) (σ 0))))]) hx hb dL_holds_634 hl (k := 16) rfl (nI_add s 1) (by decide) rfl (fun ls hl => ?_)
                        refine lv_goto (tgt := 435) hx hb dL_holds_637 (by decide) ?_
                        refine W.widen (k := 700 + 10 * (s + 1)) (n := 6 * (700 + 10 * (s + 1))) (by omega) (by omega) ?_
                        exact ih435 (s + 1, q) H locs ls ⟨hP, hD, hS, hI, lv_sub hl [7, 8, 9, 10, 11, 12, 13, 14, 15, 16, 1, 2, 3, 0] rfl, (by omega)⟩ (by dsimp only; omega)
                      · have c_615 := (nc_ne9 (by omega) (by decide) c_615)
                        exact absurd h5 c_615
          · skip
            have sg9 := SG hW hPI hs9 h5
            obtain ⟨ds9, ds8⟩ := (hW.ss hs9).2.2.2.2.2.1.resolve_left h5
            have db9 := hW.db ds9
            have u9 : unl σ (sg σ s 5) (sg σ s 3) ≤ 8 := unl_8 db9.1 (by omega)
            refine lv_aload_n hx hb dL_holds_446 rfl (lv_at hl 0 rfl) ?_
            by_cases tt : tru σ s = true
            · skip
              refine lv_iconst (v := (nI 4)) hx hb dL_holds_447 (by decide) ?_
              by_cases ff : frd σ s = true
              · skip
                refine lv_iload hx hb dL_holds_448 (lv_at hl 13 rfl) ?_
                refine lv_iconst (v := (nI 5)) hx hb dL_holds_450 (by decide) ?_
                refine lv_iconst (v := (nI 0)) hx hb dL_holds_451 (by decide) ?_
                refine wr_callS (pre := []) (wc := fQ cy x a tr s0 s1 pa q σ n fl tx ln) (va_runS (As := [.ref (x 0), .int (nI 4), .int (nI s), .int (nI 5), .int (nI 0)]) (rest := []) ⟨hx, hb, hml, hown, hts⟩ (c_L_call_4 l hfl g cy x a tr s0 s1 pa H.size bd q σ Hh n K fl tx ln (nI s) (nI 5) (nI 0) hI ) ⟨(cB 5 hts wd9_11 wd5_14 wd9_9 rfl rfl (by decide +kernel) ⟨Nat.le_of_ble_eq_true rfl, Nat.le_of_ble_eq_true rfl⟩), hts _ wd9_10⟩ (ps2 (ws := [] ++ fQ cy x a tr s0 s1 pa q σ n fl tx ln) hK hP hD hS hA hX hY _ nd_suffix at_suffix) rfl rfl hl.1 rfl (lv_room (Nat.le_of_ble_eq_true rfl)) dL_holds_452 ⟨by show _ ≤ 1500; omega, by show _ ≤ 9000; omega⟩) hP hD hS hA (fun _ => fQ_ad) (fun q H locs hI hP hD hS => ?_)
                have hP : va_P g vwCl (fQ cy x a tr s0 s1 pa q σ n fl tx ln) H := hP
                have hD : va_D A (fQ cy x a tr s0 s1 pa q σ n fl tx ln) := hD
                refine ti (show an (fSig σ (nI s) (nI 5)) (nI (nsg σ (nI s).toNatClampNeg (nI 5).toNatClampNeg)) = (nI (sg σ s 5)) from (v_sg (w := 5) hn1 (by omega) (by decide))) ?_
                show W _ _ _ _ _ _ _ _ _ _ _ _ _ _ _ (F0 mX 455 ls [.int (nI (sg σ s 5))])
                refine lv_istore (lv' := [(14, .int (nI (sg σ s 5))), (0, .ref (x 0)), (1, .int (nI v)), (2, .int (nI (σ 0))), (3, .int (nI (σ 1))), (4, .int (nI (σ 2))), (5, .int (nI (ct (msg σ) (σ 0)))), (6, .int (nI (sm (fun d9 => if msg σ d9 then dg σ d9 4 else 0) (σ 0)))), (9, .int (nI (sm (fun d9 => ct (mng σ d9) (σ 1)) (σ 0)))), (10, .int (nI 0)), (11, .int (nI (sm (fun d9 => dg σ d9 4) (σ 0)))), (12, .int (nI 1)), (7, .int (nI (ct (frd σ) s))), (8, .int (nI (ct (mng σ NN) s))), (13, .int (nI s))]) hx hb dL_holds_455 hl (by decide) rfl (fun ls hl => ?_)
                refine lv_aload_n hx hb dL_holds_457 rfl (lv_at hl 1 rfl) ?_
                refine lv_iconst (v := (nI 4)) hx hb dL_holds_458 (by decide) ?_
                refine lv_iload hx hb dL_holds_459 (lv_at hl 14 rfl) ?_
                refine lv_bipush (v := (nI 7)) hx hb dL_holds_461 (by decide) ?_
                refine lv_iconst (v := (nI 0)) hx hb dL_holds_463 (by decide) ?_
                refine wr_callS (pre := []) (wc := fQ cy x a tr s0 s1 pa q σ n fl tx ln) (va_runS (As := [.ref (x 0), .int (nI 4), .int (nI s), .int (nI 7), .int (nI 0)]) (rest := []) ⟨hx, hb, hml, hown, hts⟩ (c_L_call_4 l hfl g cy x a tr s0 s1 pa H.size bd q σ Hh n K fl tx ln (nI s) (nI 7) (nI 0) hI ) ⟨(cB 5 hts wd9_11 wd5_14 wd9_9 rfl rfl (by decide +kernel) ⟨Nat.le_of_ble_eq_true rfl, Nat.le_of_ble_eq_true rfl⟩), hts _ wd9_10⟩ (ps2 (ws := [] ++ fQ cy x a tr s0 s1 pa q σ n fl tx ln) hK hP hD hS hA hX hY _ nd_suffix at_suffix) rfl rfl hl.1 rfl (lv_room (Nat.le_of_ble_eq_true rfl)) dL_holds_464 ⟨by show _ ≤ 1500; omega, by show _ ≤ 9000; omega⟩) hP hD hS hA (fun _ => fQ_ad) (fun q H locs hI hP hD hS => ?_)
                have hP : va_P g vwCl (fQ cy x a tr s0 s1 pa q σ n fl tx ln) H := hP
                have hD : va_D A (fQ cy x a tr s0 s1 pa q σ n fl tx ln) := hD
                refine ti (show an (fSig σ (nI s) (nI 7)) (nI (nsg σ (nI s).toNatClampNeg (nI 7).toNatClampNeg)) = (nI (if sg σ s 5 = NN then NN else if tru σ s then 1 else 0)) from (v_sg (w := 7) hn1 (by omega) (by decide))) ?_
                show W _ _ _ _ _ _ _ _ _ _ _ _ _ _ _ (F0 mX 467 ls [.int (nI (if sg σ s 5 = NN then NN else if tru σ s then 1 else 0))])
                refine ti (show (nI (if sg σ s 5 = NN then NN else if tru σ s then 1 else 0)) = (nI 1) from (by rw [if_neg h5, if_pos tt])) ?_
                refine lv_istore (lv' := [(15, .int (nI 1)), (14, .int (nI (sg σ s 5))), (0, .ref (x 0)), (1, .int (nI v)), (2, .int (nI (σ 0))), (3, .int (nI (σ 1))), (4, .int (nI (σ 2))), (5, .int (nI (ct (msg σ) (σ 0)))), (6, .int (nI (sm (fun d9 => if msg σ d9 then dg σ d9 4 else 0) (σ 0)))), (9, .int (nI (sm (fun d9 => ct (mng σ d9) (σ 1)) (σ 0)))), (10, .int (nI 0)), (11, .int (nI (sm (fun d9 => dg σ d9 4) (σ 0)))), (12, .int (nI 1)), (7, .int (nI (ct (frd σ) s))), (8, .int (nI (ct (mng σ NN) s))), (13, .int (nI s))]) hx hb dL_holds_467 hl (by decide) rfl (fun ls hl => ?_)
                refine lv_aload_n hx hb dL_holds_469 rfl (lv_at hl 2 rfl) ?_
                refine lv_iconst (v := (nI 4)) hx hb dL_holds_470 (by decide) ?_
                refine lv_iload hx hb dL_holds_471 (lv_at hl 15 rfl) ?_
                refine lv_bipush (v := (nI 8)) hx hb dL_holds_473 (by decide) ?_
                refine lv_iconst (v := (nI 0)) hx hb dL_holds_475 (by decide) ?_
                refine wr_callS (pre := []) (wc := fQ cy x a tr s0 s1 pa q σ n fl tx ln) (va_runS (As := [.ref (x 0), .int (nI 4), .int (nI s), .int (nI 8), .int (nI 0)]) (rest := []) ⟨hx, hb, hml, hown, hts⟩ (c_L_call_4 l hfl g cy x a tr s0 s1 pa H.size bd q σ Hh n K fl tx ln (nI s) (nI 8) (nI 0) hI ) ⟨(cB 5 hts wd9_11 wd5_14 wd9_9 rfl rfl (by decide +kernel) ⟨Nat.le_of_ble_eq_true rfl, Nat.le_of_ble_eq_true rfl⟩), hts _ wd9_10⟩ (ps2 (ws := [] ++ fQ cy x a tr s0 s1 pa q σ n fl tx ln) hK hP hD hS hA hX hY _ nd_suffix at_suffix) rfl rfl hl.1 rfl (lv_room (Nat.le_of_ble_eq_true rfl)) dL_holds_476 ⟨by show _ ≤ 1500; omega, by show _ ≤ 9000; omega⟩) hP hD hS hA (fun _ => fQ_ad) (fun q H locs hI hP hD hS => ?_)
                have hP : va_P g vwCl (fQ cy x a tr s0 s1 pa q σ n fl tx ln) H := hP
                have hD : va_D A (fQ cy x a tr s0 s1 pa q σ n fl tx ln) := hD
                refine ti (show an (fSig σ (nI s) (nI 8)) (nI (nsg σ (nI s).toNatClampNeg (nI 8).toNatClampNeg)) = (nI (if frd σ s then 1 else 0)) from (v_sg (w := 8) hn1 (by omega) (by decide))) ?_
                show W _ _ _ _ _ _ _ _ _ _ _ _ _ _ _ (F0 mX 479 ls [.int (nI (if frd σ s then 1 else 0))])
                refine ti (show (nI (if frd σ s then 1 else 0)) = (nI 1) from (by rw [if_pos ff])) ?_
                refine lv_istore (lv' := [(16, .int (nI 1)), (15, .int (nI 1)), (14, .int (nI (sg σ s 5))), (0, .ref (x 0)), (1, .int (nI v)), (2, .int (nI (σ 0))), (3, .int (nI (σ 1))), (4, .int (nI (σ 2))), (5, .int (nI (ct (msg σ) (σ 0)))), (6, .int (nI (sm (fun d9 => if msg σ d9 then dg σ d9 4 else 0) (σ 0)))), (9, .int (nI (sm (fun d9 => ct (mng σ d9) (σ 1)) (σ 0)))), (10, .int (nI 0)), (11, .int (nI (sm (fun d9 => dg σ d9 4) (σ 0)))), (12, .int (nI 1)), (7, .int (nI (ct (frd σ) s))), (8, .int (nI (ct (mng σ NN) s))), (13, .int (nI s))]) hx hb dL_holds_479 hl (by decide) rfl (fun ls hl => ?_)
                refine lv_iload hx hb dL_holds_481 (lv_at hl 15 rfl) ?_
                refine lv_iload hx hb dL_holds_483 (lv_at hl 2 rfl) ?_
                refine lv_iconst (v := (nI NN)) hx hb dL_holds_485 (by decide) ?_
                refine lv_icmp_ne (tgt := 493) hx hb dL_holds_486 (by decide) (fun c_486 => ?_) (fun c_486 => ?_)
                · have c_486 := (nc_ne9 (by omega) (by decide) c_486)
                  refine lv_iconst (v := (nI 0)) hx hb dL_holds_493 (by decide) ?_
                  refine lv_iadd hx hb dL_holds_494 ?_
                  refine ti (nI_add (ct (mng σ NN) s) 0) ?_
                  refine lv_istore (lv' := [(8, .int (nI ((ct (mng σ NN) s) + 0))), (16, .int (nI 1)), (15, .int (nI 1)), (14, .int (nI (sg σ s 5))), (0, .ref (x 0)), (1, .int (nI v)), (2, .int (nI (σ 0))), (3, .int (nI (σ 1))), (4, .int (nI (σ 2))), (5, .int (nI (ct (msg σ) (σ 0)))), (6, .int (nI (sm (fun d9 => if msg σ d9 then dg σ d9 4 else 0) (σ 0)))), (9, .int (nI (sm (fun d9 => ct (mng σ d9) (σ 1)) (σ 0)))), (10, .int (nI 0)), (11, .int (nI (sm (fun d9 => dg σ d9 4) (σ 0)))), (12, .int (nI 1)), (7, .int (nI (ct (frd σ) s))), (13, .int (nI s))]) hx hb dL_holds_495 hl (by decide) rfl (fun ls hl => ?_)
                  have hl : lv_has ls 21 [(8, .int (nI (ct (mng σ NN) (s + 1)))), (16, .int (nI 1)), (15, .int (nI 1)), (14, .int (nI (sg σ s 5))), (0, .ref (x 0)), (1, .int (nI v)), (2, .int (nI (σ 0))), (3, .int (nI (σ 1))), (4, .int (nI (σ 2))), (5, .int (nI (ct (msg σ) (σ 0)))), (6, .int (nI (sm (fun d9 => if msg σ d9 then dg σ d9 4 else 0) (σ 0)))), (9, .int (nI (sm (fun d9 => ct (mng σ d9) (σ 1)) (σ 0)))), (10, .int (nI 0)), (11, .int (nI (sm (fun d9 => dg σ d9 4) (σ 0)))), (12, .int (nI 1)), (7, .int (nI (ct (frd σ) s))), (13, .int (nI s))] := by rw [← show (nI ((ct (mng σ NN) s) + 0)) = (nI (ct (mng σ NN) (s + 1))) from (congrArg nI (by show _ = ct (mng σ NN) s + (if mng σ NN s then 1 else 0); simp [mng, h5]))]; exact hl
                  refine lv_iload hx hb dL_holds_497 (lv_at hl 15 rfl) ?_
                  refine lv_iload hx hb dL_holds_499 (lv_at hl 1 rfl) ?_
                  refine lv_iadd hx hb dL_holds_501 ?_
                  refine ti (nI_add (ct (frd σ) s) 1) ?_
                  refine lv_istore (lv' := [(7, .int (nI ((ct (frd σ) s) + 1))), (8, .int (nI (ct (mng σ NN) (s + 1)))), (16, .int (nI 1)), (15, .int (nI 1)), (14, .int (nI (sg σ s 5))), (0, .ref (x 0)), (1, .int (nI v)), (2, .int (nI (σ 0))), (3, .int (nI (σ 1))), (4, .int (nI (σ 2))), (5, .int (nI (ct (msg σ) (σ 0)))), (6, .int (nI (sm (fun d9 => if msg σ d9 then dg σ d9 4 else 0) (σ 0)))), (9, .int (nI (sm (fun d9 => ct (mng σ d9) (σ 1)) (σ 0)))), (10, .int (nI 0)), (11, .int (nI (sm (fun d9 => dg σ d9 4) (σ 0)))), (12, .int (nI 1)), (13, .int (nI s))]) hx hb dL_holds_502 hl (by decide) rfl (fun ls hl => ?_)
                  have hl : lv_has ls 21 [(7, .int (nI (ct (frd σ) (s + 1)))), (8, .int (nI (ct (mng σ NN) (s + 1)))), (16, .int (nI 1)), (15, .int (nI 1)), (14, .int (nI (sg σ s 5))), (0, .ref (x 0)), (1, .int (nI v)), (2, .int (nI (σ 0))), (3, .int (nI (σ 1))), (4, .int (nI (σ 2))), (5, .int (nI (ct (msg σ) (σ 0)))), (6, .int (nI (sm (fun d9 => if msg σ d9 then dg σ d9 4 else 0) (σ 0)))), (9, .int (nI (sm (fun d9 => ct (mng σ d9) (σ 1)) (σ 0)))), (10, .int (nI 0)), (11, .int (nI (sm (fun d9 => dg σ d9 4) (σ 0)))), (12, .int (nI 1)), (13, .int (nI s))] := by rw [← show (nI ((ct (frd σ) s) + 1)) = (nI (ct (frd σ) (s + 1))) from (congrArg nI (by show _ = ct (frd σ) s + (if frd σ s then 1 else 0); simp [ff]))]; exact hl
                  refine lv_iload hx hb dL_holds_504 (lv_at hl 4 rfl) ?_
                  refine lv_iconst (v := (nI NN)) hx hb dL_holds_506 (by decide) ?_
                  refine lv_icmp_ne (tgt := 538) hx hb dL_holds_507 (by decide) (fun c_507 => ?_) (fun c_507 => ?_)
                  · have c_507 := (nc_ne9 (by omega) (by decide) c_507)
                    refine lv_iload hx hb dL_holds_538 (lv_at hl 3 rfl) ?_
                    refine lv_iconst (v := (nI 1)) hx hb dL_holds_540 (by decide) ?_
                    refine lv_icmp_eq (tgt := 550) hx hb dL_holds_541 (by decide) (fun c_541 => ?_) (fun c_541 => ?_)
                    · have c_541 := (nc_eq9 (by omega) (by omega) c_541)
                      refine lv_aload_n hx hb dL_holds_550 rfl (lv_at hl 5 rfl) ?_
                      refine lv_iconst (v := (nI 4)) hx hb dL_holds_551 (by decide) ?_
                      refine lv_iload hx hb dL_holds_552 (lv_at hl 16 rfl) ?_
                      refine lv_bipush (v := (nI 6)) hx hb dL_holds_554 (by decide) ?_
                      refine lv_iconst (v := (nI 0)) hx hb dL_holds_556 (by decide) ?_
                      refine wr_callS (pre := []) (wc := fQ cy x a tr s0 s1 pa q σ n fl tx ln) (va_runS (As := [.ref (x 0), .int (nI 4), .int (nI s), .int (nI 6), .int (nI 0)]) (rest := []) ⟨hx, hb, hml, hown, hts⟩ (c_L_call_4 l hfl g cy x a tr s0 s1 pa H.size bd q σ Hh n K fl tx ln (nI s) (nI 6) (nI 0) hI ) ⟨(cB 5 hts wd9_11 wd5_14 wd9_9 rfl rfl (by decide +kernel) ⟨Nat.le_of_ble_eq_true rfl, Nat.le_of_ble_eq_true rfl⟩), hts _ wd9_10⟩ (ps2 (ws := [] ++ fQ cy x a tr s0 s1 pa q σ n fl tx ln) hK hP hD hS hA hX hY _ nd_suffix at_suffix) rfl rfl hl.1 rfl (lv_room (Nat.le_of_ble_eq_true rfl)) dL_holds_557 ⟨by show _ ≤ 1500; omega, by show _ ≤ 9000; omega⟩) hP hD hS hA (fun _ => fQ_ad) (fun q H locs hI hP hD hS => ?_)
                      have hP : va_P g vwCl (fQ cy x a tr s0 s1 pa q σ n fl tx ln) H := hP
                      have hD : va_D A (fQ cy x a tr s0 s1 pa q σ n fl tx ln) := hD
                      refine ti (show an (fSig σ (nI s) (nI 6)) (nI (nsg σ (nI s).toNatClampNeg (nI 6).toNatClampNeg)) = (nI (if sg σ s 5 = NN then NN else unl σ (sg σ s 5) (sg σ s 3))) from (v_sg (w := 6) hn1 (by omega) (by decide))) ?_
                      show W _ _ _ _ _ _ _ _ _ _ _ _ _ _ _ (F0 mX 560 ls [.int (nI (if sg σ s 5 = NN then NN else unl σ (sg σ s 5) (sg σ s 3)))])
                      refine ti (show (nI (if sg σ s 5 = NN then NN else unl σ (sg σ s 5) (sg σ s 3))) = (nI (unl σ (sg σ s 5) (sg σ s 3))) from (congrArg nI (if_neg h5))) ?_
                      refine lv_bipush (v := (nI 8)) hx hb dL_holds_560 (by decide) ?_
                      refine lv_icmp_gt (tgt := 631) hx hb dL_holds_562 (by decide) (fun c_562 => ?_) (fun c_562 => ?_)
                      · have c_562 := (nc_lt (by omega) (by omega) c_562)
                        omega
                      · have c_562 := (nc_nlt (by omega) (by omega) c_562)
                        refine lv_aload_n hx hb dL_holds_565 rfl (lv_at hl 5 rfl) ?_
                        refine lv_iconst (v := (nI 4)) hx hb dL_holds_566 (by decide) ?_
                        refine lv_iload hx hb dL_holds_567 (lv_at hl 16 rfl) ?_
                        refine lv_iconst (v := (nI 2)) hx hb dL_holds_569 (by decide) ?_
                        refine lv_iconst (v := (nI 0)) hx hb dL_holds_570 (by decide) ?_
                        refine wr_callS (pre := []) (wc := fQ cy x a tr s0 s1 pa q σ n fl tx ln) (va_runS (As := [.ref (x 0), .int (nI 4), .int (nI s), .int (nI 2), .int (nI 0)]) (rest := []) ⟨hx, hb, hml, hown, hts⟩ (c_L_call_4 l hfl g cy x a tr s0 s1 pa H.size bd q σ Hh n K fl tx ln (nI s) (nI 2) (nI 0) hI ) ⟨(cB 5 hts wd9_11 wd5_14 wd9_9 rfl rfl (by decide +kernel) ⟨Nat.le_of_ble_eq_true rfl, Nat.le_of_ble_eq_true rfl⟩), hts _ wd9_10⟩ (ps2 (ws := [] ++ fQ cy x a tr s0 s1 pa q σ n fl tx ln) hK hP hD hS hA hX hY _ nd_suffix at_suffix) rfl rfl hl.1 rfl (lv_room (Nat.le_of_ble_eq_true rfl)) dL_holds_571 ⟨by show _ ≤ 1500; omega, by show _ ≤ 9000; omega⟩) hP hD hS hA (fun _ => fQ_ad) (fun q H locs hI hP hD hS => ?_)
                        have hP : va_P g vwCl (fQ cy x a tr s0 s1 pa q σ n fl tx ln) H := hP
                        have hD : va_D A (fQ cy x a tr s0 s1 pa q σ n fl tx ln) := hD
                        refine ti (show an (fSig σ (nI s) (nI 2)) (nI (nsg σ (nI s).toNatClampNeg (nI 2).toNatClampNeg)) = (nI (sg σ s 2)) from (v_sg (w := 2) hn1 (by omega) (by decide))) ?_
                        show W _ _ _ _ _ _ _ _ _ _ _ _ _ _ _ (F0 mX 574 ls [.int (nI (sg σ s 2))])
                        refine lv_aload_n hx hb dL_holds_574 rfl (lv_at hl 5 rfl) ?_
                        refine lv_iconst (v := (nI 3)) hx hb dL_holds_575 (by decide) ?_
                        refine lv_iload hx hb dL_holds_576 (lv_at hl 4 rfl) ?_
                        refine lv_iconst (v := (nI 3)) hx hb dL_holds_578 (by decide) ?_
                        refine lv_iconst (v := (nI 0)) hx hb dL_holds_579 (by decide) ?_
                        refine wr_callS (pre := []) (wc := fQ cy x a tr s0 s1 pa q σ n fl tx ln) (va_runS (As := [.ref (x 0), .int (nI 3), .int (nI (sg σ s 5)), .int (nI 3), .int (nI 0)]) (rest := [.int (nI (sg σ s 2))]) ⟨hx, hb, hml, hown, hts⟩ (c_L_call_3 l hfl g cy x a tr s0 s1 pa H.size bd q σ Hh n K fl tx ln (nI (sg σ s 5)) (nI 3) (nI 0) hI ) ⟨(cB 5 hts wd9_11 wd5_14 wd9_9 rfl rfl (by decide +kernel) ⟨Nat.le_of_ble_eq_true rfl, Nat.le_of_ble_eq_true rfl⟩), hts _ wd9_10⟩ (ps2 (ws := [] ++ fQ cy x a tr s0 s1 pa q σ n fl tx ln) hK hP hD hS hA hX hY _ nd_suffix at_suffix) rfl rfl hl.1 rfl (lv_room (Nat.le_of_ble_eq_true rfl)) dL_holds_580 ⟨by show _ ≤ 1500; omega, by show _ ≤ 9000; omega⟩) hP hD hS hA (fun _ => fQ_ad) (fun q H locs hI hP hD hS => ?_)
                        have hP : va_P g vwCl (fQ cy x a tr s0 s1 pa q σ n fl tx ln) H := hP
                        have hD : va_D A (fQ cy x a tr s0 s1 pa q σ n fl tx ln) := hD
                        refine ti (show an (fDog σ (nI (sg σ s 5)) (nI 3)) (nI (ndg σ (nI (sg σ s 5)).toNatClampNeg (nI 3).toNatClampNeg)) = (nI (dg σ (sg σ s 5) 3)) from (v_dg (w := 3) hn0 ds9 (by decide))) ?_
                        show W _ _ _ _ _ _ _ _ _ _ _ _ _ _ _ (F0 mX 583 ls [.int (nI (dg σ (sg σ s 5) 3)), .int (nI (sg σ s 2))])
                        refine lv_icmp_lt (tgt := 631) hx hb dL_holds_583 (by decide) (fun c_583 => ?_) (fun c_583 => ?_)
                        · have c_583 := (nc_lt (by omega) (by omega) c_583)
                          omega
                        · have c_583 := (nc_nlt (by omega) (by omega) c_583)
                          refine lv_aload_n hx hb dL_holds_586 rfl (lv_at hl 5 rfl) ?_
                          refine lv_iconst (v := (nI 4)) hx hb dL_holds_587 (by decide) ?_
                          refine lv_iload hx hb dL_holds_588 (lv_at hl 16 rfl) ?_
                          refine lv_iconst (v := (nI 2)) hx hb dL_holds_590 (by decide) ?_
                          refine lv_iconst (v := (nI 0)) hx hb dL_holds_591 (by decide) ?_
                          refine wr_callS (pre := []) (wc := fQ cy x a tr s0 s1 pa q σ n fl tx ln) (va_runS (As := [.ref (x 0), .int (nI 4), .int (nI s), .int (nI 2), .int (nI 0)]) (rest := []) ⟨hx, hb, hml, hown, hts⟩ (c_L_call_4 l hfl g cy x a tr s0 s1 pa H.size bd q σ Hh n K fl tx ln (nI s) (nI 2) (nI 0) hI ) ⟨(cB 5 hts wd9_11 wd5_14 wd9_9 rfl rfl (by decide +kernel) ⟨Nat.le_of_ble_eq_true rfl, Nat.le_of_ble_eq_true rfl⟩), hts _ wd9_10⟩ (ps2 (ws := [] ++ fQ cy x a tr s0 s1 pa q σ n fl tx ln) hK hP hD hS hA hX hY _ nd_suffix at_suffix) rfl rfl hl.1 rfl (lv_room (Nat.le_of_ble_eq_true rfl)) dL_holds_592 ⟨by show _ ≤ 1500; omega, by show _ ≤ 9000; omega⟩) hP hD hS hA (fun _ => fQ_ad) (fun q H locs hI hP hD hS => ?_)
                          have hP : va_P g vwCl (fQ cy x a tr s0 s1 pa q σ n fl tx ln) H := hP
                          have hD : va_D A (fQ cy x a tr s0 s1 pa q σ n fl tx ln) := hD
                          refine ti (show an (fSig σ (nI s) (nI 2)) (nI (nsg σ (nI s).toNatClampNeg (nI 2).toNatClampNeg)) = (nI (sg σ s 2)) from (v_sg (w := 2) hn1 (by omega) (by decide))) ?_
                          show W _ _ _ _ _ _ _ _ _ _ _ _ _ _ _ (F0 mX 595 ls [.int (nI (sg σ s 2))])
                          refine lv_iload hx hb dL_holds_595 (lv_at hl 9 rfl) ?_
                          refine lv_icmp_gt (tgt := 631) hx hb dL_holds_597 (by decide) (fun c_597 => ?_) (fun c_597 => ?_)
                          · have c_597 := (nc_lt (by omega) (by omega) c_597)
                            omega
                          · have c_597 := (nc_nlt (by omega) (by omega) c_597)
                            refine lv_aload_n hx hb dL_holds_600 rfl (lv_at hl 5 rfl) ?_
                            refine lv_iconst (v := (nI 4)) hx hb dL_holds_601 (by decide) ?_
                            refine lv_iload hx hb dL_holds_602 (lv_at hl 16 rfl) ?_
                            refine lv_iconst (v := (nI 4)) hx hb dL_holds_604 (by decide) ?_
                            refine lv_iconst (v := (nI 0)) hx hb dL_holds_605 (by decide) ?_
                            refine wr_callS (pre := []) (wc := fQ cy x a tr s0 s1 pa q σ n fl tx ln) (va_runS (As := [.ref (x 0), .int (nI 4), .int (nI s), .int (nI 4), .int (nI 0)]) (rest := []) ⟨hx, hb, hml, hown, hts⟩ (c_L_call_4 l hfl g cy x a tr s0 s1 pa H.size bd q σ Hh n K fl tx ln (nI s) (nI 4) (nI 0) hI ) ⟨(cB 5 hts wd9_11 wd5_14 wd9_9 rfl rfl (by decide +kernel) ⟨Nat.le_of_ble_eq_true rfl, Nat.le_of_ble_eq_true rfl⟩), hts _ wd9_10⟩ (ps2 (ws := [] ++ fQ cy x a tr s0 s1 pa q σ n fl tx ln) hK hP hD hS hA hX hY _ nd_suffix at_suffix) rfl rfl hl.1 rfl (lv_room (Nat.le_of_ble_eq_true rfl)) dL_holds_606 ⟨by show _ ≤ 1500; omega, by show _ ≤ 9000; omega⟩) hP hD hS hA (fun _ => fQ_ad) (fun q H locs hI hP hD hS => ?_)
                            have hP : va_P g vwCl (fQ cy x a tr s0 s1 pa q σ n fl tx ln) H := hP
                            have hD : va_D A (fQ cy x a tr s0 s1 pa q σ n fl tx ln) := hD
                            refine ti (show an (fSig σ (nI s) (nI 4)) (nI (nsg σ (nI s).toNatClampNeg (nI 4).toNatClampNeg)) = (nI (sg σ s 4)) from (v_sg (w := 4) hn1 (by omega) (by decide))) ?_
                            show W _ _ _ _ _ _ _ _ _ _ _ _ _ _ _ (F0 mX 609 ls [.int (nI (sg σ s 4))])
                            refine lv_if_eq (tgt := 627) hx hb dL_holds_609 (by decide) (fun c_609 => ?_) (fun c_609 => ?_)
                            · have c_609 := (nz_eq c_609 (by omega))
                              refine lv_iconst (v := (nI 1)) hx hb dL_holds_627 (by decide) ?_
                              refine lv_goto (tgt := 632) hx hb dL_holds_628 (by decide) ?_
                              refine lv_istore (lv' := [(12, .int (nI 1)), (7, .int (nI (ct (frd σ) (s + 1)))), (8, .int (nI (ct (mng σ NN) (s + 1)))), (16, .int (nI 1)), (15, .int (nI 1)), (14, .int (nI (sg σ s 5))), (0, .ref (x 0)), (1, .int (nI v)), (2, .int (nI (σ 0))), (3, .int (nI (σ 1))), (4, .int (nI (σ 2))), (5, .int (nI (ct (msg σ) (σ 0)))), (6, .int (nI (sm (fun d9 => if msg σ d9 then dg σ d9 4 else 0) (σ 0)))), (9, .int (nI (sm (fun d9 => ct (mng σ d9) (σ 1)) (σ 0)))), (10, .int (nI 0)), (11, .int (nI (sm (fun d9 => dg σ d9 4) (σ 0)))), (13, .int (nI s))]) hx hb dL_holds_632 hl (by decide) rfl (fun ls hl => ?_)
                              refine lv_iinc (v := (nI (s + 1))) (lv' := [(13, .int (nI (s + 1))), (12, .int (nI 1)), (7, .int (nI (ct (frd σ) (s + 1)))), (8, .int (nI (ct (mng σ NN) (s + 1)))), (16, .int (nI 1)), (15, .int (nI 1)), (14, .int (nI (sg σ s 5))), (0, .ref (x 0)), (1, .int (nI v)), (2, .int (nI (σ 0))), (3, .int (nI (σ 1))), (4, .int (nI (σ 2))), (5, .int (nI (ct (msg σ) (σ 0)))), (6, .int (nI (sm (fun d9 => if msg σ d9 then dg σ d9 4 else 0) (σ 0)))), (9, .int (nI (sm (fun d9 => ct (mng σ d9) (σ 1)) (σ 0)))), (10, .int (nI 0)), (11, .int (nI (sm (fun d9 => dg σ d9 4) (σ 0))))]) hx hb dL_holds_634 hl (k := 16) rfl (nI_add s 1) (by decide) rfl (fun ls hl => ?_)
                              refine lv_goto (tgt := 435) hx hb dL_holds_637 (by decide) ?_
                              refine W.widen (k := 700 + 10 * (s + 1)) (n := 6 * (700 + 10 * (s + 1))) (by omega) (by omega) ?_
                              exact ih435 (s + 1, q) H locs ls ⟨hP, hD, hS, hI, lv_sub hl [7, 8, 9, 10, 11, 12, 13, 14, 15, 16, 1, 2, 3, 0] rfl, (by omega)⟩ (by dsimp only; omega)
                            · have c_609 := (nz_ne c_609 (by omega))
                              refine lv_iload hx hb dL_holds_612 (lv_at hl 4 rfl) ?_
                              refine lv_iconst (v := (nI NN)) hx hb dL_holds_614 (by decide) ?_
                              refine lv_icmp_eq (tgt := 627) hx hb dL_holds_615 (by decide) (fun c_615 => ?_) (fun c_615 => ?_)
                              · have c_615 := (nc_eq9 (by omega) (by decide) c_615)
                                exact absurd c_615 h5
                              · have c_615 := (nc_ne9 (by omega) (by decide) c_615)
                                exact absurd ((sg9.2 (by omega)).symm.trans ff) (by rw [tt]; decide)
                    · have c_541 := (nc_ne9 (by omega) (by omega) c_541)
                      omega
                  · have c_507 := (nc_eq9 (by omega) (by decide) c_507)
                    exact absurd c_507 h5
                · have c_486 := (nc_eq9 (by omega) (by decide) c_486)
                  exact absurd c_486 h5
              · skip
                refine lv_iload hx hb dL_holds_448 (lv_at hl 13 rfl) ?_
                refine lv_iconst (v := (nI 5)) hx hb dL_holds_450 (by decide) ?_
                refine lv_iconst (v := (nI 0)) hx hb dL_holds_451 (by decide) ?_
                refine wr_callS (pre := []) (wc := fQ cy x a tr s0 s1 pa q σ n fl tx ln) (va_runS (As := [.ref (x 0), .int (nI 4), .int (nI s), .int (nI 5), .int (nI 0)]) (rest := []) ⟨hx, hb, hml, hown, hts⟩ (c_L_call_4 l hfl g cy x a tr s0 s1 pa H.size bd q σ Hh n K fl tx ln (nI s) (nI 5) (nI 0) hI ) ⟨(cB 5 hts wd9_11 wd5_14 wd9_9 rfl rfl (by decide +kernel) ⟨Nat.le_of_ble_eq_true rfl, Nat.le_of_ble_eq_true rfl⟩), hts _ wd9_10⟩ (ps2 (ws := [] ++ fQ cy x a tr s0 s1 pa q σ n fl tx ln) hK hP hD hS hA hX hY _ nd_suffix at_suffix) rfl rfl hl.1 rfl (lv_room (Nat.le_of_ble_eq_true rfl)) dL_holds_452 ⟨by show _ ≤ 1500; omega, by show _ ≤ 9000; omega⟩) hP hD hS hA (fun _ => fQ_ad) (fun q H locs hI hP hD hS => ?_)
                have hP : va_P g vwCl (fQ cy x a tr s0 s1 pa q σ n fl tx ln) H := hP
                have hD : va_D A (fQ cy x a tr s0 s1 pa q σ n fl tx ln) := hD
                refine ti (show an (fSig σ (nI s) (nI 5)) (nI (nsg σ (nI s).toNatClampNeg (nI 5).toNatClampNeg)) = (nI (sg σ s 5)) from (v_sg (w := 5) hn1 (by omega) (by decide))) ?_
                show W _ _ _ _ _ _ _ _ _ _ _ _ _ _ _ (F0 mX 455 ls [.int (nI (sg σ s 5))])
                refine lv_istore (lv' := [(14, .int (nI (sg σ s 5))), (0, .ref (x 0)), (1, .int (nI v)), (2, .int (nI (σ 0))), (3, .int (nI (σ 1))), (4, .int (nI (σ 2))), (5, .int (nI (ct (msg σ) (σ 0)))), (6, .int (nI (sm (fun d9 => if msg σ d9 then dg σ d9 4 else 0) (σ 0)))), (9, .int (nI (sm (fun d9 => ct (mng σ d9) (σ 1)) (σ 0)))), (10, .int (nI 0)), (11, .int (nI (sm (fun d9 => dg σ d9 4) (σ 0)))), (12, .int (nI 1)), (7, .int (nI (ct (frd σ) s))), (8, .int (nI (ct (mng σ NN) s))), (13, .int (nI s))]) hx hb dL_holds_455 hl (by decide) rfl (fun ls hl => ?_)
                refine lv_aload_n hx hb dL_holds_457 rfl (lv_at hl 1 rfl) ?_
                refine lv_iconst (v := (nI 4)) hx hb dL_holds_458 (by decide) ?_
                refine lv_iload hx hb dL_holds_459 (lv_at hl 14 rfl) ?_
                refine lv_bipush (v := (nI 7)) hx hb dL_holds_461 (by decide) ?_
                refine lv_iconst (v := (nI 0)) hx hb dL_holds_463 (by decide) ?_
                refine wr_callS (pre := []) (wc := fQ cy x a tr s0 s1 pa q σ n fl tx ln) (va_runS (As := [.ref (x 0), .int (nI 4), .int (nI s), .int (nI 7), .int (nI 0)]) (rest := []) ⟨hx, hb, hml, hown, hts⟩ (c_L_call_4 l hfl g cy x a tr s0 s1 pa H.size bd q σ Hh n K fl tx ln (nI s) (nI 7) (nI 0) hI ) ⟨(cB 5 hts wd9_11 wd5_14 wd9_9 rfl rfl (by decide +kernel) ⟨Nat.le_of_ble_eq_true rfl, Nat.le_of_ble_eq_true rfl⟩), hts _ wd9_10⟩ (ps2 (ws := [] ++ fQ cy x a tr s0 s1 pa q σ n fl tx ln) hK hP hD hS hA hX hY _ nd_suffix at_suffix) rfl rfl hl.1 rfl (lv_room (Nat.le_of_ble_eq_true rfl)) dL_holds_464 ⟨by show _ ≤ 1500; omega, by show _ ≤ 9000; omega⟩) hP hD hS hA (fun _ => fQ_ad) (fun q H locs hI hP hD hS => ?_)
                have hP : va_P g vwCl (fQ cy x a tr s0 s1 pa q σ n fl tx ln) H := hP
                have hD : va_D A (fQ cy x a tr s0 s1 pa q σ n fl tx ln) := hD
                refine ti (show an (fSig σ (nI s) (nI 7)) (nI (nsg σ (nI s).toNatClampNeg (nI 7).toNatClampNeg)) = (nI (if sg σ s 5 = NN then NN else if tru σ s then 1 else 0)) from (v_sg (w := 7) hn1 (by omega) (by decide))) ?_
                show W _ _ _ _ _ _ _ _ _ _ _ _ _ _ _ (F0 mX 467 ls [.int (nI (if sg σ s 5 = NN then NN else if tru σ s then 1 else 0))])
                refine ti (show (nI (if sg σ s 5 = NN then NN else if tru σ s then 1 else 0)) = (nI 1) from (by rw [if_neg h5, if_pos tt])) ?_
                refine lv_istore (lv' := [(15, .int (nI 1)), (14, .int (nI (sg σ s 5))), (0, .ref (x 0)), (1, .int (nI v)), (2, .int (nI (σ 0))), (3, .int (nI (σ 1))), (4, .int (nI (σ 2))), (5, .int (nI (ct (msg σ) (σ 0)))), (6, .int (nI (sm (fun d9 => if msg σ d9 then dg σ d9 4 else 0) (σ 0)))), (9, .int (nI (sm (fun d9 => ct (mng σ d9) (σ 1)) (σ 0)))), (10, .int (nI 0)), (11, .int (nI (sm (fun d9 => dg σ d9 4) (σ 0)))), (12, .int (nI 1)), (7, .int (nI (ct (frd σ) s))), (8, .int (nI (ct (mng σ NN) s))), (13, .int (nI s))]) hx hb dL_holds_467 hl (by decide) rfl (fun ls hl => ?_)
                refine lv_aload_n hx hb dL_holds_469 rfl (lv_at hl 2 rfl) ?_
                refine lv_iconst (v := (nI 4)) hx hb dL_holds_470 (by decide) ?_
                refine lv_iload hx hb dL_holds_471 (lv_at hl 15 rfl) ?_
                refine lv_bipush (v := (nI 8)) hx hb dL_holds_473 (by decide) ?_
                refine lv_iconst (v := (nI 0)) hx hb dL_holds_475 (by decide) ?_
                refine wr_callS (pre := []) (wc := fQ cy x a tr s0 s1 pa q σ n fl tx ln) (va_runS (As := [.ref (x 0), .int (nI 4), .int (nI s), .int (nI 8), .int (nI 0)]) (rest := []) ⟨hx, hb, hml, hown, hts⟩ (c_L_call_4 l hfl g cy x a tr s0 s1 pa H.size bd q σ Hh n K fl tx ln (nI s) (nI 8) (nI 0) hI ) ⟨(cB 5 hts wd9_11 wd5_14 wd9_9 rfl rfl (by decide +kernel) ⟨Nat.le_of_ble_eq_true rfl, Nat.le_of_ble_eq_true rfl⟩), hts _ wd9_10⟩ (ps2 (ws := [] ++ fQ cy x a tr s0 s1 pa q σ n fl tx ln) hK hP hD hS hA hX hY _ nd_suffix at_suffix) rfl rfl hl.1 rfl (lv_room (Nat.le_of_ble_eq_true rfl)) dL_holds_476 ⟨by show _ ≤ 1500; omega, by show _ ≤ 9000; omega⟩) hP hD hS hA (fun _ => fQ_ad) (fun q H locs hI hP hD hS => ?_)
                have hP : va_P g vwCl (fQ cy x a tr s0 s1 pa q σ n fl tx ln) H := hP
                have hD : va_D A (fQ cy x a tr s0 s1 pa q σ n fl tx ln) := hD
                refine ti (show an (fSig σ (nI s) (nI 8)) (nI (nsg σ (nI s).toNatClampNeg (nI 8).toNatClampNeg)) = (nI (if frd σ s then 1 else 0)) from (v_sg (w := 8) hn1 (by omega) (by decide))) ?_
                show W _ _ _ _ _ _ _ _ _ _ _ _ _ _ _ (F0 mX 479 ls [.int (nI (if frd σ s then 1 else 0))])
                refine ti (show (nI (if frd σ s then 1 else 0)) = (nI 0) from (by rw [if_neg ff])) ?_
                refine lv_istore (lv' := [(16, .int (nI 0)), (15, .int (nI 1)), (14, .int (nI (sg σ s 5))), (0, .ref (x 0)), (1, .int (nI v)), (2, .int (nI (σ 0))), (3, .int (nI (σ 1))), (4, .int (nI (σ 2))), (5, .int (nI (ct (msg σ) (σ 0)))), (6, .int (nI (sm (fun d9 => if msg σ d9 then dg σ d9 4 else 0) (σ 0)))), (9, .int (nI (sm (fun d9 => ct (mng σ d9) (σ 1)) (σ 0)))), (10, .int (nI 0)), (11, .int (nI (sm (fun d9 => dg σ d9 4) (σ 0)))), (12, .int (nI 1)), (7, .int (nI (ct (frd σ) s))), (8, .int (nI (ct (mng σ NN) s))), (13, .int (nI s))]) hx hb dL_holds_479 hl (by decide) rfl (fun ls hl => ?_)
                refine lv_iload hx hb dL_holds_481 (lv_at hl 15 rfl) ?_
                refine lv_iload hx hb dL_holds_483 (lv_at hl 2 rfl) ?_
                refine lv_iconst (v := (nI NN)) hx hb dL_holds_485 (by decide) ?_
                refine lv_icmp_ne (tgt := 493) hx hb dL_holds_486 (by decide) (fun c_486 => ?_) (fun c_486 => ?_)
                · have c_486 := (nc_ne9 (by omega) (by decide) c_486)
                  refine lv_iconst (v := (nI 0)) hx hb dL_holds_493 (by decide) ?_
                  refine lv_iadd hx hb dL_holds_494 ?_
                  refine ti (nI_add (ct (mng σ NN) s) 0) ?_
                  refine lv_istore (lv' := [(8, .int (nI ((ct (mng σ NN) s) + 0))), (16, .int (nI 0)), (15, .int (nI 1)), (14, .int (nI (sg σ s 5))), (0, .ref (x 0)), (1, .int (nI v)), (2, .int (nI (σ 0))), (3, .int (nI (σ 1))), (4, .int (nI (σ 2))), (5, .int (nI (ct (msg σ) (σ 0)))), (6, .int (nI (sm (fun d9 => if msg σ d9 then dg σ d9 4 else 0) (σ 0)))), (9, .int (nI (sm (fun d9 => ct (mng σ d9) (σ 1)) (σ 0)))), (10, .int (nI 0)), (11, .int (nI (sm (fun d9 => dg σ d9 4) (σ 0)))), (12, .int (nI 1)), (7, .int (nI (ct (frd σ) s))), (13, .int (nI s))]) hx hb dL_holds_495 hl (by decide) rfl (fun ls hl => ?_)
                  have hl : lv_has ls 21 [(8, .int (nI (ct (mng σ NN) (s + 1)))), (16, .int (nI 0)), (15, .int (nI 1)), (14, .int (nI (sg σ s 5))), (0, .ref (x 0)), (1, .int (nI v)), (2, .int (nI (σ 0))), (3, .int (nI (σ 1))), (4, .int (nI (σ 2))), (5, .int (nI (ct (msg σ) (σ 0)))), (6, .int (nI (sm (fun d9 => if msg σ d9 then dg σ d9 4 else 0) (σ 0)))), (9, .int (nI (sm (fun d9 => ct (mng σ d9) (σ 1)) (σ 0)))), (10, .int (nI 0)), (11, .int (nI (sm (fun d9 => dg σ d9 4) (σ 0)))), (12, .int (nI 1)), (7, .int (nI (ct (frd σ) s))), (13, .int (nI s))] := by rw [← show (nI ((ct (mng σ NN) s) + 0)) = (nI (ct (mng σ NN) (s + 1))) from (congrArg nI (by show _ = ct (mng σ NN) s + (if mng σ NN s then 1 else 0); simp [mng, h5]))]; exact hl
                  refine lv_iload hx hb dL_holds_497 (lv_at hl 15 rfl) ?_
                  refine lv_iload hx hb dL_holds_499 (lv_at hl 1 rfl) ?_
                  refine lv_iadd hx hb dL_holds_501 ?_
                  refine ti (nI_add (ct (frd σ) s) 0) ?_
                  refine lv_istore (lv' := [(7, .int (nI ((ct (frd σ) s) + 0))), (8, .int (nI (ct (mng σ NN) (s + 1)))), (16, .int (nI 0)), (15, .int (nI 1)), (14, .int (nI (sg σ s 5))), (0, .ref (x 0)), (1, .int (nI v)), (2, .int (nI (σ 0))), (3, .int (nI (σ 1))), (4, .int (nI (σ 2))), (5, .int (nI (ct (msg σ) (σ 0)))), (6, .int (nI (sm (fun d9 => if msg σ d9 then dg σ d9 4 else 0) (σ 0)))), (9, .int (nI (sm (fun d9 => ct (mng σ d9) (σ 1)) (σ 0)))), (10, .int (nI 0)), (11, .int (nI (sm (fun d9 => dg σ d9 4) (σ 0)))), (12, .int (nI 1)), (13, .int (nI s))]) hx hb dL_holds_502 hl (by decide) rfl (fun ls hl => ?_)
                  have hl : lv_has ls 21 [(7, .int (nI (ct (frd σ) (s + 1)))), (8, .int (nI (ct (mng σ NN) (s + 1)))), (16, .int (nI 0)), (15, .int (nI 1)), (14, .int (nI (sg σ s 5))), (0, .ref (x 0)), (1, .int (nI v)), (2, .int (nI (σ 0))), (3, .int (nI (σ 1))), (4, .int (nI (σ 2))), (5, .int (nI (ct (msg σ) (σ 0)))), (6, .int (nI (sm (fun d9 => if msg σ d9 then dg σ d9 4 else 0) (σ 0)))), (9, .int (nI (sm (fun d9 => ct (mng σ d9) (σ 1)) (σ 0)))), (10, .int (nI 0)), (11, .int (nI (sm (fun d9 => dg σ d9 4) (σ 0)))), (12, .int (nI 1)), (13, .int (nI s))] := by rw [← show (nI ((ct (frd σ) s) + 0)) = (nI (ct (frd σ) (s + 1))) from (congrArg nI (by show _ = ct (frd σ) s + (if frd σ s then 1 else 0); simp [ff]))]; exact hl
                  refine lv_iload hx hb dL_holds_504 (lv_at hl 4 rfl) ?_
                  refine lv_iconst (v := (nI NN)) hx hb dL_holds_506 (by decide) ?_
                  refine lv_icmp_ne (tgt := 538) hx hb dL_holds_507 (by decide) (fun c_507 => ?_) (fun c_507 => ?_)
                  · have c_507 := (nc_ne9 (by omega) (by decide) c_507)
                    refine lv_iload hx hb dL_holds_538 (lv_at hl 3 rfl) ?_
                    refine lv_iconst (v := (nI 1)) hx hb dL_holds_540 (by decide) ?_
                    refine lv_icmp_eq (tgt := 550) hx hb dL_holds_541 (by decide) (fun c_541 => ?_) (fun c_541 => ?_)
                    · have c_541 := (nc_eq9 (by omega) (by omega) c_541)
                      refine lv_aload_n hx hb dL_holds_550 rfl (lv_at hl 5 rfl) ?_
                      refine lv_iconst (v := (nI 4)) hx hb dL_holds_551 (by decide) ?_
                      refine lv_iload hx hb dL_holds_552 (lv_at hl 16 rfl) ?_
                      refine lv_bipush (v := (nI 6)) hx hb dL_holds_554 (by decide) ?_
                      refine lv_iconst (v := (nI 0)) hx hb dL_holds_556 (by decide) ?_
                      refine wr_callS (pre := []) (wc := fQ cy x a tr s0 s1 pa q σ n fl tx ln) (va_runS (As := [.ref (x 0), .int (nI 4), .int (nI s), .int (nI 6), .int (nI 0)]) (rest := []) ⟨hx, hb, hml, hown, hts⟩ (c_L_call_4 l hfl g cy x a tr s0 s1 pa H.size bd q σ Hh n K fl tx ln (nI s) (nI 6) (nI 0) hI ) ⟨(cB 5 hts wd9_11 wd5_14 wd9_9 rfl rfl (by decide +kernel) ⟨Nat.le_of_ble_eq_true rfl, Nat.le_of_ble_eq_true rfl⟩), hts _ wd9_10⟩ (ps2 (ws := [] ++ fQ cy x a tr s0 s1 pa q σ n fl tx ln) hK hP hD hS hA hX hY _ nd_suffix at_suffix) rfl rfl hl.1 rfl (lv_room (Nat.le_of_ble_eq_true rfl)) dL_holds_557 ⟨by show _ ≤ 1500; omega, by show _ ≤ 9000; omega⟩) hP hD hS hA (fun _ => fQ_ad) (fun q H locs hI hP hD hS => ?_)
                      have hP : va_P g vwCl (fQ cy x a tr s0 s1 pa q σ n fl tx ln) H := hP
                      have hD : va_D A (fQ cy x a tr s0 s1 pa q σ n fl tx ln) := hD
                      refine ti (show an (fSig σ (nI s) (nI 6)) (nI (nsg σ (nI s).toNatClampNeg (nI 6).toNatClampNeg)) = (nI (if sg σ s 5 = NN then NN else unl σ (sg σ s 5) (sg σ s 3))) from (v_sg (w := 6) hn1 (by omega) (by decide))) ?_
                      show W _ _ _ _ _ _ _ _ _ _ _ _ _ _ _ (F0 mX 560 ls [.int (nI (if sg σ s 5 = NN then NN else unl σ (sg σ s 5) (sg σ s 3)))])
                      refine ti (show (nI (if sg σ s 5 = NN then NN else unl σ (sg σ s 5) (sg σ s 3))) = (nI (unl σ (sg σ s 5) (sg σ s 3))) from (congrArg nI (if_neg h5))) ?_
                      refine lv_bipush (v := (nI 8)) hx hb dL_holds_560 (by decide) ?_
                      refine lv_icmp_gt (tgt := 631) hx hb dL_holds_562 (by decide) (fun c_562 => ?_) (fun c_562 => ?_)
                      · have c_562 := (nc_lt (by omega) (by omega) c_562)
                        omega
                      · have c_562 := (nc_nlt (by omega) (by omega) c_562)
                        refine lv_aload_n hx hb dL_holds_565 rfl (lv_at hl 5 rfl) ?_
                        refine lv_iconst (v := (nI 4)) hx hb dL_holds_566 (by decide) ?_
                        refine lv_iload hx hb dL_holds_567 (lv_at hl 16 rfl) ?_
                        refine lv_iconst (v := (nI 2)) hx hb dL_holds_569 (by decide) ?_
                        refine lv_iconst (v := (nI 0)) hx hb dL_holds_570 (by decide) ?_
                        refine wr_callS (pre := []) (wc := fQ cy x a tr s0 s1 pa q σ n fl tx ln) (va_runS (As := [.ref (x 0), .int (nI 4), .int (nI s), .int (nI 2), .int (nI 0)]) (rest := []) ⟨hx, hb, hml, hown, hts⟩ (c_L_call_4 l hfl g cy x a tr s0 s1 pa H.size bd q σ Hh n K fl tx ln (nI s) (nI 2) (nI 0) hI ) ⟨(cB 5 hts wd9_11 wd5_14 wd9_9 rfl rfl (by decide +kernel) ⟨Nat.le_of_ble_eq_true rfl, Nat.le_of_ble_eq_true rfl⟩), hts _ wd9_10⟩ (ps2 (ws := [] ++ fQ cy x a tr s0 s1 pa q σ n fl tx ln) hK hP hD hS hA hX hY _ nd_suffix at_suffix) rfl rfl hl.1 rfl (lv_room (Nat.le_of_ble_eq_true rfl)) dL_holds_571 ⟨by show _ ≤ 1500; omega, by show _ ≤ 9000; omega⟩) hP hD hS hA (fun _ => fQ_ad) (fun q H locs hI hP hD hS => ?_)
                        have hP : va_P g vwCl (fQ cy x a tr s0 s1 pa q σ n fl tx ln) H := hP
                        have hD : va_D A (fQ cy x a tr s0 s1 pa q σ n fl tx ln) := hD
                        refine ti (show an (fSig σ (nI s) (nI 2)) (nI (nsg σ (nI s).toNatClampNeg (nI 2).toNatClampNeg)) = (nI (sg σ s 2)) from (v_sg (w := 2) hn1 (by omega) (by decide))) ?_
                        show W _ _ _ _ _ _ _ _ _ _ _ _ _ _ _ (F0 mX 574 ls [.int (nI (sg σ s 2))])
                        refine lv_aload_n hx hb dL_holds_574 rfl (lv_at hl 5 rfl) ?_
                        refine lv_iconst (v := (nI 3)) hx hb dL_holds_575 (by decide) ?_
                        refine lv_iload hx hb dL_holds_576 (lv_at hl 4 rfl) ?_
                        refine lv_iconst (v := (nI 3)) hx hb dL_holds_578 (by decide) ?_
                        refine lv_iconst (v := (nI 0)) hx hb dL_holds_579 (by decide) ?_
                        refine wr_callS (pre := []) (wc := fQ cy x a tr s0 s1 pa q σ n fl tx ln) (va_runS (As := [.ref (x 0), .int (nI 3), .int (nI (sg σ s 5)), .int (nI 3), .int (nI 0)]) (rest := [.int (nI (sg σ s 2))]) ⟨hx, hb, hml, hown, hts⟩ (c_L_call_3 l hfl g cy x a tr s0 s1 pa H.size bd q σ Hh n K fl tx ln (nI (sg σ s 5)) (nI 3) (nI 0) hI ) ⟨(cB 5 hts wd9_11 wd5_14 wd9_9 rfl rfl (by decide +kernel) ⟨Nat.le_of_ble_eq_true rfl, Nat.le_of_ble_eq_true rfl⟩), hts _ wd9_10⟩ (ps2 (ws := [] ++ fQ cy x a tr s0 s1 pa q σ n fl tx ln) hK hP hD hS hA hX hY _ nd_suffix at_suffix) rfl rfl hl.1 rfl (lv_room (Nat.le_of_ble_eq_true rfl)) dL_holds_580 ⟨by show _ ≤ 1500; omega, by show _ ≤ 9000; omega⟩) hP hD hS hA (fun _ => fQ_ad) (fun q H locs hI hP hD hS => ?_)
                        have hP : va_P g vwCl (fQ cy x a tr s0 s1 pa q σ n fl tx ln) H := hP
                        have hD : va_D A (fQ cy x a tr s0 s1 pa q σ n fl tx ln) := hD
                        refine ti (show an (fDog σ (nI (sg σ s 5)) (nI 3)) (nI (ndg σ (nI (sg σ s 5)).toNatClampNeg (nI 3).toNatClampNeg)) = (nI (dg σ (sg σ s 5) 3)) from (v_dg (w := 3) hn0 ds9 (by decide))) ?_
                        show W _ _ _ _ _ _ _ _ _ _ _ _ _ _ _ (F0 mX 583 ls [.int (nI (dg σ (sg σ s 5) 3)), .int (nI (sg σ s 2))])
                        refine lv_icmp_lt (tgt := 631) hx hb dL_holds_583 (by decide) (fun c_583 => ?_) (fun c_583 => ?_)
                        · have c_583 := (nc_lt (by omega) (by omega) c_583)
                          omega
                        · have c_583 := (nc_nlt (by omega) (by omega) c_583)
                          refine lv_aload_n hx hb dL_holds_586 rfl (lv_at hl 5 rfl) ?_
                          refine lv_iconst (v := (nI 4)) hx hb dL_holds_587 (by decide) ?_
                          refine lv_iload hx hb dL_holds_588 (lv_at hl 16 rfl) ?_
                          refine lv_iconst (v := (nI 2)) hx hb dL_holds_590 (by decide) ?_
                          refine lv_iconst (v := (nI 0)) hx hb dL_holds_591 (by decide) ?_
                          refine wr_callS (pre := []) (wc := fQ cy x a tr s0 s1 pa q σ n fl tx ln) (va_runS (As := [.ref (x 0), .int (nI 4), .int (nI s), .int (nI 2), .int (nI 0)]) (rest := []) ⟨hx, hb, hml, hown, hts⟩ (c_L_call_4 l hfl g cy x a tr s0 s1 pa H.size bd q σ Hh n K fl tx ln (nI s) (nI 2) (nI 0) hI ) ⟨(cB 5 hts wd9_11 wd5_14 wd9_9 rfl rfl (by decide +kernel) ⟨Nat.le_of_ble_eq_true rfl, Nat.le_of_ble_eq_true rfl⟩), hts _ wd9_10⟩ (ps2 (ws := [] ++ fQ cy x a tr s0 s1 pa q σ n fl tx ln) hK hP hD hS hA hX hY _ nd_suffix at_suffix) rfl rfl hl.1 rfl (lv_room (Nat.le_of_ble_eq_true rfl)) dL_holds_592 ⟨by show _ ≤ 1500; omega, by show _ ≤ 9000; omega⟩) hP hD hS hA (fun _ => fQ_ad) (fun q H locs hI hP hD hS => ?_)
                          have hP : va_P g vwCl (fQ cy x a tr s0 s1 pa q σ n fl tx ln) H := hP
                          have hD : va_D A (fQ cy x a tr s0 s1 pa q σ n fl tx ln) := hD
                          refine ti (show an (fSig σ (nI s) (nI 2)) (nI (nsg σ (nI s).toNatClampNeg (nI 2).toNatClampNeg)) = (nI (sg σ s 2)) from (v_sg (w := 2) hn1 (by omega) (by decide))) ?_
                          show W _ _ _ _ _ _ _ _ _ _ _ _ _ _ _ (F0 mX 595 ls [.int (nI (sg σ s 2))])
                          refine lv_iload hx hb dL_holds_595 (lv_at hl 9 rfl) ?_
                          refine lv_icmp_gt (tgt := 631) hx hb dL_holds_597 (by decide) (fun c_597 => ?_) (fun c_597 => ?_)
                          · have c_597 := (nc_lt (by omega) (by omega) c_597)
                            omega
                          · have c_597 := (nc_nlt (by omega) (by omega) c_597)
                            refine lv_aload_n hx hb dL_holds_600 rfl (lv_at hl 5 rfl) ?_
                            refine lv_iconst (v := (nI 4)) hx hb dL_holds_601 (by decide) ?_
                            refine lv_iload hx hb dL_holds_602 (lv_at hl 16 rfl) ?_
                            refine lv_iconst (v := (nI 4)) hx hb dL_holds_604 (by decide) ?_
                            refine lv_iconst (v := (nI 0)) hx hb dL_holds_605 (by decide) ?_
                            refine wr_callS (pre := []) (wc := fQ cy x a tr s0 s1 pa q σ n fl tx ln) (va_runS (As := [.ref (x 0), .int (nI 4), .int (nI s), .int (nI 4), .int (nI 0)]) (rest := []) ⟨hx, hb, hml, hown, hts⟩ (c_L_call_4 l hfl g cy x a tr s0 s1 pa H.size bd q σ Hh n K fl tx ln (nI s) (nI 4) (nI 0) hI ) ⟨(cB 5 hts wd9_11 wd5_14 wd9_9 rfl rfl (by decide +kernel) ⟨Nat.le_of_ble_eq_true rfl, Nat.le_of_ble_eq_true rfl⟩), hts _ wd9_10⟩ (ps2 (ws := [] ++ fQ cy x a tr s0 s1 pa q σ n fl tx ln) hK hP hD hS hA hX hY _ nd_suffix at_suffix) rfl rfl hl.1 rfl (lv_room (Nat.le_of_ble_eq_true rfl)) dL_holds_606 ⟨by show _ ≤ 1500; omega, by show _ ≤ 9000; omega⟩) hP hD hS hA (fun _ => fQ_ad) (fun q H locs hI hP hD hS => ?_)
                            have hP : va_P g vwCl (fQ cy x a tr s0 s1 pa q σ n fl tx ln) H := hP
                            have hD : va_D A (fQ cy x a tr s0 s1 pa q σ n fl tx ln) := hD
                            refine ti (show an (fSig σ (nI s) (nI 4)) (nI (nsg σ (nI s).toNatClampNeg (nI 4).toNatClampNeg)) = (nI (sg σ s 4)) from (v_sg (w := 4) hn1 (by omega) (by decide))) ?_
                            show W _ _ _ _ _ _ _ _ _ _ _ _ _ _ _ (F0 mX 609 ls [.int (nI (sg σ s 4))])
                            refine lv_if_eq (tgt := 627) hx hb dL_holds_609 (by decide) (fun c_609 => ?_) (fun c_609 => ?_)
                            · have c_609 := (nz_eq c_609 (by omega))
                              refine lv_iconst (v := (nI 1)) hx hb dL_holds_627 (by decide) ?_
                              refine lv_goto (tgt := 632) hx hb dL_holds_628 (by decide) ?_
                              refine lv_istore (lv' := [(12, .int (nI 1)), (7, .int (nI (ct (frd σ) (s + 1)))), (8, .int (nI (ct (mng σ NN) (s + 1)))), (16, .int (nI 0)), (15, .int (nI 1)), (14, .int (nI (sg σ s 5))), (0, .ref (x 0)), (1, .int (nI v)), (2, .int (nI (σ 0))), (3, .int (nI (σ 1))), (4, .int (nI (σ 2))), (5, .int (nI (ct (msg σ) (σ 0)))), (6, .int (nI (sm (fun d9 => if msg σ d9 then dg σ d9 4 else 0) (σ 0)))), (9, .int (nI (sm (fun d9 => ct (mng σ d9) (σ 1)) (σ 0)))), (10, .int (nI 0)), (11, .int (nI (sm (fun d9 => dg σ d9 4) (σ 0)))), (13, .int (nI s))]) hx hb dL_holds_632 hl (by decide) rfl (fun ls hl => ?_)
                              refine lv_iinc (v := (nI (s + 1))) (lv' := [(13, .int (nI (s + 1))), (12, .int (nI 1)), (7, .int (nI (ct (frd σ) (s + 1)))), (8, .int (nI (ct (mng σ NN) (s + 1)))), (16, .int (nI 0)), (15, .int (nI 1)), (14, .int (nI (sg σ s 5))), (0, .ref (x 0)), (1, .int (nI v)), (2, .int (nI (σ 0))), (3, .int (nI (σ 1))), (4, .int (nI (σ 2))), (5, .int (nI (ct (msg σ) (σ 0)))), (6, .int (nI (sm (fun d9 => if msg σ d9 then dg σ d9 4 else 0) (σ 0)))), (9, .int (nI (sm (fun d9 => ct (mng σ d9) (σ 1)) (σ 0)))), (10, .int (nI 0)), (11, .int (nI (sm (fun d9 => dg σ d9 4) (σ 0))))]) hx hb dL_holds_634 hl (k := 16) rfl (nI_add s 1) (by decide) rfl (fun ls hl => ?_)
                              refine lv_goto (tgt := 435) hx hb dL_holds_637 (by decide) ?_
                              refine W.widen (k := 700 + 10 * (s + 1)) (n := 6 * (700 + 10 * (s + 1))) (by omega) (by omega) ?_
                              exact ih435 (s + 1, q) H locs ls ⟨hP, hD, hS, hI, lv_sub hl [7, 8, 9, 10, 11, 12, 13, 14, 15, 16, 1, 2, 3, 0] rfl, (by omega)⟩ (by dsimp only; omega)
                            · have c_609 := (nz_ne c_609 (by omega))
                              refine lv_iload hx hb dL_holds_612 (lv_at hl 4 rfl) ?_
                              refine lv_iconst (v := (nI NN)) hx hb dL_holds_614 (by decide) ?_
                              refine lv_icmp_eq (tgt := 627) hx hb dL_holds_615 (by decide) (fun c_615 => ?_) (fun c_615 => ?_)
                              · have c_615 := (nc_eq9 (by omega) (by decide) c_615)
                                exact absurd c_615 h5
                              · have c_615 := (nc_ne9 (by omega) (by decide) c_615)
                                refine lv_iload hx hb dL_holds_618 (lv_at hl 2 rfl) ?_
                                refine lv_iconst (v := (nI 1)) hx hb dL_holds_620 (by decide) ?_
                                refine lv_iload hx hb dL_holds_621 (lv_at hl 3 rfl) ?_
                                refine lv_isub hx hb dL_holds_623 ?_
                                refine ti (pk_sub (a := 1) (b := 1) (by omega)) ?_
                                refine lv_icmp_ne (tgt := 631) hx hb dL_holds_624 (by decide) (fun c_624 => ?_) (fun c_624 => ?_)
                                · have c_624 := (nc_ne9 (by omega) (by omega) c_624)
                                  omega
                                · have c_624 := (nc_eq9 (by omega) (by omega) c_624)
                                  refine lv_iconst (v := (nI 1)) hx hb dL_holds_627 (by decide) ?_
                                  refine lv_goto (tgt := 632) hx hb dL_holds_628 (by decide) ?_
                                  refine lv_istore (lv' := [(12, .int (nI 1)), (7, .int (nI (ct (frd σ) (s + 1)))), (8, .int (nI (ct (mng σ NN) (s + 1)))), (16, .int (nI 0)), (15, .int (nI 1)), (14, .int (nI (sg σ s 5))), (0, .ref (x 0)), (1, .int (nI v)), (2, .int (nI (σ 0))), (3, .int (nI (σ 1))), (4, .int (nI (σ 2))), (5, .int (nI (ct (msg σ) (σ 0)))), (6, .int (nI (sm (fun d9 => if msg σ d9 then dg σ d9 4 else 0) (σ 0)))), (9, .int (nI (sm (fun d9 => ct (mng σ d9) (σ 1)) (σ 0)))), (10, .int (nI 0)), (11, .int (nI (sm (fun d9 => dg σ d9 4) (σ 0)))), (13, .int (nI s))]) hx hb dL_holds_632 hl (by decide) rfl (fun ls hl => ?_)
                                  refine lv_iinc (v := (nI (s + 1))) (lv' := [(13, .int (nI (s + 1))), (12, .int (nI 1)), (7, .int (nI (ct (frd σ) (s + 1)))), (8, .int (nI (ct (mng σ NN) (s + 1)))), (16, .int (nI 0)), (15, .int (nI 1)), (14, .int (nI (sg σ s 5))), (0, .ref (x 0)), (1, .int (nI v)), (2, .int (nI (σ 0))), (3, .int (nI (σ 1))), (4, .int (nI (σ 2))), (5, .int (nI (ct (msg σ) (σ 0)))), (6, .int (nI (sm (fun d9 => if msg σ d9 then dg σ d9 4 else 0) (σ 0)))), (9, .int (nI (sm (fun d9 => ct (mng σ d9) (σ 1)) (σ 0)))), (10, .int (nI 0)), (11, .int (nI (sm (fun d9 => dg σ d9 4) (σ 0))))]) hx hb dL_holds_634 hl (k := 16) rfl (nI_add s 1) (by decide) rfl (fun ls hl => ?_)
                                  refine lv_goto (tgt := 435) hx hb dL_holds_637 (by decide) ?_
                                  refine W.widen (k := 700 + 10 * (s + 1)) (n := 6 * (700 + 10 * (s + 1))) (by omega) (by omega) ?_
                                  exact ih435 (s + 1, q) H locs ls ⟨hP, hD, hS, hI, lv_sub hl [7, 8, 9, 10, 11, 12, 13, 14, 15, 16, 1, 2, 3, 0] rfl, (by omega)⟩ (by dsimp only; omega)
                    · have c_541 := (nc_ne9 (by omega) (by omega) c_541)
                      omega
                  · have c_507 := (nc_eq9 (by omega) (by decide) c_507)
                    exact absurd c_507 h5
                · have c_486 := (nc_eq9 (by omega) (by decide) c_486)
                  exact absurd c_486 h5
            · skip
              refine lv_iconst (v := (nI 4)) hx hb dL_holds_447 (by decide) ?_
              by_cases ff : frd σ s = true
              · skip
                refine lv_iload hx hb dL_holds_448 (lv_at hl 13 rfl) ?_
                refine lv_iconst (v := (nI 5)) hx hb dL_holds_450 (by decide) ?_
                refine lv_iconst (v := (nI 0)) hx hb dL_holds_451 (by decide) ?_
                refine wr_callS (pre := []) (wc := fQ cy x a tr s0 s1 pa q σ n fl tx ln) (va_runS (As := [.ref (x 0), .int (nI 4), .int (nI s), .int (nI 5), .int (nI 0)]) (rest := []) ⟨hx, hb, hml, hown, hts⟩ (c_L_call_4 l hfl g cy x a tr s0 s1 pa H.size bd q σ Hh n K fl tx ln (nI s) (nI 5) (nI 0) hI ) ⟨(cB 5 hts wd9_11 wd5_14 wd9_9 rfl rfl (by decide +kernel) ⟨Nat.le_of_ble_eq_true rfl, Nat.le_of_ble_eq_true rfl⟩), hts _ wd9_10⟩ (ps2 (ws := [] ++ fQ cy x a tr s0 s1 pa q σ n fl tx ln) hK hP hD hS hA hX hY _ nd_suffix at_suffix) rfl rfl hl.1 rfl (lv_room (Nat.le_of_ble_eq_true rfl)) dL_holds_452 ⟨by show _ ≤ 1500; omega, by show _ ≤ 9000; omega⟩) hP hD hS hA (fun _ => fQ_ad) (fun q H locs hI hP hD hS => ?_)
                have hP : va_P g vwCl (fQ cy x a tr s0 s1 pa q σ n fl tx ln) H := hP
                have hD : va_D A (fQ cy x a tr s0 s1 pa q σ n fl tx ln) := hD
                refine ti (show an (fSig σ (nI s) (nI 5)) (nI (nsg σ (nI s).toNatClampNeg (nI 5).toNatClampNeg)) = (nI (sg σ s 5)) from (v_sg (w := 5) hn1 (by omega) (by decide))) ?_
                show W _ _ _ _ _ _ _ _ _ _ _ _ _ _ _ (F0 mX 455 ls [.int (nI (sg σ s 5))])
                refine lv_istore (lv' := [(14, .int (nI (sg σ s 5))), (0, .ref (x 0)), (1, .int (nI v)), (2, .int (nI (σ 0))), (3, .int (nI (σ 1))), (4, .int (nI (σ 2))), (5, .int (nI (ct (msg σ) (σ 0)))), (6, .int (nI (sm (fun d9 => if msg σ d9 then dg σ d9 4 else 0) (σ 0)))), (9, .int (nI (sm (fun d9 => ct (mng σ d9) (σ 1)) (σ 0)))), (10, .int (nI 0)), (11, .int (nI (sm (fun d9 => dg σ d9 4) (σ 0)))), (12, .int (nI 1)), (7, .int (nI (ct (frd σ) s))), (8, .int (nI (ct (mng σ NN) s))), (13, .int (nI s))]) hx hb dL_holds_455 hl (by decide) rfl (fun ls hl => ?_)
                refine lv_aload_n hx hb dL_holds_457 rfl (lv_at hl 1 rfl) ?_
                refine lv_iconst (v := (nI 4)) hx hb dL_holds_458 (by decide) ?_
                refine lv_iload hx hb dL_holds_459 (lv_at hl 14 rfl) ?_
                refine lv_bipush (v := (nI 7)) hx hb dL_holds_461 (by decide) ?_
                refine lv_iconst (v := (nI 0)) hx hb dL_holds_463 (by decide) ?_
                refine wr_callS (pre := []) (wc := fQ cy x a tr s0 s1 pa q σ n fl tx ln) (va_runS (As := [.ref (x 0), .int (nI 4), .int (nI s), .int (nI 7), .int (nI 0)]) (rest := []) ⟨hx, hb, hml, hown, hts⟩ (c_L_call_4 l hfl g cy x a tr s0 s1 pa H.size bd q σ Hh n K fl tx ln (nI s) (nI 7) (nI 0) hI ) ⟨(cB 5 hts wd9_11 wd5_14 wd9_9 rfl rfl (by decide +kernel) ⟨Nat.le_of_ble_eq_true rfl, Nat.le_of_ble_eq_true rfl⟩), hts _ wd9_10⟩ (ps2 (ws := [] ++ fQ cy x a tr s0 s1 pa q σ n fl tx ln) hK hP hD hS hA hX hY _ nd_suffix at_suffix) rfl rfl hl.1 rfl (lv_room (Nat.le_of_ble_eq_true rfl)) dL_holds_464 ⟨by show _ ≤ 1500; omega, by show _ ≤ 9000; omega⟩) hP hD hS hA (fun _ => fQ_ad) (fun q H locs hI hP hD hS => ?_)
                have hP : va_P g vwCl (fQ cy x a tr s0 s1 pa q σ n fl tx ln) H := hP
                have hD : va_D A (fQ cy x a tr s0 s1 pa q σ n fl tx ln) := hD
                refine ti (show an (fSig σ (nI s) (nI 7)) (nI (nsg σ (nI s).toNatClampNeg (nI 7).toNatClampNeg)) = (nI (if sg σ s 5 = NN then NN else if tru σ s then 1 else 0)) from (v_sg (w := 7) hn1 (by omega) (by decide))) ?_
                show W _ _ _ _ _ _ _ _ _ _ _ _ _ _ _ (F0 mX 467 ls [.int (nI (if sg σ s 5 = NN then NN else if tru σ s then 1 else 0))])
                refine ti (show (nI (if sg σ s 5 = NN then NN else if tru σ s then 1 else 0)) = (nI 0) from (by rw [if_neg h5, if_neg tt])) ?_
                refine lv_istore (lv' := [(15, .int (nI 0)), (14, .int (nI (sg σ s 5))), (0, .ref (x 0)), (1, .int (nI v)), (2, .int (nI (σ 0))), (3, .int (nI (σ 1))), (4, .int (nI (σ 2))), (5, .int (nI (ct (msg σ) (σ 0)))), (6, .int (nI (sm (fun d9 => if msg σ d9 then dg σ d9 4 else 0) (σ 0)))), (9, .int (nI (sm (fun d9 => ct (mng σ d9) (σ 1)) (σ 0)))), (10, .int (nI 0)), (11, .int (nI (sm (fun d9 => dg σ d9 4) (σ 0)))), (12, .int (nI 1)), (7, .int (nI (ct (frd σ) s))), (8, .int (nI (ct (mng σ NN) s))), (13, .int (nI s))]) hx hb dL_holds_467 hl (by decide) rfl (fun ls hl => ?_)
                refine lv_aload_n hx hb dL_holds_469 rfl (lv_at hl 2 rfl) ?_
                refine lv_iconst (v := (nI 4)) hx hb dL_holds_470 (by decide) ?_
                refine lv_iload hx hb dL_holds_471 (lv_at hl 15 rfl) ?_
                refine lv_bipush (v := (nI 8)) hx hb dL_holds_473 (by decide) ?_
                refine lv_iconst (v := (nI 0)) hx hb dL_holds_475 (by decide) ?_
                refine wr_callS (pre := []) (wc := fQ cy x a tr s0 s1 pa q σ n fl tx ln) (va_runS (As := [.ref (x 0), .int (nI 4), .int (nI s), .int (nI 8), .int (nI 0)]) (rest := []) ⟨hx, hb, hml, hown, hts⟩ (c_L_call_4 l hfl g cy x a tr s0 s1 pa H.size bd q σ Hh n K fl tx ln (nI s) (nI 8) (nI 0) hI ) ⟨(cB 5 hts wd9_11 wd5_14 wd9_9 rfl rfl (by decide +kernel) ⟨Nat.le_of_ble_eq_true rfl, Nat.le_of_ble_eq_true rfl⟩), hts _ wd9_10⟩ (ps2 (ws := [] ++ fQ cy x a tr s0 s1 pa q σ n fl tx ln) hK hP hD hS hA hX hY _ nd_suffix at_suffix) rfl rfl hl.1 rfl (lv_room (Nat.le_of_ble_eq_true rfl)) dL_holds_476 ⟨by show _ ≤ 1500; omega, by show _ ≤ 9000; omega⟩) hP hD hS hA (fun _ => fQ_ad) (fun q H locs hI hP hD hS => ?_)
                have hP : va_P g vwCl (fQ cy x a tr s0 s1 pa q σ n fl tx ln) H := hP
                have hD : va_D A (fQ cy x a tr s0 s1 pa q σ n fl tx ln) := hD
                refine ti (show an (fSig σ (nI s) (nI 8)) (nI (nsg σ (nI s).toNatClampNeg (nI 8).toNatClampNeg)) = (nI (if frd σ s then 1 else 0)) from (v_sg (w := 8) hn1 (by omega) (by decide))) ?_
                show W _ _ _ _ _ _ _ _ _ _ _ _ _ _ _ (F0 mX 479 ls [.int (nI (if frd σ s then 1 else 0))])
                refine ti (show (nI (if frd σ s then 1 else 0)) = (nI 1) from (by rw [if_pos ff])) ?_
                refine lv_istore (lv' := [(16, .int (nI 1)), (15, .int (nI 0)), (14, .int (nI (sg σ s 5))), (0, .ref (x 0)), (1, .int (nI v)), (2, .int (nI (σ 0))), (3, .int (nI (σ 1))), (4, .int (nI (σ 2))), (5, .int (nI (ct (msg σ) (σ 0)))), (6, .int (nI (sm (fun d9 => if msg σ d9 then dg σ d9 4 else 0) (σ 0)))), (9, .int (nI (sm (fun d9 => ct (mng σ d9) (σ 1)) (σ 0)))), (10, .int (nI 0)), (11, .int (nI (sm (fun d9 => dg σ d9 4) (σ 0)))), (12, .int (nI 1)), (7, .int (nI (ct (frd σ) s))), (8, .int (nI (ct (mng σ NN) s))), (13, .int (nI s))]) hx hb dL_holds_479 hl (by decide) rfl (fun ls hl => ?_)
                refine lv_iload hx hb dL_holds_481 (lv_at hl 15 rfl) ?_
                refine lv_iload hx hb dL_holds_483 (lv_at hl 2 rfl) ?_
                refine lv_iconst (v := (nI NN)) hx hb dL_holds_485 (by decide) ?_
                refine lv_icmp_ne (tgt := 493) hx hb dL_holds_486 (by decide) (fun c_486 => ?_) (fun c_486 => ?_)
                · have c_486 := (nc_ne9 (by omega) (by decide) c_486)
                  refine lv_iconst (v := (nI 0)) hx hb dL_holds_493 (by decide) ?_
                  refine lv_iadd hx hb dL_holds_494 ?_
                  refine ti (nI_add (ct (mng σ NN) s) 0) ?_
                  refine lv_istore (lv' := [(8, .int (nI ((ct (mng σ NN) s) + 0))), (16, .int (nI 1)), (15, .int (nI 0)), (14, .int (nI (sg σ s 5))), (0, .ref (x 0)), (1, .int (nI v)), (2, .int (nI (σ 0))), (3, .int (nI (σ 1))), (4, .int (nI (σ 2))), (5, .int (nI (ct (msg σ) (σ 0)))), (6, .int (nI (sm (fun d9 => if msg σ d9 then dg σ d9 4 else 0) (σ 0)))), (9, .int (nI (sm (fun d9 => ct (mng σ d9) (σ 1)) (σ 0)))), (10, .int (nI 0)), (11, .int (nI (sm (fun d9 => dg σ d9 4) (σ 0)))), (12, .int (nI 1)), (7, .int (nI (ct (frd σ) s))), (13, .int (nI s))]) hx hb dL_holds_495 hl (by decide) rfl (fun ls hl => ?_)
                  have hl : lv_has ls 21 [(8, .int (nI (ct (mng σ NN) (s + 1)))), (16, .int (nI 1)), (15, .int (nI 0)), (14, .int (nI (sg σ s 5))), (0, .ref (x 0)), (1, .int (nI v)), (2, .int (nI (σ 0))), (3, .int (nI (σ 1))), (4, .int (nI (σ 2))), (5, .int (nI (ct (msg σ) (σ 0)))), (6, .int (nI (sm (fun d9 => if msg σ d9 then dg σ d9 4 else 0) (σ 0)))), (9, .int (nI (sm (fun d9 => ct (mng σ d9) (σ 1)) (σ 0)))), (10, .int (nI 0)), (11, .int (nI (sm (fun d9 => dg σ d9 4) (σ 0)))), (12, .int (nI 1)), (7, .int (nI (ct (frd σ) s))), (13, .int (nI s))] := by rw [← show (nI ((ct (mng σ NN) s) + 0)) = (nI (ct (mng σ NN) (s + 1))) from (congrArg nI (by show _ = ct (mng σ NN) s + (if mng σ NN s then 1 else 0); simp [mng, h5]))]; exact hl
                  refine lv_iload hx hb dL_holds_497 (lv_at hl 15 rfl) ?_
                  refine lv_iload hx hb dL_holds_499 (lv_at hl 1 rfl) ?_
                  refine lv_iadd hx hb dL_holds_501 ?_
                  refine ti (nI_add (ct (frd σ) s) 1) ?_
                  refine lv_istore (lv' := [(7, .int (nI ((ct (frd σ) s) + 1))), (8, .int (nI (ct (mng σ NN) (s + 1)))), (16, .int (nI 1)), (15, .int (nI 0)), (14, .int (nI (sg σ s 5))), (0, .ref (x 0)), (1, .int (nI v)), (2, .int (nI (σ 0))), (3, .int (nI (σ 1))), (4, .int (nI (σ 2))), (5, .int (nI (ct (msg σ) (σ 0)))), (6, .int (nI (sm (fun d9 => if msg σ d9 then dg σ d9 4 else 0) (σ 0)))), (9, .int (nI (sm (fun d9 => ct (mng σ d9) (σ 1)) (σ 0)))), (10, .int (nI 0)), (11, .int (nI (sm (fun d9 => dg σ d9 4) (σ 0)))), (12, .int (nI 1)), (13, .int (nI s))]) hx hb dL_holds_502 hl (by decide) rfl (fun ls hl => ?_)
                  have hl : lv_has ls 21 [(7, .int (nI (ct (frd σ) (s + 1)))), (8, .int (nI (ct (mng σ NN) (s + 1)))), (16, .int (nI 1)), (15, .int (nI 0)), (14, .int (nI (sg σ s 5))), (0, .ref (x 0)), (1, .int (nI v)), (2, .int (nI (σ 0))), (3, .int (nI (σ 1))), (4, .int (nI (σ 2))), (5, .int (nI (ct (msg σ) (σ 0)))), (6, .int (nI (sm (fun d9 => if msg σ d9 then dg σ d9 4 else 0) (σ 0)))), (9, .int (nI (sm (fun d9 => ct (mng σ d9) (σ 1)) (σ 0)))), (10, .int (nI 0)), (11, .int (nI (sm (fun d9 => dg σ d9 4) (σ 0)))), (12, .int (nI 1)), (13, .int (nI s))] := by rw [← show (nI ((ct (frd σ) s) + 1)) = (nI (ct (frd σ) (s + 1))) from (congrArg nI (by show _ = ct (frd σ) s + (if frd σ s then 1 else 0); simp [ff]))]; exact hl
                  refine lv_iload hx hb dL_holds_504 (lv_at hl 4 rfl) ?_
                  refine lv_iconst (v := (nI NN)) hx hb dL_holds_506 (by decide) ?_
                  refine lv_icmp_ne (tgt := 538) hx hb dL_holds_507 (by decide) (fun c_507 => ?_) (fun c_507 => ?_)
                  · have c_507 := (nc_ne9 (by omega) (by decide) c_507)
                    refine lv_iload hx hb dL_holds_538 (lv_at hl 3 rfl) ?_
                    refine lv_iconst (v := (nI 1)) hx hb dL_holds_540 (by decide) ?_
                    refine lv_icmp_eq (tgt := 550) hx hb dL_holds_541 (by decide) (fun c_541 => ?_) (fun c_541 => ?_)
                    · have c_541 := (nc_eq9 (by omega) (by omega) c_541)
                      omega
                    · have c_541 := (nc_ne9 (by omega) (by omega) c_541)
                      refine lv_iload hx hb dL_holds_544 (lv_at hl 2 rfl) ?_
                      refine lv_iconst (v := (nI 1)) hx hb dL_holds_546 (by decide) ?_
                      refine lv_icmp_ne (tgt := 631) hx hb dL_holds_547 (by decide) (fun c_547 => absurd rfl c_547) (fun _ => ?_)
                      refine lv_aload_n hx hb dL_holds_550 rfl (lv_at hl 5 rfl) ?_
                      refine lv_iconst (v := (nI 4)) hx hb dL_holds_551 (by decide) ?_
                      refine lv_iload hx hb dL_holds_552 (lv_at hl 16 rfl) ?_
                      refine lv_bipush (v := (nI 6)) hx hb dL_holds_554 (by decide) ?_
                      refine lv_iconst (v := (nI 0)) hx hb dL_holds_556 (by decide) ?_
                      refine wr_callS (pre := []) (wc := fQ cy x a tr s0 s1 pa q σ n fl tx ln) (va_runS (As := [.ref (x 0), .int (nI 4), .int (nI s), .int (nI 6), .int (nI 0)]) (rest := []) ⟨hx, hb, hml, hown, hts⟩ (c_L_call_4 l hfl g cy x a tr s0 s1 pa H.size bd q σ Hh n K fl tx ln (nI s) (nI 6) (nI 0) hI ) ⟨(cB 5 hts wd9_11 wd5_14 wd9_9 rfl rfl (by decide +kernel) ⟨Nat.le_of_ble_eq_true rfl, Nat.le_of_ble_eq_true rfl⟩), hts _ wd9_10⟩ (ps2 (ws := [] ++ fQ cy x a tr s0 s1 pa q σ n fl tx ln) hK hP hD hS hA hX hY _ nd_suffix at_suffix) rfl rfl hl.1 rfl (lv_room (Nat.le_of_ble_eq_true rfl)) dL_holds_557 ⟨by show _ ≤ 1500; omega, by show _ ≤ 9000; omega⟩) hP hD hS hA (fun _ => fQ_ad) (fun q H locs hI hP hD hS => ?_)
                      have hP : va_P g vwCl (fQ cy x a tr s0 s1 pa q σ n fl tx ln) H := hP
                      have hD : va_D A (fQ cy x a tr s0 s1 pa q σ n fl tx ln) := hD
                      refine ti (show an (fSig σ (nI s) (nI 6)) (nI (nsg σ (nI s).toNatClampNeg (nI 6).toNatClampNeg)) = (nI (if sg σ s 5 = NN then NN else unl σ (sg σ s 5) (sg σ s 3))) from (v_sg (w := 6) hn1 (by omega) (by decide))) ?_
                      show W _ _ _ _ _ _ _ _ _ _ _ _ _ _ _ (F0 mX 560 ls [.int (nI (if sg σ s 5 = NN then NN else unl σ (sg σ s 5) (sg σ s 3)))])
                      refine ti (show (nI (if sg σ s 5 = NN then NN else unl σ (sg σ s 5) (sg σ s 3))) = (nI (unl σ (sg σ s 5) (sg σ s 3))) from (congrArg nI (if_neg h5))) ?_
                      refine lv_bipush (v := (nI 8)) hx hb dL_holds_560 (by decide) ?_
                      refine lv_icmp_gt (tgt := 631) hx hb dL_holds_562 (by decide) (fun c_562 => ?_) (fun c_562 => ?_)
                      · have c_562 := (nc_lt (by omega) (by omega) c_562)
                        omega
                      · have c_562 := (nc_nlt (by omega) (by omega) c_562)
                        refine lv_aload_n hx hb dL_holds_565 rfl (lv_at hl 5 rfl) ?_
                        refine lv_iconst (v := (nI 4)) hx hb dL_holds_566 (by decide) ?_
                        refine lv_iload hx hb dL_holds_567 (lv_at hl 16 rfl) ?_
                        refine lv_iconst (v := (nI 2)) hx hb dL_holds_569 (by decide) ?_
                        refine lv_iconst (v := (nI 0)) hx hb dL_holds_570 (by decide) ?_
                        refine wr_callS (pre := []) (wc := fQ cy x a tr s0 s1 pa q σ n fl tx ln) (va_runS (As := [.ref (x 0), .int (nI 4), .int (nI s), .int (nI 2), .int (nI 0)]) (rest := []) ⟨hx, hb, hml, hown, hts⟩ (c_L_call_4 l hfl g cy x a tr s0 s1 pa H.size bd q σ Hh n K fl tx ln (nI s) (nI 2) (nI 0) hI ) ⟨(cB 5 hts wd9_11 wd5_14 wd9_9 rfl rfl (by decide +kernel) ⟨Nat.le_of_ble_eq_true rfl, Nat.le_of_ble_eq_true rfl⟩), hts _ wd9_10⟩ (ps2 (ws := [] ++ fQ cy x a tr s0 s1 pa q σ n fl tx ln) hK hP hD hS hA hX hY _ nd_suffix at_suffix) rfl rfl hl.1 rfl (lv_room (Nat.le_of_ble_eq_true rfl)) dL_holds_571 ⟨by show _ ≤ 1500; omega, by show _ ≤ 9000; omega⟩) hP hD hS hA (fun _ => fQ_ad) (fun q H locs hI hP hD hS => ?_)
                        have hP : va_P g vwCl (fQ cy x a tr s0 s1 pa q σ n fl tx ln) H := hP
                        have hD : va_D A (fQ cy x a tr s0 s1 pa q σ n fl tx ln) := hD
                        refine ti (show an (fSig σ (nI s) (nI 2)) (nI (nsg σ (nI s).toNatClampNeg (nI 2).toNatClampNeg)) = (nI (sg σ s 2)) from (v_sg (w := 2) hn1 (by omega) (by decide))) ?_
                        show W _ _ _ _ _ _ _ _ _ _ _ _ _ _ _ (F0 mX 574 ls [.int (nI (sg σ s 2))])
                        refine lv_aload_n hx hb dL_holds_574 rfl (lv_at hl 5 rfl) ?_
                        refine lv_iconst (v := (nI 3)) hx hb dL_holds_575 (by decide) ?_
                        refine lv_iload hx hb dL_holds_576 (lv_at hl 4 rfl) ?_
                        refine lv_iconst (v := (nI 3)) hx hb dL_holds_578 (by decide) ?_
                        refine lv_iconst (v := (nI 0)) hx hb dL_holds_579 (by decide) ?_
                        refine wr_callS (pre := []) (wc := fQ cy x a tr s0 s1 pa q σ n fl tx ln) (va_runS (As := [.ref (x 0), .int (nI 3), .int (nI (sg σ s 5)), .int (nI 3), .int (nI 0)]) (rest := [.int (nI (sg σ s 2))]) ⟨hx, hb, hml, hown, hts⟩ (c_L_call_3 l hfl g cy x a tr s0 s1 pa H.size bd q σ Hh n K fl tx ln (nI (sg σ s 5)) (nI 3) (nI 0) hI ) ⟨(cB 5 hts wd9_11 wd5_14 wd9_9 rfl rfl (by decide +kernel) ⟨Nat.le_of_ble_eq_true rfl, Nat.le_of_ble_eq_true rfl⟩), hts _ wd9_10⟩ (ps2 (ws := [] ++ fQ cy x a tr s0 s1 pa q σ n fl tx ln) hK hP hD hS hA hX hY _ nd_suffix at_suffix) rfl rfl hl.1 rfl (lv_room (Nat.le_of_ble_eq_true rfl)) dL_holds_580 ⟨by show _ ≤ 1500; omega, by show _ ≤ 9000; omega⟩) hP hD hS hA (fun _ => fQ_ad) (fun q H locs hI hP hD hS => ?_)
                        have hP : va_P g vwCl (fQ cy x a tr s0 s1 pa q σ n fl tx ln) H := hP
                        have hD : va_D A (fQ cy x a tr s0 s1 pa q σ n fl tx ln) := hD
                        refine ti (show an (fDog σ (nI (sg σ s 5)) (nI 3)) (nI (ndg σ (nI (sg σ s 5)).toNatClampNeg (nI 3).toNatClampNeg)) = (nI (dg σ (sg σ s 5) 3)) from (v_dg (w := 3) hn0 ds9 (by decide))) ?_
                        show W _ _ _ _ _ _ _ _ _ _ _ _ _ _ _ (F0 mX 583 ls [.int (nI (dg σ (sg σ s 5) 3)), .int (nI (sg σ s 2))])
                        refine lv_icmp_lt (tgt := 631) hx hb dL_holds_583 (by decide) (fun c_583 => ?_) (fun c_583 => ?_)
                        · have c_583 := (nc_lt (by omega) (by omega) c_583)
                          omega
                        · have c_583 := (nc_nlt (by omega) (by omega) c_583)
                          refine lv_aload_n hx hb dL_holds_586 rfl (lv_at hl 5 rfl) ?_
                          refine lv_iconst (v := (nI 4)) hx hb dL_holds_587 (by decide) ?_
                          refine lv_iload hx hb dL_holds_588 (lv_at hl 16 rfl) ?_
                          refine lv_iconst (v := (nI 2)) hx hb dL_holds_590 (by decide) ?_
                          refine lv_iconst (v := (nI 0)) hx hb dL_holds_591 (by decide) ?_
                          refine wr_callS (pre := []) (wc := fQ cy x a tr s0 s1 pa q σ n fl tx ln) (va_runS (As := [.ref (x 0), .int (nI 4), .int (nI s), .int (nI 2), .int (nI 0)]) (rest := []) ⟨hx, hb, hml, hown, hts⟩ (c_L_call_4 l hfl g cy x a tr s0 s1 pa H.size bd q σ Hh n K fl tx ln (nI s) (nI 2) (nI 0) hI ) ⟨(cB 5 hts wd9_11 wd5_14 wd9_9 rfl rfl (by decide +kernel) ⟨Nat.le_of_ble_eq_true rfl, Nat.le_of_ble_eq_true rfl⟩), hts _ wd9_10⟩ (ps2 (ws := [] ++ fQ cy x a tr s0 s1 pa q σ n fl tx ln) hK hP hD hS hA hX hY _ nd_suffix at_suffix) rfl rfl hl.1 rfl (lv_room (Nat.le_of_ble_eq_true rfl)) dL_holds_592 ⟨by show _ ≤ 1500; omega, by show _ ≤ 9000; omega⟩) hP hD hS hA (fun _ => fQ_ad) (fun q H locs hI hP hD hS => ?_)
                          have hP : va_P g vwCl (fQ cy x a tr s0 s1 pa q σ n fl tx ln) H := hP
                          have hD : va_D A (fQ cy x a tr s0 s1 pa q σ n fl tx ln) := hD
                          refine ti (show an (fSig σ (nI s) (nI 2)) (nI (nsg σ (nI s).toNatClampNeg (nI 2).toNatClampNeg)) = (nI (sg σ s 2)) from (v_sg (w := 2) hn1 (by omega) (by decide))) ?_
                          show W _ _ _ _ _ _ _ _ _ _ _ _ _ _ _ (F0 mX 595 ls [.int (nI (sg σ s 2))])
                          refine lv_iload hx hb dL_holds_595 (lv_at hl 9 rfl) ?_
                          refine lv_icmp_gt (tgt := 631) hx hb dL_holds_597 (by decide) (fun c_597 => ?_) (fun c_597 => ?_)
                          · have c_597 := (nc_lt (by omega) (by omega) c_597)
                            omega
                          · have c_597 := (nc_nlt (by omega) (by omega) c_597)
                            refine lv_aload_n hx hb dL_holds_600 rfl (lv_at hl 5 rfl) ?_
                            refine lv_iconst (v := (nI 4)) hx hb dL_holds_601 (by decide) ?_
                            refine lv_iload hx hb dL_holds_602 (lv_at hl 16 rfl) ?_
                            refine lv_iconst (v := (nI 4)) hx hb dL_holds_604 (by decide) ?_
                            refine lv_iconst (v := (nI 0)) hx hb dL_holds_605 (by decide) ?_
                            refine wr_callS (pre := []) (wc := fQ cy x a tr s0 s1 pa q σ n fl tx ln) (va_runS (As := [.ref (x 0), .int (nI 4), .int (nI s), .int (nI 4), .int (nI 0)]) (rest := []) ⟨hx, hb, hml, hown, hts⟩ (c_L_call_4 l hfl g cy x a tr s0 s1 pa H.size bd q σ Hh n K fl tx ln (nI s) (nI 4) (nI 0) hI ) ⟨(cB 5 hts wd9_11 wd5_14 wd9_9 rfl rfl (by decide +kernel) ⟨Nat.le_of_ble_eq_true rfl, Nat.le_of_ble_eq_true rfl⟩), hts _ wd9_10⟩ (ps2 (ws := [] ++ fQ cy x a tr s0 s1 pa q σ n fl tx ln) hK hP hD hS hA hX hY _ nd_suffix at_suffix) rfl rfl hl.1 rfl (lv_room (Nat.le_of_ble_eq_true rfl)) dL_holds_606 ⟨by show _ ≤ 1500; omega, by show _ ≤ 9000; omega⟩) hP hD hS hA (fun _ => fQ_ad) (fun q H locs hI hP hD hS => ?_)
                            have hP : va_P g vwCl (fQ cy x a tr s0 s1 pa q σ n fl tx ln) H := hP
                            have hD : va_D A (fQ cy x a tr s0 s1 pa q σ n fl tx ln) := hD
                            refine ti (show an (fSig σ (nI s) (nI 4)) (nI (nsg σ (nI s).toNatClampNeg (nI 4).toNatClampNeg)) = (nI (sg σ s 4)) from (v_sg (w := 4) hn1 (by omega) (by decide))) ?_
                            show W _ _ _ _ _ _ _ _ _ _ _ _ _ _ _ (F0 mX 609 ls [.int (nI (sg σ s 4))])
                            refine lv_if_eq (tgt := 627) hx hb dL_holds_609 (by decide) (fun c_609 => ?_) (fun c_609 => ?_)
                            · have c_609 := (nz_eq c_609 (by omega))
                              refine lv_iconst (v := (nI 1)) hx hb dL_holds_627 (by decide) ?_
                              refine lv_goto (tgt := 632) hx hb dL_holds_628 (by decide) ?_
                              refine lv_istore (lv' := [(12, .int (nI 1)), (7, .int (nI (ct (frd σ) (s + 1)))), (8, .int (nI (ct (mng σ NN) (s + 1)))), (16, .int (nI 1)), (15, .int (nI 0)), (14, .int (nI (sg σ s 5))), (0, .ref (x 0)), (1, .int (nI v)), (2, .int (nI (σ 0))), (3, .int (nI (σ 1))), (4, .int (nI (σ 2))), (5, .int (nI (ct (msg σ) (σ 0)))), (6, .int (nI (sm (fun d9 => if msg σ d9 then dg σ d9 4 else 0) (σ 0)))), (9, .int (nI (sm (fun d9 => ct (mng σ d9) (σ 1)) (σ 0)))), (10, .int (nI 0)), (11, .int (nI (sm (fun d9 => dg σ d9 4) (σ 0)))), (13, .int (nI s))]) hx hb dL_holds_632 hl (by decide) rfl (fun ls hl => ?_)
                              refine lv_iinc (v := (nI (s + 1))) (lv' := [(13, .int (nI (s + 1))), (12, .int (nI 1)), (7, .int (nI (ct (frd σ) (s + 1)))), (8, .int (nI (ct (mng σ NN) (s + 1)))), (16, .int (nI 1)), (15, .int (nI 0)), (14, .int (nI (sg σ s 5))), (0, .ref (x 0)), (1, .int (nI v)), (2, .int (nI (σ 0))), (3, .int (nI (σ 1))), (4, .int (nI (σ 2))), (5, .int (nI (ct (msg σ) (σ 0)))), (6, .int (nI (sm (fun d9 => if msg σ d9 then dg σ d9 4 else 0) (σ 0)))), (9, .int (nI (sm (fun d9 => ct (mng σ d9) (σ 1)) (σ 0)))), (10, .int (nI 0)), (11, .int (nI (sm (fun d9 => dg σ d9 4) (σ 0))))]) hx hb dL_holds_634 hl (k := 16) rfl (nI_add s 1) (by decide) rfl (fun ls hl => ?_)
                              refine lv_goto (tgt := 435) hx hb dL_holds_637 (by decide) ?_
                              refine W.widen (k := 700 + 10 * (s + 1)) (n := 6 * (700 + 10 * (s + 1))) (by omega) (by omega) ?_
                              exact ih435 (s + 1, q) H locs ls ⟨hP, hD, hS, hI, lv_sub hl [7, 8, 9, 10, 11, 12, 13, 14, 15, 16, 1, 2, 3, 0] rfl, (by omega)⟩ (by dsimp only; omega)
                            · have c_609 := (nz_ne c_609 (by omega))
                              refine lv_iload hx hb dL_holds_612 (lv_at hl 4 rfl) ?_
                              refine lv_iconst (v := (nI NN)) hx hb dL_holds_614 (by decide) ?_
                              refine lv_icmp_eq (tgt := 627) hx hb dL_holds_615 (by decide) (fun c_615 => ?_) (fun c_615 => ?_)
                              · have c_615 := (nc_eq9 (by omega) (by decide) c_615)
                                exact absurd c_615 h5
                              · have c_615 := (nc_ne9 (by omega) (by decide) c_615)
                                refine lv_iload hx hb dL_holds_618 (lv_at hl 2 rfl) ?_
                                refine lv_iconst (v := (nI 1)) hx hb dL_holds_620 (by decide) ?_
                                refine lv_iload hx hb dL_holds_621 (lv_at hl 3 rfl) ?_
                                refine lv_isub hx hb dL_holds_623 ?_
                                refine ti (pk_sub (a := 1) (b := 0) (by omega)) ?_
                                refine lv_icmp_ne (tgt := 631) hx hb dL_holds_624 (by decide) (fun c_624 => ?_) (fun c_624 => ?_)
                                · have c_624 := (nc_ne9 (by omega) (by omega) c_624)
                                  omega
                                · have c_624 := (nc_eq9 (by omega) (by omega) c_624)
                                  refine lv_iconst (v := (nI 1)) hx hb dL_holds_627 (by decide) ?_
                                  refine lv_goto (tgt := 632) hx hb dL_holds_628 (by decide) ?_
                                  refine lv_istore (lv' := [(12, .int (nI 1)), (7, .int (nI (ct (frd σ) (s + 1)))), (8, .int (nI (ct (mng σ NN) (s + 1)))), (16, .int (nI 1)), (15, .int (nI 0)), (14, .int (nI (sg σ s 5))), (0, .ref (x 0)), (1, .int (nI v)), (2, .int (nI (σ 0))), (3, .int (nI (σ 1))), (4, .int (nI (σ 2))), (5, .int (nI (ct (msg σ) (σ 0)))), (6, .int (nI (sm (fun d9 => if msg σ d9 then dg σ d9 4 else 0) (σ 0)))), (9, .int (nI (sm (fun d9 => ct (mng σ d9) (σ 1)) (σ 0)))), (10, .int (nI 0)), (11, .int (nI (sm (fun d9 => dg σ d9 4) (σ 0)))), (13, .int (nI s))]) hx hb dL_holds_632 hl (by decide) rfl (fun ls hl => ?_)
                                  refine lv_iinc (v := (nI (s + 1))) (lv' := [(13, .int (nI (s + 1))), (12, .int (nI 1)), (7, .int (nI (ct (frd σ) (s + 1)))), (8, .int (nI (ct (mng σ NN) (s + 1)))), (16, .int (nI 1)), (15, .int (nI 0)), (14, .int (nI (sg σ s 5))), (0, .ref (x 0)), (1, .int (nI v)), (2, .int (nI (σ 0))), (3, .int (nI (σ 1))), (4, .int (nI (σ 2))), (5, .int (nI (ct (msg σ) (σ 0)))), (6, .int (nI (sm (fun d9 => if msg σ d9 then dg σ d9 4 else 0) (σ 0)))), (9, .int (nI (sm (fun d9 => ct (mng σ d9) (σ 1)) (σ 0)))), (10, .int (nI 0)), (11, .int (nI (sm (fun d9 => dg σ d9 4) (σ 0))))]) hx hb dL_holds_634 hl (k := 16) rfl (nI_add s 1) (by decide) rfl (fun ls hl => ?_)
                                  refine lv_goto (tgt := 435) hx hb dL_holds_637 (by decide) ?_
                                  refine W.widen (k := 700 + 10 * (s + 1)) (n := 6 * (700 + 10 * (s + 1))) (by omega) (by omega) ?_
                                  exact ih435 (s + 1, q) H locs ls ⟨hP, hD, hS, hI, lv_sub hl [7, 8, 9, 10, 11, 12, 13, 14, 15, 16, 1, 2, 3, 0] rfl, (by omega)⟩ (by dsimp only; omega)
                  · have c_507 := (nc_eq9 (by omega) (by decide) c_507)
                    exact absurd c_507 h5
                · have c_486 := (nc_eq9 (by omega) (by decide) c_486)
                  exact absurd c_486 h5
              · skip
                exact absurd (sg9.1.resolve_left tt) ff
      · have c_74 := (nc_nle (by omega) (by omega) c_74)
        refine lv_iload hx hb dL_holds_77 (lv_at hl 12 rfl) ?_
        refine lv_if_eq (tgt := 432) hx hb dL_holds_79 (by decide) (fun c9 => absurd c9 (by decide)) (fun _ => ?_)
        have hd9 : d < σ 0 := by omega
        have db9 := hW.db hd9
        have ch9 := ct_le (hon σ d) (σ 1)
        have mk9 := mk_lt (cbe σ d) 12
        refine lv_aload_n hx hb dL_holds_82 rfl (lv_at hl 0 rfl) ?_
        refine lv_iconst (v := (nI 3)) hx hb dL_holds_83 (by decide) ?_
        refine lv_iload hx hb dL_holds_84 (lv_at hl 13 rfl) ?_
        refine lv_iconst (v := (nI 5)) hx hb dL_holds_86 (by decide) ?_
        refine lv_iconst (v := (nI 0)) hx hb dL_holds_87 (by decide) ?_
        refine wr_callS (pre := []) (wc := fQ cy x a tr s0 s1 pa q σ n fl tx ln) (va_runS (As := [.ref (x 0), .int (nI 3), .int (nI d), .int (nI 5), .int (nI 0)]) (rest := []) ⟨hx, hb, hml, hown, hts⟩ (c_L_call_3 l hfl g cy x a tr s0 s1 pa H.size bd q σ Hh n K fl tx ln (nI d) (nI 5) (nI 0) hI ) ⟨(cB 5 hts wd9_11 wd5_14 wd9_9 rfl rfl (by decide +kernel) ⟨Nat.le_of_ble_eq_true rfl, Nat.le_of_ble_eq_true rfl⟩), hts _ wd9_10⟩ (ps2 (ws := [] ++ fQ cy x a tr s0 s1 pa q σ n fl tx ln) hK hP hD hS hA hX hY _ nd_suffix at_suffix) rfl rfl hl.1 rfl (lv_room (Nat.le_of_ble_eq_true rfl)) dL_holds_88 ⟨by show _ ≤ 1500; omega, by show _ ≤ 9000; omega⟩) hP hD hS hA (fun _ => fQ_ad) (fun q H locs hI hP hD hS => ?_)
        have hP : va_P g vwCl (fQ cy x a tr s0 s1 pa q σ n fl tx ln) H := hP
        have hD : va_D A (fQ cy x a tr s0 s1 pa q σ n fl tx ln) := hD
        refine ti (show an (fDog σ (nI d) (nI 5)) (nI (ndg σ (nI d).toNatClampNeg (nI 5).toNatClampNeg)) = (nI (if msg σ d then 1 else 0)) from (v_dg (w := 5) hn0 (by omega) (by decide))) ?_
        show W _ _ _ _ _ _ _ _ _ _ _ _ _ _ _ (F0 mX 91 ls [.int (nI (if msg σ d then 1 else 0))])
        refine lv_istore (lv' := [(14, .int (nI (if msg σ d then 1 else 0))), (0, .ref (x 0)), (1, .int (nI v)), (2, .int (nI (σ 0))), (3, .int (nI (σ 1))), (4, .int (nI (σ 2))), (5, .int (nI (ct (msg σ) d))), (6, .int (nI (sm (fun d9 => if msg σ d9 then dg σ d9 4 else 0) d))), (7, .int (nI 0)), (8, .int (nI 0)), (9, .int (nI (sm (fun d9 => ct (mng σ d9) (σ 1)) d))), (10, .int (nI 0)), (11, .int (nI (sm (fun d9 => dg σ d9 4) d))), (12, .int (nI 1)), (13, .int (nI d))]) hx hb dL_holds_91 hl (by decide) rfl (fun ls hl => ?_)
        refine lv_aload_n hx hb dL_holds_93 rfl (lv_at hl 1 rfl) ?_
        refine lv_iconst (v := (nI 3)) hx hb dL_holds_94 (by decide) ?_
        refine lv_iload hx hb dL_holds_95 (lv_at hl 14 rfl) ?_
        refine lv_iconst (v := (nI 3)) hx hb dL_holds_97 (by decide) ?_
        refine lv_iconst (v := (nI 0)) hx hb dL_holds_98 (by decide) ?_
        refine wr_callS (pre := []) (wc := fQ cy x a tr s0 s1 pa q σ n fl tx ln) (va_runS (As := [.ref (x 0), .int (nI 3), .int (nI d), .int (nI 3), .int (nI 0)]) (rest := []) ⟨hx, hb, hml, hown, hts⟩ (c_L_call_3 l hfl g cy x a tr s0 s1 pa H.size bd q σ Hh n K fl tx ln (nI d) (nI 3) (nI 0) hI ) ⟨(cB 5 hts wd9_11 wd5_14 wd9_9 rfl rfl (by decide +kernel) ⟨Nat.le_of_ble_eq_true rfl, Nat.le_of_ble_eq_true rfl⟩), hts _ wd9_10⟩ (ps2 (ws := [] ++ fQ cy x a tr s0 s1 pa q σ n fl tx ln) hK hP hD hS hA hX hY _ nd_suffix at_suffix) rfl rfl hl.1 rfl (lv_room (Nat.le_of_ble_eq_true rfl)) dL_holds_99 ⟨by show _ ≤ 1500; omega, by show _ ≤ 9000; omega⟩) hP hD hS hA (fun _ => fQ_ad) (fun q H locs hI hP hD hS => ?_)
        have hP : va_P g vwCl (fQ cy x a tr s0 s1 pa q σ n fl tx ln) H := hP
        have hD : va_D A (fQ cy x a tr s0 s1 pa q σ n fl tx ln) := hD
        refine ti (show an (fDog σ (nI d) (nI 3)) (nI (ndg σ (nI d).toNatClampNeg (nI 3).toNatClampNeg)) = (nI (dg σ d 3)) from (v_dg (w := 3) hn0 (by omega) (by decide))) ?_
        show W _ _ _ _ _ _ _ _ _ _ _ _ _ _ _ (F0 mX 102 ls [.int (nI (dg σ d 3))])
        refine lv_istore (lv' := [(15, .int (nI (dg σ d 3))), (14, .int (nI (if msg σ d then 1 else 0))), (0, .ref (x 0)), (1, .int (nI v)), (2, .int (nI (σ 0))), (3, .int (nI (σ 1))), (4, .int (nI (σ 2))), (5, .int (nI (ct (msg σ) d))), (6, .int (nI (sm (fun d9 => if msg σ d9 then dg σ d9 4 else 0) d))), (7, .int (nI 0)), (8, .int (nI 0)), (9, .int (nI (sm (fun d9 => ct (mng σ d9) (σ 1)) d))), (10, .int (nI 0)), (11, .int (nI (sm (fun d9 => dg σ d9 4) d))), (12, .int (nI 1)), (13, .int (nI d))]) hx hb dL_holds_102 hl (by decide) rfl (fun ls hl => ?_)
        refine lv_iload hx hb dL_holds_104 (lv_at hl 7 rfl) ?_
        refine lv_iload hx hb dL_holds_106 (lv_at hl 1 rfl) ?_
        refine lv_iadd hx hb dL_holds_108 ?_
        refine ti (nI_add (ct (msg σ) d) (if msg σ d then 1 else 0)) ?_
        refine lv_istore (lv' := [(5, .int (nI ((ct (msg σ) d) + (if msg σ d then 1 else 0)))), (15, .int (nI (dg σ d 3))), (14, .int (nI (if msg σ d then 1 else 0))), (0, .ref (x 0)), (1, .int (nI v)), (2, .int (nI (σ 0))), (3, .int (nI (σ 1))), (4, .int (nI (σ 2))), (6, .int (nI (sm (fun d9 => if msg σ d9 then dg σ d9 4 else 0) d))), (7, .int (nI 0)), (8, .int (nI 0)), (9, .int (nI (sm (fun d9 => ct (mng σ d9) (σ 1)) d))), (10, .int (nI 0)), (11, .int (nI (sm (fun d9 => dg σ d9 4) d))), (12, .int (nI 1)), (13, .int (nI d))]) hx hb dL_holds_109 hl (by decide) rfl (fun ls hl => ?_)
        refine lv_iload hx hb dL_holds_111 (lv_at hl 8 rfl) ?_
        refine lv_iload hx hb dL_holds_113 (lv_at hl 2 rfl) ?_
        refine lv_aload_n hx hb dL_holds_115 rfl (lv_at hl 3 rfl) ?_
        refine lv_iconst (v := (nI 3)) hx hb dL_holds_116 (by decide) ?_
        refine lv_iload hx hb dL_holds_117 (lv_at hl 15 rfl) ?_
        refine lv_iconst (v := (nI 4)) hx hb dL_holds_119 (by decide) ?_
        refine lv_iconst (v := (nI 0)) hx hb dL_holds_120 (by decide) ?_
        refine wr_callS (pre := []) (wc := fQ cy x a tr s0 s1 pa q σ n fl tx ln) (va_runS (As := [.ref (x 0), .int (nI 3), .int (nI d), .int (nI 4), .int (nI 0)]) (rest := [.int (nI (if msg σ d then 1 else 0)), .int (nI (sm (fun d9 => if msg σ d9 then dg σ d9 4 else 0) d))]) ⟨hx, hb, hml, hown, hts⟩ (c_L_call_3 l hfl g cy x a tr s0 s1 pa H.size bd q σ Hh n K fl tx ln (nI d) (nI 4) (nI 0) hI ) ⟨(cB 5 hts wd9_11 wd5_14 wd9_9 rfl rfl (by decide +kernel) ⟨Nat.le_of_ble_eq_true rfl, Nat.le_of_ble_eq_true rfl⟩), hts _ wd9_10⟩ (ps2 (ws := [] ++ fQ cy x a tr s0 s1 pa q σ n fl tx ln) hK hP hD hS hA hX hY _ nd_suffix at_suffix) rfl rfl hl.1 rfl (lv_room (Nat.le_of_ble_eq_true rfl)) dL_holds_121 ⟨by show _ ≤ 1500; omega, by show _ ≤ 9000; omega⟩) hP hD hS hA (fun _ => fQ_ad) (fun q H locs hI hP hD hS => ?_)
        have hP : va_P g vwCl (fQ cy x a tr s0 s1 pa q σ n fl tx ln) H := hP
        have hD : va_D A (fQ cy x a tr s0 s1 pa q σ n fl tx ln) := hD
        refine ti (show an (fDog σ (nI d) (nI 4)) (nI (ndg σ (nI d).toNatClampNeg (nI 4).toNatClampNeg)) = (nI (dg σ d 4)) from (v_dg (w := 4) hn0 (by omega) (by decide))) ?_
        show W _ _ _ _ _ _ _ _ _ _ _ _ _ _ _ (F0 mX 124 ls [.int (nI (dg σ d 4)), .int (nI (if msg σ d then 1 else 0)), .int (nI (sm (fun d9 => if msg σ d9 then dg σ d9 4 else 0) d))])
        refine lv_imul hx hb dL_holds_124 ?_
        refine ti (pk_mul (if msg σ d then 1 else 0) (dg σ d 4)) ?_
        refine lv_iadd hx hb dL_holds_125 ?_
        refine ti (nI_add (sm (fun d9 => if msg σ d9 then dg σ d9 4 else 0) d) ((if msg σ d then 1 else 0) * (dg σ d 4))) ?_
        refine lv_istore (lv' := [(6, .int (nI ((sm (fun d9 => if msg σ d9 then dg σ d9 4 else 0) d) + ((if msg σ d then 1 else 0) * (dg σ d 4))))), (5, .int (nI ((ct (msg σ) d) + (if msg σ d then 1 else 0)))), (15, .int (nI (dg σ d 3))), (14, .int (nI (if msg σ d then 1 else 0))), (0, .ref (x 0)), (1, .int (nI v)), (2, .int (nI (σ 0))), (3, .int (nI (σ 1))), (4, .int (nI (σ 2))), (7, .int (nI 0)), (8, .int (nI 0)), (9, .int (nI (sm (fun d9 => ct (mng σ d9) (σ 1)) d))), (10, .int (nI 0)), (11, .int (nI (sm (fun d9 => dg σ d9 4) d))), (12, .int (nI 1)), (13, .int (nI d))]) hx hb dL_holds_126 hl (by decide) rfl (fun ls hl => ?_)
        refine lv_iload hx hb dL_holds_128 (lv_at hl 13 rfl) ?_
        refine lv_aload_n hx hb dL_holds_130 rfl (lv_at hl 4 rfl) ?_
        refine lv_iconst (v := (nI 3)) hx hb dL_holds_131 (by decide) ?_
        refine lv_iload hx hb dL_holds_132 (lv_at hl 15 rfl) ?_
        refine lv_iconst (v := (nI 4)) hx hb dL_holds_134 (by decide) ?_
        refine lv_iconst (v := (nI 0)) hx hb dL_holds_135 (by decide) ?_
        refine wr_callS (pre := []) (wc := fQ cy x a tr s0 s1 pa q σ n fl tx ln) (va_runS (As := [.ref (x 0), .int (nI 3), .int (nI d), .int (nI 4), .int (nI 0)]) (rest := [.int (nI (sm (fun d9 => dg σ d9 4) d))]) ⟨hx, hb, hml, hown, hts⟩ (c_L_call_3 l hfl g cy x a tr s0 s1 pa H.size bd q σ Hh n K fl tx ln (nI d) (nI 4) (nI 0) hI ) ⟨(cB 5 hts wd9_11 wd5_14 wd9_9 rfl rfl (by decide +kernel) ⟨Nat.le_of_ble_eq_true rfl, Nat.le_of_ble_eq_true rfl⟩), hts _ wd9_10⟩ (ps2 (ws := [] ++ fQ cy x a tr s0 s1 pa q σ n fl tx ln) hK hP hD hS hA hX hY _ nd_suffix at_suffix) rfl rfl hl.1 rfl (lv_room (Nat.le_of_ble_eq_true rfl)) dL_holds_136 ⟨by show _ ≤ 1500; omega, by show _ ≤ 9000; omega⟩) hP hD hS hA (fun _ => fQ_ad) (fun q H locs hI hP hD hS => ?_)
        have hP : va_P g vwCl (fQ cy x a tr s0 s1 pa q σ n fl tx ln) H := hP
        have hD : va_D A (fQ cy x a tr s0 s1 pa q σ n fl tx ln) := hD
        refine ti (show an (fDog σ (nI d) (nI 4)) (nI (ndg σ (nI d).toNatClampNeg (nI 4).toNatClampNeg)) = (nI (dg σ d 4)) from (v_dg (w := 4) hn0 (by omega) (by decide))) ?_
        show W _ _ _ _ _ _ _ _ _ _ _ _ _ _ _ (F0 mX 139 ls [.int (nI (dg σ d 4)), .int (nI (sm (fun d9 => dg σ d9 4) d))])
        refine lv_iadd hx hb dL_holds_139 ?_
        refine ti (nI_add (sm (fun d9 => dg σ d9 4) d) (dg σ d 4)) ?_
        refine lv_istore (lv' := [(11, .int (nI ((sm (fun d9 => dg σ d9 4) d) + (dg σ d 4)))), (6, .int (nI ((sm (fun d9 => if msg σ d9 then dg σ d9 4 else 0) d) + ((if msg σ d then 1 else 0) * (dg σ d 4))))), (5, .int (nI ((ct (msg σ) d) + (if msg σ d then 1 else 0)))), (15, .int (nI (dg σ d 3))), (14, .int (nI (if msg σ d then 1 else 0))), (0, .ref (x 0)), (1, .int (nI v)), (2, .int (nI (σ 0))), (3, .int (nI (σ 1))), (4, .int (nI (σ 2))), (7, .int (nI 0)), (8, .int (nI 0)), (9, .int (nI (sm (fun d9 => ct (mng σ d9) (σ 1)) d))), (10, .int (nI 0)), (12, .int (nI 1)), (13, .int (nI d))]) hx hb dL_holds_140 hl (by decide) rfl (fun ls hl => ?_)
        refine lv_iload hx hb dL_holds_142 (lv_at hl 12 rfl) ?_
        refine lv_aload_n hx hb dL_holds_144 rfl (lv_at hl 5 rfl) ?_
        refine lv_iconst (v := (nI 3)) hx hb dL_holds_145 (by decide) ?_
        refine lv_iload hx hb dL_holds_146 (lv_at hl 15 rfl) ?_
        refine lv_bipush (v := (nI 6)) hx hb dL_holds_148 (by decide) ?_
        refine lv_iconst (v := (nI 0)) hx hb dL_holds_150 (by decide) ?_
        refine wr_callS (pre := []) (wc := fQ cy x a tr s0 s1 pa q σ n fl tx ln) (va_runS (As := [.ref (x 0), .int (nI 3), .int (nI d), .int (nI 6), .int (nI 0)]) (rest := [.int (nI (sm (fun d9 => ct (mng σ d9) (σ 1)) d))]) ⟨hx, hb, hml, hown, hts⟩ (c_L_call_3 l hfl g cy x a tr s0 s1 pa H.size bd q σ Hh n K fl tx ln (nI d) (nI 6) (nI 0) hI ) ⟨(cB 5 hts wd9_11 wd5_14 wd9_9 rfl rfl (by decide +kernel) ⟨Nat.le_of_ble_eq_true rfl, Nat.le_of_ble_eq_true rfl⟩), hts _ wd9_10⟩ (ps2 (ws := [] ++ fQ cy x a tr s0 s1 pa q σ n fl tx ln) hK hP hD hS hA hX hY _ nd_suffix at_suffix) rfl rfl hl.1 rfl (lv_room (Nat.le_of_ble_eq_true rfl)) dL_holds_151 ⟨by show _ ≤ 1500; omega, by show _ ≤ 9000; omega⟩) hP hD hS hA (fun _ => fQ_ad) (fun q H locs hI hP hD hS => ?_)
        have hP : va_P g vwCl (fQ cy x a tr s0 s1 pa q σ n fl tx ln) H := hP
        have hD : va_D A (fQ cy x a tr s0 s1 pa q σ n fl tx ln) := hD
        refine ti (show an (fDog σ (nI d) (nI 6)) (nI (ndg σ (nI d).toNatClampNeg (nI 6).toNatClampNeg)) = (nI (ct (mng σ d) (σ 1))) from (v_dg (w := 6) hn0 (by omega) (by decide))) ?_
        show W _ _ _ _ _ _ _ _ _ _ _ _ _ _ _ (F0 mX 154 ls [.int (nI (ct (mng σ d) (σ 1))), .int (nI (sm (fun d9 => ct (mng σ d9) (σ 1)) d))])
        refine lv_iadd hx hb dL_holds_154 ?_
        refine ti (nI_add (sm (fun d9 => ct (mng σ d9) (σ 1)) d) (ct (mng σ d) (σ 1))) ?_
        refine lv_istore (lv' := [(9, .int (nI ((sm (fun d9 => ct (mng σ d9) (σ 1)) d) + (ct (mng σ d) (σ 1))))), (11, .int (nI ((sm (fun d9 => dg σ d9 4) d) + (dg σ d 4)))), (6, .int (nI ((sm (fun d9 => if msg σ d9 then dg σ d9 4 else 0) d) + ((if msg σ d then 1 else 0) * (dg σ d 4))))), (5, .int (nI ((ct (msg σ) d) + (if msg σ d then 1 else 0)))), (15, .int (nI (dg σ d 3))), (14, .int (nI (if msg σ d then 1 else 0))), (0, .ref (x 0)), (1, .int (nI v)), (2, .int (nI (σ 0))), (3, .int (nI (σ 1))), (4, .int (nI (σ 2))), (7, .int (nI 0)), (8, .int (nI 0)), (10, .int (nI 0)), (12, .int (nI 1)), (13, .int (nI d))]) hx hb dL_holds_155 hl (by decide) rfl (fun ls hl => ?_)
        have hl : lv_has ls 21 [(9, .int (nI ((sm (fun d9 => ct (mng σ d9) (σ 1)) d) + (ct (mng σ d) (σ 1))))), (11, .int (nI ((sm (fun d9 => dg σ d9 4) d) + (dg σ d 4)))), (6, .int (nI ((sm (fun d9 => if msg σ d9 then dg σ d9 4 else 0) d) + ((if msg σ d then 1 else 0) * (dg σ d 4))))), (5, .int (nI (ct (msg σ) (d + 1)))), (15, .int (nI (dg σ d 3))), (14, .int (nI (if msg σ d then 1 else 0))), (0, .ref (x 0)), (1, .int (nI v)), (2, .int (nI (σ 0))), (3, .int (nI (σ 1))), (4, .int (nI (σ 2))), (7, .int (nI 0)), (8, .int (nI 0)), (10, .int (nI 0)), (12, .int (nI 1)), (13, .int (nI d))] := by rw [← show (nI ((ct (msg σ) d) + (if msg σ d then 1 else 0))) = (nI (ct (msg σ) (d + 1))) from rfl]; exact hl
        have hl : lv_has ls 21 [(9, .int (nI ((sm (fun d9 => ct (mng σ d9) (σ 1)) d) + (ct (mng σ d) (σ 1))))), (11, .int (nI ((sm (fun d9 => dg σ d9 4) d) + (dg σ d 4)))), (6, .int (nI (sm (fun d9 => if msg σ d9 then dg σ d9 4 else 0) (d + 1)))), (5, .int (nI (ct (msg σ) (d + 1)))), (15, .int (nI (dg σ d 3))), (14, .int (nI (if msg σ d then 1 else 0))), (0, .ref (x 0)), (1, .int (nI v)), (2, .int (nI (σ 0))), (3, .int (nI (σ 1))), (4, .int (nI (σ 2))), (7, .int (nI 0)), (8, .int (nI 0)), (10, .int (nI 0)), (12, .int (nI 1)), (13, .int (nI d))] := by rw [← show (nI ((sm (fun d9 => if msg σ d9 then dg σ d9 4 else 0) d) + ((if msg σ d then 1 else 0) * (dg σ d 4)))) = (nI (sm (fun d9 => if msg σ d9 then dg σ d9 4 else 0) (d + 1))) from (congrArg nI (by show _ = sm _ d + (if msg σ d then dg σ d 4 else 0); cases msg σ d <;> simp))]; exact hl
        have hl : lv_has ls 21 [(9, .int (nI (sm (fun d9 => ct (mng σ d9) (σ 1)) (d + 1)))), (11, .int (nI ((sm (fun d9 => dg σ d9 4) d) + (dg σ d 4)))), (6, .int (nI (sm (fun d9 => if msg σ d9 then dg σ d9 4 else 0) (d + 1)))), (5, .int (nI (ct (msg σ) (d + 1)))), (15, .int (nI (dg σ d 3))), (14, .int (nI (if msg σ d then 1 else 0))), (0, .ref (x 0)), (1, .int (nI v)), (2, .int (nI (σ 0))), (3, .int (nI (σ 1))), (4, .int (nI (σ 2))), (7, .int (nI 0)), (8, .int (nI 0)), (10, .int (nI 0)), (12, .int (nI 1)), (13, .int (nI d))] := by rw [← show (nI ((sm (fun d9 => ct (mng σ d9) (σ 1)) d) + (ct (mng σ d) (σ 1)))) = (nI (sm (fun d9 => ct (mng σ d9) (σ 1)) (d + 1))) from rfl]; exact hl
        have hl : lv_has ls 21 [(9, .int (nI (sm (fun d9 => ct (mng σ d9) (σ 1)) (d + 1)))), (11, .int (nI (sm (fun d9 => dg σ d9 4) (d + 1)))), (6, .int (nI (sm (fun d9 => if msg σ d9 then dg σ d9 4 else 0) (d + 1)))), (5, .int (nI (ct (msg σ) (d + 1)))), (15, .int (nI (dg σ d 3))), (14, .int (nI (if msg σ d then 1 else 0))), (0, .ref (x 0)), (1, .int (nI v)), (2, .int (nI (σ 0))), (3, .int (nI (σ 1))), (4, .int (nI (σ 2))), (7, .int (nI 0)), (8, .int (nI 0)), (10, .int (nI 0)), (12, .int (nI 1)), (13, .int (nI d))] := by rw [← show (nI ((sm (fun d9 => dg σ d9 4) d) + (dg σ d 4))) = (nI (sm (fun d9 => dg σ d9 4) (d + 1))) from rfl]; exact hl
        refine lv_iconst (v := (nI 0)) hx hb dL_holds_157 (by decide) ?_
        refine lv_istore (lv' := [(16, .int (nI 0)), (9, .int (nI (sm (fun d9 => ct (mng σ d9) (σ 1)) (d + 1)))), (11, .int (nI (sm (fun d9 => dg σ d9 4) (d + 1)))), (6, .int (nI (sm (fun d9 => if msg σ d9 then dg σ d9 4 else 0) (d + 1)))), (5, .int (nI (ct (msg σ) (d + 1)))), (15, .int (nI (dg σ d 3))), (14, .int (nI (if msg σ d then 1 else 0))), (0, .ref (x 0)), (1, .int (nI v)), (2, .int (nI (σ 0))), (3, .int (nI (σ 1))), (4, .int (nI (σ 2))), (7, .int (nI 0)), (8, .int (nI 0)), (10, .int (nI 0)), (12, .int (nI 1)), (13, .int (nI d))]) hx hb dL_holds_158 hl (by decide) rfl (fun ls hl => ?_)
        refine lv_iconst (v := (nI 0)) hx hb dL_holds_160 (by decide) ?_
        refine lv_istore (lv' := [(17, .int (nI 0)), (16, .int (nI 0)), (9, .int (nI (sm (fun d9 => ct (mng σ d9) (σ 1)) (d + 1)))), (11, .int (nI (sm (fun d9 => dg σ d9 4) (d + 1)))), (6, .int (nI (sm (fun d9 => if msg σ d9 then dg σ d9 4 else 0) (d + 1)))), (5, .int (nI (ct (msg σ) (d + 1)))), (15, .int (nI (dg σ d 3))), (14, .int (nI (if msg σ d then 1 else 0))), (0, .ref (x 0)), (1, .int (nI v)), (2, .int (nI (σ 0))), (3, .int (nI (σ 1))), (4, .int (nI (σ 2))), (7, .int (nI 0)), (8, .int (nI 0)), (10, .int (nI 0)), (12, .int (nI 1)), (13, .int (nI d))]) hx hb dL_holds_161 hl (by decide) rfl (fun ls hl => ?_)
        have hl : lv_has ls 21 [(17, .int (nI 0)), (16, .int (nI (ct (hon σ d) 0))), (9, .int (nI (sm (fun d9 => ct (mng σ d9) (σ 1)) (d + 1)))), (11, .int (nI (sm (fun d9 => dg σ d9 4) (d + 1)))), (6, .int (nI (sm (fun d9 => if msg σ d9 then dg σ d9 4 else 0) (d + 1)))), (5, .int (nI (ct (msg σ) (d + 1)))), (15, .int (nI (dg σ d 3))), (14, .int (nI (if msg σ d then 1 else 0))), (0, .ref (x 0)), (1, .int (nI v)), (2, .int (nI (σ 0))), (3, .int (nI (σ 1))), (4, .int (nI (σ 2))), (7, .int (nI 0)), (8, .int (nI 0)), (10, .int (nI 0)), (12, .int (nI 1)), (13, .int (nI d))] := by rw [← show (nI 0) = (nI (ct (hon σ d) 0)) from rfl]; exact hl
        refine W.widen (k := 3 + 100 * d + 5 + 2 * 0) (n := 6 * (3 + 100 * d + 5 + 2 * 0)) (by omega) (by omega) ?_
        refine lp_ac (fc := fun x9 => 3 + 100 * d + 5 + 2 * x9.1) (fs := fun x9 => 6 * (3 + 100 * d + 5 + 2 * x9.1)) (σ := (Nat) × Sc) (fun x9 H9 locs9 ls9 => va_P g vwCl (fQ cy x a tr s0 s1 pa x9.2 σ n fl tx ln) H9 ∧ va_D A (fQ cy x a tr s0 s1 pa x9.2 σ n fl tx ln) ∧ va_S A s.heap H9 locs9 ∧ fI bd x9.2 σ Hh n K fl tx ln ∧ lv_has ls9 21 [(0, .ref (x 0)), (1, .int (nI v)), (2, .int (nI (σ 0))), (3, .int (nI (σ 1))), (4, .int (nI (σ 2))), (5, .int (nI (ct (msg σ) (d + 1)))), (6, .int (nI (sm (fun d9 => if msg σ d9 then dg σ d9 4 else 0) (d + 1)))), (7, .int (nI 0)), (8, .int (nI 0)), (9, .int (nI (sm (fun d9 => ct (mng σ d9) (σ 1)) (d + 1)))), (10, .int (nI 0)), (11, .int (nI (sm (fun d9 => dg σ d9 4) (d + 1)))), (12, .int (nI 1)), (13, .int (nI d)), (14, .int (nI (if msg σ d then 1 else 0))), (15, .int (nI (dg σ d 3))), (16, .int (nI (ct (hon σ d) x9.1))), (17, .int (nI x9.1))] ∧ (x9.1 ≤ σ 1)) (fun x9 => σ 1 - x9.1) (0, q) ⟨hP, hD, hS, hI, lv_sub hl [8, 9, 10, 11, 12, 5, 4, 13, 14, 2, 15, 3, 16, 17, 7, 6, 1, 0] rfl, (Nat.zero_le _)⟩ ?_
        rintro ⟨s, q⟩ H locs ls ⟨hP, hD, hS, hI, hl, hs⟩ ih163
        dsimp only at hP hD hl hI hs ih163 ⊢
        refine lv_iload hx hb dL_holds_163 (lv_at hl 17 rfl) ?_
        refine lv_iload_n hx hb dL_holds_165 rfl (lv_at hl 3 rfl) ?_
        refine lv_icmp_ge (tgt := 212) hx hb dL_holds_166 (by decide) (fun c_166 => ?_) (fun c_166 => ?_)
        · have c_166 := (nc_le (by omega) (by omega) c_166)
          by_cases hm9 : msg σ d = true
          · skip
            have e9 : dg σ d 5 = NN := of_decide_eq_true (show decide (dg σ d 5 = NN) = true from hm9)
            rw [show (nI (if msg σ d then 1 else 0)) = (nI 1) from (congrArg nI (if_pos hm9))] at hl
            have hl : lv_has ls 21 [(0, .ref (x 0)), (1, .int (nI v)), (2, .int (nI (σ 0))), (3, .int (nI (σ 1))), (4, .int (nI (σ 2))), (5, .int (nI (ct (msg σ) (d + 1)))), (6, .int (nI (sm (fun d9 => if msg σ d9 then dg σ d9 4 else 0) (d + 1)))), (7, .int (nI 0)), (8, .int (nI 0)), (9, .int (nI (sm (fun d9 => ct (mng σ d9) (σ 1)) (d + 1)))), (10, .int (nI 0)), (11, .int (nI (sm (fun d9 => dg σ d9 4) (d + 1)))), (12, .int (nI 1)), (13, .int (nI d)), (14, .int (nI 1)), (15, .int (nI (dg σ d 3))), (16, .int (nI (ct (hon σ d) s))), (17, .int (nI s))] := hl
            have hsn : s = σ 1 := by omega
            subst hsn
            refine lv_iload hx hb dL_holds_212 (lv_at hl 15 rfl) ?_
            refine lv_if_lt (tgt := 312) hx hb dL_holds_214 (by decide) (fun c_214 => ?_) (fun c_214 => ?_)
            · exact absurd c_214 (nI_pos (by omega))
            · skip
              refine lv_iload hx hb dL_holds_217 (lv_at hl 15 rfl) ?_
              refine lv_iload hx hb dL_holds_219 (lv_at hl 4 rfl) ?_
              refine lv_icmp_gt (tgt := 312) hx hb dL_holds_221 (by decide) (fun c_221 => ?_) (fun c_221 => ?_)
              · have c_221 := (nc_lt (by omega) (by omega) c_221)
                omega
              · have c_221 := (nc_nlt (by omega) (by omega) c_221)
                refine lv_iload hx hb dL_holds_224 (lv_at hl 16 rfl) ?_
                refine lv_aload_n hx hb dL_holds_226 rfl (lv_at hl 0 rfl) ?_
                refine lv_iconst (v := (nI 3)) hx hb dL_holds_227 (by decide) ?_
                refine lv_iload hx hb dL_holds_228 (lv_at hl 13 rfl) ?_
                refine lv_bipush (v := (nI 7)) hx hb dL_holds_230 (by decide) ?_
                refine lv_iconst (v := (nI 0)) hx hb dL_holds_232 (by decide) ?_
                refine wr_callS (pre := []) (wc := fQ cy x a tr s0 s1 pa q σ n fl tx ln) (va_runS (As := [.ref (x 0), .int (nI 3), .int (nI d), .int (nI 7), .int (nI 0)]) (rest := [.int (nI (ct (hon σ d) (σ 1)))]) ⟨hx, hb, hml, hown, hts⟩ (c_L_call_3 l hfl g cy x a tr s0 s1 pa H.size bd q σ Hh n K fl tx ln (nI d) (nI 7) (nI 0) hI ) ⟨(cB 5 hts wd9_11 wd5_14 wd9_9 rfl rfl (by decide +kernel) ⟨Nat.le_of_ble_eq_true rfl, Nat.le_of_ble_eq_true rfl⟩), hts _ wd9_10⟩ (ps2 (ws := [] ++ fQ cy x a tr s0 s1 pa q σ n fl tx ln) hK hP hD hS hA hX hY _ nd_suffix at_suffix) rfl rfl hl.1 rfl (lv_room (Nat.le_of_ble_eq_true rfl)) dL_holds_233 ⟨by show _ ≤ 1500; omega, by show _ ≤ 9000; omega⟩) hP hD hS hA (fun _ => fQ_ad) (fun q H locs hI hP hD hS => ?_)
                have hP : va_P g vwCl (fQ cy x a tr s0 s1 pa q σ n fl tx ln) H := hP
                have hD : va_D A (fQ cy x a tr s0 s1 pa q σ n fl tx ln) := hD
                refine ti (show an (fDog σ (nI d) (nI 7)) (nI (ndg σ (nI d).toNatClampNeg (nI 7).toNatClampNeg)) = (nI (ct (hon σ d) (σ 1))) from (v_dg (w := 7) hn0 (by omega) (by decide))) ?_
                show W _ _ _ _ _ _ _ _ _ _ _ _ _ _ _ (F0 mX 236 ls [.int (nI (ct (hon σ d) (σ 1))), .int (nI (ct (hon σ d) (σ 1)))])
                refine lv_icmp_ne (tgt := 312) hx hb dL_holds_236 (by decide) (fun c_236 => absurd rfl c_236) (fun _ => ?_)
                refine lv_aload_n hx hb dL_holds_239 rfl (lv_at hl 0 rfl) ?_
                refine lv_iconst (v := (nI 3)) hx hb dL_holds_240 (by decide) ?_
                refine lv_iload hx hb dL_holds_241 (lv_at hl 13 rfl) ?_
                refine lv_bipush (v := (nI 8)) hx hb dL_holds_243 (by decide) ?_
                refine lv_iconst (v := (nI 0)) hx hb dL_holds_245 (by decide) ?_
                refine wr_callS (pre := []) (wc := fQ cy x a tr s0 s1 pa q σ n fl tx ln) (va_runS (As := [.ref (x 0), .int (nI 3), .int (nI d), .int (nI 8), .int (nI 0)]) (rest := []) ⟨hx, hb, hml, hown, hts⟩ (c_L_call_3 l hfl g cy x a tr s0 s1 pa H.size bd q σ Hh n K fl tx ln (nI d) (nI 8) (nI 0) hI ) ⟨(cB 5 hts wd9_11 wd5_14 wd9_9 rfl rfl (by decide +kernel) ⟨Nat.le_of_ble_eq_true rfl, Nat.le_of_ble_eq_true rfl⟩), hts _ wd9_10⟩ (ps2 (ws := [] ++ fQ cy x a tr s0 s1 pa q σ n fl tx ln) hK hP hD hS hA hX hY _ nd_suffix at_suffix) rfl rfl hl.1 rfl (lv_room (Nat.le_of_ble_eq_true rfl)) dL_holds_246 ⟨by show _ ≤ 1500; omega, by show _ ≤ 9000; omega⟩) hP hD hS hA (fun _ => fQ_ad) (fun q H locs hI hP hD hS => ?_)
                have hP : va_P g vwCl (fQ cy x a tr s0 s1 pa q σ n fl tx ln) H := hP
                have hD : va_D A (fQ cy x a tr s0 s1 pa q σ n fl tx ln) := hD
                refine ti (show an (fDog σ (nI d) (nI 8)) (nI (ndg σ (nI d).toNatClampNeg (nI 8).toNatClampNeg)) = (nI (dg σ d 5)) from (v_dg (w := 8) hn0 (by omega) (by decide))) ?_
                show W _ _ _ _ _ _ _ _ _ _ _ _ _ _ _ (F0 mX 249 ls [.int (nI (dg σ d 5))])
                refine lv_iconst (v := (nI NN)) hx hb dL_holds_249 (by decide) ?_
                refine lv_icmp_ne (tgt := 257) hx hb dL_holds_250 (by decide) (fun c_250 => ?_) (fun c_250 => ?_)
                · have c_250 := (nc_ne9 (by omega) (by decide) c_250)
                  exact absurd e9 c_250
                · have c_250 := (nc_eq9 (by omega) (by decide) c_250)
                  refine lv_iconst (v := (nI 1)) hx hb dL_holds_253 (by decide) ?_
                  refine lv_goto (tgt := 258) hx hb dL_holds_254 (by decide) ?_
                  refine lv_iload hx hb dL_holds_258 (lv_at hl 14 rfl) ?_
                  refine lv_iconst (v := (nI 1)) hx hb dL_holds_260 (by decide) ?_
                  refine lv_icmp_ne (tgt := 268) hx hb dL_holds_261 (by decide) (fun c_261 => absurd rfl c_261) (fun _ => ?_)
                  refine lv_iconst (v := (nI 1)) hx hb dL_holds_264 (by decide) ?_
                  refine lv_goto (tgt := 269) hx hb dL_holds_265 (by decide) ?_
                  refine lv_icmp_ne (tgt := 312) hx hb dL_holds_269 (by decide) (fun c_269 => absurd rfl c_269) (fun _ => ?_)
                  refine lv_iload hx hb dL_holds_272 (lv_at hl 14 rfl) ?_
                  refine lv_iconst (v := (nI 1)) hx hb dL_holds_274 (by decide) ?_
                  refine lv_icmp_eq (tgt := 308) hx hb dL_holds_275 (by decide) (fun c_275 => ?_) (fun c_275 => ?_)
                  · have c_275 := (nc_eq9 (by omega) (by omega) c_275)
                    refine lv_iconst (v := (nI 1)) hx hb dL_holds_308 (by decide) ?_
                    refine lv_goto (tgt := 313) hx hb dL_holds_309 (by decide) ?_
                    refine lv_istore (lv' := [(12, .int (nI 1)), (0, .ref (x 0)), (1, .int (nI v)), (2, .int (nI (σ 0))), (3, .int (nI (σ 1))), (4, .int (nI (σ 2))), (5, .int (nI (ct (msg σ) (d + 1)))), (6, .int (nI (sm (fun d9 => if msg σ d9 then dg σ d9 4 else 0) (d + 1)))), (7, .int (nI 0)), (8, .int (nI 0)), (9, .int (nI (sm (fun d9 => ct (mng σ d9) (σ 1)) (d + 1)))), (10, .int (nI 0)), (11, .int (nI (sm (fun d9 => dg σ d9 4) (d + 1)))), (13, .int (nI d)), (14, .int (nI 1)), (15, .int (nI (dg σ d 3))), (16, .int (nI (ct (hon σ d) (σ 1)))), (17, .int (nI (σ 1)))]) hx hb dL_holds_313 hl (by decide) rfl (fun ls hl => ?_)
                    refine lv_iload hx hb dL_holds_315 (lv_at hl 14 rfl) ?_
                    refine lv_iconst (v := (nI 1)) hx hb dL_holds_317 (by decide) ?_
                    refine lv_icmp_ne (tgt := 426) hx hb dL_holds_318 (by decide) (fun c_318 => absurd rfl c_318) (fun _ => ?_)
                    refine lv_iload hx hb dL_holds_321 (lv_at hl 0 rfl) ?_
                    refine lv_if_eq (tgt := 426) hx hb dL_holds_323 (by decide) (fun c9 => absurd c9 (by decide)) (fun _ => ?_)
                    refine lv_aload_n hx hb dL_holds_326 rfl (lv_at hl 1 rfl) ?_
                    refine lv_bipush (v := (nI 11)) hx hb dL_holds_327 (by decide) ?_
                    refine lv_iload hx hb dL_holds_329 (lv_at hl 13 rfl) ?_
                    refine lv_iconst (v := (nI 0)) hx hb dL_holds_331 (by decide) ?_
                    refine lv_iconst (v := (nI 0)) hx hb dL_holds_332 (by decide) ?_
                    refine wr_callS (pre := []) (wc := fQ cy x a tr s0 s1 pa q σ n fl tx ln) (va_runS (As := [.ref (x 0), .int (nI 11), .int (nI d), .int (nI 0), .int (nI 0)]) (rest := []) ⟨hx, hb, hml, hown, hts⟩ (c_L_call_11 l hfl g cy x a tr s0 s1 pa H.size bd q σ Hh n K fl tx ln (nI d) (nI 0) (nI 0) hI ) ⟨(cB 5 hts wd9_11 wd5_14 wd9_9 rfl rfl (by decide +kernel) ⟨Nat.le_of_ble_eq_true rfl, Nat.le_of_ble_eq_true rfl⟩), hts _ wd9_10⟩ (ps2 (ws := [] ++ fQ cy x a tr s0 s1 pa q σ n fl tx ln) hK hP hD hS hA hX hY _ nd_suffix at_suffix) rfl rfl hl.1 rfl (lv_room (Nat.le_of_ble_eq_true rfl)) dL_holds_333 ⟨by show _ ≤ 1500; omega, by show _ ≤ 9000; omega⟩) hP hD hS hA (fun _ => fQ_ad) (fun q H locs hI hP hD hS => ?_)
                    have hP : va_P g vwCl (fQ cy x a tr s0 s1 pa q σ n fl tx ln) H := hP
                    have hD : va_D A (fQ cy x a tr s0 s1 pa q σ n fl tx ln) := hD
                    refine ti (show an (fAsk σ (nI d)) (nI (mk (cbe σ (nI d).toNatClampNeg) 12)) = (nI (mk (cbe σ d) 12)) from (v_cb hn0 hd9 hm9)) ?_
                    show W _ _ _ _ _ _ _ _ _ _ _ _ _ _ _ (F0 mX 336 ls [.int (nI (mk (cbe σ d) 12))])
                    refine lv_istore (lv' := [(17, .int (nI (mk (cbe σ d) 12))), (12, .int (nI 1)), (0, .ref (x 0)), (1, .int (nI v)), (2, .int (nI (σ 0))), (3, .int (nI (σ 1))), (4, .int (nI (σ 2))), (5, .int (nI (ct (msg σ) (d + 1)))), (6, .int (nI (sm (fun d9 => if msg σ d9 then dg σ d9 4 else 0) (d + 1)))), (7, .int (nI 0)), (8, .int (nI 0)), (9, .int (nI (sm (fun d9 => ct (mng σ d9) (σ 1)) (d + 1)))), (10, .int (nI 0)), (11, .int (nI (sm (fun d9 => dg σ d9 4) (d + 1)))), (13, .int (nI d)), (14, .int (nI 1)), (15, .int (nI (dg σ d 3))), (16, .int (nI (ct (hon σ d) (σ 1))))]) hx hb dL_holds_336 hl (by decide) rfl (fun ls hl => ?_)
                    refine lv_aload_n hx hb dL_holds_338 rfl (lv_at hl 2 rfl) ?_
                    refine lv_iconst (v := (nI 3)) hx hb dL_holds_339 (by decide) ?_
                    refine lv_iload hx hb dL_holds_340 (lv_at hl 14 rfl) ?_
                    refine lv_iconst (v := (nI 1)) hx hb dL_holds_342 (by decide) ?_
                    refine lv_iconst (v := (nI 0)) hx hb dL_holds_343 (by decide) ?_
                    refine wr_callS (pre := []) (wc := fQ cy x a tr s0 s1 pa q σ n fl tx ln) (va_runS (As := [.ref (x 0), .int (nI 3), .int (nI d), .int (nI 1), .int (nI 0)]) (rest := []) ⟨hx, hb, hml, hown, hts⟩ (c_L_call_3 l hfl g cy x a tr s0 s1 pa H.size bd q σ Hh n K fl tx ln (nI d) (nI 1) (nI 0) hI ) ⟨(cB 5 hts wd9_11 wd5_14 wd9_9 rfl rfl (by decide +kernel) ⟨Nat.le_of_ble_eq_true rfl, Nat.le_of_ble_eq_true rfl⟩), hts _ wd9_10⟩ (ps2 (ws := [] ++ fQ cy x a tr s0 s1 pa q σ n fl tx ln) hK hP hD hS hA hX hY _ nd_suffix at_suffix) rfl rfl hl.1 rfl (lv_room (Nat.le_of_ble_eq_true rfl)) dL_holds_344 ⟨by show _ ≤ 1500; omega, by show _ ≤ 9000; omega⟩) hP hD hS hA (fun _ => fQ_ad) (fun q H locs hI hP hD hS => ?_)
                    have hP : va_P g vwCl (fQ cy x a tr s0 s1 pa q σ n fl tx ln) H := hP
                    have hD : va_D A (fQ cy x a tr s0 s1 pa q σ n fl tx ln) := hD
                    refine ti (show an (fDog σ (nI d) (nI 1)) (nI (ndg σ (nI d).toNatClampNeg (nI 1).toNatClampNeg)) = (nI (dg σ d 1)) from (v_dg (w := 1) hn0 (by omega) (by decide))) ?_
                    show W _ _ _ _ _ _ _ _ _ _ _ _ _ _ _ (F0 mX 347 ls [.int (nI (dg σ d 1))])
                    refine lv_iload hx hb dL_holds_347 (lv_at hl 6 rfl) ?_
                    refine lv_iload hx hb dL_holds_349 (lv_at hl 16 rfl) ?_
                    refine lv_isub hx hb dL_holds_351 ?_
                    refine ti (pk_sub (a := (σ 2)) (b := (dg σ d 3)) (by omega)) ?_
                    refine lv_imul hx hb dL_holds_352 ?_
                    refine ti (pk_mul (dg σ d 1) ((σ 2) - (dg σ d 3))) ?_
                    have rr9 : dg σ d 1 * (σ 2 - dg σ d 3) ≤ 3 * 100000 := Nat.mul_le_mul (by omega) (by omega)
                    refine lv_istore (lv' := [(18, .int (nI ((dg σ d 1) * ((σ 2) - (dg σ d 3))))), (17, .int (nI (mk (cbe σ d) 12))), (12, .int (nI 1)), (0, .ref (x 0)), (1, .int (nI v)), (2, .int (nI (σ 0))), (3, .int (nI (σ 1))), (4, .int (nI (σ 2))), (5, .int (nI (ct (msg σ) (d + 1)))), (6, .int (nI (sm (fun d9 => if msg σ d9 then dg σ d9 4 else 0) (d + 1)))), (7, .int (nI 0)), (8, .int (nI 0)), (9, .int (nI (sm (fun d9 => ct (mng σ d9) (σ 1)) (d + 1)))), (10, .int (nI 0)), (11, .int (nI (sm (fun d9 => dg σ d9 4) (d + 1)))), (13, .int (nI d)), (14, .int (nI 1)), (15, .int (nI (dg σ d 3))), (16, .int (nI (ct (hon σ d) (σ 1))))]) hx hb dL_holds_353 hl (by decide) rfl (fun ls hl => ?_)
                    refine lv_iconst (v := (nI 0)) hx hb dL_holds_355 (by decide) ?_
                    refine lv_istore (lv' := [(19, .int (nI 0)), (18, .int (nI ((dg σ d 1) * ((σ 2) - (dg σ d 3))))), (17, .int (nI (mk (cbe σ d) 12))), (12, .int (nI 1)), (0, .ref (x 0)), (1, .int (nI v)), (2, .int (nI (σ 0))), (3, .int (nI (σ 1))), (4, .int (nI (σ 2))), (5, .int (nI (ct (msg σ) (d + 1)))), (6, .int (nI (sm (fun d9 => if msg σ d9 then dg σ d9 4 else 0) (d + 1)))), (7, .int (nI 0)), (8, .int (nI 0)), (9, .int (nI (sm (fun d9 => ct (mng σ d9) (σ 1)) (d + 1)))), (10, .int (nI 0)), (11, .int (nI (sm (fun d9 => dg σ d9 4) (d + 1)))), (13, .int (nI d)), (14, .int (nI 1)), (15, .int (nI (dg σ d 3))), (16, .int (nI (ct (hon σ d) (σ 1))))]) hx hb dL_holds_356 hl (by decide) rfl (fun ls hl => ?_)
                    refine W.widen (k := 3 + 100 * d + 51 + 2 * 0) (n := 6 * (3 + 100 * d + 51 + 2 * 0)) (by omega) (by omega) ?_
                    refine lp_ac (fc := fun x9 => 3 + 100 * d + 51 + 2 * x9.1) (fs := fun x9 => 6 * (3 + 100 * d + 51 + 2 * x9.1)) (σ := (Nat) × Sc) (fun x9 H9 locs9 ls9 => va_P g vwCl (fQ cy x a tr s0 s1 pa x9.2 σ n fl tx ln) H9 ∧ va_D A (fQ cy x a tr s0 s1 pa x9.2 σ n fl tx ln) ∧ va_S A s.heap H9 locs9 ∧ fI bd x9.2 σ Hh n K fl tx ln ∧ lv_has ls9 21 [(0, .ref (x 0)), (1, .int (nI v)), (2, .int (nI (σ 0))), (3, .int (nI (σ 1))), (4, .int (nI (σ 2))), (5, .int (nI (ct (msg σ) (d + 1)))), (6, .int (nI (sm (fun d9 => if msg σ d9 then dg σ d9 4 else 0) (d + 1)))), (7, .int (nI 0)), (8, .int (nI 0)), (9, .int (nI (sm (fun d9 => ct (mng σ d9) (σ 1)) (d + 1)))), (10, .int (nI 0)), (11, .int (nI (sm (fun d9 => dg σ d9 4) (d + 1)))), (12, .int (nI 1)), (13, .int (nI d)), (14, .int (nI 1)), (15, .int (nI (dg σ d 3))), (17, .int (nI (mk (cbe σ d) 12))), (18, .int (nI (dg σ d 1 * (σ 2 - dg σ d 3)))), (19, .int (nI x9.1))] ∧ (x9.1 ≤ 12)) (fun x9 => 12 - x9.1) (0, q) ⟨hP, hD, hS, hI, lv_sub hl [4, 5, 6, 7, 8, 9, 10, 11, 12, 13, 14, 15, 3, 16, 17, 18, 2, 1, 0] rfl, (Nat.zero_le _)⟩ ?_
                    rintro ⟨c, q⟩ H locs ls ⟨hP, hD, hS, hI, hl, hc⟩ ih358
                    dsimp only at hP hD hl hI hc ih358 ⊢
                    refine lv_iload hx hb dL_holds_358 (lv_at hl 18 rfl) ?_
                    refine lv_bipush (v := (nI 12)) hx hb dL_holds_360 (by decide) ?_
                    refine lv_icmp_ge (tgt := 426) hx hb dL_holds_362 (by decide) (fun c_362 => ?_) (fun c_362 => ?_)
                    · have c_362 := (nc_le (by omega) (by omega) c_362)
                      refine lv_iinc (v := (nI (d + 1))) (lv' := [(13, .int (nI (d + 1))), (0, .ref (x 0)), (1, .int (nI v)), (2, .int (nI (σ 0))), (3, .int (nI (σ 1))), (4, .int (nI (σ 2))), (5, .int (nI (ct (msg σ) (d + 1)))), (6, .int (nI (sm (fun d9 => if msg σ d9 then dg σ d9 4 else 0) (d + 1)))), (7, .int (nI 0)), (8, .int (nI 0)), (9, .int (nI (sm (fun d9 => ct (mng σ d9) (σ 1)) (d + 1)))), (10, .int (nI 0)), (11, .int (nI (sm (fun d9 => dg σ d9 4) (d + 1)))), (12, .int (nI 1)), (14, .int (nI 1)), (15, .int (nI (dg σ d 3))), (17, .int (nI (mk (cbe σ d) 12))), (18, .int (nI (dg σ d 1 * (σ 2 - dg σ d 3)))), (19, .int (nI c))]) hx hb dL_holds_426 hl (k := 13) rfl (nI_add d 1) (by decide) rfl (fun ls hl => ?_)
                      refine lv_goto (tgt := 71) hx hb dL_holds_429 (by decide) ?_
                      refine W.widen (k := 3 + 100 * (d + 1)) (n := 6 * (3 + 100 * (d + 1))) (by omega) (by omega) ?_
                      exact ih71 (d + 1, q) H locs ls ⟨hP, hD, hS, hI, lv_sub hl [1, 2, 3, 4, 5, 6, 7, 8, 9, 10, 11, 12, 13, 0] rfl, (by omega)⟩ (by dsimp only; omega)
                    · have c_362 := (nc_nle (by omega) (by omega) c_362)
                      refine lv_iload hx hb dL_holds_365 (lv_at hl 12 rfl) ?_
                      refine lv_if_eq (tgt := 426) hx hb dL_holds_367 (by decide) (fun c9 => absurd c9 (by decide)) (fun _ => ?_)
                      refine lv_aload_n hx hb dL_holds_370 rfl (lv_at hl 0 rfl) ?_
                      refine lv_bipush (v := (nI 6)) hx hb dL_holds_371 (by decide) ?_
                      refine lv_aload_n hx hb dL_holds_373 rfl (lv_at hl 0 rfl) ?_
                      refine lv_iconst (v := (nI 3)) hx hb dL_holds_374 (by decide) ?_
                      refine lv_iload hx hb dL_holds_375 (lv_at hl 13 rfl) ?_
                      refine lv_iconst (v := (nI 2)) hx hb dL_holds_377 (by decide) ?_
                      refine lv_iconst (v := (nI 0)) hx hb dL_holds_378 (by decide) ?_
                      refine wr_callS (pre := []) (wc := fQ cy x a tr s0 s1 pa q σ n fl tx ln) (va_runS (As := [.ref (x 0), .int (nI 3), .int (nI d), .int (nI 2), .int (nI 0)]) (rest := [.int (nI 6), .ref (x 0)]) ⟨hx, hb, hml, hown, hts⟩ (c_L_call_3 l hfl g cy x a tr s0 s1 pa H.size bd q σ Hh n K fl tx ln (nI d) (nI 2) (nI 0) hI ) ⟨(cB 5 hts wd9_11 wd5_14 wd9_9 rfl rfl (by decide +kernel) ⟨Nat.le_of_ble_eq_true rfl, Nat.le_of_ble_eq_true rfl⟩), hts _ wd9_10⟩ (ps2 (ws := [] ++ fQ cy x a tr s0 s1 pa q σ n fl tx ln) hK hP hD hS hA hX hY _ nd_suffix at_suffix) rfl rfl hl.1 rfl (lv_room (Nat.le_of_ble_eq_true rfl)) dL_holds_379 ⟨by show _ ≤ 1500; omega, by show _ ≤ 9000; omega⟩) hP hD hS hA (fun _ => fQ_ad) (fun q H locs hI hP hD hS => ?_)
                      have hP : va_P g vwCl (fQ cy x a tr s0 s1 pa q σ n fl tx ln) H := hP
                      have hD : va_D A (fQ cy x a tr s0 s1 pa q σ n fl tx ln) := hD
                      refine ti (show an (fDog σ (nI d) (nI 2)) (nI (ndg σ (nI d).toNatClampNeg (nI 2).toNatClampNeg)) = (nI (dg σ d 2)) from (v_dg (w := 2) hn0 (by omega) (by decide))) ?_
                      show W _ _ _ _ _ _ _ _ _ _ _ _ _ _ _ (F0 mX 382 ls [.int (nI (dg σ d 2)), .int (nI 6), .ref (x 0)])
                      refine lv_iload hx hb dL_holds_382 (lv_at hl 18 rfl) ?_
                      refine lv_iconst (v := (nI 0)) hx hb dL_holds_384 (by decide) ?_
                      refine wr_callS (pre := []) (wc := fQ cy x a tr s0 s1 pa q σ n fl tx ln) (va_runS (As := [.ref (x 0), .int (nI 6), .int (nI (dg σ d 2)), .int (nI c), .int (nI 0)]) (rest := []) ⟨hx, hb, hml, hown, hts⟩ (c_L_call_6 l hfl g cy x a tr s0 s1 pa H.size bd q σ Hh n K fl tx ln (nI (dg σ d 2)) (nI c) (nI 0) hI ) ⟨(cB 5 hts wd9_11 wd5_14 wd9_9 rfl rfl (by decide +kernel) ⟨Nat.le_of_ble_eq_true rfl, Nat.le_of_ble_eq_true rfl⟩), hts _ wd9_10⟩ (ps2 (ws := [] ++ fQ cy x a tr s0 s1 pa q σ n fl tx ln) hK hP hD hS hA hX hY _ nd_suffix at_suffix) rfl rfl hl.1 rfl (lv_room (Nat.le_of_ble_eq_true rfl)) dL_holds_385 ⟨by show _ ≤ 1500; omega, by show _ ≤ 9000; omega⟩) hP hD hS hA (fun _ => fQ_ad) (fun q H locs hI hP hD hS => ?_)
                      have hP : va_P g vwCl (fQ cy x a tr s0 s1 pa q σ n fl tx ln) H := hP
                      have hD : va_D A (fQ cy x a tr s0 s1 pa q σ n fl tx ln) := hD
                      refine ti (show an (fApa (nI (dg σ d 2)) (nI c) (nI 0)) (wv σ (12 * (nI (dg σ d 2)).toNatClampNeg + (nI c).toNatClampNeg)) = (nI (wvN σ (dg σ d 2) c)) from ((v_ap (by omega) (by omega) (by decide)).trans wvN_e)) ?_
                      show W _ _ _ _ _ _ _ _ _ _ _ _ _ _ _ (F0 mX 388 ls [.int (nI (wvN σ (dg σ d 2) c))])
                      refine lv_istore (lv' := [(20, .int (nI (wvN σ (dg σ d 2) c))), (0, .ref (x 0)), (1, .int (nI v)), (2, .int (nI (σ 0))), (3, .int (nI (σ 1))), (4, .int (nI (σ 2))), (5, .int (nI (ct (msg σ) (d + 1)))), (6, .int (nI (sm (fun d9 => if msg σ d9 then dg σ d9 4 else 0) (d + 1)))), (7, .int (nI 0)), (8, .int (nI 0)), (9, .int (nI (sm (fun d9 => ct (mng σ d9) (σ 1)) (d + 1)))), (10, .int (nI 0)), (11, .int (nI (sm (fun d9 => dg σ d9 4) (d + 1)))), (12, .int (nI 1)), (13, .int (nI d)), (14, .int (nI 1)), (15, .int (nI (dg σ d 3))), (17, .int (nI (mk (cbe σ d) 12))), (18, .int (nI (dg σ d 1 * (σ 2 - dg σ d 3)))), (19, .int (nI c))]) hx hb dL_holds_388 hl (by decide) rfl (fun ls hl => ?_)
                      refine lv_iload hx hb dL_holds_390 (lv_at hl 17 rfl) ?_
                      refine lv_iload hx hb dL_holds_392 (lv_at hl 19 rfl) ?_
                      refine lv_ishr hx hb dL_holds_394 ?_
                      refine ti (nb_shr (m := (mk (cbe σ d) 12)) (k := c) (by omega) (by omega)) ?_
                      refine lv_iconst (v := (nI 1)) hx hb dL_holds_395 (by decide) ?_
                      refine lv_iand hx hb dL_holds_396 ?_
                      refine ti (nx_and ((mk (cbe σ d) 12) / 2 ^ c) 1) ?_
                      refine ti (show (nI (((mk (cbe σ d) 12) / 2 ^ c) &&& 1)) = (bI ((mk (cbe σ d) 12).testBit c)) from ((nx_and _ _).symm.trans nb_bit)) ?_
                      refine lv_if_eq (tgt := 413) hx hb dL_holds_397 (by decide) (fun c_397 => ?_) (fun c_397 => ?_)
                      · have c_397 := (bI_eq0.mp c_397)
                        refine lv_iconst (v := (nI 1)) hx hb dL_holds_413 (by decide) ?_
                        refine lv_goto (tgt := 418) hx hb dL_holds_414 (by decide) ?_
                        refine lv_istore (lv' := [(12, .int (nI 1)), (20, .int (nI (wvN σ (dg σ d 2) c))), (0, .ref (x 0)), (1, .int (nI v)), (2, .int (nI (σ 0))), (3, .int (nI (σ 1))), (4, .int (nI (σ 2))), (5, .int (nI (ct (msg σ) (d + 1)))), (6, .int (nI (sm (fun d9 => if msg σ d9 then dg σ d9 4 else 0) (d + 1)))), (7, .int (nI 0)), (8, .int (nI 0)), (9, .int (nI (sm (fun d9 => ct (mng σ d9) (σ 1)) (d + 1)))), (10, .int (nI 0)), (11, .int (nI (sm (fun d9 => dg σ d9 4) (d + 1)))), (13, .int (nI d)), (14, .int (nI 1)), (15, .int (nI (dg σ d 3))), (17, .int (nI (mk (cbe σ d) 12))), (18, .int (nI (dg σ d 1 * (σ 2 - dg σ d 3)))), (19, .int (nI c))]) hx hb dL_holds_418 hl (by decide) rfl (fun ls hl => ?_)
                        refine lv_iinc (v := (nI (c + 1))) (lv' := [(19, .int (nI (c + 1))), (12, .int (nI 1)), (20, .int (nI (wvN σ (dg σ d 2) c))), (0, .ref (x 0)), (1, .int (nI v)), (2, .int (nI (σ 0))), (3, .int (nI (σ 1))), (4, .int (nI (σ 2))), (5, .int (nI (ct (msg σ) (d + 1)))), (6, .int (nI (sm (fun d9 => if msg σ d9 then dg σ d9 4 else 0) (d + 1)))), (7, .int (nI 0)), (8, .int (nI 0)), (9, .int (nI (sm (fun d9 => ct (mng σ d9) (σ 1)) (d + 1)))), (10, .int (nI 0)), (11, .int (nI (sm (fun d9 => dg σ d9 4) (d + 1)))), (13, .int (nI d)), (14, .int (nI 1)), (15, .int (nI (dg σ d 3))), (17, .int (nI (mk (cbe σ d) 12))), (18, .int (nI (dg σ d 1 * (σ 2 - dg σ d 3))))]) hx hb dL_holds_420 hl (k := 19) rfl (nI_add c 1) (by decide) rfl (fun ls hl => ?_)
                        refine lv_goto (tgt := 358) hx hb dL_holds_423 (by decide) ?_
                        refine W.widen (k := 3 + 100 * d + 51 + 2 * (c + 1)) (n := 6 * (3 + 100 * d + 51 + 2 * (c + 1))) (by omega) (by omega) ?_
                        exact ih358 (c + 1, q) H locs ls ⟨hP, hD, hS, hI, lv_sub hl [3, 4, 5, 6, 7, 8, 9, 10, 11, 12, 13, 14, 1, 15, 16, 17, 18, 19, 0] rfl, (by omega)⟩ (by dsimp only; omega)
                      · have c_397 := (bI_ne0.mp c_397)
                        have w9 := rch_wv (cbe_rch c_397).2
                        refine lv_iload hx hb dL_holds_400 (lv_at hl 0 rfl) ?_
                        refine lv_iconst (v := (nI NN)) hx hb dL_holds_402 (by decide) ?_
                        refine lv_icmp_eq (tgt := 417) hx hb dL_holds_403 (by decide) (fun c_403 => ?_) (fun c_403 => ?_)
                        · have c_403 := (nc_eq9 (by omega) (by decide) c_403)
                          omega
                        · have c_403 := (nc_ne9 (by omega) (by decide) c_403)
                          refine lv_iload hx hb dL_holds_406 (lv_at hl 0 rfl) ?_
                          refine lv_iload hx hb dL_holds_408 (lv_at hl 18 rfl) ?_
                          refine lv_icmp_gt (tgt := 417) hx hb dL_holds_410 (by decide) (fun c_410 => ?_) (fun c_410 => ?_)
                          · have c_410 := (nc_lt (by omega) (by omega) c_410)
                            omega
                          · have c_410 := (nc_nlt (by omega) (by omega) c_410)
                            refine lv_iconst (v := (nI 1)) hx hb dL_holds_413 (by decide) ?_
                            refine lv_goto (tgt := 418) hx hb dL_holds_414 (by decide) ?_
                            refine lv_istore (lv' := [(12, .int (nI 1)), (20, .int (nI (wvN σ (dg σ d 2) c))), (0, .ref (x 0)), (1, .int (nI v)), (2, .int (nI (σ 0))), (3, .int (nI (σ 1))), (4, .int (nI (σ 2))), (5, .int (nI (ct (msg σ) (d + 1)))), (6, .int (nI (sm (fun d9 => if msg σ d9 then dg σ d9 4 else 0) (d + 1)))), (7, .int (nI 0)), (8, .int (nI 0)), (9, .int (nI (sm (fun d9 => ct (mng σ d9) (σ 1)) (d + 1)))), (10, .int (nI 0)), (11, .int (nI (sm (fun d9 => dg σ d9 4) (d + 1)))), (13, .int (nI d)), (14, .int (nI 1)), (15, .int (nI (dg σ d 3))), (17, .int (nI (mk (cbe σ d) 12))), (18, .int (nI (dg σ d 1 * (σ 2 - dg σ d 3)))), (19, .int (nI c))]) hx hb dL_holds_418 hl (by decide) rfl (fun ls hl => ?_)
                            refine lv_iinc (v := (nI (c + 1))) (lv' := [(19, .int (nI (c + 1))), (12, .int (nI 1)), (20, .int (nI (wvN σ (dg σ d 2) c))), (0, .ref (x 0)), (1, .int (nI v)), (2, .int (nI (σ 0))), (3, .int (nI (σ 1))), (4, .int (nI (σ 2))), (5, .int (nI (ct (msg σ) (d + 1)))), (6, .int (nI (sm (fun d9 => if msg σ d9 then dg σ d9 4 else 0) (d + 1)))), (7, .int (nI 0)), (8, .int (nI 0)), (9, .int (nI (sm (fun d9 => ct (mng σ d9) (σ 1)) (d + 1)))), (10, .int (nI 0)), (11, .int (nI (sm (fun d9 => dg σ d9 4) (d + 1)))), (13, .int (nI d)), (14, .int (nI 1)), (15, .int (nI (dg σ d 3))), (17, .int (nI (mk (cbe σ d) 12))), (18, .int (nI (dg σ d 1 * (σ 2 - dg σ d 3))))]) hx hb dL_holds_420 hl (k := 19) rfl (nI_add c 1) (by decide) rfl (fun ls hl => ?_)
                            refine lv_goto (tgt := 358) hx hb dL_holds_423 (by decide) ?_
                            refine W.widen (k := 3 + 100 * d + 51 + 2 * (c + 1)) (n := 6 * (3 + 100 * d + 51 + 2 * (c + 1))) (by omega) (by omega) ?_
                            exact ih358 (c + 1, q) H locs ls ⟨hP, hD, hS, hI, lv_sub hl [3, 4, 5, 6, 7, 8, 9, 10, 11, 12, 13, 14, 1, 15, 16, 17, 18, 19, 0] rfl, (by omega)⟩ (by dsimp only; omega)
                  · have c_275 := (nc_ne9 (by omega) (by omega) c_275)
                    omega
          · skip
            have e9 : dg σ d 5 ≠ NN := fun e => hm9 (decide_eq_true e)
            have p9 := hPI.1 d hd9 (by simpa using hm9)
            rw [show (nI (if msg σ d then 1 else 0)) = (nI 0) from (congrArg nI (if_neg hm9))] at hl
            have hl : lv_has ls 21 [(0, .ref (x 0)), (1, .int (nI v)), (2, .int (nI (σ 0))), (3, .int (nI (σ 1))), (4, .int (nI (σ 2))), (5, .int (nI (ct (msg σ) (d + 1)))), (6, .int (nI (sm (fun d9 => if msg σ d9 then dg σ d9 4 else 0) (d + 1)))), (7, .int (nI 0)), (8, .int (nI 0)), (9, .int (nI (sm (fun d9 => ct (mng σ d9) (σ 1)) (d + 1)))), (10, .int (nI 0)), (11, .int (nI (sm (fun d9 => dg σ d9 4) (d + 1)))), (12, .int (nI 1)), (13, .int (nI d)), (14, .int (nI 0)), (15, .int (nI (dg σ d 3))), (16, .int (nI (ct (hon σ d) s))), (17, .int (nI s))] := hl
            have hsn : s = σ 1 := by omega
            subst hsn
            refine lv_iload hx hb dL_holds_212 (lv_at hl 15 rfl) ?_
            refine lv_if_lt (tgt := 312) hx hb dL_holds_214 (by decide) (fun c_214 => ?_) (fun c_214 => ?_)
            · exact absurd c_214 (nI_pos (by omega))
            · skip
              refine lv_iload hx hb dL_holds_217 (lv_at hl 15 rfl) ?_
              refine lv_iload hx hb dL_holds_219 (lv_at hl 4 rfl) ?_
              refine lv_icmp_gt (tgt := 312) hx hb dL_holds_221 (by decide) (fun c_221 => ?_) (fun c_221 => ?_)
              · have c_221 := (nc_lt (by omega) (by omega) c_221)
                omega
              · have c_221 := (nc_nlt (by omega) (by omega) c_221)
                refine lv_iload hx hb dL_holds_224 (lv_at hl 16 rfl) ?_
                refine lv_aload_n hx hb dL_holds_226 rfl (lv_at hl 0 rfl) ?_
                refine lv_iconst (v := (nI 3)) hx hb dL_holds_227 (by decide) ?_
                refine lv_iload hx hb dL_holds_228 (lv_at hl 13 rfl) ?_
                refine lv_bipush (v := (nI 7)) hx hb dL_holds_230 (by decide) ?_
                refine lv_iconst (v := (nI 0)) hx hb dL_holds_232 (by decide) ?_
                refine wr_callS (pre := []) (wc := fQ cy x a tr s0 s1 pa q σ n fl tx ln) (va_runS (As := [.ref (x 0), .int (nI 3), .int (nI d), .int (nI 7), .int (nI 0)]) (rest := [.int (nI (ct (hon σ d) (σ 1)))]) ⟨hx, hb, hml, hown, hts⟩ (c_L_call_3 l hfl g cy x a tr s0 s1 pa H.size bd q σ Hh n K fl tx ln (nI d) (nI 7) (nI 0) hI ) ⟨(cB 5 hts wd9_11 wd5_14 wd9_9 rfl rfl (by decide +kernel) ⟨Nat.le_of_ble_eq_true rfl, Nat.le_of_ble_eq_true rfl⟩), hts _ wd9_10⟩ (ps2 (ws := [] ++ fQ cy x a tr s0 s1 pa q σ n fl tx ln) hK hP hD hS hA hX hY _ nd_suffix at_suffix) rfl rfl hl.1 rfl (lv_room (Nat.le_of_ble_eq_true rfl)) dL_holds_233 ⟨by show _ ≤ 1500; omega, by show _ ≤ 9000; omega⟩) hP hD hS hA (fun _ => fQ_ad) (fun q H locs hI hP hD hS => ?_)
                have hP : va_P g vwCl (fQ cy x a tr s0 s1 pa q σ n fl tx ln) H := hP
                have hD : va_D A (fQ cy x a tr s0 s1 pa q σ n fl tx ln) := hD
                refine ti (show an (fDog σ (nI d) (nI 7)) (nI (ndg σ (nI d).toNatClampNeg (nI 7).toNatClampNeg)) = (nI (ct (hon σ d) (σ 1))) from (v_dg (w := 7) hn0 (by omega) (by decide))) ?_
                show W _ _ _ _ _ _ _ _ _ _ _ _ _ _ _ (F0 mX 236 ls [.int (nI (ct (hon σ d) (σ 1))), .int (nI (ct (hon σ d) (σ 1)))])
                refine lv_icmp_ne (tgt := 312) hx hb dL_holds_236 (by decide) (fun c_236 => absurd rfl c_236) (fun _ => ?_)
                refine lv_aload_n hx hb dL_holds_239 rfl (lv_at hl 0 rfl) ?_
                refine lv_iconst (v := (nI 3)) hx hb dL_holds_240 (by decide) ?_
                refine lv_iload hx hb dL_holds_241 (lv_at hl 13 rfl) ?_
                refine lv_bipush (v := (nI 8)) hx hb dL_holds_243 (by decide) ?_
                refine lv_iconst (v := (nI 0)) hx hb dL_holds_245 (by decide) ?_
                refine wr_callS (pre := []) (wc := fQ cy x a tr s0 s1 pa q σ n fl tx ln) (va_runS (As := [.ref (x 0), .int (nI 3), .int (nI d), .int (nI 8), .int (nI 0)]) (rest := []) ⟨hx, hb, hml, hown, hts⟩ (c_L_call_3 l hfl g cy x a tr s0 s1 pa H.size bd q σ Hh n K fl tx ln (nI d) (nI 8) (nI 0) hI ) ⟨(cB 5 hts wd9_11 wd5_14 wd9_9 rfl rfl (by decide +kernel) ⟨Nat.le_of_ble_eq_true rfl, Nat.le_of_ble_eq_true rfl⟩), hts _ wd9_10⟩ (ps2 (ws := [] ++ fQ cy x a tr s0 s1 pa q σ n fl tx ln) hK hP hD hS hA hX hY _ nd_suffix at_suffix) rfl rfl hl.1 rfl (lv_room (Nat.le_of_ble_eq_true rfl)) dL_holds_246 ⟨by show _ ≤ 1500; omega, by show _ ≤ 9000; omega⟩) hP hD hS hA (fun _ => fQ_ad) (fun q H locs hI hP hD hS => ?_)
                have hP : va_P g vwCl (fQ cy x a tr s0 s1 pa q σ n fl tx ln) H := hP
                have hD : va_D A (fQ cy x a tr s0 s1 pa q σ n fl tx ln) := hD
                refine ti (show an (fDog σ (nI d) (nI 8)) (nI (ndg σ (nI d).toNatClampNeg (nI 8).toNatClampNeg)) = (nI (dg σ d 5)) from (v_dg (w := 8) hn0 (by omega) (by decide))) ?_
                show W _ _ _ _ _ _ _ _ _ _ _ _ _ _ _ (F0 mX 249 ls [.int (nI (dg σ d 5))])
                refine lv_iconst (v := (nI NN)) hx hb dL_holds_249 (by decide) ?_
                refine lv_icmp_ne (tgt := 257) hx hb dL_holds_250 (by decide) (fun c_250 => ?_) (fun c_250 => ?_)
                · have c_250 := (nc_ne9 (by omega) (by decide) c_250)
                  refine lv_iconst (v := (nI 0)) hx hb dL_holds_257 (by decide) ?_
                  refine lv_iload hx hb dL_holds_258 (lv_at hl 14 rfl) ?_
                  refine lv_iconst (v := (nI 1)) hx hb dL_holds_260 (by decide) ?_
                  refine lv_icmp_ne (tgt := 268) hx hb dL_holds_261 (by decide) (fun c_261 => ?_) (fun c_261 => ?_)
                  · have c_261 := (nc_ne9 (by omega) (by omega) c_261)
                    refine lv_iconst (v := (nI 0)) hx hb dL_holds_268 (by decide) ?_
                    refine lv_icmp_ne (tgt := 312) hx hb dL_holds_269 (by decide) (fun c_269 => absurd rfl c_269) (fun _ => ?_)
                    refine lv_iload hx hb dL_holds_272 (lv_at hl 14 rfl) ?_
                    refine lv_iconst (v := (nI 1)) hx hb dL_holds_274 (by decide) ?_
                    refine lv_icmp_eq (tgt := 308) hx hb dL_holds_275 (by decide) (fun c_275 => ?_) (fun c_275 => ?_)
                    · have c_275 := (nc_eq9 (by omega) (by omega) c_275)
                      omega
                    · have c_275 := (nc_ne9 (by omega) (by omega) c_275)
                      refine lv_aload_n hx hb dL_holds_278 rfl (lv_at hl 0 rfl) ?_
                      refine lv_iconst (v := (nI 3)) hx hb dL_holds_279 (by decide) ?_
                      refine lv_iload hx hb dL_holds_280 (lv_at hl 13 rfl) ?_
                      refine lv_bipush (v := (nI 10)) hx hb dL_holds_282 (by decide) ?_
                      refine lv_iconst (v := (nI 0)) hx hb dL_holds_284 (by decide) ?_
                      refine wr_callS (pre := []) (wc := fQ cy x a tr s0 s1 pa q σ n fl tx ln) (va_runS (As := [.ref (x 0), .int (nI 3), .int (nI d), .int (nI 10), .int (nI 0)]) (rest := []) ⟨hx, hb, hml, hown, hts⟩ (c_L_call_3 l hfl g cy x a tr s0 s1 pa H.size bd q σ Hh n K fl tx ln (nI d) (nI 10) (nI 0) hI ) ⟨(cB 5 hts wd9_11 wd5_14 wd9_9 rfl rfl (by decide +kernel) ⟨Nat.le_of_ble_eq_true rfl, Nat.le_of_ble_eq_true rfl⟩), hts _ wd9_10⟩ (ps2 (ws := [] ++ fQ cy x a tr s0 s1 pa q σ n fl tx ln) hK hP hD hS hA hX hY _ nd_suffix at_suffix) rfl rfl hl.1 rfl (lv_room (Nat.le_of_ble_eq_true rfl)) dL_holds_285 ⟨by show _ ≤ 1500; omega, by show _ ≤ 9000; omega⟩) hP hD hS hA (fun _ => fQ_ad) (fun q H locs hI hP hD hS => ?_)
                      have hP : va_P g vwCl (fQ cy x a tr s0 s1 pa q σ n fl tx ln) H := hP
                      have hD : va_D A (fQ cy x a tr s0 s1 pa q σ n fl tx ln) := hD
                      refine ti (show an (fDog σ (nI d) (nI 10)) (nI (ndg σ (nI d).toNatClampNeg (nI 10).toNatClampNeg)) = (nI (dg σ d 7)) from (v_dg (w := 10) hn0 (by omega) (by decide))) ?_
                      show W _ _ _ _ _ _ _ _ _ _ _ _ _ _ _ (F0 mX 288 ls [.int (nI (dg σ d 7))])
                      refine lv_iload hx hb dL_holds_288 (lv_at hl 15 rfl) ?_
                      refine lv_icmp_lt (tgt := 312) hx hb dL_holds_290 (by decide) (fun c_290 => ?_) (fun c_290 => ?_)
                      · have c_290 := (nc_lt (by omega) (by omega) c_290)
                        omega
                      · have c_290 := (nc_nlt (by omega) (by omega) c_290)
                        refine lv_aload_n hx hb dL_holds_293 rfl (lv_at hl 0 rfl) ?_
                        refine lv_iconst (v := (nI 3)) hx hb dL_holds_294 (by decide) ?_
                        refine lv_iload hx hb dL_holds_295 (lv_at hl 13 rfl) ?_
                        refine lv_bipush (v := (nI 10)) hx hb dL_holds_297 (by decide) ?_
                        refine lv_iconst (v := (nI 0)) hx hb dL_holds_299 (by decide) ?_
                        refine wr_callS (pre := []) (wc := fQ cy x a tr s0 s1 pa q σ n fl tx ln) (va_runS (As := [.ref (x 0), .int (nI 3), .int (nI d), .int (nI 10), .int (nI 0)]) (rest := []) ⟨hx, hb, hml, hown, hts⟩ (c_L_call_3 l hfl g cy x a tr s0 s1 pa H.size bd q σ Hh n K fl tx ln (nI d) (nI 10) (nI 0) hI ) ⟨(cB 5 hts wd9_11 wd5_14 wd9_9 rfl rfl (by decide +kernel) ⟨Nat.le_of_ble_eq_true rfl, Nat.le_of_ble_eq_true rfl⟩), hts _ wd9_10⟩ (ps2 (ws := [] ++ fQ cy x a tr s0 s1 pa q σ n fl tx ln) hK hP hD hS hA hX hY _ nd_suffix at_suffix) rfl rfl hl.1 rfl (lv_room (Nat.le_of_ble_eq_true rfl)) dL_holds_300 ⟨by show _ ≤ 1500; omega, by show _ ≤ 9000; omega⟩) hP hD hS hA (fun _ => fQ_ad) (fun q H locs hI hP hD hS => ?_)
                        have hP : va_P g vwCl (fQ cy x a tr s0 s1 pa q σ n fl tx ln) H := hP
                        have hD : va_D A (fQ cy x a tr s0 s1 pa q σ n fl tx ln) := hD
                        refine ti (show an (fDog σ (nI d) (nI 10)) (nI (ndg σ (nI d).toNatClampNeg (nI 10).toNatClampNeg)) = (nI (dg σ d 7)) from (v_dg (w := 10) hn0 (by omega) (by decide))) ?_
                        show W _ _ _ _ _ _ _ _ _ _ _ _ _ _ _ (F0 mX 303 ls [.int (nI (dg σ d 7))])
                        refine lv_iload hx hb dL_holds_303 (lv_at hl 4 rfl) ?_
                        refine lv_icmp_gt (tgt := 312) hx hb dL_holds_305 (by decide) (fun c_305 => ?_) (fun c_305 => ?_)
                        · have c_305 := (nc_lt (by omega) (by omega) c_305)
                          omega
                        · have c_305 := (nc_nlt (by omega) (by omega) c_305)
                          refine lv_iconst (v := (nI 1)) hx hb dL_holds_308 (by decide) ?_
                          refine lv_goto (tgt := 313) hx hb dL_holds_309 (by decide) ?_
                          refine lv_istore (lv' := [(12, .int (nI 1)), (0, .ref (x 0)), (1, .int (nI v)), (2, .int (nI (σ 0))), (3, .int (nI (σ 1))), (4, .int (nI (σ 2))), (5, .int (nI (ct (msg σ) (d + 1)))), (6, .int (nI (sm (fun d9 => if msg σ d9 then dg σ d9 4 else 0) (d + 1)))), (7, .int (nI 0)), (8, .int (nI 0)), (9, .int (nI (sm (fun d9 => ct (mng σ d9) (σ 1)) (d + 1)))), (10, .int (nI 0)), (11, .int (nI (sm (fun d9 => dg σ d9 4) (d + 1)))), (13, .int (nI d)), (14, .int (nI 0)), (15, .int (nI (dg σ d 3))), (16, .int (nI (ct (hon σ d) (σ 1)))), (17, .int (nI (σ 1)))]) hx hb dL_holds_313 hl (by decide) rfl (fun ls hl => ?_)
                          refine lv_iload hx hb dL_holds_315 (lv_at hl 14 rfl) ?_
                          refine lv_iconst (v := (nI 1)) hx hb dL_holds_317 (by decide) ?_
                          refine lv_icmp_ne (tgt := 426) hx hb dL_holds_318 (by decide) (fun c_318 => ?_) (fun c_318 => ?_)
                          · have c_318 := (nc_ne9 (by omega) (by omega) c_318)
                            refine lv_iinc (v := (nI (d + 1))) (lv' := [(13, .int (nI (d + 1))), (12, .int (nI 1)), (0, .ref (x 0)), (1, .int (nI v)), (2, .int (nI (σ 0))), (3, .int (nI (σ 1))), (4, .int (nI (σ 2))), (5, .int (nI (ct (msg σ) (d + 1)))), (6, .int (nI (sm (fun d9 => if msg σ d9 then dg σ d9 4 else 0) (d + 1)))), (7, .int (nI 0)), (8, .int (nI 0)), (9, .int (nI (sm (fun d9 => ct (mng σ d9) (σ 1)) (d + 1)))), (10, .int (nI 0)), (11, .int (nI (sm (fun d9 => dg σ d9 4) (d + 1)))), (14, .int (nI 0)), (15, .int (nI (dg σ d 3))), (16, .int (nI (ct (hon σ d) (σ 1)))), (17, .int (nI (σ 1)))]) hx hb dL_holds_426 hl (k := 13) rfl (nI_add d 1) (by decide) rfl (fun ls hl => ?_)
                            refine lv_goto (tgt := 71) hx hb dL_holds_429 (by decide) ?_
                            refine W.widen (k := 3 + 100 * (d + 1)) (n := 6 * (3 + 100 * (d + 1))) (by omega) (by omega) ?_
                            exact ih71 (d + 1, q) H locs ls ⟨hP, hD, hS, hI, lv_sub hl [2, 3, 4, 5, 6, 7, 8, 9, 10, 11, 12, 13, 1, 0] rfl, (by omega)⟩ (by dsimp only; omega)
                          · have c_318 := (nc_eq9 (by omega) (by omega) c_318)
                            omega
                  · have c_261 := (nc_eq9 (by omega) (by omega) c_261)
                    omega
                · have c_250 := (nc_eq9 (by omega) (by decide) c_250)
                  exact absurd c_250 e9
        · have c_166 := (nc_nle (by omega) (by omega) c_166)
          have sb9 := hW.sb (show s < σ 1 by omega)
          refine lv_iload hx hb dL_holds_169 (lv_at hl 16 rfl) ?_
          refine lv_aload_n hx hb dL_holds_171 rfl (lv_at hl 0 rfl) ?_
          refine lv_iconst (v := (nI 4)) hx hb dL_holds_172 (by decide) ?_
          refine lv_iload hx hb dL_holds_173 (lv_at hl 17 rfl) ?_
          refine lv_iconst (v := (nI 5)) hx hb dL_holds_175 (by decide) ?_
          refine lv_iconst (v := (nI 0)) hx hb dL_holds_176 (by decide) ?_
          refine wr_callS (pre := []) (wc := fQ cy x a tr s0 s1 pa q σ n fl tx ln) (va_runS (As := [.ref (x 0), .int (nI 4), .int (nI s), .int (nI 5), .int (nI 0)]) (rest := [.int (nI (ct (hon σ d) s))]) ⟨hx, hb, hml, hown, hts⟩ (c_L_call_4 l hfl g cy x a tr s0 s1 pa H.size bd q σ Hh n K fl tx ln (nI s) (nI 5) (nI 0) hI ) ⟨(cB 5 hts wd9_11 wd5_14 wd9_9 rfl rfl (by decide +kernel) ⟨Nat.le_of_ble_eq_true rfl, Nat.le_of_ble_eq_true rfl⟩), hts _ wd9_10⟩ (ps2 (ws := [] ++ fQ cy x a tr s0 s1 pa q σ n fl tx ln) hK hP hD hS hA hX hY _ nd_suffix at_suffix) rfl rfl hl.1 rfl (lv_room (Nat.le_of_ble_eq_true rfl)) dL_holds_177 ⟨by show _ ≤ 1500; omega, by show _ ≤ 9000; omega⟩) hP hD hS hA (fun _ => fQ_ad) (fun q H locs hI hP hD hS => ?_)
          have hP : va_P g vwCl (fQ cy x a tr s0 s1 pa q σ n fl tx ln) H := hP
          have hD : va_D A (fQ cy x a tr s0 s1 pa q σ n fl tx ln) := hD
          refine ti (show an (fSig σ (nI s) (nI 5)) (nI (nsg σ (nI s).toNatClampNeg (nI 5).toNatClampNeg)) = (nI (sg σ s 5)) from (v_sg (w := 5) hn1 (by omega) (by decide))) ?_
          show W _ _ _ _ _ _ _ _ _ _ _ _ _ _ _ (F0 mX 180 ls [.int (nI (sg σ s 5)), .int (nI (ct (hon σ d) s))])
          refine lv_iload hx hb dL_holds_180 (lv_at hl 13 rfl) ?_
          refine lv_icmp_ne (tgt := 202) hx hb dL_holds_182 (by decide) (fun c_182 => ?_) (fun c_182 => ?_)
          · have c_182 := (nc_ne9 (by omega) (by omega) c_182)
            refine lv_iconst (v := (nI 0)) hx hb dL_holds_202 (by decide) ?_
            refine lv_iadd hx hb dL_holds_203 ?_
            refine ti (nI_add (ct (hon σ d) s) 0) ?_
            refine lv_istore (lv' := [(16, .int (nI ((ct (hon σ d) s) + 0))), (0, .ref (x 0)), (1, .int (nI v)), (2, .int (nI (σ 0))), (3, .int (nI (σ 1))), (4, .int (nI (σ 2))), (5, .int (nI (ct (msg σ) (d + 1)))), (6, .int (nI (sm (fun d9 => if msg σ d9 then dg σ d9 4 else 0) (d + 1)))), (7, .int (nI 0)), (8, .int (nI 0)), (9, .int (nI (sm (fun d9 => ct (mng σ d9) (σ 1)) (d + 1)))), (10, .int (nI 0)), (11, .int (nI (sm (fun d9 => dg σ d9 4) (d + 1)))), (12, .int (nI 1)), (13, .int (nI d)), (14, .int (nI (if msg σ d then 1 else 0))), (15, .int (nI (dg σ d 3))), (17, .int (nI s))]) hx hb dL_holds_204 hl (by decide) rfl (fun ls hl => ?_)
            have hl : lv_has ls 21 [(16, .int (nI (ct (hon σ d) (s + 1)))), (0, .ref (x 0)), (1, .int (nI v)), (2, .int (nI (σ 0))), (3, .int (nI (σ 1))), (4, .int (nI (σ 2))), (5, .int (nI (ct (msg σ) (d + 1)))), (6, .int (nI (sm (fun d9 => if msg σ d9 then dg σ d9 4 else 0) (d + 1)))), (7, .int (nI 0)), (8, .int (nI 0)), (9, .int (nI (sm (fun d9 => ct (mng σ d9) (σ 1)) (d + 1)))), (10, .int (nI 0)), (11, .int (nI (sm (fun d9 => dg σ d9 4) (d + 1)))), (12, .int (nI 1)), (13, .int (nI d)), (14, .int (nI (if msg σ d then 1 else 0))), (15, .int (nI (dg σ d 3))), (17, .int (nI s))] := by rw [← show (nI ((ct (hon σ d) s) + 0)) = (nI (ct (hon σ d) (s + 1))) from (congrArg nI (by show _ = ct (hon σ d) s + (if hon σ d s then 1 else 0); simp [hon, mng, c_182]))]; exact hl
            refine lv_iinc (v := (nI (s + 1))) (lv' := [(17, .int (nI (s + 1))), (16, .int (nI (ct (hon σ d) (s + 1)))), (0, .ref (x 0)), (1, .int (nI v)), (2, .int (nI (σ 0))), (3, .int (nI (σ 1))), (4, .int (nI (σ 2))), (5, .int (nI (ct (msg σ) (d + 1)))), (6, .int (nI (sm (fun d9 => if msg σ d9 then dg σ d9 4 else 0) (d + 1)))), (7, .int (nI 0)), (8, .int (nI 0)), (9, .int (nI (sm (fun d9 => ct (mng σ d9) (σ 1)) (d + 1)))), (10, .int (nI 0)), (11, .int (nI (sm (fun d9 => dg σ d9 4) (d + 1)))), (12, .int (nI 1)), (13, .int (nI d)), (14, .int (nI (if msg σ d then 1 else 0))), (15, .int (nI (dg σ d 3)))]) hx hb dL_holds_206 hl (k := 17) rfl (nI_add s 1) (by decide) rfl (fun ls hl => ?_)
            refine lv_goto (tgt := 163) hx hb dL_holds_209 (by decide) ?_
            refine W.widen (k := 3 + 100 * d + 5 + 2 * (s + 1)) (n := 6 * (3 + 100 * d + 5 + 2 * (s + 1))) (by omega) (by omega) ?_
            exact ih163 (s + 1, q) H locs ls ⟨hP, hD, hS, hI, lv_sub hl [2, 3, 4, 5, 6, 7, 8, 9, 10, 11, 12, 13, 14, 15, 16, 17, 1, 0] rfl, (by omega)⟩ (by dsimp only; omega)
          · have c_182 := (nc_eq9 (by omega) (by omega) c_182)
            refine lv_aload_n hx hb dL_holds_185 rfl (lv_at hl 0 rfl) ?_
            refine lv_iconst (v := (nI 4)) hx hb dL_holds_186 (by decide) ?_
            refine lv_iload hx hb dL_holds_187 (lv_at hl 17 rfl) ?_
            refine lv_bipush (v := (nI 8)) hx hb dL_holds_189 (by decide) ?_
            refine lv_iconst (v := (nI 0)) hx hb dL_holds_191 (by decide) ?_
            refine wr_callS (pre := []) (wc := fQ cy x a tr s0 s1 pa q σ n fl tx ln) (va_runS (As := [.ref (x 0), .int (nI 4), .int (nI s), .int (nI 8), .int (nI 0)]) (rest := [.int (nI (ct (hon σ d) s))]) ⟨hx, hb, hml, hown, hts⟩ (c_L_call_4 l hfl g cy x a tr s0 s1 pa H.size bd q σ Hh n K fl tx ln (nI s) (nI 8) (nI 0) hI ) ⟨(cB 5 hts wd9_11 wd5_14 wd9_9 rfl rfl (by decide +kernel) ⟨Nat.le_of_ble_eq_true rfl, Nat.le_of_ble_eq_true rfl⟩), hts _ wd9_10⟩ (ps2 (ws := [] ++ fQ cy x a tr s0 s1 pa q σ n fl tx ln) hK hP hD hS hA hX hY _ nd_suffix at_suffix) rfl rfl hl.1 rfl (lv_room (Nat.le_of_ble_eq_true rfl)) dL_holds_192 ⟨by show _ ≤ 1500; omega, by show _ ≤ 9000; omega⟩) hP hD hS hA (fun _ => fQ_ad) (fun q H locs hI hP hD hS => ?_)
            have hP : va_P g vwCl (fQ cy x a tr s0 s1 pa q σ n fl tx ln) H := hP
            have hD : va_D A (fQ cy x a tr s0 s1 pa q σ n fl tx ln) := hD
            refine ti (show an (fSig σ (nI s) (nI 8)) (nI (nsg σ (nI s).toNatClampNeg (nI 8).toNatClampNeg)) = (nI (if frd σ s then 1 else 0)) from (v_sg (w := 8) hn1 (by omega) (by decide))) ?_
            show W _ _ _ _ _ _ _ _ _ _ _ _ _ _ _ (F0 mX 195 ls [.int (nI (if frd σ s then 1 else 0)), .int (nI (ct (hon σ d) s))])
            refine ti (show (nI (if frd σ s then 1 else 0)) = (bI (frd σ s)) from (bI_n _).symm) ?_
            refine lv_if_ne (tgt := 202) hx hb dL_holds_195 (by decide) (fun c_195 => ?_) (fun c_195 => ?_)
            · have c_195 := (bI_ne0.mp c_195)
              refine lv_iconst (v := (nI 0)) hx hb dL_holds_202 (by decide) ?_
              refine lv_iadd hx hb dL_holds_203 ?_
              refine ti (nI_add (ct (hon σ d) s) 0) ?_
              refine lv_istore (lv' := [(16, .int (nI ((ct (hon σ d) s) + 0))), (0, .ref (x 0)), (1, .int (nI v)), (2, .int (nI (σ 0))), (3, .int (nI (σ 1))), (4, .int (nI (σ 2))), (5, .int (nI (ct (msg σ) (d + 1)))), (6, .int (nI (sm (fun d9 => if msg σ d9 then dg σ d9 4 else 0) (d + 1)))), (7, .int (nI 0)), (8, .int (nI 0)), (9, .int (nI (sm (fun d9 => ct (mng σ d9) (σ 1)) (d + 1)))), (10, .int (nI 0)), (11, .int (nI (sm (fun d9 => dg σ d9 4) (d + 1)))), (12, .int (nI 1)), (13, .int (nI d)), (14, .int (nI (if msg σ d then 1 else 0))), (15, .int (nI (dg σ d 3))), (17, .int (nI s))]) hx hb dL_holds_204 hl (by decide) rfl (fun ls hl => ?_)
              have hl : lv_has ls 21 [(16, .int (nI (ct (hon σ d) (s + 1)))), (0, .ref (x 0)), (1, .int (nI v)), (2, .int (nI (σ 0))), (3, .int (nI (σ 1))), (4, .int (nI (σ 2))), (5, .int (nI (ct (msg σ) (d + 1)))), (6, .int (nI (sm (fun d9 => if msg σ d9 then dg σ d9 4 else 0) (d + 1)))), (7, .int (nI 0)), (8, .int (nI 0)), (9, .int (nI (sm (fun d9 => ct (mng σ d9) (σ 1)) (d + 1)))), (10, .int (nI 0)), (11, .int (nI (sm (fun d9 => dg σ d9 4) (d + 1)))), (12, .int (nI 1)), (13, .int (nI d)), (14, .int (nI (if msg σ d then 1 else 0))), (15, .int (nI (dg σ d 3))), (17, .int (nI s))] := by rw [← show (nI ((ct (hon σ d) s) + 0)) = (nI (ct (hon σ d) (s + 1))) from (congrArg nI (by show _ = ct (hon σ d) s + (if hon σ d s then 1 else 0); simp [hon, mng, c_182, c_195]))]; exact hl
              refine lv_iinc (v := (nI (s + 1))) (lv' := [(17, .int (nI (s + 1))), (16, .int (nI (ct (hon σ d) (s + 1)))), (0, .ref (x 0)), (1, .int (nI v)), (2, .int (nI (σ 0))), (3, .int (nI (σ 1))), (4, .int (nI (σ 2))), (5, .int (nI (ct (msg σ) (d + 1)))), (6, .int (nI (sm (fun d9 => if msg σ d9 then dg σ d9 4 else 0) (d + 1)))), (7, .int (nI 0)), (8, .int (nI 0)), (9, .int (nI (sm (fun d9 => ct (mng σ d9) (σ 1)) (d + 1)))), (10, .int (nI 0)), (11, .int (nI (sm (fun d9 => dg σ d9 4) (d + 1)))), (12, .int (nI 1)), (13, .int (nI d)), (14, .int (nI (if msg σ d then 1 else 0))), (15, .int (nI (dg σ d 3)))]) hx hb dL_holds_206 hl (k := 17) rfl (nI_add s 1) (by decide) rfl (fun ls hl => ?_)
              refine lv_goto (tgt := 163) hx hb dL_holds_209 (by decide) ?_
              refine W.widen (k := 3 + 100 * d + 5 + 2 * (s + 1)) (n := 6 * (3 + 100 * d + 5 + 2 * (s + 1))) (by omega) (by omega) ?_
              exact ih163 (s + 1, q) H locs ls ⟨hP, hD, hS, hI, lv_sub hl [2, 3, 4, 5, 6, 7, 8, 9, 10, 11, 12, 13, 14, 15, 16, 17, 1, 0] rfl, (by omega)⟩ (by dsimp only; omega)
            · have c_195 := (bI_eq0.mp c_195)
              refine lv_iconst (v := (nI 1)) hx hb dL_holds_198 (by decide) ?_
              refine lv_goto (tgt := 203) hx hb dL_holds_199 (by decide) ?_
              refine lv_iadd hx hb dL_holds_203 ?_
              refine ti (nI_add (ct (hon σ d) s) 1) ?_
              refine lv_istore (lv' := [(16, .int (nI ((ct (hon σ d) s) + 1))), (0, .ref (x 0)), (1, .int (nI v)), (2, .int (nI (σ 0))), (3, .int (nI (σ 1))), (4, .int (nI (σ 2))), (5, .int (nI (ct (msg σ) (d + 1)))), (6, .int (nI (sm (fun d9 => if msg σ d9 then dg σ d9 4 else 0) (d + 1)))), (7, .int (nI 0)), (8, .int (nI 0)), (9, .int (nI (sm (fun d9 => ct (mng σ d9) (σ 1)) (d + 1)))), (10, .int (nI 0)), (11, .int (nI (sm (fun d9 => dg σ d9 4) (d + 1)))), (12, .int (nI 1)), (13, .int (nI d)), (14, .int (nI (if msg σ d then 1 else 0))), (15, .int (nI (dg σ d 3))), (17, .int (nI s))]) hx hb dL_holds_204 hl (by decide) rfl (fun ls hl => ?_)
              have hl : lv_has ls 21 [(16, .int (nI (ct (hon σ d) (s + 1)))), (0, .ref (x 0)), (1, .int (nI v)), (2, .int (nI (σ 0))), (3, .int (nI (σ 1))), (4, .int (nI (σ 2))), (5, .int (nI (ct (msg σ) (d + 1)))), (6, .int (nI (sm (fun d9 => if msg σ d9 then dg σ d9 4 else 0) (d + 1)))), (7, .int (nI 0)), (8, .int (nI 0)), (9, .int (nI (sm (fun d9 => ct (mng σ d9) (σ 1)) (d + 1)))), (10, .int (nI 0)), (11, .int (nI (sm (fun d9 => dg σ d9 4) (d + 1)))), (12, .int (nI 1)), (13, .int (nI d)), (14, .int (nI (if msg σ d then 1 else 0))), (15, .int (nI (dg σ d 3))), (17, .int (nI s))] := by rw [← show (nI ((ct (hon σ d) s) + 1)) = (nI (ct (hon σ d) (s + 1))) from (congrArg nI (by show _ = ct (hon σ d) s + (if hon σ d s then 1 else 0); simp [hon, mng, c_182, c_195]))]; exact hl
              refine lv_iinc (v := (nI (s + 1))) (lv' := [(17, .int (nI (s + 1))), (16, .int (nI (ct (hon σ d) (s + 1)))), (0, .ref (x 0)), (1, .int (nI v)), (2, .int (nI (σ 0))), (3, .int (nI (σ 1))), (4, .int (nI (σ 2))), (5, .int (nI (ct (msg σ) (d + 1)))), (6, .int (nI (sm (fun d9 => if msg σ d9 then dg σ d9 4 else 0) (d + 1)))), (7, .int (nI 0)), (8, .int (nI 0)), (9, .int (nI (sm (fun d9 => ct (mng σ d9) (σ 1)) (d + 1)))), (10, .int (nI 0)), (11, .int (nI (sm (fun d9 => dg σ d9 4) (d + 1)))), (12, .int (nI 1)), (13, .int (nI d)), (14, .int (nI (if msg σ d then 1 else 0))), (15, .int (nI (dg σ d 3)))]) hx hb dL_holds_206 hl (k := 17) rfl (nI_add s 1) (by decide) rfl (fun ls hl => ?_)
              refine lv_goto (tgt := 163) hx hb dL_holds_209 (by decide) ?_
              refine W.widen (k := 3 + 100 * d + 5 + 2 * (s + 1)) (n := 6 * (3 + 100 * d + 5 + 2 * (s + 1))) (by omega) (by omega) ?_
              exact ih163 (s + 1, q) H locs ls ⟨hP, hD, hS, hI, lv_sub hl [2, 3, 4, 5, 6, 7, 8, 9, 10, 11, 12, 13, 14, 15, 16, 17, 1, 0] rfl, (by omega)⟩ (by dsimp only; omega)
