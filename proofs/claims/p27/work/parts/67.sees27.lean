/-! P27: sees. -/
set_option maxHeartbeats 4000000 in
set_option maxRecDepth 100000 in
theorem c_L_sees (l : Launch) (hfl : l.stackTraces = false) (g : va_G) (cy : Nat → ClassId) (x a tr s0 s1 : Nat → Nat) (pa : Nat → Nat → Nat) (x1 a1 t1 u1 v1 : Nat → Nat) (p1 : Nat → Nat → Nat) (sz : Nat) (bd : Nat) (q r : Sc) (σ : Nat → Nat) (Hh : Nat → Nat → Nat) (n : Nat) (K : Nat → Nat → Nat) (fl : Nat → Bool) (tx : Nat → Nat) (ln : Nat) (v : Nat) (hI : fI bd q σ Hh n K fl tx ln) (hJ : fI bd r σ Hh n K fl tx ln) (hv9 : v < 2 ^ 31) (hV : INV σ Hh n K fl) : Met l yL_sees (Cond.code yL_sees cL_sees 11 (some .boolean) :: wsL_law) ({ frames := 10, cells := 30, slots := 180, locals := 188 } : Room) (va_Pc [.ref (x 0), .ref (x1 0), .int (nI v)] (pr2 g cy (fQ cy x a tr s0 s1 pa q σ n fl tx ln ++ fQ cy x1 a1 t1 u1 v1 p1 r σ n fl tx ln) sz)) (wr_Q (fun _ : Sc × Sc × (Nat → Nat → Nat) × Nat => some (.int (bI true))) (fun u => fI bd u.1 σ u.2.2.1 u.2.2.2 K fl tx ln ∧ fI bd u.2.1 σ u.2.2.1 u.2.2.2 K fl tx ln ∧ INV σ u.2.2.1 u.2.2.2 K fl) (fun u => (fQ cy x a tr s0 s1 pa u.1 σ u.2.2.2 fl tx ln ++ fQ cy x1 a1 t1 u1 v1 p1 u.2.1 σ u.2.2.2 fl tx ln)) g (va_A (fQ cy x a tr s0 s1 pa q σ n fl tx ln ++ fQ cy x1 a1 t1 u1 v1 p1 r σ n fl tx ln) sz)) 30 180 (va_A (fQ cy x a tr s0 s1 pa q σ n fl tx ln ++ fQ cy x1 a1 t1 u1 v1 p1 r σ n fl tx ln) sz) := by
  refine mt_p (cc := cL_sees) (maxL := 11) (ret := some .boolean) (by decide +kernel) (Nat.le_of_ble_eq_true rfl) ?_
  intro pX eX s mX below meth cX ls A hx hb hr hml hown hts hlk hsz hAe hA hP hD hK hX hY hl
  subst hsz
  rw [← hAe]
  clear hAe
  have hl : lv_has ls 11 [(0, .ref (x 0)), (1, .ref (x1 0)), (2, .int (nI v))] := hl
  have hS : va_S A s.heap s.heap [] := va_S.rf
  have hW := fI_wf hI
  have hn0 := hW.n0
  have hn1 := hW.n1
  have hh2 := hW.h2
  have hNN : NN = 4294967295 := rfl
  refine lv_aload_n hx hb dL_sees_0 rfl (lv_at hl 0 rfl) ?_
  refine lv_iconst (v := (nI 2)) hx hb dL_sees_1 (by decide) ?_
  refine lv_iconst (v := (nI 2)) hx hb dL_sees_2 (by decide) ?_
  refine lv_iconst (v := (nI 0)) hx hb dL_sees_3 (by decide) ?_
  refine lv_iconst (v := (nI 0)) hx hb dL_sees_4 (by decide) ?_
  obtain ⟨hP, hD⟩ := sw_PD (L := []) (M := (fQ cy x a tr s0 s1 pa q σ n fl tx ln)) (T := (fQ cy x1 a1 t1 u1 v1 p1 r σ n fl tx ln)) hP hD
  refine wr_callS (pre := (fQ cy x1 a1 t1 u1 v1 p1 r σ n fl tx ln)) (wc := fQ cy x a tr s0 s1 pa q σ n fl tx ln) (va_runS (As := [.ref (x 0), .int (nI 2), .int (nI 2), .int (nI 0), .int (nI 0)]) (rest := []) ⟨hx, hb, hml, hown, hts⟩ (c_L_call_2 l hfl g cy x a tr s0 s1 pa s.heap.size bd q σ Hh n K fl tx ln (nI 2) (nI 0) (nI 0) hI ) ⟨(cB 5 hts wd9_11 wd5_14 wd9_9 rfl rfl (by decide +kernel) ⟨Nat.le_of_ble_eq_true rfl, Nat.le_of_ble_eq_true rfl⟩), hts _ wd9_10⟩ (ps2 (ws := (fQ cy x1 a1 t1 u1 v1 p1 r σ n fl tx ln) ++ fQ cy x a tr s0 s1 pa q σ n fl tx ln) hK hP hD hS hA hX hY _ nd_suffix at_suffix) rfl rfl hl.1 rfl (lv_room (Nat.le_of_ble_eq_true rfl)) dL_sees_5 ⟨by show _ ≤ 30; omega, by show _ ≤ 180; omega⟩) hP hD hS hA (fun _ => fQ_ad) (fun q H locs hI hP hD hS => ?_)
  obtain ⟨hP, hD⟩ := sw_PD (L := []) (M := (fQ cy x1 a1 t1 u1 v1 p1 r σ n fl tx ln)) (T := (fQ cy x a tr s0 s1 pa q σ n fl tx ln)) hP hD
  have hP : va_P g vwCl (fQ cy x a tr s0 s1 pa q σ n fl tx ln ++ fQ cy x1 a1 t1 u1 v1 p1 r σ n fl tx ln) H := hP
  have hD : va_D A (fQ cy x a tr s0 s1 pa q σ n fl tx ln ++ fQ cy x1 a1 t1 u1 v1 p1 r σ n fl tx ln) := hD
  refine ti (show an (fAbo (nI 2)) (nI (nbd σ (nI 2).toNatClampNeg)) = (nI (σ 1)) from (v_ab (w := 2) (by decide))) ?_
  show W _ _ _ _ _ _ _ _ _ _ _ _ _ _ _ (F0 mX 8 ls [.int (nI (σ 1))])
  refine lv_bipush (v := (nI 20)) hx hb dL_sees_8 (by decide) ?_
  refine lv_icmp_ne (tgt := 15) hx hb dL_sees_10 (by decide) (fun c_10 => ?_) (fun c_10 => ?_)
  · have c_10 := (nc_ne9 (by omega) (by omega) c_10)
    refine lv_iload_n hx hb dL_sees_15 rfl (lv_at hl 2 rfl) ?_
    refine lv_sipush (v := (nI 256)) hx hb dL_sees_16 (by decide) ?_
    refine lv_irem hx hb dL_sees_19 (nI_ne0 (by omega) (by omega)) ?_
    refine ti (pk_rem (a := v) (d := 256) (by omega) (by omega) (by omega)) ?_
    refine lv_istore_n (lv' := [(3, .int (nI (v % 256))), (0, .ref (x 0)), (1, .ref (x1 0)), (2, .int (nI v))]) hx hb dL_sees_20 rfl hl (by decide) rfl (fun ls hl => ?_)
    refine lv_iload_n hx hb dL_sees_21 rfl (lv_at hl 3 rfl) ?_
    refine lv_sipush (v := (nI 256)) hx hb dL_sees_22 (by decide) ?_
    refine lv_idiv hx hb dL_sees_25 (nI_ne0 (by omega) (by omega)) ?_
    refine ti (pk_div (a := v) (d := 256) (by omega) (by omega) (by omega)) ?_
    refine lv_bipush (v := (nI 12)) hx hb dL_sees_26 (by decide) ?_
    refine lv_irem hx hb dL_sees_28 (nI_ne0 (by omega) (by omega)) ?_
    refine ti (pk_rem (a := (v / 256)) (d := 12) (by omega) (by omega) (by omega)) ?_
    refine lv_istore (lv' := [(4, .int (nI ((v / 256) % 12))), (3, .int (nI (v % 256))), (0, .ref (x 0)), (1, .ref (x1 0)), (2, .int (nI v))]) hx hb dL_sees_29 hl (by decide) rfl (fun ls hl => ?_)
    obtain ⟨d, hd9⟩ : ∃ d, mea σ (v % 256) (σ 2 - 0) = d := ⟨_, rfl⟩
    have hn14 := fI_n hI
    have hb9 := hiN_b hn14
    have dl9 := mea_lt (σ := σ) (m := v % 256) (h := σ 2 - 0)
    rw [hd9] at dl9
    refine lv_aload_n hx hb dL_sees_31 rfl (lv_at hl 2 rfl) ?_
    refine lv_bipush (v := (nI 12)) hx hb dL_sees_32 (by decide) ?_
    refine lv_iload_n hx hb dL_sees_34 rfl (lv_at hl 1 rfl) ?_
    refine lv_iconst (v := (nI 0)) hx hb dL_sees_35 (by decide) ?_
    refine lv_iconst (v := (nI 0)) hx hb dL_sees_36 (by decide) ?_
    obtain ⟨hP, hD⟩ := sw_PD (L := []) (M := (fQ cy x a tr s0 s1 pa q σ n fl tx ln)) (T := (fQ cy x1 a1 t1 u1 v1 p1 r σ n fl tx ln)) hP hD
    refine wr_callS (pre := (fQ cy x1 a1 t1 u1 v1 p1 r σ n fl tx ln)) (wc := fQ cy x a tr s0 s1 pa q σ n fl tx ln) (va_runS (As := [.ref (x 0), .int (nI 12), .int (nI (v % 256)), .int (nI 0), .int (nI 0)]) (rest := []) ⟨hx, hb, hml, hown, hts⟩ (c_L_call_12 l hfl g cy x a tr s0 s1 pa H.size bd q σ Hh n K fl tx ln (nI (v % 256)) (nI 0) (nI 0) hI ) ⟨(cB 5 hts wd9_11 wd5_14 wd9_9 rfl rfl (by decide +kernel) ⟨Nat.le_of_ble_eq_true rfl, Nat.le_of_ble_eq_true rfl⟩), hts _ wd9_10⟩ (ps2 (ws := (fQ cy x1 a1 t1 u1 v1 p1 r σ n fl tx ln) ++ fQ cy x a tr s0 s1 pa q σ n fl tx ln) hK hP hD hS hA hX hY _ nd_suffix at_suffix) rfl rfl hl.1 rfl (lv_room (Nat.le_of_ble_eq_true rfl)) dL_sees_37 ⟨by show _ ≤ 30; omega, by show _ ≤ 180; omega⟩) hP hD hS hA (fun _ => fQ_ad) (fun q H locs hI hP hD hS => ?_)
    obtain ⟨hP, hD⟩ := sw_PD (L := []) (M := (fQ cy x1 a1 t1 u1 v1 p1 r σ n fl tx ln)) (T := (fQ cy x a tr s0 s1 pa q σ n fl tx ln)) hP hD
    have hP : va_P g vwCl (fQ cy x a tr s0 s1 pa q σ n fl tx ln ++ fQ cy x1 a1 t1 u1 v1 p1 r σ n fl tx ln) H := hP
    have hD : va_D A (fQ cy x a tr s0 s1 pa q σ n fl tx ln ++ fQ cy x1 a1 t1 u1 v1 p1 r σ n fl tx ln) := hD
    refine ti (show an (fMea (nI (v % 256))) (nI (mea σ (nI (v % 256)).toNatClampNeg (σ 2))) = (nI (mea σ (v % 256) (σ 2))) from (v_me (by omega))) ?_
    show W _ _ _ _ _ _ _ _ _ _ _ _ _ _ _ (F0 mX 40 ls [.int (nI (mea σ (v % 256) (σ 2)))])
    refine ti (show (nI (mea σ (v % 256) (σ 2))) = (nI d) from (congrArg nI hd9)) ?_
    refine lv_istore (lv' := [(5, .int (nI d)), (4, .int (nI ((v / 256) % 12))), (3, .int (nI (v % 256))), (0, .ref (x 0)), (1, .ref (x1 0)), (2, .int (nI v))]) hx hb dL_sees_40 hl (by decide) rfl (fun ls hl => ?_)
    by_cases hdn : d = NN
    · skip
      refine lv_iload hx hb dL_sees_42 (lv_at hl 0 rfl) ?_
      refine lv_iconst (v := (nI NN)) hx hb dL_sees_44 (by decide) ?_
      refine lv_icmp_ne (tgt := 52) hx hb dL_sees_45 (by decide) (fun c_45 => ?_) (fun c_45 => ?_)
      · have c_45 := (nc_ne9 (by omega) (by decide) c_45)
        exact absurd hdn c_45
      · have c_45 := (nc_eq9 (by omega) (by decide) c_45)
        refine lv_iconst (v := (nI 0)) hx hb dL_sees_48 (by decide) ?_
        refine lv_goto (tgt := 62) hx hb dL_sees_49 (by decide) ?_
        refine lv_istore (lv' := [(6, .int (nI 0)), (5, .int (nI d)), (4, .int (nI ((v / 256) % 12))), (3, .int (nI (v % 256))), (0, .ref (x 0)), (1, .ref (x1 0)), (2, .int (nI v))]) hx hb dL_sees_62 hl (by decide) rfl (fun ls hl => ?_)
        refine lv_aload_n hx hb dL_sees_64 rfl (lv_at hl 4 rfl) ?_
        refine lv_iconst (v := (nI 2)) hx hb dL_sees_65 (by decide) ?_
        refine lv_iconst (v := (nI 2)) hx hb dL_sees_66 (by decide) ?_
        refine lv_iconst (v := (nI 0)) hx hb dL_sees_67 (by decide) ?_
        refine lv_iconst (v := (nI 0)) hx hb dL_sees_68 (by decide) ?_
        obtain ⟨hP, hD⟩ := sw_PD (L := []) (M := (fQ cy x a tr s0 s1 pa q σ n fl tx ln)) (T := (fQ cy x1 a1 t1 u1 v1 p1 r σ n fl tx ln)) hP hD
        refine wr_callS (pre := (fQ cy x1 a1 t1 u1 v1 p1 r σ n fl tx ln)) (wc := fQ cy x a tr s0 s1 pa q σ n fl tx ln) (va_runS (As := [.ref (x 0), .int (nI 2), .int (nI 2), .int (nI 0), .int (nI 0)]) (rest := []) ⟨hx, hb, hml, hown, hts⟩ (c_L_call_2 l hfl g cy x a tr s0 s1 pa H.size bd q σ Hh n K fl tx ln (nI 2) (nI 0) (nI 0) hI ) ⟨(cB 5 hts wd9_11 wd5_14 wd9_9 rfl rfl (by decide +kernel) ⟨Nat.le_of_ble_eq_true rfl, Nat.le_of_ble_eq_true rfl⟩), hts _ wd9_10⟩ (ps2 (ws := (fQ cy x1 a1 t1 u1 v1 p1 r σ n fl tx ln) ++ fQ cy x a tr s0 s1 pa q σ n fl tx ln) hK hP hD hS hA hX hY _ nd_suffix at_suffix) rfl rfl hl.1 rfl (lv_room (Nat.le_of_ble_eq_true rfl)) dL_sees_69 ⟨by show _ ≤ 30; omega, by show _ ≤ 180; omega⟩) hP hD hS hA (fun _ => fQ_ad) (fun q H locs hI hP hD hS => ?_)
        obtain ⟨hP, hD⟩ := sw_PD (L := []) (M := (fQ cy x1 a1 t1 u1 v1 p1 r σ n fl tx ln)) (T := (fQ cy x a tr s0 s1 pa q σ n fl tx ln)) hP hD
        have hP : va_P g vwCl (fQ cy x a tr s0 s1 pa q σ n fl tx ln ++ fQ cy x1 a1 t1 u1 v1 p1 r σ n fl tx ln) H := hP
        have hD : va_D A (fQ cy x a tr s0 s1 pa q σ n fl tx ln ++ fQ cy x1 a1 t1 u1 v1 p1 r σ n fl tx ln) := hD
        refine ti (show an (fAbo (nI 2)) (nI (nbd σ (nI 2).toNatClampNeg)) = (nI (σ 1)) from (v_ab (w := 2) (by decide))) ?_
        show W _ _ _ _ _ _ _ _ _ _ _ _ _ _ _ (F0 mX 72 ls [.int (nI (σ 1))])
        refine lv_istore (lv' := [(7, .int (nI (σ 1))), (6, .int (nI 0)), (5, .int (nI d)), (4, .int (nI ((v / 256) % 12))), (3, .int (nI (v % 256))), (0, .ref (x 0)), (1, .ref (x1 0)), (2, .int (nI v))]) hx hb dL_sees_72 hl (by decide) rfl (fun ls hl => ?_)
        refine lv_aload_n hx hb dL_sees_74 rfl (lv_at hl 5 rfl) ?_
        refine lv_iload_n hx hb dL_sees_75 rfl (lv_at hl 7 rfl) ?_
        refine lv_bipush (v := (nI 8)) hx hb dL_sees_76 (by decide) ?_
        refine lv_irem hx hb dL_sees_78 (nI_ne0 (by omega) (by omega)) ?_
        refine ti (pk_rem (a := v) (d := 8) (by omega) (by omega) (by omega)) ?_
        refine lv_iload hx hb dL_sees_79 (lv_at hl 3 rfl) ?_
        refine lv_iload_n hx hb dL_sees_81 rfl (lv_at hl 4 rfl) ?_
        refine lv_iconst (v := (nI 0)) hx hb dL_sees_82 (by decide) ?_
        refine lv_iconst (v := (nI 1)) hx hb dL_sees_83 (by decide) ?_
        refine ti (show (nI 1) = (bI true) from rfl) ?_
        obtain ⟨hP, hD⟩ := sw_PD (L := []) (M := (fQ cy x a tr s0 s1 pa q σ n fl tx ln)) (T := (fQ cy x1 a1 t1 u1 v1 p1 r σ n fl tx ln)) hP hD
        refine wr_callS (pre := (fQ cy x1 a1 t1 u1 v1 p1 r σ n fl tx ln)) (wc := fQ cy x a tr s0 s1 pa q σ n fl tx ln) (vx_runSW (hh := [(0, 11, 12, 13), (0, 11, 17, 16), (0, 11, 22, 19)]) (As := [.ref (x 0), .int (nI (v % 8)), .int (nI ((v / 256) % 12)), .int (nI (v % 256)), .int (nI 0), .int (bI true)]) (rest := []) ⟨hx, hb, hml, hown, hts⟩ (c_L_sights l hfl g cy x a tr s0 s1 pa H.size bd q σ Hh n K fl tx ln (nI (v % 8)) (nI ((v / 256) % 12)) (nI (v % 256)) (nI 0) true hI ) (vx_cwSW 6 hts (hl_in wd25_15 wd5_14 wd25_13 wd25_14) rfl rfl rfl (by decide +kernel) ⟨Nat.le_of_ble_eq_true rfl, Nat.le_of_ble_eq_true rfl⟩) (ps2 (ws := (fQ cy x1 a1 t1 u1 v1 p1 r σ n fl tx ln) ++ fQ cy x a tr s0 s1 pa q σ n fl tx ln) hK hP hD hS hA hX hY _ nd_suffix at_suffix) rfl rfl hl.1 rfl (lv_room (Nat.le_of_ble_eq_true rfl)) dL_sees_84 ⟨by show _ ≤ 30; omega, by show _ ≤ 180; omega⟩) hP hD hS hA (fun _ => fQ_ad) (fun q H locs hI hP hD hS => ?_)
        have h9 : fTell σ (nI (v % 8)) (nI ((v / 256) % 12)) (nI (v % 256)) (nI 0) = 0 := (by rw [fTell_in (by omega) (by omega) (by omega) (by omega) (by omega), if_pos (Nat.zero_le _), if_neg (by omega)])
        simp only [if_pos h9] at hI hP hD
        rw [show sightR σ (nI (v % 8)) (nI ((v / 256) % 12)) (nI (v % 256)) (nI 0) true = sightS σ (v % 8) ((v / 256) % 12) (v % 256) 0 1 from (sightR_0 (ph := true) (by omega) (by omega) (by omega) (by omega) h9).1] at hI hP hD
        obtain ⟨hP, hD⟩ := sw_PD (L := []) (M := (fQ cy x1 a1 t1 u1 v1 p1 r σ n fl tx ln)) (T := (fQ cy x a tr s0 s1 pa q (sightS σ (v % 8) ((v / 256) % 12) (v % 256) 0 1) (hiN n) fl tx ln)) hP hD
        have hP : va_P g vwCl (fQ cy x a tr s0 s1 pa q (sightS σ (v % 8) ((v / 256) % 12) (v % 256) 0 1) (hiN n) fl tx ln ++ fQ cy x1 a1 t1 u1 v1 p1 r σ n fl tx ln) H := hP
        have hD : va_D A (fQ cy x a tr s0 s1 pa q (sightS σ (v % 8) ((v / 256) % 12) (v % 256) 0 1) (hiN n) fl tx ln ++ fQ cy x1 a1 t1 u1 v1 p1 r σ n fl tx ln) := hD
        refine ti (show an (fTell σ (nI (v % 8)) (nI ((v / 256) % 12)) (nI (v % 256)) (nI 0)) (nI (sightA σ (nI (v % 8)) (nI ((v / 256) % 12)) (nI (v % 256)) (nI 0))) = (nI d) from (by rw [an_0 h9, (sightR_0 (ph := true) (by omega) (by omega) (by omega) (by omega) h9).2]; exact congrArg nI hd9)) ?_
        show W _ _ _ _ _ _ _ _ _ _ _ _ _ _ _ (F0 mX 87 ls [.int (nI d)])
        refine lv_iload hx hb dL_sees_87 (lv_at hl 2 rfl) ?_
        refine lv_icmp_ne (tgt := 141) hx hb dL_sees_89 (by decide) (fun c_89 => absurd rfl c_89) (fun _ => ?_)
        refine lv_aload_n hx hb dL_sees_92 rfl (lv_at hl 6 rfl) ?_
        refine lv_iload_n hx hb dL_sees_93 rfl (lv_at hl 7 rfl) ?_
        refine lv_bipush (v := (nI 8)) hx hb dL_sees_94 (by decide) ?_
        refine lv_irem hx hb dL_sees_96 (nI_ne0 (by omega) (by omega)) ?_
        refine ti (pk_rem (a := v) (d := 8) (by omega) (by omega) (by omega)) ?_
        refine lv_iload hx hb dL_sees_97 (lv_at hl 3 rfl) ?_
        refine lv_iload_n hx hb dL_sees_99 rfl (lv_at hl 4 rfl) ?_
        refine lv_iconst (v := (nI 0)) hx hb dL_sees_100 (by decide) ?_
        refine lv_iconst (v := (nI 1)) hx hb dL_sees_101 (by decide) ?_
        refine ti (show (nI 1) = (bI true) from rfl) ?_
        refine wr_callS (pre := (fQ cy x a tr s0 s1 pa q (sightS σ (v % 8) ((v / 256) % 12) (v % 256) 0 1) (hiN n) fl tx ln)) (wc := fQ cy x1 a1 t1 u1 v1 p1 r σ n fl tx ln) (vx_runSW (hh := [(0, 11, 12, 13), (0, 11, 17, 16), (0, 11, 22, 19)]) (As := [.ref (x1 0), .int (nI (v % 8)), .int (nI ((v / 256) % 12)), .int (nI (v % 256)), .int (nI 0), .int (bI true)]) (rest := []) ⟨hx, hb, hml, hown, hts⟩ (c_L_sights l hfl g cy x1 a1 t1 u1 v1 p1 H.size bd r σ Hh n K fl tx ln (nI (v % 8)) (nI ((v / 256) % 12)) (nI (v % 256)) (nI 0) true hJ ) (vx_cwSW 6 hts (hl_in wd25_15 wd5_14 wd25_13 wd25_14) rfl rfl rfl (by decide +kernel) ⟨Nat.le_of_ble_eq_true rfl, Nat.le_of_ble_eq_true rfl⟩) (ps2 (ws := (fQ cy x a tr s0 s1 pa q (sightS σ (v % 8) ((v / 256) % 12) (v % 256) 0 1) (hiN n) fl tx ln) ++ fQ cy x1 a1 t1 u1 v1 p1 r σ n fl tx ln) hK hP hD hS hA hX hY _ nd_suffix at_suffix) rfl rfl hl.1 rfl (lv_room (Nat.le_of_ble_eq_true rfl)) dL_sees_102 ⟨by show _ ≤ 30; omega, by show _ ≤ 180; omega⟩) hP hD hS hA (fun _ => fQ_ad) (fun r H locs hJ hP hD hS => ?_)
        have h9 : fTell σ (nI (v % 8)) (nI ((v / 256) % 12)) (nI (v % 256)) (nI 0) = 0 := (by rw [fTell_in (by omega) (by omega) (by omega) (by omega) (by omega), if_pos (Nat.zero_le _), if_neg (by omega)])
        simp only [if_pos h9] at hJ hP hD
        rw [show sightR σ (nI (v % 8)) (nI ((v / 256) % 12)) (nI (v % 256)) (nI 0) true = sightS σ (v % 8) ((v / 256) % 12) (v % 256) 0 1 from (sightR_0 (ph := true) (by omega) (by omega) (by omega) (by omega) h9).1] at hJ hP hD
        have hP : va_P g vwCl (fQ cy x a tr s0 s1 pa q (sightS σ (v % 8) ((v / 256) % 12) (v % 256) 0 1) (hiN n) fl tx ln ++ fQ cy x1 a1 t1 u1 v1 p1 r (sightS σ (v % 8) ((v / 256) % 12) (v % 256) 0 1) (hiN n) fl tx ln) H := hP
        have hD : va_D A (fQ cy x a tr s0 s1 pa q (sightS σ (v % 8) ((v / 256) % 12) (v % 256) 0 1) (hiN n) fl tx ln ++ fQ cy x1 a1 t1 u1 v1 p1 r (sightS σ (v % 8) ((v / 256) % 12) (v % 256) 0 1) (hiN n) fl tx ln) := hD
        refine ti (show an (fTell σ (nI (v % 8)) (nI ((v / 256) % 12)) (nI (v % 256)) (nI 0)) (nI (sightA σ (nI (v % 8)) (nI ((v / 256) % 12)) (nI (v % 256)) (nI 0))) = (nI d) from (by rw [an_0 h9, (sightR_0 (ph := true) (by omega) (by omega) (by omega) (by omega) h9).2]; exact congrArg nI hd9)) ?_
        show W _ _ _ _ _ _ _ _ _ _ _ _ _ _ _ (F0 mX 105 ls [.int (nI d)])
        refine lv_iload hx hb dL_sees_105 (lv_at hl 2 rfl) ?_
        refine lv_icmp_ne (tgt := 141) hx hb dL_sees_107 (by decide) (fun c_107 => absurd rfl c_107) (fun _ => ?_)
        have hWt := fI_wf hI
        refine lv_aload_n hx hb dL_sees_110 rfl (lv_at hl 5 rfl) ?_
        refine lv_iconst (v := (nI 4)) hx hb dL_sees_111 (by decide) ?_
        refine lv_iload hx hb dL_sees_112 (lv_at hl 0 rfl) ?_
        refine lv_iconst (v := (nI 5)) hx hb dL_sees_114 (by decide) ?_
        refine lv_iconst (v := (nI 0)) hx hb dL_sees_115 (by decide) ?_
        obtain ⟨hP, hD⟩ := sw_PD (L := []) (M := (fQ cy x a tr s0 s1 pa q (sightS σ (v % 8) ((v / 256) % 12) (v % 256) 0 1) (hiN n) fl tx ln)) (T := (fQ cy x1 a1 t1 u1 v1 p1 r (sightS σ (v % 8) ((v / 256) % 12) (v % 256) 0 1) (hiN n) fl tx ln)) hP hD
        refine wr_callS (pre := (fQ cy x1 a1 t1 u1 v1 p1 r (sightS σ (v % 8) ((v / 256) % 12) (v % 256) 0 1) (hiN n) fl tx ln)) (wc := fQ cy x a tr s0 s1 pa q (sightS σ (v % 8) ((v / 256) % 12) (v % 256) 0 1) (hiN n) fl tx ln) (va_runS (As := [.ref (x 0), .int (nI 4), .int (nI (σ 1)), .int (nI 5), .int (nI 0)]) (rest := []) ⟨hx, hb, hml, hown, hts⟩ (c_L_call_4 l hfl g cy x a tr s0 s1 pa H.size bd q (sightS σ (v % 8) ((v / 256) % 12) (v % 256) 0 1) (hiH Hh n σ) (hiN n) K fl tx ln (nI (σ 1)) (nI 5) (nI 0) hI ) ⟨(cB 5 hts wd9_11 wd5_14 wd9_9 rfl rfl (by decide +kernel) ⟨Nat.le_of_ble_eq_true rfl, Nat.le_of_ble_eq_true rfl⟩), hts _ wd9_10⟩ (ps2 (ws := (fQ cy x1 a1 t1 u1 v1 p1 r (sightS σ (v % 8) ((v / 256) % 12) (v % 256) 0 1) (hiN n) fl tx ln) ++ fQ cy x a tr s0 s1 pa q (sightS σ (v % 8) ((v / 256) % 12) (v % 256) 0 1) (hiN n) fl tx ln) hK hP hD hS hA hX hY _ nd_suffix at_suffix) rfl rfl hl.1 rfl (lv_room (Nat.le_of_ble_eq_true rfl)) dL_sees_116 ⟨by show _ ≤ 30; omega, by show _ ≤ 180; omega⟩) hP hD hS hA (fun _ => fQ_ad) (fun q H locs hI hP hD hS => ?_)
        obtain ⟨hP, hD⟩ := sw_PD (L := []) (M := (fQ cy x1 a1 t1 u1 v1 p1 r (sightS σ (v % 8) ((v / 256) % 12) (v % 256) 0 1) (hiN n) fl tx ln)) (T := (fQ cy x a tr s0 s1 pa q (sightS σ (v % 8) ((v / 256) % 12) (v % 256) 0 1) (hiN n) fl tx ln)) hP hD
        have hP : va_P g vwCl (fQ cy x a tr s0 s1 pa q (sightS σ (v % 8) ((v / 256) % 12) (v % 256) 0 1) (hiN n) fl tx ln ++ fQ cy x1 a1 t1 u1 v1 p1 r (sightS σ (v % 8) ((v / 256) % 12) (v % 256) 0 1) (hiN n) fl tx ln) H := hP
        have hD : va_D A (fQ cy x a tr s0 s1 pa q (sightS σ (v % 8) ((v / 256) % 12) (v % 256) 0 1) (hiN n) fl tx ln ++ fQ cy x1 a1 t1 u1 v1 p1 r (sightS σ (v % 8) ((v / 256) % 12) (v % 256) 0 1) (hiN n) fl tx ln) := hD
        refine ti (show an (fSig (sightS σ (v % 8) ((v / 256) % 12) (v % 256) 0 1) (nI (σ 1)) (nI 5)) (nI (nsg (sightS σ (v % 8) ((v / 256) % 12) (v % 256) 0 1) (nI (σ 1)).toNatClampNeg (nI 5).toNatClampNeg)) = (nI (sg (sightS σ (v % 8) ((v / 256) % 12) (v % 256) 0 1) (σ 1) 5)) from (v_sg (w := 5) hWt.n1 (Nat.lt_succ_self _) (by decide))) ?_
        show W _ _ _ _ _ _ _ _ _ _ _ _ _ _ _ (F0 mX 119 ls [.int (nI (sg (sightS σ (v % 8) ((v / 256) % 12) (v % 256) 0 1) (σ 1) 5))])
        refine ti (show (nI (sg (sightS σ (v % 8) ((v / 256) % 12) (v % 256) 0 1) (σ 1) 5)) = (nI d) from (congrArg nI ((sightS_new (σ := σ) (f := v % 8) (c := (v / 256) % 12) (m := v % 256) (ago := 0) (ph := 1) (k := 5) (by decide)).trans hd9))) ?_
        refine lv_iload hx hb dL_sees_119 (lv_at hl 2 rfl) ?_
        refine lv_icmp_ne (tgt := 141) hx hb dL_sees_121 (by decide) (fun c_121 => absurd rfl c_121) (fun _ => ?_)
        refine lv_aload_n hx hb dL_sees_124 rfl (lv_at hl 5 rfl) ?_
        refine lv_iconst (v := (nI 4)) hx hb dL_sees_125 (by decide) ?_
        refine lv_iload hx hb dL_sees_126 (lv_at hl 0 rfl) ?_
        refine lv_iconst (v := (nI 3)) hx hb dL_sees_128 (by decide) ?_
        refine lv_iconst (v := (nI 0)) hx hb dL_sees_129 (by decide) ?_
        obtain ⟨hP, hD⟩ := sw_PD (L := []) (M := (fQ cy x a tr s0 s1 pa q (sightS σ (v % 8) ((v / 256) % 12) (v % 256) 0 1) (hiN n) fl tx ln)) (T := (fQ cy x1 a1 t1 u1 v1 p1 r (sightS σ (v % 8) ((v / 256) % 12) (v % 256) 0 1) (hiN n) fl tx ln)) hP hD
        refine wr_callS (pre := (fQ cy x1 a1 t1 u1 v1 p1 r (sightS σ (v % 8) ((v / 256) % 12) (v % 256) 0 1) (hiN n) fl tx ln)) (wc := fQ cy x a tr s0 s1 pa q (sightS σ (v % 8) ((v / 256) % 12) (v % 256) 0 1) (hiN n) fl tx ln) (va_runS (As := [.ref (x 0), .int (nI 4), .int (nI (σ 1)), .int (nI 3), .int (nI 0)]) (rest := []) ⟨hx, hb, hml, hown, hts⟩ (c_L_call_4 l hfl g cy x a tr s0 s1 pa H.size bd q (sightS σ (v % 8) ((v / 256) % 12) (v % 256) 0 1) (hiH Hh n σ) (hiN n) K fl tx ln (nI (σ 1)) (nI 3) (nI 0) hI ) ⟨(cB 5 hts wd9_11 wd5_14 wd9_9 rfl rfl (by decide +kernel) ⟨Nat.le_of_ble_eq_true rfl, Nat.le_of_ble_eq_true rfl⟩), hts _ wd9_10⟩ (ps2 (ws := (fQ cy x1 a1 t1 u1 v1 p1 r (sightS σ (v % 8) ((v / 256) % 12) (v % 256) 0 1) (hiN n) fl tx ln) ++ fQ cy x a tr s0 s1 pa q (sightS σ (v % 8) ((v / 256) % 12) (v % 256) 0 1) (hiN n) fl tx ln) hK hP hD hS hA hX hY _ nd_suffix at_suffix) rfl rfl hl.1 rfl (lv_room (Nat.le_of_ble_eq_true rfl)) dL_sees_130 ⟨by show _ ≤ 30; omega, by show _ ≤ 180; omega⟩) hP hD hS hA (fun _ => fQ_ad) (fun q H locs hI hP hD hS => ?_)
        obtain ⟨hP, hD⟩ := sw_PD (L := []) (M := (fQ cy x1 a1 t1 u1 v1 p1 r (sightS σ (v % 8) ((v / 256) % 12) (v % 256) 0 1) (hiN n) fl tx ln)) (T := (fQ cy x a tr s0 s1 pa q (sightS σ (v % 8) ((v / 256) % 12) (v % 256) 0 1) (hiN n) fl tx ln)) hP hD
        have hP : va_P g vwCl (fQ cy x a tr s0 s1 pa q (sightS σ (v % 8) ((v / 256) % 12) (v % 256) 0 1) (hiN n) fl tx ln ++ fQ cy x1 a1 t1 u1 v1 p1 r (sightS σ (v % 8) ((v / 256) % 12) (v % 256) 0 1) (hiN n) fl tx ln) H := hP
        have hD : va_D A (fQ cy x a tr s0 s1 pa q (sightS σ (v % 8) ((v / 256) % 12) (v % 256) 0 1) (hiN n) fl tx ln ++ fQ cy x1 a1 t1 u1 v1 p1 r (sightS σ (v % 8) ((v / 256) % 12) (v % 256) 0 1) (hiN n) fl tx ln) := hD
        refine ti (show an (fSig (sightS σ (v % 8) ((v / 256) % 12) (v % 256) 0 1) (nI (σ 1)) (nI 3)) (nI (nsg (sightS σ (v % 8) ((v / 256) % 12) (v % 256) 0 1) (nI (σ 1)).toNatClampNeg (nI 3).toNatClampNeg)) = (nI (sg (sightS σ (v % 8) ((v / 256) % 12) (v % 256) 0 1) (σ 1) 3)) from (v_sg (w := 3) hWt.n1 (Nat.lt_succ_self _) (by decide))) ?_
        show W _ _ _ _ _ _ _ _ _ _ _ _ _ _ _ (F0 mX 133 ls [.int (nI (sg (sightS σ (v % 8) ((v / 256) % 12) (v % 256) 0 1) (σ 1) 3))])
        refine ti (show (nI (sg (sightS σ (v % 8) ((v / 256) % 12) (v % 256) 0 1) (σ 1) 3)) = (nI (v % 256)) from (congrArg nI (sightS_new (by decide)))) ?_
        refine lv_iload_n hx hb dL_sees_133 rfl (lv_at hl 4 rfl) ?_
        refine lv_icmp_ne (tgt := 141) hx hb dL_sees_134 (by decide) (fun c_134 => absurd rfl c_134) (fun _ => ?_)
        refine lv_iconst (v := (nI 1)) hx hb dL_sees_137 (by decide) ?_
        refine lv_goto (tgt := 142) hx hb dL_sees_138 (by decide) ?_
        refine lv_istore (lv' := [(8, .int (nI 1)), (7, .int (nI (σ 1))), (6, .int (nI 0)), (5, .int (nI d)), (4, .int (nI ((v / 256) % 12))), (3, .int (nI (v % 256))), (0, .ref (x 0)), (1, .ref (x1 0)), (2, .int (nI v))]) hx hb dL_sees_142 hl (by decide) rfl (fun ls hl => ?_)
        refine lv_iload hx hb dL_sees_144 (lv_at hl 3 rfl) ?_
        refine lv_iconst (v := (nI NN)) hx hb dL_sees_146 (by decide) ?_
        refine lv_icmp_eq (tgt := 232) hx hb dL_sees_147 (by decide) (fun c_147 => ?_) (fun c_147 => ?_)
        · have c_147 := (nc_eq9 (by omega) (by decide) c_147)
          refine lv_iload hx hb dL_sees_232 (lv_at hl 0 rfl) ?_
          refine lv_if_eq (tgt := 305) hx hb dL_sees_234 (by decide) (fun c9 => absurd c9 (by decide)) (fun _ => ?_)
          refine lv_aload_n hx hb dL_sees_237 rfl (lv_at hl 6 rfl) ?_
          refine lv_bipush (v := (nI 10)) hx hb dL_sees_238 (by decide) ?_
          refine lv_iconst (v := (nI 0)) hx hb dL_sees_240 (by decide) ?_
          refine lv_iconst (v := (nI 0)) hx hb dL_sees_241 (by decide) ?_
          refine lv_iconst (v := (nI 0)) hx hb dL_sees_242 (by decide) ?_
          obtain ⟨hP, hD⟩ := sw_PD (L := []) (M := (fQ cy x a tr s0 s1 pa q (sightS σ (v % 8) ((v / 256) % 12) (v % 256) 0 1) (hiN n) fl tx ln)) (T := (fQ cy x1 a1 t1 u1 v1 p1 r (sightS σ (v % 8) ((v / 256) % 12) (v % 256) 0 1) (hiN n) fl tx ln)) hP hD
          refine wr_callS (pre := (fQ cy x1 a1 t1 u1 v1 p1 r (sightS σ (v % 8) ((v / 256) % 12) (v % 256) 0 1) (hiN n) fl tx ln)) (wc := fQ cy x a tr s0 s1 pa q (sightS σ (v % 8) ((v / 256) % 12) (v % 256) 0 1) (hiN n) fl tx ln) (va_runS (As := [.ref (x 0), .int (nI 10), .int (nI 0), .int (nI 0), .int (nI 0)]) (rest := []) ⟨hx, hb, hml, hown, hts⟩ (c_L_call_10 l hfl g cy x a tr s0 s1 pa H.size bd q (sightS σ (v % 8) ((v / 256) % 12) (v % 256) 0 1) (hiH Hh n σ) (hiN n) K fl tx ln (nI 0) (nI 0) (nI 0) hI ) ⟨(cB 5 hts wd9_11 wd5_14 wd9_9 rfl rfl (by decide +kernel) ⟨Nat.le_of_ble_eq_true rfl, Nat.le_of_ble_eq_true rfl⟩), hts _ wd9_10⟩ (ps2 (ws := (fQ cy x1 a1 t1 u1 v1 p1 r (sightS σ (v % 8) ((v / 256) % 12) (v % 256) 0 1) (hiN n) fl tx ln) ++ fQ cy x a tr s0 s1 pa q (sightS σ (v % 8) ((v / 256) % 12) (v % 256) 0 1) (hiN n) fl tx ln) hK hP hD hS hA hX hY _ nd_suffix at_suffix) rfl rfl hl.1 rfl (lv_room (Nat.le_of_ble_eq_true rfl)) dL_sees_243 ⟨by show _ ≤ 30; omega, by show _ ≤ 180; omega⟩) hP hD hS hA (fun _ => fQ_ad) (fun q H locs hI hP hD hS => ?_)
          have h9 : fUnd (hiN n) = 0 := (if_neg (by omega))
          simp only [if_pos h9] at hI hP hD
          rw [show (hiH Hh n σ) ((hiN n) - 1) = σ from (hiH_top hn14)] at hI hP hD
          obtain ⟨hP, hD⟩ := sw_PD (L := []) (M := (fQ cy x1 a1 t1 u1 v1 p1 r (sightS σ (v % 8) ((v / 256) % 12) (v % 256) 0 1) (hiN n) fl tx ln)) (T := (fQ cy x a tr s0 s1 pa q σ ((hiN n) - 1) fl tx ln)) hP hD
          have hP : va_P g vwCl (fQ cy x a tr s0 s1 pa q σ ((hiN n) - 1) fl tx ln ++ fQ cy x1 a1 t1 u1 v1 p1 r (sightS σ (v % 8) ((v / 256) % 12) (v % 256) 0 1) (hiN n) fl tx ln) H := hP
          have hD : va_D A (fQ cy x a tr s0 s1 pa q σ ((hiN n) - 1) fl tx ln ++ fQ cy x1 a1 t1 u1 v1 p1 r (sightS σ (v % 8) ((v / 256) % 12) (v % 256) 0 1) (hiN n) fl tx ln) := hD
          refine ti (show an (fUnd (hiN n)) (nI ((hiN n) - 1)) = (nI ((hiN n) - 1)) from (an_0 h9)) ?_
          show W _ _ _ _ _ _ _ _ _ _ _ _ _ _ _ (F0 mX 246 ls [.int (nI ((hiN n) - 1))])
          refine rd_call (va_runS (As := [.int (nI ((hiN n) - 1))]) (rest := []) ⟨hx, hb, hml, hown, hts⟩ (c_L_thrown l (nI ((hiN n) - 1)) ) ⟨(cB 1 hts wd30_0 wd5_14 wd29_22 rfl rfl (by decide +kernel) ⟨Nat.le_of_ble_eq_true rfl, Nat.le_of_ble_eq_true rfl⟩), hts _ wd29_23⟩ p0 rfl rfl hl.1 rfl (lv_room (Nat.le_of_ble_eq_true rfl)) dL_sees_246 ⟨by show _ ≤ 30; omega, by show _ ≤ 180; omega⟩) ?_
          refine ti (show bI (thB (nI ((hiN n) - 1))) = bI false from congrArg bI (thB_n (by omega))) ?_
          show W _ _ _ _ _ _ _ _ _ _ _ _ _ _ _ (F0 mX 249 ls [.int (bI false)])
          refine lv_if_ne (tgt := 305) hx hb dL_sees_249 (by decide) (fun c_249 => ?_) (fun c_249 => ?_)
          · have c_249 := (bI_ne0.mp c_249)
            exact absurd c_249 Bool.false_ne_true
          · have c_249 := (bI_eq0.mp c_249)
            refine lv_aload_n hx hb dL_sees_252 rfl (lv_at hl 7 rfl) ?_
            refine lv_bipush (v := (nI 10)) hx hb dL_sees_253 (by decide) ?_
            refine lv_iconst (v := (nI 0)) hx hb dL_sees_255 (by decide) ?_
            refine lv_iconst (v := (nI 0)) hx hb dL_sees_256 (by decide) ?_
            refine lv_iconst (v := (nI 0)) hx hb dL_sees_257 (by decide) ?_
            refine wr_callS (pre := (fQ cy x a tr s0 s1 pa q σ ((hiN n) - 1) fl tx ln)) (wc := fQ cy x1 a1 t1 u1 v1 p1 r (sightS σ (v % 8) ((v / 256) % 12) (v % 256) 0 1) (hiN n) fl tx ln) (va_runS (As := [.ref (x1 0), .int (nI 10), .int (nI 0), .int (nI 0), .int (nI 0)]) (rest := []) ⟨hx, hb, hml, hown, hts⟩ (c_L_call_10 l hfl g cy x1 a1 t1 u1 v1 p1 H.size bd r (sightS σ (v % 8) ((v / 256) % 12) (v % 256) 0 1) (hiH Hh n σ) (hiN n) K fl tx ln (nI 0) (nI 0) (nI 0) hJ ) ⟨(cB 5 hts wd9_11 wd5_14 wd9_9 rfl rfl (by decide +kernel) ⟨Nat.le_of_ble_eq_true rfl, Nat.le_of_ble_eq_true rfl⟩), hts _ wd9_10⟩ (ps2 (ws := (fQ cy x a tr s0 s1 pa q σ ((hiN n) - 1) fl tx ln) ++ fQ cy x1 a1 t1 u1 v1 p1 r (sightS σ (v % 8) ((v / 256) % 12) (v % 256) 0 1) (hiN n) fl tx ln) hK hP hD hS hA hX hY _ nd_suffix at_suffix) rfl rfl hl.1 rfl (lv_room (Nat.le_of_ble_eq_true rfl)) dL_sees_258 ⟨by show _ ≤ 30; omega, by show _ ≤ 180; omega⟩) hP hD hS hA (fun _ => fQ_ad) (fun r H locs hJ hP hD hS => ?_)
            have h9 : fUnd (hiN n) = 0 := (if_neg (by omega))
            simp only [if_pos h9] at hJ hP hD
            rw [show (hiH Hh n σ) ((hiN n) - 1) = σ from (hiH_top hn14)] at hJ hP hD
            have hP : va_P g vwCl (fQ cy x a tr s0 s1 pa q σ ((hiN n) - 1) fl tx ln ++ fQ cy x1 a1 t1 u1 v1 p1 r σ ((hiN n) - 1) fl tx ln) H := hP
            have hD : va_D A (fQ cy x a tr s0 s1 pa q σ ((hiN n) - 1) fl tx ln ++ fQ cy x1 a1 t1 u1 v1 p1 r σ ((hiN n) - 1) fl tx ln) := hD
            refine ti (show an (fUnd (hiN n)) (nI ((hiN n) - 1)) = (nI ((hiN n) - 1)) from (an_0 h9)) ?_
            show W _ _ _ _ _ _ _ _ _ _ _ _ _ _ _ (F0 mX 261 ls [.int (nI ((hiN n) - 1))])
            refine rd_call (va_runS (As := [.int (nI ((hiN n) - 1))]) (rest := []) ⟨hx, hb, hml, hown, hts⟩ (c_L_thrown l (nI ((hiN n) - 1)) ) ⟨(cB 1 hts wd30_0 wd5_14 wd29_22 rfl rfl (by decide +kernel) ⟨Nat.le_of_ble_eq_true rfl, Nat.le_of_ble_eq_true rfl⟩), hts _ wd29_23⟩ p0 rfl rfl hl.1 rfl (lv_room (Nat.le_of_ble_eq_true rfl)) dL_sees_261 ⟨by show _ ≤ 30; omega, by show _ ≤ 180; omega⟩) ?_
            refine ti (show bI (thB (nI ((hiN n) - 1))) = bI false from congrArg bI (thB_n (by omega))) ?_
            show W _ _ _ _ _ _ _ _ _ _ _ _ _ _ _ (F0 mX 264 ls [.int (bI false)])
            refine lv_if_ne (tgt := 305) hx hb dL_sees_264 (by decide) (fun c_264 => ?_) (fun c_264 => ?_)
            · have c_264 := (bI_ne0.mp c_264)
              exact absurd c_264 Bool.false_ne_true
            · have c_264 := (bI_eq0.mp c_264)
              refine lv_aload_n hx hb dL_sees_267 rfl (lv_at hl 6 rfl) ?_
              refine lv_iconst (v := (nI 2)) hx hb dL_sees_268 (by decide) ?_
              refine lv_iconst (v := (nI 2)) hx hb dL_sees_269 (by decide) ?_
              refine lv_iconst (v := (nI 0)) hx hb dL_sees_270 (by decide) ?_
              refine lv_iconst (v := (nI 0)) hx hb dL_sees_271 (by decide) ?_
              obtain ⟨hP, hD⟩ := sw_PD (L := []) (M := (fQ cy x a tr s0 s1 pa q σ ((hiN n) - 1) fl tx ln)) (T := (fQ cy x1 a1 t1 u1 v1 p1 r σ ((hiN n) - 1) fl tx ln)) hP hD
              refine wr_callS (pre := (fQ cy x1 a1 t1 u1 v1 p1 r σ ((hiN n) - 1) fl tx ln)) (wc := fQ cy x a tr s0 s1 pa q σ ((hiN n) - 1) fl tx ln) (va_runS (As := [.ref (x 0), .int (nI 2), .int (nI 2), .int (nI 0), .int (nI 0)]) (rest := []) ⟨hx, hb, hml, hown, hts⟩ (c_L_call_2 l hfl g cy x a tr s0 s1 pa H.size bd q σ (hiH Hh n σ) ((hiN n) - 1) K fl tx ln (nI 2) (nI 0) (nI 0) hI ) ⟨(cB 5 hts wd9_11 wd5_14 wd9_9 rfl rfl (by decide +kernel) ⟨Nat.le_of_ble_eq_true rfl, Nat.le_of_ble_eq_true rfl⟩), hts _ wd9_10⟩ (ps2 (ws := (fQ cy x1 a1 t1 u1 v1 p1 r σ ((hiN n) - 1) fl tx ln) ++ fQ cy x a tr s0 s1 pa q σ ((hiN n) - 1) fl tx ln) hK hP hD hS hA hX hY _ nd_suffix at_suffix) rfl rfl hl.1 rfl (lv_room (Nat.le_of_ble_eq_true rfl)) dL_sees_272 ⟨by show _ ≤ 30; omega, by show _ ≤ 180; omega⟩) hP hD hS hA (fun _ => fQ_ad) (fun q H locs hI hP hD hS => ?_)
              obtain ⟨hP, hD⟩ := sw_PD (L := []) (M := (fQ cy x1 a1 t1 u1 v1 p1 r σ ((hiN n) - 1) fl tx ln)) (T := (fQ cy x a tr s0 s1 pa q σ ((hiN n) - 1) fl tx ln)) hP hD
              have hP : va_P g vwCl (fQ cy x a tr s0 s1 pa q σ ((hiN n) - 1) fl tx ln ++ fQ cy x1 a1 t1 u1 v1 p1 r σ ((hiN n) - 1) fl tx ln) H := hP
              have hD : va_D A (fQ cy x a tr s0 s1 pa q σ ((hiN n) - 1) fl tx ln ++ fQ cy x1 a1 t1 u1 v1 p1 r σ ((hiN n) - 1) fl tx ln) := hD
              refine ti (show an (fAbo (nI 2)) (nI (nbd σ (nI 2).toNatClampNeg)) = (nI (σ 1)) from (v_ab (w := 2) (by decide))) ?_
              show W _ _ _ _ _ _ _ _ _ _ _ _ _ _ _ (F0 mX 275 ls [.int (nI (σ 1))])
              refine lv_iload hx hb dL_sees_275 (lv_at hl 1 rfl) ?_
              refine lv_icmp_ne (tgt := 305) hx hb dL_sees_277 (by decide) (fun c_277 => absurd rfl c_277) (fun _ => ?_)
              refine lv_iload hx hb dL_sees_280 (lv_at hl 3 rfl) ?_
              refine lv_iconst (v := (nI NN)) hx hb dL_sees_282 (by decide) ?_
              refine lv_icmp_eq (tgt := 301) hx hb dL_sees_283 (by decide) (fun c_283 => ?_) (fun c_283 => ?_)
              · have c_283 := (nc_eq9 (by omega) (by decide) c_283)
                refine lv_iconst (v := (nI 1)) hx hb dL_sees_301 (by decide) ?_
                refine lv_goto (tgt := 306) hx hb dL_sees_302 (by decide) ?_
                exact W.widen (by omega) (by omega) (wr_z (b := true) (q, r, (hiH Hh n σ), ((hiN n) - 1)) rfl rfl ⟨hI, hJ, INV_back hV hn14⟩ hP hS hx hb hr dL_sees_306 hlk)
              · have c_283 := (nc_ne9 (by omega) (by decide) c_283)
                exact absurd hdn c_283
        · have c_147 := (nc_ne9 (by omega) (by decide) c_147)
          exact absurd hdn c_147
    · skip
      obtain ⟨sf1, sf2, sf3, sf4⟩ := see_frd (f := v % 8) (c := (v / 256) % 12) hW hd9 hdn
      refine lv_iload hx hb dL_sees_42 (lv_at hl 0 rfl) ?_
      refine lv_iconst (v := (nI NN)) hx hb dL_sees_44 (by decide) ?_
      refine lv_icmp_ne (tgt := 52) hx hb dL_sees_45 (by decide) (fun c_45 => ?_) (fun c_45 => ?_)
      · have c_45 := (nc_ne9 (by omega) (by decide) c_45)
        refine lv_aload_n hx hb dL_sees_52 rfl (lv_at hl 3 rfl) ?_
        refine lv_bipush (v := (nI 11)) hx hb dL_sees_53 (by decide) ?_
        refine lv_iload hx hb dL_sees_55 (lv_at hl 0 rfl) ?_
        refine lv_iconst (v := (nI 0)) hx hb dL_sees_57 (by decide) ?_
        refine lv_iconst (v := (nI 0)) hx hb dL_sees_58 (by decide) ?_
        obtain ⟨hP, hD⟩ := sw_PD (L := []) (M := (fQ cy x a tr s0 s1 pa q σ n fl tx ln)) (T := (fQ cy x1 a1 t1 u1 v1 p1 r σ n fl tx ln)) hP hD
        refine wr_callS (pre := (fQ cy x1 a1 t1 u1 v1 p1 r σ n fl tx ln)) (wc := fQ cy x a tr s0 s1 pa q σ n fl tx ln) (va_runS (As := [.ref (x 0), .int (nI 11), .int (nI d), .int (nI 0), .int (nI 0)]) (rest := []) ⟨hx, hb, hml, hown, hts⟩ (c_L_call_11 l hfl g cy x a tr s0 s1 pa H.size bd q σ Hh n K fl tx ln (nI d) (nI 0) (nI 0) hI ) ⟨(cB 5 hts wd9_11 wd5_14 wd9_9 rfl rfl (by decide +kernel) ⟨Nat.le_of_ble_eq_true rfl, Nat.le_of_ble_eq_true rfl⟩), hts _ wd9_10⟩ (ps2 (ws := (fQ cy x1 a1 t1 u1 v1 p1 r σ n fl tx ln) ++ fQ cy x a tr s0 s1 pa q σ n fl tx ln) hK hP hD hS hA hX hY _ nd_suffix at_suffix) rfl rfl hl.1 rfl (lv_room (Nat.le_of_ble_eq_true rfl)) dL_sees_59 ⟨by show _ ≤ 30; omega, by show _ ≤ 180; omega⟩) hP hD hS hA (fun _ => fQ_ad) (fun q H locs hI hP hD hS => ?_)
        obtain ⟨hP, hD⟩ := sw_PD (L := []) (M := (fQ cy x1 a1 t1 u1 v1 p1 r σ n fl tx ln)) (T := (fQ cy x a tr s0 s1 pa q σ n fl tx ln)) hP hD
        have hP : va_P g vwCl (fQ cy x a tr s0 s1 pa q σ n fl tx ln ++ fQ cy x1 a1 t1 u1 v1 p1 r σ n fl tx ln) H := hP
        have hD : va_D A (fQ cy x a tr s0 s1 pa q σ n fl tx ln ++ fQ cy x1 a1 t1 u1 v1 p1 r σ n fl tx ln) := hD
        refine ti (show an (fAsk σ (nI d)) (nI (mk (cbe σ (nI d).toNatClampNeg) 12)) = (nI (mk (cbe σ d) 12)) from (v_cb hn0 sf3 sf2)) ?_
        show W _ _ _ _ _ _ _ _ _ _ _ _ _ _ _ (F0 mX 62 ls [.int (nI (mk (cbe σ d) 12))])
        refine lv_istore (lv' := [(6, .int (nI (mk (cbe σ d) 12))), (5, .int (nI d)), (4, .int (nI ((v / 256) % 12))), (3, .int (nI (v % 256))), (0, .ref (x 0)), (1, .ref (x1 0)), (2, .int (nI v))]) hx hb dL_sees_62 hl (by decide) rfl (fun ls hl => ?_)
        refine lv_aload_n hx hb dL_sees_64 rfl (lv_at hl 4 rfl) ?_
        refine lv_iconst (v := (nI 2)) hx hb dL_sees_65 (by decide) ?_
        refine lv_iconst (v := (nI 2)) hx hb dL_sees_66 (by decide) ?_
        refine lv_iconst (v := (nI 0)) hx hb dL_sees_67 (by decide) ?_
        refine lv_iconst (v := (nI 0)) hx hb dL_sees_68 (by decide) ?_
        obtain ⟨hP, hD⟩ := sw_PD (L := []) (M := (fQ cy x a tr s0 s1 pa q σ n fl tx ln)) (T := (fQ cy x1 a1 t1 u1 v1 p1 r σ n fl tx ln)) hP hD
        refine wr_callS (pre := (fQ cy x1 a1 t1 u1 v1 p1 r σ n fl tx ln)) (wc := fQ cy x a tr s0 s1 pa q σ n fl tx ln) (va_runS (As := [.ref (x 0), .int (nI 2), .int (nI 2), .int (nI 0), .int (nI 0)]) (rest := []) ⟨hx, hb, hml, hown, hts⟩ (c_L_call_2 l hfl g cy x a tr s0 s1 pa H.size bd q σ Hh n K fl tx ln (nI 2) (nI 0) (nI 0) hI ) ⟨(cB 5 hts wd9_11 wd5_14 wd9_9 rfl rfl (by decide +kernel) ⟨Nat.le_of_ble_eq_true rfl, Nat.le_of_ble_eq_true rfl⟩), hts _ wd9_10⟩ (ps2 (ws := (fQ cy x1 a1 t1 u1 v1 p1 r σ n fl tx ln) ++ fQ cy x a tr s0 s1 pa q σ n fl tx ln) hK hP hD hS hA hX hY _ nd_suffix at_suffix) rfl rfl hl.1 rfl (lv_room (Nat.le_of_ble_eq_true rfl)) dL_sees_69 ⟨by show _ ≤ 30; omega, by show _ ≤ 180; omega⟩) hP hD hS hA (fun _ => fQ_ad) (fun q H locs hI hP hD hS => ?_)
        obtain ⟨hP, hD⟩ := sw_PD (L := []) (M := (fQ cy x1 a1 t1 u1 v1 p1 r σ n fl tx ln)) (T := (fQ cy x a tr s0 s1 pa q σ n fl tx ln)) hP hD
        have hP : va_P g vwCl (fQ cy x a tr s0 s1 pa q σ n fl tx ln ++ fQ cy x1 a1 t1 u1 v1 p1 r σ n fl tx ln) H := hP
        have hD : va_D A (fQ cy x a tr s0 s1 pa q σ n fl tx ln ++ fQ cy x1 a1 t1 u1 v1 p1 r σ n fl tx ln) := hD
        refine ti (show an (fAbo (nI 2)) (nI (nbd σ (nI 2).toNatClampNeg)) = (nI (σ 1)) from (v_ab (w := 2) (by decide))) ?_
        show W _ _ _ _ _ _ _ _ _ _ _ _ _ _ _ (F0 mX 72 ls [.int (nI (σ 1))])
        refine lv_istore (lv' := [(7, .int (nI (σ 1))), (6, .int (nI (mk (cbe σ d) 12))), (5, .int (nI d)), (4, .int (nI ((v / 256) % 12))), (3, .int (nI (v % 256))), (0, .ref (x 0)), (1, .ref (x1 0)), (2, .int (nI v))]) hx hb dL_sees_72 hl (by decide) rfl (fun ls hl => ?_)
        refine lv_aload_n hx hb dL_sees_74 rfl (lv_at hl 5 rfl) ?_
        refine lv_iload_n hx hb dL_sees_75 rfl (lv_at hl 7 rfl) ?_
        refine lv_bipush (v := (nI 8)) hx hb dL_sees_76 (by decide) ?_
        refine lv_irem hx hb dL_sees_78 (nI_ne0 (by omega) (by omega)) ?_
        refine ti (pk_rem (a := v) (d := 8) (by omega) (by omega) (by omega)) ?_
        refine lv_iload hx hb dL_sees_79 (lv_at hl 3 rfl) ?_
        refine lv_iload_n hx hb dL_sees_81 rfl (lv_at hl 4 rfl) ?_
        refine lv_iconst (v := (nI 0)) hx hb dL_sees_82 (by decide) ?_
        refine lv_iconst (v := (nI 1)) hx hb dL_sees_83 (by decide) ?_
        refine ti (show (nI 1) = (bI true) from rfl) ?_
        obtain ⟨hP, hD⟩ := sw_PD (L := []) (M := (fQ cy x a tr s0 s1 pa q σ n fl tx ln)) (T := (fQ cy x1 a1 t1 u1 v1 p1 r σ n fl tx ln)) hP hD
        refine wr_callS (pre := (fQ cy x1 a1 t1 u1 v1 p1 r σ n fl tx ln)) (wc := fQ cy x a tr s0 s1 pa q σ n fl tx ln) (vx_runSW (hh := [(0, 11, 12, 13), (0, 11, 17, 16), (0, 11, 22, 19)]) (As := [.ref (x 0), .int (nI (v % 8)), .int (nI ((v / 256) % 12)), .int (nI (v % 256)), .int (nI 0), .int (bI true)]) (rest := []) ⟨hx, hb, hml, hown, hts⟩ (c_L_sights l hfl g cy x a tr s0 s1 pa H.size bd q σ Hh n K fl tx ln (nI (v % 8)) (nI ((v / 256) % 12)) (nI (v % 256)) (nI 0) true hI ) (vx_cwSW 6 hts (hl_in wd25_15 wd5_14 wd25_13 wd25_14) rfl rfl rfl (by decide +kernel) ⟨Nat.le_of_ble_eq_true rfl, Nat.le_of_ble_eq_true rfl⟩) (ps2 (ws := (fQ cy x1 a1 t1 u1 v1 p1 r σ n fl tx ln) ++ fQ cy x a tr s0 s1 pa q σ n fl tx ln) hK hP hD hS hA hX hY _ nd_suffix at_suffix) rfl rfl hl.1 rfl (lv_room (Nat.le_of_ble_eq_true rfl)) dL_sees_84 ⟨by show _ ≤ 30; omega, by show _ ≤ 180; omega⟩) hP hD hS hA (fun _ => fQ_ad) (fun q H locs hI hP hD hS => ?_)
        have h9 : fTell σ (nI (v % 8)) (nI ((v / 256) % 12)) (nI (v % 256)) (nI 0) = 0 := (by rw [fTell_in (by omega) (by omega) (by omega) (by omega) (by omega), if_pos (Nat.zero_le _), if_neg (by omega)])
        simp only [if_pos h9] at hI hP hD
        rw [show sightR σ (nI (v % 8)) (nI ((v / 256) % 12)) (nI (v % 256)) (nI 0) true = sightS σ (v % 8) ((v / 256) % 12) (v % 256) 0 1 from (sightR_0 (ph := true) (by omega) (by omega) (by omega) (by omega) h9).1] at hI hP hD
        obtain ⟨hP, hD⟩ := sw_PD (L := []) (M := (fQ cy x1 a1 t1 u1 v1 p1 r σ n fl tx ln)) (T := (fQ cy x a tr s0 s1 pa q (sightS σ (v % 8) ((v / 256) % 12) (v % 256) 0 1) (hiN n) fl tx ln)) hP hD
        have hP : va_P g vwCl (fQ cy x a tr s0 s1 pa q (sightS σ (v % 8) ((v / 256) % 12) (v % 256) 0 1) (hiN n) fl tx ln ++ fQ cy x1 a1 t1 u1 v1 p1 r σ n fl tx ln) H := hP
        have hD : va_D A (fQ cy x a tr s0 s1 pa q (sightS σ (v % 8) ((v / 256) % 12) (v % 256) 0 1) (hiN n) fl tx ln ++ fQ cy x1 a1 t1 u1 v1 p1 r σ n fl tx ln) := hD
        refine ti (show an (fTell σ (nI (v % 8)) (nI ((v / 256) % 12)) (nI (v % 256)) (nI 0)) (nI (sightA σ (nI (v % 8)) (nI ((v / 256) % 12)) (nI (v % 256)) (nI 0))) = (nI d) from (by rw [an_0 h9, (sightR_0 (ph := true) (by omega) (by omega) (by omega) (by omega) h9).2]; exact congrArg nI hd9)) ?_
        show W _ _ _ _ _ _ _ _ _ _ _ _ _ _ _ (F0 mX 87 ls [.int (nI d)])
        refine lv_iload hx hb dL_sees_87 (lv_at hl 2 rfl) ?_
        refine lv_icmp_ne (tgt := 141) hx hb dL_sees_89 (by decide) (fun c_89 => absurd rfl c_89) (fun _ => ?_)
        refine lv_aload_n hx hb dL_sees_92 rfl (lv_at hl 6 rfl) ?_
        refine lv_iload_n hx hb dL_sees_93 rfl (lv_at hl 7 rfl) ?_
        refine lv_bipush (v := (nI 8)) hx hb dL_sees_94 (by decide) ?_
        refine lv_irem hx hb dL_sees_96 (nI_ne0 (by omega) (by omega)) ?_
        refine ti (pk_rem (a := v) (d := 8) (by omega) (by omega) (by omega)) ?_
        refine lv_iload hx hb dL_sees_97 (lv_at hl 3 rfl) ?_
        refine lv_iload_n hx hb dL_sees_99 rfl (lv_at hl 4 rfl) ?_
        refine lv_iconst (v := (nI 0)) hx hb dL_sees_100 (by decide) ?_
        refine lv_iconst (v := (nI 1)) hx hb dL_sees_101 (by decide) ?_
        refine ti (show (nI 1) = (bI true) from rfl) ?_
        refine wr_callS (pre := (fQ cy x a tr s0 s1 pa q (sightS σ (v % 8) ((v / 256) % 12) (v % 256) 0 1) (hiN n) fl tx ln)) (wc := fQ cy x1 a1 t1 u1 v1 p1 r σ n fl tx ln) (vx_runSW (hh := [(0, 11, 12, 13), (0, 11, 17, 16), (0, 11, 22, 19)]) (As := [.ref (x1 0), .int (nI (v % 8)), .int (nI ((v / 256) % 12)), .int (nI (v % 256)), .int (nI 0), .int (bI true)]) (rest := []) ⟨hx, hb, hml, hown, hts⟩ (c_L_sights l hfl g cy x1 a1 t1 u1 v1 p1 H.size bd r σ Hh n K fl tx ln (nI (v % 8)) (nI ((v / 256) % 12)) (nI (v % 256)) (nI 0) true hJ ) (vx_cwSW 6 hts (hl_in wd25_15 wd5_14 wd25_13 wd25_14) rfl rfl rfl (by decide +kernel) ⟨Nat.le_of_ble_eq_true rfl, Nat.le_of_ble_eq_true rfl⟩) (ps2 (ws := (fQ cy x a tr s0 s1 pa q (sightS σ (v % 8) ((v / 256) % 12) (v % 256) 0 1) (hiN n) fl tx ln) ++ fQ cy x1 a1 t1 u1 v1 p1 r σ n fl tx ln) hK hP hD hS hA hX hY _ nd_suffix at_suffix) rfl rfl hl.1 rfl (lv_room (Nat.le_of_ble_eq_true rfl)) dL_sees_102 ⟨by show _ ≤ 30; omega, by show _ ≤ 180; omega⟩) hP hD hS hA (fun _ => fQ_ad) (fun r H locs hJ hP hD hS => ?_)
        have h9 : fTell σ (nI (v % 8)) (nI ((v / 256) % 12)) (nI (v % 256)) (nI 0) = 0 := (by rw [fTell_in (by omega) (by omega) (by omega) (by omega) (by omega), if_pos (Nat.zero_le _), if_neg (by omega)])
        simp only [if_pos h9] at hJ hP hD
        rw [show sightR σ (nI (v % 8)) (nI ((v / 256) % 12)) (nI (v % 256)) (nI 0) true = sightS σ (v % 8) ((v / 256) % 12) (v % 256) 0 1 from (sightR_0 (ph := true) (by omega) (by omega) (by omega) (by omega) h9).1] at hJ hP hD
        have hP : va_P g vwCl (fQ cy x a tr s0 s1 pa q (sightS σ (v % 8) ((v / 256) % 12) (v % 256) 0 1) (hiN n) fl tx ln ++ fQ cy x1 a1 t1 u1 v1 p1 r (sightS σ (v % 8) ((v / 256) % 12) (v % 256) 0 1) (hiN n) fl tx ln) H := hP
        have hD : va_D A (fQ cy x a tr s0 s1 pa q (sightS σ (v % 8) ((v / 256) % 12) (v % 256) 0 1) (hiN n) fl tx ln ++ fQ cy x1 a1 t1 u1 v1 p1 r (sightS σ (v % 8) ((v / 256) % 12) (v % 256) 0 1) (hiN n) fl tx ln) := hD
        refine ti (show an (fTell σ (nI (v % 8)) (nI ((v / 256) % 12)) (nI (v % 256)) (nI 0)) (nI (sightA σ (nI (v % 8)) (nI ((v / 256) % 12)) (nI (v % 256)) (nI 0))) = (nI d) from (by rw [an_0 h9, (sightR_0 (ph := true) (by omega) (by omega) (by omega) (by omega) h9).2]; exact congrArg nI hd9)) ?_
        show W _ _ _ _ _ _ _ _ _ _ _ _ _ _ _ (F0 mX 105 ls [.int (nI d)])
        refine lv_iload hx hb dL_sees_105 (lv_at hl 2 rfl) ?_
        refine lv_icmp_ne (tgt := 141) hx hb dL_sees_107 (by decide) (fun c_107 => absurd rfl c_107) (fun _ => ?_)
        have hWt := fI_wf hI
        refine lv_aload_n hx hb dL_sees_110 rfl (lv_at hl 5 rfl) ?_
        refine lv_iconst (v := (nI 4)) hx hb dL_sees_111 (by decide) ?_
        refine lv_iload hx hb dL_sees_112 (lv_at hl 0 rfl) ?_
        refine lv_iconst (v := (nI 5)) hx hb dL_sees_114 (by decide) ?_
        refine lv_iconst (v := (nI 0)) hx hb dL_sees_115 (by decide) ?_
        obtain ⟨hP, hD⟩ := sw_PD (L := []) (M := (fQ cy x a tr s0 s1 pa q (sightS σ (v % 8) ((v / 256) % 12) (v % 256) 0 1) (hiN n) fl tx ln)) (T := (fQ cy x1 a1 t1 u1 v1 p1 r (sightS σ (v % 8) ((v / 256) % 12) (v % 256) 0 1) (hiN n) fl tx ln)) hP hD
        refine wr_callS (pre := (fQ cy x1 a1 t1 u1 v1 p1 r (sightS σ (v % 8) ((v / 256) % 12) (v % 256) 0 1) (hiN n) fl tx ln)) (wc := fQ cy x a tr s0 s1 pa q (sightS σ (v % 8) ((v / 256) % 12) (v % 256) 0 1) (hiN n) fl tx ln) (va_runS (As := [.ref (x 0), .int (nI 4), .int (nI (σ 1)), .int (nI 5), .int (nI 0)]) (rest := []) ⟨hx, hb, hml, hown, hts⟩ (c_L_call_4 l hfl g cy x a tr s0 s1 pa H.size bd q (sightS σ (v % 8) ((v / 256) % 12) (v % 256) 0 1) (hiH Hh n σ) (hiN n) K fl tx ln (nI (σ 1)) (nI 5) (nI 0) hI ) ⟨(cB 5 hts wd9_11 wd5_14 wd9_9 rfl rfl (by decide +kernel) ⟨Nat.le_of_ble_eq_true rfl, Nat.le_of_ble_eq_true rfl⟩), hts _ wd9_10⟩ (ps2 (ws := (fQ cy x1 a1 t1 u1 v1 p1 r (sightS σ (v % 8) ((v / 256) % 12) (v % 256) 0 1) (hiN n) fl tx ln) ++ fQ cy x a tr s0 s1 pa q (sightS σ (v % 8) ((v / 256) % 12) (v % 256) 0 1) (hiN n) fl tx ln) hK hP hD hS hA hX hY _ nd_suffix at_suffix) rfl rfl hl.1 rfl (lv_room (Nat.le_of_ble_eq_true rfl)) dL_sees_116 ⟨by show _ ≤ 30; omega, by show _ ≤ 180; omega⟩) hP hD hS hA (fun _ => fQ_ad) (fun q H locs hI hP hD hS => ?_)
        obtain ⟨hP, hD⟩ := sw_PD (L := []) (M := (fQ cy x1 a1 t1 u1 v1 p1 r (sightS σ (v % 8) ((v / 256) % 12) (v % 256) 0 1) (hiN n) fl tx ln)) (T := (fQ cy x a tr s0 s1 pa q (sightS σ (v % 8) ((v / 256) % 12) (v % 256) 0 1) (hiN n) fl tx ln)) hP hD
        have hP : va_P g vwCl (fQ cy x a tr s0 s1 pa q (sightS σ (v % 8) ((v / 256) % 12) (v % 256) 0 1) (hiN n) fl tx ln ++ fQ cy x1 a1 t1 u1 v1 p1 r (sightS σ (v % 8) ((v / 256) % 12) (v % 256) 0 1) (hiN n) fl tx ln) H := hP
        have hD : va_D A (fQ cy x a tr s0 s1 pa q (sightS σ (v % 8) ((v / 256) % 12) (v % 256) 0 1) (hiN n) fl tx ln ++ fQ cy x1 a1 t1 u1 v1 p1 r (sightS σ (v % 8) ((v / 256) % 12) (v % 256) 0 1) (hiN n) fl tx ln) := hD
        refine ti (show an (fSig (sightS σ (v % 8) ((v / 256) % 12) (v % 256) 0 1) (nI (σ 1)) (nI 5)) (nI (nsg (sightS σ (v % 8) ((v / 256) % 12) (v % 256) 0 1) (nI (σ 1)).toNatClampNeg (nI 5).toNatClampNeg)) = (nI (sg (sightS σ (v % 8) ((v / 256) % 12) (v % 256) 0 1) (σ 1) 5)) from (v_sg (w := 5) hWt.n1 (Nat.lt_succ_self _) (by decide))) ?_
        show W _ _ _ _ _ _ _ _ _ _ _ _ _ _ _ (F0 mX 119 ls [.int (nI (sg (sightS σ (v % 8) ((v / 256) % 12) (v % 256) 0 1) (σ 1) 5))])
        refine ti (show (nI (sg (sightS σ (v % 8) ((v / 256) % 12) (v % 256) 0 1) (σ 1) 5)) = (nI d) from (congrArg nI ((sightS_new (σ := σ) (f := v % 8) (c := (v / 256) % 12) (m := v % 256) (ago := 0) (ph := 1) (k := 5) (by decide)).trans hd9))) ?_
        refine lv_iload hx hb dL_sees_119 (lv_at hl 2 rfl) ?_
        refine lv_icmp_ne (tgt := 141) hx hb dL_sees_121 (by decide) (fun c_121 => absurd rfl c_121) (fun _ => ?_)
        refine lv_aload_n hx hb dL_sees_124 rfl (lv_at hl 5 rfl) ?_
        refine lv_iconst (v := (nI 4)) hx hb dL_sees_125 (by decide) ?_
        refine lv_iload hx hb dL_sees_126 (lv_at hl 0 rfl) ?_
        refine lv_iconst (v := (nI 3)) hx hb dL_sees_128 (by decide) ?_
        refine lv_iconst (v := (nI 0)) hx hb dL_sees_129 (by decide) ?_
        obtain ⟨hP, hD⟩ := sw_PD (L := []) (M := (fQ cy x a tr s0 s1 pa q (sightS σ (v % 8) ((v / 256) % 12) (v % 256) 0 1) (hiN n) fl tx ln)) (T := (fQ cy x1 a1 t1 u1 v1 p1 r (sightS σ (v % 8) ((v / 256) % 12) (v % 256) 0 1) (hiN n) fl tx ln)) hP hD
        refine wr_callS (pre := (fQ cy x1 a1 t1 u1 v1 p1 r (sightS σ (v % 8) ((v / 256) % 12) (v % 256) 0 1) (hiN n) fl tx ln)) (wc := fQ cy x a tr s0 s1 pa q (sightS σ (v % 8) ((v / 256) % 12) (v % 256) 0 1) (hiN n) fl tx ln) (va_runS (As := [.ref (x 0), .int (nI 4), .int (nI (σ 1)), .int (nI 3), .int (nI 0)]) (rest := []) ⟨hx, hb, hml, hown, hts⟩ (c_L_call_4 l hfl g cy x a tr s0 s1 pa H.size bd q (sightS σ (v % 8) ((v / 256) % 12) (v % 256) 0 1) (hiH Hh n σ) (hiN n) K fl tx ln (nI (σ 1)) (nI 3) (nI 0) hI ) ⟨(cB 5 hts wd9_11 wd5_14 wd9_9 rfl rfl (by decide +kernel) ⟨Nat.le_of_ble_eq_true rfl, Nat.le_of_ble_eq_true rfl⟩), hts _ wd9_10⟩ (ps2 (ws := (fQ cy x1 a1 t1 u1 v1 p1 r (sightS σ (v % 8) ((v / 256) % 12) (v % 256) 0 1) (hiN n) fl tx ln) ++ fQ cy x a tr s0 s1 pa q (sightS σ (v % 8) ((v / 256) % 12) (v % 256) 0 1) (hiN n) fl tx ln) hK hP hD hS hA hX hY _ nd_suffix at_suffix) rfl rfl hl.1 rfl (lv_room (Nat.le_of_ble_eq_true rfl)) dL_sees_130 ⟨by show _ ≤ 30; omega, by show _ ≤ 180; omega⟩) hP hD hS hA (fun _ => fQ_ad) (fun q H locs hI hP hD hS => ?_)
        obtain ⟨hP, hD⟩ := sw_PD (L := []) (M := (fQ cy x1 a1 t1 u1 v1 p1 r (sightS σ (v % 8) ((v / 256) % 12) (v % 256) 0 1) (hiN n) fl tx ln)) (T := (fQ cy x a tr s0 s1 pa q (sightS σ (v % 8) ((v / 256) % 12) (v % 256) 0 1) (hiN n) fl tx ln)) hP hD
        have hP : va_P g vwCl (fQ cy x a tr s0 s1 pa q (sightS σ (v % 8) ((v / 256) % 12) (v % 256) 0 1) (hiN n) fl tx ln ++ fQ cy x1 a1 t1 u1 v1 p1 r (sightS σ (v % 8) ((v / 256) % 12) (v % 256) 0 1) (hiN n) fl tx ln) H := hP
        have hD : va_D A (fQ cy x a tr s0 s1 pa q (sightS σ (v % 8) ((v / 256) % 12) (v % 256) 0 1) (hiN n) fl tx ln ++ fQ cy x1 a1 t1 u1 v1 p1 r (sightS σ (v % 8) ((v / 256) % 12) (v % 256) 0 1) (hiN n) fl tx ln) := hD
        refine ti (show an (fSig (sightS σ (v % 8) ((v / 256) % 12) (v % 256) 0 1) (nI (σ 1)) (nI 3)) (nI (nsg (sightS σ (v % 8) ((v / 256) % 12) (v % 256) 0 1) (nI (σ 1)).toNatClampNeg (nI 3).toNatClampNeg)) = (nI (sg (sightS σ (v % 8) ((v / 256) % 12) (v % 256) 0 1) (σ 1) 3)) from (v_sg (w := 3) hWt.n1 (Nat.lt_succ_self _) (by decide))) ?_
        show W _ _ _ _ _ _ _ _ _ _ _ _ _ _ _ (F0 mX 133 ls [.int (nI (sg (sightS σ (v % 8) ((v / 256) % 12) (v % 256) 0 1) (σ 1) 3))])
        refine ti (show (nI (sg (sightS σ (v % 8) ((v / 256) % 12) (v % 256) 0 1) (σ 1) 3)) = (nI (v % 256)) from (congrArg nI (sightS_new (by decide)))) ?_
        refine lv_iload_n hx hb dL_sees_133 rfl (lv_at hl 4 rfl) ?_
        refine lv_icmp_ne (tgt := 141) hx hb dL_sees_134 (by decide) (fun c_134 => absurd rfl c_134) (fun _ => ?_)
        refine lv_iconst (v := (nI 1)) hx hb dL_sees_137 (by decide) ?_
        refine lv_goto (tgt := 142) hx hb dL_sees_138 (by decide) ?_
        refine lv_istore (lv' := [(8, .int (nI 1)), (7, .int (nI (σ 1))), (6, .int (nI (mk (cbe σ d) 12))), (5, .int (nI d)), (4, .int (nI ((v / 256) % 12))), (3, .int (nI (v % 256))), (0, .ref (x 0)), (1, .ref (x1 0)), (2, .int (nI v))]) hx hb dL_sees_142 hl (by decide) rfl (fun ls hl => ?_)
        refine lv_iload hx hb dL_sees_144 (lv_at hl 3 rfl) ?_
        refine lv_iconst (v := (nI NN)) hx hb dL_sees_146 (by decide) ?_
        refine lv_icmp_eq (tgt := 232) hx hb dL_sees_147 (by decide) (fun c_147 => ?_) (fun c_147 => ?_)
        · have c_147 := (nc_eq9 (by omega) (by decide) c_147)
          exact absurd c_147 hdn
        · have c_147 := (nc_ne9 (by omega) (by decide) c_147)
          refine lv_aload_n hx hb dL_sees_150 rfl (lv_at hl 6 rfl) ?_
          refine lv_bipush (v := (nI 11)) hx hb dL_sees_151 (by decide) ?_
          refine lv_iload hx hb dL_sees_153 (lv_at hl 3 rfl) ?_
          refine lv_iconst (v := (nI 0)) hx hb dL_sees_155 (by decide) ?_
          refine lv_iconst (v := (nI 0)) hx hb dL_sees_156 (by decide) ?_
          obtain ⟨hP, hD⟩ := sw_PD (L := []) (M := (fQ cy x a tr s0 s1 pa q (sightS σ (v % 8) ((v / 256) % 12) (v % 256) 0 1) (hiN n) fl tx ln)) (T := (fQ cy x1 a1 t1 u1 v1 p1 r (sightS σ (v % 8) ((v / 256) % 12) (v % 256) 0 1) (hiN n) fl tx ln)) hP hD
          refine wr_callS (pre := (fQ cy x1 a1 t1 u1 v1 p1 r (sightS σ (v % 8) ((v / 256) % 12) (v % 256) 0 1) (hiN n) fl tx ln)) (wc := fQ cy x a tr s0 s1 pa q (sightS σ (v % 8) ((v / 256) % 12) (v % 256) 0 1) (hiN n) fl tx ln) (va_runS (As := [.ref (x 0), .int (nI 11), .int (nI d), .int (nI 0), .int (nI 0)]) (rest := []) ⟨hx, hb, hml, hown, hts⟩ (c_L_call_11 l hfl g cy x a tr s0 s1 pa H.size bd q (sightS σ (v % 8) ((v / 256) % 12) (v % 256) 0 1) (hiH Hh n σ) (hiN n) K fl tx ln (nI d) (nI 0) (nI 0) hI ) ⟨(cB 5 hts wd9_11 wd5_14 wd9_9 rfl rfl (by decide +kernel) ⟨Nat.le_of_ble_eq_true rfl, Nat.le_of_ble_eq_true rfl⟩), hts _ wd9_10⟩ (ps2 (ws := (fQ cy x1 a1 t1 u1 v1 p1 r (sightS σ (v % 8) ((v / 256) % 12) (v % 256) 0 1) (hiN n) fl tx ln) ++ fQ cy x a tr s0 s1 pa q (sightS σ (v % 8) ((v / 256) % 12) (v % 256) 0 1) (hiN n) fl tx ln) hK hP hD hS hA hX hY _ nd_suffix at_suffix) rfl rfl hl.1 rfl (lv_room (Nat.le_of_ble_eq_true rfl)) dL_sees_157 ⟨by show _ ≤ 30; omega, by show _ ≤ 180; omega⟩) hP hD hS hA (fun _ => fQ_ad) (fun q H locs hI hP hD hS => ?_)
          obtain ⟨hP, hD⟩ := sw_PD (L := []) (M := (fQ cy x1 a1 t1 u1 v1 p1 r (sightS σ (v % 8) ((v / 256) % 12) (v % 256) 0 1) (hiN n) fl tx ln)) (T := (fQ cy x a tr s0 s1 pa q (sightS σ (v % 8) ((v / 256) % 12) (v % 256) 0 1) (hiN n) fl tx ln)) hP hD
          have hP : va_P g vwCl (fQ cy x a tr s0 s1 pa q (sightS σ (v % 8) ((v / 256) % 12) (v % 256) 0 1) (hiN n) fl tx ln ++ fQ cy x1 a1 t1 u1 v1 p1 r (sightS σ (v % 8) ((v / 256) % 12) (v % 256) 0 1) (hiN n) fl tx ln) H := hP
          have hD : va_D A (fQ cy x a tr s0 s1 pa q (sightS σ (v % 8) ((v / 256) % 12) (v % 256) 0 1) (hiN n) fl tx ln ++ fQ cy x1 a1 t1 u1 v1 p1 r (sightS σ (v % 8) ((v / 256) % 12) (v % 256) 0 1) (hiN n) fl tx ln) := hD
          refine ti (show an (fAsk (sightS σ (v % 8) ((v / 256) % 12) (v % 256) 0 1) (nI d)) (nI (mk (cbe (sightS σ (v % 8) ((v / 256) % 12) (v % 256) 0 1) (nI d).toNatClampNeg) 12)) = (nI (mk (cbe (sightS σ (v % 8) ((v / 256) % 12) (v % 256) 0 1) d) 12)) from (v_cb hWt.n0 sf3 (by rw [see_m (by omega)]; exact sf2))) ?_
          show W _ _ _ _ _ _ _ _ _ _ _ _ _ _ _ (F0 mX 160 ls [.int (nI (mk (cbe (sightS σ (v % 8) ((v / 256) % 12) (v % 256) 0 1) d) 12))])
          refine lv_istore (lv' := [(9, .int (nI (mk (cbe (sightS σ (v % 8) ((v / 256) % 12) (v % 256) 0 1) d) 12))), (8, .int (nI 1)), (7, .int (nI (σ 1))), (6, .int (nI (mk (cbe σ d) 12))), (5, .int (nI d)), (4, .int (nI ((v / 256) % 12))), (3, .int (nI (v % 256))), (0, .ref (x 0)), (1, .ref (x1 0)), (2, .int (nI v))]) hx hb dL_sees_160 hl (by decide) rfl (fun ls hl => ?_)
          by_cases tt : tru (sightS σ (v % 8) ((v / 256) % 12) (v % 256) 0 1) (σ 1) = true
          · skip
            refine lv_aload_n hx hb dL_sees_162 rfl (lv_at hl 7 rfl) ?_
            refine lv_iconst (v := (nI 4)) hx hb dL_sees_163 (by decide) ?_
            refine lv_iload hx hb dL_sees_164 (lv_at hl 2 rfl) ?_
            refine lv_bipush (v := (nI 7)) hx hb dL_sees_166 (by decide) ?_
            refine lv_iconst (v := (nI 0)) hx hb dL_sees_168 (by decide) ?_
            obtain ⟨hP, hD⟩ := sw_PD (L := []) (M := (fQ cy x a tr s0 s1 pa q (sightS σ (v % 8) ((v / 256) % 12) (v % 256) 0 1) (hiN n) fl tx ln)) (T := (fQ cy x1 a1 t1 u1 v1 p1 r (sightS σ (v % 8) ((v / 256) % 12) (v % 256) 0 1) (hiN n) fl tx ln)) hP hD
            refine wr_callS (pre := (fQ cy x1 a1 t1 u1 v1 p1 r (sightS σ (v % 8) ((v / 256) % 12) (v % 256) 0 1) (hiN n) fl tx ln)) (wc := fQ cy x a tr s0 s1 pa q (sightS σ (v % 8) ((v / 256) % 12) (v % 256) 0 1) (hiN n) fl tx ln) (va_runS (As := [.ref (x 0), .int (nI 4), .int (nI (σ 1)), .int (nI 7), .int (nI 0)]) (rest := []) ⟨hx, hb, hml, hown, hts⟩ (c_L_call_4 l hfl g cy x a tr s0 s1 pa H.size bd q (sightS σ (v % 8) ((v / 256) % 12) (v % 256) 0 1) (hiH Hh n σ) (hiN n) K fl tx ln (nI (σ 1)) (nI 7) (nI 0) hI ) ⟨(cB 5 hts wd9_11 wd5_14 wd9_9 rfl rfl (by decide +kernel) ⟨Nat.le_of_ble_eq_true rfl, Nat.le_of_ble_eq_true rfl⟩), hts _ wd9_10⟩ (ps2 (ws := (fQ cy x1 a1 t1 u1 v1 p1 r (sightS σ (v % 8) ((v / 256) % 12) (v % 256) 0 1) (hiN n) fl tx ln) ++ fQ cy x a tr s0 s1 pa q (sightS σ (v % 8) ((v / 256) % 12) (v % 256) 0 1) (hiN n) fl tx ln) hK hP hD hS hA hX hY _ nd_suffix at_suffix) rfl rfl hl.1 rfl (lv_room (Nat.le_of_ble_eq_true rfl)) dL_sees_169 ⟨by show _ ≤ 30; omega, by show _ ≤ 180; omega⟩) hP hD hS hA (fun _ => fQ_ad) (fun q H locs hI hP hD hS => ?_)
            obtain ⟨hP, hD⟩ := sw_PD (L := []) (M := (fQ cy x1 a1 t1 u1 v1 p1 r (sightS σ (v % 8) ((v / 256) % 12) (v % 256) 0 1) (hiN n) fl tx ln)) (T := (fQ cy x a tr s0 s1 pa q (sightS σ (v % 8) ((v / 256) % 12) (v % 256) 0 1) (hiN n) fl tx ln)) hP hD
            have hP : va_P g vwCl (fQ cy x a tr s0 s1 pa q (sightS σ (v % 8) ((v / 256) % 12) (v % 256) 0 1) (hiN n) fl tx ln ++ fQ cy x1 a1 t1 u1 v1 p1 r (sightS σ (v % 8) ((v / 256) % 12) (v % 256) 0 1) (hiN n) fl tx ln) H := hP
            have hD : va_D A (fQ cy x a tr s0 s1 pa q (sightS σ (v % 8) ((v / 256) % 12) (v % 256) 0 1) (hiN n) fl tx ln ++ fQ cy x1 a1 t1 u1 v1 p1 r (sightS σ (v % 8) ((v / 256) % 12) (v % 256) 0 1) (hiN n) fl tx ln) := hD
            refine ti (show an (fSig (sightS σ (v % 8) ((v / 256) % 12) (v % 256) 0 1) (nI (σ 1)) (nI 7)) (nI (nsg (sightS σ (v % 8) ((v / 256) % 12) (v % 256) 0 1) (nI (σ 1)).toNatClampNeg (nI 7).toNatClampNeg)) = (nI (if sg (sightS σ (v % 8) ((v / 256) % 12) (v % 256) 0 1) (σ 1) 5 = NN then NN else if tru (sightS σ (v % 8) ((v / 256) % 12) (v % 256) 0 1) (σ 1) then 1 else 0)) from (v_sg (w := 7) hWt.n1 (Nat.lt_succ_self _) (by decide))) ?_
            show W _ _ _ _ _ _ _ _ _ _ _ _ _ _ _ (F0 mX 172 ls [.int (nI (if sg (sightS σ (v % 8) ((v / 256) % 12) (v % 256) 0 1) (σ 1) 5 = NN then NN else if tru (sightS σ (v % 8) ((v / 256) % 12) (v % 256) 0 1) (σ 1) then 1 else 0))])
            refine ti (show (nI (if sg (sightS σ (v % 8) ((v / 256) % 12) (v % 256) 0 1) (σ 1) 5 = NN then NN else if tru (sightS σ (v % 8) ((v / 256) % 12) (v % 256) 0 1) (σ 1) then 1 else 0)) = (nI 1) from (by rw [if_neg (by rw [sf4]; exact hdn), if_pos tt])) ?_
            refine lv_istore (lv' := [(10, .int (nI 1)), (9, .int (nI (mk (cbe (sightS σ (v % 8) ((v / 256) % 12) (v % 256) 0 1) d) 12))), (8, .int (nI 1)), (7, .int (nI (σ 1))), (6, .int (nI (mk (cbe σ d) 12))), (5, .int (nI d)), (4, .int (nI ((v / 256) % 12))), (3, .int (nI (v % 256))), (0, .ref (x 0)), (1, .ref (x1 0)), (2, .int (nI v))]) hx hb dL_sees_172 hl (by decide) rfl (fun ls hl => ?_)
            refine lv_iload hx hb dL_sees_174 (lv_at hl 2 rfl) ?_
            refine lv_if_eq (tgt := 229) hx hb dL_sees_176 (by decide) (fun c9 => absurd c9 (by decide)) (fun _ => ?_)
            refine lv_aload_n hx hb dL_sees_179 rfl (lv_at hl 8 rfl) ?_
            refine lv_iconst (v := (nI 4)) hx hb dL_sees_180 (by decide) ?_
            refine lv_iload hx hb dL_sees_181 (lv_at hl 3 rfl) ?_
            refine lv_bipush (v := (nI 8)) hx hb dL_sees_183 (by decide) ?_
            refine lv_iconst (v := (nI 0)) hx hb dL_sees_185 (by decide) ?_
            obtain ⟨hP, hD⟩ := sw_PD (L := []) (M := (fQ cy x a tr s0 s1 pa q (sightS σ (v % 8) ((v / 256) % 12) (v % 256) 0 1) (hiN n) fl tx ln)) (T := (fQ cy x1 a1 t1 u1 v1 p1 r (sightS σ (v % 8) ((v / 256) % 12) (v % 256) 0 1) (hiN n) fl tx ln)) hP hD
            refine wr_callS (pre := (fQ cy x1 a1 t1 u1 v1 p1 r (sightS σ (v % 8) ((v / 256) % 12) (v % 256) 0 1) (hiN n) fl tx ln)) (wc := fQ cy x a tr s0 s1 pa q (sightS σ (v % 8) ((v / 256) % 12) (v % 256) 0 1) (hiN n) fl tx ln) (va_runS (As := [.ref (x 0), .int (nI 4), .int (nI (σ 1)), .int (nI 8), .int (nI 0)]) (rest := []) ⟨hx, hb, hml, hown, hts⟩ (c_L_call_4 l hfl g cy x a tr s0 s1 pa H.size bd q (sightS σ (v % 8) ((v / 256) % 12) (v % 256) 0 1) (hiH Hh n σ) (hiN n) K fl tx ln (nI (σ 1)) (nI 8) (nI 0) hI ) ⟨(cB 5 hts wd9_11 wd5_14 wd9_9 rfl rfl (by decide +kernel) ⟨Nat.le_of_ble_eq_true rfl, Nat.le_of_ble_eq_true rfl⟩), hts _ wd9_10⟩ (ps2 (ws := (fQ cy x1 a1 t1 u1 v1 p1 r (sightS σ (v % 8) ((v / 256) % 12) (v % 256) 0 1) (hiN n) fl tx ln) ++ fQ cy x a tr s0 s1 pa q (sightS σ (v % 8) ((v / 256) % 12) (v % 256) 0 1) (hiN n) fl tx ln) hK hP hD hS hA hX hY _ nd_suffix at_suffix) rfl rfl hl.1 rfl (lv_room (Nat.le_of_ble_eq_true rfl)) dL_sees_186 ⟨by show _ ≤ 30; omega, by show _ ≤ 180; omega⟩) hP hD hS hA (fun _ => fQ_ad) (fun q H locs hI hP hD hS => ?_)
            obtain ⟨hP, hD⟩ := sw_PD (L := []) (M := (fQ cy x1 a1 t1 u1 v1 p1 r (sightS σ (v % 8) ((v / 256) % 12) (v % 256) 0 1) (hiN n) fl tx ln)) (T := (fQ cy x a tr s0 s1 pa q (sightS σ (v % 8) ((v / 256) % 12) (v % 256) 0 1) (hiN n) fl tx ln)) hP hD
            have hP : va_P g vwCl (fQ cy x a tr s0 s1 pa q (sightS σ (v % 8) ((v / 256) % 12) (v % 256) 0 1) (hiN n) fl tx ln ++ fQ cy x1 a1 t1 u1 v1 p1 r (sightS σ (v % 8) ((v / 256) % 12) (v % 256) 0 1) (hiN n) fl tx ln) H := hP
            have hD : va_D A (fQ cy x a tr s0 s1 pa q (sightS σ (v % 8) ((v / 256) % 12) (v % 256) 0 1) (hiN n) fl tx ln ++ fQ cy x1 a1 t1 u1 v1 p1 r (sightS σ (v % 8) ((v / 256) % 12) (v % 256) 0 1) (hiN n) fl tx ln) := hD
            refine ti (show an (fSig (sightS σ (v % 8) ((v / 256) % 12) (v % 256) 0 1) (nI (σ 1)) (nI 8)) (nI (nsg (sightS σ (v % 8) ((v / 256) % 12) (v % 256) 0 1) (nI (σ 1)).toNatClampNeg (nI 8).toNatClampNeg)) = (nI (if frd (sightS σ (v % 8) ((v / 256) % 12) (v % 256) 0 1) (σ 1) then 1 else 0)) from (v_sg (w := 8) hWt.n1 (Nat.lt_succ_self _) (by decide))) ?_
            show W _ _ _ _ _ _ _ _ _ _ _ _ _ _ _ (F0 mX 189 ls [.int (nI (if frd (sightS σ (v % 8) ((v / 256) % 12) (v % 256) 0 1) (σ 1) then 1 else 0))])
            refine ti (show (nI (if frd (sightS σ (v % 8) ((v / 256) % 12) (v % 256) 0 1) (σ 1) then 1 else 0)) = (nI 0) from (by rw [sf1, tt]; rfl)) ?_
            refine lv_iconst (v := (nI 1)) hx hb dL_sees_189 (by decide) ?_
            refine lv_iload hx hb dL_sees_190 (lv_at hl 0 rfl) ?_
            refine lv_isub hx hb dL_sees_192 ?_
            refine ti (pk_sub (a := 1) (b := 1) (by omega)) ?_
            refine lv_icmp_ne (tgt := 229) hx hb dL_sees_193 (by decide) (fun c_193 => ?_) (fun c_193 => ?_)
            · have c_193 := (nc_ne9 (by omega) (by omega) c_193)
              omega
            · have c_193 := (nc_eq9 (by omega) (by omega) c_193)
              refine lv_iload hx hb dL_sees_196 (lv_at hl 0 rfl) ?_
              refine lv_if_ne (tgt := 211) hx hb dL_sees_198 (by decide) (fun c_198 => ?_) (fun c_198 => ?_)
              · have c_198 := (nz_ne c_198 (by omega))
                have ml9 := mk_lt (cbe (sightS σ (v % 8) ((v / 256) % 12) (v % 256) 0 1) d) 12
                have pw9 : 2 ^ ((v / 256) % 12) < 2 ^ 12 := Nat.pow_lt_pow_right (by decide) (by omega)
                refine lv_iload hx hb dL_sees_211 (lv_at hl 1 rfl) ?_
                refine lv_if_eq (tgt := 225) hx hb dL_sees_213 (by decide) (fun c_213 => ?_) (fun c_213 => ?_)
                · have c_213 := (nz_eq c_213 (by omega))
                  refine lv_iconst (v := (nI 1)) hx hb dL_sees_225 (by decide) ?_
                  refine lv_goto (tgt := 230) hx hb dL_sees_226 (by decide) ?_
                  refine lv_istore (lv' := [(8, .int (nI 1)), (10, .int (nI 1)), (9, .int (nI (mk (cbe (sightS σ (v % 8) ((v / 256) % 12) (v % 256) 0 1) d) 12))), (7, .int (nI (σ 1))), (6, .int (nI (mk (cbe σ d) 12))), (5, .int (nI d)), (4, .int (nI ((v / 256) % 12))), (3, .int (nI (v % 256))), (0, .ref (x 0)), (1, .ref (x1 0)), (2, .int (nI v))]) hx hb dL_sees_230 hl (by decide) rfl (fun ls hl => ?_)
                  refine lv_iload hx hb dL_sees_232 (lv_at hl 0 rfl) ?_
                  refine lv_if_eq (tgt := 305) hx hb dL_sees_234 (by decide) (fun c9 => absurd c9 (by decide)) (fun _ => ?_)
                  refine lv_aload_n hx hb dL_sees_237 rfl (lv_at hl 8 rfl) ?_
                  refine lv_bipush (v := (nI 10)) hx hb dL_sees_238 (by decide) ?_
                  refine lv_iconst (v := (nI 0)) hx hb dL_sees_240 (by decide) ?_
                  refine lv_iconst (v := (nI 0)) hx hb dL_sees_241 (by decide) ?_
                  refine lv_iconst (v := (nI 0)) hx hb dL_sees_242 (by decide) ?_
                  obtain ⟨hP, hD⟩ := sw_PD (L := []) (M := (fQ cy x a tr s0 s1 pa q (sightS σ (v % 8) ((v / 256) % 12) (v % 256) 0 1) (hiN n) fl tx ln)) (T := (fQ cy x1 a1 t1 u1 v1 p1 r (sightS σ (v % 8) ((v / 256) % 12) (v % 256) 0 1) (hiN n) fl tx ln)) hP hD
                  refine wr_callS (pre := (fQ cy x1 a1 t1 u1 v1 p1 r (sightS σ (v % 8) ((v / 256) % 12) (v % 256) 0 1) (hiN n) fl tx ln)) (wc := fQ cy x a tr s0 s1 pa q (sightS σ (v % 8) ((v / 256) % 12) (v % 256) 0 1) (hiN n) fl tx ln) (va_runS (As := [.ref (x 0), .int (nI 10), .int (nI 0), .int (nI 0), .int (nI 0)]) (rest := []) ⟨hx, hb, hml, hown, hts⟩ (c_L_call_10 l hfl g cy x a tr s0 s1 pa H.size bd q (sightS σ (v % 8) ((v / 256) % 12) (v % 256) 0 1) (hiH Hh n σ) (hiN n) K fl tx ln (nI 0) (nI 0) (nI 0) hI ) ⟨(cB 5 hts wd9_11 wd5_14 wd9_9 rfl rfl (by decide +kernel) ⟨Nat.le_of_ble_eq_true rfl, Nat.le_of_ble_eq_true rfl⟩), hts _ wd9_10⟩ (ps2 (ws := (fQ cy x1 a1 t1 u1 v1 p1 r (sightS σ (v % 8) ((v / 256) % 12) (v % 256) 0 1) (hiN n) fl tx ln) ++ fQ cy x a tr s0 s1 pa q (sightS σ (v % 8) ((v / 256) % 12) (v % 256) 0 1) (hiN n) fl tx ln) hK hP hD hS hA hX hY _ nd_suffix at_suffix) rfl rfl hl.1 rfl (lv_room (Nat.le_of_ble_eq_true rfl)) dL_sees_243 ⟨by show _ ≤ 30; omega, by show _ ≤ 180; omega⟩) hP hD hS hA (fun _ => fQ_ad) (fun q H locs hI hP hD hS => ?_)
                  have h9 : fUnd (hiN n) = 0 := (if_neg (by omega))
                  simp only [if_pos h9] at hI hP hD
                  rw [show (hiH Hh n σ) ((hiN n) - 1) = σ from (hiH_top hn14)] at hI hP hD
                  obtain ⟨hP, hD⟩ := sw_PD (L := []) (M := (fQ cy x1 a1 t1 u1 v1 p1 r (sightS σ (v % 8) ((v / 256) % 12) (v % 256) 0 1) (hiN n) fl tx ln)) (T := (fQ cy x a tr s0 s1 pa q σ ((hiN n) - 1) fl tx ln)) hP hD
                  have hP : va_P g vwCl (fQ cy x a tr s0 s1 pa q σ ((hiN n) - 1) fl tx ln ++ fQ cy x1 a1 t1 u1 v1 p1 r (sightS σ (v % 8) ((v / 256) % 12) (v % 256) 0 1) (hiN n) fl tx ln) H := hP
                  have hD : va_D A (fQ cy x a tr s0 s1 pa q σ ((hiN n) - 1) fl tx ln ++ fQ cy x1 a1 t1 u1 v1 p1 r (sightS σ (v % 8) ((v / 256) % 12) (v % 256) 0 1) (hiN n) fl tx ln) := hD
                  refine ti (show an (fUnd (hiN n)) (nI ((hiN n) - 1)) = (nI ((hiN n) - 1)) from (an_0 h9)) ?_
                  show W _ _ _ _ _ _ _ _ _ _ _ _ _ _ _ (F0 mX 246 ls [.int (nI ((hiN n) - 1))])
                  refine rd_call (va_runS (As := [.int (nI ((hiN n) - 1))]) (rest := []) ⟨hx, hb, hml, hown, hts⟩ (c_L_thrown l (nI ((hiN n) - 1)) ) ⟨(cB 1 hts wd30_0 wd5_14 wd29_22 rfl rfl (by decide +kernel) ⟨Nat.le_of_ble_eq_true rfl, Nat.le_of_ble_eq_true rfl⟩), hts _ wd29_23⟩ p0 rfl rfl hl.1 rfl (lv_room (Nat.le_of_ble_eq_true rfl)) dL_sees_246 ⟨by show _ ≤ 30; omega, by show _ ≤ 180; omega⟩) ?_
                  refine ti (show bI (thB (nI ((hiN n) - 1))) = bI false from congrArg bI (thB_n (by omega))) ?_
                  show W _ _ _ _ _ _ _ _ _ _ _ _ _ _ _ (F0 mX 249 ls [.int (bI false)])
                  refine lv_if_ne (tgt := 305) hx hb dL_sees_249 (by decide) (fun c_249 => ?_) (fun c_249 => ?_)
                  · have c_249 := (bI_ne0.mp c_249)
                    exact absurd c_249 Bool.false_ne_true
                  · have c_249 := (bI_eq0.mp c_249)
                    refine lv_aload_n hx hb dL_sees_252 rfl (lv_at hl 9 rfl) ?_
                    refine lv_bipush (v := (nI 10)) hx hb dL_sees_253 (by decide) ?_
                    refine lv_iconst (v := (nI 0)) hx hb dL_sees_255 (by decide) ?_
                    refine lv_iconst (v := (nI 0)) hx hb dL_sees_256 (by decide) ?_
                    refine lv_iconst (v := (nI 0)) hx hb dL_sees_257 (by decide) ?_
                    refine wr_callS (pre := (fQ cy x a tr s0 s1 pa q σ ((hiN n) - 1) fl tx ln)) (wc := fQ cy x1 a1 t1 u1 v1 p1 r (sightS σ (v % 8) ((v / 256) % 12) (v % 256) 0 1) (hiN n) fl tx ln) (va_runS (As := [.ref (x1 0), .int (nI 10), .int (nI 0), .int (nI 0), .int (nI 0)]) (rest := []) ⟨hx, hb, hml, hown, hts⟩ (c_L_call_10 l hfl g cy x1 a1 t1 u1 v1 p1 H.size bd r (sightS σ (v % 8) ((v / 256) % 12) (v % 256) 0 1) (hiH Hh n σ) (hiN n) K fl tx ln (nI 0) (nI 0) (nI 0) hJ ) ⟨(cB 5 hts wd9_11 wd5_14 wd9_9 rfl rfl (by decide +kernel) ⟨Nat.le_of_ble_eq_true rfl, Nat.le_of_ble_eq_true rfl⟩), hts _ wd9_10⟩ (ps2 (ws := (fQ cy x a tr s0 s1 pa q σ ((hiN n) - 1) fl tx ln) ++ fQ cy x1 a1 t1 u1 v1 p1 r (sightS σ (v % 8) ((v / 256) % 12) (v % 256) 0 1) (hiN n) fl tx ln) hK hP hD hS hA hX hY _ nd_suffix at_suffix) rfl rfl hl.1 rfl (lv_room (Nat.le_of_ble_eq_true rfl)) dL_sees_258 ⟨by show _ ≤ 30; omega, by show _ ≤ 180; omega⟩) hP hD hS hA (fun _ => fQ_ad) (fun r H locs hJ hP hD hS => ?_)
                    have h9 : fUnd (hiN n) = 0 := (if_neg (by omega))
                    simp only [if_pos h9] at hJ hP hD
                    rw [show (hiH Hh n σ) ((hiN n) - 1) = σ from (hiH_top hn14)] at hJ hP hD
                    have hP : va_P g vwCl (fQ cy x a tr s0 s1 pa q σ ((hiN n) - 1) fl tx ln ++ fQ cy x1 a1 t1 u1 v1 p1 r σ ((hiN n) - 1) fl tx ln) H := hP
                    have hD : va_D A (fQ cy x a tr s0 s1 pa q σ ((hiN n) - 1) fl tx ln ++ fQ cy x1 a1 t1 u1 v1 p1 r σ ((hiN n) - 1) fl tx ln) := hD
                    refine ti (show an (fUnd (hiN n)) (nI ((hiN n) - 1)) = (nI ((hiN n) - 1)) from (an_0 h9)) ?_
                    show W _ _ _ _ _ _ _ _ _ _ _ _ _ _ _ (F0 mX 261 ls [.int (nI ((hiN n) - 1))])
                    refine rd_call (va_runS (As := [.int (nI ((hiN n) - 1))]) (rest := []) ⟨hx, hb, hml, hown, hts⟩ (c_L_thrown l (nI ((hiN n) - 1)) ) ⟨(cB 1 hts wd30_0 wd5_14 wd29_22 rfl rfl (by decide +kernel) ⟨Nat.le_of_ble_eq_true rfl, Nat.le_of_ble_eq_true rfl⟩), hts _ wd29_23⟩ p0 rfl rfl hl.1 rfl (lv_room (Nat.le_of_ble_eq_true rfl)) dL_sees_261 ⟨by show _ ≤ 30; omega, by show _ ≤ 180; omega⟩) ?_
                    refine ti (show bI (thB (nI ((hiN n) - 1))) = bI false from congrArg bI (thB_n (by omega))) ?_
                    show W _ _ _ _ _ _ _ _ _ _ _ _ _ _ _ (F0 mX 264 ls [.int (bI false)])
                    refine lv_if_ne (tgt := 305) hx hb dL_sees_264 (by decide) (fun c_264 => ?_) (fun c_264 => ?_)
                    · have c_264 := (bI_ne0.mp c_264)
                      exact absurd c_264 Bool.false_ne_true
                    · have c_264 := (bI_eq0.mp c_264)
                      refine lv_aload_n hx hb dL_sees_267 rfl (lv_at hl 8 rfl) ?_
                      refine lv_iconst (v := (nI 2)) hx hb dL_sees_268 (by decide) ?_
                      refine lv_iconst (v := (nI 2)) hx hb dL_sees_269 (by decide) ?_
                      refine lv_iconst (v := (nI 0)) hx hb dL_sees_270 (by decide) ?_
                      refine lv_iconst (v := (nI 0)) hx hb dL_sees_271 (by decide) ?_
                      obtain ⟨hP, hD⟩ := sw_PD (L := []) (M := (fQ cy x a tr s0 s1 pa q σ ((hiN n) - 1) fl tx ln)) (T := (fQ cy x1 a1 t1 u1 v1 p1 r σ ((hiN n) - 1) fl tx ln)) hP hD
                      refine wr_callS (pre := (fQ cy x1 a1 t1 u1 v1 p1 r σ ((hiN n) - 1) fl tx ln)) (wc := fQ cy x a tr s0 s1 pa q σ ((hiN n) - 1) fl tx ln) (va_runS (As := [.ref (x 0), .int (nI 2), .int (nI 2), .int (nI 0), .int (nI 0)]) (rest := []) ⟨hx, hb, hml, hown, hts⟩ (c_L_call_2 l hfl g cy x a tr s0 s1 pa H.size bd q σ (hiH Hh n σ) ((hiN n) - 1) K fl tx ln (nI 2) (nI 0) (nI 0) hI ) ⟨(cB 5 hts wd9_11 wd5_14 wd9_9 rfl rfl (by decide +kernel) ⟨Nat.le_of_ble_eq_true rfl, Nat.le_of_ble_eq_true rfl⟩), hts _ wd9_10⟩ (ps2 (ws := (fQ cy x1 a1 t1 u1 v1 p1 r σ ((hiN n) - 1) fl tx ln) ++ fQ cy x a tr s0 s1 pa q σ ((hiN n) - 1) fl tx ln) hK hP hD hS hA hX hY _ nd_suffix at_suffix) rfl rfl hl.1 rfl (lv_room (Nat.le_of_ble_eq_true rfl)) dL_sees_272 ⟨by show _ ≤ 30; omega, by show _ ≤ 180; omega⟩) hP hD hS hA (fun _ => fQ_ad) (fun q H locs hI hP hD hS => ?_)
                      obtain ⟨hP, hD⟩ := sw_PD (L := []) (M := (fQ cy x1 a1 t1 u1 v1 p1 r σ ((hiN n) - 1) fl tx ln)) (T := (fQ cy x a tr s0 s1 pa q σ ((hiN n) - 1) fl tx ln)) hP hD
                      have hP : va_P g vwCl (fQ cy x a tr s0 s1 pa q σ ((hiN n) - 1) fl tx ln ++ fQ cy x1 a1 t1 u1 v1 p1 r σ ((hiN n) - 1) fl tx ln) H := hP
                      have hD : va_D A (fQ cy x a tr s0 s1 pa q σ ((hiN n) - 1) fl tx ln ++ fQ cy x1 a1 t1 u1 v1 p1 r σ ((hiN n) - 1) fl tx ln) := hD
                      refine ti (show an (fAbo (nI 2)) (nI (nbd σ (nI 2).toNatClampNeg)) = (nI (σ 1)) from (v_ab (w := 2) (by decide))) ?_
                      show W _ _ _ _ _ _ _ _ _ _ _ _ _ _ _ (F0 mX 275 ls [.int (nI (σ 1))])
                      refine lv_iload hx hb dL_sees_275 (lv_at hl 3 rfl) ?_
                      refine lv_icmp_ne (tgt := 305) hx hb dL_sees_277 (by decide) (fun c_277 => absurd rfl c_277) (fun _ => ?_)
                      refine lv_iload hx hb dL_sees_280 (lv_at hl 5 rfl) ?_
                      refine lv_iconst (v := (nI NN)) hx hb dL_sees_282 (by decide) ?_
                      refine lv_icmp_eq (tgt := 301) hx hb dL_sees_283 (by decide) (fun c_283 => ?_) (fun c_283 => ?_)
                      · have c_283 := (nc_eq9 (by omega) (by decide) c_283)
                        exact absurd c_283 hdn
                      · have c_283 := (nc_ne9 (by omega) (by decide) c_283)
                        refine lv_aload_n hx hb dL_sees_286 rfl (lv_at hl 8 rfl) ?_
                        refine lv_bipush (v := (nI 11)) hx hb dL_sees_287 (by decide) ?_
                        refine lv_iload hx hb dL_sees_289 (lv_at hl 5 rfl) ?_
                        refine lv_iconst (v := (nI 0)) hx hb dL_sees_291 (by decide) ?_
                        refine lv_iconst (v := (nI 0)) hx hb dL_sees_292 (by decide) ?_
                        obtain ⟨hP, hD⟩ := sw_PD (L := []) (M := (fQ cy x a tr s0 s1 pa q σ ((hiN n) - 1) fl tx ln)) (T := (fQ cy x1 a1 t1 u1 v1 p1 r σ ((hiN n) - 1) fl tx ln)) hP hD
                        refine wr_callS (pre := (fQ cy x1 a1 t1 u1 v1 p1 r σ ((hiN n) - 1) fl tx ln)) (wc := fQ cy x a tr s0 s1 pa q σ ((hiN n) - 1) fl tx ln) (va_runS (As := [.ref (x 0), .int (nI 11), .int (nI d), .int (nI 0), .int (nI 0)]) (rest := []) ⟨hx, hb, hml, hown, hts⟩ (c_L_call_11 l hfl g cy x a tr s0 s1 pa H.size bd q σ (hiH Hh n σ) ((hiN n) - 1) K fl tx ln (nI d) (nI 0) (nI 0) hI ) ⟨(cB 5 hts wd9_11 wd5_14 wd9_9 rfl rfl (by decide +kernel) ⟨Nat.le_of_ble_eq_true rfl, Nat.le_of_ble_eq_true rfl⟩), hts _ wd9_10⟩ (ps2 (ws := (fQ cy x1 a1 t1 u1 v1 p1 r σ ((hiN n) - 1) fl tx ln) ++ fQ cy x a tr s0 s1 pa q σ ((hiN n) - 1) fl tx ln) hK hP hD hS hA hX hY _ nd_suffix at_suffix) rfl rfl hl.1 rfl (lv_room (Nat.le_of_ble_eq_true rfl)) dL_sees_293 ⟨by show _ ≤ 30; omega, by show _ ≤ 180; omega⟩) hP hD hS hA (fun _ => fQ_ad) (fun q H locs hI hP hD hS => ?_)
                        obtain ⟨hP, hD⟩ := sw_PD (L := []) (M := (fQ cy x1 a1 t1 u1 v1 p1 r σ ((hiN n) - 1) fl tx ln)) (T := (fQ cy x a tr s0 s1 pa q σ ((hiN n) - 1) fl tx ln)) hP hD
                        have hP : va_P g vwCl (fQ cy x a tr s0 s1 pa q σ ((hiN n) - 1) fl tx ln ++ fQ cy x1 a1 t1 u1 v1 p1 r σ ((hiN n) - 1) fl tx ln) H := hP
                        have hD : va_D A (fQ cy x a tr s0 s1 pa q σ ((hiN n) - 1) fl tx ln ++ fQ cy x1 a1 t1 u1 v1 p1 r σ ((hiN n) - 1) fl tx ln) := hD
                        refine ti (show an (fAsk σ (nI d)) (nI (mk (cbe σ (nI d).toNatClampNeg) 12)) = (nI (mk (cbe σ d) 12)) from (v_cb hn0 sf3 sf2)) ?_
                        show W _ _ _ _ _ _ _ _ _ _ _ _ _ _ _ (F0 mX 296 ls [.int (nI (mk (cbe σ d) 12))])
                        refine lv_iload hx hb dL_sees_296 (lv_at hl 4 rfl) ?_
                        refine lv_icmp_ne (tgt := 305) hx hb dL_sees_298 (by decide) (fun c_298 => absurd rfl c_298) (fun _ => ?_)
                        refine lv_iconst (v := (nI 1)) hx hb dL_sees_301 (by decide) ?_
                        refine lv_goto (tgt := 306) hx hb dL_sees_302 (by decide) ?_
                        exact W.widen (by omega) (by omega) (wr_z (b := true) (q, r, (hiH Hh n σ), ((hiN n) - 1)) rfl rfl ⟨hI, hJ, INV_back hV hn14⟩ hP hS hx hb hr dL_sees_306 hlk)
                · have c_213 := (nz_ne c_213 (by omega))
                  have s9 := (see_1 hW (by omega) hd9 hdn tt).resolve_left c_213
                  refine lv_iload hx hb dL_sees_216 (lv_at hl 1 rfl) ?_
                  refine lv_iconst (v := (nI 1)) hx hb dL_sees_218 (by decide) ?_
                  refine lv_iload hx hb dL_sees_219 (lv_at hl 6 rfl) ?_
                  refine lv_ishl hx hb dL_sees_221 ?_
                  refine ti (nb_shl (k := ((v / 256) % 12)) (by omega)) ?_
                  refine lv_icmp_ne (tgt := 229) hx hb dL_sees_222 (by decide) (fun c_222 => ?_) (fun c_222 => ?_)
                  · have c_222 := (nc_ne9 (by omega) (by omega) c_222)
                    exact absurd s9 c_222
                  · have c_222 := (nc_eq9 (by omega) (by omega) c_222)
                    refine lv_iconst (v := (nI 1)) hx hb dL_sees_225 (by decide) ?_
                    refine lv_goto (tgt := 230) hx hb dL_sees_226 (by decide) ?_
                    refine lv_istore (lv' := [(8, .int (nI 1)), (10, .int (nI 1)), (9, .int (nI (mk (cbe (sightS σ (v % 8) ((v / 256) % 12) (v % 256) 0 1) d) 12))), (7, .int (nI (σ 1))), (6, .int (nI (mk (cbe σ d) 12))), (5, .int (nI d)), (4, .int (nI ((v / 256) % 12))), (3, .int (nI (v % 256))), (0, .ref (x 0)), (1, .ref (x1 0)), (2, .int (nI v))]) hx hb dL_sees_230 hl (by decide) rfl (fun ls hl => ?_)
                    refine lv_iload hx hb dL_sees_232 (lv_at hl 0 rfl) ?_
                    refine lv_if_eq (tgt := 305) hx hb dL_sees_234 (by decide) (fun c9 => absurd c9 (by decide)) (fun _ => ?_)
                    refine lv_aload_n hx hb dL_sees_237 rfl (lv_at hl 8 rfl) ?_
                    refine lv_bipush (v := (nI 10)) hx hb dL_sees_238 (by decide) ?_
                    refine lv_iconst (v := (nI 0)) hx hb dL_sees_240 (by decide) ?_
                    refine lv_iconst (v := (nI 0)) hx hb dL_sees_241 (by decide) ?_
                    refine lv_iconst (v := (nI 0)) hx hb dL_sees_242 (by decide) ?_
                    obtain ⟨hP, hD⟩ := sw_PD (L := []) (M := (fQ cy x a tr s0 s1 pa q (sightS σ (v % 8) ((v / 256) % 12) (v % 256) 0 1) (hiN n) fl tx ln)) (T := (fQ cy x1 a1 t1 u1 v1 p1 r (sightS σ (v % 8) ((v / 256) % 12) (v % 256) 0 1) (hiN n) fl tx ln)) hP hD
                    refine wr_callS (pre := (fQ cy x1 a1 t1 u1 v1 p1 r (sightS σ (v % 8) ((v / 256) % 12) (v % 256) 0 1) (hiN n) fl tx ln)) (wc := fQ cy x a tr s0 s1 pa q (sightS σ (v % 8) ((v / 256) % 12) (v % 256) 0 1) (hiN n) fl tx ln) (va_runS (As := [.ref (x 0), .int (nI 10), .int (nI 0), .int (nI 0), .int (nI 0)]) (rest := []) ⟨hx, hb, hml, hown, hts⟩ (c_L_call_10 l hfl g cy x a tr s0 s1 pa H.size bd q (sightS σ (v % 8) ((v / 256) % 12) (v % 256) 0 1) (hiH Hh n σ) (hiN n) K fl tx ln (nI 0) (nI 0) (nI 0) hI ) ⟨(cB 5 hts wd9_11 wd5_14 wd9_9 rfl rfl (by decide +kernel) ⟨Nat.le_of_ble_eq_true rfl, Nat.le_of_ble_eq_true rfl⟩), hts _ wd9_10⟩ (ps2 (ws := (fQ cy x1 a1 t1 u1 v1 p1 r (sightS σ (v % 8) ((v / 256) % 12) (v % 256) 0 1) (hiN n) fl tx ln) ++ fQ cy x a tr s0 s1 pa q (sightS σ (v % 8) ((v / 256) % 12) (v % 256) 0 1) (hiN n) fl tx ln) hK hP hD hS hA hX hY _ nd_suffix at_suffix) rfl rfl hl.1 rfl (lv_room (Nat.le_of_ble_eq_true rfl)) dL_sees_243 ⟨by show _ ≤ 30; omega, by show _ ≤ 180; omega⟩) hP hD hS hA (fun _ => fQ_ad) (fun q H locs hI hP hD hS => ?_)
                    have h9 : fUnd (hiN n) = 0 := (if_neg (by omega))
                    simp only [if_pos h9] at hI hP hD
                    rw [show (hiH Hh n σ) ((hiN n) - 1) = σ from (hiH_top hn14)] at hI hP hD
                    obtain ⟨hP, hD⟩ := sw_PD (L := []) (M := (fQ cy x1 a1 t1 u1 v1 p1 r (sightS σ (v % 8) ((v / 256) % 12) (v % 256) 0 1) (hiN n) fl tx ln)) (T := (fQ cy x a tr s0 s1 pa q σ ((hiN n) - 1) fl tx ln)) hP hD
                    have hP : va_P g vwCl (fQ cy x a tr s0 s1 pa q σ ((hiN n) - 1) fl tx ln ++ fQ cy x1 a1 t1 u1 v1 p1 r (sightS σ (v % 8) ((v / 256) % 12) (v % 256) 0 1) (hiN n) fl tx ln) H := hP
                    have hD : va_D A (fQ cy x a tr s0 s1 pa q σ ((hiN n) - 1) fl tx ln ++ fQ cy x1 a1 t1 u1 v1 p1 r (sightS σ (v % 8) ((v / 256) % 12) (v % 256) 0 1) (hiN n) fl tx ln) := hD
                    refine ti (show an (fUnd (hiN n)) (nI ((hiN n) - 1)) = (nI ((hiN n) - 1)) from (an_0 h9)) ?_
                    show W _ _ _ _ _ _ _ _ _ _ _ _ _ _ _ (F0 mX 246 ls [.int (nI ((hiN n) - 1))])
                    refine rd_call (va_runS (As := [.int (nI ((hiN n) - 1))]) (rest := []) ⟨hx, hb, hml, hown, hts⟩ (c_L_thrown l (nI ((hiN n) - 1)) ) ⟨(cB 1 hts wd30_0 wd5_14 wd29_22 rfl rfl (by decide +kernel) ⟨Nat.le_of_ble_eq_true rfl, Nat.le_of_ble_eq_true rfl⟩), hts _ wd29_23⟩ p0 rfl rfl hl.1 rfl (lv_room (Nat.le_of_ble_eq_true rfl)) dL_sees_246 ⟨by show _ ≤ 30; omega, by show _ ≤ 180; omega⟩) ?_
                    refine ti (show bI (thB (nI ((hiN n) - 1))) = bI false from congrArg bI (thB_n (by omega))) ?_
                    show W _ _ _ _ _ _ _ _ _ _ _ _ _ _ _ (F0 mX 249 ls [.int (bI false)])
                    refine lv_if_ne (tgt := 305) hx hb dL_sees_249 (by decide) (fun c_249 => ?_) (fun c_249 => ?_)
                    · have c_249 := (bI_ne0.mp c_249)
                      exact absurd c_249 Bool.false_ne_true
                    · have c_249 := (bI_eq0.mp c_249)
                      refine lv_aload_n hx hb dL_sees_252 rfl (lv_at hl 9 rfl) ?_
                      refine lv_bipush (v := (nI 10)) hx hb dL_sees_253 (by decide) ?_
                      refine lv_iconst (v := (nI 0)) hx hb dL_sees_255 (by decide) ?_
                      refine lv_iconst (v := (nI 0)) hx hb dL_sees_256 (by decide) ?_
                      refine lv_iconst (v := (nI 0)) hx hb dL_sees_257 (by decide) ?_
                      refine wr_callS (pre := (fQ cy x a tr s0 s1 pa q σ ((hiN n) - 1) fl tx ln)) (wc := fQ cy x1 a1 t1 u1 v1 p1 r (sightS σ (v % 8) ((v / 256) % 12) (v % 256) 0 1) (hiN n) fl tx ln) (va_runS (As := [.ref (x1 0), .int (nI 10), .int (nI 0), .int (nI 0), .int (nI 0)]) (rest := []) ⟨hx, hb, hml, hown, hts⟩ (c_L_call_10 l hfl g cy x1 a1 t1 u1 v1 p1 H.size bd r (sightS σ (v % 8) ((v / 256) % 12) (v % 256) 0 1) (hiH Hh n σ) (hiN n) K fl tx ln (nI 0) (nI 0) (nI 0) hJ ) ⟨(cB 5 hts wd9_11 wd5_14 wd9_9 rfl rfl (by decide +kernel) ⟨Nat.le_of_ble_eq_true rfl, Nat.le_of_ble_eq_true rfl⟩), hts _ wd9_10⟩ (ps2 (ws := (fQ cy x a tr s0 s1 pa q σ ((hiN n) - 1) fl tx ln) ++ fQ cy x1 a1 t1 u1 v1 p1 r (sightS σ (v % 8) ((v / 256) % 12) (v % 256) 0 1) (hiN n) fl tx ln) hK hP hD hS hA hX hY _ nd_suffix at_suffix) rfl rfl hl.1 rfl (lv_room (Nat.le_of_ble_eq_true rfl)) dL_sees_258 ⟨by show _ ≤ 30; omega, by show _ ≤ 180; omega⟩) hP hD hS hA (fun _ => fQ_ad) (fun r H locs hJ hP hD hS => ?_)
                      have h9 : fUnd (hiN n) = 0 := (if_neg (by omega))
                      simp only [if_pos h9] at hJ hP hD
                      rw [show (hiH Hh n σ) ((hiN n) - 1) = σ from (hiH_top hn14)] at hJ hP hD
                      have hP : va_P g vwCl (fQ cy x a tr s0 s1 pa q σ ((hiN n) - 1) fl tx ln ++ fQ cy x1 a1 t1 u1 v1 p1 r σ ((hiN n) - 1) fl tx ln) H := hP
                      have hD : va_D A (fQ cy x a tr s0 s1 pa q σ ((hiN n) - 1) fl tx ln ++ fQ cy x1 a1 t1 u1 v1 p1 r σ ((hiN n) - 1) fl tx ln) := hD
                      refine ti (show an (fUnd (hiN n)) (nI ((hiN n) - 1)) = (nI ((hiN n) - 1)) from (an_0 h9)) ?_
                      show W _ _ _ _ _ _ _ _ _ _ _ _ _ _ _ (F0 mX 261 ls [.int (nI ((hiN n) - 1))])
                      refine rd_call (va_runS (As := [.int (nI ((hiN n) - 1))]) (rest := []) ⟨hx, hb, hml, hown, hts⟩ (c_L_thrown l (nI ((hiN n) - 1)) ) ⟨(cB 1 hts wd30_0 wd5_14 wd29_22 rfl rfl (by decide +kernel) ⟨Nat.le_of_ble_eq_true rfl, Nat.le_of_ble_eq_true rfl⟩), hts _ wd29_23⟩ p0 rfl rfl hl.1 rfl (lv_room (Nat.le_of_ble_eq_true rfl)) dL_sees_261 ⟨by show _ ≤ 30; omega, by show _ ≤ 180; omega⟩) ?_
                      refine ti (show bI (thB (nI ((hiN n) - 1))) = bI false from congrArg bI (thB_n (by omega))) ?_
                      show W _ _ _ _ _ _ _ _ _ _ _ _ _ _ _ (F0 mX 264 ls [.int (bI false)])
                      refine lv_if_ne (tgt := 305) hx hb dL_sees_264 (by decide) (fun c_264 => ?_) (fun c_264 => ?_)
                      · have c_264 := (bI_ne0.mp c_264)
                        exact absurd c_264 Bool.false_ne_true
                      · have c_264 := (bI_eq0.mp c_264)
                        refine lv_aload_n hx hb dL_sees_267 rfl (lv_at hl 8 rfl) ?_
                        refine lv_iconst (v := (nI 2)) hx hb dL_sees_268 (by decide) ?_
                        refine lv_iconst (v := (nI 2)) hx hb dL_sees_269 (by decide) ?_
                        refine lv_iconst (v := (nI 0)) hx hb dL_sees_270 (by decide) ?_
                        refine lv_iconst (v := (nI 0)) hx hb dL_sees_271 (by decide) ?_
                        obtain ⟨hP, hD⟩ := sw_PD (L := []) (M := (fQ cy x a tr s0 s1 pa q σ ((hiN n) - 1) fl tx ln)) (T := (fQ cy x1 a1 t1 u1 v1 p1 r σ ((hiN n) - 1) fl tx ln)) hP hD
                        refine wr_callS (pre := (fQ cy x1 a1 t1 u1 v1 p1 r σ ((hiN n) - 1) fl tx ln)) (wc := fQ cy x a tr s0 s1 pa q σ ((hiN n) - 1) fl tx ln) (va_runS (As := [.ref (x 0), .int (nI 2), .int (nI 2), .int (nI 0), .int (nI 0)]) (rest := []) ⟨hx, hb, hml, hown, hts⟩ (c_L_call_2 l hfl g cy x a tr s0 s1 pa H.size bd q σ (hiH Hh n σ) ((hiN n) - 1) K fl tx ln (nI 2) (nI 0) (nI 0) hI ) ⟨(cB 5 hts wd9_11 wd5_14 wd9_9 rfl rfl (by decide +kernel) ⟨Nat.le_of_ble_eq_true rfl, Nat.le_of_ble_eq_true rfl⟩), hts _ wd9_10⟩ (ps2 (ws := (fQ cy x1 a1 t1 u1 v1 p1 r σ ((hiN n) - 1) fl tx ln) ++ fQ cy x a tr s0 s1 pa q σ ((hiN n) - 1) fl tx ln) hK hP hD hS hA hX hY _ nd_suffix at_suffix) rfl rfl hl.1 rfl (lv_room (Nat.le_of_ble_eq_true rfl)) dL_sees_272 ⟨by show _ ≤ 30; omega, by show _ ≤ 180; omega⟩) hP hD hS hA (fun _ => fQ_ad) (fun q H locs hI hP hD hS => ?_)
                        obtain ⟨hP, hD⟩ := sw_PD (L := []) (M := (fQ cy x1 a1 t1 u1 v1 p1 r σ ((hiN n) - 1) fl tx ln)) (T := (fQ cy x a tr s0 s1 pa q σ ((hiN n) - 1) fl tx ln)) hP hD
                        have hP : va_P g vwCl (fQ cy x a tr s0 s1 pa q σ ((hiN n) - 1) fl tx ln ++ fQ cy x1 a1 t1 u1 v1 p1 r σ ((hiN n) - 1) fl tx ln) H := hP
                        have hD : va_D A (fQ cy x a tr s0 s1 pa q σ ((hiN n) - 1) fl tx ln ++ fQ cy x1 a1 t1 u1 v1 p1 r σ ((hiN n) - 1) fl tx ln) := hD
                        refine ti (show an (fAbo (nI 2)) (nI (nbd σ (nI 2).toNatClampNeg)) = (nI (σ 1)) from (v_ab (w := 2) (by decide))) ?_
                        show W _ _ _ _ _ _ _ _ _ _ _ _ _ _ _ (F0 mX 275 ls [.int (nI (σ 1))])
                        refine lv_iload hx hb dL_sees_275 (lv_at hl 3 rfl) ?_
                        refine lv_icmp_ne (tgt := 305) hx hb dL_sees_277 (by decide) (fun c_277 => absurd rfl c_277) (fun _ => ?_)
                        refine lv_iload hx hb dL_sees_280 (lv_at hl 5 rfl) ?_
                        refine lv_iconst (v := (nI NN)) hx hb dL_sees_282 (by decide) ?_
                        refine lv_icmp_eq (tgt := 301) hx hb dL_sees_283 (by decide) (fun c_283 => ?_) (fun c_283 => ?_)
                        · have c_283 := (nc_eq9 (by omega) (by decide) c_283)
                          exact absurd c_283 hdn
                        · have c_283 := (nc_ne9 (by omega) (by decide) c_283)
                          refine lv_aload_n hx hb dL_sees_286 rfl (lv_at hl 8 rfl) ?_
                          refine lv_bipush (v := (nI 11)) hx hb dL_sees_287 (by decide) ?_
                          refine lv_iload hx hb dL_sees_289 (lv_at hl 5 rfl) ?_
                          refine lv_iconst (v := (nI 0)) hx hb dL_sees_291 (by decide) ?_
                          refine lv_iconst (v := (nI 0)) hx hb dL_sees_292 (by decide) ?_
                          obtain ⟨hP, hD⟩ := sw_PD (L := []) (M := (fQ cy x a tr s0 s1 pa q σ ((hiN n) - 1) fl tx ln)) (T := (fQ cy x1 a1 t1 u1 v1 p1 r σ ((hiN n) - 1) fl tx ln)) hP hD
                          refine wr_callS (pre := (fQ cy x1 a1 t1 u1 v1 p1 r σ ((hiN n) - 1) fl tx ln)) (wc := fQ cy x a tr s0 s1 pa q σ ((hiN n) - 1) fl tx ln) (va_runS (As := [.ref (x 0), .int (nI 11), .int (nI d), .int (nI 0), .int (nI 0)]) (rest := []) ⟨hx, hb, hml, hown, hts⟩ (c_L_call_11 l hfl g cy x a tr s0 s1 pa H.size bd q σ (hiH Hh n σ) ((hiN n) - 1) K fl tx ln (nI d) (nI 0) (nI 0) hI ) ⟨(cB 5 hts wd9_11 wd5_14 wd9_9 rfl rfl (by decide +kernel) ⟨Nat.le_of_ble_eq_true rfl, Nat.le_of_ble_eq_true rfl⟩), hts _ wd9_10⟩ (ps2 (ws := (fQ cy x1 a1 t1 u1 v1 p1 r σ ((hiN n) - 1) fl tx ln) ++ fQ cy x a tr s0 s1 pa q σ ((hiN n) - 1) fl tx ln) hK hP hD hS hA hX hY _ nd_suffix at_suffix) rfl rfl hl.1 rfl (lv_room (Nat.le_of_ble_eq_true rfl)) dL_sees_293 ⟨by show _ ≤ 30; omega, by show _ ≤ 180; omega⟩) hP hD hS hA (fun _ => fQ_ad) (fun q H locs hI hP hD hS => ?_)
                          obtain ⟨hP, hD⟩ := sw_PD (L := []) (M := (fQ cy x1 a1 t1 u1 v1 p1 r σ ((hiN n) - 1) fl tx ln)) (T := (fQ cy x a tr s0 s1 pa q σ ((hiN n) - 1) fl tx ln)) hP hD
                          have hP : va_P g vwCl (fQ cy x a tr s0 s1 pa q σ ((hiN n) - 1) fl tx ln ++ fQ cy x1 a1 t1 u1 v1 p1 r σ ((hiN n) - 1) fl tx ln) H := hP
                          have hD : va_D A (fQ cy x a tr s0 s1 pa q σ ((hiN n) - 1) fl tx ln ++ fQ cy x1 a1 t1 u1 v1 p1 r σ ((hiN n) - 1) fl tx ln) := hD
                          refine ti (show an (fAsk σ (nI d)) (nI (mk (cbe σ (nI d).toNatClampNeg) 12)) = (nI (mk (cbe σ d) 12)) from (v_cb hn0 sf3 sf2)) ?_
                          show W _ _ _ _ _ _ _ _ _ _ _ _ _ _ _ (F0 mX 296 ls [.int (nI (mk (cbe σ d) 12))])
                          refine lv_iload hx hb dL_sees_296 (lv_at hl 4 rfl) ?_
                          refine lv_icmp_ne (tgt := 305) hx hb dL_sees_298 (by decide) (fun c_298 => absurd rfl c_298) (fun _ => ?_)
                          refine lv_iconst (v := (nI 1)) hx hb dL_sees_301 (by decide) ?_
                          refine lv_goto (tgt := 306) hx hb dL_sees_302 (by decide) ?_
                          exact W.widen (by omega) (by omega) (wr_z (b := true) (q, r, (hiH Hh n σ), ((hiN n) - 1)) rfl rfl ⟨hI, hJ, INV_back hV hn14⟩ hP hS hx hb hr dL_sees_306 hlk)
              · have c_198 := (nz_eq c_198 (by omega))
                omega
          · skip
            refine lv_aload_n hx hb dL_sees_162 rfl (lv_at hl 7 rfl) ?_
            refine lv_iconst (v := (nI 4)) hx hb dL_sees_163 (by decide) ?_
            refine lv_iload hx hb dL_sees_164 (lv_at hl 2 rfl) ?_
            refine lv_bipush (v := (nI 7)) hx hb dL_sees_166 (by decide) ?_
            refine lv_iconst (v := (nI 0)) hx hb dL_sees_168 (by decide) ?_
            obtain ⟨hP, hD⟩ := sw_PD (L := []) (M := (fQ cy x a tr s0 s1 pa q (sightS σ (v % 8) ((v / 256) % 12) (v % 256) 0 1) (hiN n) fl tx ln)) (T := (fQ cy x1 a1 t1 u1 v1 p1 r (sightS σ (v % 8) ((v / 256) % 12) (v % 256) 0 1) (hiN n) fl tx ln)) hP hD
            refine wr_callS (pre := (fQ cy x1 a1 t1 u1 v1 p1 r (sightS σ (v % 8) ((v / 256) % 12) (v % 256) 0 1) (hiN n) fl tx ln)) (wc := fQ cy x a tr s0 s1 pa q (sightS σ (v % 8) ((v / 256) % 12) (v % 256) 0 1) (hiN n) fl tx ln) (va_runS (As := [.ref (x 0), .int (nI 4), .int (nI (σ 1)), .int (nI 7), .int (nI 0)]) (rest := []) ⟨hx, hb, hml, hown, hts⟩ (c_L_call_4 l hfl g cy x a tr s0 s1 pa H.size bd q (sightS σ (v % 8) ((v / 256) % 12) (v % 256) 0 1) (hiH Hh n σ) (hiN n) K fl tx ln (nI (σ 1)) (nI 7) (nI 0) hI ) ⟨(cB 5 hts wd9_11 wd5_14 wd9_9 rfl rfl (by decide +kernel) ⟨Nat.le_of_ble_eq_true rfl, Nat.le_of_ble_eq_true rfl⟩), hts _ wd9_10⟩ (ps2 (ws := (fQ cy x1 a1 t1 u1 v1 p1 r (sightS σ (v % 8) ((v / 256) % 12) (v % 256) 0 1) (hiN n) fl tx ln) ++ fQ cy x a tr s0 s1 pa q (sightS σ (v % 8) ((v / 256) % 12) (v % 256) 0 1) (hiN n) fl tx ln) hK hP hD hS hA hX hY _ nd_suffix at_suffix) rfl rfl hl.1 rfl (lv_room (Nat.le_of_ble_eq_true rfl)) dL_sees_169 ⟨by show _ ≤ 30; omega, by show _ ≤ 180; omega⟩) hP hD hS hA (fun _ => fQ_ad) (fun q H locs hI hP hD hS => ?_)
            obtain ⟨hP, hD⟩ := sw_PD (L := []) (M := (fQ cy x1 a1 t1 u1 v1 p1 r (sightS σ (v % 8) ((v / 256) % 12) (v % 256) 0 1) (hiN n) fl tx ln)) (T := (fQ cy x a tr s0 s1 pa q (sightS σ (v % 8) ((v / 256) % 12) (v % 256) 0 1) (hiN n) fl tx ln)) hP hD
            have hP : va_P g vwCl (fQ cy x a tr s0 s1 pa q (sightS σ (v % 8) ((v / 256) % 12) (v % 256) 0 1) (hiN n) fl tx ln ++ fQ cy x1 a1 t1 u1 v1 p1 r (sightS σ (v % 8) ((v / 256) % 12) (v % 256) 0 1) (hiN n) fl tx ln) H := hP
            have hD : va_D A (fQ cy x a tr s0 s1 pa q (sightS σ (v % 8) ((v / 256) % 12) (v % 256) 0 1) (hiN n) fl tx ln ++ fQ cy x1 a1 t1 u1 v1 p1 r (sightS σ (v % 8) ((v / 256) % 12) (v % 256) 0 1) (hiN n) fl tx ln) := hD
            refine ti (show an (fSig (sightS σ (v % 8) ((v / 256) % 12) (v % 256) 0 1) (nI (σ 1)) (nI 7)) (nI (nsg (sightS σ (v % 8) ((v / 256) % 12) (v % 256) 0 1) (nI (σ 1)).toNatClampNeg (nI 7).toNatClampNeg)) = (nI (if sg (sightS σ (v % 8) ((v / 256) % 12) (v % 256) 0 1) (σ 1) 5 = NN then NN else if tru (sightS σ (v % 8) ((v / 256) % 12) (v % 256) 0 1) (σ 1) then 1 else 0)) from (v_sg (w := 7) hWt.n1 (Nat.lt_succ_self _) (by decide))) ?_
            show W _ _ _ _ _ _ _ _ _ _ _ _ _ _ _ (F0 mX 172 ls [.int (nI (if sg (sightS σ (v % 8) ((v / 256) % 12) (v % 256) 0 1) (σ 1) 5 = NN then NN else if tru (sightS σ (v % 8) ((v / 256) % 12) (v % 256) 0 1) (σ 1) then 1 else 0))])
            refine ti (show (nI (if sg (sightS σ (v % 8) ((v / 256) % 12) (v % 256) 0 1) (σ 1) 5 = NN then NN else if tru (sightS σ (v % 8) ((v / 256) % 12) (v % 256) 0 1) (σ 1) then 1 else 0)) = (nI 0) from (by rw [if_neg (by rw [sf4]; exact hdn), if_neg tt])) ?_
            refine lv_istore (lv' := [(10, .int (nI 0)), (9, .int (nI (mk (cbe (sightS σ (v % 8) ((v / 256) % 12) (v % 256) 0 1) d) 12))), (8, .int (nI 1)), (7, .int (nI (σ 1))), (6, .int (nI (mk (cbe σ d) 12))), (5, .int (nI d)), (4, .int (nI ((v / 256) % 12))), (3, .int (nI (v % 256))), (0, .ref (x 0)), (1, .ref (x1 0)), (2, .int (nI v))]) hx hb dL_sees_172 hl (by decide) rfl (fun ls hl => ?_)
            refine lv_iload hx hb dL_sees_174 (lv_at hl 2 rfl) ?_
            refine lv_if_eq (tgt := 229) hx hb dL_sees_176 (by decide) (fun c9 => absurd c9 (by decide)) (fun _ => ?_)
            refine lv_aload_n hx hb dL_sees_179 rfl (lv_at hl 8 rfl) ?_
            refine lv_iconst (v := (nI 4)) hx hb dL_sees_180 (by decide) ?_
            refine lv_iload hx hb dL_sees_181 (lv_at hl 3 rfl) ?_
            refine lv_bipush (v := (nI 8)) hx hb dL_sees_183 (by decide) ?_
            refine lv_iconst (v := (nI 0)) hx hb dL_sees_185 (by decide) ?_
            obtain ⟨hP, hD⟩ := sw_PD (L := []) (M := (fQ cy x a tr s0 s1 pa q (sightS σ (v % 8) ((v / 256) % 12) (v % 256) 0 1) (hiN n) fl tx ln)) (T := (fQ cy x1 a1 t1 u1 v1 p1 r (sightS σ (v % 8) ((v / 256) % 12) (v % 256) 0 1) (hiN n) fl tx ln)) hP hD
            refine wr_callS (pre := (fQ cy x1 a1 t1 u1 v1 p1 r (sightS σ (v % 8) ((v / 256) % 12) (v % 256) 0 1) (hiN n) fl tx ln)) (wc := fQ cy x a tr s0 s1 pa q (sightS σ (v % 8) ((v / 256) % 12) (v % 256) 0 1) (hiN n) fl tx ln) (va_runS (As := [.ref (x 0), .int (nI 4), .int (nI (σ 1)), .int (nI 8), .int (nI 0)]) (rest := []) ⟨hx, hb, hml, hown, hts⟩ (c_L_call_4 l hfl g cy x a tr s0 s1 pa H.size bd q (sightS σ (v % 8) ((v / 256) % 12) (v % 256) 0 1) (hiH Hh n σ) (hiN n) K fl tx ln (nI (σ 1)) (nI 8) (nI 0) hI ) ⟨(cB 5 hts wd9_11 wd5_14 wd9_9 rfl rfl (by decide +kernel) ⟨Nat.le_of_ble_eq_true rfl, Nat.le_of_ble_eq_true rfl⟩), hts _ wd9_10⟩ (ps2 (ws := (fQ cy x1 a1 t1 u1 v1 p1 r (sightS σ (v % 8) ((v / 256) % 12) (v % 256) 0 1) (hiN n) fl tx ln) ++ fQ cy x a tr s0 s1 pa q (sightS σ (v % 8) ((v / 256) % 12) (v % 256) 0 1) (hiN n) fl tx ln) hK hP hD hS hA hX hY _ nd_suffix at_suffix) rfl rfl hl.1 rfl (lv_room (Nat.le_of_ble_eq_true rfl)) dL_sees_186 ⟨by show _ ≤ 30; omega, by show _ ≤ 180; omega⟩) hP hD hS hA (fun _ => fQ_ad) (fun q H locs hI hP hD hS => ?_)
            obtain ⟨hP, hD⟩ := sw_PD (L := []) (M := (fQ cy x1 a1 t1 u1 v1 p1 r (sightS σ (v % 8) ((v / 256) % 12) (v % 256) 0 1) (hiN n) fl tx ln)) (T := (fQ cy x a tr s0 s1 pa q (sightS σ (v % 8) ((v / 256) % 12) (v % 256) 0 1) (hiN n) fl tx ln)) hP hD
            have hP : va_P g vwCl (fQ cy x a tr s0 s1 pa q (sightS σ (v % 8) ((v / 256) % 12) (v % 256) 0 1) (hiN n) fl tx ln ++ fQ cy x1 a1 t1 u1 v1 p1 r (sightS σ (v % 8) ((v / 256) % 12) (v % 256) 0 1) (hiN n) fl tx ln) H := hP
            have hD : va_D A (fQ cy x a tr s0 s1 pa q (sightS σ (v % 8) ((v / 256) % 12) (v % 256) 0 1) (hiN n) fl tx ln ++ fQ cy x1 a1 t1 u1 v1 p1 r (sightS σ (v % 8) ((v / 256) % 12) (v % 256) 0 1) (hiN n) fl tx ln) := hD
            refine ti (show an (fSig (sightS σ (v % 8) ((v / 256) % 12) (v % 256) 0 1) (nI (σ 1)) (nI 8)) (nI (nsg (sightS σ (v % 8) ((v / 256) % 12) (v % 256) 0 1) (nI (σ 1)).toNatClampNeg (nI 8).toNatClampNeg)) = (nI (if frd (sightS σ (v % 8) ((v / 256) % 12) (v % 256) 0 1) (σ 1) then 1 else 0)) from (v_sg (w := 8) hWt.n1 (Nat.lt_succ_self _) (by decide))) ?_
            show W _ _ _ _ _ _ _ _ _ _ _ _ _ _ _ (F0 mX 189 ls [.int (nI (if frd (sightS σ (v % 8) ((v / 256) % 12) (v % 256) 0 1) (σ 1) then 1 else 0))])
            refine ti (show (nI (if frd (sightS σ (v % 8) ((v / 256) % 12) (v % 256) 0 1) (σ 1) then 1 else 0)) = (nI 1) from (by rw [sf1, Bool.eq_false_iff.mpr tt]; rfl)) ?_
            refine lv_iconst (v := (nI 1)) hx hb dL_sees_189 (by decide) ?_
            refine lv_iload hx hb dL_sees_190 (lv_at hl 0 rfl) ?_
            refine lv_isub hx hb dL_sees_192 ?_
            refine ti (pk_sub (a := 1) (b := 0) (by omega)) ?_
            refine lv_icmp_ne (tgt := 229) hx hb dL_sees_193 (by decide) (fun c_193 => ?_) (fun c_193 => ?_)
            · have c_193 := (nc_ne9 (by omega) (by omega) c_193)
              omega
            · have c_193 := (nc_eq9 (by omega) (by omega) c_193)
              refine lv_iload hx hb dL_sees_196 (lv_at hl 0 rfl) ?_
              refine lv_if_ne (tgt := 211) hx hb dL_sees_198 (by decide) (fun c_198 => ?_) (fun c_198 => ?_)
              · have c_198 := (nz_ne c_198 (by omega))
                omega
              · have c_198 := (nz_eq c_198 (by omega))
                refine lv_iload hx hb dL_sees_201 (lv_at hl 1 rfl) ?_
                refine ti (show (nI (mk (cbe (sightS σ (v % 8) ((v / 256) % 12) (v % 256) 0 1) d) 12)) = (nI (mk (cbe σ d) 12)) from (congrArg nI (see_0 hW hd9 hdn (by simpa using tt)))) ?_
                refine lv_iload hx hb dL_sees_203 (lv_at hl 4 rfl) ?_
                refine lv_icmp_ne (tgt := 229) hx hb dL_sees_205 (by decide) (fun c_205 => absurd rfl c_205) (fun _ => ?_)
                refine lv_goto (tgt := 225) hx hb dL_sees_208 (by decide) ?_
                refine lv_iconst (v := (nI 1)) hx hb dL_sees_225 (by decide) ?_
                refine lv_goto (tgt := 230) hx hb dL_sees_226 (by decide) ?_
                refine lv_istore (lv' := [(8, .int (nI 1)), (10, .int (nI 0)), (9, .int (nI (mk (cbe (sightS σ (v % 8) ((v / 256) % 12) (v % 256) 0 1) d) 12))), (7, .int (nI (σ 1))), (6, .int (nI (mk (cbe σ d) 12))), (5, .int (nI d)), (4, .int (nI ((v / 256) % 12))), (3, .int (nI (v % 256))), (0, .ref (x 0)), (1, .ref (x1 0)), (2, .int (nI v))]) hx hb dL_sees_230 hl (by decide) rfl (fun ls hl => ?_)
                refine lv_iload hx hb dL_sees_232 (lv_at hl 0 rfl) ?_
                refine lv_if_eq (tgt := 305) hx hb dL_sees_234 (by decide) (fun c9 => absurd c9 (by decide)) (fun _ => ?_)
                refine lv_aload_n hx hb dL_sees_237 rfl (lv_at hl 8 rfl) ?_
                refine lv_bipush (v := (nI 10)) hx hb dL_sees_238 (by decide) ?_
                refine lv_iconst (v := (nI 0)) hx hb dL_sees_240 (by decide) ?_
                refine lv_iconst (v := (nI 0)) hx hb dL_sees_241 (by decide) ?_
                refine lv_iconst (v := (nI 0)) hx hb dL_sees_242 (by decide) ?_
                obtain ⟨hP, hD⟩ := sw_PD (L := []) (M := (fQ cy x a tr s0 s1 pa q (sightS σ (v % 8) ((v / 256) % 12) (v % 256) 0 1) (hiN n) fl tx ln)) (T := (fQ cy x1 a1 t1 u1 v1 p1 r (sightS σ (v % 8) ((v / 256) % 12) (v % 256) 0 1) (hiN n) fl tx ln)) hP hD
                refine wr_callS (pre := (fQ cy x1 a1 t1 u1 v1 p1 r (sightS σ (v % 8) ((v / 256) % 12) (v % 256) 0 1) (hiN n) fl tx ln)) (wc := fQ cy x a tr s0 s1 pa q (sightS σ (v % 8) ((v / 256) % 12) (v % 256) 0 1) (hiN n) fl tx ln) (va_runS (As := [.ref (x 0), .int (nI 10), .int (nI 0), .int (nI 0), .int (nI 0)]) (rest := []) ⟨hx, hb, hml, hown, hts⟩ (c_L_call_10 l hfl g cy x a tr s0 s1 pa H.size bd q (sightS σ (v % 8) ((v / 256) % 12) (v % 256) 0 1) (hiH Hh n σ) (hiN n) K fl tx ln (nI 0) (nI 0) (nI 0) hI ) ⟨(cB 5 hts wd9_11 wd5_14 wd9_9 rfl rfl (by decide +kernel) ⟨Nat.le_of_ble_eq_true rfl, Nat.le_of_ble_eq_true rfl⟩), hts _ wd9_10⟩ (ps2 (ws := (fQ cy x1 a1 t1 u1 v1 p1 r (sightS σ (v % 8) ((v / 256) % 12) (v % 256) 0 1) (hiN n) fl tx ln) ++ fQ cy x a tr s0 s1 pa q (sightS σ (v % 8) ((v / 256) % 12) (v % 256) 0 1) (hiN n) fl tx ln) hK hP hD hS hA hX hY _ nd_suffix at_suffix) rfl rfl hl.1 rfl (lv_room (Nat.le_of_ble_eq_true rfl)) dL_sees_243 ⟨by show _ ≤ 30; omega, by show _ ≤ 180; omega⟩) hP hD hS hA (fun _ => fQ_ad) (fun q H locs hI hP hD hS => ?_)
                have h9 : fUnd (hiN n) = 0 := (if_neg (by omega))
                simp only [if_pos h9] at hI hP hD
                rw [show (hiH Hh n σ) ((hiN n) - 1) = σ from (hiH_top hn14)] at hI hP hD
                obtain ⟨hP, hD⟩ := sw_PD (L := []) (M := (fQ cy x1 a1 t1 u1 v1 p1 r (sightS σ (v % 8) ((v / 256) % 12) (v % 256) 0 1) (hiN n) fl tx ln)) (T := (fQ cy x a tr s0 s1 pa q σ ((hiN n) - 1) fl tx ln)) hP hD
                have hP : va_P g vwCl (fQ cy x a tr s0 s1 pa q σ ((hiN n) - 1) fl tx ln ++ fQ cy x1 a1 t1 u1 v1 p1 r (sightS σ (v % 8) ((v / 256) % 12) (v % 256) 0 1) (hiN n) fl tx ln) H := hP
                have hD : va_D A (fQ cy x a tr s0 s1 pa q σ ((hiN n) - 1) fl tx ln ++ fQ cy x1 a1 t1 u1 v1 p1 r (sightS σ (v % 8) ((v / 256) % 12) (v % 256) 0 1) (hiN n) fl tx ln) := hD
                refine ti (show an (fUnd (hiN n)) (nI ((hiN n) - 1)) = (nI ((hiN n) - 1)) from (an_0 h9)) ?_
                show W _ _ _ _ _ _ _ _ _ _ _ _ _ _ _ (F0 mX 246 ls [.int (nI ((hiN n) - 1))])
                refine rd_call (va_runS (As := [.int (nI ((hiN n) - 1))]) (rest := []) ⟨hx, hb, hml, hown, hts⟩ (c_L_thrown l (nI ((hiN n) - 1)) ) ⟨(cB 1 hts wd30_0 wd5_14 wd29_22 rfl rfl (by decide +kernel) ⟨Nat.le_of_ble_eq_true rfl, Nat.le_of_ble_eq_true rfl⟩), hts _ wd29_23⟩ p0 rfl rfl hl.1 rfl (lv_room (Nat.le_of_ble_eq_true rfl)) dL_sees_246 ⟨by show _ ≤ 30; omega, by show _ ≤ 180; omega⟩) ?_
                refine ti (show bI (thB (nI ((hiN n) - 1))) = bI false from congrArg bI (thB_n (by omega))) ?_
                show W _ _ _ _ _ _ _ _ _ _ _ _ _ _ _ (F0 mX 249 ls [.int (bI false)])
                refine lv_if_ne (tgt := 305) hx hb dL_sees_249 (by decide) (fun c_249 => ?_) (fun c_249 => ?_)
                · have c_249 := (bI_ne0.mp c_249)
                  exact absurd c_249 Bool.false_ne_true
                · have c_249 := (bI_eq0.mp c_249)
                  refine lv_aload_n hx hb dL_sees_252 rfl (lv_at hl 9 rfl) ?_
                  refine lv_bipush (v := (nI 10)) hx hb dL_sees_253 (by decide) ?_
                  refine lv_iconst (v := (nI 0)) hx hb dL_sees_255 (by decide) ?_
                  refine lv_iconst (v := (nI 0)) hx hb dL_sees_256 (by decide) ?_
                  refine lv_iconst (v := (nI 0)) hx hb dL_sees_257 (by decide) ?_
                  refine wr_callS (pre := (fQ cy x a tr s0 s1 pa q σ ((hiN n) - 1) fl tx ln)) (wc := fQ cy x1 a1 t1 u1 v1 p1 r (sightS σ (v % 8) ((v / 256) % 12) (v % 256) 0 1) (hiN n) fl tx ln) (va_runS (As := [.ref (x1 0), .int (nI 10), .int (nI 0), .int (nI 0), .int (nI 0)]) (rest := []) ⟨hx, hb, hml, hown, hts⟩ (c_L_call_10 l hfl g cy x1 a1 t1 u1 v1 p1 H.size bd r (sightS σ (v % 8) ((v / 256) % 12) (v % 256) 0 1) (hiH Hh n σ) (hiN n) K fl tx ln (nI 0) (nI 0) (nI 0) hJ ) ⟨(cB 5 hts wd9_11 wd5_14 wd9_9 rfl rfl (by decide +kernel) ⟨Nat.le_of_ble_eq_true rfl, Nat.le_of_ble_eq_true rfl⟩), hts _ wd9_10⟩ (ps2 (ws := (fQ cy x a tr s0 s1 pa q σ ((hiN n) - 1) fl tx ln) ++ fQ cy x1 a1 t1 u1 v1 p1 r (sightS σ (v % 8) ((v / 256) % 12) (v % 256) 0 1) (hiN n) fl tx ln) hK hP hD hS hA hX hY _ nd_suffix at_suffix) rfl rfl hl.1 rfl (lv_room (Nat.le_of_ble_eq_true rfl)) dL_sees_258 ⟨by show _ ≤ 30; omega, by show _ ≤ 180; omega⟩) hP hD hS hA (fun _ => fQ_ad) (fun r H locs hJ hP hD hS => ?_)
                  have h9 : fUnd (hiN n) = 0 := (if_neg (by omega))
                  simp only [if_pos h9] at hJ hP hD
                  rw [show (hiH Hh n σ) ((hiN n) - 1) = σ from (hiH_top hn14)] at hJ hP hD
                  have hP : va_P g vwCl (fQ cy x a tr s0 s1 pa q σ ((hiN n) - 1) fl tx ln ++ fQ cy x1 a1 t1 u1 v1 p1 r σ ((hiN n) - 1) fl tx ln) H := hP
                  have hD : va_D A (fQ cy x a tr s0 s1 pa q σ ((hiN n) - 1) fl tx ln ++ fQ cy x1 a1 t1 u1 v1 p1 r σ ((hiN n) - 1) fl tx ln) := hD
                  refine ti (show an (fUnd (hiN n)) (nI ((hiN n) - 1)) = (nI ((hiN n) - 1)) from (an_0 h9)) ?_
                  show W _ _ _ _ _ _ _ _ _ _ _ _ _ _ _ (F0 mX 261 ls [.int (nI ((hiN n) - 1))])
                  refine rd_call (va_runS (As := [.int (nI ((hiN n) - 1))]) (rest := []) ⟨hx, hb, hml, hown, hts⟩ (c_L_thrown l (nI ((hiN n) - 1)) ) ⟨(cB 1 hts wd30_0 wd5_14 wd29_22 rfl rfl (by decide +kernel) ⟨Nat.le_of_ble_eq_true rfl, Nat.le_of_ble_eq_true rfl⟩), hts _ wd29_23⟩ p0 rfl rfl hl.1 rfl (lv_room (Nat.le_of_ble_eq_true rfl)) dL_sees_261 ⟨by show _ ≤ 30; omega, by show _ ≤ 180; omega⟩) ?_
                  refine ti (show bI (thB (nI ((hiN n) - 1))) = bI false from congrArg bI (thB_n (by omega))) ?_
                  show W _ _ _ _ _ _ _ _ _ _ _ _ _ _ _ (F0 mX 264 ls [.int (bI false)])
                  refine lv_if_ne (tgt := 305) hx hb dL_sees_264 (by decide) (fun c_264 => ?_) (fun c_264 => ?_)
                  · have c_264 := (bI_ne0.mp c_264)
                    exact absurd c_264 Bool.false_ne_true
                  · have c_264 := (bI_eq0.mp c_264)
                    refine lv_aload_n hx hb dL_sees_267 rfl (lv_at hl 8 rfl) ?_
                    refine lv_iconst (v := (nI 2)) hx hb dL_sees_268 (by decide) ?_
                    refine lv_iconst (v := (nI 2)) hx hb dL_sees_269 (by decide) ?_
                    refine lv_iconst (v := (nI 0)) hx hb dL_sees_270 (by decide) ?_
                    refine lv_iconst (v := (nI 0)) hx hb dL_sees_271 (by decide) ?_
                    obtain ⟨hP, hD⟩ := sw_PD (L := []) (M := (fQ cy x a tr s0 s1 pa q σ ((hiN n) - 1) fl tx ln)) (T := (fQ cy x1 a1 t1 u1 v1 p1 r σ ((hiN n) - 1) fl tx ln)) hP hD
                    refine wr_callS (pre := (fQ cy x1 a1 t1 u1 v1 p1 r σ ((hiN n) - 1) fl tx ln)) (wc := fQ cy x a tr s0 s1 pa q σ ((hiN n) - 1) fl tx ln) (va_runS (As := [.ref (x 0), .int (nI 2), .int (nI 2), .int (nI 0), .int (nI 0)]) (rest := []) ⟨hx, hb, hml, hown, hts⟩ (c_L_call_2 l hfl g cy x a tr s0 s1 pa H.size bd q σ (hiH Hh n σ) ((hiN n) - 1) K fl tx ln (nI 2) (nI 0) (nI 0) hI ) ⟨(cB 5 hts wd9_11 wd5_14 wd9_9 rfl rfl (by decide +kernel) ⟨Nat.le_of_ble_eq_true rfl, Nat.le_of_ble_eq_true rfl⟩), hts _ wd9_10⟩ (ps2 (ws := (fQ cy x1 a1 t1 u1 v1 p1 r σ ((hiN n) - 1) fl tx ln) ++ fQ cy x a tr s0 s1 pa q σ ((hiN n) - 1) fl tx ln) hK hP hD hS hA hX hY _ nd_suffix at_suffix) rfl rfl hl.1 rfl (lv_room (Nat.le_of_ble_eq_true rfl)) dL_sees_272 ⟨by show _ ≤ 30; omega, by show _ ≤ 180; omega⟩) hP hD hS hA (fun _ => fQ_ad) (fun q H locs hI hP hD hS => ?_)
                    obtain ⟨hP, hD⟩ := sw_PD (L := []) (M := (fQ cy x1 a1 t1 u1 v1 p1 r σ ((hiN n) - 1) fl tx ln)) (T := (fQ cy x a tr s0 s1 pa q σ ((hiN n) - 1) fl tx ln)) hP hD
                    have hP : va_P g vwCl (fQ cy x a tr s0 s1 pa q σ ((hiN n) - 1) fl tx ln ++ fQ cy x1 a1 t1 u1 v1 p1 r σ ((hiN n) - 1) fl tx ln) H := hP
                    have hD : va_D A (fQ cy x a tr s0 s1 pa q σ ((hiN n) - 1) fl tx ln ++ fQ cy x1 a1 t1 u1 v1 p1 r σ ((hiN n) - 1) fl tx ln) := hD
                    refine ti (show an (fAbo (nI 2)) (nI (nbd σ (nI 2).toNatClampNeg)) = (nI (σ 1)) from (v_ab (w := 2) (by decide))) ?_
                    show W _ _ _ _ _ _ _ _ _ _ _ _ _ _ _ (F0 mX 275 ls [.int (nI (σ 1))])
                    refine lv_iload hx hb dL_sees_275 (lv_at hl 3 rfl) ?_
                    refine lv_icmp_ne (tgt := 305) hx hb dL_sees_277 (by decide) (fun c_277 => absurd rfl c_277) (fun _ => ?_)
                    refine lv_iload hx hb dL_sees_280 (lv_at hl 5 rfl) ?_
                    refine lv_iconst (v := (nI NN)) hx hb dL_sees_282 (by decide) ?_
                    refine lv_icmp_eq (tgt := 301) hx hb dL_sees_283 (by decide) (fun c_283 => ?_) (fun c_283 => ?_)
                    · have c_283 := (nc_eq9 (by omega) (by decide) c_283)
                      exact absurd c_283 hdn
                    · have c_283 := (nc_ne9 (by omega) (by decide) c_283)
                      refine lv_aload_n hx hb dL_sees_286 rfl (lv_at hl 8 rfl) ?_
                      refine lv_bipush (v := (nI 11)) hx hb dL_sees_287 (by decide) ?_
                      refine lv_iload hx hb dL_sees_289 (lv_at hl 5 rfl) ?_
                      refine lv_iconst (v := (nI 0)) hx hb dL_sees_291 (by decide) ?_
                      refine lv_iconst (v := (nI 0)) hx hb dL_sees_292 (by decide) ?_
                      obtain ⟨hP, hD⟩ := sw_PD (L := []) (M := (fQ cy x a tr s0 s1 pa q σ ((hiN n) - 1) fl tx ln)) (T := (fQ cy x1 a1 t1 u1 v1 p1 r σ ((hiN n) - 1) fl tx ln)) hP hD
                      refine wr_callS (pre := (fQ cy x1 a1 t1 u1 v1 p1 r σ ((hiN n) - 1) fl tx ln)) (wc := fQ cy x a tr s0 s1 pa q σ ((hiN n) - 1) fl tx ln) (va_runS (As := [.ref (x 0), .int (nI 11), .int (nI d), .int (nI 0), .int (nI 0)]) (rest := []) ⟨hx, hb, hml, hown, hts⟩ (c_L_call_11 l hfl g cy x a tr s0 s1 pa H.size bd q σ (hiH Hh n σ) ((hiN n) - 1) K fl tx ln (nI d) (nI 0) (nI 0) hI ) ⟨(cB 5 hts wd9_11 wd5_14 wd9_9 rfl rfl (by decide +kernel) ⟨Nat.le_of_ble_eq_true rfl, Nat.le_of_ble_eq_true rfl⟩), hts _ wd9_10⟩ (ps2 (ws := (fQ cy x1 a1 t1 u1 v1 p1 r σ ((hiN n) - 1) fl tx ln) ++ fQ cy x a tr s0 s1 pa q σ ((hiN n) - 1) fl tx ln) hK hP hD hS hA hX hY _ nd_suffix at_suffix) rfl rfl hl.1 rfl (lv_room (Nat.le_of_ble_eq_true rfl)) dL_sees_293 ⟨by show _ ≤ 30; omega, by show _ ≤ 180; omega⟩) hP hD hS hA (fun _ => fQ_ad) (fun q H locs hI hP hD hS => ?_)
                      obtain ⟨hP, hD⟩ := sw_PD (L := []) (M := (fQ cy x1 a1 t1 u1 v1 p1 r σ ((hiN n) - 1) fl tx ln)) (T := (fQ cy x a tr s0 s1 pa q σ ((hiN n) - 1) fl tx ln)) hP hD
                      have hP : va_P g vwCl (fQ cy x a tr s0 s1 pa q σ ((hiN n) - 1) fl tx ln ++ fQ cy x1 a1 t1 u1 v1 p1 r σ ((hiN n) - 1) fl tx ln) H := hP
                      have hD : va_D A (fQ cy x a tr s0 s1 pa q σ ((hiN n) - 1) fl tx ln ++ fQ cy x1 a1 t1 u1 v1 p1 r σ ((hiN n) - 1) fl tx ln) := hD
                      refine ti (show an (fAsk σ (nI d)) (nI (mk (cbe σ (nI d).toNatClampNeg) 12)) = (nI (mk (cbe σ d) 12)) from (v_cb hn0 sf3 sf2)) ?_
                      show W _ _ _ _ _ _ _ _ _ _ _ _ _ _ _ (F0 mX 296 ls [.int (nI (mk (cbe σ d) 12))])
                      refine lv_iload hx hb dL_sees_296 (lv_at hl 4 rfl) ?_
                      refine lv_icmp_ne (tgt := 305) hx hb dL_sees_298 (by decide) (fun c_298 => absurd rfl c_298) (fun _ => ?_)
                      refine lv_iconst (v := (nI 1)) hx hb dL_sees_301 (by decide) ?_
                      refine lv_goto (tgt := 306) hx hb dL_sees_302 (by decide) ?_
                      exact W.widen (by omega) (by omega) (wr_z (b := true) (q, r, (hiH Hh n σ), ((hiN n) - 1)) rfl rfl ⟨hI, hJ, INV_back hV hn14⟩ hP hS hx hb hr dL_sees_306 hlk)
      · have c_45 := (nc_eq9 (by omega) (by decide) c_45)
        exact absurd c_45 hdn
  · have c_10 := (nc_eq9 (by omega) (by omega) c_10)
    refine lv_iconst (v := (nI 1)) hx hb dL_sees_13 (by decide) ?_
    exact W.widen (by omega) (by omega) (wr_z (b := true) (q, r, Hh, n) rfl rfl ⟨hI, hJ, hV⟩ hP hS hx hb hr dL_sees_14 hlk)
